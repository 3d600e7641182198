/-! THE REFERENCE over the typed memory: the settings -/
def stO (σ : zS) : Prop := (1 ≤ σ 160 1 ∧ σ 160 1 ≤ 99) ∧ (1 ≤ σ 160 2 ∧ σ 160 2 ≤ 12)
def frS (σ s : zS) : Prop := ∀ a j, a ≠ 160 → (a ≠ 143 ∨ (j ≠ 21 ∧ j ≠ 22 ∧ j ≠ 23)) → s a j = σ a j
theorem frS.of {σ s : zS} (h : fr3 σ s) : frS σ s := fun a j _ k => h a j k
theorem frS.trans {σ s t : zS} (h1 : frS σ s) (h2 : frS s t) : frS σ t := fun a j k1 k2 => (h2 a j k1 k2).trans (h1 a j k1 k2)
theorem frS.refl (σ : zS) : frS σ σ := fun _ _ _ _ => rfl
theorem stO_3 {σ s : zS} (h : stO σ) (f : fr3 σ s) : stO s := by
  unfold stO at *
  rw [f 160 1 (by omega), f 160 2 (by omega)]
  exact h
theorem pO_60 {σ : zS} {a : Nat} {i v : Int} (ha : a ≠ 143) : pO σ (zu σ a i v) 1 := by
  unfold pO
  rw [zu_a (Ne.symm ha), zu_a (Ne.symm ha), zu_a (Ne.symm ha)]
  omega
theorem s_set119 {x : Int} {σ : zS} (hx : 0 ≤ x ∧ x < 7) : g_m_isSetting_L119 x σ = some (1, zu σ 160 x (σ 143 23)) := by
  unfold g_m_isSetting_L119
  exact if_pos hx
theorem s_set111 {x hi lo w : Int} {σ : zS} (h : pI σ) (hw : w ≤ 100) (hx : 0 ≤ x ∧ x < 7) (h1 : x = 1 → 1 ≤ lo ∧ hi ≤ 99) (h2 : x = 2 → 1 ≤ lo ∧ hi ≤ 12) : ∃ b s, g_m_isSetting_L111 x hi lo w σ = some (b, s) ∧ pO σ s b ∧ frS σ s ∧ (stO σ → stO s) := by
  unfold g_m_isSetting_L111
  obtain ⟨b, s, e1, e2, e3, e4⟩ := s_number (w := w) (lo := lo) (hi := hi) h hw
  rw [e1]
  rw [Option.bind_some]
  try dsimp only
  by_cases cb : b ≠ 0
  · have hb : b = 1 := by
      unfold pO at e2
      omega
    subst hb
    rw [if_pos cb, s_set119 hx]
    obtain ⟨q1, q2⟩ := e4 rfl
    refine ⟨1, _, rfl, pO_trans e2 (pO_60 (by decide)), (frS.of e3).trans (fun a j k1 _ => zu_a k1), fun hs => ?_⟩
    have hs2 := stO_3 hs e3
    unfold stO at *
    refine ⟨?_, ?_⟩
    · by_cases c : (1 : Int) = x
      · rw [zu_e c]
        have := h1 c.symm
        omega
      · rw [zu_i c]; exact hs2.1
    · by_cases c : (2 : Int) = x
      · rw [zu_e c]
        have := h2 c.symm
        omega
      · rw [zu_i c]; exact hs2.2
  · have hb : b = 0 := by omega
    subst hb
    rw [if_neg cb]
    exact ⟨0, s, rfl, e2, frS.of e3, fun hs => stO_3 hs e3⟩
theorem s_set75 {x w : Int} {σ : zS} (h : pI σ) (hw : w ≤ 100) (hx : 0 ≤ x ∧ x < 7) : ∃ b s, g_m_isSetting_L75 x w σ = some (b, s) ∧ pO σ s b ∧ frS σ s ∧ (stO σ → stO s) := by
  have go : ∀ lo : Int, (x = 1 → lo = 1) → (x = 2 → lo = 1) → ∃ b s, g_m_isSetting_L84 x lo w σ = some (b, s) ∧ pO σ s b ∧ frS σ s ∧ (stO σ → stO s) := by
    intro lo hl1 hl2
    unfold g_m_isSetting_L84 g_m_isSetting_L93
    by_cases c0 : x = 0
    · rw [if_pos c0]; exact s_set111 h hw hx (fun e => by omega) (fun e => by omega)
    · rw [if_neg c0]
      by_cases c1 : x ≠ 1
      · rw [if_pos c1]
        by_cases c2 : x ≠ 2
        · rw [if_pos c2]; exact s_set111 h hw hx (fun e => absurd e c1) (fun e => absurd e c2)
        · rw [if_neg c2]; exact s_set111 h hw hx (fun e => absurd e c1) (fun e => ⟨by rw [hl2 e]; omega, by omega⟩)
      · rw [if_neg c1]; exact s_set111 h hw hx (fun e => ⟨by rw [hl1 e]; omega, by omega⟩) (fun e => by omega)
  unfold g_m_isSetting_L75
  by_cases c : x ≠ 0
  · rw [if_pos c]; exact go 1 (fun _ => rfl) (fun _ => rfl)
  · rw [if_neg c]; exact go 0 (fun e => by omega) (fun e => by omega)
theorem s_set48 {x : Int} {a : Nat} {σ : zS} (h : pI σ) (hx : 3 ≤ x ∧ x < 7) (hw : ∃ v s, g_m_word a σ = some (v, s) ∧ fr3 σ s ∧ pO σ s (if v < 0 then 0 else 1)) : ∃ b s, g_m_isSetting_L48 x a σ = some (b, s) ∧ pO σ s b ∧ frS σ s ∧ (stO σ → stO s) := by
  obtain ⟨v, s, e1, e2, e3⟩ := hw
  unfold g_m_isSetting_L48
  rw [e1]
  rw [Option.bind_some]
  try dsimp only
  rw [zu_e (σ := s) (a := 143) (i := 23) (j := 23) rfl]
  have f1 : fr3 σ (zu s 143 23 v) := e2.trans (fr3.u (by omega))
  by_cases c : 0 ≤ v
  · rw [if_pos c, s_set119 (by omega)]
    rw [if_neg (by omega)] at e3
    refine ⟨1, _, rfl, pO_trans (pO_trans e3 pO_u) (pO_60 (by decide)), (frS.of f1).trans (fun a j k1 _ => zu_a k1), fun hs => ?_⟩
    have hs2 := stO_3 hs f1
    unfold stO at *
    rw [zu_i (a := 160) (j := 1) (by omega), zu_i (a := 160) (j := 2) (by omega)]
    exact hs2
  · rw [if_neg c]
    rw [if_pos (by omega)] at e3
    refine ⟨0, _, rfl, ?_, frS.of f1, fun hs => stO_3 hs f1⟩
    unfold pO at *
    rw [zu_i (by omega), zu_i (by omega), zu_i (by omega)]
    exact e3
theorem pI_160 {σ s : zS} {b : Int} (h : pI σ) (h5 : σ 143 21 ≤ 160) (o : pO σ s b) : pI s ∧ s 143 21 ≤ 160 := by
  unfold pI pO at *
  omega
/-- a sign that is read takes the place on -/
theorem s_isSign1 {x : Int} {σ : zS} (h : pI σ) (hx : x ≠ -1) : ∃ b s, g_m_isSign x σ = some (b, s) ∧ pO σ s b ∧ fr3 σ s ∧ (b = 1 → s 143 21 = σ 143 21 + 1) := by
  unfold g_m_isSign
  rw [s_here h]
  rw [Option.bind_some]
  try dsimp only
  by_cases c : hereC σ = x
  · obtain ⟨q1, q2, q3⟩ := pO_s h (hereC_lt c hx)
    rw [if_pos c, q1]
    exact ⟨1, _, rfl, q3, fr3.u (by omega), fun _ => zu_e rfl⟩
  · rw [if_neg c]
    obtain ⟨s, e1, e2, e3⟩ := s_failsO h
    rw [e1]
    rw [Option.bind_some]
    try dsimp only
    rw [if_pos (Or.inl rfl)]
    exact ⟨0, s, rfl, e2, e3, fun hh => absurd hh (by decide)⟩
theorem s_isSetting {σ : zS} (h : pI σ) (h5 : σ 143 21 ≤ 160) : ∃ b s, g_m_isSetting σ = some (b, s) ∧ pO σ s b ∧ frS σ s ∧ (stO σ → stO s) ∧ (b = 1 → σ 143 21 + 1 ≤ s 143 21) := by
  unfold g_m_isSetting
  obtain ⟨v, s1, e1, e2, e3, e4, e5⟩ := s_word11 h h5
  rw [e1]
  rw [Option.bind_some]
  try dsimp only
  by_cases c : v < 0
  · rw [if_pos c]
    rw [if_pos c] at e3
    exact ⟨0, s1, rfl, e3, frS.of e2, fun hs => stO_3 hs e2, fun hh => absurd hh (by decide)⟩
  · rw [if_neg c]
    rw [if_neg c] at e3
    obtain ⟨p1, p2⟩ := pI_160 h h5 e3
    obtain ⟨b, s2, g1, g2, g3, g4⟩ := s_isSign1 (x := 32) p1 (by decide)
    rw [g1]
    rw [Option.bind_some]
    try dsimp only
    have f2 : fr3 σ s2 := e2.trans g3
    by_cases cb : b ≠ 0
    · have hb : b = 1 := by
        unfold pO at g2
        omega
      subst hb
      have g5 := g4 rfl
      obtain ⟨p3, p4⟩ := pI_160 p1 p2 g2
      have fin : ∀ b s, pO s2 s b → frS s2 s → (stO s2 → stO s) → pO σ s b ∧ frS σ s ∧ (stO σ → stO s) ∧ (b = 1 → σ 143 21 + 1 ≤ s 143 21) := by
        intro b s k1 k2 k3
        refine ⟨pO_trans (pO_trans e3 g2) k1, (frS.of f2).trans k2, fun hs => k3 (stO_3 hs f2), fun _ => ?_⟩
        unfold pO at e3 k1
        omega
      rw [if_pos cb]
      by_cases c3 : 3 ≤ v ∧ v ≤ 5
      · rw [s_isIn_t c3.1 c3.2]
        rw [Option.bind_some]
        try dsimp only
        rw [if_neg (by decide)]
        by_cases c4 : v ≠ 3
        · rw [if_pos c4]
          obtain ⟨b, s, k1, k2, k3, k4⟩ := s_set48 (x := v) (a := 13) p3 (by omega) (s_word13 p3 p4)
          exact ⟨b, s, k1, fin b s k2 k3 k4⟩
        · rw [if_neg c4]
          obtain ⟨b, s, k1, k2, k3, k4⟩ := s_set48 (x := v) (a := 12) p3 (by omega) (s_word12 p3 p4)
          exact ⟨b, s, k1, fin b s k2 k3 k4⟩
      · rw [s_isIn_f (by omega)]
        rw [Option.bind_some]
        try dsimp only
        rw [if_pos (by decide)]
        by_cases c4 : v ≠ 6
        · rw [if_pos c4]
          obtain ⟨b, s, k1, k2, k3, k4⟩ := s_set75 (x := v) (w := 2) p3 (by omega) (by omega)
          exact ⟨b, s, k1, fin b s k2 k3 k4⟩
        · rw [if_neg c4]
          obtain ⟨b, s, k1, k2, k3, k4⟩ := s_set75 (x := v) (w := 4) p3 (by omega) (by omega)
          exact ⟨b, s, k1, fin b s k2 k3 k4⟩
    · have hb : b = 0 := by omega
      subst hb
      rw [if_neg cb]
      exact ⟨0, s2, rfl, pO_trans e3 g2, frS.of f2, fun hs => stO_3 hs f2, fun hh => absurd hh (by decide)⟩

/-- what a line read from the tape leaves as it was, and the tape empty -/
def frT (σ s : zS) : Prop := ∀ a j, (a < 143 ∨ 168 ≤ a ∨ a = 159 ∨ a = 166 ∨ a = 167) → s a j = σ a j
/-- the same, and more: the settings aside, the rows, the trace, the watches, the image -/
def frT2 (σ s : zS) : Prop := ∀ a j, (a < 143 ∨ 168 ≤ a ∨ a = 159 ∨ a = 166 ∨ a = 167 ∨ a = 145 ∨ a = 148 ∨ (a = 144 ∧ ((8 ≤ j ∧ j < 11) ∨ (18 ≤ j ∧ j < 340))) ∨ (a = 147 ∧ 1 ≤ j ∧ j < 121) ∨ (a = 143 ∧ j = 6)) → s a j = σ a j
theorem frT2.t {σ s : zS} (h : frT2 σ s) : frT σ s := fun a j k => h a j (by omega)
/-- the same, the settings too, but not THE FIND -/
def frT3 (σ s : zS) : Prop := ∀ a j, (a < 143 ∨ 168 ≤ a ∨ a = 159 ∨ a = 166 ∨ a = 167 ∨ a = 145 ∨ a = 148 ∨ (a = 144 ∧ ((9 ≤ j ∧ j < 200) ∨ (260 ≤ j ∧ j < 340))) ∨ (a = 147 ∧ 1 ≤ j ∧ j < 61) ∨ (a = 143 ∧ j = 6)) → s a j = σ a j
theorem frT3.t {σ s : zS} (h : frT3 σ s) : frT σ s := fun a j k => h a j (by omega)
theorem s_set105 {σ0 : zS} {x : Int} (h : MI σ0) : ∀ (d k n : Nat) (s : zS), k + d = 7 → d < n → (∀ a j, a ≠ 160 → (a ≠ 143 ∨ (j ≠ 20 ∧ j ≠ 21 ∧ j ≠ 22 ∧ j ≠ 23)) → (a ≠ 144 ∨ j < 11 ∨ 18 ≤ j) → s a j = σ0 a j) → s 143 20 = 0 → stO s → (1 ≤ s 144 12 ∧ s 144 12 ≤ 99) → (1 ≤ s 144 13 ∧ s 144 13 ≤ 12) → ∃ s', g_m_settings_L105 n x (k : Int) s = some (x, s') ∧ MI s' ∧ s' 143 20 = 0 ∧ frT2 σ0 s'
  | _, _, 0, _, _, h, _, _, _, _, _ => absurd h (Nat.not_lt_zero _)
  | 0, k, n + 1, s, hk, _, hf, h20, hst, h12, h13 => by
    unfold g_m_settings_L105
    rw [if_pos (by omega)]
    obtain ⟨N, n1, n2, n3⟩ := h.1
    have hN : NI s := NI_fr h.1 (fun j hj => hf 144 j (by omega) (by omega) (by omega))
    obtain ⟨N, n1, n2, n3⟩ := hN
    obtain ⟨s', N', e1, e2, e3, e4, e5, e6⟩ := s_trims n3 n2 (by omega) h13.1 h12.1
    rw [e1]
    rw [Option.bind_some]
    try dsimp only
    have q : ∀ a j, (a ≠ 144 ∨ (8 ≤ j ∧ j < 340)) → a ≠ 147 → s' a j = s a j := fun a j k1 k2 => e5 a j k1 (Or.inl k2)
    have hH : HI s' := by
      obtain ⟨h1, h2, h3, h4, h5, h6, h7⟩ := h.2.1
      have q2 : ∀ j : Int, (8 ≤ j ∧ j < 11) ∨ (18 ≤ j ∧ j < 340) → s' 144 j = σ0 144 j := fun j hj => (q 144 j (by omega) (by decide)).trans (hf 144 j (by omega) (by omega) (by omega))
      refine ⟨by rw [q 144 12 (by omega) (by decide)]; exact h12, by rw [q 144 13 (by omega) (by decide)]; exact h13, by rw [q2 8 (by omega)]; exact h3, by rw [q2 9 (by omega)]; exact h4, by rw [q2 10 (by omega)]; exact h5, fun t ht => ?_, fun r hr => ?_⟩
      · rw [q2 9 (by omega)] at ht
        unfold bxA
        rw [q2 _ (by omega), q2 _ (by omega), q2 _ (by omega), q2 _ (by omega)]
        exact h6 t ht
      · rw [q2 _ (by omega), q2 _ (by omega)]
        exact h7 r hr
    have q3 : ∀ a j, a ≠ 144 → a ≠ 147 → a ≠ 160 → (a ≠ 143 ∨ (j ≠ 20 ∧ j ≠ 21 ∧ j ≠ 22 ∧ j ≠ 23)) → s' a j = σ0 a j := fun a j k1 k2 k3 k4 => (q a j (Or.inl k1) k2).trans (hf a j k3 k4 (Or.inl k1))
    have h20' : s' 143 20 = 0 := (q 143 20 (by omega) (by decide)).trans h20
    refine ⟨s', rfl, ⟨⟨N', by omega, e4, e3⟩, hH, ?_, II_fr h.2.2.2 (q3 143 6 (by decide) (by decide) (by decide) (by omega)) (fun j => q3 145 j (by decide) (by decide) (by decide) (by omega))⟩, h20', fun a j hh => (e5 a j (by omega) (by omega)).trans (hf a j (by omega) (by omega) (by omega))⟩
    obtain ⟨x1, x2, x3, x4, x5⟩ := h.2.2.1
    refine ⟨by rw [h20']; omega, by rw [q3 143 27 (by decide) (by decide) (by decide) (by omega)]; exact x2, by rw [q3 143 29 (by decide) (by decide) (by decide) (by omega)]; exact x3, by rw [q3 143 32 (by decide) (by decide) (by decide) (by omega)]; exact x4, fun k hk => ?_⟩
    rw [q3 166 _ (by decide) (by decide) (by decide) (by omega)]
    exact x5 k hk
  | d + 1, k, n + 1, s, hk, hn, hf, h20, hst, h12, h13 => by
    unfold g_m_settings_L105
    rw [if_neg (by omega), if_pos (by omega), w32_id (x := 11 + (k : Int)) (by omega) (by omega)]
    dsimp only
    rw [if_pos (by omega), w32_id (x := (k : Int) + 1) (by omega) (by omega)]
    have hst' := hst
    unfold stO at hst'
    have e := s_set105 (x := x) h d (k + 1) n (zu s 144 (11 + (k : Int)) (s 160 (k : Int))) (by omega) (by omega) (fun a j k1 k2 k3 => (zu_c (by omega)).trans (hf a j k1 k2 k3)) ((zu_a (by decide)).trans h20) (by
      unfold stO
      rw [zu_a (by decide), zu_a (by decide)]
      exact hst) (by
      by_cases c : (12 : Int) = 11 + (k : Int)
      · rw [zu_e c, show (k : Int) = 1 by omega]; exact hst'.1
      · rw [zu_i c]; exact h12) (by
      by_cases c : (13 : Int) = 11 + (k : Int)
      · rw [zu_e c, show (k : Int) = 2 by omega]; exact hst'.2
      · rw [zu_i c]; exact h13)
    rw [show ((k + 1 : Nat) : Int) = (k : Int) + 1 by omega] at e
    exact e
theorem s_set37 {σ0 : zS} (h : MI σ0) : ∀ (d n : Nat) (x b : Int) (s : zS), (b = 0 ∨ b = 1) → s 143 20 - s 143 21 ≤ (d : Int) → d + 2 < n → frS σ0 s → pI s → s 143 21 ≤ 160 → stO s → ∃ c s', g_m_settings_L37 n x b s = some (c, s') ∧ MI s' ∧ s' 143 20 = 0 ∧ frT2 σ0 s' := by
  have stop : ∀ (n : Nat) (x : Int) (s : zS), frS σ0 s → stO s → ∃ c s', g_m_settings_L37 (n + 1) x 0 s = some (c, s') ∧ MI s' ∧ s' 143 20 = 0 ∧ frT2 σ0 s' := by
    intro n x s hf hst
    unfold g_m_settings_L37
    rw [if_pos rfl]
    have q : ∀ a j, a ≠ 160 → (a ≠ 143 ∨ (j ≠ 20 ∧ j ≠ 21 ∧ j ≠ 22 ∧ j ≠ 23)) → zu s 143 20 0 a j = σ0 a j := fun a j k1 k2 => (zu_c (by omega)).trans (hf a j k1 (by omega))
    have hH := h.2.1
    dsimp only
    split
    · obtain ⟨s', e1, e2, e3, e4⟩ := s_set105 (x := x) h 7 0 zK (zu s 143 20 0) rfl (by show 7 < 1000000; omega) (fun a j k1 k2 _ => q a j k1 k2) (zu_e rfl) (by
        unfold stO at *
        rw [zu_a (by decide), zu_a (by decide)]
        exact hst) (by rw [q 144 12 (by decide) (by omega)]; exact hH.1) (by rw [q 144 13 (by decide) (by omega)]; exact hH.2.1)
      exact ⟨x, s', e1, e2, e3, e4⟩
    · refine ⟨_, _, rfl, ⟨NI_fr h.1 (fun j _ => q 144 j (by decide) (by omega)), HI_fr8 h.2.1 (fun j _ _ => q 144 j (by decide) (by omega)), ?_, II_fr h.2.2.2 (q 143 6 (by decide) (by omega)) (fun j => q 145 j (by decide) (by omega))⟩, zu_e rfl, fun a j hh => q a j (by omega) (by omega)⟩
      obtain ⟨x1, x2, x3, x4, x5⟩ := h.2.2.1
      refine ⟨by rw [zu_e rfl]; omega, by rw [q 143 27 (by decide) (by omega)]; exact x2, by rw [q 143 29 (by decide) (by omega)]; exact x3, by rw [q 143 32 (by decide) (by omega)]; exact x4, fun k hk => ?_⟩
      rw [q 166 _ (by decide) (by omega)]
      exact x5 k hk
  intro d
  induction d with
  | zero =>
    intro n x b s hb hd hn hf hp h5 hst
    obtain ⟨n, rfl⟩ : ∃ k, n = k + 2 := ⟨n - 2, by omega⟩
    by_cases c : b = 0
    · subst c; exact stop (n + 1) x s hf hst
    · unfold g_m_settings_L37
      rw [if_neg c]
      obtain ⟨b1, s1, e1, e2, e3, e4, e5⟩ := s_isSetting hp h5
      rw [e1]
      rw [Option.bind_some]
      try dsimp only
      obtain ⟨p1, p2⟩ := pI_160 hp h5 e2
      have f1 := hf.trans e3
      by_cases c1 : b1 = 0
      · rw [if_pos c1]
        unfold g_m_settings_L69
        rw [if_pos c1]
        subst c1
        exact stop n _ s1 f1 (e4 hst)
      · have e6 := e5 (by unfold pO at e2; omega)
        unfold pO at e2
        omega
  | succ d ih =>
    intro n x b s hb hd hn hf hp h5 hst
    obtain ⟨n, rfl⟩ : ∃ k, n = k + 2 := ⟨n - 2, by omega⟩
    by_cases c : b = 0
    · subst c; exact stop (n + 1) x s hf hst
    · unfold g_m_settings_L37
      rw [if_neg c]
      obtain ⟨b1, s1, e1, e2, e3, e4, e5⟩ := s_isSetting hp h5
      rw [e1]
      rw [Option.bind_some]
      try dsimp only
      obtain ⟨p1, p2⟩ := pI_160 hp h5 e2
      have f1 := hf.trans e3
      by_cases c1 : b1 = 0
      · rw [if_pos c1]
        unfold g_m_settings_L69
        rw [if_pos c1]
        subst c1
        exact stop n _ s1 f1 (e4 hst)
      · have hb1 : b1 = 1 := by unfold pO at e2; omega
        have e6 := e5 hb1
        rw [if_neg c1]
        by_cases c2 : s1 143 21 ≠ s1 143 20
        · rw [if_pos c2]
          unfold g_m_settings_L69
          rw [if_neg c1]
          obtain ⟨b2, s2, g1, g2, g3, g4⟩ := s_isSign1 (x := 59) p1 (by decide)
          rw [g1]
          rw [Option.bind_some]
          try dsimp only
          obtain ⟨p3, p4⟩ := pI_160 p1 p2 g2
          refine ih (n + 1) _ b2 s2 ?_ ?_ (by omega) (f1.trans (frS.of g3)) p3 p4 (stO_3 (e4 hst) g3)
          · unfold pO at g2; exact g2.1
          · unfold pO at e2 g2
            omega
        · rw [if_neg c2]
          exact stop n _ s1 f1 (e4 hst)
theorem s_set2 {σ : zS} (h : MI σ) : ∀ (d k n : Nat) (s : zS), k + d = 7 → d < n → (∀ a j, a ≠ 160 → s a j = σ a j) → (∀ j : Nat, j < k → s 160 (j : Int) = σ 144 (11 + (j : Int))) → ∃ c s', g_m_settings_L2 n (k : Int) s = some (c, s') ∧ MI s' ∧ s' 143 20 = 0 ∧ frT2 σ s'
  | _, _, 0, _, _, h, _, _ => absurd h (Nat.not_lt_zero _)
  | 0, k, n + 1, s, hk, _, hf, hs => by
    unfold g_m_settings_L2 g_m_begins
    rw [if_pos (by omega)]
    rw [Option.bind_some]
    try dsimp only
    have hH := h.2.1
    have f1 : frS σ (zu (zu s 143 21 0) 143 22 (-1)) := fun a j k1 k2 => by rw [zu_c (by omega), zu_c (by omega)]; exact hf a j k1
    have h20 := h.2.2.1.1
    have q20 : zu (zu s 143 21 0) 143 22 (-1) 143 20 = σ 143 20 := f1 143 20 (by decide) (by omega)
    have q21 : zu (zu s 143 21 0) 143 22 (-1) 143 21 = 0 := by rw [zu_i (by omega), zu_e rfl]
    refine s_set37 h 160 zK 0 1 _ (Or.inr rfl) (by rw [q20, q21]; omega) (by show _ < 1000000; omega) f1 ⟨by rw [q20]; omega, by rw [q20]; omega, by rw [q21]; omega⟩ (by rw [q21]; omega) ?_
    unfold stO
    rw [zu_a (by decide), zu_a (by decide), zu_a (by decide), zu_a (by decide)]
    have a1 := hs 1 (by omega)
    have a2 := hs 2 (by omega)
    rw [show ((1 : Nat) : Int) = 1 from rfl, show (11 : Int) + 1 = 12 from rfl] at a1
    rw [show ((2 : Nat) : Int) = 2 from rfl, show (11 : Int) + 2 = 13 from rfl] at a2
    rw [a1, a2]
    exact ⟨hH.1, hH.2.1⟩
  | d + 1, k, n + 1, s, hk, hn, hf, hs => by
    unfold g_m_settings_L2
    rw [if_neg (by omega), w32_id (x := 11 + (k : Int)) (by omega) (by omega), if_pos (by omega)]
    dsimp only
    rw [if_pos (by omega), w32_id (x := (k : Int) + 1) (by omega) (by omega)]
    have e := s_set2 h d (k + 1) n (zu s 160 (k : Int) (s 144 (11 + (k : Int)))) (by omega) (by omega) (fun a j k1 => (zu_a k1).trans (hf a j k1)) (fun j hj => by
      by_cases c : (j : Int) = (k : Int)
      · rw [zu_e c, c, hf 144 _ (by decide)]
      · rw [zu_i c]; exact hs j (by omega))
    rw [show ((k + 1 : Nat) : Int) = (k : Int) + 1 by omega] at e
    exact e
theorem m_settings2 {σ : zS} (h : MI σ) : ∃ c s, g_m_settings σ = some (c, s) ∧ MI s ∧ s 143 20 = 0 ∧ frT2 σ s := s_set2 h 7 0 zK σ rfl (by show 7 < 1000000; omega) (fun _ _ _ => rfl) (fun j hj => absurd hj (Nat.not_lt_zero _))
theorem m_settings {σ : zS} (h : MI σ) : ∃ c s, g_m_settings σ = some (c, s) ∧ MI s ∧ s 143 20 = 0 ∧ frT σ s := by
  obtain ⟨c, s, h1, h2, h3, h4⟩ := m_settings2 h
  exact ⟨c, s, h1, h2, h3, h4.t⟩
theorem m_setting {x : Int} {σ : zS} : ∃ c, g_m_setting x σ = some (c, σ) := by
  unfold g_m_setting
  by_cases c : 0 ≤ x ∧ x ≤ 6
  · rw [s_isIn_t c.1 c.2]
    rw [Option.bind_some]
    try dsimp only
    rw [if_neg (by decide), w32_id (x := 11 + x) (by omega) (by omega), if_pos (by omega)]
    exact ⟨_, rfl⟩
  · rw [s_isIn_f (by omega)]
    rw [Option.bind_some]
    try dsimp only
    rw [if_pos (by decide)]
    exact ⟨_, rfl⟩
