/-! THE REFERENCE over the typed memory: a query read from the tape; run() -/
def frQ2 (σ s : zS) : Prop := ∀ a j, a ≠ 161 → (a ≠ 143 ∨ (j ≠ 21 ∧ j ≠ 22 ∧ j ≠ 23)) → s a j = σ a j
theorem frQ2.of {σ s : zS} (h : fr3 σ s) : frQ2 σ s := fun a j _ k => h a j k
theorem frQ2.trans {σ s t : zS} (h1 : frQ2 σ s) (h2 : frQ2 s t) : frQ2 σ t := fun a j k1 k2 => (h2 a j k1 k2).trans (h1 a j k1 k2)
theorem frQ2.u {σ : zS} {i v : Int} : frQ2 σ (zu σ 161 i v) := fun a j k1 _ => zu_a k1
theorem pI_a {σ : zS} {a : Nat} {i v : Int} (h : pI σ) (ha : a ≠ 143) : pI (zu σ a i v) := by
  unfold pI at *
  rw [zu_a (Ne.symm ha), zu_a (Ne.symm ha)]
  exact h
/-- a piece read, and then what follows -/
theorem pO_0 {σ s t : zS} {b c : Int} (h1 : pO σ s b) (h2 : pO s t c) : pO σ t c := pO_trans h1 h2
theorem s_isRange {x : Int} {σ : zS} (h : pI σ) (h5 : σ 143 21 ≤ 160) (hx : 0 ≤ x ∧ x < 47) : ∃ b s, g_m_isRange x σ = some (b, s) ∧ pO σ s b ∧ frQ2 σ s ∧ (∀ j : Int, j ≠ x → j ≠ x + 1 → s 161 j = σ 161 j) ∧ (b = 1 → 0 ≤ s 161 x ∧ s 161 x ≤ s 161 (x + 1) ∧ s 161 (x + 1) ≤ 31) := by
  unfold g_m_isRange
  rw [if_pos (by omega), w32_id (x := x + 1) (by omega) (by omega)]
  dsimp only
  rw [if_pos (by omega)]
  generalize hs1 : zu (zu σ 161 x 0) 161 (x + 1) 31 = s1
  have p1 : pI s1 := by rw [← hs1]; exact pI_a (pI_a h (by decide)) (by decide)
  have o1 : pO σ s1 1 := by rw [← hs1]; exact pO_trans (pO_60 (by decide)) (pO_60 (by decide))
  have f1 : frQ2 σ s1 := by rw [← hs1]; exact frQ2.u.trans frQ2.u
  have v1 : ∀ j : Int, j ≠ x → j ≠ x + 1 → s1 161 j = σ 161 j := fun j k1 k2 => by rw [← hs1, zu_i k2, zu_i k1]
  have w1 : s1 161 x = 0 := by rw [← hs1, zu_i (by omega), zu_e rfl]
  have w2 : s1 161 (x + 1) = 31 := by rw [← hs1, zu_e rfl]
  obtain ⟨_, p160⟩ := pI_160 h h5 o1
  rw [s_here p1]
  rw [Option.bind_some]
  try dsimp only
  by_cases c : hereC s1 ≠ 42
  · rw [if_pos c]
    obtain ⟨b, s2, e1, e2, e3, e4⟩ := s_number (w := 2) (lo := 0) (hi := 31) p1 (by omega)
    rw [e1]
    rw [Option.bind_some]
    try dsimp only
    have v2 : ∀ j : Int, s2 161 j = s1 161 j := fun j => e3 161 j (by omega)
    by_cases cb : b ≠ 0
    · have hb : b = 1 := by unfold pO at e2; omega
      subst hb
      obtain ⟨n1, n2⟩ := e4 rfl
      rw [if_pos cb, if_pos (by omega)]
      have q23 : zu s2 161 x (s2 143 23) 143 23 = s2 143 23 := zu_a (by decide)
      rw [q23]
      generalize hs3 : zu (zu s2 161 x (s2 143 23)) 161 (x + 1) (s2 143 23) = s3
      have p2 := pI_of p1 e2
      have p3 : pI s3 := by rw [← hs3]; exact pI_a (pI_a p2 (by decide)) (by decide)
      have o3 : pO σ s3 1 := pO_trans (pO_trans o1 e2) (by rw [← hs3]; exact pO_trans (pO_60 (by decide)) (pO_60 (by decide)))
      have f3 : frQ2 σ s3 := (f1.trans (frQ2.of e3)).trans (by rw [← hs3]; exact frQ2.u.trans frQ2.u)
      have v3 : ∀ j : Int, j ≠ x → j ≠ x + 1 → s3 161 j = σ 161 j := fun j k1 k2 => by rw [← hs3, zu_i k2, zu_i k1, v2 j, v1 j k1 k2]
      have w3 : s3 161 x = s2 143 23 := by rw [← hs3, zu_i (by omega), zu_e rfl]
      have w4 : s3 161 (x + 1) = s2 143 23 := by rw [← hs3, zu_e rfl]
      obtain ⟨_, p160'⟩ := pI_160 h h5 o3
      rw [if_pos (by omega), s_here p3]
      rw [Option.bind_some]
      try dsimp only
      by_cases c2 : hereC s3 = 45
      · obtain ⟨q1, q2, q3⟩ := pO_s p3 (hereC_lt c2 (by decide))
        rw [if_pos c2, q1, if_pos (by omega)]
        have w5 : zu s3 143 21 (s3 143 21 + 1) 161 x = s2 143 23 := (zu_a (by decide)).trans w3
        rw [w5]
        obtain ⟨b', s4, g1, g2, g3, g4⟩ := s_number (w := 2) (lo := s2 143 23) (hi := 31) q2 (by omega)
        rw [g1]
        rw [Option.bind_some]
        try dsimp only
        have f4 : fr3 s3 s4 := (fr3.u (by omega)).trans g3
        have v4 : ∀ j : Int, s4 161 j = s3 161 j := fun j => f4 161 j (by omega)
        have o4 := pO_trans (pO_trans o3 q3) g2
        by_cases cb' : b' ≠ 0
        · have hb' : b' = 1 := by unfold pO at g2; omega
          subst hb'
          obtain ⟨m1, m2⟩ := g4 rfl
          rw [if_pos cb', if_pos (by omega)]
          refine ⟨1, _, rfl, pO_trans o4 (pO_60 (by decide)), (f3.trans (frQ2.of f4)).trans frQ2.u, fun j k1 k2 => by rw [zu_i k2, v4 j, v3 j k1 k2], fun _ => ?_⟩
          rw [zu_e rfl, zu_i (by omega), v4 x, w3]
          omega
        · have hb' : b' = 0 := by omega
          subst hb'
          rw [if_neg cb']
          exact ⟨0, s4, rfl, o4, f3.trans (frQ2.of f4), fun j k1 k2 => (v4 j).trans (v3 j k1 k2), fun hh => absurd hh (by decide)⟩
      · rw [if_neg c2]
        exact ⟨1, s3, rfl, o3, f3, v3, fun _ => by rw [w3, w4]; omega⟩
    · have hb : b = 0 := by omega
      subst hb
      rw [if_neg cb]
      exact ⟨0, s2, rfl, pO_trans o1 e2, f1.trans (frQ2.of e3), fun j k1 k2 => (v2 j).trans (v1 j k1 k2), fun hh => absurd hh (by decide)⟩
  · rw [if_neg c]
    obtain ⟨q1, q2, q3⟩ := pO_s p1 (hereC_lt (x := 42) (by omega) (by decide))
    rw [q1]
    refine ⟨1, _, rfl, pO_trans o1 q3, f1.trans (frQ2.of (fr3.u (by omega))), fun j k1 k2 => (zu_a (by decide)).trans (v1 j k1 k2), fun _ => ?_⟩
    rw [zu_a (by decide), zu_a (by decide), w1, w2]
    omega
theorem s_isTest {σ : zS} (h : pI σ) : ∃ b s, g_m_isTest σ = some (b, s) ∧ pO σ s b ∧ fr3 σ s := by
  have fl : ∀ s : zS, pI s → pO σ s 1 → fr3 σ s → ∃ b s', ((g_m_fails (s 143 21) s).bind fun o => if o.1 = 0 ∨ o.1 = 1 then some (o.1, o.2) else none) = some (b, s') ∧ pO σ s' b ∧ fr3 σ s' := by
    intro s p o f
    obtain ⟨s', e1, e2, e3⟩ := s_failsO p
    rw [e1]
    rw [Option.bind_some]
    try dsimp only
    rw [if_pos (Or.inl rfl)]
    exact ⟨0, s', rfl, pO_trans o e2, f.trans e3⟩
  have l109 : ∀ s : zS, pI s → pO σ s 1 → fr3 σ s → ∃ b s', g_m_isTest_L109 s = some (b, s') ∧ pO σ s' b ∧ fr3 σ s' := by
    intro s p o f
    unfold g_m_isTest_L109
    obtain ⟨b, s', e1, e2, e3, _⟩ := s_number (w := 9) (lo := 0) (hi := 999999999) p (by omega)
    rw [e1]
    rw [Option.bind_some]
    try dsimp only
    have hb := e2
    unfold pO at hb
    rw [if_pos hb.1]
    exact ⟨b, s', rfl, pO_trans o e2, f.trans e3⟩
  have l80 : ∀ s : zS, pI s → s 143 21 < s 143 20 → pO σ s 1 → fr3 σ s → ∃ b s', g_m_isTest_L80 s = some (b, s') ∧ pO σ s' b ∧ fr3 σ s' := by
    intro s p hlt o f
    unfold g_m_isTest_L80
    obtain ⟨q1, q2, q3⟩ := pO_s p hlt
    dsimp only
    rw [q1, s_here q2]
    rw [Option.bind_some]
    try dsimp only
    by_cases c : hereC (zu s 143 21 (s 143 21 + 1)) ≠ 45
    · rw [if_pos c]
      exact l109 _ q2 (pO_trans o q3) (f.trans (fr3.u (by omega)))
    · rw [if_neg c]
      obtain ⟨r1, r2, r3⟩ := pO_s q2 (hereC_lt (x := 45) (by omega) (by decide))
      rw [r1]
      exact l109 _ r2 (pO_trans (pO_trans o q3) r3) ((f.trans (fr3.u (by omega))).trans (fr3.u (by omega)))
  have l38 : ∀ x : Int, x ≠ -1 → hereC σ = x → ∃ b s', g_m_isTest_L38 σ = some (b, s') ∧ pO σ s' b ∧ fr3 σ s' := by
    intro x hx hc
    unfold g_m_isTest_L38
    obtain ⟨q1, q2, q3⟩ := pO_s h (hereC_lt hc hx)
    dsimp only
    rw [q1, s_here q2]
    rw [Option.bind_some]
    try dsimp only
    by_cases c1 : hereC (zu σ 143 21 (σ 143 21 + 1)) = 60
    · rw [if_pos c1]; exact l80 _ q2 (hereC_lt c1 (by decide)) q3 (fr3.u (by omega))
    · rw [if_neg c1]
      by_cases c2 : hereC (zu σ 143 21 (σ 143 21 + 1)) = 61
      · rw [if_pos c2]; exact l80 _ q2 (hereC_lt c2 (by decide)) q3 (fr3.u (by omega))
      · rw [if_neg c2]
        by_cases c3 : hereC (zu σ 143 21 (σ 143 21 + 1)) = 62
        · rw [if_pos c3]; exact l80 _ q2 (hereC_lt c3 (by decide)) q3 (fr3.u (by omega))
        · rw [if_neg c3]
          exact fl _ q2 q3 (fr3.u (by omega))
  unfold g_m_isTest
  rw [s_here h]
  rw [Option.bind_some]
  try dsimp only
  by_cases c1 : hereC σ = 119
  · rw [if_pos c1]; exact l38 119 (by decide) c1
  · rw [if_neg c1]
    by_cases c2 : hereC σ = 120
    · rw [if_pos c2]; exact l38 120 (by decide) c2
    · rw [if_neg c2]
      by_cases c3 : hereC σ = 121
      · rw [if_pos c3]; exact l38 121 (by decide) c3
      · rw [if_neg c3]
        by_cases c4 : hereC σ = 114
        · rw [if_pos c4]; exact l38 114 (by decide) c4
        · rw [if_neg c4]
          refine fl σ h ?_ (fr3.refl σ)
          unfold pO
          omega
/-- reading a test: depth at most four -/
def rdOk (g : Int → zS → Option (Int × zS)) (e : Int) : Prop := ∀ σ : zS, pI σ → σ 143 21 ≤ 160 → ∃ b s, g e σ = some (b, s) ∧ pO σ s b ∧ fr3 σ s
theorem s_isFactor {rec : Nat → Int → zS → Option (Int × zS)} {e : Int} (he : 0 ≤ e ∧ e ≤ 4) (h225 : e < 4 → rdOk (rec 225) (e + 1)) (h227 : e < 4 → rdOk (rec 227) (e + 1)) : rdOk (g_m_isFactor rec) e := by
  intro σ h h5
  have l80 : ∃ b s, g_m_isFactor_L80 rec σ = some (b, s) ∧ pO σ s b ∧ fr3 σ s := by
    unfold g_m_isFactor_L80
    obtain ⟨b, s, e1, e2, e3⟩ := s_isTest h
    rw [e1]
    rw [Option.bind_some]
    try dsimp only
    have hb := e2
    unfold pO at hb
    rw [if_pos hb.1]
    exact ⟨b, s, rfl, e2, e3⟩
  have l34 : ∃ b s, g_m_isFactor_L34 rec e (hereC σ) σ = some (b, s) ∧ pO σ s b ∧ fr3 σ s := by
    unfold g_m_isFactor_L34
    by_cases c : 4 ≤ e
    · rw [if_pos c]; exact l80
    · rw [if_neg c]
      by_cases c2 : hereC σ ≠ 40
      · rw [if_pos c2]; exact l80
      · rw [if_neg c2]
        obtain ⟨q1, q2, q3⟩ := pO_s h (hereC_lt (x := 40) (by omega) (by decide))
        obtain ⟨_, q160⟩ := pI_160 h h5 q3
        dsimp only
        rw [q1, w32_id (x := e + 1) (by omega) (by omega)]
        obtain ⟨b, s, e1, e2, e3⟩ := h227 (by omega) _ q2 q160
        rw [e1]
        rw [Option.bind_some]
        try dsimp only
        have o2 := pO_trans q3 e2
        have f2 : fr3 σ s := (fr3.u (by omega)).trans e3
        by_cases cb : b = 0
        · rw [if_pos cb]
          subst cb
          exact ⟨0, s, rfl, o2, f2⟩
        · rw [if_neg cb]
          obtain ⟨b', s', g1, g2, g3⟩ := s_isSign (x := 41) (pI_of h o2) (by decide)
          rw [g1]
          rw [Option.bind_some]
          try dsimp only
          by_cases cb' : b' = 0
          · rw [if_pos cb']
            subst cb'
            exact ⟨0, s', rfl, pO_trans o2 g2, f2.trans g3⟩
          · rw [if_neg cb']
            have hb' : b' = 1 := by unfold pO at g2; omega
            subst hb'
            exact ⟨1, s', rfl, pO_trans o2 g2, f2.trans g3⟩
  unfold g_m_isFactor
  rw [s_here h]
  rw [Option.bind_some]
  try dsimp only
  by_cases c : 4 ≤ e
  · rw [if_pos c]; exact l34
  · rw [if_neg c]
    by_cases c2 : hereC σ ≠ 33
    · rw [if_pos c2]; exact l34
    · rw [if_neg c2]
      obtain ⟨q1, q2, q3⟩ := pO_s h (hereC_lt (x := 33) (by omega) (by decide))
      obtain ⟨_, q160⟩ := pI_160 h h5 q3
      rw [q1, w32_id (x := e + 1) (by omega) (by omega)]
      obtain ⟨b, s, e1, e2, e3⟩ := h225 (by omega) _ q2 q160
      rw [e1]
      rw [Option.bind_some]
      try dsimp only
      have hb := e2
      unfold pO at hb
      rw [if_pos hb.1]
      exact ⟨b, s, rfl, pO_trans q3 e2, (fr3.u (by omega)).trans e3⟩
theorem s_isBoth6 {rec : Nat → Int → zS → Option (Int × zS)} {e : Int} (h225 : rdOk (rec 225) e) : ∀ (d n : Nat) (b : Int) (σ : zS), (b = 0 ∨ b = 1) → (b = 0 → 0 ≤ σ 143 22) → pI σ → σ 143 21 ≤ 160 → σ 143 20 - σ 143 21 ≤ (d : Int) → d + 1 < n → ∃ b' s, g_m_isBoth_L6 rec n e b σ = some (b', s) ∧ pO σ s b' ∧ fr3 σ s := by
  have st : ∀ (b : Int) (σ : zS), (b = 0 ∨ b = 1) → (b = 0 → 0 ≤ σ 143 22) → pO σ σ b := by
    intro b σ hb h22
    unfold pO
    omega
  intro d
  induction d with
  | zero =>
    intro n b σ hb h22 h h5 hd hn
    obtain ⟨n, rfl⟩ : ∃ k, n = k + 1 := ⟨n - 1, by omega⟩
    unfold g_m_isBoth_L6
    by_cases c : b = 0
    · rw [if_pos c, if_pos hb]; exact ⟨b, σ, rfl, st b σ hb h22, fr3.refl σ⟩
    · rw [if_neg c, s_here h]
      rw [Option.bind_some]
      try dsimp only
      by_cases c2 : hereC σ ≠ 38
      · rw [if_pos c2, if_pos hb]; exact ⟨b, σ, rfl, st b σ hb h22, fr3.refl σ⟩
      · have := hereC_lt (σ := σ) (x := 38) (by omega) (by decide)
        omega
  | succ d ih =>
    intro n b σ hb h22 h h5 hd hn
    obtain ⟨n, rfl⟩ : ∃ k, n = k + 1 := ⟨n - 1, by omega⟩
    unfold g_m_isBoth_L6
    by_cases c : b = 0
    · rw [if_pos c, if_pos hb]; exact ⟨b, σ, rfl, st b σ hb h22, fr3.refl σ⟩
    · rw [if_neg c, s_here h]
      rw [Option.bind_some]
      try dsimp only
      by_cases c2 : hereC σ ≠ 38
      · rw [if_pos c2, if_pos hb]; exact ⟨b, σ, rfl, st b σ hb h22, fr3.refl σ⟩
      · rw [if_neg c2]
        obtain ⟨q1, q2, q3⟩ := pO_s h (hereC_lt (x := 38) (by omega) (by decide))
        obtain ⟨_, q160⟩ := pI_160 h h5 q3
        rw [q1]
        obtain ⟨b1, s1, e1, e2, e3⟩ := h225 _ q2 q160
        rw [e1]
        rw [Option.bind_some]
        try dsimp only
        obtain ⟨r1, r2⟩ := pI_160 q2 q160 e2
        have e4 := e2
        unfold pO at e4
        have q20 : zu σ 143 21 (σ 143 21 + 1) 143 20 = σ 143 20 := zu_i (by omega)
        have q21 : zu σ 143 21 (σ 143 21 + 1) 143 21 = σ 143 21 + 1 := zu_e rfl
        rw [q20, q21] at e4
        obtain ⟨b2, s2, g1, g2, g3⟩ := ih n b1 s1 e4.1 e4.2.2.2.2.2 r1 r2 (by omega) (by omega)
        exact ⟨b2, s2, g1, pO_trans (pO_trans q3 e2) g2, ((fr3.u (by omega)).trans e3).trans g3⟩
theorem s_isBoth {rec : Nat → Int → zS → Option (Int × zS)} {e : Int} (h225 : rdOk (rec 225) e) : rdOk (g_m_isBoth rec) e := by
  intro σ h h5
  unfold g_m_isBoth
  obtain ⟨b1, s1, e1, e2, e3⟩ := h225 σ h h5
  rw [e1]
  rw [Option.bind_some]
  try dsimp only
  obtain ⟨r1, r2⟩ := pI_160 h h5 e2
  have e4 := e2
  unfold pO at e4
  have hh := r1
  unfold pI at hh
  obtain ⟨b2, s2, g1, g2, g3⟩ := s_isBoth6 h225 160 zK b1 s1 e4.1 e4.2.2.2.2.2 r1 r2 (by omega) (by show _ < 1000000; omega)
  exact ⟨b2, s2, g1, pO_trans e2 g2, e3.trans g3⟩
theorem s_isEither6 {rec : Nat → Int → zS → Option (Int × zS)} {e : Int} (h226 : rdOk (rec 226) e) : ∀ (d n : Nat) (b : Int) (σ : zS), (b = 0 ∨ b = 1) → (b = 0 → 0 ≤ σ 143 22) → pI σ → σ 143 21 ≤ 160 → σ 143 20 - σ 143 21 ≤ (d : Int) → d + 1 < n → ∃ b' s, g_m_isEither_L6 rec n e b σ = some (b', s) ∧ pO σ s b' ∧ fr3 σ s := by
  have st : ∀ (b : Int) (σ : zS), (b = 0 ∨ b = 1) → (b = 0 → 0 ≤ σ 143 22) → pO σ σ b := by
    intro b σ hb h22
    unfold pO
    omega
  intro d
  induction d with
  | zero =>
    intro n b σ hb h22 h h5 hd hn
    obtain ⟨n, rfl⟩ : ∃ k, n = k + 1 := ⟨n - 1, by omega⟩
    unfold g_m_isEither_L6
    by_cases c : b = 0
    · rw [if_pos c, if_pos hb]; exact ⟨b, σ, rfl, st b σ hb h22, fr3.refl σ⟩
    · rw [if_neg c, s_here h]
      rw [Option.bind_some]
      try dsimp only
      by_cases c2 : hereC σ ≠ 124
      · rw [if_pos c2, if_pos hb]; exact ⟨b, σ, rfl, st b σ hb h22, fr3.refl σ⟩
      · have := hereC_lt (σ := σ) (x := 124) (by omega) (by decide)
        omega
  | succ d ih =>
    intro n b σ hb h22 h h5 hd hn
    obtain ⟨n, rfl⟩ : ∃ k, n = k + 1 := ⟨n - 1, by omega⟩
    unfold g_m_isEither_L6
    by_cases c : b = 0
    · rw [if_pos c, if_pos hb]; exact ⟨b, σ, rfl, st b σ hb h22, fr3.refl σ⟩
    · rw [if_neg c, s_here h]
      rw [Option.bind_some]
      try dsimp only
      by_cases c2 : hereC σ ≠ 124
      · rw [if_pos c2, if_pos hb]; exact ⟨b, σ, rfl, st b σ hb h22, fr3.refl σ⟩
      · rw [if_neg c2]
        obtain ⟨q1, q2, q3⟩ := pO_s h (hereC_lt (x := 124) (by omega) (by decide))
        obtain ⟨_, q160⟩ := pI_160 h h5 q3
        rw [q1]
        obtain ⟨b1, s1, e1, e2, e3⟩ := h226 _ q2 q160
        rw [e1]
        rw [Option.bind_some]
        try dsimp only
        obtain ⟨r1, r2⟩ := pI_160 q2 q160 e2
        have e4 := e2
        unfold pO at e4
        have q20 : zu σ 143 21 (σ 143 21 + 1) 143 20 = σ 143 20 := zu_i (by omega)
        have q21 : zu σ 143 21 (σ 143 21 + 1) 143 21 = σ 143 21 + 1 := zu_e rfl
        rw [q20, q21] at e4
        obtain ⟨b2, s2, g1, g2, g3⟩ := ih n b1 s1 e4.1 e4.2.2.2.2.2 r1 r2 (by omega) (by omega)
        exact ⟨b2, s2, g1, pO_trans (pO_trans q3 e2) g2, ((fr3.u (by omega)).trans e3).trans g3⟩
theorem s_isEither {rec : Nat → Int → zS → Option (Int × zS)} {e : Int} (h226 : rdOk (rec 226) e) : rdOk (g_m_isEither rec) e := by
  intro σ h h5
  unfold g_m_isEither
  obtain ⟨b1, s1, e1, e2, e3⟩ := h226 σ h h5
  rw [e1]
  rw [Option.bind_some]
  try dsimp only
  obtain ⟨r1, r2⟩ := pI_160 h h5 e2
  have e4 := e2
  unfold pO at e4
  have hh := r1
  unfold pI at hh
  obtain ⟨b2, s2, g1, g2, g3⟩ := s_isEither6 h226 160 zK b1 s1 e4.1 e4.2.2.2.2.2 r1 r2 (by omega) (by show _ < 1000000; omega)
  exact ⟨b2, s2, g1, pO_trans e2 g2, e3.trans g3⟩
theorem grp225_225 {n : Nat} : g_grp225 (n + 1) 225 = g_m_isFactor (g_grp225 n) := by
  funext r σ
  show (if 225 = 225 then _ else _) = _
  exact if_pos rfl
theorem grp225_226 {n : Nat} : g_grp225 (n + 1) 226 = g_m_isBoth (g_grp225 n) := by
  funext r σ
  show (if 226 = 225 then _ else if 226 = 226 then _ else _) = _
  rw [if_neg (by decide), if_pos rfl]
theorem grp225_227 {n : Nat} : g_grp225 (n + 1) 227 = g_m_isEither (g_grp225 n) := by
  funext r σ
  show (if 227 = 225 then _ else if 227 = 226 then _ else if 227 = 227 then _ else _) = _
  rw [if_neg (by decide), if_neg (by decide), if_pos rfl]
/-- at depth 4 - d, with room for 3 d + 1 calls -/
theorem s_read : ∀ (d n : Nat), d ≤ 4 → 3 * d + 1 ≤ n → rdOk (g_grp225 n 225) (4 - (d : Int))
  | 0, n, _, hn => by
    obtain ⟨k, rfl⟩ : ∃ k, n = k + 1 := ⟨n - 1, by omega⟩
    rw [grp225_225]
    exact s_isFactor (by omega) (fun hh => by omega) (fun hh => by omega)
  | d + 1, n, hd, hn => by
    obtain ⟨k, rfl⟩ : ∃ k, n = k + 3 := ⟨n - 3, by omega⟩
    have h0 : ∀ j, 3 * d + 1 ≤ j → rdOk (g_grp225 j 225) (4 - (d : Int)) := fun j hj => s_read d j (by omega) hj
    have e : (4 : Int) - ((d + 1 : Nat) : Int) + 1 = 4 - (d : Int) := by omega
    rw [grp225_225]
    refine s_isFactor (by omega) (fun _ => ?_) (fun _ => ?_)
    · rw [e]; exact h0 _ (by omega)
    · rw [e, grp225_227]
      refine s_isEither ?_
      rw [grp225_226]
      exact s_isBoth (h0 _ (by omega))
theorem s_test0 : rdOk (g_grp225 zR 227) 0 := by
  show rdOk (g_grp225 (499 + 1) 227) 0
  rw [grp225_227]
  refine s_isEither ?_
  show rdOk (g_grp225 (498 + 1) 226) 0
  rw [grp225_226]
  exact s_isBoth (s_read 4 498 (by omega) (by omega))
