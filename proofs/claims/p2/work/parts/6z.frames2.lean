/-! WIDER FRAMES of settings() and load() (printed by wip/zf.py) -/
def frT5 (σ s : zS) : Prop := ∀ a j, (a < 143 ∨ 168 ≤ a ∨ a = 159 ∨ (161 ≤ a ∧ a < 168) ∨ a = 145 ∨ a = 148 ∨ (a = 144 ∧ ((8 ≤ j ∧ j < 11) ∨ (18 ≤ j ∧ j < 340))) ∨ (a = 147 ∧ 1 ≤ j ∧ j < 121) ∨ (a = 143 ∧ (j = 6 ∨ j = 27 ∨ j = 29 ∨ j = 32))) → s a j = σ a j
theorem x_set105 {σ0 : zS} {x : Int} (h : MI σ0) : ∀ (d k n : Nat) (s : zS), k + d = 7 → d < n → (∀ a j, a ≠ 160 → (a ≠ 143 ∨ (j ≠ 20 ∧ j ≠ 21 ∧ j ≠ 22 ∧ j ≠ 23)) → (a ≠ 144 ∨ j < 11 ∨ 18 ≤ j) → s a j = σ0 a j) → s 143 20 = 0 → stO s → (1 ≤ s 144 12 ∧ s 144 12 ≤ 99) → (1 ≤ s 144 13 ∧ s 144 13 ≤ 12) → ∃ s', g_m_settings_L105 n x (k : Int) s = some (x, s') ∧ MI s' ∧ s' 143 20 = 0 ∧ frT5 σ0 s'
  | _, _, 0, _, _, h, _, _, _, _, _ => absurd h (Nat.not_lt_zero _)
  | 0, k, n + 1, s, hk, _, hf, h20, hst, h12, h13 => by
    unfold g_m_settings_L105
    rw [if_pos (by omega)]
    obtain ⟨N, n1, n2, n3⟩ := h.1
    have hN : NI s := NI_fr h.1 (fun j hj => hf 144 j (by omega) (by omega) (by omega))
    obtain ⟨N, n1, n2, n3⟩ := hN
    obtain ⟨s', N', e1, e2, e3, e4, e5, e6⟩ := s_trims n3 n2 (by omega) h13.1 h12.1
    rw [e1]
    rw [Option.bind_some]
    try dsimp only
    have q : ∀ a j, (a ≠ 144 ∨ (8 ≤ j ∧ j < 340)) → a ≠ 147 → s' a j = s a j := fun a j k1 k2 => e5 a j k1 (Or.inl k2)
    have hH : HI s' := by
      obtain ⟨h1, h2, h3, h4, h5, h6, h7⟩ := h.2.1
      have q2 : ∀ j : Int, (8 ≤ j ∧ j < 11) ∨ (18 ≤ j ∧ j < 340) → s' 144 j = σ0 144 j := fun j hj => (q 144 j (by omega) (by decide)).trans (hf 144 j (by omega) (by omega) (by omega))
      refine ⟨by rw [q 144 12 (by omega) (by decide)]; exact h12, by rw [q 144 13 (by omega) (by decide)]; exact h13, by rw [q2 8 (by omega)]; exact h3, by rw [q2 9 (by omega)]; exact h4, by rw [q2 10 (by omega)]; exact h5, fun t ht => ?_, fun r hr => ?_⟩
      · rw [q2 9 (by omega)] at ht
        unfold bxA
        rw [q2 _ (by omega), q2 _ (by omega), q2 _ (by omega), q2 _ (by omega)]
        exact h6 t ht
      · rw [q2 _ (by omega), q2 _ (by omega)]
        exact h7 r hr
    have q3 : ∀ a j, a ≠ 144 → a ≠ 147 → a ≠ 160 → (a ≠ 143 ∨ (j ≠ 20 ∧ j ≠ 21 ∧ j ≠ 22 ∧ j ≠ 23)) → s' a j = σ0 a j := fun a j k1 k2 k3 k4 => (q a j (Or.inl k1) k2).trans (hf a j k3 k4 (Or.inl k1))
    have h20' : s' 143 20 = 0 := (q 143 20 (by omega) (by decide)).trans h20
    refine ⟨s', rfl, ⟨⟨N', by omega, e4, e3⟩, hH, ?_, II_fr h.2.2.2 (q3 143 6 (by decide) (by decide) (by decide) (by omega)) (fun j => q3 145 j (by decide) (by decide) (by decide) (by omega))⟩, h20', fun a j hh => (e5 a j (by omega) (by omega)).trans (hf a j (by omega) (by omega) (by omega))⟩
    obtain ⟨x1, x2, x3, x4, x5⟩ := h.2.2.1
    refine ⟨by rw [h20']; omega, by rw [q3 143 27 (by decide) (by decide) (by decide) (by omega)]; exact x2, by rw [q3 143 29 (by decide) (by decide) (by decide) (by omega)]; exact x3, by rw [q3 143 32 (by decide) (by decide) (by decide) (by omega)]; exact x4, fun k hk => ?_⟩
    rw [q3 166 _ (by decide) (by decide) (by decide) (by omega)]
    exact x5 k hk
  | d + 1, k, n + 1, s, hk, hn, hf, h20, hst, h12, h13 => by
    unfold g_m_settings_L105
    rw [if_neg (by omega), if_pos (by omega), w32_id (x := 11 + (k : Int)) (by omega) (by omega)]
    dsimp only
    rw [if_pos (by omega), w32_id (x := (k : Int) + 1) (by omega) (by omega)]
    have hst' := hst
    unfold stO at hst'
    have e := x_set105 (x := x) h d (k + 1) n (zu s 144 (11 + (k : Int)) (s 160 (k : Int))) (by omega) (by omega) (fun a j k1 k2 k3 => (zu_c (by omega)).trans (hf a j k1 k2 k3)) ((zu_a (by decide)).trans h20) (by
      unfold stO
      rw [zu_a (by decide), zu_a (by decide)]
      exact hst) (by
      by_cases c : (12 : Int) = 11 + (k : Int)
      · rw [zu_e c, show (k : Int) = 1 by omega]; exact hst'.1
      · rw [zu_i c]; exact h12) (by
      by_cases c : (13 : Int) = 11 + (k : Int)
      · rw [zu_e c, show (k : Int) = 2 by omega]; exact hst'.2
      · rw [zu_i c]; exact h13)
    rw [show ((k + 1 : Nat) : Int) = (k : Int) + 1 by omega] at e
    exact e
theorem x_set37 {σ0 : zS} (h : MI σ0) : ∀ (d n : Nat) (x b : Int) (s : zS), (b = 0 ∨ b = 1) → s 143 20 - s 143 21 ≤ (d : Int) → d + 2 < n → frS σ0 s → pI s → s 143 21 ≤ 160 → stO s → ∃ c s', g_m_settings_L37 n x b s = some (c, s') ∧ MI s' ∧ s' 143 20 = 0 ∧ frT5 σ0 s' := by
  have stop : ∀ (n : Nat) (x : Int) (s : zS), frS σ0 s → stO s → ∃ c s', g_m_settings_L37 (n + 1) x 0 s = some (c, s') ∧ MI s' ∧ s' 143 20 = 0 ∧ frT5 σ0 s' := by
    intro n x s hf hst
    unfold g_m_settings_L37
    rw [if_pos rfl]
    have q : ∀ a j, a ≠ 160 → (a ≠ 143 ∨ (j ≠ 20 ∧ j ≠ 21 ∧ j ≠ 22 ∧ j ≠ 23)) → zu s 143 20 0 a j = σ0 a j := fun a j k1 k2 => (zu_c (by omega)).trans (hf a j k1 (by omega))
    have hH := h.2.1
    dsimp only
    split
    · obtain ⟨s', e1, e2, e3, e4⟩ := x_set105 (x := x) h 7 0 zK (zu s 143 20 0) rfl (by show 7 < 1000000; omega) (fun a j k1 k2 _ => q a j k1 k2) (zu_e rfl) (by
        unfold stO at *
        rw [zu_a (by decide), zu_a (by decide)]
        exact hst) (by rw [q 144 12 (by decide) (by omega)]; exact hH.1) (by rw [q 144 13 (by decide) (by omega)]; exact hH.2.1)
      exact ⟨x, s', e1, e2, e3, e4⟩
    · refine ⟨_, _, rfl, ⟨NI_fr h.1 (fun j _ => q 144 j (by decide) (by omega)), HI_fr8 h.2.1 (fun j _ _ => q 144 j (by decide) (by omega)), ?_, II_fr h.2.2.2 (q 143 6 (by decide) (by omega)) (fun j => q 145 j (by decide) (by omega))⟩, zu_e rfl, fun a j hh => q a j (by omega) (by omega)⟩
      obtain ⟨x1, x2, x3, x4, x5⟩ := h.2.2.1
      refine ⟨by rw [zu_e rfl]; omega, by rw [q 143 27 (by decide) (by omega)]; exact x2, by rw [q 143 29 (by decide) (by omega)]; exact x3, by rw [q 143 32 (by decide) (by omega)]; exact x4, fun k hk => ?_⟩
      rw [q 166 _ (by decide) (by omega)]
      exact x5 k hk
  intro d
  induction d with
  | zero =>
    intro n x b s hb hd hn hf hp h5 hst
    obtain ⟨n, rfl⟩ : ∃ k, n = k + 2 := ⟨n - 2, by omega⟩
    by_cases c : b = 0
    · subst c; exact stop (n + 1) x s hf hst
    · unfold g_m_settings_L37
      rw [if_neg c]
      obtain ⟨b1, s1, e1, e2, e3, e4, e5⟩ := s_isSetting hp h5
      rw [e1]
      rw [Option.bind_some]
      try dsimp only
      obtain ⟨p1, p2⟩ := pI_160 hp h5 e2
      have f1 := hf.trans e3
      by_cases c1 : b1 = 0
      · rw [if_pos c1]
        unfold g_m_settings_L69
        rw [if_pos c1]
        subst c1
        exact stop n _ s1 f1 (e4 hst)
      · have e6 := e5 (by unfold pO at e2; omega)
        unfold pO at e2
        omega
  | succ d ih =>
    intro n x b s hb hd hn hf hp h5 hst
    obtain ⟨n, rfl⟩ : ∃ k, n = k + 2 := ⟨n - 2, by omega⟩
    by_cases c : b = 0
    · subst c; exact stop (n + 1) x s hf hst
    · unfold g_m_settings_L37
      rw [if_neg c]
      obtain ⟨b1, s1, e1, e2, e3, e4, e5⟩ := s_isSetting hp h5
      rw [e1]
      rw [Option.bind_some]
      try dsimp only
      obtain ⟨p1, p2⟩ := pI_160 hp h5 e2
      have f1 := hf.trans e3
      by_cases c1 : b1 = 0
      · rw [if_pos c1]
        unfold g_m_settings_L69
        rw [if_pos c1]
        subst c1
        exact stop n _ s1 f1 (e4 hst)
      · have hb1 : b1 = 1 := by unfold pO at e2; omega
        have e6 := e5 hb1
        rw [if_neg c1]
        by_cases c2 : s1 143 21 ≠ s1 143 20
        · rw [if_pos c2]
          unfold g_m_settings_L69
          rw [if_neg c1]
          obtain ⟨b2, s2, g1, g2, g3, g4⟩ := s_isSign1 (x := 59) p1 (by decide)
          rw [g1]
          rw [Option.bind_some]
          try dsimp only
          obtain ⟨p3, p4⟩ := pI_160 p1 p2 g2
          refine ih (n + 1) _ b2 s2 ?_ ?_ (by omega) (f1.trans (frS.of g3)) p3 p4 (stO_3 (e4 hst) g3)
          · unfold pO at g2; exact g2.1
          · unfold pO at e2 g2
            omega
        · rw [if_neg c2]
          exact stop n _ s1 f1 (e4 hst)
theorem x_set2 {σ : zS} (h : MI σ) : ∀ (d k n : Nat) (s : zS), k + d = 7 → d < n → (∀ a j, a ≠ 160 → s a j = σ a j) → (∀ j : Nat, j < k → s 160 (j : Int) = σ 144 (11 + (j : Int))) → ∃ c s', g_m_settings_L2 n (k : Int) s = some (c, s') ∧ MI s' ∧ s' 143 20 = 0 ∧ frT5 σ s'
  | _, _, 0, _, _, h, _, _ => absurd h (Nat.not_lt_zero _)
  | 0, k, n + 1, s, hk, _, hf, hs => by
    unfold g_m_settings_L2 g_m_begins
    rw [if_pos (by omega)]
    rw [Option.bind_some]
    try dsimp only
    have hH := h.2.1
    have f1 : frS σ (zu (zu s 143 21 0) 143 22 (-1)) := fun a j k1 k2 => by rw [zu_c (by omega), zu_c (by omega)]; exact hf a j k1
    have h20 := h.2.2.1.1
    have q20 : zu (zu s 143 21 0) 143 22 (-1) 143 20 = σ 143 20 := f1 143 20 (by decide) (by omega)
    have q21 : zu (zu s 143 21 0) 143 22 (-1) 143 21 = 0 := by rw [zu_i (by omega), zu_e rfl]
    refine x_set37 h 160 zK 0 1 _ (Or.inr rfl) (by rw [q20, q21]; omega) (by show _ < 1000000; omega) f1 ⟨by rw [q20]; omega, by rw [q20]; omega, by rw [q21]; omega⟩ (by rw [q21]; omega) ?_
    unfold stO
    rw [zu_a (by decide), zu_a (by decide), zu_a (by decide), zu_a (by decide)]
    have a1 := hs 1 (by omega)
    have a2 := hs 2 (by omega)
    rw [show ((1 : Nat) : Int) = 1 from rfl, show (11 : Int) + 1 = 12 from rfl] at a1
    rw [show ((2 : Nat) : Int) = 2 from rfl, show (11 : Int) + 2 = 13 from rfl] at a2
    rw [a1, a2]
    exact ⟨hH.1, hH.2.1⟩
  | d + 1, k, n + 1, s, hk, hn, hf, hs => by
    unfold g_m_settings_L2
    rw [if_neg (by omega), w32_id (x := 11 + (k : Int)) (by omega) (by omega), if_pos (by omega)]
    dsimp only
    rw [if_pos (by omega), w32_id (x := (k : Int) + 1) (by omega) (by omega)]
    have e := x_set2 h d (k + 1) n (zu s 160 (k : Int) (s 144 (11 + (k : Int)))) (by omega) (by omega) (fun a j k1 => (zu_a k1).trans (hf a j k1)) (fun j hj => by
      by_cases c : (j : Int) = (k : Int)
      · rw [zu_e c, c, hf 144 _ (by decide)]
      · rw [zu_i c]; exact hs j (by omega))
    rw [show ((k + 1 : Nat) : Int) = (k : Int) + 1 by omega] at e
    exact e
theorem x_settings2 {σ : zS} (h : MI σ) : ∃ c s, g_m_settings σ = some (c, s) ∧ MI s ∧ s 143 20 = 0 ∧ frT5 σ s := x_set2 h 7 0 zK σ rfl (by show 7 < 1000000; omega) (fun _ _ _ => rfl) (fun j hj => absurd hj (Nat.not_lt_zero _))
def frT4 (σ s : zS) : Prop := ∀ a j, (a < 143 ∨ 168 ≤ a ∨ (159 ≤ a ∧ a < 164) ∨ (165 ≤ a ∧ a < 168) ∨ a = 145 ∨ a = 148 ∨ (a = 144 ∧ 8 ≤ j ∧ j < 340) ∨ (a = 147 ∧ 1 ≤ j ∧ j < 121) ∨ (a = 143 ∧ (j = 6 ∨ j = 27 ∨ j = 29 ∨ j = 32))) → s a j = σ a j
theorem x_L2 {σ s : zS} (h : MI σ) (f : frL2 σ s) : MI s ∧ frT4 σ s :=
  ⟨MI_144 h (fun a j hh => f a j (by omega) (by omega)), fun a j hh => f a j (by omega) (by omega)⟩
theorem x_z20 {σ0 s : zS} (h : MI s) (f : frT4 σ0 s) : MI (zu s 143 20 0) ∧ zu s 143 20 0 143 20 = 0 ∧ frT4 σ0 (zu s 143 20 0) := by
  obtain ⟨s', e1, e2, e3, e4⟩ := m_clear h
  have q : s' = zu s 143 20 0 := by
    unfold g_m_clear at e1
    injection e1 with e1
    exact (congrArg Prod.snd e1).symm
  subst q
  exact ⟨e2, e3, fun a j hh => (zu_c (by omega)).trans (f a j hh)⟩
theorem x_loadStop {σ0 s : zS} {n k : Nat} (h : MI σ0) (f : frL2 σ0 s) (hk : 0 ≤ s 143 22 ∨ (k ≤ 12 ∧ ∀ t : Nat, t < k → bOk (bxA s 164 (4 * (t : Int))))) : ∃ c s', g_m_load_L8 (n + 1) (k : Int) 0 s = some (c, s') ∧ MI s' ∧ s' 143 20 = 0 ∧ frT4 σ0 s' := by
  obtain ⟨h1, f1⟩ := x_L2 h f
  obtain ⟨h2, h20, f2⟩ := x_z20 h1 f1
  unfold g_m_load_L8
  rw [if_pos rfl]
  try dsimp +instances only
  rw [show zu s 143 20 0 143 22 = s 143 22 from zu_i (by decide)]
  by_cases c : s 143 22 < 0
  · rw [if_pos c]
    obtain ⟨k12, hq⟩ := hk.resolve_left (by omega)
    obtain ⟨N, hN2, hN, hR⟩ := h2.1
    obtain ⟨v, s', g1, g2, g3, g4⟩ := s_load99 k12 k 0 zK (zu s 143 20 0) N 0 (by omega) (by show _ < 1000000; omega) hR hN (by omega) h2.2.1 (fun t ht => by
      rw [zu_bxa (by decide)]; exact hq t ht)
    refine ⟨v, s', g1, MI_q h2 g2 g3 (fun a j hh => g4 a j (by omega) (by omega)), ?_, fun a j hh => (g4 a j (by omega) (by omega)).trans (f2 a j hh)⟩
    rw [g4 143 20 (by omega) (by omega)]; exact h20
  · rw [if_neg c]
    exact ⟨_, _, rfl, h2, h20, f2⟩
theorem x_load8 {σ0 : zS} (h : MI σ0) : ∀ (d k n : Nat) (s : zS), k + d = 12 → 1 ≤ d → d + 1 < n → frL2 σ0 s → pI s → s 143 21 ≤ 160 → (0 ≤ s 143 22 ∨ ∀ t : Nat, t < k → bOk (bxA s 164 (4 * (t : Int)))) → ∃ c s', g_m_load_L8 n (k : Int) 1 s = some (c, s') ∧ MI s' ∧ s' 143 20 = 0 ∧ frT4 σ0 s' := by
  intro d
  induction d with
  | zero => intro k n s _ h1; omega
  | succ d ih =>
    intro k n s hk _ hn f p p5 hq
    obtain ⟨n, rfl⟩ : ∃ m, n = m + 2 := ⟨n - 2, by omega⟩
    unfold g_m_load_L8
    rw [if_neg (by decide), w32_id (x := 4 * (k : Int)) (by omega) (by omega)]
    obtain ⟨b, s1, e1, e2, e3, e4, e5⟩ := s_isSpelled (x := 4 * (k : Int)) p p5 (by omega)
    rw [e1]
    rw [Option.bind_some]
    try dsimp +instances only
    obtain ⟨p1, p15⟩ := pI_160 p p5 e2
    have f1 := f.trans e3
    rw [w32_id (x := (k : Int) + 1) (by omega) (by omega), show (k : Int) + 1 = ((k + 1 : Nat) : Int) by omega]
    have hb := e2
    unfold pO at hb
    have bxs : ∀ {u v : zS}, (∀ j, u 164 j = v 164 j) → ∀ t : Nat, bxA u 164 (4 * (t : Int)) = bxA v 164 (4 * (t : Int)) := fun q t => by
      unfold bxA
      rw [q, q, q, q]
    by_cases c : b = 0
    · rw [if_pos c]
      unfold g_m_load_L43
      rw [if_pos c, c]
      exact x_loadStop h f1 (Or.inl (hb.2.2.2.2.2 c))
    · have hb1 : b = 1 := by omega
      have hq1 : 0 ≤ s1 143 22 ∨ ∀ t : Nat, t < k + 1 → bOk (bxA s1 164 (4 * (t : Int))) := by
        rcases hq with hq | hq
        · exact Or.inl (hb.2.2.2.2.1 hq)
        · refine Or.inr (fun t ht => ?_)
          by_cases ct : t = k
          · subst ct; exact e5 hb1
          · have e : bxA s1 164 (4 * (t : Int)) = bxA s 164 (4 * (t : Int)) := by
              unfold bxA
              rw [e4 _ (by omega), e4 _ (by omega), e4 _ (by omega), e4 _ (by omega)]
            rw [e]; exact hq t (by omega)
      rw [if_neg c]
      by_cases c2 : s1 143 21 ≠ s1 143 20
      · rw [if_pos c2]
        unfold g_m_load_L43
        rw [if_neg c]
        by_cases c3 : 12 ≤ ((k + 1 : Nat) : Int)
        · rw [if_pos c3]
          obtain ⟨s2, g1, g2, g3⟩ := s_failsO p1
          dsimp only
          rw [g1]
          rw [Option.bind_some]
          dsimp only
          unfold g_m_load_L70
          unfold pO at g2
          exact x_loadStop h (f1.trans (frL2.of g3)) (Or.inl (g2.2.2.2.2.2 rfl))
        · rw [if_neg c3]
          obtain ⟨b2, s2, g1, g2, g3⟩ := s_isSign (x := 59) p1 (by decide)
          rw [g1]
          rw [Option.bind_some]
          dsimp only
          unfold g_m_load_L70
          have g4 := g2
          unfold pO at g4
          obtain ⟨p2, p25⟩ := pI_160 p1 p15 g2
          by_cases c4 : b2 = 0
          · rw [c4]
            exact x_loadStop h (f1.trans (frL2.of g3)) (Or.inl (g4.2.2.2.2.2 c4))
          · have hb2 : b2 = 1 := by omega
            rw [hb2]
            refine ih (k + 1) (n + 1) s2 (by omega) (by omega) (by omega) (f1.trans (frL2.of g3)) p2 p25 ?_
            rcases hq1 with hq1 | hq1
            · exact Or.inl (g4.2.2.2.2.1 hq1)
            · exact Or.inr (fun t ht => by rw [bxs (fun j => g3 164 j (by omega)) t]; exact hq1 t ht)
      · rw [if_neg c2]
        refine x_loadStop h f1 ?_
        rcases hq1 with hq1 | hq1
        · exact Or.inl hq1
        · exact Or.inr ⟨by omega, hq1⟩
theorem x_load2 {σ : zS} (h : MI σ) : ∃ c s, g_m_load σ = some (c, s) ∧ MI s ∧ s 143 20 = 0 ∧ frT4 σ s := by
  unfold g_m_load g_m_begins
  rw [Option.bind_some]
  dsimp only
  have f1 : frL2 σ (zu (zu σ 143 21 0) 143 22 (-1)) := fun a j k1 k2 => by rw [zu_c (by omega), zu_c (by omega)]
  have h20 := h.2.2.1.1
  have q20 : zu (zu σ 143 21 0) 143 22 (-1) 143 20 = σ 143 20 := f1 143 20 (by decide) (by omega)
  have q21 : zu (zu σ 143 21 0) 143 22 (-1) 143 21 = 0 := by rw [zu_i (by omega), zu_e rfl]
  exact x_load8 h 12 0 zK _ rfl (by omega) (by show _ < 1000000; omega) f1 ⟨by rw [q20]; omega, by rw [q20]; omega, by rw [q21]; omega⟩ (by rw [q21]; omega) (Or.inr (fun t ht => absurd ht (Nat.not_lt_zero _)))
theorem f_settings5 {σ : zS} (h : MI σ) : zP' (g_m_settings σ) (fun _ s => frT5 σ s) := by
  obtain ⟨v, s, e, -, -, e3⟩ := x_settings2 h
  rw [e]
  exact zP'.ret e3
theorem f_load4 {σ : zS} (h : MI σ) : zP' (g_m_load σ) (fun _ s => frT4 σ s) := by
  obtain ⟨v, s, e, -, -, e3⟩ := x_load2 h
  rw [e]
  exact zP'.ret e3
