/-! THE REFERENCE over the typed memory: the queries' line; run() and answer() -/
def qOk (s : zS) (k : Nat) : Prop := bOk (bxA s 161 (6 * (k : Int) + 1)) ∧ s 161 (6 * (k : Int) + 5) ≤ 160
theorem qOk_fr {σ s : zS} {k : Nat} (h : qOk σ k) (e : ∀ j : Int, 6 * (k : Int) ≤ j → j < 6 * (k : Int) + 6 → s 161 j = σ 161 j) : qOk s k := by
  unfold qOk bxA at *
  rw [e _ (by omega) (by omega), e _ (by omega) (by omega), e _ (by omega) (by omega), e _ (by omega) (by omega), e _ (by omega) (by omega)]
  exact h
theorem s_isQuery {k : Nat} (hk : k < 8) {σ : zS} (h : pI σ) (h5 : σ 143 21 ≤ 160) : ∃ b s, g_m_isQuery (k : Int) σ = some (b, s) ∧ pO σ s b ∧ frQ2 σ s ∧ (∀ j : Int, j < 6 * (k : Int) → s 161 j = σ 161 j) ∧ (b = 1 → qOk s k) := by
  unfold g_m_isQuery
  obtain ⟨v, s1, e1, e2, e3⟩ := s_word14 h h5
  rw [e1]
  rw [Option.bind_some]
  try dsimp only
  rw [w32_id (x := 6 * (k : Int)) (by omega) (by omega), if_pos (show 0 ≤ 6 * (k : Int) ∧ 6 * (k : Int) < 48 by omega), if_pos (show 0 ≤ 6 * (k : Int) ∧ 6 * (k : Int) < 48 by omega), zu_e (σ := s1) (a := 161) (i := 6 * (k : Int)) (j := 6 * (k : Int)) rfl]
  have l1 : ∀ j : Int, j < 6 * (k : Int) → zu s1 161 (6 * (k : Int)) v 161 j = σ 161 j := fun j hj => by rw [zu_i (by omega)]; exact e2 161 j (by omega)
  have f1 : frQ2 σ (zu s1 161 (6 * (k : Int)) v) := (frQ2.of e2).trans frQ2.u
  by_cases c : v < 0
  · rw [if_pos c]
    rw [if_pos c] at e3
    refine ⟨0, _, rfl, ?_, f1, l1, fun hh => absurd hh (by decide)⟩
    unfold pO at *
    rw [zu_a (by decide), zu_a (by decide), zu_a (by decide)]
    exact e3
  · rw [if_neg c]
    rw [if_neg c] at e3
    generalize hs1 : zu s1 161 (6 * (k : Int)) v = s1' at *
    have o1 : pO σ s1' 1 := by rw [← hs1]; exact pO_trans e3 (pO_60 (by decide))
    obtain ⟨p1, p1b⟩ := pI_160 h h5 o1
    obtain ⟨b2, s2, e4, e5, e6⟩ := s_isSign (x := 32) p1 (by decide)
    rw [e4]
    rw [Option.bind_some]
    try dsimp only
    have o2 := pO_trans o1 e5
    obtain ⟨p2, p2b⟩ := pI_160 h h5 o2
    have f2 := f1.trans (frQ2.of e6)
    have l2 : ∀ j : Int, j < 6 * (k : Int) → s2 161 j = σ 161 j := fun j hj => (e6 161 j (by omega)).trans (l1 j hj)
    by_cases c2 : b2 = 0
    · rw [if_pos c2]
      subst c2
      exact ⟨0, s2, rfl, o2, f2, l2, fun hh => absurd hh (by decide)⟩
    · rw [if_neg c2, w32_id (x := 6 * (k : Int) + 1) (by omega) (by omega)]
      obtain ⟨b3, s3, g1, g2, g3, g4, g5⟩ := s_isRange (x := 6 * (k : Int) + 1) p2 p2b (by omega)
      rw [g1]
      rw [Option.bind_some]
      try dsimp only
      have o3 := pO_trans o2 g2
      obtain ⟨p3, p3b⟩ := pI_160 h h5 o3
      have f3 := f2.trans g3
      have l3 : ∀ j : Int, j < 6 * (k : Int) → s3 161 j = σ 161 j := fun j hj => (g4 j (by omega) (by omega)).trans (l2 j hj)
      by_cases c3 : b3 = 0
      · rw [if_pos c3]
        subst c3
        exact ⟨0, s3, rfl, o3, f3, l3, fun hh => absurd hh (by decide)⟩
      · have hb3 : b3 = 1 := by unfold pO at g2; omega
        obtain ⟨a1, a2, a3⟩ := g5 hb3
        rw [if_neg c3]
        obtain ⟨b4, s4, e7, e8, e9⟩ := s_isSign (x := 32) p3 (by decide)
        rw [e7]
        rw [Option.bind_some]
        try dsimp only
        have o4 := pO_trans o3 e8
        obtain ⟨p4, p4b⟩ := pI_160 h h5 o4
        have f4 := f3.trans (frQ2.of e9)
        have l4 : ∀ j : Int, j < 6 * (k : Int) → s4 161 j = σ 161 j := fun j hj => (e9 161 j (by omega)).trans (l3 j hj)
        by_cases c4 : b4 = 0
        · rw [if_pos c4]
          subst c4
          exact ⟨0, s4, rfl, o4, f4, l4, fun hh => absurd hh (by decide)⟩
        · rw [if_neg c4, w32_id (x := 6 * (k : Int) + 3) (by omega) (by omega)]
          obtain ⟨b5, s5, k1, k2, k3, k4, k5⟩ := s_isRange (x := 6 * (k : Int) + 3) p4 p4b (by omega)
          rw [k1]
          rw [Option.bind_some]
          try dsimp only
          have o5 := pO_trans o4 k2
          obtain ⟨p5, p5b⟩ := pI_160 h h5 o5
          have f5 := f4.trans k3
          have l5 : ∀ j : Int, j < 6 * (k : Int) → s5 161 j = σ 161 j := fun j hj => (k4 j (by omega) (by omega)).trans (l4 j hj)
          by_cases c5 : b5 ≠ 0
          · have hb5 : b5 = 1 := by unfold pO at k2; omega
            obtain ⟨d1, d2, d3⟩ := k5 hb5
            have m1 : s5 161 (6 * (k : Int) + 1) = s3 161 (6 * (k : Int) + 1) := (k4 _ (by omega) (by omega)).trans (e9 161 _ (by omega))
            have m2 : s5 161 (6 * (k : Int) + 1 + 1) = s3 161 (6 * (k : Int) + 1 + 1) := (k4 _ (by omega) (by omega)).trans (e9 161 _ (by omega))
            have bx5 : bOk (bxA s5 161 (6 * (k : Int) + 1)) := by
              unfold bxA
              rw [show 6 * (k : Int) + 1 + 2 = 6 * (k : Int) + 3 by omega, show 6 * (k : Int) + 1 + 3 = 6 * (k : Int) + 3 + 1 by omega, m1, m2]
              exact ⟨a1, a2, a3, d1, d2, d3⟩
            rw [if_pos c5, w32_id (x := 6 * (k : Int) + 5) (by omega) (by omega), if_pos (by omega)]
            have o6 := pO_trans o5 (pO_60 (a := 161) (i := 6 * (k : Int) + 5) (v := -1) (by decide))
            obtain ⟨p6, p6b⟩ := pI_160 h h5 o6
            have f6 : frQ2 σ (zu s5 161 (6 * (k : Int) + 5) (-1)) := f5.trans frQ2.u
            have l6 : ∀ j : Int, j < 6 * (k : Int) → zu s5 161 (6 * (k : Int) + 5) (-1) 161 j = σ 161 j := fun j hj => (zu_i (by omega)).trans (l5 j hj)
            have bx6 : bOk (bxA (zu s5 161 (6 * (k : Int) + 5) (-1)) 161 (6 * (k : Int) + 1)) := by rw [zu_bxi (by omega)]; exact bx5
            have w6 : zu s5 161 (6 * (k : Int) + 5) (-1) 161 (6 * (k : Int) + 5) = -1 := zu_e rfl
            generalize zu s5 161 (6 * (k : Int) + 5) (-1) = s6 at *
            rw [s_here p6]
            rw [Option.bind_some]
            try dsimp only
            by_cases c6 : hereC s6 = 32
            · rw [if_pos c6]
              obtain ⟨q1, q2, q3⟩ := pO_s p6 (hereC_lt c6 (by decide))
              have o7 := pO_trans o6 q3
              obtain ⟨p7, p7b⟩ := pI_160 h h5 o7
              rw [q1]
              obtain ⟨v7, s7, r1, r2, r3⟩ := s_word15 p7 p7b
              rw [r1]
              rw [Option.bind_some]
              try dsimp only
              have o8 := pO_trans o7 r3
              obtain ⟨p8, p8b⟩ := pI_160 h h5 o8
              have g7 : fr3 s6 s7 := (fr3.u (by omega)).trans r2
              by_cases c7 : v7 < 0
              · rw [if_pos c7]
                rw [if_pos c7] at o8
                exact ⟨0, s7, rfl, o8, f6.trans (frQ2.of g7), fun j hj => (g7 161 j (by omega)).trans (l6 j hj), fun hh => absurd hh (by decide)⟩
              · rw [if_neg c7]
                obtain ⟨b8, s8, t1, t2, t3⟩ := s_isSign (x := 32) p8 (by decide)
                rw [t1]
                rw [Option.bind_some]
                try dsimp only
                have o9 := pO_trans o8 t2
                obtain ⟨p9, p9b⟩ := pI_160 h h5 o9
                have g8 := g7.trans t3
                by_cases c8 : b8 ≠ 0
                · rw [if_pos c8, if_pos (by omega)]
                  have oA := pO_trans o9 (pO_60 (a := 161) (i := 6 * (k : Int) + 5) (v := s8 143 21) (by decide))
                  obtain ⟨pA, pAb⟩ := pI_160 h h5 oA
                  obtain ⟨bB, sB, u1, u2, u3⟩ := s_test0 _ pA pAb
                  rw [u1]
                  rw [Option.bind_some]
                  try dsimp only
                  have hb := u2
                  unfold pO at hb
                  rw [if_pos hb.1]
                  refine ⟨bB, sB, rfl, pO_trans oA u2, ((f6.trans (frQ2.of g8)).trans frQ2.u).trans (frQ2.of u3), fun j hj => by rw [u3 161 j (by omega), zu_i (by omega), g8 161 j (by omega)]; exact l6 j hj, fun _ => ⟨?_, ?_⟩⟩
                  · unfold bxA at *
                    rw [u3 161 _ (by omega), u3 161 _ (by omega), u3 161 _ (by omega), u3 161 _ (by omega), zu_i (by omega), zu_i (by omega), zu_i (by omega), zu_i (by omega), g8 161 _ (by omega), g8 161 _ (by omega), g8 161 _ (by omega), g8 161 _ (by omega)]
                    exact bx6
                  · rw [u3 161 _ (by omega), zu_e rfl]
                    exact p9b
                · have hb8 : b8 = 0 := by omega
                  subst hb8
                  rw [if_neg c8]
                  exact ⟨0, s8, rfl, o9, f6.trans (frQ2.of g8), fun j hj => (g8 161 j (by omega)).trans (l6 j hj), fun hh => absurd hh (by decide)⟩
            · rw [if_neg c6]
              exact ⟨1, s6, rfl, o6, f6, l6, fun _ => ⟨bx6, by rw [w6]; decide⟩⟩
          · have hb5 : b5 = 0 := by omega
            subst hb5
            rw [if_neg c5]
            exact ⟨0, s5, rfl, o5, f5, l5, fun hh => absurd hh (by decide)⟩
/-- the end of a line: the tape is empty -/
theorem MI_z20 {σ0 s : zS} (h : MI s) (f : frT3 σ0 s) : MI (zu s 143 20 0) ∧ zu s 143 20 0 143 20 = 0 ∧ frT3 σ0 (zu s 143 20 0) := by
  obtain ⟨s', e1, e2, e3, e4⟩ := m_clear h
  have q : s' = zu s 143 20 0 := by
    unfold g_m_clear at e1
    injection e1 with e1
    exact (congrArg Prod.snd e1).symm
  subst q
  exact ⟨e2, e3, fun a j hh => (e4 a j (by omega)).trans (f a j hh)⟩
theorem s_run145 {σ0 s : zS} {x : Int} (h : MI s) (f : frT3 σ0 s) : ∃ c s', g_m_run_L145 x s = some (c, s') ∧ MI s' ∧ s' 143 20 = 0 ∧ frT3 σ0 s' := by
  have e := MI_z20 h f
  unfold g_m_run_L145
  dsimp only
  split
  · exact ⟨_, _, rfl, e⟩
  · exact ⟨_, _, rfl, e⟩
theorem s_run86 {σ0 : zS} {K : Nat} (hK : K ≤ 8) : ∀ (d k n : Nat) (s : zS), k + d = K → d < n → MI s → frT3 σ0 s → (∀ t : Nat, t < K → qOk s t) → ∃ c s', g_m_run_L86 n (K : Int) (k : Int) s = some (c, s') ∧ MI s' ∧ s' 143 20 = 0 ∧ frT3 σ0 s'
  | _, _, 0, _, _, h, _, _, _ => absurd h (Nat.not_lt_zero _)
  | 0, k, n + 1, s, hk, _, h, f, _ => by
    unfold g_m_run_L86
    rw [if_pos (by omega)]
    exact s_run145 h f
  | d + 1, k, n + 1, s, hk, hn, h, f, hq => by
    have l161 : zLI 161 = 48 := rfl
    have l152 : zLI 152 = 4 := rfl
    unfold g_m_run_L86
    rw [if_neg (by omega), w32_id (x := 6 * (k : Int)) (by omega) (by omega), w32_id (x := 6 * (k : Int) + 1) (by omega) (by omega), s_copies (by omega) (by omega) (by omega) (by omega) (by omega) (by omega)]
    rw [Option.bind_some]
    try dsimp only
    rw [if_pos (by omega), w32_id (x := 6 * (k : Int) + 5) (by omega) (by omega), if_pos (by omega)]
    obtain ⟨qb, qt⟩ := hq k (by omega)
    generalize hs1 : zb s 152 0 (bxA s 161 (6 * (k : Int) + 1)) = s1
    have f1 : ∀ a j, a ≠ 152 → s1 a j = s a j := fun a j ha => by rw [← hs1]; exact zb_a ha
    have hb1 : bxA s1 152 0 = bxA s 161 (6 * (k : Int) + 1) := by rw [← hs1]; exact zb_bx rfl
    have h1 : MI s1 := MI_144 h (fun a j hh => f1 a j (by omega))
    obtain ⟨N, n1, n2, n3⟩ := h1.1
    have h20 := h1.2.2.1.1
    obtain ⟨v, s2, N', e1, e2, e3, e4, e5, e6⟩ := s_asked (x := s1 161 (6 * (k : Int))) (t := s1 161 (6 * (k : Int) + 5)) n3 n2 n1 qb hb1 h1.2.1.2.1.1 h1.2.1.2.1.2 h1.2.1.1.1 (fun s' hs' => tst_ok (by rw [hs' 143 20 (by omega) (by omega) (by omega) (by omega) (by omega) (by omega)]; exact h20) (by rw [f1 161 _ (by decide)]; omega))
    rw [e1]
    rw [Option.bind_some]
    try dsimp only
    rw [if_pos (by omega), w32_id (x := (k : Int) + 1) (by omega) (by omega)]
    have q : ∀ a j, (a < 143 ∨ 168 ≤ a ∨ a = 159 ∨ a = 161 ∨ a = 166 ∨ a = 167 ∨ a = 145 ∨ a = 148 ∨ (a = 144 ∧ ((9 ≤ j ∧ j < 200) ∨ (260 ≤ j ∧ j < 340))) ∨ (a = 147 ∧ 1 ≤ j ∧ j < 61) ∨ (a = 143 ∧ (j = 6 ∨ j = 20 ∨ j = 27 ∨ j = 29 ∨ j = 32))) → s2 a j = s1 a j := fun a j hh => e5 a j (by omega) (by omega) (by omega) (by omega) (by omega) (by omega) (by omega) (by omega)
    have hH2 : HI s2 := HI_fr h1.2.1 (fun j hj => e5 144 j (by omega) (by omega) (by omega) (by omega) (by omega) (by omega) (by omega) (by omega)) e6
    have h2 : MI s2 := MI_q h1 ⟨N', e4, e3, e2⟩ hH2 (fun a j hh => q a j (by omega))
    have h3 : MI (zu s2 162 (k : Int) v) := MI_144 h2 (fun a j hh => zu_a (by omega))
    obtain ⟨c, s', g1, g2⟩ := s_run86 (σ0 := σ0) hK d (k + 1) n (zu s2 162 (k : Int) v) (by omega) (by omega) h3 (fun a j hh => by rw [zu_a (by omega), q a j (by omega), f1 a j (by omega)]; exact f a j hh) (fun t ht => qOk_fr (hq t ht) (fun j _ _ => by rw [zu_a (by decide), q 161 j (by omega), f1 161 j (by decide)]))
    rw [show ((k + 1 : Nat) : Int) = (k : Int) + 1 by omega] at g1
    exact ⟨c, s', g1, g2⟩
theorem MI_Q2 {σ s : zS} (h : MI σ) (f : frQ2 σ s) : MI s ∧ frT3 σ s :=
  ⟨MI_144 h (fun a j hh => f a j (by omega) (by omega)), fun a j hh => f a j (by omega) (by omega)⟩
theorem s_runStop {σ0 s : zS} {n k : Nat} (h : MI σ0) (f : frQ2 σ0 s) (hk : 0 ≤ s 143 22 ∨ (k ≤ 8 ∧ ∀ t : Nat, t < k → qOk s t)) : ∃ c s', g_m_run_L8 (n + 1) (k : Int) 0 s = some (c, s') ∧ MI s' ∧ s' 143 20 = 0 ∧ frT3 σ0 s' := by
  obtain ⟨h1, f1⟩ := MI_Q2 h f
  unfold g_m_run_L8
  rw [if_pos rfl]
  dsimp only
  by_cases c : 0 ≤ s 143 22
  · rw [if_pos c]; exact s_run145 h1 f1
  · rw [if_neg c]
    obtain ⟨k8, hq⟩ := hk.resolve_left c
    have q : ∀ a j, ¬ (a = 143 ∧ j = 27) → zu s 143 27 (k : Int) a j = s a j := fun a j hh => zu_c (by omega)
    refine s_run86 k8 k 0 zK (zu s 143 27 (k : Int)) (by omega) (by show _ < 1000000; omega) ⟨NI_fr h1.1 (fun j _ => q 144 j (by omega)), HI_fr8 h1.2.1 (fun j _ _ => q 144 j (by omega)), ?_, II_fr h1.2.2.2 (q 143 6 (by omega)) (fun j => q 145 j (by omega))⟩ (fun a j hh => (q a j (by omega)).trans (f1 a j hh)) (fun t ht => qOk_fr (hq t ht) (fun j _ _ => q 161 j (by omega)))
    obtain ⟨x1, x2, x3, x4, x5⟩ := h1.2.2.1
    refine ⟨by rw [q 143 20 (by omega)]; exact x1, by rw [zu_e rfl]; omega, by rw [q 143 29 (by omega)]; exact x3, by rw [q 143 32 (by omega)]; exact x4, fun k hk => ?_⟩
    rw [q 166 _ (by omega)]
    exact x5 k hk
theorem s_run8 {σ0 : zS} (h : MI σ0) : ∀ (d k n : Nat) (s : zS), k + d = 8 → 1 ≤ d → d + 1 < n → frQ2 σ0 s → pI s → s 143 21 ≤ 160 → (0 ≤ s 143 22 ∨ ∀ t : Nat, t < k → qOk s t) → ∃ c s', g_m_run_L8 n (k : Int) 1 s = some (c, s') ∧ MI s' ∧ s' 143 20 = 0 ∧ frT3 σ0 s' := by
  intro d
  induction d with
  | zero => intro k n s _ h1; omega
  | succ d ih =>
    intro k n s hk _ hn f p p5 hq
    obtain ⟨n, rfl⟩ : ∃ m, n = m + 2 := ⟨n - 2, by omega⟩
    unfold g_m_run_L8
    rw [if_neg (by decide)]
    obtain ⟨b, s1, e1, e2, e3, e4, e5⟩ := s_isQuery (k := k) (by omega) p p5
    rw [e1]
    rw [Option.bind_some]
    try dsimp only
    obtain ⟨p1, p15⟩ := pI_160 p p5 e2
    have f1 := f.trans e3
    rw [w32_id (x := (k : Int) + 1) (by omega) (by omega), show (k : Int) + 1 = ((k + 1 : Nat) : Int) by omega]
    have hb := e2
    unfold pO at hb
    by_cases c : b = 0
    · rw [if_pos c]
      unfold g_m_run_L41
      rw [if_pos c, c]
      exact s_runStop h f1 (Or.inl (hb.2.2.2.2.2 c))
    · have hb1 : b = 1 := by omega
      have hq1 : 0 ≤ s1 143 22 ∨ ∀ t : Nat, t < k + 1 → qOk s1 t := by
        rcases hq with hq | hq
        · exact Or.inl (hb.2.2.2.2.1 hq)
        · refine Or.inr (fun t ht => ?_)
          by_cases ct : t = k
          · subst ct; exact e5 hb1
          · exact qOk_fr (hq t (by omega)) (fun j _ j2 => e4 j (by omega))
      rw [if_neg c]
      by_cases c2 : s1 143 21 ≠ s1 143 20
      · rw [if_pos c2]
        unfold g_m_run_L41
        rw [if_neg c]
        by_cases c3 : 8 ≤ ((k + 1 : Nat) : Int)
        · rw [if_pos c3]
          obtain ⟨s2, g1, g2, g3⟩ := s_failsO p1
          dsimp only
          rw [g1]
          rw [Option.bind_some]
          try dsimp only
          unfold g_m_run_L68
          unfold pO at g2
          exact s_runStop h (f1.trans (frQ2.of g3)) (Or.inl (g2.2.2.2.2.2 rfl))
        · rw [if_neg c3]
          obtain ⟨b2, s2, g1, g2, g3⟩ := s_isSign (x := 59) p1 (by decide)
          rw [g1]
          rw [Option.bind_some]
          try dsimp only
          unfold g_m_run_L68
          have g4 := g2
          unfold pO at g4
          obtain ⟨p2, p25⟩ := pI_160 p1 p15 g2
          by_cases c4 : b2 = 0
          · rw [c4]
            exact s_runStop h (f1.trans (frQ2.of g3)) (Or.inl (g4.2.2.2.2.2 c4))
          · have hb2 : b2 = 1 := by omega
            rw [hb2]
            refine ih (k + 1) (n + 1) s2 (by omega) (by omega) (by omega) (f1.trans (frQ2.of g3)) p2 p25 ?_
            rcases hq1 with hq1 | hq1
            · exact Or.inl (g4.2.2.2.2.1 hq1)
            · exact Or.inr (fun t ht => qOk_fr (hq1 t ht) (fun j _ _ => g3 161 j (by omega)))
      · rw [if_neg c2]
        refine s_runStop h f1 ?_
        rcases hq1 with hq1 | hq1
        · exact Or.inl hq1
        · exact Or.inr ⟨by omega, hq1⟩
theorem m_run2 {σ : zS} (h : MI σ) : ∃ c s, g_m_run σ = some (c, s) ∧ MI s ∧ s 143 20 = 0 ∧ frT3 σ s := by
  unfold g_m_run g_m_begins
  rw [Option.bind_some]
  try dsimp only
  have f1 : frQ2 σ (zu (zu σ 143 21 0) 143 22 (-1)) := fun a j k1 k2 => by rw [zu_c (by omega), zu_c (by omega)]
  have h20 := h.2.2.1.1
  have q20 : zu (zu σ 143 21 0) 143 22 (-1) 143 20 = σ 143 20 := f1 143 20 (by decide) (by omega)
  have q21 : zu (zu σ 143 21 0) 143 22 (-1) 143 21 = 0 := by rw [zu_i (by omega), zu_e rfl]
  exact s_run8 h 8 0 zK _ rfl (by omega) (by show _ < 1000000; omega) f1 ⟨by rw [q20]; omega, by rw [q20]; omega, by rw [q21]; omega⟩ (by rw [q21]; omega) (Or.inr (fun t ht => absurd ht (Nat.not_lt_zero _)))
theorem m_run {σ : zS} (h : MI σ) : ∃ c s, g_m_run σ = some (c, s) ∧ MI s ∧ s 143 20 = 0 ∧ frT σ s := by
  obtain ⟨c, s, h1, h2, h3, h4⟩ := m_run2 h
  exact ⟨c, s, h1, h2, h3, h4.t⟩
theorem m_answer {x : Int} {σ : zS} (h : MI σ) : ∃ c, g_m_answer x σ = some (c, σ) := by
  have h27 := h.2.2.1.2.1
  unfold g_m_answer
  show ∃ c, (g_m_isIn x 0 (w32 (σ 143 27 - 1)) σ).bind _ = _
  rw [w32_id (x := σ 143 27 - 1) (by omega) (by omega)]
  by_cases c : 0 ≤ x ∧ x ≤ σ 143 27 - 1
  · rw [s_isIn_t c.1 c.2]
    rw [Option.bind_some]
    try dsimp only
    rw [if_neg (by decide), if_pos (by omega)]
    exact ⟨_, rfl⟩
  · rw [s_isIn_f (by omega)]
    rw [Option.bind_some]
    try dsimp only
    rw [if_pos rfl]
    exact ⟨_, rfl⟩
