section
/-! 58.refo -/
/-! THE REFERENCE over the typed memory: loading -/
def frL2 (σ s : zS) : Prop := ∀ a j, a ≠ 164 → (a ≠ 143 ∨ (j ≠ 21 ∧ j ≠ 22 ∧ j ≠ 23)) → s a j = σ a j
theorem frL2.of {σ s : zS} (h : fr3 σ s) : frL2 σ s := fun a j _ k => h a j k
theorem frL2.trans {σ s t : zS} (h1 : frL2 σ s) (h2 : frL2 s t) : frL2 σ t := fun a j k1 k2 => (h2 a j k1 k2).trans (h1 a j k1 k2)
theorem frL2.u {σ : zS} {i v : Int} : frL2 σ (zu σ 164 i v) := fun a j k1 _ => zu_a k1
theorem s_isSpelled {x : Int} {σ : zS} (h : pI σ) (h5 : σ 143 21 ≤ 160) (hx : 0 ≤ x ∧ x + 3 < 48) : zO (g_m_isSpelled x σ) (fun b s => pO σ s b ∧ frL2 σ s ∧ (∀ j, j < x → s 164 j = σ 164 j) ∧ (b = 1 → bOk (bxA s 164 x))) := by
  have w1 := w32_id (x := x + 1) (by omega) (by omega)
  have w2 := w32_id (x := x + 2) (by omega) (by omega)
  have w3 := w32_id (x := x + 3) (by omega) (by omega)
  have d3 : ∀ {s t : zS}, fr3 s t → ∀ j, t 164 j = s 164 j := fun f j => f 164 j (Or.inl (by decide))
  unfold g_m_isSpelled
  refine zO.bind (s_number h (by decide)) (fun b1 s1 p1 => ?_)
  obtain ⟨o1, f1, r1⟩ := p1
  try dsimp +instances only
  have i1 := pI_160 h h5 o1
  have hb1 := o1.1
  refine zO.ite (fun c1 => ?_) (fun c1 => ?_)
  · refine zO.gd (by omega) ?_
    try dsimp +instances only
    have hb : b1 = 1 := by omega
    subst hb
    have r1 := r1 rfl
    generalize hs22 : zu s1 164 x (s1 143 23) = s2
    have o2 : pO s1 s2 1 := by rw [← hs22]; exact pO_60 (by decide)
    have f2 : frL2 s1 s2 := by rw [← hs22]; exact frL2.u
    have v2 : s2 164 x = s1 143 23 := by rw [← hs22]; exact zu_e rfl
    have q2 : ∀ j, j ≠ x → s2 164 j = s1 164 j := fun j hj => by rw [← hs22]; exact zu_i hj
    have i2 := pI_160 i1.1 i1.2 o2
    refine zO.bind (s_isSign i2.1 (by decide)) (fun b3 s3 p3 => ?_)
    obtain ⟨o3, f3⟩ := p3
    try dsimp +instances only
    have i3 := pI_160 i2.1 i2.2 o3
    have O3 := pO_trans (pO_trans o1 o2) o3
    have F3 := ((frL2.of f1).trans f2).trans (frL2.of f3)
    refine zO.ite (fun c3 => ?_) (fun c3 => ?_)
    · subst c3
      exact zO.ret ⟨O3, F3, fun j hj => by rw [d3 f3, q2 j (by omega), d3 f1], fun hh => absurd hh (by decide)⟩
    · refine zO.gd (by omega) ?_
      try dsimp +instances only
      refine zO.bind (s_number i3.1 (by decide)) (fun b4 s4 p4 => ?_)
      obtain ⟨o4, f4, r4⟩ := p4
      try dsimp +instances only
      have i4 := pI_160 i3.1 i3.2 o4
      have O4 := pO_trans O3 o4
      have F4 := F3.trans (frL2.of f4)
      have hb4 := o4.1
      refine zO.ite (fun c4 => ?_) (fun c4 => ?_)
      · refine zO.gd (by omega) ?_
        try dsimp +instances only
        have hb : b4 = 1 := by omega
        subst hb
        have r4 := r4 rfl
        rw [w1]
        generalize hs61 : zu s4 164 (x + 1) (s4 143 23) = s5
        have o5 : pO s4 s5 1 := by rw [← hs61]; exact pO_60 (by decide)
        have f5 : frL2 s4 s5 := by rw [← hs61]; exact frL2.u
        have v5 : s5 164 (x + 1) = s4 143 23 := by rw [← hs61]; exact zu_e rfl
        have q5 : ∀ j, j ≠ x + 1 → s5 164 j = s4 164 j := fun j hj => by rw [← hs61]; exact zu_i hj
        have i5 := pI_160 i4.1 i4.2 o5
        refine zO.bind (s_isSign i5.1 (by decide)) (fun b6 s6 p6 => ?_)
        obtain ⟨o6, f6⟩ := p6
        try dsimp +instances only
        have i6 := pI_160 i5.1 i5.2 o6
        have O6 := pO_trans (pO_trans O4 o5) o6
        have F6 := (F4.trans f5).trans (frL2.of f6)
        refine zO.ite (fun c6 => ?_) (fun c6 => ?_)
        · subst c6
          exact zO.ret ⟨O6, F6, fun j hj => by rw [d3 f6, q5 j (by omega), d3 f4, d3 f3, q2 j (by omega), d3 f1], fun hh => absurd hh (by decide)⟩
        · refine zO.bind (s_number i6.1 (by decide)) (fun b7 s7 p7 => ?_)
          obtain ⟨o7, f7, r7⟩ := p7
          try dsimp +instances only
          have i7 := pI_160 i6.1 i6.2 o7
          have O7 := pO_trans O6 o7
          have F7 := F6.trans (frL2.of f7)
          have hb7 := o7.1
          refine zO.ite (fun c7 => ?_) (fun c7 => ?_)
          · refine zO.gd (by omega) ?_
            try dsimp +instances only
            have hb : b7 = 1 := by omega
            subst hb
            have r7 := r7 rfl
            rw [w2]
            generalize hs95 : zu s7 164 (x + 2) (s7 143 23) = s8
            have o8 : pO s7 s8 1 := by rw [← hs95]; exact pO_60 (by decide)
            have f8 : frL2 s7 s8 := by rw [← hs95]; exact frL2.u
            have v8 : s8 164 (x + 2) = s7 143 23 := by rw [← hs95]; exact zu_e rfl
            have q8 : ∀ j, j ≠ x + 2 → s8 164 j = s7 164 j := fun j hj => by rw [← hs95]; exact zu_i hj
            have i8 := pI_160 i7.1 i7.2 o8
            refine zO.bind (s_isSign i8.1 (by decide)) (fun b9 s9 p9 => ?_)
            obtain ⟨o9, f9⟩ := p9
            try dsimp +instances only
            have i9 := pI_160 i8.1 i8.2 o9
            have O9 := pO_trans (pO_trans O7 o8) o9
            have F9 := (F7.trans f8).trans (frL2.of f9)
            refine zO.ite (fun c9 => ?_) (fun c9 => ?_)
            · subst c9
              exact zO.ret ⟨O9, F9, fun j hj => by rw [d3 f9, q8 j (by omega), d3 f7, d3 f6, q5 j (by omega), d3 f4, d3 f3, q2 j (by omega), d3 f1], fun hh => absurd hh (by decide)⟩
            · refine zO.gd (by omega) ?_
              try dsimp +instances only
              refine zO.bind (s_number i9.1 (by decide)) (fun ba sa pa => ?_)
              obtain ⟨oa, fa, ra⟩ := pa
              try dsimp +instances only
              have Oa := pO_trans O9 oa
              have Fa := F9.trans (frL2.of fa)
              have hba := oa.1
              refine zO.ite (fun ca => ?_) (fun ca => ?_)
              · refine zO.gd (by omega) ?_
                try dsimp +instances only
                have hb : ba = 1 := by omega
                subst hb
                have ra := ra rfl
                rw [w3]
                refine zO.ret ⟨pO_trans Oa (pO_60 (by decide)), Fa.trans frL2.u, fun j hj => by rw [zu_i (by omega), d3 fa, d3 f9, q8 j (by omega), d3 f7, d3 f6, q5 j (by omega), d3 f4, d3 f3, q2 j (by omega), d3 f1], fun _ => ?_⟩
                have e0 : zu sa 164 (x + 3) (sa 143 23) 164 x = s1 143 23 := by rw [zu_i (by omega), d3 fa, d3 f9, q8 x (by omega), d3 f7, d3 f6, q5 x (by omega), d3 f4, d3 f3, v2]
                have e1 : zu sa 164 (x + 3) (sa 143 23) 164 (x + 1) = s4 143 23 := by rw [zu_i (by omega), d3 fa, d3 f9, q8 (x + 1) (by omega), d3 f7, d3 f6, v5]
                have e2 : zu sa 164 (x + 3) (sa 143 23) 164 (x + 2) = s7 143 23 := by rw [zu_i (by omega), d3 fa, d3 f9, v8]
                have e3 : zu sa 164 (x + 3) (sa 143 23) 164 (x + 3) = sa 143 23 := zu_e rfl
                have k4 : s3 164 x = s1 143 23 := by rw [d3 f3, v2]
                have ka : s9 164 (x + 2) = s7 143 23 := by rw [d3 f9, v8]
                have g4 := r4
                have ga := ra
                rw [k4] at g4
                rw [ka] at ga
                show bOk (bxA (zu sa 164 (x + 3) (sa 143 23)) 164 x)
                unfold bxA
                rw [e0, e1, e2, e3]
                exact ⟨r1.1, g4.1, g4.2, r7.1, ga.1, ga.2⟩
              · have hb : ba = 0 := by omega
                subst hb
                exact zO.ret ⟨Oa, Fa, fun j hj => by rw [d3 fa, d3 f9, q8 j (by omega), d3 f7, d3 f6, q5 j (by omega), d3 f4, d3 f3, q2 j (by omega), d3 f1], fun hh => absurd hh (by decide)⟩
          · have hb : b7 = 0 := by omega
            subst hb
            exact zO.ret ⟨O7, F7, fun j hj => by rw [d3 f7, d3 f6, q5 j (by omega), d3 f4, d3 f3, q2 j (by omega), d3 f1], fun hh => absurd hh (by decide)⟩
      · have hb : b4 = 0 := by omega
        subst hb
        exact zO.ret ⟨O4, F4, fun j hj => by rw [d3 f4, d3 f3, q2 j (by omega), d3 f1], fun hh => absurd hh (by decide)⟩
  · have hb : b1 = 0 := by omega
    subst hb
    exact zO.ret ⟨o1, frL2.of f1, fun j _ => d3 f1 j, fun hh => absurd hh (by decide)⟩
theorem iAnd_b {x : Int} (h : x = 0 ∨ x = 1) : iAnd x 0 = 0 ∧ iAnd x 1 = x := by
  rcases h with rfl | rfl <;> decide +kernel
theorem s_meetsNone5 {a : Nat} {i : Int} {σ : zS} {N : Nat} (hN : σ 144 0 = (N : Int)) (hN2 : N ≤ 239) (h1 : 0 ≤ i) (h2 : i + 3 < zLI a) (h3 : zLI a ≤ 100000) : ∀ (d k n : Nat) (x : Int), k + d = N → d < n → (x = 0 ∨ x = 1) → (x = 1 → ∀ t : Nat, t < k → ¬ bMt (bxA σ a i) (rgA σ (t : Int)).1) → zOp (g_m_meetsNone_L5 a n i x (k : Int) σ) σ (fun b => (b = 0 ∨ b = 1) ∧ (b = 1 → ∀ t : Nat, t < N → ¬ bMt (bxA σ a i) (rgA σ (t : Int)).1)) := by
  intro d
  induction d with
  | zero =>
    intro k n x hk hn hx hm
    obtain ⟨n, rfl⟩ : ∃ m, n = m + 1 := ⟨n - 1, by omega⟩
    unfold g_m_meetsNone_L5
    refine zOp.ite (fun _ => ?_) (fun c => absurd (show σ 144 0 ≤ (k : Int) by omega) c)
    exact zOp.gd hx (zOp.ret ⟨hx, fun h t ht => hm h t (by omega)⟩)
  | succ d ih =>
    intro k n x hk hn hx hm
    obtain ⟨n, rfl⟩ : ∃ m, n = m + 1 := ⟨n - 1, by omega⟩
    have e1 : w32 ((k : Int) + 1) = ((k + 1 : Nat) : Int) := by rw [w32_id (by omega) (by omega)]; omega
    unfold g_m_meetsNone_L5
    refine zOp.ite (fun c => ?_) (fun _ => ?_)
    · have c : σ 144 0 ≤ (k : Int) := c
      exfalso; omega
    · refine zOp.bindp (P := fun v => v = 340 + 10 * (k : Int)) ⟨_, s_region (by omega) (by omega), rfl⟩ (fun v hv => ?_)
      subst hv
      refine zOp.bindp (P := fun v => (v = 1 ∧ bMt (bxA σ a i) (bxA σ 144 (340 + 10 * (k : Int)))) ∨ (v = 0 ∧ ¬ bMt (bxA σ a i) (bxA σ 144 (340 + 10 * (k : Int))))) ⟨_, s_doMeet h1 h2 h3 (by omega) (by rw [l144]; omega) (by rw [l144]; omega), ?_⟩ (fun v hv => ?_)
      · by_cases c : bMt (bxA σ a i) (bxA σ 144 (340 + 10 * (k : Int)))
        · rw [if_pos c]; exact Or.inl ⟨rfl, c⟩
        · rw [if_neg c]; exact Or.inr ⟨rfl, c⟩
      · unfold g_m_meetsNone_L39
        rw [e1, (iAnd_b hx).1, (iAnd_b hx).2]
        refine zOp.ite (fun c => ?_) (fun c => ?_)
        · exact ih (k + 1) n 0 (by omega) (by omega) (Or.inl rfl) (fun h => absurd h (by decide))
        · refine ih (k + 1) n x (by omega) (by omega) hx (fun h t ht => ?_)
          by_cases ct : t = k
          · subst ct
            rcases hv with hv | hv
            · exact absurd (show v ≠ 0 by omega) c
            · exact hv.2
          · exact hm h t (by omega)
theorem l164 : zLI 164 = 48 := rfl
theorem frR_ask {σ : zS} {c : Int} : frR σ (askS σ c) := fun a j k1 k2 => askS_a (by omega)
theorem s_load99 {K : Nat} (hK : K ≤ 12) : ∀ (d k n : Nat) (s : zS) (N : Nat) (x : Int), k + d = K → d < n → RI s N → s 144 0 = (N : Int) → N ≤ 12 + k → HI s → (∀ t : Nat, t < K → bOk (bxA s 164 (4 * (t : Int)))) → ∃ v s', g_m_load_L99 n (K : Int) x (k : Int) s = some (v, s') ∧ NI s' ∧ HI s' ∧ frR s s'
  | _, _, 0, _, _, _, _, h => absurd h (Nat.not_lt_zero _)
  | 0, k, n + 1, s, N, x, hk, _ => by
    intro hR hN hN2 hH hB
    unfold g_m_load_L99
    rw [if_pos (by omega)]
    obtain ⟨s', N', e1, e2, e3, e4, e5, e6⟩ := s_trims hR hN (by omega) hH.2.1.1 hH.1.1
    rw [e1]
    rw [Option.bind_some]
    have := hH.2.1.2
    exact ⟨x, s', rfl, ⟨N', by omega, e4, e3⟩, HI_fr8 hH (fun j j1 j2 => e5 144 j (Or.inr ⟨j1, j2⟩) (Or.inl (by decide))), e5⟩
  | d + 1, k, n + 1, s, N, x, hk, hn => by
    intro hR hN hN2 hH hB
    unfold g_m_load_L99
    have e4 := w32_id (x := 4 * (k : Int)) (by omega) (by omega)
    have e1 : w32 ((k : Int) + 1) = ((k + 1 : Nat) : Int) := by rw [w32_id (by omega) (by omega)]; omega
    rw [if_neg (by omega), e4]
    unfold g_m_meetsNone
    obtain ⟨b, g1, g2, g3⟩ := s_meetsNone5 (a := 164) (i := 4 * (k : Int)) hN (by omega) (by omega) (by rw [l164]; omega) (by rw [l164]; omega) N 0 zK 1 (by omega) (by show _ < 1000000; omega) (Or.inr rfl) (fun _ t ht => absurd ht (Nat.not_lt_zero _))
    rw [show ((0 : Nat) : Int) = 0 from rfl] at g1
    rw [g1]
    rw [Option.bind_some]
    try dsimp +instances only
    unfold g_m_load_L154
    by_cases c : b ≠ 0
    · have hb : b = 1 := by omega
      rw [if_pos c, s_asks (by decide) (by omega) (by rw [l164]; omega) (by rw [l164]; omega)]
      rw [Option.bind_some]
      try dsimp +instances only
      generalize hc : costN s (bxA s 164 (4 * (k : Int))) = cst
      have qN : askS s cst 144 0 = (N : Int) := by rw [askS_a (by omega)]; exact hN
      rw [s_adds qN (by omega) (by omega) (by omega) (by rw [l164]; omega) (by rw [l164]; omega)]
      rw [Option.bind_some]
      try dsimp +instances only
      rw [s_weighs (by omega) (by omega)]
      rw [Option.bind_some]
      try dsimp +instances only
      rw [e1, askS_bx (Or.inl (by decide))]
      generalize hbx : bxA s 164 (4 * (k : Int)) = p
      generalize hs1 : addsS (askS s cst) (N : Int) p = s1
      have hp : bOk p := by rw [← hbx]; exact hB k (by omega)
      have R0 : RI (askS s cst) N := RI_of hR (fun t _ => by rw [rgA_ask (by omega)]; exact ⟨rfl, rfl⟩)
      have R1 : RI s1 (N + 1) := by
        rw [← hs1]
        refine RI_adds R0 hp (fun t ht hm => ?_)
        rw [rgA_ask (by omega)] at hm
        refine g3 hb t ht ?_
        rw [hbx]
        exact bMt_comm hm
      have R2 : RI (trW s1 (N : Int)) (N + 1) := RI_of R1 (fun t _ => rgA_w)
      have fA : frR s s1 := by
        rw [← hs1]
        intro a j k1 k2
        rw [addsS_a (by omega)]
        exact frR_ask a j k1 k2
      have fW : frR s1 (trW s1 (N : Int)) := fun a j k1 k2 => zu_c (by omega)
      have f := fA.trans fW
      have n1 : trW s1 (N : Int) 144 0 = ((N + 1 : Nat) : Int) := by
        rw [show trW s1 (N : Int) 144 0 = s1 144 0 from zu_a (by decide), ← hs1, addsS_N (by omega) (by omega)]
        omega
      obtain ⟨v, s', h1, h2, h3, h4⟩ := s_load99 hK d (k + 1) n (trW s1 (N : Int)) (N + 1) (w32 (x + 1)) (by omega) (by omega) R2 n1 (by omega) (HI_fr8 hH (fun j j1 j2 => f 144 j (Or.inr ⟨j1, j2⟩) (Or.inl (by decide)))) (fun t ht => by
        have e : bxA (trW s1 (N : Int)) 164 (4 * (t : Int)) = bxA s 164 (4 * (t : Int)) := by
          unfold bxA
          rw [f 164 _ (Or.inl (by decide)) (Or.inl (by decide)), f 164 _ (Or.inl (by decide)) (Or.inl (by decide)), f 164 _ (Or.inl (by decide)) (Or.inl (by decide)), f 164 _ (Or.inl (by decide)) (Or.inl (by decide))]
        rw [e]; exact hB t ht)
      exact ⟨v, s', h1, h2, h3, f.trans h4⟩
    · rw [if_neg c, e1]
      exact s_load99 hK d (k + 1) n s N x (by omega) (by omega) hR hN (by omega) hH hB
theorem MI_L2 {σ s : zS} (h : MI σ) (f : frL2 σ s) : MI s ∧ frT3 σ s :=
  ⟨MI_144 h (fun a j hh => f a j (by omega) (by omega)), fun a j hh => f a j (by omega) (by omega)⟩
theorem s_loadStop {σ0 s : zS} {n k : Nat} (h : MI σ0) (f : frL2 σ0 s) (hk : 0 ≤ s 143 22 ∨ (k ≤ 12 ∧ ∀ t : Nat, t < k → bOk (bxA s 164 (4 * (t : Int))))) : ∃ c s', g_m_load_L8 (n + 1) (k : Int) 0 s = some (c, s') ∧ MI s' ∧ s' 143 20 = 0 ∧ frT3 σ0 s' := by
  obtain ⟨h1, f1⟩ := MI_L2 h f
  obtain ⟨h2, h20, f2⟩ := MI_z20 h1 f1
  unfold g_m_load_L8
  rw [if_pos rfl]
  try dsimp +instances only
  rw [show zu s 143 20 0 143 22 = s 143 22 from zu_i (by decide)]
  by_cases c : s 143 22 < 0
  · rw [if_pos c]
    obtain ⟨k12, hq⟩ := hk.resolve_left (by omega)
    obtain ⟨N, hN2, hN, hR⟩ := h2.1
    obtain ⟨v, s', g1, g2, g3, g4⟩ := s_load99 k12 k 0 zK (zu s 143 20 0) N 0 (by omega) (by show _ < 1000000; omega) hR hN (by omega) h2.2.1 (fun t ht => by
      rw [zu_bxa (by decide)]; exact hq t ht)
    refine ⟨v, s', g1, MI_q h2 g2 g3 (fun a j hh => g4 a j (by omega) (by omega)), ?_, fun a j hh => (g4 a j (by omega) (by omega)).trans (f2 a j hh)⟩
    rw [g4 143 20 (by omega) (by omega)]; exact h20
  · rw [if_neg c]
    exact ⟨_, _, rfl, h2, h20, f2⟩
theorem s_load8 {σ0 : zS} (h : MI σ0) : ∀ (d k n : Nat) (s : zS), k + d = 12 → 1 ≤ d → d + 1 < n → frL2 σ0 s → pI s → s 143 21 ≤ 160 → (0 ≤ s 143 22 ∨ ∀ t : Nat, t < k → bOk (bxA s 164 (4 * (t : Int)))) → ∃ c s', g_m_load_L8 n (k : Int) 1 s = some (c, s') ∧ MI s' ∧ s' 143 20 = 0 ∧ frT3 σ0 s' := by
  intro d
  induction d with
  | zero => intro k n s _ h1; omega
  | succ d ih =>
    intro k n s hk _ hn f p p5 hq
    obtain ⟨n, rfl⟩ : ∃ m, n = m + 2 := ⟨n - 2, by omega⟩
    unfold g_m_load_L8
    rw [if_neg (by decide), w32_id (x := 4 * (k : Int)) (by omega) (by omega)]
    obtain ⟨b, s1, e1, e2, e3, e4, e5⟩ := s_isSpelled (x := 4 * (k : Int)) p p5 (by omega)
    rw [e1]
    rw [Option.bind_some]
    try dsimp +instances only
    obtain ⟨p1, p15⟩ := pI_160 p p5 e2
    have f1 := f.trans e3
    rw [w32_id (x := (k : Int) + 1) (by omega) (by omega), show (k : Int) + 1 = ((k + 1 : Nat) : Int) by omega]
    have hb := e2
    unfold pO at hb
    have bxs : ∀ {u v : zS}, (∀ j, u 164 j = v 164 j) → ∀ t : Nat, bxA u 164 (4 * (t : Int)) = bxA v 164 (4 * (t : Int)) := fun q t => by
      unfold bxA
      rw [q, q, q, q]
    by_cases c : b = 0
    · rw [if_pos c]
      unfold g_m_load_L43
      rw [if_pos c, c]
      exact s_loadStop h f1 (Or.inl (hb.2.2.2.2.2 c))
    · have hb1 : b = 1 := by omega
      have hq1 : 0 ≤ s1 143 22 ∨ ∀ t : Nat, t < k + 1 → bOk (bxA s1 164 (4 * (t : Int))) := by
        rcases hq with hq | hq
        · exact Or.inl (hb.2.2.2.2.1 hq)
        · refine Or.inr (fun t ht => ?_)
          by_cases ct : t = k
          · subst ct; exact e5 hb1
          · have e : bxA s1 164 (4 * (t : Int)) = bxA s 164 (4 * (t : Int)) := by
              unfold bxA
              rw [e4 _ (by omega), e4 _ (by omega), e4 _ (by omega), e4 _ (by omega)]
            rw [e]; exact hq t (by omega)
      rw [if_neg c]
      by_cases c2 : s1 143 21 ≠ s1 143 20
      · rw [if_pos c2]
        unfold g_m_load_L43
        rw [if_neg c]
        by_cases c3 : 12 ≤ ((k + 1 : Nat) : Int)
        · rw [if_pos c3]
          obtain ⟨s2, g1, g2, g3⟩ := s_failsO p1
          dsimp only
          rw [g1]
          rw [Option.bind_some]
          dsimp only
          unfold g_m_load_L70
          unfold pO at g2
          exact s_loadStop h (f1.trans (frL2.of g3)) (Or.inl (g2.2.2.2.2.2 rfl))
        · rw [if_neg c3]
          obtain ⟨b2, s2, g1, g2, g3⟩ := s_isSign (x := 59) p1 (by decide)
          rw [g1]
          rw [Option.bind_some]
          dsimp only
          unfold g_m_load_L70
          have g4 := g2
          unfold pO at g4
          obtain ⟨p2, p25⟩ := pI_160 p1 p15 g2
          by_cases c4 : b2 = 0
          · rw [c4]
            exact s_loadStop h (f1.trans (frL2.of g3)) (Or.inl (g4.2.2.2.2.2 c4))
          · have hb2 : b2 = 1 := by omega
            rw [hb2]
            refine ih (k + 1) (n + 1) s2 (by omega) (by omega) (by omega) (f1.trans (frL2.of g3)) p2 p25 ?_
            rcases hq1 with hq1 | hq1
            · exact Or.inl (g4.2.2.2.2.1 hq1)
            · exact Or.inr (fun t ht => by rw [bxs (fun j => g3 164 j (by omega)) t]; exact hq1 t ht)
      · rw [if_neg c2]
        refine s_loadStop h f1 ?_
        rcases hq1 with hq1 | hq1
        · exact Or.inl hq1
        · exact Or.inr ⟨by omega, hq1⟩
theorem m_load2 {σ : zS} (h : MI σ) : ∃ c s, g_m_load σ = some (c, s) ∧ MI s ∧ s 143 20 = 0 ∧ frT3 σ s := by
  unfold g_m_load g_m_begins
  rw [Option.bind_some]
  dsimp only
  have f1 : frL2 σ (zu (zu σ 143 21 0) 143 22 (-1)) := fun a j k1 k2 => by rw [zu_c (by omega), zu_c (by omega)]
  have h20 := h.2.2.1.1
  have q20 : zu (zu σ 143 21 0) 143 22 (-1) 143 20 = σ 143 20 := f1 143 20 (by decide) (by omega)
  have q21 : zu (zu σ 143 21 0) 143 22 (-1) 143 21 = 0 := by rw [zu_i (by omega), zu_e rfl]
  exact s_load8 h 12 0 zK _ rfl (by omega) (by show _ < 1000000; omega) f1 ⟨by rw [q20]; omega, by rw [q20]; omega, by rw [q21]; omega⟩ (by rw [q21]; omega) (Or.inr (fun t ht => absurd ht (Nat.not_lt_zero _)))
theorem m_load {σ : zS} (h : MI σ) : ∃ c s, g_m_load σ = some (c, s) ∧ MI s ∧ s 143 20 = 0 ∧ frT σ s := by
  obtain ⟨c, s, h1, h2, h3, h4⟩ := m_load2 h
  exact ⟨c, s, h1, h2, h3, h4.t⟩
end
section
/-! 59.ops -/
/-! BOTH SIDES: what every pair of calls keeps -/
theorem rng_ref {a : Nat} {j : Int} (h : (143 ≤ a ∧ a < 168) ∨ 168 ≤ a) : rng a j = none := by
  unfold rng
  rw [if_neg (by omega)]
  rw [if_neg (by omega)]
  rw [if_neg (by omega)]
  rw [if_neg (by omega)]
  rw [if_neg (by omega)]
  rw [if_neg (by omega)]
  rw [if_neg (by omega)]
  rw [if_neg (by omega)]
  rw [if_neg (by omega)]
  rw [if_neg (by omega)]
  rw [if_neg (by omega)]
  rw [if_neg (by omega)]
  rw [if_neg (by omega)]
theorem CI_ref {σ s : zS} (H : CI σ) (e : ∀ a j, (a < 143 ∨ 168 ≤ a) → s a j = σ a j) : CI s := by
  refine ⟨fun a j => ?_, ?_⟩
  · by_cases c : a < 143
    · rw [e a j (Or.inl c)]; exact H.1 a j
    · intro lo hi h
      rw [rng_ref (by omega)] at h
      cases h
  · unfold PG
    rw [e 129 1 (by omega), e 129 3 (by omega), e 169 0 (by omega)]
    exact H.2
theorem MI_cls {σ s : zS} (h : MI σ) (e : ∀ a j, 143 ≤ a → a < 168 → s a j = σ a j) : MI s := MI_144 h (fun a j hh => e a j (by omega) (by omega))
/-- what stands between the calls -/
def Inv (σ : zS) : Prop := CI σ ∧ MI σ ∧ σ 120 1 = σ 143 20 ∧ ∀ k : Int, 0 ≤ k → k < 6 → σ 142 k = σ 166 k
/-- the reference's call leaves the tape's length, the lists' lengths and all that is not its own -/
def frI (σ s : zS) : Prop := ∀ a j, (a < 143 ∨ 168 ≤ a ∨ a = 166 ∨ (a = 143 ∧ j = 20)) → s a j = σ a j
theorem frC.i {σ s : zS} (h : frC σ s) : frI σ s := fun a j k => h a j (by omega)
theorem frL.i {σ s : zS} (h : frL σ s) : frI σ s := fun a j k => h a j (by omega)
theorem frI.refl (σ : zS) : frI σ σ := fun _ _ _ => rfl
def two (c : Option (Int × zS)) (m : zS → Option (Int × zS)) (Q : Int → Int → zS → Prop) : Prop := zO c (fun v s1 => zO (m s1) (fun w s2 => Q v w s2))
theorem inv_mid {F : Nat → Int → Bool} {σ s : zS} (I : Inv σ) (H : CI s) (G : fr F σ s) (f1 : F 120 1 = false) (f2 : ∀ k, F 142 k = false) : Inv s := by
  refine ⟨H, MI_cls I.2.1 (fun a j h1 h2 => G a j (Or.inl ⟨h1, h2⟩)), ?_, fun k h1 h2 => ?_⟩
  · rw [G 120 1 (Or.inr f1), G 143 20 (Or.inl (by decide))]; exact I.2.2.1
  · rw [G 142 k (Or.inr (f2 k)), G 166 k (Or.inl (by decide))]; exact I.2.2.2 k h1 h2
theorem inv_end {σ s : zS} (I : Inv σ) (M : MI s) (G : frI σ s) : Inv s := by
  refine ⟨CI_ref I.1 (fun a j h => G a j (by omega)), M, ?_, fun k h1 h2 => ?_⟩
  · rw [G 120 1 (by omega), G 143 20 (by omega)]; exact I.2.2.1
  · rw [G 142 k (by omega), G 166 k (by omega)]; exact I.2.2.2 k h1 h2
theorem op_i {F : Nat → Int → Bool} {σ : zS} {c : Option (Int × zS)} {m : zS → Option (Int × zS)} {P : Int → zS → Prop} (I : Inv σ) (hc : zO c (fun v s => CI s ∧ fr F σ s ∧ P v s)) (f1 : F 120 1 = false) (f2 : ∀ k, F 142 k = false) (hm : ∀ s, MI s → ∃ w s2, m s = some (w, s2) ∧ MI s2 ∧ frI s s2) : two c m (fun _ _ s => Inv s) := by
  refine hc.imp (fun v s p => ?_)
  have I1 := inv_mid I p.1 p.2.1 f1 f2
  obtain ⟨w, s2, e, h1, h2⟩ := hm s I1.2.1
  exact ⟨w, s2, e, inv_end I1 h1 h2⟩
theorem op_p {σ : zS} {c : Option (Int × zS)} {m : zS → Option (Int × zS)} {P : Int → Prop} (I : Inv σ) (hc : zOp c σ P) (hm : ∀ s, MI s → ∃ w s2, m s = some (w, s2) ∧ MI s2 ∧ frI s s2) : two c m (fun _ _ s => Inv s) := by
  obtain ⟨v, e, p⟩ := hc
  obtain ⟨w, s2, e2, h1, h2⟩ := hm σ I.2.1
  exact ⟨v, σ, e, w, s2, e2, inv_end I h1 h2⟩
theorem mC {m : zS → Option (Int × zS)} (h : ∀ s, MI s → ∃ w s2, m s = some (w, s2) ∧ MI s2 ∧ frC s s2) : ∀ s, MI s → ∃ w s2, m s = some (w, s2) ∧ MI s2 ∧ frI s s2 := fun s hs => by
  obtain ⟨w, s2, e, h1, h2⟩ := h s hs
  exact ⟨w, s2, e, h1, h2.i⟩
theorem mP {m : zS → Option (Int × zS)} (h : ∀ s, MI s → ∃ w, m s = some (w, s)) : ∀ s, MI s → ∃ w s2, m s = some (w, s2) ∧ MI s2 ∧ frI s s2 := fun s hs => by
  obtain ⟨w, e⟩ := h s hs
  exact ⟨w, s, e, hs, frI.refl s⟩
theorem o_put {a b c d : Int} {σ : zS} (I : Inv σ) : two (g_c_put a b c d σ) (g_m_put a b c d) (fun _ _ s => Inv s) := op_i I (g_c_put_sp I.1) rfl (fun _ => rfl) (mC (fun _ h => m_put h))
theorem o_take {a : Int} {σ : zS} (I : Inv σ) : two (g_c_take a σ) (g_m_take a) (fun _ _ s => Inv s) := op_i I (g_c_take_sp I.1) rfl (fun _ => rfl) (mC (fun _ h => m_take h))
theorem o_row {a b : Int} {σ : zS} (I : Inv σ) : two (g_c_row a b σ) (g_m_row a b) (fun _ _ s => Inv s) := op_p I (g_c_row_sp I.1) (mP (fun _ _ => m_row))
theorem o_worth {a : Int} {σ : zS} (I : Inv σ) : two (g_c_worth a σ) (g_m_worth a) (fun _ _ s => Inv s) := op_p I (g_c_worth_sp I.1) (mP (fun _ _ => m_worth))
theorem o_setting {a : Int} {σ : zS} (I : Inv σ) : two (g_c_setting a σ) (g_m_setting a) (fun _ _ s => Inv s) := op_p I (g_c_setting_sp I.1) (mP (fun _ _ => m_setting))
theorem o_answer {a : Int} {σ : zS} (I : Inv σ) : two (g_c_answer a σ) (g_m_answer a) (fun _ _ s => Inv s) := op_p I (g_c_answer_sp I.1) (mP (fun _ h => m_answer h))
theorem o_spell {σ : zS} (I : Inv σ) : two (g_c_spell σ) g_m_spell (fun _ _ s => Inv s) := op_i I (g_c_spell_sp I.1) rfl (fun _ => rfl) (mC (fun _ h => m_spell h))
theorem o_explain {a b c d : Int} {σ : zS} (I : Inv σ) : two (g_c_explain a b c d σ) (g_m_explain a b c d) (fun _ _ s => Inv s) := op_i I (g_c_explain_sp I.1) rfl (fun _ => rfl) (mC (fun _ h => m_explain h))
theorem o_paper {a : Int} {σ : zS} (I : Inv σ) : two (g_c_paper a σ) (g_m_paper a) (fun _ _ s => Inv s) := op_p I (g_c_paper_sp I.1) (mP (fun _ h => m_paper h))
theorem o_query {a b c d e : Int} {σ : zS} (I : Inv σ) : two (g_c_query a b c d e σ) (g_m_query a b c d e) (fun _ _ s => Inv s) := op_i I (g_c_query_sp I.1) rfl (fun _ => rfl) (mC (fun _ h => m_query h))
theorem o_find {a : Int} {σ : zS} (I : Inv σ) : two (g_c_find a σ) (g_m_find a) (fun _ _ s => Inv s) := op_p I (g_c_find_sp I.1) (mP (fun _ h => m_find h))
theorem o_probe {a b c d : Int} {σ : zS} (I : Inv σ) : two (g_c_probe a b c d σ) (g_m_probe a b c d) (fun _ _ s => Inv s) := op_i I (g_c_probe_sp I.1) rfl (fun _ => rfl) (mC (fun _ h => m_probe h))
theorem o_piece {a b : Int} {σ : zS} (I : Inv σ) : two (g_c_piece a b σ) (g_m_piece a b) (fun _ _ s => Inv s) := op_p I (g_c_piece_sp I.1) (mP (fun _ h => m_piece h))
theorem o_region {a b : Int} {σ : zS} (I : Inv σ) : two (g_c_region a b σ) (g_m_region_248 a b) (fun _ _ s => Inv s) := op_p I (g_c_region_sp I.1) (mP (fun _ h => m_region h))
theorem o_weight {a : Int} {σ : zS} (I : Inv σ) : two (g_c_weight a σ) (g_m_weight a) (fun _ _ s => Inv s) := op_p I (g_c_weight_sp I.1) (mP (fun _ h => m_weight h))
theorem o_told {a : Int} {σ : zS} (I : Inv σ) : two (g_c_told a σ) (g_m_told a) (fun _ _ s => Inv s) := op_p I (g_c_told_sp I.1) (mP (fun _ h => m_told h))
theorem o_flush {σ : zS} (I : Inv σ) : two (g_c_flush σ) g_m_flush (fun _ _ s => Inv s) := op_i I (g_c_flush_sp I.1) rfl (fun _ => rfl) (mC (fun _ h => m_flush h))
theorem o_keep {a : Int} {σ : zS} (I : Inv σ) : two (g_c_keep a σ) (g_m_keep a) (fun _ _ s => Inv s) := op_p I (g_c_keep_sp I.1) (mP (fun _ h => m_keep h))
theorem o_trace {a b c d : Int} {σ : zS} (I : Inv σ) : two (g_c_trace a b c d σ) (g_m_trace a b c d) (fun _ _ s => Inv s) := op_i I (g_c_trace_sp I.1) rfl (fun _ => rfl) (mC (fun _ h => m_trace h))
theorem o_again {a b : Int} {σ : zS} (I : Inv σ) : two (g_c_again a b σ) (g_m_again a b) (fun _ _ s => Inv s) := op_i I (g_c_again_sp I.1) rfl (fun _ => rfl) (mC (fun _ h => m_again h))
theorem o_least {a : Int} {σ : zS} (I : Inv σ) : two (g_c_least a σ) (g_m_least a) (fun _ _ s => Inv s) := op_i I (g_c_least_sp I.1) rfl (fun _ => rfl) (mC (fun _ h => m_least h))
theorem o_watch {a b c d e : Int} {σ : zS} (I : Inv σ) : two (g_c_watch a b c d e σ) (g_m_watch a b c d e) (fun _ _ s => Inv s) := op_i I (g_c_watch_sp I.1) rfl (fun _ => rfl) (mC (fun _ h => m_watch h))
theorem o_value {a : Int} {σ : zS} (I : Inv σ) : two (g_c_value a σ) (g_m_value a) (fun _ _ s => Inv s) := op_i I (g_c_value_sp I.1) rfl (fun _ => rfl) (mC (fun _ h => m_value h))
theorem o_changes {a : Int} {σ : zS} (I : Inv σ) : two (g_c_changes a σ) (g_m_changes a) (fun _ _ s => Inv s) := op_p I (g_c_changes_sp I.1) (mP (fun _ h => m_changes h))
theorem o_get {a b : Int} {σ : zS} (I : Inv σ) : two (g_c_get a b σ) (g_m_get a b) (fun _ _ s => Inv s) := op_p I (g_c_get_sp I.1) (mP (fun _ h => m_get h))
theorem o_lay {a b : Int} {σ : zS} (hb : -2147483648 ≤ b ∧ b < 2147483648) (I : Inv σ) : two (g_c_lay a b σ) (g_m_lay a b) (fun _ _ s => Inv s) := op_i I (g_c_lay_sp I.1) rfl (fun _ => rfl) (fun s h => by
  obtain ⟨w, s2, e, h1, h2⟩ := m_lay (l := a) h hb
  exact ⟨w, s2, e, h1, h2.i⟩)
theorem o_judge {a b : Int} {σ : zS} (hb : -2147483648 ≤ b ∧ b < 2147483648) (I : Inv σ) : two (g_c_judge a b σ) (g_m_judge a b) (fun _ _ s => Inv s) := op_p I (g_c_judge_sp I.1) (mP (fun _ h => m_judge h hb))
theorem o_image {σ : zS} (I : Inv σ) : two (g_c_image σ) g_m_image (fun _ _ s => Inv s) := op_i I (g_c_image_sp I.1) rfl (fun _ => rfl) (mC (fun _ h => m_image h))
theorem o_undo {σ : zS} (I : Inv σ) : two (g_c_undo σ) g_m_undo (fun _ _ s => Inv s) := op_i I (g_c_undo_sp I.1) rfl (fun _ => rfl) (mC (fun _ h => m_undo h))
/-- the readers of the tape: it is empty then on both sides -/
theorem op_r {F : Nat → Int → Bool} {σ : zS} {c : Option (Int × zS)} {m : zS → Option (Int × zS)} (I : Inv σ) (hc : zO c (fun v s => CI s ∧ fr F σ s ∧ (s 120 1 = 0))) (f2 : ∀ k, F 142 k = false) (hm : ∀ s, MI s → ∃ w s2, m s = some (w, s2) ∧ MI s2 ∧ s2 143 20 = 0 ∧ frT s s2) : two c m (fun _ _ s => Inv s) := by
  refine hc.imp (fun v s p => ?_)
  obtain ⟨H, G, q⟩ := p
  have M1 : MI s := MI_cls I.2.1 (fun a j h1 h2 => G a j (Or.inl ⟨h1, h2⟩))
  obtain ⟨w, s2, e, h1, h2, h3⟩ := hm s M1
  refine ⟨w, s2, e, CI_ref H (fun a j h => h3 a j (by omega)), h1, ?_, fun k k1 k2 => ?_⟩
  · rw [h3 120 1 (by omega), q, h2]
  · rw [h3 142 k (by omega), h3 166 k (by omega), G 142 k (Or.inr (f2 k)), G 166 k (Or.inl (by decide))]
    exact I.2.2.2 k k1 k2
theorem o_settings {σ : zS} (I : Inv σ) : two (g_c_settings σ) g_m_settings (fun _ _ s => Inv s) := op_r I (g_c_settings_sp I.1) (fun _ => rfl) (fun _ h => m_settings h)
theorem o_run {σ : zS} (I : Inv σ) : two (g_c_run σ) g_m_run (fun _ _ s => Inv s) := op_r I (g_c_run_sp I.1) (fun _ => rfl) (fun _ h => m_run h)
theorem o_load {σ : zS} (I : Inv σ) : two (g_c_load σ) g_m_load (fun _ _ s => Inv s) := op_r I (g_c_load_sp I.1) (fun _ => rfl) (fun _ h => m_load h)
theorem o_clear {σ : zS} (I : Inv σ) : two (g_c_clear σ) g_m_clear (fun v w s => Inv s ∧ v = w) := by
  refine (g_c_clear_sp I.1).imp (fun v s p => ?_)
  obtain ⟨H, G, q1, q2⟩ := p
  have M1 : MI s := MI_cls I.2.1 (fun a j h1 h2 => G a j (Or.inl ⟨h1, h2⟩))
  obtain ⟨s2, e, h1, h2, h3⟩ := m_clear M1
  refine ⟨_, s2, e, ⟨CI_ref H (fun a j h => h3 a j (by omega)), h1, ?_, fun k k1 k2 => ?_⟩, ?_⟩
  · rw [h3 120 1 (by omega), q2, h2]
  · rw [h3 142 k (by omega), h3 166 k (by omega), G 142 k (Or.inr rfl), G 166 k (Or.inl (by decide))]
    exact I.2.2.2 k k1 k2
  · rw [G 143 20 (Or.inl (by decide)), q1]; exact I.2.2.1
theorem o_feed {x : Int} {σ : zS} (I : Inv σ) : two (g_c_feed x σ) (g_m_feed x) (fun v w s => Inv s ∧ v = w) := by
  refine (g_c_feed_sp I.1).imp (fun v s p => ?_)
  obtain ⟨H, G, q1, q2, q3⟩ := p
  have M1 : MI s := MI_cls I.2.1 (fun a j h1 h2 => G a j (Or.inl ⟨h1, h2⟩))
  obtain ⟨s2, e, h1, h2, h3⟩ := m_feed (x := x) M1
  have hn : s 143 20 = σ 120 1 := by rw [G 143 20 (Or.inl (by decide))]; exact I.2.2.1.symm
  have hr := I.1.ct
  have key : v = feedA (s 143 20) x ∧ s 120 1 = feedN (s 143 20) x := by
    unfold feedA feedN
    rw [hn]
    by_cases c : 1 ≤ x ∧ x ≤ 127
    · rw [if_pos c, if_pos c]
      by_cases c2 : σ 120 1 ≠ 160
      · rw [if_pos c2, if_pos c2]; exact q2 ⟨c.1, c.2, by omega⟩
      · rw [if_neg c2, if_neg c2]
        have c2 : σ 120 1 = 160 := by omega
        exact q3 ⟨c.1, c.2, c2⟩
    · rw [if_neg c, if_neg c]; exact q1 c
  refine ⟨_, s2, e, ⟨CI_ref H (fun a j h => h3 a j (by omega) (by omega)), h1, ?_, fun k k1 k2 => ?_⟩, key.1⟩
  · rw [h3 120 1 (by decide) (by omega), h2]; exact key.2
  · rw [h3 142 k (by decide) (by omega), h3 166 k (by decide) (by omega), G 142 k (Or.inr rfl), G 166 k (Or.inl (by decide))]
    exact I.2.2.2 k k1 k2
theorem o_set {l i v0 : Int} {σ : zS} (I : Inv σ) : two (g_c_set l i v0 σ) (g_m_set l i v0) (fun v w s => Inv s ∧ v = w) := by
  refine (g_c_set_sp I.1).imp (fun v s p => ?_)
  obtain ⟨H, G, q1, q2, q3, q4⟩ := p
  have I1 := inv_mid I H G rfl (fun _ => rfl)
  obtain ⟨s2, e, h1, h2⟩ := m_set (l := l) (i := i) (v := v0) I1.2.1
  refine ⟨_, s2, e, inv_end I1 h1 h2.i, ?_⟩
  have hs : s 166 l = σ 166 l := G 166 l (Or.inl (by decide))
  rw [hs]
  unfold setA
  by_cases c : 0 ≤ l ∧ l < 6
  · have hl := I.2.2.2 l c.1 c.2
    rw [hl] at q2 q3 q4
    rw [if_pos c]
    by_cases c1 : 0 ≤ σ 166 l
    · rw [if_pos c1]
      by_cases c2 : 0 ≤ i ∧ i ≤ σ 166 l - 1
      · rw [if_pos c2]; exact q3 ⟨c.1, c.2, c1, by omega⟩
      · rw [if_neg c2]; exact q4 ⟨c.1, c.2, c1, by omega⟩
    · rw [if_neg c1]; exact q2 ⟨c.1, c.2, by omega⟩
  · rw [if_neg c]; exact q1 c
theorem o_move {l i o j x : Int} {σ : zS} (hi : i < 2147483648) (hj : j < 2147483648) (I : Inv σ) : two (g_c_move l i o j x σ) (g_m_move l i o j x) (fun v w s => Inv s ∧ v = w) := by
  refine (g_c_move_sp I.1).imp (fun v s p => ?_)
  obtain ⟨H, G, q1, q2, q3, q4, q5⟩ := p
  have I1 := inv_mid I H G rfl (fun _ => rfl)
  obtain ⟨s2, e, h1, h2⟩ := m_move (l := l) (i := i) (o := o) (j0 := j) (x := x) I1.2.1 hi hj
  refine ⟨_, s2, e, inv_end I1 h1 h2.i, ?_⟩
  rw [G 166 l (Or.inl (by decide)), G 166 o (Or.inl (by decide))]
  unfold moveA
  by_cases c : 0 ≤ l ∧ l < 6
  · rw [if_pos c]
    by_cases c' : 0 ≤ o ∧ o < 6
    · rw [if_pos c']
      rw [I.2.2.2 l c.1 c.2, I.2.2.2 o c'.1 c'.2] at q3 q4 q5
      by_cases c1 : σ 166 l < 0
      · rw [if_pos c1]; exact q3 ⟨c.1, c.2, c'.1, c'.2, Or.inl c1⟩
      · rw [if_neg c1]
        by_cases c2 : 0 ≤ σ 166 o
        · rw [if_pos c2]
          by_cases c3 : x < 0
          · rw [if_pos c3]; exact q5 (by omega)
          · rw [if_neg c3]
            by_cases c4 : i < 0
            · rw [if_pos c4]; exact q5 (by omega)
            · rw [if_neg c4]
              by_cases c5 : j < 0
              · rw [if_pos c5]; exact q5 (by omega)
              · rw [if_neg c5]
                by_cases c6 : σ 166 l - i < x
                · rw [if_pos c6]; exact q5 (by omega)
                · rw [if_neg c6]
                  by_cases c7 : x ≤ σ 166 o - j
                  · rw [if_pos c7]; exact q4 (by omega)
                  · rw [if_neg c7]; exact q5 (by omega)
        · rw [if_neg c2]; exact q3 ⟨c.1, c.2, c'.1, c'.2, Or.inr (by omega)⟩
    · rw [if_neg c']; exact q2 c'
  · rw [if_neg c]; exact q1 c
theorem li27 : ∀ (n : Nat) (x1 x2 x3 : Int) (σ : zS) (o : Unit × zS), g_li_make_L27 n x1 x2 x3 σ = some o → ∀ j, o.2 142 j = σ 142 j
  | 0, _, _, _, _, _, h => by cases h
  | n + 1, x1, x2, x3, σ, o, h => by
    intro j
    unfold g_li_make_L27 at h
    by_cases c : x2 ≤ x3
    · rw [if_pos c] at h; cases h; rfl
    · rw [if_neg c] at h
      by_cases c1 : 0 ≤ x1 ∧ x1 < 6
      · rw [if_pos c1] at h
        dsimp only at h
        by_cases c2 : 0 ≤ x3 ∧ x3 < 60
        · rw [if_pos c2] at h
          rw [li27 n _ _ _ _ _ h j, zu_a (by omega)]
        · rw [if_neg c2] at h; cases h
      · rw [if_neg c1] at h; cases h
theorem c_list142 {l x : Int} {σ : zS} {o : Int × zS} (h : g_c_list l x σ = some o) : ∀ j, o.2 142 j = if (0 ≤ l ∧ l < 6 ∧ 0 ≤ x ∧ x ≤ 60) ∧ j = l then x else σ 142 j := by
  intro j
  unfold g_c_list at h
  obtain ⟨r, e1, p1⟩ := g_li_isList_sp (x0 := l) (σ := σ)
  rw [e1] at h
  rw [Option.bind_some] at h
  dsimp +instances only at h
  by_cases c : r ≠ 0
  · have hl := p1.mp c
    rw [if_pos c] at h
    by_cases c1 : x ≤ 60
    · rw [if_pos c1] at h
      by_cases c2 : 0 ≤ x
      · rw [if_pos c2] at h
        unfold g_li_make at h
        rw [e1] at h
        rw [Option.bind_some] at h
        dsimp +instances only at h
        rw [if_neg (show ¬ r = 0 from c), if_neg (by omega), if_pos c1, if_pos hl] at h
        cases hq : g_li_make_L27 zK l x 0 (zu σ 142 l x) with
        | none => rw [hq] at h; cases h
        | some q =>
          rw [hq] at h
          rw [Option.bind_some] at h
          cases h
          show q.2 142 j = _
          rw [li27 _ _ _ _ _ _ hq j]
          by_cases ck : j = l
          · rw [zu_e ck, if_pos ⟨⟨hl.1, hl.2, c2, c1⟩, ck⟩]
          · rw [zu_i ck, if_neg (fun hh => ck hh.2)]
      · rw [if_neg c2] at h; cases h
        rw [if_neg (fun hh => by omega)]
    · rw [if_neg c1] at h; cases h
      rw [if_neg (fun hh => by omega)]
  · rw [if_neg c] at h; cases h
    have hl : ¬ (0 ≤ l ∧ l < 6) := fun hh => c (p1.mpr hh)
    rw [if_neg (fun hh => by omega)]
theorem o_list {l x : Int} {σ : zS} (I : Inv σ) : two (g_c_list l x σ) (g_m_list l x) (fun v w s => Inv s ∧ v = w) := by
  obtain ⟨v, s, e0, H, G, q1, q2, q3, q4⟩ := g_c_list_sp (x1 := l) (x2 := x) I.1
  have hl : ∀ j, s 142 j = if (0 ≤ l ∧ l < 6 ∧ 0 ≤ x ∧ x ≤ 60) ∧ j = l then x else σ 142 j := c_list142 e0
  refine ⟨v, s, e0, ?_⟩
  have M1 : MI s := MI_cls I.2.1 (fun a j h1 h2 => G a j (Or.inl ⟨h1, h2⟩))
  obtain ⟨s2, e, h1, h2, h3⟩ := m_list (l := l) (x := x) M1
  refine ⟨_, s2, e, ⟨CI_ref H (fun a j h => h2 a j (by omega)), h1, ?_, fun k k1 k2 => ?_⟩, ?_⟩
  · rw [h2 120 1 (by decide), h2 143 20 (by decide), G 120 1 (Or.inr rfl), G 143 20 (Or.inl (by decide))]; exact I.2.2.1
  · rw [h2 142 k (by decide), h3 k, hl k, G 166 k (Or.inl (by decide)), I.2.2.2 k k1 k2]
  · unfold listA
    by_cases c : 0 ≤ l ∧ l < 6
    · rw [if_pos c]
      by_cases c1 : x ≤ 60
      · rw [if_pos c1]
        by_cases c2 : 0 ≤ x
        · rw [if_pos c2]; exact q4 ⟨c.1, c.2, c2, c1⟩
        · rw [if_neg c2]; exact q3 ⟨c.1, c.2, by omega⟩
      · rw [if_neg c1]; exact q2 ⟨c.1, c.2, by omega⟩
    · rw [if_neg c]; exact q1 c
/-! THE START -/
def iv (v : Value) : Int := match v with
  | .int x => x.toInt
  | .long x => x.toInt
  | _ => 0
def s0rng (a : Nat) (lo hi : Int) : Bool := match w_row w_T0 a with
  | some r => r.2.2.1.all (fun q => decide (lo ≤ iv q.2 ∧ iv q.2 ≤ hi)) && (match r.2.2.2 with
    | some v => decide (lo ≤ iv v ∧ iv v ≤ hi)
    | none => true)
  | none => true
theorem s0_in {a : Nat} {lo hi : Int} (h : s0rng a lo hi = true) (h0 : lo ≤ 0 ∧ 0 ≤ hi) (ha : a ≠ 169) (j : Int) : lo ≤ s0 a j ∧ s0 a j ≤ hi := by
  unfold s0
  rw [if_neg (fun hh => ha hh.1)]
  unfold s0rng at h
  cases hr : w_row w_T0 a with
  | none => exact h0
  | some r =>
    rw [hr] at h
    dsimp only at h ⊢
    rw [Bool.and_eq_true] at h
    cases hv : w_at r j.toNat with
    | none => exact h0
    | some v =>
      have key : lo ≤ iv v ∧ iv v ≤ hi := by
        rcases w_at_mem hv with ⟨q, hq, rfl⟩ | hd
        · exact of_decide_eq_true (List.all_eq_true.mp h.1 q hq)
        · have h2 := h.2
          rw [hd] at h2
          exact of_decide_eq_true h2
      cases v <;> first | exact key | exact h0
theorem s0_CR {a : Nat} {lo hi : Int} (h : s0rng a lo hi = true) (h0 : lo ≤ 0 ∧ 0 ≤ hi) (ha : a ≠ 169) (j : Int) (e : rng a j = some (lo, hi)) : CR a j (s0 a j) := fun l2 h2 e2 => by
  rw [e] at e2
  cases e2
  exact s0_in h h0 ha j
theorem CI_s0 : CI s0 := by
  refine ⟨fun a j lo hi h => ?_, by unfold PG; decide +kernel⟩
  unfold rng at h
  by_cases c0 : (a = 48 ∨ a = 81 ∨ a = 106) ∧ j = 2
  · rw [if_pos c0] at h
    cases h
    obtain ⟨c, rfl⟩ := c0
    rcases c with rfl | rfl | rfl <;> decide +kernel
  rw [if_neg c0] at h
  by_cases c1 : (a = 56 ∨ a = 58 ∨ a = 63 ∨ a = 89 ∨ a = 91 ∨ a = 96 ∨ a = 114 ∨ a = 116 ∨ a = 126 ∨ a = 131) ∧ j = 1
  · rw [if_pos c1] at h
    cases h
    obtain ⟨c, rfl⟩ := c1
    rcases c with rfl | rfl | rfl | rfl | rfl | rfl | rfl | rfl | rfl | rfl <;> decide +kernel
  rw [if_neg c1] at h
  by_cases c2 : (a = 41 ∨ a = 74) ∧ j = 4
  · rw [if_pos c2] at h
    cases h
    obtain ⟨c, rfl⟩ := c2
    rcases c with rfl | rfl <;> decide +kernel
  rw [if_neg c2] at h
  by_cases c3 : a = 42 ∨ a = 43 ∨ a = 75 ∨ a = 76
  · rw [if_pos c3] at h
    cases h
    rcases c3 with rfl | rfl | rfl | rfl <;> exact s0_in (by decide +kernel) (by decide) (by decide) j
  rw [if_neg c3] at h
  by_cases c4 : (a = 60 ∨ a = 70 ∨ a = 93 ∨ a = 103) ∧ j = 2
  · rw [if_pos c4] at h
    cases h
    obtain ⟨c, rfl⟩ := c4
    rcases c with rfl | rfl | rfl | rfl <;> decide +kernel
  rw [if_neg c4] at h
  by_cases c5 : (a = 65 ∨ a = 98) ∧ j = 5
  · rw [if_pos c5] at h
    cases h
    obtain ⟨c, rfl⟩ := c5
    rcases c with rfl | rfl <;> decide +kernel
  rw [if_neg c5] at h
  by_cases c6 : a = 120 ∧ j = 1
  · rw [if_pos c6] at h
    cases h
    obtain ⟨rfl, rfl⟩ := c6
    all_goals decide +kernel
  rw [if_neg c6] at h
  by_cases c7 : a = 120 ∧ j = 2
  · rw [if_pos c7] at h
    cases h
    obtain ⟨rfl, rfl⟩ := c7
    all_goals decide +kernel
  rw [if_neg c7] at h
  by_cases c8 : a = 122 ∧ j = 5
  · rw [if_pos c8] at h
    cases h
    obtain ⟨rfl, rfl⟩ := c8
    all_goals decide +kernel
  rw [if_neg c8] at h
  by_cases c9 : a = 39 ∧ j = 9
  · rw [if_pos c9] at h
    cases h
    obtain ⟨rfl, rfl⟩ := c9
    all_goals decide +kernel
  rw [if_neg c9] at h
  by_cases c10 : a = 142
  · rw [if_pos c10] at h
    cases h
    subst c10
    exact s0_in (by decide +kernel) (by decide) (by decide) j
  rw [if_neg c10] at h
  by_cases c11 : (a = 48 ∨ a = 81 ∨ a = 106) ∧ j = 8
  · rw [if_pos c11] at h
    cases h
    obtain ⟨c, rfl⟩ := c11
    rcases c with rfl | rfl | rfl <;> decide +kernel
  rw [if_neg c11] at h
  by_cases c12 : a = 51 ∨ a = 84 ∨ a = 109
  · rw [if_pos c12] at h
    cases h
    rcases c12 with rfl | rfl | rfl <;> exact s0_in (by decide +kernel) (by decide) (by decide) j
  rw [if_neg c12] at h
  cases h
theorem MI_s0 : MI s0 := by
  refine ⟨⟨0, by decide, by decide +kernel, fun k hk => absurd hk (Nat.not_lt_zero _), fun k1 k2 h1 h2 => absurd h2 (Nat.not_lt_zero _)⟩, ?_, ?_, ?_⟩
  · refine ⟨by decide +kernel, by decide +kernel, by decide +kernel, by decide +kernel, by decide +kernel, fun t ht => ?_, fun r hr => ?_⟩
    · have h : s0 144 9 = 0 := by decide +kernel
      rw [h] at ht
      omega
    · have h : ∀ i : Fin 60, (0 ≤ s0 144 (21 + 3 * ((i.val : Nat) : Int)) ∧ s0 144 (21 + 3 * ((i.val : Nat) : Int)) ≤ 31) ∧ (0 ≤ s0 144 (22 + 3 * ((i.val : Nat) : Int)) ∧ s0 144 (22 + 3 * ((i.val : Nat) : Int)) ≤ 31) := by decide +kernel
      exact h ⟨r, hr⟩
  · refine ⟨by decide +kernel, by decide +kernel, by decide +kernel, by decide +kernel, fun k hk => ?_⟩
    have h : ∀ i : Fin 6, -1 ≤ s0 166 ((i.val : Nat) : Int) ∧ s0 166 ((i.val : Nat) : Int) ≤ 60 := by decide +kernel
    exact h ⟨k, hk⟩
  · intro h
    exact absurd (by decide +kernel : s0 143 6 = 0) h
theorem Inv_s0 : Inv s0 := by
  refine ⟨CI_s0, MI_s0, by decide +kernel, fun k h1 h2 => ?_⟩
  obtain ⟨n, rfl⟩ : ∃ n : Nat, k = (n : Int) := ⟨k.toNat, by omega⟩
  have h : ∀ i : Fin 6, s0 142 ((i.val : Nat) : Int) = s0 166 ((i.val : Nat) : Int) := by decide +kernel
  exact h ⟨n, by omega⟩
end
section
/-! 60.bits -/
/-! FACTS OF ANSWERS: calls that may be opened (zP), bits of a long, rows of cells as lists -/
def zP' {α : Type} (x : Option (α × zS)) (Q : α → zS → Prop) : Prop := ∀ v s, x = some (v, s) → Q v s
theorem zP'.ret {α : Type} {Q : α → zS → Prop} {v : α} {s : zS} (h : Q v s) : zP' (some (v, s)) Q := fun _ _ e => by
  cases e; exact h
theorem zP'.no {α : Type} {Q : α → zS → Prop} : zP' (none : Option (α × zS)) Q := fun _ _ e => by cases e
theorem zP'.ite {α : Type} {c : Prop} [Decidable c] {a b : Option (α × zS)} {Q : α → zS → Prop} (h1 : c → zP' a Q) (h2 : ¬ c → zP' b Q) : zP' (if c then a else b) Q := by
  by_cases h : c
  · rw [if_pos h]; exact h1 h
  · rw [if_neg h]; exact h2 h
theorem zP'.gd {α : Type} {c : Prop} [Decidable c] {a : Option (α × zS)} {Q : α → zS → Prop} (h1 : c → zP' a Q) : zP' (if c then a else none) Q := zP'.ite h1 (fun _ => zP'.no)
theorem zP'.bind {α β : Type} {x : Option (α × zS)} {f : α × zS → Option (β × zS)} {P : α → zS → Prop} {Q : β → zS → Prop} (h : zP' x P) (k : ∀ v s, P v s → zP' (f (v, s)) Q) : zP' (x.bind f) Q := by
  intro v s e
  cases x with
  | none => cases e
  | some o =>
    obtain ⟨v0, s0⟩ := o
    exact k v0 s0 (h _ _ rfl) v s e
theorem zP'.bindp {α β : Type} {x : Option (α × zS)} {f : α × zS → Option (β × zS)} {σ : zS} {P : α → Prop} {Q : β → zS → Prop} (h : zOp x σ P) (k : ∀ v, P v → zP' (f (v, σ)) Q) : zP' (x.bind f) Q := by
  obtain ⟨v, e, p⟩ := h
  rw [e]
  exact k v p
theorem zP'.imp {α : Type} {x : Option (α × zS)} {P Q : α → zS → Prop} (h : zP' x P) (k : ∀ v s, P v s → Q v s) : zP' x Q := fun v s e => k v s (h v s e)
theorem zP'.of {α : Type} {x : Option (α × zS)} {P : α → zS → Prop} (h : zO x P) : zP' x P := fun v s e => by
  obtain ⟨v0, s0, e0, p⟩ := h
  rw [e0] at e
  cases e
  exact p
theorem zP'.and {α : Type} {x : Option (α × zS)} {P Q : α → zS → Prop} (h1 : zP' x P) (h2 : zP' x Q) : zP' x (fun v s => P v s ∧ Q v s) := fun v s e => ⟨h1 v s e, h2 v s e⟩
theorem zO.and {α : Type} {x : Option (α × zS)} {P Q : α → zS → Prop} (h1 : zO x P) (h2 : zP' x Q) : zO x (fun v s => P v s ∧ Q v s) := by
  obtain ⟨v, s, e, p⟩ := h1
  exact ⟨v, s, e, p, h2 v s e⟩
/-! BITS -/
def bq (v : Int) (r : Nat) : Bool := (Int64.ofInt v).toBitVec.getLsbD r
theorem bq_and (x y : Int) (r : Nat) : bq (lAnd x y) r = (bq x r && bq y r) := by
  unfold bq lAnd
  rw [Int64.ofInt_toInt, Int64.toBitVec_and, BitVec.getLsbD_and]
theorem bq_or (x y : Int) (r : Nat) : bq (lOr x y) r = (bq x r || bq y r) := by
  unfold bq lOr
  rw [Int64.ofInt_toInt, Int64.toBitVec_or, BitVec.getLsbD_or]
theorem bq_xor (x y : Int) (r : Nat) : bq (lXor x y) r = (bq x r ^^ bq y r) := by
  unfold bq lXor
  rw [Int64.ofInt_toInt, Int64.toBitVec_xor, BitVec.getLsbD_xor]
theorem bq_m1 {r : Nat} (h : r < 64) : bq (-1) r = true := by
  have e : (Int64.ofInt (-1)).toBitVec = BitVec.allOnes 64 := by decide +kernel
  unfold bq
  rw [e, BitVec.getLsbD_allOnes]
  exact decide_eq_true h
theorem bq_not (x : Int) {r : Nat} (h : r < 64) : bq (lXor x (-1)) r = !bq x r := by
  rw [bq_xor, bq_m1 h]
  cases bq x r <;> rfl
theorem bq_0 (r : Nat) : bq 0 r = false := by
  have e : (Int64.ofInt 0).toBitVec = 0#64 := by decide +kernel
  unfold bq
  rw [e]
  exact BitVec.getLsbD_zero
theorem bq_bit {r k : Nat} (hr : r < 64) : bq (lShl 1 (r : Int)) k = decide (k = r) := by
  have h : ∀ i : Fin 64, (Int64.ofInt 1 <<< ((Int32.ofInt ((i.val : Nat) : Int)).toInt64 &&& 63)).toBitVec = BitVec.twoPow 64 i.val := by decide +kernel
  have h := h ⟨r, hr⟩
  unfold bq lShl
  rw [Int64.ofInt_toInt]
  rw [show (Int64.ofInt 1 <<< ((Int32.ofInt ((r : Nat) : Int)).toInt64 &&& 63)).toBitVec = BitVec.twoPow 64 r from h]
  rw [BitVec.getLsbD_twoPow]
  by_cases c : k = r
  · subst c
    simp [hr]
  · have c2 : ¬ r = k := fun e => c e.symm
    simp [c, c2]
theorem bv_and1 (x : BitVec 64) : x &&& 1#64 = if x.getLsbD 0 then 1#64 else 0#64 := by
  rw [BitVec.and_one_eq_setWidth_ofBool_getLsbD]
  cases x.getLsbD 0 <;> rfl
theorem bq_ush {v : Int} {r : Nat} (hr : r < 64) : ((Int64.ofInt v).toUInt64 >>> ((Int32.ofInt (r : Int)).toInt64.toUInt64 &&& Int64.toUInt64 63)).toInt64.toBitVec = (Int64.ofInt v).toBitVec >>> r := by
  have h : ∀ i : Fin 64, (((Int32.ofInt ((i.val : Nat) : Int)).toInt64.toUInt64 &&& Int64.toUInt64 63).toBitVec % 64).toNat = i.val := by decide +kernel
  have h : (((Int32.ofInt ((r : Nat) : Int)).toInt64.toUInt64 &&& Int64.toUInt64 63).toBitVec % 64).toNat = r := h ⟨r, hr⟩
  rw [UInt64.toBitVec_toInt64, UInt64.toBitVec_shiftRight, Int64.toBitVec_toUInt64]
  rw [BitVec.ushiftRight_eq', h]
theorem bq_tst {v : Int} {r : Nat} (hr : r < 64) : lCmp (lAnd (lUshr v (r : Int)) 1) 0 = 0 ↔ bq v r = false := by
  rw [lCmp_eq]
  unfold lAnd lUshr bq
  rw [Int64.ofInt_toInt]
  have e1 : (Int64.ofInt 1).toBitVec = 1#64 := by decide +kernel
  have key : (((Int64.ofInt v).toUInt64 >>> ((Int32.ofInt (r : Int)).toInt64.toUInt64 &&& Int64.toUInt64 63)).toInt64 &&& Int64.ofInt 1).toBitVec = if (Int64.ofInt v).toBitVec.getLsbD r then 1#64 else 0#64 := by
    rw [Int64.toBitVec_and, bq_ush hr, e1, bv_and1, BitVec.getLsbD_ushiftRight, Nat.add_zero]
  have ti : ∀ x : Int64, x.toInt = x.toBitVec.toInt := fun _ => rfl
  rw [ti, key]
  cases (Int64.ofInt v).toBitVec.getLsbD r
  · exact ⟨fun _ => rfl, fun _ => by decide⟩
  · exact ⟨fun h => absurd h (by decide), fun h => by cases h⟩
/-! ROWS OF CELLS AS LISTS -/
def sg (f : Int → Int) (a : Int) : Nat → List Int
  | 0 => []
  | n + 1 => f a :: sg f (a + 1) n
theorem sg_len (f : Int → Int) : ∀ (n : Nat) (a : Int), (sg f a n).length = n
  | 0, _ => rfl
  | n + 1, a => by
    show (sg f (a + 1) n).length + 1 = n + 1
    rw [sg_len f n (a + 1)]
theorem sg_ext {f g : Int → Int} : ∀ (n : Nat) (a b : Int), (∀ j : Nat, j < n → f (a + (j : Int)) = g (b + (j : Int))) → sg f a n = sg g b n
  | 0, _, _, _ => rfl
  | n + 1, a, b, h => by
    show f a :: sg f (a + 1) n = g b :: sg g (b + 1) n
    have h0 := h 0 (Nat.succ_pos n)
    rw [show a + ((0 : Nat) : Int) = a by omega, show b + ((0 : Nat) : Int) = b by omega] at h0
    rw [h0, sg_ext n (a + 1) (b + 1) (fun j hj => by
      have e := h (j + 1) (by omega)
      rw [show a + ((j + 1 : Nat) : Int) = a + 1 + (j : Int) by omega, show b + ((j + 1 : Nat) : Int) = b + 1 + (j : Int) by omega] at e
      exact e)]
theorem sg_app (f : Int → Int) : ∀ (n m : Nat) (a : Int), sg f a (n + m) = sg f a n ++ sg f (a + (n : Int)) m
  | 0, m, a => by
    rw [Nat.zero_add]
    show sg f a m = sg f (a + ((0 : Nat) : Int)) m
    rw [show a + ((0 : Nat) : Int) = a by omega]
  | n + 1, m, a => by
    rw [show n + 1 + m = (n + m) + 1 by omega]
    show f a :: sg f (a + 1) (n + m) = f a :: (sg f (a + 1) n ++ sg f (a + ((n + 1 : Nat) : Int)) m)
    rw [sg_app f n m (a + 1), show a + ((n + 1 : Nat) : Int) = a + 1 + (n : Int) by omega]
theorem sg_snoc (f : Int → Int) (n : Nat) (a : Int) : sg f a (n + 1) = sg f a n ++ [f (a + (n : Int))] := by
  rw [sg_app f n 1 a]
  rfl
theorem sg_mem {f : Int → Int} {x : Int} : ∀ (n : Nat) (a : Int), x ∈ sg f a n ↔ ∃ j : Nat, j < n ∧ f (a + (j : Int)) = x
  | 0, a => ⟨fun h => (by cases h), fun ⟨j, h, _⟩ => absurd h (Nat.not_lt_zero _)⟩
  | n + 1, a => by
    show x ∈ f a :: sg f (a + 1) n ↔ _
    rw [List.mem_cons, sg_mem n (a + 1)]
    constructor
    · rintro (rfl | ⟨j, h1, h2⟩)
      · exact ⟨0, by omega, by rw [show a + ((0 : Nat) : Int) = a by omega]⟩
      · exact ⟨j + 1, by omega, by rw [show a + ((j + 1 : Nat) : Int) = a + 1 + (j : Int) by omega]; exact h2⟩
    · rintro ⟨j, h1, h2⟩
      cases j with
      | zero => rw [show a + ((0 : Nat) : Int) = a by omega] at h2; exact Or.inl h2.symm
      | succ j => rw [show a + ((j + 1 : Nat) : Int) = a + 1 + (j : Int) by omega] at h2; exact Or.inr ⟨j, by omega, h2⟩
end
section
/-! 61.store -/
/-! FACTS OF ANSWERS: the class's store: rows in and out -/
theorem sg_pw {f : Int → Int} {R : Int → Int → Prop} : ∀ (n : Nat) (a : Int), (sg f a n).Pairwise R ↔ ∀ i j : Nat, i < j → j < n → R (f (a + (i : Int))) (f (a + (j : Int)))
  | 0, a => ⟨fun _ i j _ h => absurd h (Nat.not_lt_zero _), fun _ => List.Pairwise.nil⟩
  | n + 1, a => by
    show (f a :: sg f (a + 1) n).Pairwise R ↔ _
    rw [List.pairwise_cons, sg_pw n (a + 1)]
    have sh : ∀ j : Nat, a + ((j + 1 : Nat) : Int) = a + 1 + (j : Int) := fun j => by omega
    have s0 : a + ((0 : Nat) : Int) = a := by omega
    constructor
    · rintro ⟨h1, h2⟩ i j hij hj
      cases j with
      | zero => omega
      | succ j =>
        cases i with
        | zero =>
          rw [s0, sh]
          exact h1 _ ((sg_mem n (a + 1)).mpr ⟨j, by omega, rfl⟩)
        | succ i =>
          rw [sh, sh]
          exact h2 i j (by omega) (by omega)
    · intro h
      refine ⟨fun b hb => ?_, fun i j hij hj => ?_⟩
      · obtain ⟨j, h1, h2⟩ := (sg_mem n (a + 1)).mp hb
        have e := h 0 (j + 1) (by omega) (by omega)
        rw [s0, sh, h2] at e
        exact e
      · have e := h (i + 1) (j + 1) (by omega) (by omega)
        rw [sh, sh] at e
        exact e
/-- the bits of the sets by x and by y -/
def STb (σ : zS) (c : Nat) (I : Nat → Bool) : Prop := ∀ i r : Nat, i ≤ 32 → r < 64 → bq (σ (c + 5) (i : Int)) r = (I r && decide (σ (c + 1) (r : Int) < (i : Int))) ∧ bq (σ (c + 6) (i : Int)) r = (I r && decide (σ (c + 2) (r : Int) < (i : Int)))
def ordL (σ : zS) (c : Nat) : List Int := sg (σ (c + 4)) 0 (σ c 4).toNat
def rkA (σ : zS) (c : Nat) (v : Int) : Int := (σ (c + 1) v * 32 + σ (c + 2) v) * 60 + v
def STo (σ : zS) (c : Nat) (I : Nat → Bool) : Prop := (ordL σ c).Pairwise (fun a b => rkA σ c a < rkA σ c b) ∧ ∀ v, v ∈ ordL σ c ↔ ∃ r : Nat, v = (r : Int) ∧ I r = true
/-- the store at c holds just the rows of I -/
def ST (σ : zS) (c : Nat) (I : Nat → Bool) : Prop := (∀ r, I r = true → r < 60) ∧ STb σ c I ∧ STo σ c I
theorem p_isRow {x : Int} {σ : zS} : g_so_isRow x σ = some (if 0 ≤ x ∧ x < 60 then 1 else 0, σ) := by
  unfold g_so_isRow
  by_cases c1 : x < 0
  · rw [if_pos c1, if_neg (by omega)]
  · rw [if_neg c1]
    by_cases c2 : 60 ≤ x
    · rw [if_pos c2, if_neg (by omega)]
    · rw [if_neg c2, if_pos (by omega)]
theorem p_isPlace {x y : Int} {σ : zS} : g_b_isPlace x y σ = some (if 0 ≤ x ∧ x ≤ 31 ∧ 0 ≤ y ∧ y ≤ 31 then 1 else 0, σ) := by
  unfold g_b_isPlace
  by_cases c1 : x < 0
  · rw [if_pos c1, if_neg (by omega)]
  · rw [if_neg c1]
    by_cases c2 : 32 ≤ x
    · rw [if_pos c2, if_neg (by omega)]
    · rw [if_neg c2]
      by_cases c3 : y < 0
      · rw [if_pos c3, if_neg (by omega)]
      · rw [if_neg c3]
        by_cases c4 : 32 ≤ y
        · rw [if_pos c4, if_neg (by omega)]
        · rw [if_neg c4, if_pos (by omega)]
theorem p_rank {v : Int} {σ : zS} (H : CI σ) (hv : 0 ≤ v ∧ v < 60) : g_so_rank v σ = some (rkA σ 41 v, σ) := by
  have hx := CI.cp (a := 42) (j := v) H (by omega)
  have hy := CI.cp (a := 43) (j := v) H (by omega)
  unfold g_so_rank
  rw [p_isRow, if_pos hv]
  rw [Option.bind_some]
  try dsimp +instances only
  rw [if_neg (by decide), if_pos hv, if_pos hv]
  rw [w32_id (x := σ 42 v * 32) (by omega) (by omega), w32_id (x := σ 42 v * 32 + σ 43 v) (by omega) (by omega), w32_id (x := (σ 42 v * 32 + σ 43 v) * 60) (by omega) (by omega), w32_id (x := (σ 42 v * 32 + σ 43 v) * 60 + v) (by omega) (by omega)]
  rfl
theorem p_isIn {r : Nat} {σ : zS} (hr : r < 60) : g_so_isIn (r : Int) σ = some (if bq (σ 46 32) r = true then 1 else 0, σ) := by
  unfold g_so_isIn
  rw [p_isRow, if_pos (by omega)]
  rw [Option.bind_some]
  try dsimp +instances only
  rw [if_neg (by decide)]
  have h := bq_tst (v := σ 46 32) (r := r) (by omega)
  by_cases c : bq (σ 46 32) r = true
  · rw [if_neg (fun e => by rw [h.mp e] at c; cases c), if_pos c]
  · have c2 : bq (σ 46 32) r = false := by
      cases hb : bq (σ 46 32) r with
      | true => exact absurd hb c
      | false => rfl
    rw [if_pos (h.mpr c2), if_neg c]
theorem p_isInN {x : Int} {σ : zS} (h : ¬ (0 ≤ x ∧ x < 60)) : g_so_isIn x σ = some (0, σ) := by
  unfold g_so_isIn
  rw [p_isRow, if_neg h]
  rw [Option.bind_some]
  try dsimp +instances only
  rw [if_pos rfl]
/-! the sets by x and y are turned at a row -/
theorem p_flip51 : ∀ (n : Nat) (y x : Int) (σ : zS), 0 ≤ x → x ≤ 33 → zP' (g_so_flip_L51 n y x σ) (fun _ s => (∀ a j, a ≠ 47 → s a j = σ a j) ∧ ∀ i, s 47 i = if x ≤ i ∧ i < 33 then lXor (σ 47 i) y else σ 47 i)
  | 0, _, _, _, _, _ => zP'.no
  | n + 1, y, x, σ, h0, h1 => by
    unfold g_so_flip_L51
    refine zP'.ite (fun c => zP'.ret ⟨fun _ _ _ => rfl, fun i => by rw [if_neg (by omega)]⟩) (fun c => ?_)
    refine zP'.gd (fun c1 => zP'.gd (fun _ => ?_))
    try dsimp +instances only
    rw [w32_id (x := x + 1) (by omega) (by omega)]
    refine (p_flip51 n y (x + 1) _ (by omega) (by omega)).imp (fun _ s p => ⟨fun a j h => (p.1 a j h).trans (zu_a h), fun i => ?_⟩)
    rw [p.2 i]
    by_cases ci : i = x
    · subst ci
      rw [if_neg (by omega), if_pos (by omega), zu_e rfl]
    · rw [zu_i ci]
      by_cases cj : x ≤ i ∧ i < 33
      · rw [if_pos (by omega), if_pos cj]
      · rw [if_neg (by omega), if_neg cj]
def flipped (σ s : zS) (r x y : Int) : Prop := (∀ i, s 46 i = if x < i ∧ i < 33 then lXor (σ 46 i) (lShl 1 r) else σ 46 i) ∧ ∀ i, s 47 i = if y < i ∧ i < 33 then lXor (σ 47 i) (lShl 1 r) else σ 47 i
theorem p_flip14 {r Y m : Int} (hr : 0 ≤ r ∧ r < 60) (hY : 0 ≤ Y ∧ Y ≤ 31) : ∀ (n : Nat) (x : Int) (σ : zS), 0 ≤ x → x ≤ 33 → σ 43 r = Y → zP' (g_so_flip_L14 n r m x σ) (fun _ s => (∀ a j, a ≠ 46 → a ≠ 47 → s a j = σ a j) ∧ (∀ i, s 46 i = if x ≤ i ∧ i < 33 then lXor (σ 46 i) m else σ 46 i) ∧ ∀ i, s 47 i = if Y < i ∧ i < 33 then lXor (σ 47 i) m else σ 47 i)
  | 0, _, _, _, _, _ => zP'.no
  | n + 1, x, σ, h0, h1, hy => by
    unfold g_so_flip_L14
    refine zP'.ite (fun c => ?_) (fun c => ?_)
    · refine zP'.gd (fun _ => ?_)
      try dsimp +instances only
      rw [hy, w32_id (x := Y + 1) (by omega) (by omega)]
      refine (p_flip51 zK m (Y + 1) σ (by omega) (by omega)).imp (fun _ s p => ⟨fun a j _ h => p.1 a j h, fun i => ?_, fun i => ?_⟩)
      · rw [p.1 46 i (by decide), if_neg (by omega)]
      · rw [p.2 i]
        by_cases ci : Y < i ∧ i < 33
        · rw [if_pos (by omega), if_pos ci]
        · rw [if_neg (by omega), if_neg ci]
    · refine zP'.gd (fun c1 => zP'.gd (fun _ => ?_))
      try dsimp +instances only
      rw [w32_id (x := x + 1) (by omega) (by omega)]
      refine (p_flip14 hr hY n (x + 1) _ (by omega) (by omega) (by rw [zu_a (by decide)]; exact hy)).imp (fun _ s p => ⟨fun a j h k => (p.1 a j h k).trans (zu_a h), fun i => ?_, fun i => ?_⟩)
      · rw [p.2.1 i]
        by_cases ci : i = x
        · subst ci
          rw [if_neg (by omega), if_pos (by omega), zu_e rfl]
        · rw [zu_i ci]
          by_cases cj : x ≤ i ∧ i < 33
          · rw [if_pos (by omega), if_pos cj]
          · rw [if_neg (by omega), if_neg cj]
      · rw [p.2.2 i, zu_a (by decide)]
theorem p_flip {r : Int} {σ : zS} (hr : 0 ≤ r ∧ r < 60) (hx : 0 ≤ σ 42 r ∧ σ 42 r ≤ 31) (hy : 0 ≤ σ 43 r ∧ σ 43 r ≤ 31) : zP' (g_so_flip r σ) (fun _ s => (∀ a j, a ≠ 46 → a ≠ 47 → s a j = σ a j) ∧ flipped σ s r (σ 42 r) (σ 43 r)) := by
  unfold g_so_flip
  refine zP'.gd (fun _ => ?_)
  try dsimp +instances only
  rw [w32_id (x := σ 42 r + 1) (by omega) (by omega)]
  refine (p_flip14 hr hy zK (σ 42 r + 1) σ (by omega) (by omega) rfl).imp (fun _ s p => ⟨p.1, fun i => ?_, p.2.2⟩)
  rw [p.2.1 i]
  by_cases ci : σ 42 r < i ∧ i < 33
  · rw [if_pos (by omega), if_pos ci]
  · rw [if_neg (by omega), if_neg ci]
/-! out -/
theorem p_out19 : ∀ (n : Nat) (r x y : Int) (σ : zS) (d : Nat), 0 ≤ x → x ≤ y → y + (d : Int) = zmx y (σ 41 4) → zP' (g_so_bringOut_L19 n r x y σ) (fun v s => (∀ a j, a ≠ 45 → (a ≠ 41 ∨ j ≠ 4) → s a j = σ a j) ∧ ordL s 41 = sg (σ 45) 0 x.toNat ++ (sg (σ 45) y d).filter (fun q => decide (q ≠ r)) ∧ v = iOr (iOr (iOr (σ 42 r) (iShl (σ 42 r) 5)) (iShl (σ 43 r) 10)) (iShl (σ 43 r) 15))
  | 0, _, _, _, _, _, _, _, _ => zP'.no
  | n + 1, r, x, y, σ, d, h0, h1, hd => by
    unfold g_so_bringOut_L19
    unfold zmx at hd
    refine zP'.ite (fun c => ?_) (fun c => ?_)
    · have c : σ 41 4 ≤ y := c
      rw [if_neg (by omega)] at hd
      have d0 : d = 0 := by omega
      subst d0
      try dsimp +instances only
      refine zP'.gd (fun _ => zP'.gd (fun _ => zP'.gd (fun _ => zP'.gd (fun _ => ?_))))
      try dsimp +instances only
      unfold g_b_of
      rw [Option.bind_some]
      refine zP'.ret ⟨fun a j h1 h2 => zu_c h2, ?_, ?_⟩
      · show sg (zu σ 41 4 x 45) 0 (zu σ 41 4 x 41 4).toNat = _ ++ []
        rw [List.append_nil, zu_e rfl]
        exact sg_ext _ 0 0 (fun j _ => zu_a (by decide))
      · dsimp only
        rw [zu_a (by decide), zu_a (by decide)]
    · have c : ¬ σ 41 4 ≤ y := c
      rw [if_pos (by omega)] at hd
      obtain ⟨e, rfl⟩ : ∃ e, d = e + 1 := ⟨d - 1, by omega⟩
      refine zP'.gd (fun c1 => ?_)
      try dsimp +instances only
      have ey := w32_id (x := y + 1) (by omega) (by omega)
      unfold g_so_bringOut_L52
      refine zP'.ite (fun c2 => ?_) (fun c2 => ?_)
      · rw [ey]
        refine (p_out19 n r x (y + 1) σ e h0 (by omega) (by unfold zmx; split <;> omega)).imp (fun v s p => ⟨p.1, ?_, p.2.2⟩)
        rw [p.2.1]
        show _ = _ ++ (σ 45 y :: sg (σ 45) (y + 1) e).filter (fun q => decide (q ≠ r))
        rw [List.filter_cons_of_neg (by rw [decide_eq_true_iff]; exact fun h => h c2)]
      · refine zP'.gd (fun _ => zP'.gd (fun c3 => ?_))
        try dsimp +instances only
        rw [ey, w32_id (x := x + 1) (by omega) (by omega)]
        generalize hs : zu σ 45 x (σ 45 y) = s1
        have q : ∀ a j, (a ≠ 45 ∨ j ≠ x) → s1 a j = σ a j := fun a j h => by rw [← hs]; exact zu_c h
        refine (p_out19 n r (x + 1) (y + 1) s1 e (by omega) (by omega) (by rw [q 41 4 (Or.inl (by decide))]; unfold zmx; split <;> omega)).imp (fun v s p => ⟨fun a j k1 k2 => (p.1 a j k1 k2).trans (q a j (Or.inl k1)), ?_, ?_⟩)
        · rw [p.2.1]
          show _ = _ ++ (σ 45 y :: sg (σ 45) (y + 1) e).filter (fun q => decide (q ≠ r))
          rw [List.filter_cons_of_pos (by rw [decide_eq_true_iff]; exact c2)]
          obtain ⟨m, rfl⟩ : ∃ m : Nat, x = (m : Int) := ⟨x.toNat, by omega⟩
          rw [show ((m : Int) + 1).toNat = m + 1 by omega, show ((m : Int)).toNat = m by omega, sg_snoc]
          have e1 : sg (s1 45) 0 m = sg (σ 45) 0 m := sg_ext m 0 0 (fun j hj => q 45 _ (Or.inr (by omega)))
          have e2 : s1 45 (0 + (m : Int)) = σ 45 y := by rw [← hs, zu_e (by omega)]
          have e3 : sg (s1 45) (y + 1) e = sg (σ 45) (y + 1) e := sg_ext e (y + 1) (y + 1) (fun j hj => q 45 _ (Or.inr (by omega)))
          rw [e1, e2, e3, List.append_assoc]
          rfl
        · rw [p.2.2, q 42 r (Or.inl (by decide)), q 43 r (Or.inl (by decide))]
theorem p_bringOut {r : Nat} {σ : zS} (H : CI σ) (hr : r < 60) : zP' (g_so_bringOut (r : Int) σ) (fun v s => (bq (σ 46 32) r = true → (∀ a j, a ≠ 45 → a ≠ 46 → a ≠ 47 → (a ≠ 41 ∨ j ≠ 4) → s a j = σ a j) ∧ flipped σ s (r : Int) (σ 42 (r : Int)) (σ 43 (r : Int)) ∧ ordL s 41 = (ordL σ 41).filter (fun q => decide (q ≠ (r : Int))) ∧ v = iOr (iOr (iOr (σ 42 (r : Int)) (iShl (σ 42 (r : Int)) 5)) (iShl (σ 43 (r : Int)) 10)) (iShl (σ 43 (r : Int)) 15))) := by
  unfold g_so_bringOut
  rw [p_isIn hr]
  rw [Option.bind_some]
  try dsimp +instances only
  by_cases c : bq (σ 46 32) r = true
  · rw [if_pos c, if_pos (by decide)]
    refine zP'.bind (p_flip (r := (r : Int)) (by omega) (CI.cp H (by omega)) (CI.cp H (by omega))) (fun _ s1 p1 => ?_)
    try dsimp +instances only
    have hc := CI.c4 (a := 41) H (by omega)
    have e4 : s1 41 4 = σ 41 4 := p1.1 41 4 (by decide) (by decide)
    refine (p_out19 zK (r : Int) 0 0 s1 (σ 41 4).toNat (by omega) (by omega) (by rw [e4]; unfold zmx; split <;> omega)).imp (fun v s p _ => ⟨fun a j k1 k2 k3 k4 => (p.1 a j k1 k4).trans (p1.1 a j k2 k3), ⟨fun i => ?_, fun i => ?_⟩, ?_, ?_⟩)
    · rw [p.1 46 i (by decide) (Or.inl (by decide))]; exact p1.2.1 i
    · rw [p.1 47 i (by decide) (Or.inl (by decide))]; exact p1.2.2 i
    · rw [p.2.1]
      show [] ++ _ = (sg (σ 45) 0 (σ 41 4).toNat).filter _
      rw [List.nil_append, sg_ext (f := s1 45) (g := σ 45) _ 0 0 (fun j _ => p1.1 45 _ (by decide) (by decide))]
    · rw [p.2.2, p1.1 42 _ (by decide) (by decide), p1.1 43 _ (by decide) (by decide)]
  · rw [if_neg c, if_neg (by decide)]
    exact zP'.ret (fun h => absurd h c)
/-! in -/
theorem p_in66 {r : Int} (hr : 0 ≤ r ∧ r < 60) : ∀ (n : Nat) (k : Nat) (σ : zS), CI σ → k < 60 → σ 41 4 < 60 → (∀ j : Nat, j < k → 0 ≤ σ 45 (j : Int) ∧ σ 45 (j : Int) < 60) → zP' (g_so_bringIn_L66 n r (k : Int) σ) (fun _ s => ∃ p : Nat, p ≤ k ∧ (∀ a j, a ≠ 45 → (a ≠ 41 ∨ j ≠ 4) → s a j = σ a j) ∧ s 41 4 = σ 41 4 + 1 ∧ (∀ j : Nat, j < p → s 45 (j : Int) = σ 45 (j : Int)) ∧ s 45 (p : Int) = r ∧ (∀ j : Nat, p ≤ j → j < k → s 45 ((j : Int) + 1) = σ 45 (j : Int)) ∧ (∀ j : Int, (k : Int) < j → s 45 j = σ 45 j) ∧ (∀ j : Nat, p ≤ j → j < k → rkA σ 41 r < rkA σ 41 (σ 45 (j : Int))) ∧ (p = 0 ∨ rkA σ 41 (σ 45 ((p : Int) - 1)) ≤ rkA σ 41 r))
  | 0, _, _, _, _, _, _ => zP'.no
  | n + 1, k, σ, H, hk, hc, hv => by
    have h4 := CI.c4 (a := 41) H (by omega)
    have fin : (k = 0 ∨ rkA σ 41 (σ 45 ((k : Int) - 1)) ≤ rkA σ 41 r) → zP' (g_so_bringIn_L114 r (k : Int) σ) (fun _ s => ∃ p : Nat, p ≤ k ∧ (∀ a j, a ≠ 45 → (a ≠ 41 ∨ j ≠ 4) → s a j = σ a j) ∧ s 41 4 = σ 41 4 + 1 ∧ (∀ j : Nat, j < p → s 45 (j : Int) = σ 45 (j : Int)) ∧ s 45 (p : Int) = r ∧ (∀ j : Nat, p ≤ j → j < k → s 45 ((j : Int) + 1) = σ 45 (j : Int)) ∧ (∀ j : Int, (k : Int) < j → s 45 j = σ 45 j) ∧ (∀ j : Nat, p ≤ j → j < k → rkA σ 41 r < rkA σ 41 (σ 45 (j : Int))) ∧ (p = 0 ∨ rkA σ 41 (σ 45 ((p : Int) - 1)) ≤ rkA σ 41 r)) := by
      intro hp
      unfold g_so_bringIn_L114
      refine zP'.gd (fun _ => ?_)
      try dsimp +instances only
      rw [show zu σ 45 (k : Int) r 41 4 = σ 41 4 from zu_a (by decide), w32_id (x := σ 41 4 + 1) (by omega) (by omega)]
      refine zP'.ret ⟨k, Nat.le_refl _, fun a j h1 h2 => ?_, zu_e rfl, fun j hj => ?_, ?_, fun j h1 h2 => absurd h2 (by omega), fun j hj => ?_, fun j h1 h2 => absurd h2 (by omega), hp⟩
      · rw [zu_c h2, zu_a h1]
      · rw [zu_a (by decide), zu_i (by omega)]
      · rw [zu_a (by decide), zu_e rfl]
      · rw [zu_a (by decide), zu_i (by omega)]
    unfold g_so_bringIn_L66
    refine zP'.ite (fun c => fin (Or.inl (by omega))) (fun c => ?_)
    have ew := w32_id (x := (k : Int) - 1) (by omega) (by omega)
    obtain ⟨k, rfl⟩ : ∃ m, k = m + 1 := ⟨k - 1, by omega⟩
    have ek : ((k + 1 : Nat) : Int) - 1 = (k : Int) := by omega
    rw [ek] at ew fin
    have hvk := hv k (by omega)
    refine zP'.gd (fun c1 => ?_)
    try dsimp +instances only
    rw [ek, ew, p_rank H hvk]
    rw [Option.bind_some]
    try dsimp +instances only
    rw [p_rank H hr]
    rw [Option.bind_some]
    try dsimp +instances only
    refine zP'.ite (fun c2 => fin (Or.inr c2)) (fun c2 => ?_)
    refine zP'.gd (fun _ => zP'.gd (fun _ => ?_))
    try dsimp +instances only
    generalize hs : zu σ 45 ((k + 1 : Nat) : Int) (σ 45 (k : Int)) = s1
    have q : ∀ a j, (a ≠ 45 ∨ j ≠ ((k + 1 : Nat) : Int)) → s1 a j = σ a j := fun a j h => by rw [← hs]; exact zu_c h
    have qk : s1 45 ((k + 1 : Nat) : Int) = σ 45 (k : Int) := by rw [← hs]; exact zu_e rfl
    have H1 : CI s1 := by rw [← hs]; exact CI_zun H (by decide) (by decide) rfl
    have rk1 : ∀ v, rkA s1 41 v = rkA σ 41 v := fun v => by
      unfold rkA
      rw [q 42 v (Or.inl (by decide)), q 43 v (Or.inl (by decide))]
    refine (p_in66 hr n k s1 H1 (by omega) (by rw [q 41 4 (Or.inl (by decide))]; exact hc) (fun j hj => by rw [q 45 _ (Or.inr (by omega))]; exact hv j (by omega))).imp (fun _ s h => ?_)
    obtain ⟨p, h0, h1, h2, h3, h4', h5, h6, h7, h8⟩ := h
    refine ⟨p, by omega, fun a j k1 k2 => (h1 a j k1 k2).trans (q a j (Or.inl k1)), by rw [h2, q 41 4 (Or.inl (by decide))], fun j hj => by rw [h3 j hj, q 45 _ (Or.inr (by omega))], h4', fun j j1 j2 => ?_, fun j hj => by rw [h6 j (by omega), q 45 _ (Or.inr (by omega))], fun j j1 j2 => ?_, ?_⟩
    · by_cases cj : j = k
      · subst cj
        rw [h6 ((j : Int) + 1) (by omega), show (j : Int) + 1 = ((j + 1 : Nat) : Int) by omega]; exact qk
      · rw [h5 j j1 (by omega), q 45 _ (Or.inr (by omega))]
    · by_cases cj : j = k
      · subst cj; omega
      · have e := h7 j j1 (by omega)
        rw [rk1, rk1, q 45 _ (Or.inr (by omega))] at e
        exact e
    · rcases h8 with h8 | h8
      · exact Or.inl h8
      · by_cases cp : p = 0
        · exact Or.inl cp
        · rw [rk1, rk1, q 45 _ (Or.inr (by omega))] at h8
          exact Or.inr h8
end
section
/-! 62.refrows -/
/-! FACTS OF ANSWERS: the reference's rows behind put() and take() -/
def acc (r x y v : Int) : Prop := (0 ≤ r ∧ r < 60) ∧ (0 ≤ x ∧ x ≤ 31) ∧ (0 ≤ y ∧ y ≤ 31) ∧ v ≠ -9223372036854775808 ∧ v ≠ -9223372036854775807
def rowsTo (σ s : zS) (k x y v : Int) : Prop := (∀ j, 11 ≤ j → j < 300 → s 144 j = if j = 20 + 3 * k then 1 else if j = 21 + 3 * k then x else if j = 22 + 3 * k then y else σ 144 j) ∧ ∀ j, 1 ≤ j → j < 61 → s 147 j = if j = 1 + k then v else σ 147 j
def rowsOut (σ s : zS) (k : Int) : Prop := (∀ j, 11 ≤ j → j < 300 → s 144 j = if j = 20 + 3 * k then 0 else σ 144 j) ∧ ∀ j, 1 ≤ j → j < 61 → s 147 j = σ 147 j
theorem t_put72 {σ : zS} {N : Nat} {r x y v : Int} (hH : HI σ) (hR : RI σ N) (hN : σ 144 0 = (N : Int)) (hN2 : N ≤ 100) (hr : 0 ≤ r ∧ r < 60) (hx : 0 ≤ x ∧ x ≤ 31) (hy : 0 ≤ y ∧ y ≤ 31) : ∃ c s, g_m_put_L72 r x y v σ = some (c, s) ∧ rowsTo σ s r x y v := by
  obtain ⟨k, rfl⟩ : ∃ k : Nat, r = (k : Int) := ⟨r.toNat, by omega⟩
  generalize hs1 : zu (zu (zu (zu σ 144 (20 + 3 * (k : Int)) 1) 144 (21 + 3 * (k : Int)) x) 144 (22 + 3 * (k : Int)) y) 147 (1 + (k : Int)) v = s1
  have f1 : ∀ a j, (a ≠ 144 ∨ j < 20 + 3 * (k : Int) ∨ 23 + 3 * (k : Int) ≤ j) → (a ≠ 147 ∨ j ≠ 1 + (k : Int)) → s1 a j = σ a j := fun a j h1 h2 => by
    rw [← hs1, zu_c h2, zu_c (by omega), zu_c (by omega), zu_c (by omega)]
  have rows1 : ∀ t : Nat, t < 60 → (0 ≤ s1 144 (21 + 3 * (t : Int)) ∧ s1 144 (21 + 3 * (t : Int)) ≤ 31) ∧ (0 ≤ s1 144 (22 + 3 * (t : Int)) ∧ s1 144 (22 + 3 * (t : Int)) ≤ 31) := fun t ht => by
    by_cases c : t = k
    · subst c
      have e1 : s1 144 (21 + 3 * (t : Int)) = x := by rw [← hs1, zu_a (by decide), zu_i (by omega), zu_e rfl]
      have e2 : s1 144 (22 + 3 * (t : Int)) = y := by rw [← hs1, zu_a (by decide), zu_e rfl]
      rw [e1, e2]
      exact ⟨hx, hy⟩
    · rw [f1 144 _ (by omega) (Or.inl (by decide)), f1 144 _ (by omega) (Or.inl (by decide))]
      exact hH.2.2.2.2.2.2 t ht
  have hH1 : HI s1 := HI_P hH (fun j hj => f1 144 j (by omega) (Or.inl (by decide))) rows1
  have hR1 : RI s1 N := RI_of hR (fun t ht => by
    unfold rgA bxA
    try dsimp only
    rw [f1 144 _ (by omega) (Or.inl (by decide)), f1 144 _ (by omega) (Or.inl (by decide)), f1 144 _ (by omega) (Or.inl (by decide)), f1 144 _ (by omega) (Or.inl (by decide)), f1 144 _ (by omega) (Or.inl (by decide)), f1 144 _ (by omega) (Or.inl (by decide)), f1 144 _ (by omega) (Or.inl (by decide)), f1 144 _ (by omega) (Or.inl (by decide))]
    exact ⟨rfl, rfl⟩)
  have hN1 : s1 144 0 = (N : Int) := (f1 144 0 (by omega) (Or.inl (by decide))).trans hN
  obtain ⟨s2, N2, g1, g2, g3, g4, g5⟩ := s_writes hR1 hN1 hN2 hx hy
  have hH2 : HI s2 := HI_fr8 hH1 (fun j h1 h2 => g5 144 j (Or.inr ⟨h1, h2⟩) (Or.inl (by decide)) (by decide) (by decide) (by decide))
  obtain ⟨c, s3, k1, k2, k3, k4⟩ := s_behind hH2 g2 g3 (by omega)
  refine ⟨c, s3, ?_, fun j j1 j2 => ?_, fun j j1 j2 => ?_⟩
  · unfold g_m_put_L72
    rw [s_rowAt (by omega) (by omega)]
    rw [Option.bind_some]
    try dsimp only
    rw [if_pos (by omega), s_rowAt (by omega) (by omega)]
    rw [Option.bind_some]
    try dsimp only
    rw [w32_id (x := 20 + 3 * (k : Int) + 1) (by omega) (by omega), if_pos (by omega), s_rowAt (by omega) (by omega)]
    rw [Option.bind_some]
    try dsimp only
    rw [w32_id (x := 20 + 3 * (k : Int) + 2) (by omega) (by omega), if_pos (by omega), w32_id (x := 1 + (k : Int)) (by omega) (by omega), if_pos (by omega), show 20 + 3 * (k : Int) + 1 = 21 + 3 * (k : Int) by omega, show 20 + 3 * (k : Int) + 2 = 22 + 3 * (k : Int) by omega, hs1, g1]
    rw [Option.bind_some]
    try dsimp only
    rw [k1]
    rfl
  · rw [k4 144 j (Or.inr ⟨by omega, by omega⟩) (Or.inl (by decide)) (Or.inl (by decide)) (by decide) (by decide) (by decide), g5 144 j (Or.inr ⟨by omega, by omega⟩) (Or.inl (by decide)) (by decide) (by decide) (by decide)]
    rw [← hs1, zu_a (by decide)]
    by_cases c2 : j = 22 + 3 * (k : Int)
    · rw [zu_e c2, if_neg (by omega), if_neg (by omega), if_pos c2]
    · rw [zu_i c2]
      by_cases c1 : j = 21 + 3 * (k : Int)
      · rw [zu_e c1, if_neg (by omega), if_pos c1]
      · rw [zu_i c1]
        by_cases c0 : j = 20 + 3 * (k : Int)
        · rw [zu_e c0, if_pos c0]
        · rw [zu_i c0, if_neg c0, if_neg c1, if_neg c2]
  · rw [k4 147 j (Or.inl (by decide)) (Or.inr ⟨by omega, by omega⟩) (Or.inl (by decide)) (by decide) (by decide) (by decide), g5 147 j (Or.inl (by decide)) (Or.inr ⟨by omega, by omega⟩) (by decide) (by decide) (by decide)]
    rw [← hs1]
    by_cases c0 : j = 1 + (k : Int)
    · rw [zu_e c0, if_pos c0]
    · rw [zu_i c0, if_neg c0, zu_a (by decide), zu_a (by decide), zu_a (by decide)]
theorem t_put {σ : zS} {r x y v : Int} (hH : HI σ) (hI : NI σ) : ∃ c s, g_m_put r x y v σ = some (c, s) ∧ (acc r x y v → rowsTo σ s r x y v) ∧ (¬ acc r x y v → s = σ) := by
  have same : ∀ c : Int, ¬ acc r x y v → ∃ c' s, (some (c, σ) : Option (Int × zS)) = some (c', s) ∧ (acc r x y v → rowsTo σ s r x y v) ∧ (¬ acc r x y v → s = σ) := fun c h => ⟨c, σ, rfl, fun k => absurd k h, fun _ => rfl⟩
  unfold g_m_put
  rw [s_isRow]
  rw [Option.bind_some]
  try dsimp only
  by_cases c1 : 0 ≤ r ∧ r < 60
  · rw [if_pos c1, if_pos (by decide)]
    by_cases c2 : 0 ≤ x ∧ x ≤ 31
    · rw [s_isIn_t c2.1 c2.2]
      rw [Option.bind_some]
      try dsimp only
      rw [if_neg (by decide)]
      by_cases c3 : 0 ≤ y ∧ y ≤ 31
      · rw [s_isIn_t c3.1 c3.2]
        rw [Option.bind_some]
        try dsimp only
        rw [if_neg (by decide)]
        by_cases c4 : lCmp v (-9223372036854775808) = 0
        · rw [if_pos c4]
          exact same _ (fun h => h.2.2.2.1 (lCmp_eq.mp c4))
        · rw [if_neg c4]
          by_cases c5 : lCmp v (-9223372036854775807) ≠ 0
          · rw [if_pos c5]
            have hacc : acc r x y v := ⟨c1, c2, c3, fun h => c4 (lCmp_eq.mpr h), fun h => c5 (lCmp_eq.mpr h)⟩
            obtain ⟨s1, e1, e2⟩ := s_values (σ := σ) hH.2.2.2.2.1
            rw [e1]
            rw [Option.bind_some]
            try dsimp only
            rw [s_rowAt (by omega) (by omega)]
            rw [Option.bind_some]
            try dsimp only
            rw [if_pos (by omega)]
            have hH1 := HI_V hH e2
            have e144 : ∀ j, s1 144 j = σ 144 j := fun j => e2 144 j (Or.inl (by decide)) (by decide) (by decide) (by decide)
            have e147 : ∀ j, s1 147 j = σ 147 j := fun j => e2 147 j (Or.inl (by decide)) (by decide) (by decide) (by decide)
            obtain ⟨N, n1, n2, n3⟩ := NI_fr (s := s1) hI (fun j _ => e144 j)
            split
            · obtain ⟨c, s, g1, g2, g3⟩ := t_put72 (v := v) hH1 n3 n2 (by omega) c1 c2 c3
              refine ⟨c, s, g1, fun _ => ⟨fun j j1 j2 => ?_, fun j j1 j2 => ?_⟩, fun h => absurd hacc h⟩
              · rw [g2 j j1 j2, e144]
              · rw [g3 j j1 j2, e147]
            · obtain ⟨s2, N2, g1, g2, g3, g4, g5⟩ := s_out hH1 n3 n2 (by omega) c1
              rw [g1]
              rw [Option.bind_some]
              try dsimp only
              have z1 : HI (zu s1 144 (20 + 3 * r) 0) := HI_P hH1 (fun j hj => zu_i (by omega)) (fun t ht => by rw [zu_i (by omega), zu_i (by omega)]; exact hH1.2.2.2.2.2.2 t ht)
              have hH2 : HI s2 := HI_fr8 z1 (fun j h1 h2 => g5 144 j (Or.inr ⟨h1, h2⟩) (Or.inl (by decide)) (by decide) (by decide) (by decide))
              obtain ⟨c, s, k1, k2, k3⟩ := t_put72 (v := v) hH2 g2 g3 (by omega) c1 c2 c3
              refine ⟨c, s, k1, fun _ => ⟨fun j j1 j2 => ?_, fun j j1 j2 => ?_⟩, fun h => absurd hacc h⟩
              · rw [k2 j j1 j2, g5 144 j (Or.inr ⟨by omega, by omega⟩) (Or.inl (by decide)) (by decide) (by decide) (by decide)]
                by_cases cj : j = 20 + 3 * r
                · rw [if_pos cj, if_pos cj]
                · rw [if_neg cj, if_neg cj, zu_i cj, e144]
              · rw [k3 j j1 j2, g5 147 j (Or.inl (by decide)) (Or.inr ⟨by omega, by omega⟩) (by decide) (by decide) (by decide), zu_a (by decide), e147]
          · rw [if_neg c5]
            exact same _ (fun h => c5 (fun e => h.2.2.2.2 (lCmp_eq.mp e)))
      · rw [s_isIn_f (by omega)]
        exact same _ (fun h => c3 h.2.2.1)
    · rw [s_isIn_f (by omega)]
      exact same _ (fun h => c2 h.2.1)
  · rw [if_neg c1, if_neg (by decide)]
    exact same _ (fun h => c1 h.1)
theorem t_take {σ : zS} {r : Int} (hH : HI σ) (hI : NI σ) : ∃ c s, g_m_take r σ = some (c, s) ∧ ((0 ≤ r ∧ r < 60) ∧ σ 144 (20 + 3 * r) ≠ 0 → rowsOut σ s r) ∧ (¬ ((0 ≤ r ∧ r < 60) ∧ σ 144 (20 + 3 * r) ≠ 0) → s = σ) := by
  have same : ∀ c : Int, ¬ ((0 ≤ r ∧ r < 60) ∧ σ 144 (20 + 3 * r) ≠ 0) → ∃ c' s, (some (c, σ) : Option (Int × zS)) = some (c', s) ∧ ((0 ≤ r ∧ r < 60) ∧ σ 144 (20 + 3 * r) ≠ 0 → rowsOut σ s r) ∧ (¬ ((0 ≤ r ∧ r < 60) ∧ σ 144 (20 + 3 * r) ≠ 0) → s = σ) := fun c h => ⟨c, σ, rfl, fun k => absurd k h, fun _ => rfl⟩
  unfold g_m_take
  rw [s_isRow]
  rw [Option.bind_some]
  try dsimp only
  by_cases c1 : 0 ≤ r ∧ r < 60
  · rw [if_pos c1, if_pos (by decide), s_rowAt (by omega) (by omega)]
    rw [Option.bind_some]
    try dsimp +instances only
    rw [if_pos (by omega)]
    by_cases c2 : σ 144 (20 + 3 * r) ≠ 0
    · rw [if_pos c2]
      obtain ⟨s1, e1, e2⟩ := s_values (σ := σ) hH.2.2.2.2.1
      rw [e1]
      rw [Option.bind_some]
      try dsimp only
      have hH1 := HI_V hH e2
      have e144 : ∀ j, s1 144 j = σ 144 j := fun j => e2 144 j (Or.inl (by decide)) (by decide) (by decide) (by decide)
      have e147 : ∀ j, s1 147 j = σ 147 j := fun j => e2 147 j (Or.inl (by decide)) (by decide) (by decide) (by decide)
      obtain ⟨N, n1, n2, n3⟩ := NI_fr (s := s1) hI (fun j _ => e144 j)
      obtain ⟨s2, N2, g1, g2, g3, g4, g5⟩ := s_out hH1 n3 n2 (by omega) c1
      rw [g1]
      rw [Option.bind_some]
      try dsimp only
      have z1 : HI (zu s1 144 (20 + 3 * r) 0) := HI_P hH1 (fun j hj => zu_i (by omega)) (fun t ht => by rw [zu_i (by omega), zu_i (by omega)]; exact hH1.2.2.2.2.2.2 t ht)
      have hH2 : HI s2 := HI_fr8 z1 (fun j h1 h2 => g5 144 j (Or.inr ⟨h1, h2⟩) (Or.inl (by decide)) (by decide) (by decide) (by decide))
      obtain ⟨c, s3, k1, k2, k3, k4⟩ := s_behind hH2 g2 g3 (by omega)
      rw [k1]
      rw [Option.bind_some]
      refine ⟨c, s3, rfl, fun _ => ⟨fun j j1 j2 => ?_, fun j j1 j2 => ?_⟩, fun h => absurd ⟨c1, c2⟩ h⟩
      · rw [k4 144 j (Or.inr ⟨by omega, by omega⟩) (Or.inl (by decide)) (Or.inl (by decide)) (by decide) (by decide) (by decide), g5 144 j (Or.inr ⟨by omega, by omega⟩) (Or.inl (by decide)) (by decide) (by decide) (by decide)]
        by_cases cj : j = 20 + 3 * r
        · rw [zu_e cj, if_pos cj]
        · rw [zu_i cj, if_neg cj, e144]
      · rw [k4 147 j (Or.inl (by decide)) (Or.inr ⟨by omega, by omega⟩) (Or.inl (by decide)) (by decide) (by decide) (by decide), g5 147 j (Or.inl (by decide)) (Or.inr ⟨by omega, by omega⟩) (by decide) (by decide) (by decide), zu_a (by decide), e147]
    · rw [if_neg c2]
      exact same _ (fun h => c2 h.2)
  · rw [if_neg c1, if_neg (by decide)]
    exact same _ (fun h => c1 h.1)
/-- what row() and worth() answer, of the reference's cells -/
def rowA (σ : zS) (r w : Int) : Int := if 0 ≤ r ∧ r < 60 then (if 0 ≤ w ∧ w ≤ 1 then (if σ 144 (20 + 3 * r) = 0 then -3 else σ 144 (21 + 3 * r + w)) else -1) else -1
theorem t_row {r w : Int} {σ : zS} : g_m_row r w σ = some (rowA σ r w, σ) := by
  unfold g_m_row rowA
  rw [s_isRow]
  rw [Option.bind_some]
  try dsimp +instances only
  by_cases c1 : 0 ≤ r ∧ r < 60
  · rw [if_pos c1, if_pos c1, if_neg (by decide)]
    by_cases c2 : 0 ≤ w ∧ w ≤ 1
    · rw [s_isIn_t c2.1 c2.2, if_pos c2]
      rw [Option.bind_some]
      try dsimp +instances only
      rw [if_pos (by decide), s_rowAt (by omega) (by omega)]
      rw [Option.bind_some]
      try dsimp +instances only
      rw [if_pos (by omega)]
      by_cases c3 : σ 144 (20 + 3 * r) = 0
      · rw [if_neg (fun h => h c3), if_pos c3]
      · rw [if_pos c3, if_neg c3, s_rowAt (by omega) (by omega)]
        rw [Option.bind_some]
        try dsimp +instances only
        rw [w32_id (x := 20 + 3 * r + 1) (by omega) (by omega), w32_id (x := 20 + 3 * r + 1 + w) (by omega) (by omega), if_pos (by omega), show 20 + 3 * r + 1 + w = 21 + 3 * r + w by omega]
    · rw [s_isIn_f (by omega), if_neg c2]
      rw [Option.bind_some]
      try dsimp +instances only
      rw [if_neg (by decide)]
  · rw [if_neg c1, if_neg c1, if_pos rfl]
def worthA (σ : zS) (r : Int) : Int := if 0 ≤ r ∧ r < 60 then (if σ 144 (20 + 3 * r) = 1 then σ 147 (1 + r) else -9223372036854775808) else -9223372036854775808
theorem t_worth {r : Int} {σ : zS} : g_m_worth r σ = some (worthA σ r, σ) := by
  unfold g_m_worth worthA
  rw [s_isRow]
  rw [Option.bind_some]
  try dsimp +instances only
  by_cases c1 : 0 ≤ r ∧ r < 60
  · rw [if_pos c1, if_pos c1, if_neg (by decide), s_rowAt (by omega) (by omega)]
    rw [Option.bind_some]
    try dsimp +instances only
    rw [if_pos (by omega)]
    by_cases c3 : σ 144 (20 + 3 * r) = 1
    · rw [if_neg (fun h => h c3), if_pos c3, w32_id (x := 1 + r) (by omega) (by omega), if_pos (by omega)]
    · rw [if_pos c3, if_neg c3]
  · rw [if_neg c1, if_neg c1, if_pos rfl]
end
section
/-! 63.cstore -/
/-! FACTS OF ANSWERS: the class's put() and take() at the store -/
/-- a row comes in at a place with a worth -/
def cellsIn (σ s : zS) (r x y v : Int) : Prop := (∀ j, s 42 j = if j = r then x else σ 42 j) ∧ (∀ j, s 43 j = if j = r then y else σ 43 j) ∧ (∀ j, s 44 j = if j = r then v else σ 44 j)
theorem p_bringIn {r : Nat} {x y v : Int} {σ : zS} (H : CI σ) (hr : r < 60) (hx : 0 ≤ x ∧ x ≤ 31) (hy : 0 ≤ y ∧ y ≤ 31) (hc : σ 41 4 < 60) (hn : bq (σ 46 32) r = false) (hv : ∀ j : Nat, (j : Int) < σ 41 4 → 0 ≤ σ 45 (j : Int) ∧ σ 45 (j : Int) < 60) : zP' (g_so_bringIn (r : Int) x y v σ) (fun _ s => cellsIn σ s (r : Int) x y v ∧ flipped σ s (r : Int) x y ∧ s 41 4 = σ 41 4 + 1 ∧ ∃ p : Nat, (p : Int) ≤ σ 41 4 ∧ (∀ j : Nat, j < p → s 45 (j : Int) = σ 45 (j : Int)) ∧ s 45 (p : Int) = (r : Int) ∧ (∀ j : Nat, p ≤ j → (j : Int) < σ 41 4 → s 45 ((j : Int) + 1) = σ 45 (j : Int)) ∧ (∀ j : Nat, p ≤ j → (j : Int) < σ 41 4 → rkA s 41 (r : Int) < rkA s 41 (σ 45 (j : Int))) ∧ (p = 0 ∨ rkA s 41 (σ 45 ((p : Int) - 1)) ≤ rkA s 41 (r : Int))) := by
  have h4 := CI.c4 (a := 41) H (by omega)
  unfold g_so_bringIn
  rw [p_isRow, if_pos (by omega)]
  rw [Option.bind_some]
  try dsimp +instances only
  rw [if_neg (by decide), p_isIn hr, if_neg (by rw [hn]; decide)]
  rw [Option.bind_some]
  try dsimp +instances only
  rw [if_neg (by decide), if_neg (by omega), p_isPlace, if_pos (by omega)]
  rw [Option.bind_some]
  try dsimp +instances only
  rw [if_pos (by decide)]
  refine zP'.gd (fun _ => zP'.gd (fun _ => zP'.gd (fun _ => ?_)))
  try dsimp +instances only
  generalize hs : zu (zu (zu σ 42 (r : Int) x) 43 (r : Int) y) 44 (r : Int) v = s1
  have q : ∀ a j, a ≠ 42 → a ≠ 43 → a ≠ 44 → s1 a j = σ a j := fun a j k1 k2 k3 => by rw [← hs, zu_a k3, zu_a k2, zu_a k1]
  have q42 : ∀ j, s1 42 j = if j = (r : Int) then x else σ 42 j := fun j => by
    rw [← hs, zu_a (by decide), zu_a (by decide)]
    by_cases c : j = (r : Int)
    · rw [zu_e c, if_pos c]
    · rw [zu_i c, if_neg c]
  have q43 : ∀ j, s1 43 j = if j = (r : Int) then y else σ 43 j := fun j => by
    rw [← hs, zu_a (by decide)]
    by_cases c : j = (r : Int)
    · rw [zu_e c, if_pos c]
    · rw [zu_i c, if_neg c, zu_a (by decide)]
  have q44 : ∀ j, s1 44 j = if j = (r : Int) then v else σ 44 j := fun j => by
    rw [← hs]
    by_cases c : j = (r : Int)
    · rw [zu_e c, if_pos c]
    · rw [zu_i c, if_neg c, zu_a (by decide), zu_a (by decide)]
  have H1 : CI s1 := by
    rw [← hs]
    refine CI_zun (CI_zuy (CI_zuy H (by decide) (by decide) (lo := 0) (hi := 31) rfl hx.1 hx.2) (by decide) (by decide) (lo := 0) (hi := 31) rfl hy.1 hy.2) (by decide) (by decide) rfl
  refine zP'.bind ((p_flip (r := (r : Int)) (σ := s1) (by omega) (CI.cp H1 (by omega)) (CI.cp H1 (by omega))).and (zP'.of (g_so_flip_sp H1 (by omega)))) (fun _ s2 p2 => ?_)
  try dsimp +instances only
  obtain ⟨⟨e2, fl⟩, H2, -⟩ := p2
  have e4 : s2 41 4 = σ 41 4 := (e2 41 4 (by decide) (by decide)).trans (q 41 4 (by decide) (by decide) (by decide))
  have e45 : ∀ j, s2 45 j = σ 45 j := fun j => (e2 45 j (by decide) (by decide)).trans (q 45 j (by decide) (by decide) (by decide))
  obtain ⟨k, hk⟩ : ∃ k : Nat, σ 41 4 = (k : Int) := ⟨(σ 41 4).toNat, by omega⟩
  rw [e4, hk]
  refine (p_in66 (r := (r : Int)) (by omega) zK k s2 H2 (by omega) (by omega) (fun j hj => by rw [e45]; exact hv j (by omega))).imp (fun _ s h => ?_)
  obtain ⟨p, h0, h1, h2, h3, h4', h5, h6, h7, h8⟩ := h
  have rk : ∀ w, rkA s 41 w = rkA s2 41 w := fun w => by
    unfold rkA
    rw [h1 42 w (by decide) (Or.inl (by decide)), h1 43 w (by decide) (Or.inl (by decide))]
  rw [q42 (r : Int), if_pos rfl, q43 (r : Int), if_pos rfl] at fl
  refine ⟨⟨fun j => ?_, fun j => ?_, fun j => ?_⟩, ⟨fun i => ?_, fun i => ?_⟩, by omega, p, by omega, fun j hj => ?_, h4', fun j j1 j2 => ?_, fun j j1 j2 => ?_, ?_⟩
  · rw [h1 42 j (by decide) (Or.inl (by decide)), e2 42 j (by decide) (by decide), q42]
  · rw [h1 43 j (by decide) (Or.inl (by decide)), e2 43 j (by decide) (by decide), q43]
  · rw [h1 44 j (by decide) (Or.inl (by decide)), e2 44 j (by decide) (by decide), q44]
  · rw [h1 46 i (by decide) (Or.inl (by decide)), fl.1 i, q 46 i (by decide) (by decide) (by decide)]
  · rw [h1 47 i (by decide) (Or.inl (by decide)), fl.2 i, q 47 i (by decide) (by decide) (by decide)]
  · rw [h3 j hj, e45]
  · rw [h5 j j1 (by omega), e45]
  · have e := h7 j j1 (by omega)
    rw [rk, rk, ← e45]
    exact e
  · rcases h8 with h8 | h8
    · exact Or.inl h8
    · right
      rw [rk, rk, ← e45]
      exact h8
theorem ST_cnt {σ : zS} {I : Nat → Bool} {r : Nat} (S : ST σ 41 I) (hr : r < 60) (hI : I r = false) (h4 : 0 ≤ σ 41 4) : σ 41 4 < 60 := by
  obtain ⟨h1, -, h3, h5⟩ := S
  have hl : (ordL σ 41).length = (σ 41 4).toNat := sg_len _ _ _
  have h := nd_len (ordL σ 41) (sg id 0 r ++ sg id ((r : Int) + 1) (59 - r)) (h3.imp (fun {a b} h e => by rw [e] at h; omega)) (fun a ha => by
    obtain ⟨q, rfl, hq⟩ := (h5 a).mp ha
    have hq6 := h1 q hq
    have hne : q ≠ r := fun e => by rw [e, hI] at hq; cases hq
    rw [List.mem_append]
    by_cases c : q < r
    · exact Or.inl ((sg_mem r 0).mpr ⟨q, c, by show (0 : Int) + (q : Int) = _; omega⟩)
    · exact Or.inr ((sg_mem (59 - r) ((r : Int) + 1)).mpr ⟨q - (r + 1), by omega, by show (r : Int) + 1 + ((q - (r + 1) : Nat) : Int) = _; omega⟩))
  rw [hl, List.length_append, sg_len, sg_len] at h
  omega
theorem ST_val {σ : zS} {I : Nat → Bool} (S : ST σ 41 I) : ∀ j : Nat, (j : Int) < σ 41 4 → 0 ≤ σ 45 (j : Int) ∧ σ 45 (j : Int) < 60 := fun j hj => by
  obtain ⟨h1, -, -, h5⟩ := S
  obtain ⟨q, e, hq⟩ := (h5 (σ 45 (j : Int))).mp ((sg_mem _ 0).mpr ⟨j, by omega, by rw [show (0 : Int) + (j : Int) = (j : Int) by omega]⟩)
  have := h1 q hq
  omega
theorem ST_bit {σ : zS} {I : Nat → Bool} {r : Nat} (H : CI σ) (S : ST σ 41 I) (hr : r < 60) : bq (σ 46 32) r = I r := by
  have h := (S.2.1 32 r (by omega) (by omega)).1
  have hx := CI.cp (a := 42) (j := (r : Int)) H (by omega)
  have h : bq (σ 46 ((32 : Nat) : Int)) r = (I r && decide (σ 42 (r : Int) < ((32 : Nat) : Int))) := h
  rw [show ((32 : Nat) : Int) = 32 from rfl] at h
  rw [h, decide_eq_true (show σ 42 (r : Int) < 32 by omega), Bool.and_true]
theorem rk_inj {σ : zS} {a b : Int} (ha : 0 ≤ a ∧ a < 60) (hb : 0 ≤ b ∧ b < 60) (h : rkA σ 41 a = rkA σ 41 b) : a = b := by
  unfold rkA at h
  omega
theorem ST_in {σ s : zS} {I : Nat → Bool} {r : Nat} {x y v : Int} (S : ST σ 41 I) (hr : r < 60) (hI : I r = false) (hx : 0 ≤ x ∧ x ≤ 31) (hy : 0 ≤ y ∧ y ≤ 31) (h0 : 0 ≤ σ 41 4) (c1 : cellsIn σ s (r : Int) x y v) (c2 : flipped σ s (r : Int) x y) (c3 : s 41 4 = σ 41 4 + 1) (c4 : ∃ p : Nat, (p : Int) ≤ σ 41 4 ∧ (∀ j : Nat, j < p → s 45 (j : Int) = σ 45 (j : Int)) ∧ s 45 (p : Int) = (r : Int) ∧ (∀ j : Nat, p ≤ j → (j : Int) < σ 41 4 → s 45 ((j : Int) + 1) = σ 45 (j : Int)) ∧ (∀ j : Nat, p ≤ j → (j : Int) < σ 41 4 → rkA s 41 (r : Int) < rkA s 41 (σ 45 (j : Int))) ∧ (p = 0 ∨ rkA s 41 (σ 45 ((p : Int) - 1)) ≤ rkA s 41 (r : Int))) : ST s 41 (fun q => I q || decide (q = r)) := by
  have vals := ST_val S
  obtain ⟨b1, b2, b3, b5⟩ := S
  obtain ⟨p, p0, p1, p2, p3, p4, p5⟩ := c4
  obtain ⟨n, hn⟩ : ∃ n : Nat, σ 41 4 = (n : Int) := ⟨(σ 41 4).toNat, by omega⟩
  have hno : ∀ j : Nat, j < n → σ 45 (j : Int) ≠ (r : Int) := fun j hj e => by
    obtain ⟨q, e2, hq⟩ := (b5 (σ 45 (j : Int))).mp ((sg_mem _ 0).mpr ⟨j, by omega, by rw [show (0 : Int) + (j : Int) = (j : Int) by omega]⟩)
    have : q = r := by omega
    rw [this, hI] at hq
    cases hq
  have rkE : ∀ w, w ≠ (r : Int) → rkA s 41 w = rkA σ 41 w := fun w hw => by
    have e1 := c1.1 w
    have e2 := c1.2.1 w
    rw [if_neg hw] at e1 e2
    show (s 42 w * 32 + s 43 w) * 60 + w = (σ 42 w * 32 + σ 43 w) * 60 + w
    rw [e1, e2]
  have srt : ∀ i j : Nat, i < j → j < n → rkA σ 41 (σ 45 (i : Int)) < rkA σ 41 (σ 45 (j : Int)) := fun i j hij hj => by
    have b3 : (sg (σ 45) 0 (σ 41 4).toNat).Pairwise (fun a b => rkA σ 41 a < rkA σ 41 b) := b3
    have h := (sg_pw _ 0).mp b3 i j hij (by omega)
    rw [show (0 : Int) + (i : Int) = (i : Int) by omega, show (0 : Int) + (j : Int) = (j : Int) by omega] at h
    exact h
  have before : ∀ j : Nat, j < p → rkA s 41 (σ 45 (j : Int)) < rkA s 41 (r : Int) := fun j hj => by
    have hp : p ≠ 0 := by omega
    have h5 := p5.resolve_left hp
    have hl : rkA s 41 (σ 45 (j : Int)) ≤ rkA s 41 (σ 45 ((p : Int) - 1)) := by
      by_cases cj : j + 1 = p
      · rw [show (p : Int) - 1 = (j : Int) by omega]; omega
      · have h := srt j (p - 1) (by omega) (by omega)
        rw [show (p : Int) - 1 = ((p - 1 : Nat) : Int) by omega, rkE _ (hno j (by omega)), rkE _ (hno (p - 1) (by omega))]
        omega
    have hne : rkA s 41 (σ 45 (j : Int)) ≠ rkA s 41 (r : Int) := fun e => hno j (by omega) (rk_inj (vals j (by omega)) (by omega) e)
    omega
  -- the new order, place by place
  have cell : ∀ j : Nat, j < n + 1 → (j < p ∧ s 45 (j : Int) = σ 45 (j : Int)) ∨ (j = p ∧ s 45 (j : Int) = (r : Int)) ∨ (p < j ∧ s 45 (j : Int) = σ 45 ((j - 1 : Nat) : Int)) := fun j hj => by
    by_cases ca : j < p
    · exact Or.inl ⟨ca, p1 j ca⟩
    · by_cases cb : j = p
      · subst cb; exact Or.inr (Or.inl ⟨rfl, p2⟩)
      · have h := p3 (j - 1) (by omega) (by omega)
        rw [show ((j - 1 : Nat) : Int) + 1 = (j : Int) by omega] at h
        exact Or.inr (Or.inr ⟨by omega, h⟩)
  refine ⟨fun q hq => ?_, fun i q hi hq => ?_, ?_, fun w => ?_⟩
  · rw [Bool.or_eq_true] at hq
    rcases hq with hq | hq
    · exact b1 q hq
    · rw [of_decide_eq_true hq]; exact hr
  · have e1 := c1.1 (q : Int)
    have e2 := c1.2.1 (q : Int)
    have f1 := c2.1 (i : Int)
    have f2 := c2.2 (i : Int)
    have g1 := (b2 i q hi hq).1
    have g2 := (b2 i q hi hq).2
    show bq (s 46 (i : Int)) q = ((I q || decide (q = r)) && decide (s 42 (q : Int) < (i : Int))) ∧ bq (s 47 (i : Int)) q = ((I q || decide (q = r)) && decide (s 43 (q : Int) < (i : Int)))
    have g1 : bq (σ 46 (i : Int)) q = (I q && decide (σ 42 (q : Int) < (i : Int))) := g1
    have g2 : bq (σ 47 (i : Int)) q = (I q && decide (σ 43 (q : Int) < (i : Int))) := g2
    rw [e1, e2, f1, f2]
    by_cases cq : q = r
    · subst cq
      rw [if_pos rfl, if_pos rfl, hI]
      rw [hI, Bool.false_and] at g1 g2
      constructor
      · by_cases cx : x < (i : Int)
        · rw [if_pos ⟨cx, by omega⟩, bq_xor, g1, bq_bit (by omega), decide_eq_true cx]
          simp
        · rw [if_neg (fun h => cx h.1), g1, decide_eq_false cx]
          simp
      · by_cases cx : y < (i : Int)
        · rw [if_pos ⟨cx, by omega⟩, bq_xor, g2, bq_bit (by omega), decide_eq_true cx]
          simp
        · rw [if_neg (fun h => cx h.1), g2, decide_eq_false cx]
          simp
    · have cq2 : ¬ (q : Int) = (r : Int) := by omega
      have dq : decide (q = r) = false := decide_eq_false cq
      rw [if_neg cq2, if_neg cq2, dq, Bool.or_false]
      constructor
      · by_cases cx : x < (i : Int) ∧ (i : Int) < 33
        · rw [if_pos cx, bq_xor, g1, bq_bit (by omega), dq, Bool.xor_false]
        · rw [if_neg cx, g1]
      · by_cases cx : y < (i : Int) ∧ (i : Int) < 33
        · rw [if_pos cx, bq_xor, g2, bq_bit (by omega), dq, Bool.xor_false]
        · rw [if_neg cx, g2]
  · show (sg (s 45) 0 (s 41 4).toNat).Pairwise (fun a b => rkA s 41 a < rkA s 41 b)
    rw [c3, hn, show ((n : Int) + 1).toNat = n + 1 by omega]
    refine (sg_pw (n + 1) 0).mpr (fun i j hij hj => ?_)
    rw [show (0 : Int) + (i : Int) = (i : Int) by omega, show (0 : Int) + (j : Int) = (j : Int) by omega]
    rcases cell i (by omega) with ⟨i1, i2⟩ | ⟨i1, i2⟩ | ⟨i1, i2⟩
    · rcases cell j hj with ⟨j1, j2⟩ | ⟨j1, j2⟩ | ⟨j1, j2⟩
      · rw [i2, j2, rkE _ (hno i (by omega)), rkE _ (hno j (by omega))]
        exact srt i j hij (by omega)
      · rw [i2, j2]; exact before i i1
      · rw [i2, j2, rkE _ (hno i (by omega)), rkE _ (hno (j - 1) (by omega))]
        exact srt i (j - 1) (by omega) (by omega)
    · rcases cell j hj with ⟨j1, j2⟩ | ⟨j1, j2⟩ | ⟨j1, j2⟩
      · omega
      · omega
      · rw [i2, j2]; exact p4 (j - 1) (by omega) (by omega)
    · rcases cell j hj with ⟨j1, j2⟩ | ⟨j1, j2⟩ | ⟨j1, j2⟩
      · omega
      · omega
      · rw [i2, j2, rkE _ (hno (i - 1) (by omega)), rkE _ (hno (j - 1) (by omega))]
        exact srt (i - 1) (j - 1) (by omega) (by omega)
  · show w ∈ sg (s 45) 0 (s 41 4).toNat ↔ _
    rw [c3, hn, show ((n : Int) + 1).toNat = n + 1 by omega, sg_mem]
    have b5' : ∀ u, (∃ j : Nat, j < n ∧ σ 45 (j : Int) = u) ↔ ∃ q : Nat, u = (q : Int) ∧ I q = true := fun u => by
      have h := b5 u
      have h : u ∈ sg (σ 45) 0 (σ 41 4).toNat ↔ _ := h
      rw [sg_mem] at h
      rw [← h]
      constructor
      · rintro ⟨j, h1, h2⟩
        exact ⟨j, by omega, by rw [show (0 : Int) + (j : Int) = (j : Int) by omega]; exact h2⟩
      · rintro ⟨j, h1, h2⟩
        rw [show (0 : Int) + (j : Int) = (j : Int) by omega] at h2
        exact ⟨j, by omega, h2⟩
    constructor
    · rintro ⟨j, h1, h2⟩
      rw [show (0 : Int) + (j : Int) = (j : Int) by omega] at h2
      rcases cell j h1 with ⟨j1, j2⟩ | ⟨j1, j2⟩ | ⟨j1, j2⟩
      · obtain ⟨q, e, hq⟩ := (b5' w).mp ⟨j, by omega, by rw [← j2]; exact h2⟩
        exact ⟨q, e, by show (I q || decide (q = r)) = true; rw [hq]; rfl⟩
      · exact ⟨r, by omega, by simp⟩
      · obtain ⟨q, e, hq⟩ := (b5' w).mp ⟨j - 1, by omega, by rw [← j2]; exact h2⟩
        exact ⟨q, e, by show (I q || decide (q = r)) = true; rw [hq]; rfl⟩
    · rintro ⟨q, e, hq⟩
      rw [Bool.or_eq_true] at hq
      rcases hq with hq | hq
      · obtain ⟨j, h1, h2⟩ := (b5' w).mpr ⟨q, e, hq⟩
        by_cases cj : j < p
        · exact ⟨j, by omega, by rw [show (0 : Int) + (j : Int) = (j : Int) by omega, p1 j cj]; exact h2⟩
        · exact ⟨j + 1, by omega, by rw [show (0 : Int) + ((j + 1 : Nat) : Int) = (j : Int) + 1 by omega, p3 j (by omega) (by omega)]; exact h2⟩
      · have : q = r := of_decide_eq_true hq
        exact ⟨p, by omega, by rw [show (0 : Int) + (p : Int) = (p : Int) by omega, p2]; omega⟩
theorem ST_out {σ s : zS} {I : Nat → Bool} {r : Nat} (H : CI σ) (S : ST σ 41 I) (hr : r < 60) (hI : I r = true) (e : ∀ a j, a ≠ 45 → a ≠ 46 → a ≠ 47 → (a ≠ 41 ∨ j ≠ 4) → s a j = σ a j) (c2 : flipped σ s (r : Int) (σ 42 (r : Int)) (σ 43 (r : Int))) (c3 : ordL s 41 = (ordL σ 41).filter (fun q => decide (q ≠ (r : Int)))) : ST s 41 (fun q => I q && !decide (q = r)) := by
  obtain ⟨b1, b2, b3, b5⟩ := S
  have e42 : ∀ j, s 42 j = σ 42 j := fun j => e 42 j (by decide) (by decide) (by decide) (Or.inl (by decide))
  have e43 : ∀ j, s 43 j = σ 43 j := fun j => e 43 j (by decide) (by decide) (by decide) (Or.inl (by decide))
  refine ⟨fun q hq => ?_, fun i q hi hq => ?_, ?_, fun w => ?_⟩
  · rw [Bool.and_eq_true] at hq
    exact b1 q hq.1
  · have f1 := c2.1 (i : Int)
    have f2 := c2.2 (i : Int)
    have g1 := (b2 i q hi hq).1
    have g2 := (b2 i q hi hq).2
    show bq (s 46 (i : Int)) q = ((I q && !decide (q = r)) && decide (s 42 (q : Int) < (i : Int))) ∧ bq (s 47 (i : Int)) q = ((I q && !decide (q = r)) && decide (s 43 (q : Int) < (i : Int)))
    have g1 : bq (σ 46 (i : Int)) q = (I q && decide (σ 42 (q : Int) < (i : Int))) := g1
    have g2 : bq (σ 47 (i : Int)) q = (I q && decide (σ 43 (q : Int) < (i : Int))) := g2
    rw [e42, e43, f1, f2]
    by_cases cq : q = r
    · subst cq
      rw [hI, Bool.true_and] at g1 g2
      have dq : decide (q = q) = true := decide_eq_true rfl
      rw [dq, hI]
      constructor
      · by_cases cx : σ 42 (q : Int) < (i : Int)
        · rw [if_pos ⟨cx, by omega⟩, bq_xor, g1, bq_bit (by omega), decide_eq_true cx, dq]
          rfl
        · rw [if_neg (fun h => cx h.1), g1, decide_eq_false cx]
          rfl
      · by_cases cx : σ 43 (q : Int) < (i : Int)
        · rw [if_pos ⟨cx, by omega⟩, bq_xor, g2, bq_bit (by omega), decide_eq_true cx, dq]
          rfl
        · rw [if_neg (fun h => cx h.1), g2, decide_eq_false cx]
          rfl
    · have dq : decide (q = r) = false := decide_eq_false cq
      rw [dq, Bool.not_false, Bool.and_true]
      constructor
      · by_cases cx : σ 42 (r : Int) < (i : Int) ∧ (i : Int) < 33
        · rw [if_pos cx, bq_xor, g1, bq_bit (by omega), dq, Bool.xor_false]
        · rw [if_neg cx, g1]
      · by_cases cx : σ 43 (r : Int) < (i : Int) ∧ (i : Int) < 33
        · rw [if_pos cx, bq_xor, g2, bq_bit (by omega), dq, Bool.xor_false]
        · rw [if_neg cx, g2]
  · rw [c3]
    refine (b3.filter _).imp (fun {a b} h => ?_)
    show (s 42 a * 32 + s 43 a) * 60 + a < (s 42 b * 32 + s 43 b) * 60 + b
    rw [e42, e43, e42, e43]
    exact h
  · rw [c3, List.mem_filter, b5]
    constructor
    · rintro ⟨⟨q, e1, hq⟩, h2⟩
      have h2 := of_decide_eq_true h2
      refine ⟨q, e1, ?_⟩
      show (I q && !decide (q = r)) = true
      rw [hq, Bool.true_and, Bool.not_eq_true']
      exact decide_eq_false (fun h => h2 (by omega))
    · rintro ⟨q, e1, hq⟩
      rw [Bool.and_eq_true, Bool.not_eq_true'] at hq
      have h2 : ¬ q = r := of_decide_eq_false hq.2
      exact ⟨⟨q, e1, hq.1⟩, decide_eq_true (by omega)⟩
/-- the store's cells are as they were -/
def stK (a : Nat) (j : Int) : Prop := a = 42 ∨ a = 43 ∨ a = 44 ∨ a = 45 ∨ a = 46 ∨ a = 47 ∨ (a = 41 ∧ j = 4)
def stE (σ s : zS) : Prop := ∀ a j, stK a j → s a j = σ a j
theorem stE.refl (σ : zS) : stE σ σ := fun _ _ _ => rfl
theorem stE.trans {σ s t : zS} (h1 : stE σ s) (h2 : stE s t) : stE σ t := fun a j k => (h2 a j k).trans (h1 a j k)
theorem stE.of {F : Nat → Int → Bool} {σ s : zS} (G : fr F σ s) (h : ∀ j, F 42 j = false ∧ F 43 j = false ∧ F 44 j = false ∧ F 45 j = false ∧ F 46 j = false ∧ F 47 j = false ∧ F 41 4 = false) : stE σ s := fun a j k => by
  obtain ⟨h1, h2, h3, h4, h5, h6, h7⟩ := h j
  rcases k with rfl | rfl | rfl | rfl | rfl | rfl | ⟨rfl, rfl⟩
  · exact G _ _ (Or.inr h1)
  · exact G _ _ (Or.inr h2)
  · exact G _ _ (Or.inr h3)
  · exact G _ _ (Or.inr h4)
  · exact G _ _ (Or.inr h5)
  · exact G _ _ (Or.inr h6)
  · exact G _ _ (Or.inr h7)
theorem ST_E {σ s : zS} {I : Nat → Bool} (S : ST σ 41 I) (e : stE σ s) : ST s 41 I := by
  obtain ⟨b1, b2, b3, b5⟩ := S
  have e41 : s 41 4 = σ 41 4 := e 41 4 (by unfold stK; omega)
  have e42 : ∀ j, s 42 j = σ 42 j := fun j => e 42 j (by unfold stK; omega)
  have e43 : ∀ j, s 43 j = σ 43 j := fun j => e 43 j (by unfold stK; omega)
  have eo : ordL s 41 = ordL σ 41 := by
    show sg (s 45) 0 (s 41 4).toNat = sg (σ 45) 0 (σ 41 4).toNat
    rw [e41]
    exact sg_ext _ 0 0 (fun j _ => e 45 _ (by unfold stK; omega))
  refine ⟨b1, fun i q hi hq => ?_, ?_, ?_⟩
  · show bq (s 46 (i : Int)) q = (I q && decide (s 42 (q : Int) < (i : Int))) ∧ bq (s 47 (i : Int)) q = (I q && decide (s 43 (q : Int) < (i : Int)))
    rw [e42, e43, e 46 _ (by unfold stK; omega), e 47 _ (by unfold stK; omega)]
    exact b2 i q hi hq
  · rw [eo]
    refine b3.imp (fun {a b} h => ?_)
    show (s 42 a * 32 + s 43 a) * 60 + a < (s 42 b * 32 + s 43 b) * 60 + b
    rw [e42, e43, e42, e43]
    exact h
  · rw [eo]; exact b5
/-- put() at the class's store -/
theorem c_put90 {r : Nat} {x y v : Int} {σ : zS} {I : Nat → Bool} (H : CI σ) (S : ST σ 41 I) (hr : r < 60) (hI : I r = false) (hx : 0 ≤ x ∧ x ≤ 31) (hy : 0 ≤ y ∧ y ≤ 31) : zP' (g_c_put_L90 (r : Int) x y v σ) (fun _ s => ST s 41 (fun q => I q || decide (q = r)) ∧ cellsIn σ s (r : Int) x y v) := by
  have h4 := CI.c4 (a := 41) H (by omega)
  unfold g_c_put_L90
  refine zP'.bind ((p_bringIn H hr hx hy (ST_cnt S hr hI h4.1) (by rw [ST_bit H S hr]; exact hI) (ST_val S)).and (zP'.of (g_so_bringIn_sp H))) (fun _ s1 p1 => ?_)
  obtain ⟨⟨k1, k2, k3, k4⟩, H1, -, -⟩ := p1
  have S1 := ST_in S hr hI hx hy h4.1 k1 k2 k3 k4
  try dsimp +instances only
  unfold g_b_of
  rw [Option.bind_some]
  refine zP'.bind (zP'.of (g_ca_write_sp (a0 := 48) (by omega) H1)) (fun _ s2 p2 => ?_)
  obtain ⟨H2, G2, -⟩ := p2
  try dsimp +instances only
  refine zP'.bind (zP'.of (g_c_afterWrites_sp H2)) (fun _ s3 p3 => ?_)
  obtain ⟨H3, G3, -⟩ := p3
  have e : stE s1 s3 := (stE.of G2 (fun _ => ⟨rfl, rfl, rfl, rfl, rfl, rfl, rfl⟩)).trans (stE.of G3 (fun _ => ⟨rfl, rfl, rfl, rfl, rfl, rfl, rfl⟩))
  refine zP'.ret ⟨ST_E S1 e, fun j => ?_, fun j => ?_, fun j => ?_⟩
  · show s3 42 j = _
    rw [e 42 j (by unfold stK; omega)]; exact k1.1 j
  · show s3 43 j = _
    rw [e 43 j (by unfold stK; omega)]; exact k1.2.1 j
  · show s3 44 j = _
    rw [e 44 j (by unfold stK; omega)]; exact k1.2.2 j
theorem c_put {r x y v : Int} {σ : zS} {I : Nat → Bool} (H : CI σ) (S : ST σ 41 I) : zP' (g_c_put r x y v σ) (fun _ s => (acc r x y v → ∃ k : Nat, r = (k : Int) ∧ k < 60 ∧ ST s 41 (fun q => I q || decide (q = k)) ∧ cellsIn σ s r x y v) ∧ (¬ acc r x y v → stE σ s)) := by
  have no : ∀ c : Int, ¬ acc r x y v → zP' (some (c, σ)) (fun _ s => (acc r x y v → ∃ k : Nat, r = (k : Int) ∧ k < 60 ∧ ST s 41 (fun q => I q || decide (q = k)) ∧ cellsIn σ s r x y v) ∧ (¬ acc r x y v → stE σ s)) := fun c h => zP'.ret ⟨fun k => absurd k h, fun _ => stE.refl σ⟩
  unfold g_c_put
  rw [p_isRow]
  rw [Option.bind_some]
  try dsimp +instances only
  by_cases c1 : 0 ≤ r ∧ r < 60
  · rw [if_pos c1, if_pos (by decide), p_isPlace]
    rw [Option.bind_some]
    try dsimp +instances only
    by_cases c2 : 0 ≤ x ∧ x ≤ 31 ∧ 0 ≤ y ∧ y ≤ 31
    · rw [if_pos c2, if_neg (by decide)]
      refine zP'.ite (fun c3 => no _ (fun h => h.2.2.2.1 (lCmp_eq.mp c3))) (fun c3 => ?_)
      refine zP'.ite (fun c4 => ?_) (fun c4 => no _ (fun h => c4 (fun e => h.2.2.2.2 (lCmp_eq.mp e))))
      have hacc : acc r x y v := ⟨c1, ⟨c2.1, c2.2.1⟩, c2.2.2, fun h => c3 (lCmp_eq.mpr h), fun h => c4 (lCmp_eq.mpr h)⟩
      obtain ⟨k, rfl⟩ : ∃ k : Nat, r = (k : Int) := ⟨r.toNat, by omega⟩
      have hk : k < 60 := by omega
      refine zP'.bind (zP'.of (g_wa_remember_sp H)) (fun _ s1 p1 => ?_)
      obtain ⟨H1, G1, -⟩ := p1
      have e1 : stE σ s1 := stE.of G1 (fun _ => ⟨rfl, rfl, rfl, rfl, rfl, rfl, rfl⟩)
      have S1 := ST_E S e1
      try dsimp +instances only
      rw [p_isIn hk, ST_bit H1 S1 hk]
      rw [Option.bind_some]
      try dsimp +instances only
      have cin : ∀ s' s'' : zS, stE σ s' → (∀ a j, a = 42 ∨ a = 43 ∨ a = 44 → s' a j = σ a j) → cellsIn s' s'' (k : Int) x y v → cellsIn σ s'' (k : Int) x y v := fun s' s'' _ q h => ⟨fun j => by rw [h.1 j, q 42 j (by omega)], fun j => by rw [h.2.1 j, q 43 j (by omega)], fun j => by rw [h.2.2 j, q 44 j (by omega)]⟩
      by_cases c5 : I k = true
      · rw [if_pos c5, if_neg (by decide)]
        refine zP'.bind ((p_bringOut H1 hk).and (zP'.of (g_so_bringOut_sp H1))) (fun w s2 p2 => ?_)
        obtain ⟨k2, H2, -, -⟩ := p2
        obtain ⟨k3, k4, k5, -⟩ := k2 (by rw [ST_bit H1 S1 hk]; exact c5)
        have S2 := ST_out H1 S1 hk c5 k3 k4 k5
        try dsimp +instances only
        refine zP'.bind (zP'.of (g_ca_write_sp (a0 := 48) (by omega) H2)) (fun _ s3 p3 => ?_)
        obtain ⟨H3, G3, -⟩ := p3
        have e3 : stE s2 s3 := stE.of G3 (fun _ => ⟨rfl, rfl, rfl, rfl, rfl, rfl, rfl⟩)
        have S3 := ST_E S2 e3
        try dsimp +instances only
        refine (c_put90 (x := x) (y := y) (v := v) H3 S3 hk (by simp) ⟨c2.1, c2.2.1⟩ c2.2.2).imp (fun _ s h => ⟨fun _ => ⟨k, rfl, hk, ?_, ?_⟩, fun hn => absurd hacc hn⟩)
        · have ef : (fun q => I q || decide (q = k)) = (fun q => (I q && !decide (q = k)) || decide (q = k)) := by
            funext q
            cases I q <;> cases decide (q = k) <;> rfl
          rw [ef]
          exact h.1
        · have q3 : ∀ a j, a = 42 ∨ a = 43 ∨ a = 44 → s3 a j = σ a j := fun a j ha => by
            rw [e3 a j (by unfold stK; omega), k3 a j (by omega) (by omega) (by omega) (Or.inl (by omega)), e1 a j (by unfold stK; omega)]
          exact ⟨fun j => by rw [h.2.1 j, q3 42 j (by omega)], fun j => by rw [h.2.2.1 j, q3 43 j (by omega)], fun j => by rw [h.2.2.2 j, q3 44 j (by omega)]⟩
      · have c6 : I k = false := by
          cases hb : I k with
          | true => exact absurd hb c5
          | false => rfl
        rw [if_neg c5, if_pos rfl]
        refine (c_put90 (x := x) (y := y) (v := v) H1 S1 hk c6 ⟨c2.1, c2.2.1⟩ c2.2.2).imp (fun _ s h => ⟨fun _ => ⟨k, rfl, hk, h.1, ?_⟩, fun hn => absurd hacc hn⟩)
        exact cin s1 s e1 (fun a j ha => e1 a j (by unfold stK; omega)) h.2
    · rw [if_neg c2, if_pos rfl]
      exact no _ (fun h => c2 ⟨h.2.1.1, h.2.1.2, h.2.2.1.1, h.2.2.1.2⟩)
  · rw [if_neg c1, if_neg (by decide)]
    exact no _ (fun h => c1 h.1)
theorem c_take {r : Int} {σ : zS} {I : Nat → Bool} (H : CI σ) (S : ST σ 41 I) : zP' (g_c_take r σ) (fun _ s => ((0 ≤ r ∧ r < 60) ∧ I r.toNat = true → ∃ k : Nat, r = (k : Int) ∧ ST s 41 (fun q => I q && !decide (q = k)) ∧ ∀ a j, a = 42 ∨ a = 43 ∨ a = 44 → s a j = σ a j) ∧ (¬ ((0 ≤ r ∧ r < 60) ∧ I r.toNat = true) → stE σ s)) := by
  unfold g_c_take
  rw [p_isRow]
  rw [Option.bind_some]
  try dsimp +instances only
  by_cases c1 : 0 ≤ r ∧ r < 60
  · obtain ⟨k, rfl⟩ : ∃ k : Nat, r = (k : Int) := ⟨r.toNat, by omega⟩
    have hk : k < 60 := by omega
    have ek : ((k : Int)).toNat = k := by omega
    rw [if_pos c1, if_pos (by decide), p_isIn hk, ST_bit H S hk]
    rw [Option.bind_some]
    try dsimp +instances only
    by_cases c5 : I k = true
    · rw [if_pos c5, if_pos (by decide)]
      refine zP'.bind (zP'.of (g_wa_remember_sp H)) (fun _ s1 p1 => ?_)
      obtain ⟨H1, G1, -⟩ := p1
      have e1 : stE σ s1 := stE.of G1 (fun _ => ⟨rfl, rfl, rfl, rfl, rfl, rfl, rfl⟩)
      have S1 := ST_E S e1
      try dsimp +instances only
      refine zP'.bind ((p_bringOut H1 hk).and (zP'.of (g_so_bringOut_sp H1))) (fun w s2 p2 => ?_)
      obtain ⟨k2, H2, -, -⟩ := p2
      obtain ⟨k3, k4, k5, -⟩ := k2 (by rw [ST_bit H1 S1 hk]; exact c5)
      have S2 := ST_out H1 S1 hk c5 k3 k4 k5
      try dsimp +instances only
      refine zP'.bind (zP'.of (g_ca_write_sp (a0 := 48) (by omega) H2)) (fun _ s3 p3 => ?_)
      obtain ⟨H3, G3, -⟩ := p3
      have e3 : stE s2 s3 := stE.of G3 (fun _ => ⟨rfl, rfl, rfl, rfl, rfl, rfl, rfl⟩)
      try dsimp +instances only
      refine zP'.bind (zP'.of (g_c_afterWrites_sp H3)) (fun _ s4 p4 => ?_)
      obtain ⟨H4, G4, -⟩ := p4
      have e4 : stE s3 s4 := stE.of G4 (fun _ => ⟨rfl, rfl, rfl, rfl, rfl, rfl, rfl⟩)
      refine zP'.ret ⟨fun _ => ⟨k, rfl, ST_E S2 (e3.trans e4), fun a j ha => ?_⟩, fun hn => absurd ⟨c1, by rw [ek]; exact c5⟩ hn⟩
      show s4 a j = σ a j
      rw [(e3.trans e4) a j (by unfold stK; omega), k3 a j (by omega) (by omega) (by omega) (Or.inl (by omega)), e1 a j (by unfold stK; omega)]
    · rw [if_neg c5, if_neg (by decide)]
      exact zP'.ret ⟨fun h => absurd (by rw [ek] at h; exact h.2) c5, fun _ => stE.refl σ⟩
  · rw [if_neg c1, if_neg (by decide)]
    exact zP'.ret ⟨fun h => absurd h.1 c1, fun _ => stE.refl σ⟩
end
section
/-! 63a.meas -/
/-! MEASURES, once for both sides -/
abbrev okL (x : Int) : Prop := -9223372036854775808 ≤ x ∧ x < 9223372036854775808
theorem w64_ok (x : Int) : okL (w64 x) := by
  unfold w64 Int.bmod
  dsimp only
  split <;> omega
theorem w64_cs {x : Int} (h1 : -18446744073709551616 ≤ x) (h2 : x < 18446744073709551616) : (okL x ∧ w64 x = x) ∨ (9223372036854775808 ≤ x ∧ w64 x = x - 18446744073709551616) ∨ (x < -9223372036854775808 ∧ w64 x = x + 18446744073709551616) := by
  unfold w64 Int.bmod
  dsimp only
  split <;> omega
def leF (f : Int → Int) : Nat → Int
  | 0 => f 0
  | n + 1 => if f ((n + 1 : Nat) : Int) < leF f n then f ((n + 1 : Nat) : Int) else leF f n
def moF (f : Int → Int) : Nat → Int
  | 0 => f 0
  | n + 1 => if moF f n < f ((n + 1 : Nat) : Int) then f ((n + 1 : Nat) : Int) else moF f n
def suF (f : Int → Int) : Nat → Int
  | 0 => 0
  | n + 1 => w64 (suF f n + f (n : Int))
def ovF (f : Int → Int) : Nat → Bool
  | 0 => false
  | n + 1 => ovF f n || !decide (okL (suF f n + f (n : Int)))
def neF (f : Int → Int) (x : Int) : Nat → Bool
  | 0 => true
  | n + 1 => neF f x n && !decide (f (n : Int) = x)
def kiF (f : Int → Int) : Nat → Int
  | 0 => 0
  | n + 1 => kiF f n + (if neF f (f (n : Int)) n = true then 1 else 0)
def msF (f : Int → Int) (n : Nat) (m : Int) : Int :=
  if n = 0 ∧ 2 ≤ m ∧ m ≤ 5 then -9223372036854775808
  else if m = 0 then (n : Int)
  else if m = 1 then (if ovF f n = true then -9223372036854775807 else suF f n)
  else if m = 2 then leF f (n - 1)
  else if m = 3 then moF f (n - 1)
  else if m = 4 then (if ovF f n = true then -9223372036854775807 else suF f n / (n : Int))
  else if m = 5 then (if w64 (moF f (n - 1) - leF f (n - 1)) < 0 then -9223372036854775807 else w64 (moF f (n - 1) - leF f (n - 1)))
  else kiF f n
theorem leF_ext {f g : Int → Int} : ∀ n : Nat, (∀ j : Nat, j ≤ n → f (j : Int) = g (j : Int)) → leF f n = leF g n
  | 0, h => h 0 (Nat.le_refl _)
  | n + 1, h => by
    have ih := leF_ext n (fun j hj => h j (by omega))
    have e := h (n + 1) (Nat.le_refl _)
    show (if f ((n + 1 : Nat) : Int) < leF f n then f ((n + 1 : Nat) : Int) else leF f n) = (if g ((n + 1 : Nat) : Int) < leF g n then g ((n + 1 : Nat) : Int) else leF g n)
    rw [ih, e]
theorem moF_ext {f g : Int → Int} : ∀ n : Nat, (∀ j : Nat, j ≤ n → f (j : Int) = g (j : Int)) → moF f n = moF g n
  | 0, h => h 0 (Nat.le_refl _)
  | n + 1, h => by
    have ih := moF_ext n (fun j hj => h j (by omega))
    have e := h (n + 1) (Nat.le_refl _)
    show (if moF f n < f ((n + 1 : Nat) : Int) then f ((n + 1 : Nat) : Int) else moF f n) = (if moF g n < g ((n + 1 : Nat) : Int) then g ((n + 1 : Nat) : Int) else moF g n)
    rw [ih, e]
theorem suF_ext {f g : Int → Int} : ∀ n : Nat, (∀ j : Nat, j < n → f (j : Int) = g (j : Int)) → suF f n = suF g n
  | 0, _ => rfl
  | n + 1, h => by
    show w64 (suF f n + f (n : Int)) = w64 (suF g n + g (n : Int))
    rw [suF_ext n (fun j hj => h j (by omega)), h n (by omega)]
theorem ovF_ext {f g : Int → Int} : ∀ n : Nat, (∀ j : Nat, j < n → f (j : Int) = g (j : Int)) → ovF f n = ovF g n
  | 0, _ => rfl
  | n + 1, h => by
    show (ovF f n || !decide (okL (suF f n + f (n : Int)))) = (ovF g n || !decide (okL (suF g n + g (n : Int))))
    rw [ovF_ext n (fun j hj => h j (by omega)), suF_ext n (fun j hj => h j (by omega)), h n (by omega)]
theorem neF_ext {f g : Int → Int} (x : Int) : ∀ n : Nat, (∀ j : Nat, j < n → f (j : Int) = g (j : Int)) → neF f x n = neF g x n
  | 0, _ => rfl
  | n + 1, h => by
    show (neF f x n && !decide (f (n : Int) = x)) = (neF g x n && !decide (g (n : Int) = x))
    rw [neF_ext x n (fun j hj => h j (by omega)), h n (by omega)]
theorem kiF_ext {f g : Int → Int} : ∀ n : Nat, (∀ j : Nat, j < n → f (j : Int) = g (j : Int)) → kiF f n = kiF g n
  | 0, _ => rfl
  | n + 1, h => by
    show kiF f n + (if neF f (f (n : Int)) n = true then 1 else 0) = kiF g n + (if neF g (g (n : Int)) n = true then 1 else 0)
    rw [kiF_ext n (fun j hj => h j (by omega)), h n (by omega), neF_ext _ n (fun j hj => h j (by omega))]
theorem msF_ext {f g : Int → Int} {n : Nat} {m : Int} (h : ∀ j : Nat, j < n → f (j : Int) = g (j : Int)) : msF f n m = msF g n m := by
  unfold msF
  by_cases c : n = 0 ∧ 2 ≤ m ∧ m ≤ 5
  · rw [if_pos c, if_pos c]
  · rw [if_neg c, if_neg c, ovF_ext n h, suF_ext n h, kiF_ext n h]
    by_cases cn : n = 0
    · subst cn
      have c2 : ¬ m = 2 := fun e => c ⟨rfl, by omega, by omega⟩
      have c3 : ¬ m = 3 := fun e => c ⟨rfl, by omega, by omega⟩
      have c5 : ¬ m = 5 := fun e => c ⟨rfl, by omega, by omega⟩
      rw [if_neg c2, if_neg c2, if_neg c3, if_neg c3, if_neg c5, if_neg c5]
    · rw [leF_ext (n - 1) (fun j hj => h j (by omega)), moF_ext (n - 1) (fun j hj => h j (by omega))]
theorem leF_ok {f : Int → Int} : ∀ n : Nat, (∀ j : Nat, j ≤ n → okL (f (j : Int))) → okL (leF f n)
  | 0, h => h 0 (Nat.le_refl _)
  | n + 1, h => by
    have ih := leF_ok n (fun j hj => h j (by omega))
    have e := h (n + 1) (Nat.le_refl _)
    show okL (if f ((n + 1 : Nat) : Int) < leF f n then f ((n + 1 : Nat) : Int) else leF f n)
    split
    · exact e
    · exact ih
theorem moF_ok {f : Int → Int} : ∀ n : Nat, (∀ j : Nat, j ≤ n → okL (f (j : Int))) → okL (moF f n)
  | 0, h => h 0 (Nat.le_refl _)
  | n + 1, h => by
    have ih := moF_ok n (fun j hj => h j (by omega))
    have e := h (n + 1) (Nat.le_refl _)
    show okL (if moF f n < f ((n + 1 : Nat) : Int) then f ((n + 1 : Nat) : Int) else moF f n)
    split
    · exact e
    · exact ih
theorem suF_ok {f : Int → Int} : ∀ n : Nat, okL (suF f n)
  | 0 => by show okL 0; decide
  | n + 1 => w64_ok _
/-! the reference -/
theorem leC_F (σ : zS) : ∀ n : Nat, leC σ n = leF (σ 155) n
  | 0 => rfl
  | n + 1 => by
    show (if σ 155 ((n + 1 : Nat) : Int) < leC σ n then _ else leC σ n) = (if σ 155 ((n + 1 : Nat) : Int) < leF (σ 155) n then _ else leF (σ 155) n)
    rw [leC_F σ n]
theorem moC_F (σ : zS) : ∀ n : Nat, moC σ n = moF (σ 155) n
  | 0 => rfl
  | n + 1 => by
    show (if moC σ n < σ 155 ((n + 1 : Nat) : Int) then _ else moC σ n) = (if moF (σ 155) n < σ 155 ((n + 1 : Nat) : Int) then _ else moF (σ 155) n)
    rw [moC_F σ n]
theorem suC_F (σ : zS) : ∀ n : Nat, suC σ n = suF (σ 155) n
  | 0 => rfl
  | n + 1 => by
    show w64 (suC σ n + σ 155 (n : Int)) = w64 (suF (σ 155) n + σ 155 (n : Int))
    rw [suC_F σ n]
theorem toInt_ofInt64 {x : Int} (h : okL x) : (Int64.ofInt x).toInt = x := by
  have e : (Int64.ofInt x).toInt = w64 x := by
    show (Int64.ofInt x).toBitVec.toInt = _
    rw [Int64.toBitVec_ofInt, BitVec.toInt_ofInt]
    rfl
  rw [e]
  exact w64_id h.1 h.2
theorem lXor_neg {x y : Int} (hx : okL x) (hy : okL y) : lXor x y < 0 ↔ ¬ (x < 0 ↔ y < 0) := by
  have ti : ∀ z : Int64, z.toInt < 0 ↔ z.toBitVec.msb = true := fun z => by
    rw [BitVec.msb_eq_toInt]
    exact ⟨fun h => decide_eq_true h, fun h => of_decide_eq_true h⟩
  have a := ti (Int64.ofInt x)
  have b := ti (Int64.ofInt y)
  rw [toInt_ofInt64 hx] at a
  rw [toInt_ofInt64 hy] at b
  unfold lXor
  rw [ti, Int64.toBitVec_xor, BitVec.msb_xor, a, b]
  cases (Int64.ofInt x).toBitVec.msb <;> cases (Int64.ofInt y).toBitVec.msb <;> decide
theorem ovC_F (σ : zS) : ∀ n : Nat, (∀ j : Nat, j < n → okL (σ 155 (j : Int))) → ovC σ n = if ovF (σ 155) n = true then 1 else 0
  | 0, _ => rfl
  | n + 1, h => by
    have ih := ovC_F σ n (fun j hj => h j (by omega))
    have ho := h n (by omega)
    have hs := suF_ok (f := σ 155) n
    have hn := suF_ok (f := σ 155) (n + 1)
    have cs := w64_cs (x := suF (σ 155) n + σ 155 (n : Int)) (by omega) (by omega)
    show iOr (ovC σ n) (if lXor (suC σ n) (suC σ (n + 1)) < 0 ∧ lXor (σ 155 (n : Int)) (suC σ (n + 1)) < 0 then 1 else 0) = if (ovF (σ 155) n || !decide (okL (suF (σ 155) n + σ 155 (n : Int)))) = true then 1 else 0
    rw [suC_F, suC_F, ih]
    have e : (lXor (suF (σ 155) n) (suF (σ 155) (n + 1)) < 0 ∧ lXor (σ 155 (n : Int)) (suF (σ 155) (n + 1)) < 0) ↔ ¬ okL (suF (σ 155) n + σ 155 (n : Int)) := by
      rw [lXor_neg hs hn, lXor_neg ho hn]
      show (¬ (suF (σ 155) n < 0 ↔ w64 (suF (σ 155) n + σ 155 (n : Int)) < 0) ∧ ¬ (σ 155 (n : Int) < 0 ↔ w64 (suF (σ 155) n + σ 155 (n : Int)) < 0)) ↔ _
      generalize w64 (suF (σ 155) n + σ 155 (n : Int)) = w at cs
      omega
    by_cases c : okL (suF (σ 155) n + σ 155 (n : Int))
    · rw [if_neg (fun h => (e.mp h) c), decide_eq_true c]
      cases ovF (σ 155) n <;> decide +kernel
    · rw [if_pos (e.mpr c), decide_eq_false c]
      cases ovF (σ 155) n <;> decide +kernel
theorem kiI_F (σ : zS) (x : Int) : ∀ n : Nat, kiI σ x n = if neF (σ 155) x n = true then 1 else 0
  | 0 => rfl
  | n + 1 => by
    show iAnd (kiI σ x n) (if σ 155 (n : Int) = x then 0 else 1) = if (neF (σ 155) x n && !decide (σ 155 (n : Int) = x)) = true then 1 else 0
    rw [kiI_F σ x n]
    by_cases c : σ 155 (n : Int) = x
    · rw [if_pos c, decide_eq_true c]
      cases neF (σ 155) x n <;> decide +kernel
    · rw [if_neg c, decide_eq_false c]
      cases neF (σ 155) x n <;> decide +kernel
theorem kiC_F (σ : zS) : ∀ n : Nat, kiC σ n = kiF (σ 155) n
  | 0 => rfl
  | n + 1 => by
    show kiC σ n + kiI σ (σ 155 (n : Int)) n = kiF (σ 155) n + _
    rw [kiC_F σ n, kiI_F]
theorem lCmp_0 {x y : Int} : 0 ≤ lCmp x y ↔ ¬ x < y := lCmp_ge0
theorem tmod_neg {s : Int} {n : Nat} (hn : 0 < n) : (Int.tmod s (n : Int) < 0 → Int.tdiv s (n : Int) - 1 = s / (n : Int)) ∧ (¬ Int.tmod s (n : Int) < 0 → Int.tdiv s (n : Int) = s / (n : Int)) := by
  by_cases hs : 0 ≤ s
  · have e1 : Int.tdiv s (n : Int) = s / (n : Int) := Int.tdiv_eq_ediv_of_nonneg hs
    have e2 : 0 ≤ Int.tmod s (n : Int) := Int.tmod_nonneg _ hs
    exact ⟨fun h => by omega, fun _ => e1⟩
  · obtain ⟨z, rfl⟩ : ∃ z, s = -z := ⟨-s, by omega⟩
    have hz : 0 < z := by omega
    have d1 : Int.tdiv (-z) (n : Int) = -(z / (n : Int)) := by rw [Int.neg_tdiv, Int.tdiv_eq_ediv_of_nonneg (by omega)]
    have m1 : Int.tmod (-z) (n : Int) = -(z % (n : Int)) := by rw [Int.neg_tmod, Int.tmod_eq_emod_of_nonneg (by omega)]
    have h0 := Int.emod_nonneg z (show (n : Int) ≠ 0 by omega)
    have h1 := Int.emod_lt_of_pos z (show 0 < (n : Int) by omega)
    have h2 := Int.mul_ediv_add_emod z (n : Int)
    rw [d1, m1]
    generalize hq : z / (n : Int) = q at h2
    generalize hr : z % (n : Int) = r at h0 h1 h2
    constructor
    · intro h
      have e : -z = (n : Int) - r + (-q - 1) * (n : Int) := by
        rw [← h2, Int.sub_mul, Int.neg_mul, Int.one_mul, Int.mul_comm q]
        omega
      rw [e, Int.add_mul_ediv_right _ _ (by omega), Int.ediv_eq_zero_of_lt (by omega) (by omega)]
      omega
    · intro h
      have r0 : r = 0 := by omega
      have e : -z = 0 + (-q) * (n : Int) := by
        rw [← h2, Int.neg_mul, Int.mul_comm q]
        omega
      rw [e, Int.add_mul_ediv_right _ _ (by omega), Int.zero_ediv]
      omega
theorem ediv_ok {s : Int} {n : Nat} (hn : 0 < n) (h : okL s) : okL (s / (n : Int)) := by
  have h0 := Int.emod_nonneg s (show (n : Int) ≠ 0 by omega)
  have h1 := Int.emod_lt_of_pos s (show 0 < (n : Int) by omega)
  have h2 := Int.mul_ediv_add_emod s (n : Int)
  constructor
  · exact (Int.le_ediv_iff_mul_le (by omega)).mpr (by
      have : (-9223372036854775808 : Int) * (n : Int) ≤ -9223372036854775808 * 1 := Int.mul_le_mul_of_nonpos_left (by omega) (by omega)
      omega)
  · refine Int.ediv_lt_of_lt_mul (by omega) ?_
    have : (9223372036854775808 : Int) * 1 ≤ 9223372036854775808 * (n : Int) := Int.mul_le_mul_of_nonneg_left (by omega) (by omega)
    omega
theorem s_msF {σ : zS} {M : Nat} {m : Int} (hM : σ 143 14 = (M : Int)) (hM2 : M ≤ 60) (hm : 0 ≤ m ∧ m ≤ 6) (hr : ∀ j : Nat, j < M → okL (σ 155 (j : Int))) : ∃ o, g_m_measured m σ = some (msF (σ 155) M m, zu σ 143 15 o) := by
  have h0 : zu σ 143 15 0 143 14 = (M : Int) := by rw [zu_i (by decide)]; exact hM
  have z155 : ∀ v, zu σ 143 15 v 155 = σ 155 := fun v => by
    funext j
    exact zu_a (by decide)
  have zz : ∀ a b, zu (zu σ 143 15 a) 143 15 b = zu σ 143 15 b := by
    intro a b
    funext c j
    unfold zu
    by_cases h : c = 143 ∧ j = 15
    · rw [if_pos h, if_pos h]
    · rw [if_neg h, if_neg h, if_neg h]
  have f0 : ∀ y, g_m_measured_L102 y (zu σ 143 15 0) = some (y, zu σ 143 15 0) := by
    intro y
    unfold g_m_measured_L102
    show (if zu σ 143 15 0 143 15 = 0 then _ else _) = _
    rw [zu_e rfl, if_pos rfl]
  have f1 : ∀ y o, o = 1 → g_m_measured_L102 y (zu σ 143 15 o) = some (-9223372036854775807, zu σ 143 15 o) := by
    intro y o ho
    unfold g_m_measured_L102
    show (if zu σ 143 15 o 143 15 = 0 then _ else _) = _
    rw [zu_e rfl, if_neg (by omega)]
  have eov : ovC (zu σ 143 15 0) M = if ovF (σ 155) M = true then 1 else 0 := by
    have h := ovC_F (zu σ 143 15 0) M (fun j hj => by rw [z155]; exact hr j hj)
    rw [z155] at h
    exact h
  have esu : suC (zu σ 143 15 0) M = suF (σ 155) M := by rw [suC_F, z155]
  have f25 : ¬ (M = 0 ∧ 2 ≤ m ∧ m ≤ 5) → ∃ o, g_m_measured_L25 m (zu σ 143 15 0) = some (msF (σ 155) M m, zu σ 143 15 o) := by
    intro hg
    unfold g_m_measured_L25 msF
    rw [if_neg hg]
    by_cases c0 : m = 0
    · rw [if_neg (fun e => e c0), if_pos c0]
      dsimp only
      rw [f0, h0]; exact ⟨_, rfl⟩
    · rw [if_pos c0, if_neg c0]
      by_cases c1 : m = 1
      · rw [if_neg (fun e => e c1), if_pos c1, s_sumOf h0 hM2, Option.bind_some, zz, esu, eov]
        by_cases co : ovF (σ 155) M = true
        · rw [if_pos co, if_pos co, f1 _ 1 rfl]; exact ⟨_, rfl⟩
        · rw [if_neg co, if_neg co, f0]; exact ⟨_, rfl⟩
      · rw [if_pos c1, if_neg c1]
        by_cases c2 : m = 2
        · rw [if_neg (fun e => e c2), if_pos c2, s_leastOf h0 hM2, Option.bind_some, f0, leC_F, z155]; exact ⟨_, rfl⟩
        · rw [if_pos c2, if_neg c2]
          by_cases c3 : m = 3
          · rw [if_neg (fun e => e c3), if_pos c3, s_mostOf h0 hM2, Option.bind_some, f0, moC_F, z155]; exact ⟨_, rfl⟩
          · rw [if_pos c3, if_neg c3]
            by_cases c4 : m = 4
            · have hM0 : 0 < M := by
                rcases Nat.eq_zero_or_pos M with h | h
                · exact absurd ⟨h, by omega, by omega⟩ hg
                · exact h
              rw [if_neg (fun e => e c4), if_pos c4]
              unfold g_m_meanOf
              rw [s_sumOf h0 hM2, Option.bind_some, zz, esu, eov]
              have hq : zu σ 143 15 (if ovF (σ 155) M = true then 1 else 0) 143 14 = (M : Int) := by rw [zu_i (by decide)]; exact hM
              dsimp only
              rw [hq, if_neg (by omega), if_neg (by omega)]
              have td := tmod_neg (s := suF (σ 155) M) hM0
              have hd := ediv_ok hM0 (suF_ok (f := σ 155) M)
              have hval : (if 0 ≤ lCmp (Int.tmod (suF (σ 155) M) (M : Int)) 0 then some (w64 (Int.tdiv (suF (σ 155) M) (M : Int)), zu σ 143 15 (if ovF (σ 155) M = true then 1 else 0)) else some (w64 (w64 (Int.tdiv (suF (σ 155) M) (M : Int)) - 1), zu σ 143 15 (if ovF (σ 155) M = true then 1 else 0))) = some (suF (σ 155) M / (M : Int), zu σ 143 15 (if ovF (σ 155) M = true then 1 else 0)) := by
                by_cases ct : Int.tmod (suF (σ 155) M) (M : Int) < 0
                · have e := td.1 ct
                  rw [if_neg (fun h => lCmp_0.mp h ct)]
                  have hs := suF_ok (f := σ 155) M
                  rw [w64_id (x := Int.tdiv (suF (σ 155) M) (M : Int)) (by omega) (by
                    have : Int.tdiv (suF (σ 155) M) (M : Int) ≤ 0 := by
                      by_cases hs0 : 0 ≤ suF (σ 155) M
                      · have := Int.tmod_nonneg (M : Int) hs0
                        omega
                      · have h1 : suF (σ 155) M / (M : Int) < 0 := Int.ediv_neg_of_neg_of_pos (by omega) (by omega)
                        omega
                    omega), e, w64_id hd.1 hd.2]
                · have e := td.2 ct
                  rw [if_pos (lCmp_0.mpr ct), e, w64_id hd.1 hd.2]
              rw [hval, Option.bind_some]
              by_cases co : ovF (σ 155) M = true
              · rw [if_pos co, if_pos co, f1 _ 1 rfl]; exact ⟨_, rfl⟩
              · rw [if_neg co, if_neg co, f0]; exact ⟨_, rfl⟩
            · rw [if_pos c4, if_neg c4]
              by_cases c5 : m = 5
              · rw [if_neg (fun e => e c5), if_pos c5]
                unfold g_m_spanOf
                rw [s_mostOf h0 hM2, Option.bind_some]
                dsimp only
                rw [s_leastOf h0 hM2, Option.bind_some]
                dsimp only
                rw [moC_F, leC_F, z155]
                unfold g_m_spanOf_L28
                by_cases cs : w64 (moF (σ 155) (M - 1) - leF (σ 155) (M - 1)) < 0
                · rw [if_neg (fun h => lCmp_0.mp h cs), if_pos cs, if_pos (Or.inr rfl)]
                  rw [Option.bind_some]
                  dsimp only
                  rw [zz, f1 _ 1 rfl]; exact ⟨_, rfl⟩
                · rw [if_pos (lCmp_0.mpr cs), if_neg cs, if_pos (Or.inl rfl)]
                  rw [Option.bind_some]
                  dsimp only
                  rw [zz, f0]; exact ⟨_, rfl⟩
              · rw [if_pos c5, if_neg c5, s_kindsOf h0 hM2, Option.bind_some, f0, kiC_F, z155]; exact ⟨_, rfl⟩
  unfold g_m_measured
  show ∃ o, (if zu σ 143 15 0 143 14 ≠ 0 then _ else _) = _
  rw [h0]
  by_cases cM : M = 0
  · subst cM
    rw [if_neg (by decide)]
    by_cases cm : 2 ≤ m ∧ m ≤ 5
    · rw [s_isIn_t cm.1 cm.2]
      rw [Option.bind_some]
      try dsimp +instances only
      rw [if_neg (by decide)]
      unfold msF
      rw [if_pos ⟨rfl, cm⟩]
      exact ⟨_, rfl⟩
    · rw [s_isIn_f (by omega), Option.bind_some, if_pos rfl]
      exact f25 (fun h => cm h.2)
  · rw [if_pos (by omega)]
    exact f25 (fun h => cM h.1)
end
section
/-! 63b.cmeas -/
/-! MEASURES of the class -/
theorem zP'.binde {α β : Type} {x : Option (α × zS)} {f : α × zS → Option (β × zS)} {σ : zS} {w : α} {Q : β → zS → Prop} (h : zP' x (fun v s => s = σ ∧ v = w)) (k : zP' (f (w, σ)) Q) : zP' (x.bind f) Q := zP'.bind h (fun v s p => by
  rw [p.1, p.2]
  exact k)
theorem lCmp_gt0 {x y : Int} : 0 < lCmp x y ↔ y < x := by
  have h := lCmp_gt (x := x) (y := y)
  omega
def bI (b : Bool) : Int := if b = true then 1 else 0
theorem bI_t : bI true = 1 := rfl
theorem bI_f : bI false = 0 := rfl
theorem ovF_mono {f : Int → Int} {n : Nat} (h : ovF f n = true) : ∀ d : Nat, ovF f (n + d) = true
  | 0 => h
  | d + 1 => by
    show (ovF f (n + d) || !decide (okL (suF f (n + d) + f ((n + d : Nat) : Int)))) = true
    rw [ovF_mono h d]
    rfl
theorem neF_mono {f : Int → Int} {x : Int} {n : Nat} (h : neF f x n = false) : ∀ d : Nat, neF f x (n + d) = false
  | 0 => h
  | d + 1 => by
    show (neF f x (n + d) && !decide (f ((n + d : Nat) : Int) = x)) = false
    rw [neF_mono h d]
    rfl
theorem p_over4 {a M : Nat} {σ : zS} (hM : σ a 2 = (M : Int)) (hM2 : M ≤ 60) (hr : ∀ j : Nat, j < M → okL (σ (a + 2) (j : Int))) : ∀ (n k : Nat), k ≤ M → ovF (σ (a + 2)) k = false → zP' (g_fi_sumIsOver_L4 a n (suF (σ (a + 2)) k) (k : Int) σ) (fun v s => s = σ ∧ v = bI (ovF (σ (a + 2)) M))
  | 0, _, _, _ => zP'.no
  | n + 1, k, hk, h0 => by
    unfold g_fi_sumIsOver_L4
    try dsimp +instances only
    refine zP'.ite (fun c => zP'.ret ⟨rfl, ?_⟩) (fun c => zP'.gd (fun _ => zP'.gd (fun _ => ?_)))
    · rw [show M = k by omega, h0]
      rfl
    · have ho := hr k (by omega)
      have hs := suF_ok (f := σ (a + 2)) k
      have cs := w64_cs (x := suF (σ (a + 2)) k + σ (a + 2) (k : Int)) (by omega) (by omega)
      have go : okL (suF (σ (a + 2)) k + σ (a + 2) (k : Int)) → zP' (g_fi_sumIsOver_L60 a (g_fi_sumIsOver_L4 a n) (k : Int) (w64 (suF (σ (a + 2)) k + σ (a + 2) (k : Int))) 0 σ) (fun v s => s = σ ∧ v = bI (ovF (σ (a + 2)) M)) := fun ok => by
        have h := p_over4 hM hM2 hr n (k + 1) (by omega) (by
          show (ovF (σ (a + 2)) k || !decide (okL (suF (σ (a + 2)) k + σ (a + 2) (k : Int)))) = false
          rw [h0, decide_eq_true ok]
          rfl)
        unfold g_fi_sumIsOver_L60
        rw [if_pos rfl, w32_id (x := (k : Int) + 1) (by omega) (by omega), show (k : Int) + 1 = ((k + 1 : Nat) : Int) by omega]
        exact h
      have no : ¬ okL (suF (σ (a + 2)) k + σ (a + 2) (k : Int)) → zP' (g_fi_sumIsOver_L60 a (g_fi_sumIsOver_L4 a n) (k : Int) (w64 (suF (σ (a + 2)) k + σ (a + 2) (k : Int))) 1 σ) (fun v s => s = σ ∧ v = bI (ovF (σ (a + 2)) M)) := fun ok => by
        have h : ovF (σ (a + 2)) (k + 1) = true := by
          show (ovF (σ (a + 2)) k || !decide (okL (suF (σ (a + 2)) k + σ (a + 2) (k : Int)))) = true
          rw [h0, decide_eq_false ok]
          rfl
        have h2 := ovF_mono h (M - (k + 1))
        rw [show k + 1 + (M - (k + 1)) = M by omega] at h2
        unfold g_fi_sumIsOver_L60
        rw [if_neg (by decide)]
        refine zP'.ret ⟨rfl, ?_⟩
        rw [h2]
        rfl
      refine zP'.ite (fun c1 => zP'.ite (fun c2 => go ?_) (fun c2 => no ?_)) (fun c1 => zP'.ite (fun c2 => go ?_) (fun c2 => no ?_))
      · have c1 := lCmp_lt.mp c1
        have c2 := lCmp_gt.mp c2
        omega
      · have c1 := lCmp_lt.mp c1
        have c2 := mt lCmp_gt.mpr c2
        omega
      · have c1 := mt lCmp_lt.mpr c1
        have c2 := lCmp_ge0.mp c2
        omega
      · have c1 := mt lCmp_lt.mpr c1
        have c2 := mt lCmp_ge0.mpr c2
        omega
theorem p_over {a M : Nat} {σ : zS} (hM : σ a 2 = (M : Int)) (hM2 : M ≤ 60) (hr : ∀ j : Nat, j < M → okL (σ (a + 2) (j : Int))) : zP' (g_fi_sumIsOver a σ) (fun v s => s = σ ∧ v = bI (ovF (σ (a + 2)) M)) := p_over4 hM hM2 hr zK 0 (Nat.zero_le _) rfl
theorem p_sum15 {a M : Nat} {σ : zS} (hM : σ a 2 = (M : Int)) (hM2 : M ≤ 60) : ∀ (n k : Nat), k ≤ M → zP' (g_fi_sum_L15 a n (suF (σ (a + 2)) k) (k : Int) σ) (fun v s => s = σ ∧ v = suF (σ (a + 2)) M)
  | 0, _, _ => zP'.no
  | n + 1, k, hk => by
    unfold g_fi_sum_L15
    try dsimp +instances only
    refine zP'.ite (fun c => zP'.ret ⟨rfl, by rw [show M = k by omega]⟩) (fun c => zP'.gd (fun _ => ?_))
    have h := p_sum15 hM hM2 n (k + 1) (by omega)
    try dsimp +instances only
    rw [w32_id (x := (k : Int) + 1) (by omega) (by omega), show (k : Int) + 1 = ((k + 1 : Nat) : Int) by omega]
    exact h
theorem p_sum {a M : Nat} {σ : zS} (hM : σ a 2 = (M : Int)) (hM2 : M ≤ 60) (hr : ∀ j : Nat, j < M → okL (σ (a + 2) (j : Int))) : zP' (g_fi_sum a σ) (fun v s => s = σ ∧ v = if ovF (σ (a + 2)) M = true then -9223372036854775807 else suF (σ (a + 2)) M) := by
  unfold g_fi_sum
  refine zP'.binde (p_over hM hM2 hr) ?_
  try dsimp +instances only
  cases co : ovF (σ (a + 2)) M with
  | true =>
    rw [bI_t, if_neg (by decide)]
    exact zP'.ret ⟨rfl, (if_pos rfl).symm⟩
  | false =>
    rw [bI_f, if_pos rfl]
    refine (p_sum15 hM hM2 zK 0 (Nat.zero_le _)).imp (fun v s p => ⟨p.1, ?_⟩)
    rw [if_neg (by decide)]
    exact p.2
theorem p_floorDiv {s : Int} {n : Nat} {σ : zS} (hn : 0 < n) (hn2 : n ≤ 60) (hs : okL s) : zP' (g_jMath_floorDiv s (n : Int) σ) (fun v t => t = σ ∧ v = s / (n : Int)) := by
  have td := tmod_neg (s := s) hn
  have hd := ediv_ok hn hs
  have hx : lXor s (n : Int) < 0 ↔ s < 0 := by
    have h := lXor_neg (x := s) (y := (n : Int)) hs ⟨by omega, by omega⟩
    omega
  have dm := Int.mul_tdiv_add_tmod s (n : Int)
  unfold g_jMath_floorDiv
  rw [if_neg (by omega)]
  by_cases c : s < 0
  · have h0 : Int.tdiv s (n : Int) ≤ 0 := by
      by_cases ct : Int.tmod s (n : Int) < 0
      · have e := td.1 ct
        have h1 : s / (n : Int) < 0 := Int.ediv_neg_of_neg_of_pos c (by omega)
        omega
      · have e := td.2 ct
        have h1 : s / (n : Int) < 0 := Int.ediv_neg_of_neg_of_pos c (by omega)
        omega
    have hb : okL (Int.tdiv s (n : Int)) := by
      by_cases ct : Int.tmod s (n : Int) < 0
      · have e := td.1 ct
        omega
      · have e := td.2 ct
        omega
    have hm : Int.tmod s (n : Int) ≤ 0 := by
      have h1 := Int.tmod_nonneg (n : Int) (a := -s) (by omega)
      rw [Int.neg_tmod] at h1
      omega
    have hm2 : -(n : Int) < Int.tmod s (n : Int) := by
      have h1 := Int.tmod_lt_of_pos (-s) (b := (n : Int)) (by omega)
      rw [Int.neg_tmod] at h1
      omega
    rw [if_neg (fun h => lCmp_ge0.mp h (hx.mpr c)), w64_id hb.1 hb.2, Int.mul_comm, w64_id (x := (n : Int) * Int.tdiv s (n : Int)) (by omega) (by omega)]
    by_cases ct : Int.tmod s (n : Int) < 0
    · have e := td.1 ct
      rw [if_neg (fun h => by have := lCmp_eq.mp h; omega), e, w64_id hd.1 hd.2]
      exact zP'.ret ⟨rfl, rfl⟩
    · have e := td.2 ct
      rw [if_pos (lCmp_eq.mpr (by omega)), e]
      exact zP'.ret ⟨rfl, rfl⟩
  · have e : Int.tdiv s (n : Int) = s / (n : Int) := Int.tdiv_eq_ediv_of_nonneg (by omega)
    rw [if_pos (lCmp_ge0.mpr (fun h => c (hx.mp h))), e, w64_id hd.1 hd.2]
    exact zP'.ret ⟨rfl, rfl⟩
theorem p_mean {a M : Nat} {σ : zS} (hM : σ a 2 = (M : Int)) (hM0 : 0 < M) (hM2 : M ≤ 60) (hr : ∀ j : Nat, j < M → okL (σ (a + 2) (j : Int))) : zP' (g_fi_mean a σ) (fun v s => s = σ ∧ v = if ovF (σ (a + 2)) M = true then -9223372036854775807 else suF (σ (a + 2)) M / (M : Int)) := by
  unfold g_fi_mean
  try dsimp +instances only
  rw [if_pos (by omega)]
  refine zP'.binde (p_over hM hM2 hr) ?_
  try dsimp +instances only
  have ps := p_sum hM hM2 hr
  cases co : ovF (σ (a + 2)) M with
  | true =>
    rw [bI_t, if_neg (by decide)]
    exact zP'.ret ⟨rfl, (if_pos rfl).symm⟩
  | false =>
    rw [co, if_neg (by decide)] at ps
    rw [bI_f, if_pos rfl, if_neg (by decide)]
    refine zP'.binde ps ?_
    try dsimp +instances only
    rw [hM]
    refine zP'.binde (p_floorDiv hM0 hM2 (suF_ok M)) ?_
    exact zP'.ret ⟨rfl, rfl⟩
theorem p_least9 {a M : Nat} {σ : zS} (hM : σ a 2 = (M : Int)) (hM2 : M ≤ 60) : ∀ (n k : Nat), k < M → zP' (g_fi_leastWorth_L9 a n (leF (σ (a + 2)) k) ((k + 1 : Nat) : Int) σ) (fun v s => s = σ ∧ v = leF (σ (a + 2)) (M - 1))
  | 0, _, _ => zP'.no
  | n + 1, k, hk => by
    unfold g_fi_leastWorth_L9
    try dsimp +instances only
    refine zP'.ite (fun c => zP'.ret ⟨rfl, by rw [show M - 1 = k by omega]⟩) (fun c => zP'.gd (fun _ => ?_))
    have h := p_least9 hM hM2 n (k + 1) (by omega)
    have ew : w32 (((k + 1 : Nat) : Int) + 1) = ((k + 1 + 1 : Nat) : Int) := by
      rw [w32_id (by omega) (by omega)]
      omega
    try dsimp +instances only
    unfold g_jMath_min_292
    by_cases c2 : σ (a + 2) ((k + 1 : Nat) : Int) < leF (σ (a + 2)) k
    · have e : leF (σ (a + 2)) (k + 1) = σ (a + 2) ((k + 1 : Nat) : Int) := if_pos c2
      rw [if_pos (lCmp_gt0.mpr c2)]
      rw [Option.bind_some]
      try dsimp +instances only
      rw [ew, ← e]
      exact h
    · have e : leF (σ (a + 2)) (k + 1) = leF (σ (a + 2)) k := if_neg c2
      rw [if_neg (fun h => c2 (lCmp_gt0.mp h))]
      rw [Option.bind_some]
      try dsimp +instances only
      rw [ew, ← e]
      exact h
theorem p_least {a M : Nat} {σ : zS} (hM : σ a 2 = (M : Int)) (hM0 : 0 < M) (hM2 : M ≤ 60) : zP' (g_fi_leastWorth a σ) (fun v s => s = σ ∧ v = leF (σ (a + 2)) (M - 1)) := p_least9 hM hM2 zK 0 hM0
theorem p_most9 {a M : Nat} {σ : zS} (hM : σ a 2 = (M : Int)) (hM2 : M ≤ 60) : ∀ (n k : Nat), k < M → zP' (g_fi_mostWorth_L9 a n (moF (σ (a + 2)) k) ((k + 1 : Nat) : Int) σ) (fun v s => s = σ ∧ v = moF (σ (a + 2)) (M - 1))
  | 0, _, _ => zP'.no
  | n + 1, k, hk => by
    unfold g_fi_mostWorth_L9
    try dsimp +instances only
    refine zP'.ite (fun c => zP'.ret ⟨rfl, by rw [show M - 1 = k by omega]⟩) (fun c => zP'.gd (fun _ => ?_))
    have h := p_most9 hM hM2 n (k + 1) (by omega)
    have ew : w32 (((k + 1 : Nat) : Int) + 1) = ((k + 1 + 1 : Nat) : Int) := by
      rw [w32_id (by omega) (by omega)]
      omega
    try dsimp +instances only
    unfold g_jMath_max_290
    by_cases c2 : moF (σ (a + 2)) k < σ (a + 2) ((k + 1 : Nat) : Int)
    · have e : moF (σ (a + 2)) (k + 1) = σ (a + 2) ((k + 1 : Nat) : Int) := if_pos c2
      rw [if_pos (lCmp_lt.mpr c2)]
      rw [Option.bind_some]
      try dsimp +instances only
      rw [ew, ← e]
      exact h
    · have e : moF (σ (a + 2)) (k + 1) = moF (σ (a + 2)) k := if_neg c2
      rw [if_neg (fun h => c2 (lCmp_lt.mp h))]
      rw [Option.bind_some]
      try dsimp +instances only
      rw [ew, ← e]
      exact h
theorem p_most {a M : Nat} {σ : zS} (hM : σ a 2 = (M : Int)) (hM0 : 0 < M) (hM2 : M ≤ 60) : zP' (g_fi_mostWorth a σ) (fun v s => s = σ ∧ v = moF (σ (a + 2)) (M - 1)) := p_most9 hM hM2 zK 0 hM0
theorem p_kinds17 {a : Nat} {σ : zS} {g : Int → Int → zS → Option (Int × zS)} {Q : Int → zS → Prop} {k : Nat} {x1 : Int} (hk : k < 60) (hx : 0 ≤ x1 ∧ x1 ≤ 60) (hg : zP' (g (x1 + bI (neF (σ (a + 2)) (σ (a + 2) (k : Int)) k)) ((k + 1 : Nat) : Int) σ) Q) : ∀ (n j : Nat) (x3 : Int), j ≤ k → (x3 = 1 ∧ neF (σ (a + 2)) (σ (a + 2) (k : Int)) j = true) ∨ (x3 = 0 ∧ neF (σ (a + 2)) (σ (a + 2) (k : Int)) k = false) → zP' (g_fi_kinds_L17 a g n x1 (k : Int) x3 (j : Int) σ) Q
  | 0, _, _, _, _ => zP'.no
  | n + 1, j, x3, hj, hc => by
    have ew : w32 ((k : Int) + 1) = ((k + 1 : Nat) : Int) := by
      rw [w32_id (by omega) (by omega)]
      omega
    have fin : (x3 = 1 ∧ neF (σ (a + 2)) (σ (a + 2) (k : Int)) k = true) ∨ (x3 = 0 ∧ neF (σ (a + 2)) (σ (a + 2) (k : Int)) k = false) → zP' (g_fi_kinds_L56 a g x1 (k : Int) x3 σ) Q := fun h => by
      unfold g_fi_kinds_L56 g_fi_kinds_L63
      rw [ew]
      rcases h with ⟨h1, h2⟩ | ⟨h1, h2⟩
      · rw [h2, bI_t] at hg
        rw [if_neg (by omega), w32_id (x := x1 + 1) (by omega) (by omega)]
        exact hg
      · rw [h2, bI_f, show x1 + 0 = x1 by omega] at hg
        rw [if_pos h1]
        exact hg
    unfold g_fi_kinds_L17
    try dsimp +instances only
    refine zP'.ite (fun c => fin ?_) (fun c => zP'.ite (fun c2 => fin ?_) (fun c2 => zP'.gd (fun _ => zP'.gd (fun _ => ?_))))
    · rw [show j = k by omega] at hc
      exact hc
    · exact hc.imp (fun h => by omega) id
    · have hc1 := hc.resolve_right (fun h => c2 h.1)
      have ej : w32 ((j : Int) + 1) = ((j + 1 : Nat) : Int) := by
        rw [w32_id (by omega) (by omega)]
        omega
      have en : ∀ b : Bool, decide (σ (a + 2) (j : Int) = σ (a + 2) (k : Int)) = b → neF (σ (a + 2)) (σ (a + 2) (k : Int)) (j + 1) = !b := fun b hb => by
        show (neF (σ (a + 2)) (σ (a + 2) (k : Int)) j && !decide (σ (a + 2) (j : Int) = σ (a + 2) (k : Int))) = !b
        rw [hc1.2, hb]
        rfl
      try dsimp +instances only
      refine zP'.ite (fun c3 => ?_) (fun c3 => ?_)
      · have e := en true (decide_eq_true (lCmp_eq.mp c3))
        have e2 := neF_mono (f := σ (a + 2)) (n := j + 1) (x := σ (a + 2) (k : Int)) e (k - (j + 1))
        rw [show j + 1 + (k - (j + 1)) = k by omega] at e2
        unfold g_fi_kinds_L49
        rw [ej]
        exact p_kinds17 hk hx hg n (j + 1) 0 (by omega) (Or.inr ⟨rfl, e2⟩)
      · have e := en false (decide_eq_false (fun h => c3 (lCmp_eq.mpr h)))
        unfold g_fi_kinds_L49
        rw [ej]
        exact p_kinds17 hk hx hg n (j + 1) 1 (by omega) (Or.inl ⟨rfl, e⟩)
theorem kiF_bd {f : Int → Int} : ∀ n : Nat, 0 ≤ kiF f n ∧ kiF f n ≤ (n : Int)
  | 0 => by
    show (0 : Int) ≤ 0 ∧ (0 : Int) ≤ ((0 : Nat) : Int)
    omega
  | n + 1 => by
    have h := kiF_bd (f := f) n
    show 0 ≤ kiF f n + (if neF f (f (n : Int)) n = true then 1 else 0) ∧ kiF f n + (if neF f (f (n : Int)) n = true then 1 else 0) ≤ ((n + 1 : Nat) : Int)
    split <;> omega
theorem p_kinds4 {a M : Nat} {σ : zS} (hM : σ a 2 = (M : Int)) (hM2 : M ≤ 60) : ∀ (n k : Nat), k ≤ M → zP' (g_fi_kinds_L4 a n (kiF (σ (a + 2)) k) (k : Int) σ) (fun v s => s = σ ∧ v = kiF (σ (a + 2)) M)
  | 0, _, _ => zP'.no
  | n + 1, k, hk => by
    unfold g_fi_kinds_L4
    try dsimp +instances only
    refine zP'.ite (fun c => zP'.ret ⟨rfl, by rw [show M = k by omega]⟩) (fun c => ?_)
    have h := p_kinds4 hM hM2 n (k + 1) (by omega)
    have hb := kiF_bd (f := σ (a + 2)) k
    exact p_kinds17 (by omega) (by omega) h zK 0 1 (Nat.zero_le _) (Or.inl ⟨rfl, rfl⟩)
theorem p_measured {a M : Nat} {σ : zS} {m : Int} (hM : σ a 2 = (M : Int)) (hM2 : M ≤ 60) (hm : 0 ≤ m ∧ m ≤ 6) (hr : ∀ j : Nat, j < M → okL (σ (a + 2) (j : Int))) : zP' (g_fi_measured a m σ) (fun v s => s = σ ∧ v = msF (σ (a + 2)) M m) := by
  have f21 : ¬ (M = 0 ∧ 2 ≤ m ∧ m ≤ 5) → zP' (g_fi_measured_L21 a m σ) (fun v s => s = σ ∧ v = msF (σ (a + 2)) M m) := by
    intro hg
    have hM0 : (2 ≤ m ∧ m ≤ 5) → 0 < M := fun h => by
      rcases Nat.eq_zero_or_pos M with h0 | h0
      · exact absurd ⟨h0, h⟩ hg
      · exact h0
    unfold g_fi_measured_L21 msF
    rw [if_neg hg]
    by_cases c0 : m = 0
    · rw [if_pos c0, if_pos c0]
      exact zP'.ret ⟨rfl, hM⟩
    · rw [if_neg c0, if_neg c0]
      by_cases c1 : m = 1
      · rw [if_pos c1, if_pos c1]
        refine zP'.binde (p_sum hM hM2 hr) ?_
        exact zP'.ret ⟨rfl, rfl⟩
      · rw [if_neg c1, if_neg c1]
        by_cases c2 : m = 2
        · rw [if_pos c2, if_pos c2]
          refine zP'.binde (p_least hM (hM0 (by omega)) hM2) ?_
          exact zP'.ret ⟨rfl, rfl⟩
        · rw [if_neg c2, if_neg c2]
          by_cases c3 : m = 3
          · rw [if_pos c3, if_pos c3]
            refine zP'.binde (p_most hM (hM0 (by omega)) hM2) ?_
            exact zP'.ret ⟨rfl, rfl⟩
          · rw [if_neg c3, if_neg c3]
            by_cases c4 : m = 4
            · rw [if_pos c4, if_pos c4]
              refine zP'.binde (p_mean hM (hM0 (by omega)) hM2 hr) ?_
              exact zP'.ret ⟨rfl, rfl⟩
            · rw [if_neg c4, if_neg c4]
              by_cases c5 : m = 5
              · rw [if_pos c5, if_pos c5]
                refine zP'.binde (p_most hM (hM0 (by omega)) hM2) ?_
                try dsimp +instances only
                refine zP'.binde (p_least hM (hM0 (by omega)) hM2) ?_
                try dsimp +instances only
                unfold g_fi_difference
                by_cases cs : w64 (moF (σ (a + 2)) (M - 1) - leF (σ (a + 2)) (M - 1)) < 0
                · rw [if_neg (fun h => lCmp_ge0.mp h cs), if_pos cs]
                  rw [Option.bind_some]
                  exact zP'.ret ⟨rfl, rfl⟩
                · rw [if_pos (lCmp_ge0.mpr cs), if_neg cs]
                  rw [Option.bind_some]
                  exact zP'.ret ⟨rfl, rfl⟩
              · rw [if_neg c5, if_neg c5, if_pos (show m = 6 by omega)]
                refine zP'.binde (p_kinds4 hM hM2 zK 0 (Nat.zero_le _)) ?_
                exact zP'.ret ⟨rfl, rfl⟩
  unfold g_fi_measured
  try dsimp +instances only
  rw [hM]
  refine zP'.ite (fun c => f21 (fun h => by omega)) (fun c => zP'.ite (fun c1 => f21 (fun h => by omega)) (fun c1 => zP'.ite (fun c2 => f21 (fun h => by omega)) (fun c2 => zP'.ret ⟨rfl, ?_⟩)))
  unfold msF
  rw [if_pos (by omega)]
end
section
/-! 63c.box -/
/-! A BOX AS ONE NUMBER, as the class has it; the rows in a box as bits -/
theorem i32_n {n : Nat} (h : n < 2147483648) : (Int32.ofInt (n : Int)).toBitVec.toNat = n := by
  rw [Int32.toBitVec_ofInt, BitVec.toNat_ofInt]
  omega
theorem i32_ti {x : Int32} (h : x.toBitVec.toNat < 2147483648) : x.toInt = (x.toBitVec.toNat : Int) := by
  show x.toBitVec.toInt = _
  rw [BitVec.toInt_eq_toNat_of_lt (by omega)]
theorem i32_sh {k : Nat} (hk : k < 32) : ((Int32.ofInt (k : Int) &&& 31).toBitVec.smod 32).toNat = k := by
  have h : ∀ k : Fin 32, ((Int32.ofInt ((k.val : Nat) : Int) &&& 31).toBitVec.smod 32).toNat = k.val := by decide +kernel
  exact h ⟨k, hk⟩
theorem iAnd_n {n m : Nat} (hn : n < 2147483648) (hm : m < 2147483648) : iAnd (n : Int) (m : Int) = ((n &&& m : Nat) : Int) := by
  unfold iAnd
  have h : (Int32.ofInt (n : Int) &&& Int32.ofInt (m : Int)).toBitVec.toNat = n &&& m := by
    rw [Int32.toBitVec_and, BitVec.toNat_and, i32_n hn, i32_n hm]
  have h2 : n &&& m ≤ n := Nat.and_le_left
  rw [i32_ti (by rw [h]; exact Nat.lt_of_le_of_lt h2 hn), h]
theorem iOr_n {n m : Nat} (hn : n < 2147483648) (hm : m < 2147483648) : iOr (n : Int) (m : Int) = ((n ||| m : Nat) : Int) := by
  unfold iOr
  have h : (Int32.ofInt (n : Int) ||| Int32.ofInt (m : Int)).toBitVec.toNat = n ||| m := by
    rw [Int32.toBitVec_or, BitVec.toNat_or, i32_n hn, i32_n hm]
  have h2 : n ||| m < 2 ^ 31 := Nat.or_lt_two_pow hn hm
  rw [i32_ti (by rw [h]; exact h2), h]
theorem iShl_n {n k : Nat} (hk : k < 32) (h : n * 2 ^ k < 2147483648) : iShl (n : Int) (k : Int) = ((n * 2 ^ k : Nat) : Int) := by
  have hn : n < 2147483648 := Nat.lt_of_le_of_lt (Nat.le_mul_of_pos_right n (Nat.two_pow_pos k)) h
  unfold iShl
  have e : (Int32.ofInt (n : Int) <<< (Int32.ofInt (k : Int) &&& 31)).toBitVec.toNat = n * 2 ^ k := by
    rw [Int32.toBitVec_shiftLeft, BitVec.shiftLeft_eq', i32_sh hk, BitVec.toNat_shiftLeft, i32_n hn, Nat.shiftLeft_eq, Nat.mod_eq_of_lt (Nat.lt_trans h (by decide))]
  rw [i32_ti (by rw [e]; exact h), e]
theorem iShr_d {x : Int} {k : Nat} (hk : k < 32) (h1 : -2147483648 ≤ x) (h2 : x < 2147483648) : iShr x (k : Int) = x / ((2 ^ k : Nat) : Int) := by
  unfold iShr
  show (Int32.ofInt x >>> (Int32.ofInt (k : Int) &&& 31)).toBitVec.toInt = _
  rw [Int32.toBitVec_shiftRight, BitVec.sshiftRight_eq', i32_sh hk, BitVec.toInt_sshiftRight, Int32.toBitVec_ofInt, BitVec.toInt_ofInt, Int.shiftRight_eq_div_pow]
  have e : x.bmod (2 ^ 32) = x := w32_id h1 h2
  rw [e]
theorem iAnd_m {x : Int} (k : Nat) (hk : k < 31) (h1 : 0 ≤ x) (h2 : x < 2147483648) : iAnd x ((2 ^ k - 1 : Nat) : Int) = x % ((2 ^ k : Nat) : Int) := by
  obtain ⟨n, rfl⟩ : ∃ n : Nat, x = (n : Int) := ⟨x.toNat, by omega⟩
  have h3 : 2 ^ k < 2 ^ 31 := Nat.pow_lt_pow_right (by decide) hk
  rw [iAnd_n (by omega) (by omega), Nat.and_two_pow_sub_one_eq_mod]
  rfl
theorem iAnd_31 {x : Int} (h1 : 0 ≤ x) (h2 : x < 2147483648) : iAnd x 31 = x % 32 := iAnd_m 5 (by decide) h1 h2
theorem iAnd_1023 {x : Int} (h1 : 0 ≤ x) (h2 : x < 2147483648) : iAnd x 1023 = x % 1024 := iAnd_m 10 (by decide) h1 h2
theorem en_or {n m k : Nat} (hk : k ≤ 15) (hn : n < 2 ^ k) (hm : m < 32) : iOr (n : Int) (iShl (m : Int) (k : Int)) = ((n + m * 2 ^ k : Nat) : Int) := by
  have h3 : 2 ^ k ≤ 2 ^ 15 := Nat.pow_le_pow_right (by decide) hk
  have h4 : m * 2 ^ k ≤ 31 * 2 ^ 15 := Nat.mul_le_mul (by omega) h3
  rw [iShl_n (by omega) (by omega), iOr_n (by omega) (by omega)]
  have e := Nat.shiftLeft_add_eq_or_of_lt hn m
  rw [Nat.shiftLeft_eq] at e
  rw [Nat.or_comm, ← e, Nat.add_comm]
abbrev sOk (b : Bx) : Prop := (0 ≤ b.1 ∧ b.1 ≤ 31) ∧ (0 ≤ b.2.1 ∧ b.2.1 ≤ 31) ∧ (0 ≤ b.2.2.1 ∧ b.2.2.1 ≤ 31) ∧ (0 ≤ b.2.2.2 ∧ b.2.2.2 ≤ 31)
theorem bOk.s {b : Bx} (h : bOk b) : sOk b := by
  dsimp only [bOk, sOk] at *
  omega
def enc (b : Bx) : Int := b.1 + 32 * b.2.1 + 1024 * b.2.2.1 + 32768 * b.2.2.2
theorem b_of {b : Bx} (h : sOk b) (σ : zS) : g_b_of b.1 b.2.1 b.2.2.1 b.2.2.2 σ = some (enc b, σ) := by
  obtain ⟨x, y, z, w⟩ := b
  dsimp only [sOk] at h
  obtain ⟨x, rfl⟩ : ∃ n : Nat, x = (n : Int) := ⟨x.toNat, by omega⟩
  obtain ⟨y, rfl⟩ : ∃ n : Nat, y = (n : Int) := ⟨y.toNat, by omega⟩
  obtain ⟨z, rfl⟩ : ∃ n : Nat, z = (n : Int) := ⟨z.toNat, by omega⟩
  obtain ⟨w, rfl⟩ : ∃ n : Nat, w = (n : Int) := ⟨w.toNat, by omega⟩
  unfold g_b_of enc
  dsimp only
  have e1 : iOr (x : Int) (iShl (y : Int) 5) = ((x + y * 2 ^ 5 : Nat) : Int) := en_or (k := 5) (by decide) (by omega) (by omega)
  have e2 : iOr ((x + y * 2 ^ 5 : Nat) : Int) (iShl (z : Int) 10) = ((x + y * 2 ^ 5 + z * 2 ^ 10 : Nat) : Int) := en_or (k := 10) (by decide) (by omega) (by omega)
  have e3 : iOr ((x + y * 2 ^ 5 + z * 2 ^ 10 : Nat) : Int) (iShl (w : Int) 15) = ((x + y * 2 ^ 5 + z * 2 ^ 10 + w * 2 ^ 15 : Nat) : Int) := en_or (k := 15) (by decide) (by omega) (by omega)
  rw [e1, e2, e3]
  have e4 : ((x + y * 2 ^ 5 + z * 2 ^ 10 + w * 2 ^ 15 : Nat) : Int) = (x : Int) + 32 * (y : Int) + 1024 * (z : Int) + 32768 * (w : Int) := by omega
  rw [e4]
theorem enc_bd {b : Bx} (h : sOk b) : 0 ≤ enc b ∧ enc b < 1048576 := by
  dsimp only [sOk] at h
  unfold enc
  omega
theorem b_x0 {b : Bx} (h : sOk b) (σ : zS) : g_b_x0 (enc b) σ = some (b.1, σ) := by
  have hb := enc_bd h
  unfold g_b_x0
  rw [iAnd_31 (by omega) (by omega)]
  have e : enc b % 32 = b.1 := by
    dsimp only [sOk] at h
    unfold enc
    omega
  rw [e]
theorem en_side {b : Bx} (h : sOk b) (k : Nat) (hk : k < 32) : iAnd (iShr (enc b) (k : Int)) 31 = enc b / ((2 ^ k : Nat) : Int) % 32 := by
  have hb := enc_bd h
  have hp : (0 : Int) < ((2 ^ k : Nat) : Int) := by
    have := Nat.two_pow_pos k
    omega
  rw [iShr_d hk (by omega) (by omega), iAnd_31 (Int.ediv_nonneg hb.1 (by omega)) (Int.lt_of_le_of_lt (Int.ediv_le_self _ hb.1) (by omega))]
theorem en_5 {b : Bx} (h : sOk b) : iAnd (iShr (enc b) 5) 31 = b.2.1 := by
  refine (en_side h 5 (by decide)).trans ?_
  dsimp only [sOk] at h
  unfold enc
  show _ / ((32 : Nat) : Int) % 32 = _
  omega
theorem en_10 {b : Bx} (h : sOk b) : iAnd (iShr (enc b) 10) 31 = b.2.2.1 := by
  refine (en_side h 10 (by decide)).trans ?_
  dsimp only [sOk] at h
  unfold enc
  show _ / ((1024 : Nat) : Int) % 32 = _
  omega
theorem en_15 {b : Bx} (h : sOk b) : iAnd (iShr (enc b) 15) 31 = b.2.2.2 := by
  refine (en_side h 15 (by decide)).trans ?_
  dsimp only [sOk] at h
  unfold enc
  show _ / ((32768 : Nat) : Int) % 32 = _
  omega
theorem b_x1 {b : Bx} (h : sOk b) (σ : zS) : g_b_x1 (enc b) σ = some (b.2.1, σ) := by
  unfold g_b_x1
  rw [en_5 h]
theorem b_y0 {b : Bx} (h : sOk b) (σ : zS) : g_b_y0 (enc b) σ = some (b.2.2.1, σ) := by
  unfold g_b_y0
  rw [en_10 h]
theorem b_y1 {b : Bx} (h : sOk b) (σ : zS) : g_b_y1 (enc b) σ = some (b.2.2.2, σ) := by
  unfold g_b_y1
  rw [en_15 h]
theorem p_rowsIn {σ : zS} {I : Nat → Bool} {b : Bx} (S : STb σ 41 I) (hb : bOk b) : ∃ v, g_so_rowsIn (enc b) σ = some (v, σ) ∧ ∀ q, q < 64 → bq v q = (I q && decide (bIn b (σ 42 (q : Int)) (σ 43 (q : Int)))) := by
  have hs := hb.s
  have ho := hb
  dsimp only [bOk] at ho
  refine ⟨lAnd (lAnd (lAnd (σ 46 (b.2.1 + 1)) (lXor (σ 46 b.1) (-1))) (σ 47 (b.2.2.2 + 1))) (lXor (σ 47 b.2.2.1) (-1)), ?_, ?_⟩
  · unfold g_so_rowsIn
    rw [b_x1 hs]
    rw [Option.bind_some]
    try dsimp +instances only
    rw [w32_id (x := b.2.1 + 1) (by omega) (by omega), if_pos (by omega), b_x0 hs]
    rw [Option.bind_some]
    try dsimp +instances only
    rw [if_pos (by omega), b_y1 hs]
    rw [Option.bind_some]
    try dsimp +instances only
    rw [w32_id (x := b.2.2.2 + 1) (by omega) (by omega), if_pos (by omega), b_y0 hs]
    rw [Option.bind_some]
    try dsimp +instances only
    rw [if_pos (by omega)]
  · intro q hq
    obtain ⟨a1, -⟩ := S (b.2.1 + 1).toNat q (by omega) hq
    obtain ⟨a2, -⟩ := S b.1.toNat q (by omega) hq
    obtain ⟨-, a3⟩ := S (b.2.2.2 + 1).toNat q (by omega) hq
    obtain ⟨-, a4⟩ := S b.2.2.1.toNat q (by omega) hq
    rw [show (((b.2.1 + 1).toNat : Nat) : Int) = b.2.1 + 1 by omega] at a1
    rw [show ((b.1.toNat : Nat) : Int) = b.1 by omega] at a2
    rw [show (((b.2.2.2 + 1).toNat : Nat) : Int) = b.2.2.2 + 1 by omega] at a3
    rw [show ((b.2.2.1.toNat : Nat) : Int) = b.2.2.1 by omega] at a4
    have a1 : bq (σ 46 (b.2.1 + 1)) q = (I q && decide (σ 42 (q : Int) < b.2.1 + 1)) := a1
    have a2 : bq (σ 46 b.1) q = (I q && decide (σ 42 (q : Int) < b.1)) := a2
    have a3 : bq (σ 47 (b.2.2.2 + 1)) q = (I q && decide (σ 43 (q : Int) < b.2.2.2 + 1)) := a3
    have a4 : bq (σ 47 b.2.2.1) q = (I q && decide (σ 43 (q : Int) < b.2.2.1)) := a4
    rw [bq_and, bq_and, bq_and, bq_not _ hq, bq_not _ hq, a1, a2, a3, a4]
    cases I q with
    | false => rfl
    | true =>
      rw [Bool.true_and, Bool.true_and, Bool.true_and, Bool.true_and, Bool.true_and]
      by_cases c : bIn b (σ 42 (q : Int)) (σ 43 (q : Int))
      · rw [decide_eq_true c]
        dsimp only [bIn] at c
        rw [decide_eq_true (by omega), decide_eq_false (by omega), decide_eq_true (by omega), decide_eq_false (by omega)]
        rfl
      · rw [decide_eq_false c]
        dsimp only [bIn] at c
        by_cases c1 : σ 42 (q : Int) < b.2.1 + 1
        · by_cases c2 : σ 42 (q : Int) < b.1
          · rw [decide_eq_true c2]
            simp
          · by_cases c3 : σ 43 (q : Int) < b.2.2.2 + 1
            · rw [decide_eq_true (show σ 43 (q : Int) < b.2.2.1 by omega)]
              simp
            · rw [decide_eq_false c3]
              simp
        · rw [decide_eq_false c1]
          simp
end
section
/-! 63d.sort -/
/-! SORTED ROWS: lists by a key; the class's and the reference's gathering tell the same -/
theorem SL_eq {K : Int → Int} : ∀ {L1 L2 : List Int}, L1.Pairwise (fun a b => K a < K b) → L2.Pairwise (fun a b => K a < K b) → (∀ v, v ∈ L1 ↔ v ∈ L2) → L1 = L2
  | [], [], _, _, _ => rfl
  | [], b :: t, _, _, h => absurd ((h b).mpr List.mem_cons_self) List.not_mem_nil
  | a :: t, [], _, _, h => absurd ((h a).mp List.mem_cons_self) List.not_mem_nil
  | a :: t1, b :: t2, h1, h2, h => by
    obtain ⟨p1, q1⟩ := List.pairwise_cons.mp h1
    obtain ⟨p2, q2⟩ := List.pairwise_cons.mp h2
    have e : a = b := by
      rcases List.mem_cons.mp ((h a).mp List.mem_cons_self) with e | m1
      · exact e
      · rcases List.mem_cons.mp ((h b).mpr List.mem_cons_self) with e | m2
        · exact e.symm
        · have e1 := p1 b m2
          have e2 := p2 a m1
          omega
    subst e
    have ht : t1 = t2 := SL_eq q1 q2 (fun v => by
      constructor
      · intro hv
        rcases List.mem_cons.mp ((h v).mp (List.mem_cons_of_mem _ hv)) with e | m
        · subst e
          have := p1 v hv
          omega
        · exact m
      · intro hv
        rcases List.mem_cons.mp ((h v).mpr (List.mem_cons_of_mem _ hv)) with e | m
        · subst e
          have := p2 v hv
          omega
        · exact m)
    rw [ht]
def SL (K : Int → Int) (sel : Int → Prop) (L : List Int) : Prop := L.Pairwise (fun a b => K a < K b) ∧ ∀ v, v ∈ L ↔ sel v
theorem SL.uniq {K K2 : Int → Int} {s1 s2 : Int → Prop} {L1 L2 : List Int} (h1 : SL K s1 L1) (h2 : SL K2 s2 L2) (hs : ∀ v, s1 v ↔ s2 v) (hk : ∀ v, s1 v → K2 v = K v) : L1 = L2 := by
  refine SL_eq (K := K) h1.1 (List.Pairwise.imp_of_mem (fun {a b} ha hb h => ?_) h2.1) (fun v => (h1.2 v).trans ((hs v).trans (h2.2 v).symm))
  rw [hk a ((hs a).mpr ((h2.2 a).mp ha)), hk b ((hs b).mpr ((h2.2 b).mp hb))] at h
  exact h
theorem sg_get {f : Int → Int} : ∀ (n : Nat) (a : Int) (j : Nat), j < n → (sg f a n).getD j 0 = f (a + (j : Int))
  | 0, _, _, h => absurd h (Nat.not_lt_zero _)
  | n + 1, a, 0, _ => by
    show f a = f (a + ((0 : Nat) : Int))
    rw [show a + ((0 : Nat) : Int) = a by omega]
  | n + 1, a, j + 1, h => by
    show (sg f (a + 1) n).getD j 0 = _
    rw [sg_get n (a + 1) j (by omega), show a + 1 + (j : Int) = a + ((j + 1 : Nat) : Int) by omega]
/-- one comes in at its place -/
theorem ins_SL {K : Int → Int} {f h : Int → Int} {n p : Nat} {r : Int} (hp : p ≤ n) (c1 : ∀ j : Nat, j < p → h (j : Int) = f (j : Int)) (c2 : h (p : Int) = r) (c3 : ∀ j : Nat, p ≤ j → j < n → h ((j : Int) + 1) = f (j : Int)) (k1 : ∀ j : Nat, j < p → K (f (j : Int)) < K r) (k2 : ∀ j : Nat, p ≤ j → j < n → K r < K (f (j : Int))) (S : (sg f 0 n).Pairwise (fun a b => K a < K b)) : (sg h 0 (n + 1)).Pairwise (fun a b => K a < K b) ∧ ∀ v, v ∈ sg h 0 (n + 1) ↔ v = r ∨ v ∈ sg f 0 n := by
  obtain ⟨d, rfl⟩ : ∃ d, n = p + d := ⟨n - p, by omega⟩
  have e1 : sg h 0 (p + d + 1) = sg f 0 p ++ (r :: sg f (p : Int) d) := by
    rw [show p + d + 1 = p + (d + 1) by omega, sg_app h p (d + 1) 0]
    have a1 : sg h 0 p = sg f 0 p := sg_ext p 0 0 (fun j hj => by rw [show (0 : Int) + (j : Int) = (j : Int) by omega]; exact c1 j hj)
    have a2 : sg h (0 + (p : Int)) (d + 1) = r :: sg f (p : Int) d := by
      show h (0 + (p : Int)) :: sg h (0 + (p : Int) + 1) d = _
      rw [show (0 : Int) + (p : Int) = (p : Int) by omega, c2]
      have a3 : sg h ((p : Int) + 1) d = sg f (p : Int) d := sg_ext d _ _ (fun j hj => by
        have e := c3 (p + j) (by omega) (by omega)
        rw [show (p : Int) + 1 + (j : Int) = ((p + j : Nat) : Int) + 1 by omega, e, show ((p + j : Nat) : Int) = (p : Int) + (j : Int) by omega])
      rw [a3]
    rw [a1, a2]
  have e2 : sg f 0 (p + d) = sg f 0 p ++ sg f (p : Int) d := by
    rw [sg_app f p d 0, show (0 : Int) + (p : Int) = (p : Int) by omega]
  rw [e2] at S
  obtain ⟨s1, s2, s3⟩ := List.pairwise_append.mp S
  have lo : ∀ a, a ∈ sg f 0 p → K a < K r := fun a ha => by
    obtain ⟨j, h1, h2⟩ := (sg_mem p 0).mp ha
    rw [show (0 : Int) + (j : Int) = (j : Int) by omega] at h2
    rw [← h2]
    exact k1 j h1
  have hi : ∀ a, a ∈ sg f (p : Int) d → K r < K a := fun a ha => by
    obtain ⟨j, h1, h2⟩ := (sg_mem d (p : Int)).mp ha
    have e := k2 (p + j) (by omega) (by omega)
    rw [show ((p + j : Nat) : Int) = (p : Int) + (j : Int) by omega, h2] at e
    exact e
  rw [e1, e2]
  constructor
  · refine List.pairwise_append.mpr ⟨s1, List.pairwise_cons.mpr ⟨hi, s2⟩, fun a ha b hb => ?_⟩
    rcases List.mem_cons.mp hb with e | m
    · rw [e]; exact lo a ha
    · exact s3 a ha b m
  · intro v
    rw [List.mem_append, List.mem_append, List.mem_cons]
    constructor
    · rintro (h1 | h1 | h1)
      · exact Or.inr (Or.inl h1)
      · exact Or.inl h1
      · exact Or.inr (Or.inr h1)
    · rintro (h1 | h1 | h1)
      · exact Or.inr (Or.inl h1)
      · exact Or.inl h1
      · exact Or.inr (Or.inr h1)
/-! the class gathers -/
theorem p_gath8 {a : Nat} (ha : a = 60 ∨ a = 70) {rows : Int} {P : Int → Bool} (hP : ∀ q : Nat, q < 60 → bq rows q = P (q : Int)) {C : Nat} (hC2 : C ≤ 60) : ∀ (n k m : Nat) (σ : zS), σ 41 4 = (C : Int) → k ≤ C → σ a 2 = (m : Int) → (∀ j : Nat, j < C → 0 ≤ σ 45 (j : Int) ∧ σ 45 (j : Int) < 60) → zP' (g_fi_gather_L8 a n rows (k : Int) σ) (fun _ s => (∀ b j, b ≠ a + 1 → b ≠ a + 2 → (b ≠ a ∨ j ≠ 2) → s b j = σ b j) ∧ ∃ d : Nat, s a 2 = ((m + d : Nat) : Int) ∧ sg (s (a + 1)) 0 (m + d) = sg (σ (a + 1)) 0 m ++ (sg (σ 45) (k : Int) (C - k)).filter P ∧ (∀ j : Nat, j < m → s (a + 2) (j : Int) = σ (a + 2) (j : Int)) ∧ ∀ j : Nat, m ≤ j → j < m + d → s (a + 2) (j : Int) = σ 44 (s (a + 1) (j : Int)))
  | 0, _, _, _, _, _, _, _ => zP'.no
  | n + 1, k, m, σ, hC, hk, hm, hv => by
    unfold g_fi_gather_L8
    try dsimp +instances only
    have fin : k = C → zP' (some ((), σ)) (fun (_ : Unit) (s : zS) => (∀ b j, b ≠ a + 1 → b ≠ a + 2 → (b ≠ a ∨ j ≠ 2) → s b j = σ b j) ∧ ∃ d : Nat, s a 2 = ((m + d : Nat) : Int) ∧ sg (s (a + 1)) 0 (m + d) = sg (σ (a + 1)) 0 m ++ (sg (σ 45) (k : Int) (C - k)).filter P ∧ (∀ j : Nat, j < m → s (a + 2) (j : Int) = σ (a + 2) (j : Int)) ∧ ∀ j : Nat, m ≤ j → j < m + d → s (a + 2) (j : Int) = σ 44 (s (a + 1) (j : Int))) := fun e => by
      subst e
      refine zP'.ret ⟨fun _ _ _ _ _ => rfl, 0, hm, ?_, fun _ _ => rfl, fun j h1 h2 => absurd h2 (by omega)⟩
      rw [Nat.sub_self]
      show _ = _ ++ []
      rw [List.append_nil]
      rfl
    refine zP'.ite (fun c => fin (by omega)) (fun c => zP'.ite (fun c2 => fin (by omega)) (fun c2 => zP'.gd (fun _ => ?_)))
    obtain ⟨v1, v2⟩ := hv k (by omega)
    obtain ⟨r, hr⟩ : ∃ r : Nat, σ 45 (k : Int) = (r : Int) := ⟨(σ 45 (k : Int)).toNat, by omega⟩
    have hr6 : r < 60 := by omega
    have ek : w32 ((k : Int) + 1) = ((k + 1 : Nat) : Int) := by
      rw [w32_id (by omega) (by omega)]
      omega
    have eC : C - k = (C - (k + 1)) + 1 := by omega
    try dsimp +instances only
    rw [hr, p_isRow, if_pos (by omega)]
    rw [Option.bind_some]
    try dsimp +instances only
    rw [if_neg (by decide)]
    have ht := bq_tst (v := rows) (r := r) (by omega)
    have hPr := hP r hr6
    have step : sg (σ 45) (k : Int) (C - k) = (r : Int) :: sg (σ 45) ((k + 1 : Nat) : Int) (C - (k + 1)) := by
      rw [eC]
      show σ 45 (k : Int) :: sg (σ 45) ((k : Int) + 1) (C - (k + 1)) = _
      rw [hr, show (k : Int) + 1 = ((k + 1 : Nat) : Int) by omega]
    refine zP'.ite (fun c3 => ?_) (fun c3 => ?_)
    · unfold g_fi_gather_L89
      rw [ek]
      refine (p_gath8 ha hP hC2 n (k + 1) m σ hC (by omega) hm hv).imp (fun _ s p => ?_)
      obtain ⟨p1, d, p2, p3, p4, p5⟩ := p
      refine ⟨p1, d, p2, ?_, p4, p5⟩
      have hb : P (r : Int) = false := by
        rw [← hPr]
        exact ht.mp c3
      rw [p3, step, List.filter_cons_of_neg (by rw [hb]; decide)]
    · have hb : P (r : Int) = true := by
        cases hb : P (r : Int) with
        | true => rfl
        | false => exact absurd (ht.mpr (by rw [hPr, hb])) c3
      rw [hm]
      refine zP'.gd (fun c4 => ?_)
      try dsimp +instances only
      rw [show zu σ (a + 1) (m : Int) (r : Int) a 2 = (m : Int) from (zu_a (by omega)).trans hm]
      refine zP'.gd (fun _ => zP'.gd (fun _ => ?_))
      try dsimp +instances only
      rw [show zu (zu σ (a + 1) (m : Int) (r : Int)) (a + 2) (m : Int) (zu σ (a + 1) (m : Int) (r : Int) 44 (r : Int)) a 2 = (m : Int) from (zu_a (by omega)).trans ((zu_a (by omega)).trans hm)]
      rw [show zu σ (a + 1) (m : Int) (r : Int) 44 (r : Int) = σ 44 (r : Int) from zu_a (by omega)]
      rw [w32_id (x := (m : Int) + 1) (by omega) (by omega)]
      generalize hs : zu (zu (zu σ (a + 1) (m : Int) (r : Int)) (a + 2) (m : Int) (σ 44 (r : Int))) a 2 ((m : Int) + 1) = s1
      have q : ∀ b j, b ≠ a + 1 → b ≠ a + 2 → (b ≠ a ∨ j ≠ 2) → s1 b j = σ b j := fun b j h1 h2 h3 => by
        rw [← hs, zu_c h3, zu_a h2, zu_a h1]
      have q1 : ∀ j : Int, s1 (a + 1) j = if j = (m : Int) then (r : Int) else σ (a + 1) j := fun j => by
        rw [← hs, zu_a (by omega), zu_a (by omega)]
        by_cases cj : j = (m : Int)
        · rw [zu_e cj, if_pos cj]
        · rw [zu_i cj, if_neg cj]
      have q2 : ∀ j : Int, s1 (a + 2) j = if j = (m : Int) then σ 44 (r : Int) else σ (a + 2) j := fun j => by
        rw [← hs, zu_a (by omega)]
        by_cases cj : j = (m : Int)
        · rw [zu_e cj, if_pos cj]
        · rw [zu_i cj, if_neg cj, zu_a (by omega)]
      have qm : s1 a 2 = ((m + 1 : Nat) : Int) := by
        rw [← hs, zu_e rfl]
        omega
      unfold g_fi_gather_L89
      rw [ek]
      refine (p_gath8 ha hP hC2 n (k + 1) (m + 1) s1 (by rw [q 41 4 (by omega) (by omega) (by omega)]; exact hC) (by omega) qm (fun j hj => by rw [q 45 _ (by omega) (by omega) (by omega)]; exact hv j hj)).imp (fun _ s p => ?_)
      obtain ⟨p1, d, p2, p3, p4, p5⟩ := p
      have e45 : sg (s1 45) ((k + 1 : Nat) : Int) (C - (k + 1)) = sg (σ 45) ((k + 1 : Nat) : Int) (C - (k + 1)) := sg_ext _ _ _ (fun j _ => q 45 _ (by omega) (by omega) (by omega))
      have e1 : sg (s1 (a + 1)) 0 (m + 1) = sg (σ (a + 1)) 0 m ++ [(r : Int)] := by
        rw [sg_snoc, q1, if_pos (by omega)]
        rw [sg_ext (f := s1 (a + 1)) (g := σ (a + 1)) m 0 0 (fun j hj => by rw [q1, if_neg (by omega)])]
      refine ⟨fun b j h1 h2 h3 => (p1 b j h1 h2 h3).trans (q b j h1 h2 h3), d + 1, by rw [p2]; omega, ?_, fun j hj => ?_, fun j j1 j2 => ?_⟩
      · rw [show m + (d + 1) = m + 1 + d by omega, p3, e1, step, e45, List.filter_cons_of_pos hb, List.append_assoc]
        rfl
      · rw [p4 j (by omega), q2, if_neg (by omega)]
      · by_cases cj : j = m
        · subst cj
          have e2 : s (a + 1) (j : Int) = (r : Int) := by
            have h := congrArg (fun l => l.getD j 0) p3
            try dsimp only at h
            rw [sg_get _ _ _ (by omega), show (0 : Int) + (j : Int) = (j : Int) by omega] at h
            rw [h, e1]
            have hl := sg_len (σ (a + 1)) j 0
            rw [List.append_assoc, List.getD_eq_getElem?_getD, List.getElem?_append_right (by omega), hl, Nat.sub_self]
            rfl
          rw [e2, p4 j (by omega), q2, if_pos rfl]
        · rw [p5 j (by omega) (by omega)]
          exact q 44 _ (by omega) (by omega) (by omega)
theorem p_gather {a : Nat} (ha : a = 60 ∨ a = 70) {rows : Int} {P : Int → Bool} (hP : ∀ q : Nat, q < 60 → bq rows q = P (q : Int)) {σ : zS} (h4 : 0 ≤ σ 41 4 ∧ σ 41 4 ≤ 60) (hv : ∀ j : Nat, (j : Int) < σ 41 4 → 0 ≤ σ 45 (j : Int) ∧ σ 45 (j : Int) < 60) : zP' (g_fi_gather a rows σ) (fun _ s => (∀ b j, b ≠ a + 1 → b ≠ a + 2 → (b ≠ a ∨ j ≠ 2) → s b j = σ b j) ∧ ∃ d : Nat, s a 2 = (d : Int) ∧ sg (s (a + 1)) 0 d = (ordL σ 41).filter P ∧ ∀ j : Nat, j < d → s (a + 2) (j : Int) = σ 44 (s (a + 1) (j : Int))) := by
  obtain ⟨C, hC⟩ : ∃ C : Nat, σ 41 4 = (C : Int) := ⟨(σ 41 4).toNat, by omega⟩
  unfold g_fi_gather
  try dsimp +instances only
  have q : ∀ b j, (b ≠ a ∨ j ≠ 2) → zu σ a 2 0 b j = σ b j := fun b j h => zu_c h
  refine (p_gath8 ha hP (C := C) (by omega) zK 0 0 (zu σ a 2 0) (by rw [q 41 4 (by omega)]; exact hC) (Nat.zero_le _) (zu_e rfl) (fun j hj => by rw [q 45 _ (by omega)]; exact hv j (by omega))).imp (fun _ s p => ?_)
  obtain ⟨p1, d, p2, p3, p4, p5⟩ := p
  refine ⟨fun b j h1 h2 h3 => (p1 b j h1 h2 h3).trans (q b j h3), d, by rw [p2]; omega, ?_, fun j hj => by rw [p5 j (by omega) (by omega), q 44 _ (by omega)]⟩
  rw [Nat.zero_add] at p3
  rw [p3]
  show [] ++ (sg (zu σ a 2 0 45) ((0 : Nat) : Int) (C - 0)).filter P = (sg (σ 45) 0 (σ 41 4).toNat).filter P
  rw [List.nil_append, hC, show ((C : Int)).toNat = C by omega, Nat.sub_zero]
  rw [sg_ext (f := zu σ a 2 0 45) (g := σ 45) C ((0 : Nat) : Int) 0 (fun j _ => q 45 _ (by omega))]
end
section
/-! 63e.gath -/
/-! THE REFERENCE gathers: the rows of a box that a test holds for, by their order -/
def oF (σ : zS) (m : Nat) (v : Int) : Int := 32 * σ m (21 + 3 * v) + σ m (22 + 3 * v)
def KR (σ : zS) (m : Nat) (v : Int) : Int := (σ m (21 + 3 * v) * 32 + σ m (22 + 3 * v)) * 60 + v
def selR (σ : zS) (m : Nat) (B : Bx) (T : Int → Bool) (v : Int) : Prop := ∃ q : Nat, q < 60 ∧ v = (q : Int) ∧ σ m (20 + 3 * (q : Int)) ≠ 0 ∧ bIn B (σ m (21 + 3 * (q : Int))) (σ m (22 + 3 * (q : Int))) ∧ T (q : Int) = true
def plR (σ : zS) : Prop := ∀ r : Nat, r < 60 → (0 ≤ σ 144 (21 + 3 * (r : Int)) ∧ σ 144 (21 + 3 * (r : Int)) ≤ 31) ∧ (0 ≤ σ 144 (22 + 3 * (r : Int)) ∧ σ 144 (22 + 3 * (r : Int)) ≤ 31)
theorem t_orderOf {v : Int} {σ : zS} (hp : plR σ) (h1 : 0 ≤ v) (h2 : v < 60) : g_m_orderOf v σ = some (oF σ 144 v, σ) := by
  obtain ⟨q, rfl⟩ : ∃ q : Nat, v = (q : Int) := ⟨v.toNat, by omega⟩
  have hb := hp q (by omega)
  rw [s_orderOf h1 h2, w32_id (x := 32 * σ 144 (21 + 3 * (q : Int))) (by omega) (by omega), w32_id (by omega) (by omega)]
  rfl
theorem t_g90 {a : Nat} {g : Int → Int → Int → zS → Option (Unit × zS)} {i t r : Int} {m : Nat} (hr : vRow r) (hm2 : m < 60) : ∀ (k n : Nat) (s : zS), k < n → k ≤ m → plR s → s 143 14 = (m : Int) → (∀ j : Nat, j < k → vRow (s 154 (j : Int))) → ∃ s', g_m_gathers_L90 a g n i t r (k : Int) s = g i t (r + 1) s' ∧ s' 143 14 = ((m + 1 : Nat) : Int) ∧ frG s s' ∧ ∃ p : Nat, p ≤ k ∧ (∀ j : Nat, j < p → s' 154 (j : Int) = s 154 (j : Int)) ∧ s' 154 (p : Int) = r ∧ (∀ j : Nat, p ≤ j → j < k → s' 154 ((j : Int) + 1) = s 154 (j : Int)) ∧ (∀ j : Int, (k : Int) < j → s' 154 j = s 154 j) ∧ (∀ j : Nat, p ≤ j → j < k → oF s 144 r < oF s 144 (s 154 (j : Int))) ∧ (p = 0 ∨ oF s 144 (s 154 ((p : Int) - 1)) ≤ oF s 144 r)
  | _, 0, _, h, _, _, _, _ => absurd h (Nat.not_lt_zero _)
  | k, n + 1, s, hn, hk, hp, hm, hv => by
    have hr' := hr
    unfold vRow at hr'
    have fin : (k = 0 ∨ oF s 144 (s 154 ((k : Int) - 1)) ≤ oF s 144 r) → ∃ s', g_m_gathers_L139 a g i t r (k : Int) s = g i t (r + 1) s' ∧ s' 143 14 = ((m + 1 : Nat) : Int) ∧ frG s s' ∧ ∃ p : Nat, p ≤ k ∧ (∀ j : Nat, j < p → s' 154 (j : Int) = s 154 (j : Int)) ∧ s' 154 (p : Int) = r ∧ (∀ j : Nat, p ≤ j → j < k → s' 154 ((j : Int) + 1) = s 154 (j : Int)) ∧ (∀ j : Int, (k : Int) < j → s' 154 j = s 154 j) ∧ (∀ j : Nat, p ≤ j → j < k → oF s 144 r < oF s 144 (s 154 (j : Int))) ∧ (p = 0 ∨ oF s 144 (s 154 ((p : Int) - 1)) ≤ oF s 144 r) := fun h => by
      refine ⟨zu (zu s 154 (k : Int) r) 143 14 ((m : Int) + 1), ?_, ?_, fun b j h1 h2 h3 => ?_, k, Nat.le_refl _, fun j hj => ?_, ?_, fun j j1 j2 => absurd j2 (by omega), fun j hj => ?_, fun j j1 j2 => absurd j2 (by omega), h⟩
      · unfold g_m_gathers_L139 g_m_gathers_L158
        rw [if_pos (by omega)]
        simp only [zu_a (show (143 : Nat) ≠ 154 by decide), hm]
        rw [w32_id (x := (m : Int) + 1) (by omega) (by omega), w32_id (x := r + 1) (by omega) (by omega)]
      · rw [zu_e rfl]; omega
      · rw [zu_c (by omega), zu_a h2]
      · rw [zu_a (by decide), zu_i (by omega)]
      · rw [zu_a (by decide), zu_e rfl]
      · rw [zu_a (by decide), zu_i (by omega)]
    unfold g_m_gathers_L90
    by_cases c : k = 0
    · subst c
      rw [if_pos (by omega)]
      exact fin (Or.inl rfl)
    · obtain ⟨k, rfl⟩ : ∃ k', k = k' + 1 := ⟨k - 1, by omega⟩
      have hv1 := hv k (by omega)
      have hv1' := hv1
      unfold vRow at hv1'
      rw [if_neg (by omega), w32_id (x := ((k + 1 : Nat) : Int) - 1) (by omega) (by omega), if_pos (by omega), show ((k + 1 : Nat) : Int) - 1 = (k : Int) by omega]
      rw [show ((k + 1 : Nat) : Int) - 1 = (k : Int) by omega] at fin
      show ∃ s', (g_m_orderOf (s 154 (k : Int)) s).bind _ = _ ∧ _
      rw [t_orderOf hp hv1'.1 hv1'.2]
      rw [Option.bind_some]
      try dsimp only
      rw [t_orderOf hp hr'.1 hr'.2]
      rw [Option.bind_some]
      try dsimp only
      by_cases c2 : oF s 144 (s 154 (k : Int)) ≤ oF s 144 r
      · rw [if_pos c2]
        exact fin (Or.inr c2)
      · rw [if_neg c2, if_pos (by omega), if_pos (by omega)]
        generalize hs : zu s 154 ((k + 1 : Nat) : Int) (s 154 (k : Int)) = s1
        have q : ∀ b j, (b ≠ 154 ∨ j ≠ ((k + 1 : Nat) : Int)) → s1 b j = s b j := fun b j h => by rw [← hs]; exact zu_c h
        have qk : s1 154 ((k + 1 : Nat) : Int) = s 154 (k : Int) := by rw [← hs]; exact zu_e rfl
        have qo : ∀ v, oF s1 144 v = oF s 144 v := fun v => by
          unfold oF
          rw [q 144 _ (Or.inl (by decide)), q 144 _ (Or.inl (by decide))]
        have hp1 : plR s1 := fun r hr => by
          rw [q 144 _ (Or.inl (by decide)), q 144 _ (Or.inl (by decide))]
          exact hp r hr
        obtain ⟨s', e1, e2, e3, p, p0, p1, p2, p3, p4, p5, p6⟩ := t_g90 (a := a) (g := g) (i := i) (t := t) hr hm2 k n s1 (by omega) (by omega) hp1 (by rw [q 143 14 (Or.inl (by decide))]; exact hm) (fun j hj => by rw [q 154 _ (Or.inr (by omega))]; exact hv j (by omega))
        refine ⟨s', e1, e2, fun b j h1 h2 h3 => (e3 b j h1 h2 h3).trans (q b j (Or.inl h2)), p, by omega, fun j hj => by rw [p1 j hj, q 154 _ (Or.inr (by omega))], p2, fun j j1 j2 => ?_, fun j hj => by rw [p4 j (by omega), q 154 _ (Or.inr (by omega))], fun j j1 j2 => ?_, ?_⟩
        · by_cases cj : j = k
          · subst cj
            rw [p4 ((j : Int) + 1) (by omega), show (j : Int) + 1 = ((j + 1 : Nat) : Int) by omega]
            exact qk
          · rw [p3 j j1 (by omega), q 154 _ (Or.inr (by omega))]
        · by_cases cj : j = k
          · subst cj; omega
          · have e := p5 j j1 (by omega)
            rw [qo, qo, q 154 _ (Or.inr (by omega))] at e
            exact e
        · rcases p6 with h | h
          · exact Or.inl h
          · by_cases cp : p = 0
            · exact Or.inl cp
            · rw [qo, qo, q 154 _ (Or.inr (by omega))] at h
              exact Or.inr h
/-- a test told: it comes to T of the row, and writes nothing but where it reads -/
def tstT (σ : zS) (t : Int) (T : Int → Bool) : Prop := (t < 0 ∧ ∀ r, T r = true) ∨ (¬ t < 0 ∧ ∀ s : zS, frG σ s → ∀ r : Int, 0 ≤ r → r < 60 → ∃ b s', g_grp231 zR 231 r (zu s 143 21 t) = some (b, s') ∧ (b ≠ 0 ↔ T r = true) ∧ ∀ a j, (a ≠ 143 ∨ (j ≠ 21 ∧ j ≠ 22 ∧ j ≠ 23)) → s' a j = s a j)
theorem tstT.no (σ : zS) : tstT σ (-1) (fun _ => true) := Or.inl ⟨by decide, fun _ => rfl⟩
theorem t_g8 {a : Nat} {i t : Int} {σ : zS} {T : Int → Bool} {B : Bx} (h1 : 0 ≤ i) (h2 : i + 3 < zLI a) (h3 : zLI a ≤ 100000) (h4 : a ≠ 143) (h5 : a ≠ 154) (h6 : a ≠ 155) (hB : bxA σ a i = B) (hp : plR σ) (ht : tstT σ t T) : ∀ (d k n m : Nat) (s : zS), k + d = 60 → d < n → m ≤ k → frG σ s → s 143 14 = (m : Int) → (sg (s 154) 0 m).Pairwise (fun a b => KR σ 144 a < KR σ 144 b) → (∀ v, v ∈ sg (s 154) 0 m ↔ selR σ 144 B T v ∧ v < (k : Int)) → ∃ s' m', g_m_gathers_L8 a n i t (k : Int) s = g_m_gathers_L167 a zK 0 s' ∧ m' ≤ 60 ∧ frG σ s' ∧ s' 143 14 = ((m' : Nat) : Int) ∧ SL (KR σ 144) (selR σ 144 B T) (sg (s' 154) 0 m')
  | _, _, 0, _, _, _, h, _, _, _, _, _ => absurd h (Nat.not_lt_zero _)
  | 0, k, n + 1, m, s, hk, _, hmk, hf, hm, hpw, hmem => by
    refine ⟨s, m, ?_, by omega, hf, hm, hpw, fun v => ?_⟩
    · unfold g_m_gathers_L8
      rw [if_pos (by omega)]
    · rw [hmem v]
      constructor
      · exact fun h => h.1
      · intro h
        refine ⟨h, ?_⟩
        obtain ⟨q, q1, q2, -⟩ := h
        omega
  | d + 1, k, n + 1, m, s, hk, hn, hmk, hf, hm, hpw, hmem => by
    have ek : ((k + 1 : Nat) : Int) = (k : Int) + 1 := by omega
    have c144 : ∀ j, s 144 j = σ 144 j := fun j => hf 144 j (Or.inl (by decide)) (by decide) (by decide)
    have skip : ∀ s2 : zS, frG s s2 → s2 143 14 = (m : Int) → (∀ j, s2 154 j = s 154 j) → ¬ selR σ 144 B T (k : Int) → ∃ s' m', g_m_gathers_L158 a (g_m_gathers_L8 a n) i t (k : Int) s2 = g_m_gathers_L167 a zK 0 s' ∧ m' ≤ 60 ∧ frG σ s' ∧ s' 143 14 = ((m' : Nat) : Int) ∧ SL (KR σ 144) (selR σ 144 B T) (sg (s' 154) 0 m') := by
      intro s2 g1 g2 g3 g4
      unfold g_m_gathers_L158
      rw [w32_id (x := (k : Int) + 1) (by omega) (by omega), ← ek]
      have e : sg (s2 154) 0 m = sg (s 154) 0 m := sg_ext m 0 0 (fun j _ => g3 _)
      refine t_g8 h1 h2 h3 h4 h5 h6 hB hp ht d (k + 1) n m s2 (by omega) (by omega) (by omega) (hf.trans g1) g2 (by rw [e]; exact hpw) (fun v => ?_)
      rw [e, hmem v]
      constructor
      · exact fun h => ⟨h.1, by omega⟩
      · intro h
        refine ⟨h.1, ?_⟩
        have hne : v ≠ (k : Int) := fun e => g4 (e ▸ h.1)
        omega
    have take : ∀ s2 : zS, frG s s2 → s2 143 14 = (m : Int) → (∀ j, s2 154 j = s 154 j) → selR σ 144 B T (k : Int) → ∃ s' m', g_m_gathers_L84 a (g_m_gathers_L8 a n) i t (k : Int) s2 = g_m_gathers_L167 a zK 0 s' ∧ m' ≤ 60 ∧ frG σ s' ∧ s' 143 14 = ((m' : Nat) : Int) ∧ SL (KR σ 144) (selR σ 144 B T) (sg (s' 154) 0 m') := by
      intro s2 g1 g2 g3 g4
      unfold g_m_gathers_L84
      show ∃ s' m', g_m_gathers_L90 a (g_m_gathers_L8 a n) zK i t (k : Int) (s2 143 14) s2 = _ ∧ _
      rw [g2]
      have d144 : ∀ j, s2 144 j = σ 144 j := fun j => (g1 144 j (Or.inl (by decide)) (by decide) (by decide)).trans (c144 j)
      have eO : ∀ v, oF s2 144 v = oF σ 144 v := fun v => by
        unfold oF
        rw [d144, d144]
      have old : ∀ j : Nat, j < m → ∃ q : Nat, q < 60 ∧ s 154 (j : Int) = (q : Int) ∧ q < k := fun j hj => by
        obtain ⟨⟨q, q1, q2, -⟩, q3⟩ := (hmem (s 154 (j : Int))).mp ((sg_mem m 0).mpr ⟨j, hj, by rw [show (0 : Int) + (j : Int) = (j : Int) by omega]⟩)
        exact ⟨q, q1, q2, by omega⟩
      obtain ⟨s3, e1, e2, e4, p, p0, p1, p2, p3, p4, p5, p6⟩ := t_g90 (a := a) (g := g_m_gathers_L8 a n) (i := i) (t := t) (r := (k : Int)) (m := m) (show 0 ≤ (k : Int) ∧ (k : Int) < 60 by omega) (by omega) m zK s2 (by show _ < 1000000; omega) (Nat.le_refl _) (fun r hr => by rw [d144, d144]; exact hp r hr) g2 (fun j hj => by
        rw [g3]
        obtain ⟨q, q1, q2, -⟩ := old j hj
        show 0 ≤ _ ∧ _ < 60
        omega)
      rw [e1, ← ek]
      have kv : ∀ v, KR σ 144 v = oF σ 144 v * 60 + v := fun v => by
        unfold KR oF
        omega
      have low : ∀ j : Nat, j < p → KR σ 144 (s2 154 (j : Int)) < KR σ 144 (k : Int) := fun j hj => by
        have hp0 : p ≠ 0 := by omega
        have h6 := p6.resolve_left hp0
        rw [eO, eO, g3] at h6
        obtain ⟨q, q1, q2, q3⟩ := old (p - 1) (by omega)
        rw [show ((p - 1 : Nat) : Int) = (p : Int) - 1 by omega] at q2
        have hl : KR σ 144 (s 154 (j : Int)) ≤ KR σ 144 (s 154 ((p : Int) - 1)) := by
          by_cases cj : j + 1 = p
          · rw [show (p : Int) - 1 = (j : Int) by omega]; omega
          · have h := (sg_pw m 0).mp hpw j (p - 1) (by omega) (by omega)
            rw [show (0 : Int) + (j : Int) = (j : Int) by omega, show (0 : Int) + ((p - 1 : Nat) : Int) = (p : Int) - 1 by omega] at h
            omega
        rw [g3]
        rw [kv (s 154 ((p : Int) - 1))] at hl
        rw [kv (k : Int)]
        omega
      obtain ⟨n1, n2⟩ := ins_SL (K := KR σ 144) (f := s2 154) (h := s3 154) (n := m) (p := p) (r := (k : Int)) p0 p1 p2 p3 low (fun j j1 j2 => by
        have h := p5 j j1 j2
        rw [eO, eO] at h
        obtain ⟨q, q1, q2, q3⟩ := old j j2
        rw [g3] at h
        rw [kv, kv, g3]
        omega) (by rw [sg_ext (f := s2 154) (g := s 154) m 0 0 (fun j _ => g3 _)]; exact hpw)
      refine t_g8 h1 h2 h3 h4 h5 h6 hB hp ht d (k + 1) n (m + 1) s3 (by omega) (by omega) (by omega) (hf.trans (g1.trans e4)) e2 n1 (fun v => ?_)
      rw [n2 v, sg_ext (f := s2 154) (g := s 154) m 0 0 (fun j _ => g3 _), hmem v]
      constructor
      · rintro (h | h)
        · subst h
          exact ⟨g4, by omega⟩
        · exact ⟨h.1, by omega⟩
      · intro h
        by_cases cv : v = (k : Int)
        · exact Or.inl cv
        · exact Or.inr ⟨h.1, by omega⟩
    have selk : selR σ 144 B T (k : Int) ↔ σ 144 (20 + 3 * (k : Int)) ≠ 0 ∧ bIn B (σ 144 (21 + 3 * (k : Int))) (σ 144 (22 + 3 * (k : Int))) ∧ T (k : Int) = true := by
      constructor
      · rintro ⟨q, -, q2, q3⟩
        have : q = k := by omega
        subst this
        exact q3
      · exact fun h => ⟨k, by omega, rfl, h⟩
    unfold g_m_gathers_L8
    rw [if_neg (by omega), s_rowAt (by omega) (by omega)]
    rw [Option.bind_some]
    try dsimp only
    rw [if_pos (by omega)]
    by_cases c0 : s 144 (20 + 3 * (k : Int)) = 0
    · rw [if_pos c0]
      exact skip s (frG.refl s) hm (fun _ => rfl) (fun h => by rw [selk, ← c144] at h; exact h.1 c0)
    · rw [if_neg c0, s_rowAt (by omega) (by omega), Option.bind_some]
      dsimp only
      rw [w32_id (x := 20 + 3 * (k : Int) + 1) (by omega) (by omega), if_pos (by omega), s_rowAt (by omega) (by omega), Option.bind_some]
      dsimp only
      rw [w32_id (x := 20 + 3 * (k : Int) + 2) (by omega) (by omega), if_pos (by omega), s_has h1 h2 h3]
      rw [Option.bind_some]
      try dsimp only
      have eB : bxA s a i = B := by rw [hf.bx h4 h5 h6]; exact hB
      rw [show 20 + 3 * (k : Int) + 1 = 21 + 3 * (k : Int) by omega, show 20 + 3 * (k : Int) + 2 = 22 + 3 * (k : Int) by omega, eB]
      rw [c144] at c0
      simp only [c144]
      by_cases c : bIn B (σ 144 (21 + 3 * (k : Int))) (σ 144 (22 + 3 * (k : Int)))
      · rw [if_pos c, if_pos (by decide)]
        have fz : frG s (zu s 143 21 t) := fun b j k1 k2 k3 => zu_c (by omega)
        rcases ht with ⟨ht, hT⟩ | ⟨ht, hT⟩
        · rw [if_pos ht]
          exact take _ fz (by rw [zu_i (by decide)]; exact hm) (fun j => zu_a (by decide)) (selk.mpr ⟨c0, c, hT _⟩)
        · rw [if_neg ht]
          obtain ⟨b, s', e1, e2, e3⟩ := hT s hf (k : Int) (by omega) (by omega)
          rw [e1]
          rw [Option.bind_some]
          try dsimp only
          have fs : frG s s' := fun x j k1 k2 k3 => e3 x j (by omega)
          have m1 : s' 143 14 = (m : Int) := by rw [e3 143 14 (by omega)]; exact hm
          have v1 : ∀ j, s' 154 j = s 154 j := fun j => e3 154 j (Or.inl (by decide))
          by_cases cb : b ≠ 0
          · rw [if_pos cb]
            exact take s' fs m1 v1 (selk.mpr ⟨c0, c, e2.mp cb⟩)
          · rw [if_neg cb]
            exact skip s' fs m1 v1 (fun h => cb (e2.mpr (selk.mp h).2.2))
      · rw [if_neg c, if_neg (by decide)]
        exact skip s (frG.refl s) hm (fun _ => rfl) (fun h => c (selk.mp h).2.1)
theorem t_g167 {a : Nat} {m : Nat} (hm2 : m ≤ 60) : ∀ (d k n : Nat) (s : zS), k + d = m → d < n → s 143 14 = (m : Int) → (∀ j : Nat, j < m → vRow (s 154 (j : Int))) → ∃ s', g_m_gathers_L167 a n (k : Int) s = some ((), s') ∧ (∀ x j, x ≠ 155 → s' x j = s x j) ∧ (∀ j : Nat, j < k → s' 155 (j : Int) = s 155 (j : Int)) ∧ ∀ j : Nat, k ≤ j → j < m → s' 155 (j : Int) = s 147 (1 + s 154 (j : Int))
  | _, _, 0, _, _, h, _, _ => absurd h (Nat.not_lt_zero _)
  | 0, k, n + 1, s, hk, _, hm, _ => by
    refine ⟨s, ?_, fun _ _ _ => rfl, fun _ _ => rfl, fun j h1 h2 => absurd h2 (by omega)⟩
    unfold g_m_gathers_L167
    simp only [hm]
    rw [if_pos (by omega)]
  | d + 1, k, n + 1, s, hk, hn, hm, hv => by
    have hv1 := hv k (by omega)
    unfold vRow at hv1
    obtain ⟨s', e1, e2, e3, e4⟩ := t_g167 (a := a) hm2 d (k + 1) n (zu s 155 (k : Int) (s 147 (1 + s 154 (k : Int)))) (by omega) (by omega) (by rw [zu_a (by decide)]; exact hm) (fun j hj => by rw [zu_a (by decide)]; exact hv j hj)
    refine ⟨s', ?_, fun x j hx => (e2 x j hx).trans (zu_a hx), fun j hj => by rw [e3 j (by omega), zu_i (by omega)], fun j j1 j2 => ?_⟩
    · unfold g_m_gathers_L167
      simp only [hm]
      rw [if_neg (by omega), if_pos (by omega), w32_id (x := 1 + s 154 (k : Int)) (by omega) (by omega), if_pos (by omega), if_pos (by omega), w32_id (x := (k : Int) + 1) (by omega) (by omega)]
      rw [show ((k + 1 : Nat) : Int) = (k : Int) + 1 by omega] at e1
      exact e1
    · by_cases cj : j = k
      · subst cj
        rw [e3 j (by omega), zu_e rfl]
      · rw [e4 j (by omega) j2, zu_a (by decide), zu_a (by decide)]
theorem t_gathers {a : Nat} {i t : Int} {σ : zS} {T : Int → Bool} {B : Bx} (h1 : 0 ≤ i) (h2 : i + 3 < zLI a) (h3 : zLI a ≤ 100000) (h4 : a ≠ 143) (h5 : a ≠ 154) (h6 : a ≠ 155) (hB : bxA σ a i = B) (hp : plR σ) (ht : tstT σ t T) : ∃ s m, g_m_gathers a i t σ = some ((), s) ∧ m ≤ 60 ∧ frG σ s ∧ s 143 14 = ((m : Nat) : Int) ∧ SL (KR σ 144) (selR σ 144 B T) (sg (s 154) 0 m) ∧ ∀ j : Nat, j < m → s 155 (j : Int) = σ 147 (1 + s 154 (j : Int)) := by
  have fz : frG σ (zu σ 143 14 0) := fun b j k1 k2 k3 => zu_c (by omega)
  obtain ⟨s1, m, e1, e2, e3, e4, e5⟩ := t_g8 (a := a) (i := i) (t := t) (σ := σ) h1 h2 h3 h4 h5 h6 hB hp ht 60 0 zK 0 (zu σ 143 14 0) (by omega) (by show _ < 1000000; omega) (Nat.le_refl _) fz (zu_e rfl) List.Pairwise.nil (fun v => ⟨fun h => absurd h List.not_mem_nil, fun h => by
    obtain ⟨⟨q, -, q2, -⟩, q3⟩ := h
    omega⟩)
  have vr : ∀ j : Nat, j < m → vRow (s1 154 (j : Int)) := fun j hj => by
    obtain ⟨q, q1, q2, -⟩ := (e5.2 (s1 154 (j : Int))).mp ((sg_mem m 0).mpr ⟨j, hj, by rw [show (0 : Int) + (j : Int) = (j : Int) by omega]⟩)
    show 0 ≤ _ ∧ _ < 60
    omega
  obtain ⟨s2, f1, f2, -, f4⟩ := t_g167 (a := a) e2 m 0 zK s1 (by omega) (by show _ < 1000000; omega) e4 vr
  refine ⟨s2, m, ?_, e2, e3.trans (fun b j _ _ k3 => f2 b j k3), by rw [f2 143 14 (by decide)]; exact e4, ?_, fun j hj => ?_⟩
  · unfold g_m_gathers
    exact e1.trans f1
  · rw [sg_ext (f := s2 154) (g := s1 154) m 0 0 (fun j _ => f2 154 _ (by decide))]
    exact e5
  · rw [f4 j (Nat.zero_le _) hj, f2 154 _ (by decide), e3 147 _ (Or.inl (by decide)) (by decide) (by decide)]
end
section
/-! 63f.vals -/
/-! VALUES: a measure of a box's rows, of the class's and of the reference's cells -/
def liC (σ : zS) (c : Nat) (B : Bx) : List Int := (ordL σ c).filter (fun v => decide (bIn B (σ (c + 1) v) (σ (c + 2) v)))
def valC (σ : zS) (c : Nat) (B : Bx) (ms : Int) : Int := msF (fun j => σ (c + 3) ((liC σ c B).getD j.toNat 0)) (liC σ c B).length ms
theorem valC_E {σ s : zS} {B : Bx} {ms : Int} (e : stE σ s) : valC s 41 B ms = valC σ 41 B ms := by
  have e42 : s 42 = σ 42 := funext (fun j => e 42 j (by unfold stK; omega))
  have e43 : s 43 = σ 43 := funext (fun j => e 43 j (by unfold stK; omega))
  have e44 : s 44 = σ 44 := funext (fun j => e 44 j (by unfold stK; omega))
  have e45 : s 45 = σ 45 := funext (fun j => e 45 j (by unfold stK; omega))
  have e4 : s 41 4 = σ 41 4 := e 41 4 (by unfold stK; omega)
  have el : liC s 41 B = liC σ 41 B := by
    show (sg (s 45) 0 (s 41 4).toNat).filter (fun v => decide (bIn B (s 42 v) (s 43 v))) = (sg (σ 45) 0 (σ 41 4).toNat).filter (fun v => decide (bIn B (σ 42 v) (σ 43 v)))
    rw [e42, e43, e45, e4]
  show msF (fun j => s 44 ((liC s 41 B).getD j.toNat 0)) (liC s 41 B).length ms = msF (fun j => σ 44 ((liC σ 41 B).getD j.toNat 0)) (liC σ 41 B).length ms
  rw [e44, el]
theorem liC_mem {σ : zS} {I : Nat → Bool} (S : ST σ 41 I) {B : Bx} {v : Int} (h : v ∈ liC σ 41 B) : 0 ≤ v ∧ v < 60 := by
  obtain ⟨q, e, hq⟩ := (S.2.2.2 v).mp (List.mem_filter.mp h).1
  have := S.1 q hq
  omega
theorem getD_mem {L : List Int} {j : Nat} (h : j < L.length) : L.getD j 0 ∈ L := by
  rw [List.getD_eq_getElem?_getD, List.getElem?_eq_getElem h]
  exact List.getElem_mem h
/-- the class gathers a box's rows and measures them -/
theorem p_fiMeas {a : Nat} (ha : a = 60 ∨ a = 70) {σ : zS} {I : Nat → Bool} {B : Bx} {ms rows : Int} (H : CI σ) (S : ST σ 41 I) (hms : 0 ≤ ms ∧ ms ≤ 6) (ok : ∀ r : Nat, r < 60 → okL (σ 44 (r : Int))) (hr : ∀ q : Nat, q < 60 → bq rows q = (I q && decide (bIn B (σ 42 (q : Int)) (σ 43 (q : Int))))) : zP' (g_fi_gather a rows σ) (fun _ s => (∀ b j, b ≠ a + 1 → b ≠ a + 2 → (b ≠ a ∨ j ≠ 2) → s b j = σ b j) ∧ s a 2 = ((liC σ 41 B).length : Int) ∧ sg (s (a + 1)) 0 (liC σ 41 B).length = liC σ 41 B ∧ (∀ j : Nat, j < (liC σ 41 B).length → s (a + 2) (j : Int) = σ 44 ((liC σ 41 B).getD j 0)) ∧ zP' (g_fi_measured a ms s) (fun v t => t = s ∧ v = valC σ 41 B ms)) := by
  have h4 := CI.c4 (a := 41) H (by omega)
  refine (p_gather ha (P := fun v => I v.toNat && decide (bIn B (σ 42 v) (σ 43 v))) (rows := rows) (σ := σ) (fun q hq => by
    rw [hr q hq]
    try dsimp only
    rw [show ((q : Nat) : Int).toNat = q by omega]) h4 (ST_val S)).imp (fun _ s p => ?_)
  obtain ⟨p1, d, p2, p3, p4⟩ := p
  have eL : (ordL σ 41).filter (fun v => I v.toNat && decide (bIn B (σ 42 v) (σ 43 v))) = liC σ 41 B := by
    unfold liC
    refine List.filter_congr (fun v hv => ?_)
    obtain ⟨q, e, hq⟩ := (S.2.2.2 v).mp hv
    subst e
    rw [show ((q : Nat) : Int).toNat = q by omega, hq, Bool.true_and]
  rw [eL] at p3
  have hd : d = (liC σ 41 B).length := by rw [← p3, sg_len]
  have hl : d ≤ 60 := by
    have h1 := List.length_filter_le (fun v => decide (bIn B (σ (41 + 1) v) (σ (41 + 2) v))) (ordL σ 41)
    have h2 : (ordL σ 41).length = (σ 41 4).toNat := sg_len _ _ _
    unfold liC at hd
    omega
  have cell : ∀ j : Nat, j < d → s (a + 1) (j : Int) = (liC σ 41 B).getD j 0 := fun j hj => by
    rw [← p3, sg_get d 0 j hj, show (0 : Int) + (j : Int) = (j : Int) by omega]
  have wc : ∀ j : Nat, j < d → s (a + 2) (j : Int) = σ 44 ((liC σ 41 B).getD j 0) := fun j hj => by rw [p4 j hj, cell j hj]
  have okd : ∀ j : Nat, j < d → okL (s (a + 2) (j : Int)) := fun j hj => by
    rw [wc j hj]
    have hm := liC_mem S (getD_mem (L := liC σ 41 B) (j := j) (by omega))
    have h := ok ((liC σ 41 B).getD j 0).toNat (by omega)
    rw [show ((((liC σ 41 B).getD j 0).toNat : Nat) : Int) = (liC σ 41 B).getD j 0 by omega] at h
    exact h
  refine ⟨p1, by rw [p2, hd], by rw [← hd]; exact p3, fun j hj => wc j (by omega), ?_⟩
  refine (p_measured p2 hl hms okd).imp (fun v t q => ⟨q.1, ?_⟩)
  rw [q.2]
  unfold valC
  rw [← hd]
  exact msF_ext (fun j hj => by
    rw [wc j hj]
    rfl)
theorem p_valueOf {σ : zS} {I : Nat → Bool} {B : Bx} {k : Int} (H : CI σ) (S : ST σ 41 I) (hk : 0 ≤ k ∧ k < σ 65 5) (hb : bOk B) (eB : σ 67 k = enc B) (hms : 0 ≤ σ 66 k ∧ σ 66 k ≤ 6) (ok : ∀ r : Nat, r < 60 → okL (σ 44 (r : Int))) : zP' (g_wa_valueOf k σ) (fun v s => v = valC σ 41 B (σ 66 k) ∧ ∀ b j, b ≠ 71 → b ≠ 72 → (b ≠ 70 ∨ j ≠ 2) → s b j = σ b j) := by
  have hw := CI.cw (a := 65) H (by omega)
  unfold g_wa_valueOf g_wa_has
  try dsimp +instances only
  rw [if_neg (by omega), if_neg (by omega), if_neg (by omega)]
  rw [Option.bind_some]
  try dsimp +instances only
  rw [if_pos (by decide), if_pos (by omega)]
  rw [eB]
  obtain ⟨rows, e1, e2⟩ := p_rowsIn (σ := σ) (b := B) S.2.1 hb
  rw [e1]
  rw [Option.bind_some]
  try dsimp +instances only
  refine zP'.bind (p_fiMeas (a := 70) (by omega) (B := B) H S hms ok (fun q hq => e2 q (by omega))) (fun _ s p => ?_)
  obtain ⟨p1, -, -, -, p5⟩ := p
  try dsimp +instances only
  rw [if_pos (by omega), p1 66 k (by decide) (by decide) (Or.inl (by decide))]
  refine zP'.bind p5 (fun v t q => ?_)
  refine zP'.ret ⟨q.2, fun b j h1 h2 h3 => ?_⟩
  dsimp only
  rw [q.1]
  exact p1 b j h1 h2 h3
/-! the reference's -/
def KF (f : Int → Int) (v : Int) : Int := (f (21 + 3 * v) * 32 + f (22 + 3 * v)) * 60 + v
def selF (f : Int → Int) (B : Bx) (T : Int → Bool) (v : Int) : Prop := ∃ q : Nat, q < 60 ∧ v = (q : Int) ∧ f (20 + 3 * (q : Int)) ≠ 0 ∧ bIn B (f (21 + 3 * (q : Int))) (f (22 + 3 * (q : Int))) ∧ T (q : Int) = true
def rsF (f : Int → Int) (j : Int) : Int := if 20 ≤ j ∧ j < 200 then f j else 0
def wsF (w : Int → Int) (j : Int) : Int := if 1 ≤ j ∧ j < 61 then w j else 0
noncomputable def liR (f : Int → Int) (B : Bx) (T : Int → Bool) : List Int := Classical.epsilon (fun L => SL (KF (rsF f)) (selF (rsF f) B T) L)
noncomputable def valR (f w : Int → Int) (B : Bx) (T : Int → Bool) (ms : Int) : Int := msF (fun j => wsF w (1 + (liR f B T).getD j.toNat 0)) (liR f B T).length ms
theorem rsF_i {f : Int → Int} {j : Int} (h : 20 ≤ j ∧ j < 200) : rsF f j = f j := if_pos h
theorem rsF_ext {f g : Int → Int} (h : ∀ j, 20 ≤ j → j < 200 → f j = g j) : rsF f = rsF g := by
  funext j
  unfold rsF
  by_cases c : 20 ≤ j ∧ j < 200
  · rw [if_pos c, if_pos c]
    exact h j c.1 c.2
  · rw [if_neg c, if_neg c]
theorem wsF_ext {f g : Int → Int} (h : ∀ j, 1 ≤ j → j < 61 → f j = g j) : wsF f = wsF g := by
  funext j
  unfold wsF
  by_cases c : 1 ≤ j ∧ j < 61
  · rw [if_pos c, if_pos c]
    exact h j c.1 c.2
  · rw [if_neg c, if_neg c]
theorem liR_ext {f g : Int → Int} {B : Bx} {T : Int → Bool} (h : ∀ j, 20 ≤ j → j < 200 → f j = g j) : liR f B T = liR g B T := by
  unfold liR
  rw [rsF_ext h]
theorem valR_ext {f g w u : Int → Int} {B : Bx} {T : Int → Bool} {ms : Int} (h : ∀ j, 20 ≤ j → j < 200 → f j = g j) (h2 : ∀ j, 1 ≤ j → j < 61 → w j = u j) : valR f w B T ms = valR g u B T ms := by
  unfold valR
  rw [liR_ext h, wsF_ext h2]
theorem selF_rs {f : Int → Int} {B : Bx} {T : Int → Bool} {v : Int} : selF (rsF f) B T v ↔ selF f B T v := by
  constructor
  · rintro ⟨q, h1, h2, h3, h4, h5⟩
    rw [rsF_i (by omega)] at h3 h4
    rw [rsF_i (by omega)] at h4
    exact ⟨q, h1, h2, h3, h4, h5⟩
  · rintro ⟨q, h1, h2, h3, h4, h5⟩
    refine ⟨q, h1, h2, ?_, ?_, h5⟩
    · rw [rsF_i (by omega)]; exact h3
    · rw [rsF_i (by omega), rsF_i (by omega)]; exact h4
theorem KF_rs {f : Int → Int} {v : Int} (h : 0 ≤ v ∧ v < 60) : KF (rsF f) v = KF f v := by
  unfold KF
  rw [rsF_i (by omega), rsF_i (by omega)]
theorem selF_bd {f : Int → Int} {B : Bx} {T : Int → Bool} {v : Int} (h : selF f B T v) : 0 ≤ v ∧ v < 60 := by
  obtain ⟨q, h1, h2, -⟩ := h
  omega
theorem liR_eq {f : Int → Int} {B : Bx} {T : Int → Bool} {L : List Int} (h : SL (KF f) (selF f B T) L) : liR f B T = L := by
  have h2 : SL (KF (rsF f)) (selF (rsF f) B T) L := by
    refine ⟨List.Pairwise.imp_of_mem (fun {a b} ha hb h0 => ?_) h.1, fun v => (h.2 v).trans selF_rs.symm⟩
    rw [KF_rs (selF_bd ((h.2 a).mp ha)), KF_rs (selF_bd ((h.2 b).mp hb))]
    exact h0
  have h3 : SL (KF (rsF f)) (selF (rsF f) B T) (liR f B T) := Classical.epsilon_spec (p := fun L => SL (KF (rsF f)) (selF (rsF f) B T) L) ⟨L, h2⟩
  exact SL.uniq h3 h2 (fun _ => Iff.rfl) (fun _ _ => rfl)
theorem t_gath {a : Nat} {i t ms : Int} {σ : zS} {T : Int → Bool} {B : Bx} (h1 : 0 ≤ i) (h2 : i + 3 < zLI a) (h3 : zLI a ≤ 100000) (h4 : a ≠ 143) (h5 : a ≠ 154) (h6 : a ≠ 155) (hB : bxA σ a i = B) (hp : plR σ) (ht : tstT σ t T) (hms : 0 ≤ ms ∧ ms ≤ 6) (ok : ∀ r : Nat, r < 60 → okL (σ 147 (1 + (r : Int)))) : ∃ s, g_m_gathers a i t σ = some ((), s) ∧ (liR (σ 144) B T).length ≤ 60 ∧ frG σ s ∧ s 143 14 = ((liR (σ 144) B T).length : Int) ∧ sg (s 154) 0 (liR (σ 144) B T).length = liR (σ 144) B T ∧ (∀ j : Nat, j < (liR (σ 144) B T).length → s 155 (j : Int) = σ 147 (1 + (liR (σ 144) B T).getD j 0)) ∧ ∀ s2 : zS, s2 143 14 = s 143 14 → (∀ j, s2 155 j = s 155 j) → ∃ o, g_m_measured ms s2 = some (valR (σ 144) (σ 147) B T ms, zu s2 143 15 o) := by
  obtain ⟨s, m, e1, e2, e3, e4, e5, e6⟩ := t_gathers h1 h2 h3 h4 h5 h6 hB hp ht
  have eL : liR (σ 144) B T = sg (s 154) 0 m := liR_eq e5
  have hl : (liR (σ 144) B T).length = m := by rw [eL, sg_len]
  have cell : ∀ j : Nat, j < m → s 154 (j : Int) = (liR (σ 144) B T).getD j 0 := fun j hj => by
    rw [eL, sg_get m 0 j hj, show (0 : Int) + (j : Int) = (j : Int) by omega]
  have bd : ∀ j : Nat, j < m → 0 ≤ (liR (σ 144) B T).getD j 0 ∧ (liR (σ 144) B T).getD j 0 < 60 := fun j hj => by
    have hm := getD_mem (L := liR (σ 144) B T) (j := j) (by omega)
    have hm : (liR (σ 144) B T).getD j 0 ∈ sg (s 154) 0 m := eL ▸ hm
    exact selF_bd (f := σ 144) (B := B) (T := T) ((e5.2 _).mp hm)
  have wc : ∀ j : Nat, j < m → s 155 (j : Int) = σ 147 (1 + (liR (σ 144) B T).getD j 0) := fun j hj => by rw [e6 j hj, cell j hj]
  refine ⟨s, e1, by omega, e3, by rw [e4, hl], by rw [hl]; exact eL.symm, fun j hj => wc j (by omega), fun s2 g1 g2 => ?_⟩
  obtain ⟨o, f1⟩ := s_msF (σ := s2) (M := m) (m := ms) (by rw [g1]; exact e4) e2 hms (fun j hj => by
    rw [g2, wc j hj]
    have hb := bd j hj
    have h := ok ((liR (σ 144) B T).getD j 0).toNat (by omega)
    rw [show ((((liR (σ 144) B T).getD j 0).toNat : Nat) : Int) = (liR (σ 144) B T).getD j 0 by omega] at h
    exact h)
  refine ⟨o, ?_⟩
  rw [f1]
  have e : msF (s2 155) m ms = valR (σ 144) (σ 147) B T ms := by
    unfold valR
    rw [hl]
    refine msF_ext (fun j hj => ?_)
    have hb := bd j hj
    rw [g2, wc j hj]
    show _ = wsF (σ 147) (1 + (liR (σ 144) B T).getD ((j : Nat) : Int).toNat 0)
    rw [show ((j : Nat) : Int).toNat = j by omega]
    exact (if_pos (by omega)).symm
  rw [e]
theorem t_value {k : Int} {σ : zS} {B : Bx} (hW : 0 ≤ σ 144 10 ∧ σ 144 10 ≤ 6) (hk : 0 ≤ k ∧ k < σ 144 10) (hp : plR σ) (hB : bxA σ 144 (301 + 6 * k) = B) (hms : 0 ≤ σ 144 (300 + 6 * k) ∧ σ 144 (300 + 6 * k) ≤ 6) (ok : ∀ r : Nat, r < 60 → okL (σ 147 (1 + (r : Int)))) : ∃ s, g_m_value k σ = some (valR (σ 144) (σ 147) B (fun _ => true) (σ 144 (300 + 6 * k)), s) ∧ frG σ s := by
  have l := l144
  unfold g_m_value
  rw [s_isWatch hW]
  rw [Option.bind_some]
  try dsimp +instances only
  rw [if_pos hk, if_pos (by decide), w32_id (x := 6 * k) (by omega) (by omega), w32_id (x := 300 + 6 * k) (by omega) (by omega), w32_id (x := 300 + 6 * k + 1) (by omega) (by omega), show 300 + 6 * k + 1 = 301 + 6 * k by omega]
  obtain ⟨s, e1, -, e3, -, -, -, e7⟩ := t_gath (a := 144) (i := 301 + 6 * k) (t := -1) (σ := σ) (B := B) (ms := σ 144 (300 + 6 * k)) (T := fun _ => true) (by omega) (by omega) (by omega) (by decide) (by decide) (by decide) hB hp (tstT.no σ) hms ok
  rw [e1]
  rw [Option.bind_some]
  try dsimp +instances only
  rw [if_pos (by omega), e3 144 _ (Or.inl (by decide)) (by decide) (by decide)]
  obtain ⟨o, f⟩ := e7 s rfl (fun _ => rfl)
  rw [f]
  exact ⟨_, rfl, e3.trans frG.of15⟩
end
section
/-! 63g.cwatch -/
/-! THE CLASS'S WATCHES: what put() and take() make of their changes -/
def WC (σ : zS) (B : Nat → Bx) : Prop := ∀ k : Nat, k < 6 → (k : Int) < σ 65 5 → bOk (B k) ∧ σ 67 (k : Int) = enc (B k) ∧ 0 ≤ σ 66 (k : Int) ∧ σ 66 (k : Int) ≤ 6
def ok44 (σ : zS) : Prop := ∀ r : Nat, r < 60 → okL (σ 44 (r : Int))
def chgA (b v n : Int) : Int := if n = b then v else w32 (v + 1)
theorem CI_v {σ : zS} {k : Int} (H : CI σ) : zP' (g_wa_valueOf k σ) (fun _ s => CI s) := (zP'.of (g_wa_valueOf_sp (x1 := k) H)).imp (fun _ _ p => p.1)
theorem p_remember2 {σ0 : zS} {I : Nat → Bool} {B : Nat → Bx} {W : Nat} (S : ST σ0 41 I) (hW : σ0 65 5 = (W : Int)) (hW2 : W ≤ 6) (hB : WC σ0 B) (ok : ok44 σ0) : ∀ (n k : Nat) (σ : zS), CI σ → (∀ b j, b ≠ 69 → b ≠ 70 → b ≠ 71 → b ≠ 72 → σ b j = σ0 b j) → k ≤ W → (∀ i : Nat, i < k → σ 69 (i : Int) = valC σ0 41 (B i) (σ0 66 (i : Int))) → zP' (g_wa_remember_L2 n (k : Int) σ) (fun _ s => ∀ i : Nat, i < W → s 69 (i : Int) = valC σ0 41 (B i) (σ0 66 (i : Int)))
  | 0, _, _, _, _, _, _ => zP'.no
  | n + 1, k, σ, H, hf, hk, hv => by
    have e5 : σ 65 5 = (W : Int) := (hf 65 5 (by decide) (by decide) (by decide) (by decide)).trans hW
    have st : stE σ0 σ := fun a j h => hf a j (by unfold stK at h; omega) (by unfold stK at h; omega) (by unfold stK at h; omega) (by unfold stK at h; omega)
    unfold g_wa_remember_L2
    try dsimp +instances only
    rw [e5]
    refine zP'.ite (fun c => zP'.ret (fun i hi => hv i (by omega))) (fun c => zP'.ite (fun c2 => zP'.ret (fun i hi => hv i (by omega))) (fun c2 => ?_))
    obtain ⟨b1, b2, b3, b4⟩ := hB k (by omega) (by omega)
    have e66 : σ 66 (k : Int) = σ0 66 (k : Int) := hf 66 _ (by decide) (by decide) (by decide) (by decide)
    refine zP'.bind ((p_valueOf (k := (k : Int)) (B := B k) H (ST_E S st) (by omega) b1 (by rw [hf 67 _ (by decide) (by decide) (by decide) (by decide)]; exact b2) (by rw [e66]; exact ⟨b3, b4⟩) (fun r hr => by rw [hf 44 _ (by decide) (by decide) (by decide) (by decide)]; exact ok r hr)).and (CI_v H)) (fun v s p => ?_)
    obtain ⟨⟨p1, p2⟩, H1⟩ := p
    refine zP'.gd (fun _ => ?_)
    try dsimp +instances only
    rw [w32_id (x := (k : Int) + 1) (by omega) (by omega), show (k : Int) + 1 = ((k + 1 : Nat) : Int) by omega]
    refine p_remember2 S hW hW2 hB ok n (k + 1) _ (CI_zun H1 (by decide) (by decide) rfl) (fun b j h1 h2 h3 h4 => by rw [zu_a h1, p2 b j h3 h4 (Or.inl h2)]; exact hf b j h1 h2 h3 h4) (by omega) (fun i hi => ?_)
    by_cases ci : i = k
    · subst ci
      rw [zu_e rfl, p1, valC_E st, e66]
    · rw [zu_i (by omega), p2 69 _ (by decide) (by decide) (Or.inl (by decide))]
      exact hv i (by omega)
theorem p_remember {σ : zS} {I : Nat → Bool} {B : Nat → Bx} (H : CI σ) (S : ST σ 41 I) (hB : WC σ B) (ok : ok44 σ) : zP' (g_wa_remember σ) (fun _ s => ∀ i : Nat, (i : Int) < σ 65 5 → s 69 (i : Int) = valC σ 41 (B i) (σ 66 (i : Int))) := by
  have hw := CI.cw (a := 65) H (by omega)
  obtain ⟨W, hW⟩ : ∃ W : Nat, σ 65 5 = (W : Int) := ⟨(σ 65 5).toNat, by omega⟩
  exact (p_remember2 S hW (by omega) hB ok zK 0 σ H (fun _ _ _ _ _ _ => rfl) (Nat.zero_le _) (fun i hi => absurd hi (Nat.not_lt_zero _))).imp (fun _ s p i hi => p i (by omega))
theorem p_compare2 {σ0 : zS} {I : Nat → Bool} {B : Nat → Bx} {W : Nat} (S : ST σ0 41 I) (hW : σ0 65 5 = (W : Int)) (hW2 : W ≤ 6) (hB : WC σ0 B) (ok : ok44 σ0) : ∀ (n k : Nat) (σ : zS), CI σ → (∀ b j, b ≠ 68 → b ≠ 70 → b ≠ 71 → b ≠ 72 → σ b j = σ0 b j) → k ≤ W → (∀ i : Nat, i < k → σ 68 (i : Int) = chgA (σ0 69 (i : Int)) (σ0 68 (i : Int)) (valC σ0 41 (B i) (σ0 66 (i : Int)))) → (∀ i : Nat, k ≤ i → σ 68 (i : Int) = σ0 68 (i : Int)) → zP' (g_wa_compare_L2 n (k : Int) σ) (fun _ s => ∀ i : Nat, i < W → s 68 (i : Int) = chgA (σ0 69 (i : Int)) (σ0 68 (i : Int)) (valC σ0 41 (B i) (σ0 66 (i : Int))))
  | 0, _, _, _, _, _, _, _ => zP'.no
  | n + 1, k, σ, H, hf, hk, hv, hv2 => by
    have e5 : σ 65 5 = (W : Int) := (hf 65 5 (by decide) (by decide) (by decide) (by decide)).trans hW
    have st : stE σ0 σ := fun a j h => hf a j (by unfold stK at h; omega) (by unfold stK at h; omega) (by unfold stK at h; omega) (by unfold stK at h; omega)
    unfold g_wa_compare_L2
    try dsimp +instances only
    rw [e5]
    refine zP'.ite (fun c => zP'.ret (fun i hi => hv i (by omega))) (fun c => zP'.ite (fun c2 => zP'.ret (fun i hi => hv i (by omega))) (fun c2 => ?_))
    obtain ⟨b1, b2, b3, b4⟩ := hB k (by omega) (by omega)
    have e66 : σ 66 (k : Int) = σ0 66 (k : Int) := hf 66 _ (by decide) (by decide) (by decide) (by decide)
    refine zP'.bind ((p_valueOf (k := (k : Int)) (B := B k) H (ST_E S st) (by omega) b1 (by rw [hf 67 _ (by decide) (by decide) (by decide) (by decide)]; exact b2) (by rw [e66]; exact ⟨b3, b4⟩) (fun r hr => by rw [hf 44 _ (by decide) (by decide) (by decide) (by decide)]; exact ok r hr)).and (CI_v H)) (fun v s p => ?_)
    obtain ⟨⟨p1, p2⟩, H1⟩ := p
    have ev : v = valC σ0 41 (B k) (σ0 66 (k : Int)) := by rw [p1, valC_E st, e66]
    have sf : ∀ b j, b ≠ 68 → b ≠ 70 → b ≠ 71 → b ≠ 72 → s b j = σ0 b j := fun b j h1 h2 h3 h4 => by rw [p2 b j h3 h4 (Or.inl h2)]; exact hf b j h1 h2 h3 h4
    have s68 : ∀ j, s 68 j = σ 68 j := fun j => p2 68 j (by decide) (by decide) (Or.inl (by decide))
    have e69 : s 69 (k : Int) = σ0 69 (k : Int) := sf 69 _ (by decide) (by decide) (by decide) (by decide)
    refine zP'.gd (fun _ => ?_)
    try dsimp +instances only
    refine zP'.ite (fun c3 => ?_) (fun c3 => ?_)
    · unfold g_wa_compare_L42
      rw [w32_id (x := (k : Int) + 1) (by omega) (by omega), show (k : Int) + 1 = ((k + 1 : Nat) : Int) by omega]
      have c3 := lCmp_eq.mp c3
      rw [e69, ev] at c3
      refine p_compare2 S hW hW2 hB ok n (k + 1) s H1 sf (by omega) (fun i hi => ?_) (fun i hi => by rw [s68]; exact hv2 i (by omega))
      by_cases ci : i = k
      · subst ci
        rw [s68, hv2 i (Nat.le_refl _)]
        exact (if_pos c3).symm
      · rw [s68]
        exact hv i (by omega)
    · refine zP'.gd (fun _ => zP'.gd (fun _ => ?_))
      try dsimp +instances only
      unfold g_wa_compare_L42
      rw [w32_id (x := (k : Int) + 1) (by omega) (by omega), show (k : Int) + 1 = ((k + 1 : Nat) : Int) by omega]
      have c3 : ¬ valC σ0 41 (B k) (σ0 66 (k : Int)) = σ0 69 (k : Int) := fun e => c3 (lCmp_eq.mpr (by rw [e69, ev]; exact e))
      refine p_compare2 S hW hW2 hB ok n (k + 1) _ (CI_zun H1 (by decide) (by decide) rfl) (fun b j h1 h2 h3 h4 => by rw [zu_a h1]; exact sf b j h1 h2 h3 h4) (by omega) (fun i hi => ?_) (fun i hi => by rw [zu_i (by omega), s68]; exact hv2 i (by omega))
      by_cases ci : i = k
      · subst ci
        rw [zu_e rfl, s68, hv2 i (Nat.le_refl _)]
        exact (if_neg c3).symm
      · rw [zu_i (by omega), s68]
        exact hv i (by omega)
/-- the end of put() and take() -/
theorem p_after {σ : zS} {I : Nat → Bool} {B : Nat → Bx} (H : CI σ) (S : ST σ 41 I) (hB : WC σ B) (ok : ok44 σ) : zP' (g_c_afterWrites σ) (fun _ s => ∀ i : Nat, (i : Int) < σ 65 5 → s 68 (i : Int) = chgA (σ 69 (i : Int)) (σ 68 (i : Int)) (valC s 41 (B i) (σ 66 (i : Int)))) := by
  have hw := CI.cw (a := 65) H (by omega)
  obtain ⟨W, hW⟩ : ∃ W : Nat, σ 65 5 = (W : Int) := ⟨(σ 65 5).toNat, by omega⟩
  unfold g_c_afterWrites
  refine zP'.bind (zP'.of (g_ca_trim_sp (a0 := 48) (by omega) H)) (fun _ s1 p1 => ?_)
  obtain ⟨H1, G1, -⟩ := p1
  try dsimp +instances only
  have st : stE σ s1 := stE.of G1 (fun _ => ⟨rfl, rfl, rfl, rfl, rfl, rfl, rfl⟩)
  have k5 : s1 65 5 = σ 65 5 := G1 65 5 (Or.inr rfl)
  have k66 : ∀ j, s1 66 j = σ 66 j := fun j => G1 66 j (Or.inr rfl)
  have k67 : ∀ j, s1 67 j = σ 67 j := fun j => G1 67 j (Or.inr rfl)
  have k68 : ∀ j, s1 68 j = σ 68 j := fun j => G1 68 j (Or.inr rfl)
  have k69 : ∀ j, s1 69 j = σ 69 j := fun j => G1 69 j (Or.inr rfl)
  have hB1 : WC s1 B := fun k h1 h2 => by
    rw [k66, k67]
    rw [k5] at h2
    exact hB k h1 h2
  have ok1 : ok44 s1 := fun r hr => by
    rw [st 44 _ (by unfold stK; omega)]
    exact ok r hr
  refine zP'.bind ((p_compare2 (σ0 := s1) (ST_E S st) (k5.trans hW) (by omega) hB1 ok1 zK 0 s1 H1 (fun _ _ _ _ _ _ => rfl) (Nat.zero_le _) (fun i hi => absurd hi (Nat.not_lt_zero _)) (fun _ _ => rfl)).and (zP'.of (g_wa_compare_sp H1))) (fun _ s2 p2 => ?_)
  obtain ⟨p2, H2, G2, -⟩ := p2
  have st2 : stE s1 s2 := stE.of G2 (fun _ => ⟨rfl, rfl, rfl, rfl, rfl, rfl, rfl⟩)
  refine zP'.ret (fun i hi => ?_)
  dsimp only
  rw [valC_E st2]
  have h := p2 i (by omega)
  rw [k66, k68, k69] at h
  exact h
theorem c_put90W {r : Nat} {x y v : Int} {σ : zS} {I : Nat → Bool} {B : Nat → Bx} (H : CI σ) (S : ST σ 41 I) (hr : r < 60) (hI : I r = false) (hx : 0 ≤ x ∧ x ≤ 31) (hy : 0 ≤ y ∧ y ≤ 31) (hB : WC σ B) (ok : ok44 σ) (hv : okL v) : zP' (g_c_put_L90 (r : Int) x y v σ) (fun _ s => ∀ i : Nat, (i : Int) < σ 65 5 → s 68 (i : Int) = chgA (σ 69 (i : Int)) (σ 68 (i : Int)) (valC s 41 (B i) (σ 66 (i : Int)))) := by
  have h4 := CI.c4 (a := 41) H (by omega)
  unfold g_c_put_L90
  refine zP'.bind ((p_bringIn H hr hx hy (ST_cnt S hr hI h4.1) (by rw [ST_bit H S hr]; exact hI) (ST_val S)).and (zP'.of (g_so_bringIn_sp H))) (fun _ s1 p1 => ?_)
  obtain ⟨⟨k1, k2, k3, k4⟩, H1, G1, -⟩ := p1
  have S1 := ST_in S hr hI hx hy h4.1 k1 k2 k3 k4
  try dsimp +instances only
  unfold g_b_of
  rw [Option.bind_some]
  refine zP'.bind (zP'.of (g_ca_write_sp (a0 := 48) (by omega) H1)) (fun _ s2 p2 => ?_)
  obtain ⟨H2, G2, -⟩ := p2
  try dsimp +instances only
  have st : stE s1 s2 := stE.of G2 (fun _ => ⟨rfl, rfl, rfl, rfl, rfl, rfl, rfl⟩)
  have j5 : s2 65 5 = σ 65 5 := (G2 65 5 (Or.inr rfl)).trans (G1 65 5 (Or.inr rfl))
  have j66 : ∀ j, s2 66 j = σ 66 j := fun j => (G2 66 j (Or.inr rfl)).trans (G1 66 j (Or.inr rfl))
  have j67 : ∀ j, s2 67 j = σ 67 j := fun j => (G2 67 j (Or.inr rfl)).trans (G1 67 j (Or.inr rfl))
  have j68 : ∀ j, s2 68 j = σ 68 j := fun j => (G2 68 j (Or.inr rfl)).trans (G1 68 j (Or.inr rfl))
  have j69 : ∀ j, s2 69 j = σ 69 j := fun j => (G2 69 j (Or.inr rfl)).trans (G1 69 j (Or.inr rfl))
  have hB2 : WC s2 B := fun k h1 h2 => by
    rw [j66, j67]
    rw [j5] at h2
    exact hB k h1 h2
  have ok2 : ok44 s2 := fun q hq => by
    rw [st 44 _ (by unfold stK; omega), k1.2.2]
    by_cases c : (q : Int) = (r : Int)
    · rw [if_pos c]; exact hv
    · rw [if_neg c]; exact ok q hq
  refine zP'.bind (p_after (B := B) H2 (ST_E S1 st) hB2 ok2) (fun _ s3 p3 => ?_)
  refine zP'.ret (fun i hi => ?_)
  have h := p3 i (by rw [j5]; exact hi)
  rw [j66, j68, j69] at h
  exact h
theorem c_putW {r x y v : Int} {σ : zS} {I : Nat → Bool} {B : Nat → Bx} (H : CI σ) (S : ST σ 41 I) (hB : WC σ B) (ok : ok44 σ) (hv : okL v) : zP' (g_c_put r x y v σ) (fun _ s => (acc r x y v → ∀ i : Nat, (i : Int) < σ 65 5 → s 68 (i : Int) = chgA (valC σ 41 (B i) (σ 66 (i : Int))) (σ 68 (i : Int)) (valC s 41 (B i) (σ 66 (i : Int)))) ∧ (¬ acc r x y v → s = σ)) := by
  have no : ∀ c : Int, ¬ acc r x y v → zP' (some (c, σ)) (fun _ s => (acc r x y v → ∀ i : Nat, (i : Int) < σ 65 5 → s 68 (i : Int) = chgA (valC σ 41 (B i) (σ 66 (i : Int))) (σ 68 (i : Int)) (valC s 41 (B i) (σ 66 (i : Int)))) ∧ (¬ acc r x y v → s = σ)) := fun c h => zP'.ret ⟨fun k => absurd k h, fun _ => rfl⟩
  unfold g_c_put
  rw [p_isRow]
  rw [Option.bind_some]
  try dsimp +instances only
  by_cases c1 : 0 ≤ r ∧ r < 60
  · rw [if_pos c1, if_pos (by decide), p_isPlace]
    rw [Option.bind_some]
    try dsimp +instances only
    by_cases c2 : 0 ≤ x ∧ x ≤ 31 ∧ 0 ≤ y ∧ y ≤ 31
    · rw [if_pos c2, if_neg (by decide)]
      refine zP'.ite (fun c3 => no _ (fun h => h.2.2.2.1 (lCmp_eq.mp c3))) (fun c3 => ?_)
      refine zP'.ite (fun c4 => ?_) (fun c4 => no _ (fun h => c4 (fun e => h.2.2.2.2 (lCmp_eq.mp e))))
      have hacc : acc r x y v := ⟨c1, ⟨c2.1, c2.2.1⟩, c2.2.2, fun h => c3 (lCmp_eq.mpr h), fun h => c4 (lCmp_eq.mpr h)⟩
      obtain ⟨k, rfl⟩ : ∃ k : Nat, r = (k : Int) := ⟨r.toNat, by omega⟩
      have hk : k < 60 := by omega
      refine zP'.bind ((p_remember H S hB ok).and (zP'.of (g_wa_remember_sp H))) (fun _ s1 p1 => ?_)
      obtain ⟨w1, H1, G1, -⟩ := p1
      have e1 : stE σ s1 := stE.of G1 (fun _ => ⟨rfl, rfl, rfl, rfl, rfl, rfl, rfl⟩)
      have S1 := ST_E S e1
      try dsimp +instances only
      have j5 : s1 65 5 = σ 65 5 := G1 65 5 (Or.inr rfl)
      have j66 : ∀ j, s1 66 j = σ 66 j := fun j => G1 66 j (Or.inr rfl)
      have j67 : ∀ j, s1 67 j = σ 67 j := fun j => G1 67 j (Or.inr rfl)
      have j68 : ∀ j, s1 68 j = σ 68 j := fun j => G1 68 j (Or.inr rfl)
      have hB1 : WC s1 B := fun k h1 h2 => by
        rw [j66, j67]
        rw [j5] at h2
        exact hB k h1 h2
      have ok1 : ok44 s1 := fun q hq => by
        rw [e1 44 _ (by unfold stK; omega)]
        exact ok q hq
      rw [p_isIn hk, ST_bit H1 S1 hk]
      rw [Option.bind_some]
      try dsimp +instances only
      by_cases c5 : I k = true
      · rw [if_pos c5, if_neg (by decide)]
        refine zP'.bind ((p_bringOut H1 hk).and (zP'.of (g_so_bringOut_sp H1))) (fun w s2 p2 => ?_)
        obtain ⟨k2, H2, G2, -⟩ := p2
        obtain ⟨k3, k4, k5, -⟩ := k2 (by rw [ST_bit H1 S1 hk]; exact c5)
        have S2 := ST_out H1 S1 hk c5 k3 k4 k5
        try dsimp +instances only
        refine zP'.bind (zP'.of (g_ca_write_sp (a0 := 48) (by omega) H2)) (fun _ s3 p3 => ?_)
        obtain ⟨H3, G3, -⟩ := p3
        have e3 : stE s2 s3 := stE.of G3 (fun _ => ⟨rfl, rfl, rfl, rfl, rfl, rfl, rfl⟩)
        have S3 := ST_E S2 e3
        try dsimp +instances only
        have m5 : s3 65 5 = s1 65 5 := (G3 65 5 (Or.inr rfl)).trans (G2 65 5 (Or.inr rfl))
        have m66 : ∀ j, s3 66 j = s1 66 j := fun j => (G3 66 j (Or.inr rfl)).trans (G2 66 j (Or.inr rfl))
        have m67 : ∀ j, s3 67 j = s1 67 j := fun j => (G3 67 j (Or.inr rfl)).trans (G2 67 j (Or.inr rfl))
        have m68 : ∀ j, s3 68 j = s1 68 j := fun j => (G3 68 j (Or.inr rfl)).trans (G2 68 j (Or.inr rfl))
        have m69 : ∀ j, s3 69 j = s1 69 j := fun j => (G3 69 j (Or.inr rfl)).trans (G2 69 j (Or.inr rfl))
        have hB3 : WC s3 B := fun k h1 h2 => by
          rw [m66, m67]
          rw [m5] at h2
          exact hB1 k h1 h2
        have ok3 : ok44 s3 := fun q hq => by
          rw [e3 44 _ (by unfold stK; omega), k3 44 _ (by decide) (by decide) (by decide) (Or.inl (by decide))]
          exact ok1 q hq
        refine (c_put90W (x := x) (y := y) (v := v) (B := B) H3 S3 hk (by simp) ⟨c2.1, c2.2.1⟩ c2.2.2 hB3 ok3 hv).imp (fun _ s h => ⟨fun _ i hi => ?_, fun hn => absurd hacc hn⟩)
        have h := h i (by rw [m5, j5]; exact hi)
        rw [m66, m68, m69, j66, j68, w1 i hi] at h
        exact h
      · have c6 : I k = false := by
          cases hb : I k with
          | true => exact absurd hb c5
          | false => rfl
        rw [if_neg c5, if_pos rfl]
        refine (c_put90W (x := x) (y := y) (v := v) (B := B) H1 S1 hk c6 ⟨c2.1, c2.2.1⟩ c2.2.2 hB1 ok1 hv).imp (fun _ s h => ⟨fun _ i hi => ?_, fun hn => absurd hacc hn⟩)
        have h := h i (by rw [j5]; exact hi)
        rw [j66, j68, w1 i hi] at h
        exact h
    · rw [if_neg c2, if_pos rfl]
      exact no _ (fun h => c2 ⟨h.2.1.1, h.2.1.2, h.2.2.1.1, h.2.2.1.2⟩)
  · rw [if_neg c1, if_neg (by decide)]
    exact no _ (fun h => c1 h.1)
theorem c_takeW {r : Int} {σ : zS} {I : Nat → Bool} {B : Nat → Bx} (H : CI σ) (S : ST σ 41 I) (hB : WC σ B) (ok : ok44 σ) : zP' (g_c_take r σ) (fun _ s => ((0 ≤ r ∧ r < 60) ∧ I r.toNat = true → ∀ i : Nat, (i : Int) < σ 65 5 → s 68 (i : Int) = chgA (valC σ 41 (B i) (σ 66 (i : Int))) (σ 68 (i : Int)) (valC s 41 (B i) (σ 66 (i : Int)))) ∧ (¬ ((0 ≤ r ∧ r < 60) ∧ I r.toNat = true) → s = σ)) := by
  unfold g_c_take
  rw [p_isRow]
  rw [Option.bind_some]
  try dsimp +instances only
  by_cases c1 : 0 ≤ r ∧ r < 60
  · obtain ⟨k, rfl⟩ : ∃ k : Nat, r = (k : Int) := ⟨r.toNat, by omega⟩
    have hk : k < 60 := by omega
    have ek : ((k : Int)).toNat = k := by omega
    rw [if_pos c1, if_pos (by decide), p_isIn hk, ST_bit H S hk]
    rw [Option.bind_some]
    try dsimp +instances only
    by_cases c5 : I k = true
    · rw [if_pos c5, if_pos (by decide)]
      refine zP'.bind ((p_remember H S hB ok).and (zP'.of (g_wa_remember_sp H))) (fun _ s1 p1 => ?_)
      obtain ⟨w1, H1, G1, -⟩ := p1
      have e1 : stE σ s1 := stE.of G1 (fun _ => ⟨rfl, rfl, rfl, rfl, rfl, rfl, rfl⟩)
      have S1 := ST_E S e1
      try dsimp +instances only
      refine zP'.bind ((p_bringOut H1 hk).and (zP'.of (g_so_bringOut_sp H1))) (fun w s2 p2 => ?_)
      obtain ⟨k2, H2, G2, -⟩ := p2
      obtain ⟨k3, k4, k5, -⟩ := k2 (by rw [ST_bit H1 S1 hk]; exact c5)
      have S2 := ST_out H1 S1 hk c5 k3 k4 k5
      try dsimp +instances only
      refine zP'.bind (zP'.of (g_ca_write_sp (a0 := 48) (by omega) H2)) (fun _ s3 p3 => ?_)
      obtain ⟨H3, G3, -⟩ := p3
      have e3 : stE s2 s3 := stE.of G3 (fun _ => ⟨rfl, rfl, rfl, rfl, rfl, rfl, rfl⟩)
      try dsimp +instances only
      have m5 : s3 65 5 = σ 65 5 := (G3 65 5 (Or.inr rfl)).trans ((G2 65 5 (Or.inr rfl)).trans (G1 65 5 (Or.inr rfl)))
      have m66 : ∀ j, s3 66 j = σ 66 j := fun j => (G3 66 j (Or.inr rfl)).trans ((G2 66 j (Or.inr rfl)).trans (G1 66 j (Or.inr rfl)))
      have m67 : ∀ j, s3 67 j = σ 67 j := fun j => (G3 67 j (Or.inr rfl)).trans ((G2 67 j (Or.inr rfl)).trans (G1 67 j (Or.inr rfl)))
      have m68 : ∀ j, s3 68 j = σ 68 j := fun j => (G3 68 j (Or.inr rfl)).trans ((G2 68 j (Or.inr rfl)).trans (G1 68 j (Or.inr rfl)))
      have m69 : ∀ j, s3 69 j = s1 69 j := fun j => (G3 69 j (Or.inr rfl)).trans (G2 69 j (Or.inr rfl))
      have hB3 : WC s3 B := fun k h1 h2 => by
        rw [m66, m67]
        rw [m5] at h2
        exact hB k h1 h2
      have ok3 : ok44 s3 := fun q hq => by
        rw [e3 44 _ (by unfold stK; omega), k3 44 _ (by decide) (by decide) (by decide) (Or.inl (by decide)), e1 44 _ (by unfold stK; omega)]
        exact ok q hq
      refine zP'.bind (p_after (B := B) H3 (ST_E S2 e3) hB3 ok3) (fun _ s4 p4 => ?_)
      refine zP'.ret ⟨fun _ i hi => ?_, fun hn => absurd ⟨c1, by rw [ek]; exact c5⟩ hn⟩
      have h := p4 i (by rw [m5]; exact hi)
      rw [m66, m68, m69, w1 i hi] at h
      exact h
    · rw [if_neg c5, if_neg (by decide)]
      exact zP'.ret ⟨fun h => absurd (by rw [ek] at h; exact h.2) c5, fun _ => rfl⟩
  · rw [if_neg c1, if_neg (by decide)]
    exact zP'.ret ⟨fun h => absurd h.1 c1, fun _ => rfl⟩
end
section
/-! 63h.rwatch -/
/-! THE REFERENCE'S WATCHES: what put() and take() make of their changes -/
def WR (σ : zS) (B : Nat → Bx) : Prop := ∀ k : Nat, k < 6 → (k : Int) < σ 144 10 → bxA σ 144 (301 + 6 * (k : Int)) = B k ∧ (0 ≤ σ 144 (300 + 6 * (k : Int)) ∧ σ 144 (300 + 6 * (k : Int)) ≤ 6) ∧ -2147483648 ≤ σ 144 (305 + 6 * (k : Int)) ∧ σ 144 (305 + 6 * (k : Int)) < 2147483648
def ok147 (σ : zS) : Prop := ∀ r : Nat, r < 60 → okL (σ 147 (1 + (r : Int)))
noncomputable def VR (σ : zS) (B : Nat → Bx) (i : Nat) : Int := valR (σ 144) (σ 147) (B i) (fun _ => true) (σ 144 (300 + 6 * (i : Int)))
/-- all of the row of ints but the changes -/
def n5 (j : Int) : Prop := j < 300 ∨ 340 ≤ j ∨ (j - 300) % 6 ≠ 5
theorem VR_ext {σ s : zS} {B : Nat → Bx} {i : Nat} (h : ∀ j, 20 ≤ j → j < 200 → s 144 j = σ 144 j) (h2 : ∀ j, 1 ≤ j → j < 61 → s 147 j = σ 147 j) (h3 : s 144 (300 + 6 * (i : Int)) = σ 144 (300 + 6 * (i : Int))) : VR s B i = VR σ B i := by
  unfold VR
  rw [valR_ext h h2, h3]
theorem WR_mv {σ s : zS} {B : Nat → Bx} (h : WR σ B) (e : ∀ j, j = 10 ∨ (300 ≤ j ∧ j < 340 ∧ n5 j) → s 144 j = σ 144 j) (e5 : ∀ k : Nat, k < 6 → (k : Int) < σ 144 10 → -2147483648 ≤ s 144 (305 + 6 * (k : Int)) ∧ s 144 (305 + 6 * (k : Int)) < 2147483648) : WR s B := fun k h1 h2 => by
  rw [e 10 (Or.inl rfl)] at h2
  obtain ⟨g1, g2, g3⟩ := h k h1 h2
  refine ⟨?_, ?_, e5 k h1 h2⟩
  · rw [← g1]
    unfold bxA
    rw [e _ (Or.inr (by unfold n5; omega)), e _ (Or.inr (by unfold n5; omega)), e _ (Or.inr (by unfold n5; omega)), e _ (Or.inr (by unfold n5; omega))]
  · rw [e _ (Or.inr (by unfold n5; omega))]
    exact g2
theorem t_values2 {σ : zS} {B : Nat → Bx} {W : Nat} (hW : σ 144 10 = (W : Int)) (hW2 : W ≤ 6) (hp : plR σ) (hB : WR σ B) (ok : ok147 σ) : ∀ (d k n : Nat) (s : zS), k + d = W → d < n → frV σ s → (∀ i : Nat, i < k → s 158 (i : Int) = VR σ B i) → ∃ s', g_m_values_L2 n (k : Int) s = some ((), s') ∧ frV σ s' ∧ ∀ i : Nat, i < W → s' 158 (i : Int) = VR σ B i
  | _, _, 0, _, _, h, _, _ => absurd h (Nat.not_lt_zero _)
  | 0, k, n + 1, s, hk, _, hf, hv => by
    refine ⟨s, ?_, hf, fun i hi => hv i (by omega)⟩
    unfold g_m_values_L2
    simp only [hf 144 10 (Or.inl (by decide)) (by decide) (by decide) (by decide), hW]
    rw [if_pos (by omega)]
  | d + 1, k, n + 1, s, hk, hn, hf, hv => by
    have e144 : s 144 = σ 144 := funext (fun j => hf 144 j (Or.inl (by decide)) (by decide) (by decide) (by decide))
    have e147 : s 147 = σ 147 := funext (fun j => hf 147 j (Or.inl (by decide)) (by decide) (by decide) (by decide))
    have e10 : s 144 10 = (W : Int) := by rw [e144]; exact hW
    obtain ⟨b1, b2, b3⟩ := hB k (by omega) (by omega)
    obtain ⟨s1, e1, e2⟩ := t_value (k := (k : Int)) (σ := s) (B := B k) (by omega) (by omega) (fun r hr => by rw [e144]; exact hp r hr) (by unfold bxA; rw [e144]; exact b1) (by rw [e144]; exact b2) (fun r hr => by rw [e147]; exact ok r hr)
    rw [e144, e147] at e1
    obtain ⟨s', f1, f2, f3⟩ := t_values2 hW hW2 hp hB ok d (k + 1) n (zu s1 158 (k : Int) (VR σ B k)) (by omega) (by omega) (fun a j h1 h2 h3 h4 => by rw [zu_a h4, e2 a j h1 h2 h3]; exact hf a j h1 h2 h3 h4) (fun i hi => by
      by_cases ci : i = k
      · subst ci
        exact zu_e rfl
      · rw [zu_i (by omega), e2 158 _ (Or.inl (by decide)) (by decide) (by decide)]
        exact hv i (by omega))
    refine ⟨s', ?_, f2, f3⟩
    unfold g_m_values_L2
    simp only [e10]
    rw [if_neg (by omega), e1]
    rw [Option.bind_some]
    try dsimp only
    rw [if_pos (by omega), w32_id (x := (k : Int) + 1) (by omega) (by omega)]
    rw [show ((k + 1 : Nat) : Int) = (k : Int) + 1 by omega] at f1
    exact f1
theorem t_values {σ : zS} {B : Nat → Bx} (h : 0 ≤ σ 144 10 ∧ σ 144 10 ≤ 6) (hp : plR σ) (hB : WR σ B) (ok : ok147 σ) : ∃ s, g_m_values σ = some ((), s) ∧ frV σ s ∧ ∀ i : Nat, (i : Int) < σ 144 10 → s 158 (i : Int) = VR σ B i := by
  obtain ⟨W, hW⟩ : ∃ W : Nat, σ 144 10 = (W : Int) := ⟨(σ 144 10).toNat, by omega⟩
  obtain ⟨s, e1, e2, e3⟩ := t_values2 hW (by omega) hp hB ok W 0 zK σ (by omega) (by show _ < 1000000; omega) (fun _ _ _ _ _ _ => rfl) (fun i hi => absurd hi (Nat.not_lt_zero _))
  exact ⟨s, e1, e2, fun i hi => e3 i (by omega)⟩
theorem t_behind6 {σ : zS} {B : Nat → Bx} {W : Nat} (hW : σ 144 10 = (W : Int)) (hW2 : W ≤ 6) (hp : plR σ) (hB : WR σ B) (ok : ok147 σ) : ∀ (d k n : Nat) (s : zS), k + d = W → d < n → (∀ a j, (a ≠ 144 ∨ n5 j) → (a ≠ 143 ∨ (j ≠ 14 ∧ j ≠ 15 ∧ j ≠ 21 ∧ j ≠ 22 ∧ j ≠ 23)) → a ≠ 154 → a ≠ 155 → s a j = σ a j) → (∀ i : Nat, i < k → s 144 (305 + 6 * (i : Int)) = chgA (σ 158 (i : Int)) (σ 144 (305 + 6 * (i : Int))) (VR σ B i)) → (∀ i : Nat, k ≤ i → i < 6 → s 144 (305 + 6 * (i : Int)) = σ 144 (305 + 6 * (i : Int))) → ∃ v s', g_m_behind_L6 n (k : Int) s = some (v, s') ∧ (∀ a j, (a ≠ 144 ∨ n5 j) → (a ≠ 143 ∨ (j ≠ 14 ∧ j ≠ 15 ∧ j ≠ 21 ∧ j ≠ 22 ∧ j ≠ 23)) → a ≠ 154 → a ≠ 155 → s' a j = σ a j) ∧ ∀ i : Nat, i < W → s' 144 (305 + 6 * (i : Int)) = chgA (σ 158 (i : Int)) (σ 144 (305 + 6 * (i : Int))) (VR σ B i)
  | _, _, 0, _, _, h, _, _, _ => absurd h (Nat.not_lt_zero _)
  | 0, k, n + 1, s, hk, _, hf, hv, _ => by
    have h10 : s 144 10 = (W : Int) := (hf 144 10 (Or.inr (by unfold n5; omega)) (Or.inl (by decide)) (by decide) (by decide)).trans hW
    refine ⟨s 144 0, s, ?_, hf, fun i hi => hv i (by omega)⟩
    unfold g_m_behind_L6
    simp only [h10]
    rw [if_pos (by omega)]
  | d + 1, k, n + 1, s, hk, hn, hf, hv, hv2 => by
    have c144 : ∀ j, n5 j → s 144 j = σ 144 j := fun j hj => hf 144 j (Or.inr hj) (Or.inl (by decide)) (by decide) (by decide)
    have e147 : s 147 = σ 147 := funext (fun j => hf 147 j (Or.inl (by decide)) (Or.inl (by decide)) (by decide) (by decide))
    have h10 : s 144 10 = (W : Int) := (c144 10 (by unfold n5; omega)).trans hW
    obtain ⟨b1, b2, b3⟩ := hB k (by omega) (by omega)
    have e300 : s 144 (300 + 6 * (k : Int)) = σ 144 (300 + 6 * (k : Int)) := c144 _ (by unfold n5; omega)
    obtain ⟨s1, e1, e2⟩ := t_value (k := (k : Int)) (σ := s) (B := B k) (by omega) (by omega) (fun r hr => by rw [c144 _ (by unfold n5; omega), c144 _ (by unfold n5; omega)]; exact hp r hr) (by
      rw [← b1]
      unfold bxA
      rw [c144 _ (by unfold n5; omega), c144 _ (by unfold n5; omega), c144 _ (by unfold n5; omega), c144 _ (by unfold n5; omega)]) (by rw [e300]; exact b2) (fun r hr => by rw [e147]; exact ok r hr)
    have ev : valR (s 144) (s 147) (B k) (fun _ => true) (s 144 (300 + 6 * (k : Int))) = VR σ B k := by
      rw [e300, e147]
      exact valR_ext (fun j j1 j2 => c144 j (by unfold n5; omega)) (fun _ _ _ => rfl)
    rw [ev] at e1
    have e305 : s 144 (300 + 6 * (k : Int) + 5) = σ 144 (305 + 6 * (k : Int)) := by
      rw [show 300 + 6 * (k : Int) + 5 = 305 + 6 * (k : Int) by omega]
      exact hv2 k (Nat.le_refl _) (by omega)
    have e158 : s1 158 (k : Int) = σ 158 (k : Int) := (e2 158 _ (Or.inl (by decide)) (by decide) (by decide)).trans (hf 158 _ (Or.inl (by decide)) (Or.inl (by decide)) (by decide) (by decide))
    have go : ∀ o : Int, w32 (σ 144 (305 + 6 * (k : Int)) + o) = chgA (σ 158 (k : Int)) (σ 144 (305 + 6 * (k : Int))) (VR σ B k) → ∃ v s', g_m_behind_L53 (g_m_behind_L6 n) (k : Int) o (s 144 (300 + 6 * (k : Int) + 5)) (300 + 6 * (k : Int) + 5) s1 = some (v, s') ∧ (∀ a j, (a ≠ 144 ∨ n5 j) → (a ≠ 143 ∨ (j ≠ 14 ∧ j ≠ 15 ∧ j ≠ 21 ∧ j ≠ 22 ∧ j ≠ 23)) → a ≠ 154 → a ≠ 155 → s' a j = σ a j) ∧ ∀ i : Nat, i < W → s' 144 (305 + 6 * (i : Int)) = chgA (σ 158 (i : Int)) (σ 144 (305 + 6 * (i : Int))) (VR σ B i) := by
      intro o ho
      rw [e305, show 300 + 6 * (k : Int) + 5 = 305 + 6 * (k : Int) by omega]
      generalize hs2 : zu s1 144 (305 + 6 * (k : Int)) (w32 (σ 144 (305 + 6 * (k : Int)) + o)) = s2
      have f144 : ∀ j, j ≠ 305 + 6 * (k : Int) → s2 144 j = s 144 j := fun j hj => by
        rw [← hs2, zu_i hj]
        exact e2 144 j (Or.inl (by decide)) (by decide) (by decide)
      obtain ⟨v', s', g1, g2, g3⟩ := t_behind6 hW hW2 hp hB ok d (k + 1) n s2 (by omega) (by omega) (fun a j h1 h2 h3 h4 => by
        by_cases ca : a = 144
        · subst ca
          have hn : n5 j := h1.resolve_left (fun h => h rfl)
          rw [f144 j (by unfold n5 at hn; omega)]
          exact c144 j hn
        · rw [← hs2, zu_a ca, e2 a j h2 h3 h4]
          exact hf a j h1 h2 h3 h4) (fun i hi => by
        by_cases ci : i = k
        · subst ci
          rw [← hs2, zu_e rfl]
          exact ho
        · rw [f144 _ (by omega)]
          exact hv i (by omega)) (fun i i1 i2 => by
        rw [f144 _ (by omega)]
        exact hv2 i (by omega) i2)
      refine ⟨v', s', ?_, g2, g3⟩
      unfold g_m_behind_L53
      rw [if_pos (by omega), w32_id (x := (k : Int) + 1) (by omega) (by omega)]
      rw [show ((k + 1 : Nat) : Int) = (k : Int) + 1 by omega, ← hs2] at g1
      exact g1
    unfold g_m_behind_L6
    simp only [h10]
    rw [if_neg (by omega), w32_id (x := 6 * (k : Int)) (by omega) (by omega), w32_id (x := 300 + 6 * (k : Int)) (by omega) (by omega), w32_id (x := 300 + 6 * (k : Int) + 5) (by omega) (by omega), if_pos (by omega), e1]
    rw [Option.bind_some]
    try dsimp +instances only
    rw [if_pos (by omega), e158]
    by_cases cv : VR σ B k = σ 158 (k : Int)
    · rw [if_pos (lCmp_eq.mpr cv)]
      exact go 0 (by
        unfold chgA
        rw [if_pos cv, w32_id (by omega) (by omega)]
        omega)
    · rw [if_neg (fun h => cv (lCmp_eq.mp h))]
      exact go 1 (by
        unfold chgA
        rw [if_neg cv])
/-- what the end of put() and take() makes -/
def chR (σ s : zS) (B : Nat → Bx) : Prop := (∀ j, (j = 10 ∨ (260 ≤ j ∧ j < 340 ∧ n5 j)) → s 144 j = σ 144 j) ∧ ∀ i : Nat, (i : Int) < σ 144 10 → s 144 (305 + 6 * (i : Int)) = chgA (σ 158 (i : Int)) (σ 144 (305 + 6 * (i : Int))) (VR s B i)
theorem t_behind {σ : zS} {N : Nat} {B : Nat → Bx} (hH : HI σ) (hR : RI σ N) (hN : σ 144 0 = (N : Int)) (hN2 : N ≤ 239) (hB : WR σ B) (ok : ok147 σ) : ∃ v s, g_m_behind σ = some (v, s) ∧ chR σ s B := by
  have hp : plR σ := hH.2.2.2.2.2.2
  obtain ⟨h12, h13, h8, h9, h10, -, -⟩ := hH
  obtain ⟨s1, N', e1, e2, e3, e4, e5, e6⟩ := s_trims hR hN hN2 h13.1 h12.1
  obtain ⟨W, hW⟩ : ∃ W : Nat, σ 144 10 = (W : Int) := ⟨(σ 144 10).toNat, by omega⟩
  have c144 : ∀ j, 8 ≤ j → j < 340 → s1 144 j = σ 144 j := fun j j1 j2 => e5 144 j (by omega) (Or.inl (by decide))
  have c147 : ∀ j, 1 ≤ j → j < 61 → s1 147 j = σ 147 j := fun j j1 j2 => e5 147 j (Or.inl (by decide)) (by omega)
  have c158 : ∀ j, s1 158 j = σ 158 j := fun j => e5 158 j (Or.inl (by decide)) (Or.inl (by decide))
  have hB1 : WR s1 B := WR_mv hB (fun j hj => c144 j (by omega) (by omega)) (fun k h1 h2 => by
    rw [c144 _ (by omega) (by omega)]
    exact (hB k h1 h2).2.2)
  obtain ⟨v, s2, f1, f2, f3⟩ := t_behind6 (σ := s1) (B := B) ((c144 10 (by omega) (by omega)).trans hW) (by omega) (fun r hr => by rw [c144 _ (by omega) (by omega), c144 _ (by omega) (by omega)]; exact hp r hr) hB1 (fun r hr => by rw [c147 _ (by omega) (by omega)]; exact ok r hr) W 0 zK s1 (by omega) (by show _ < 1000000; omega) (fun _ _ _ _ _ _ => rfl) (fun i hi => absurd hi (Nat.not_lt_zero _)) (fun _ _ _ => rfl)
  have d144 : ∀ j, 8 ≤ j → j < 340 → n5 j → s2 144 j = σ 144 j := fun j j1 j2 j3 => (f2 144 j (Or.inr j3) (Or.inl (by decide)) (by decide) (by decide)).trans (c144 j j1 j2)
  refine ⟨v, s2, ?_, fun j hj => d144 j (by omega) (by omega) (by unfold n5 at *; omega), fun i hi => ?_⟩
  · unfold g_m_behind
    rw [e1]
    exact f1
  · have ev : VR s2 B i = VR s1 B i := VR_ext (fun j j1 j2 => f2 144 j (Or.inr (by unfold n5; omega)) (Or.inl (by decide)) (by decide) (by decide)) (fun j _ _ => f2 147 j (Or.inl (by decide)) (Or.inl (by decide)) (by decide) (by decide)) (f2 144 _ (Or.inr (by unfold n5; omega)) (Or.inl (by decide)) (by decide) (by decide))
    rw [f3 i (by omega), ev, c158, c144 _ (by omega) (by omega)]
theorem t_put72W {σ : zS} {N : Nat} {B : Nat → Bx} {r x y v : Int} (hH : HI σ) (hR : RI σ N) (hN : σ 144 0 = (N : Int)) (hN2 : N ≤ 100) (hr : 0 ≤ r ∧ r < 60) (hx : 0 ≤ x ∧ x ≤ 31) (hy : 0 ≤ y ∧ y ≤ 31) (hB : WR σ B) (ok : ok147 σ) (hv : okL v) : ∃ c s, g_m_put_L72 r x y v σ = some (c, s) ∧ chR σ s B := by
  obtain ⟨k, rfl⟩ : ∃ k : Nat, r = (k : Int) := ⟨r.toNat, by omega⟩
  generalize hs1 : zu (zu (zu (zu σ 144 (20 + 3 * (k : Int)) 1) 144 (21 + 3 * (k : Int)) x) 144 (22 + 3 * (k : Int)) y) 147 (1 + (k : Int)) v = s1
  have f1 : ∀ a j, (a ≠ 144 ∨ j < 20 + 3 * (k : Int) ∨ 23 + 3 * (k : Int) ≤ j) → (a ≠ 147 ∨ j ≠ 1 + (k : Int)) → s1 a j = σ a j := fun a j h1 h2 => by
    rw [← hs1, zu_c h2, zu_c (by omega), zu_c (by omega), zu_c (by omega)]
  have rows1 : ∀ t : Nat, t < 60 → (0 ≤ s1 144 (21 + 3 * (t : Int)) ∧ s1 144 (21 + 3 * (t : Int)) ≤ 31) ∧ (0 ≤ s1 144 (22 + 3 * (t : Int)) ∧ s1 144 (22 + 3 * (t : Int)) ≤ 31) := fun t ht => by
    by_cases c : t = k
    · subst c
      have e1 : s1 144 (21 + 3 * (t : Int)) = x := by rw [← hs1, zu_a (by decide), zu_i (by omega), zu_e rfl]
      have e2 : s1 144 (22 + 3 * (t : Int)) = y := by rw [← hs1, zu_a (by decide), zu_e rfl]
      rw [e1, e2]
      exact ⟨hx, hy⟩
    · rw [f1 144 _ (by omega) (Or.inl (by decide)), f1 144 _ (by omega) (Or.inl (by decide))]
      exact hH.2.2.2.2.2.2 t ht
  have hH1 : HI s1 := HI_P hH (fun j hj => f1 144 j (by omega) (Or.inl (by decide))) rows1
  have hR1 : RI s1 N := RI_of hR (fun t ht => by
    unfold rgA bxA
    try dsimp only
    rw [f1 144 _ (by omega) (Or.inl (by decide)), f1 144 _ (by omega) (Or.inl (by decide)), f1 144 _ (by omega) (Or.inl (by decide)), f1 144 _ (by omega) (Or.inl (by decide)), f1 144 _ (by omega) (Or.inl (by decide)), f1 144 _ (by omega) (Or.inl (by decide)), f1 144 _ (by omega) (Or.inl (by decide)), f1 144 _ (by omega) (Or.inl (by decide))]
    exact ⟨rfl, rfl⟩)
  have hN1 : s1 144 0 = (N : Int) := (f1 144 0 (by omega) (Or.inl (by decide))).trans hN
  obtain ⟨s2, N2, g1, g2, g3, g4, g5⟩ := s_writes hR1 hN1 hN2 hx hy
  have hH2 : HI s2 := HI_fr8 hH1 (fun j h1 h2 => g5 144 j (Or.inr ⟨h1, h2⟩) (Or.inl (by decide)) (by decide) (by decide) (by decide))
  have c2 : ∀ j, (j = 10 ∨ (260 ≤ j ∧ j < 340)) → s2 144 j = σ 144 j := fun j hj => by
    rw [g5 144 j (Or.inr (by omega)) (Or.inl (by decide)) (by decide) (by decide) (by decide), f1 144 j (by omega) (Or.inl (by decide))]
  have hB2 : WR s2 B := WR_mv hB (fun j hj => c2 j (by omega)) (fun i h1 h2 => by
    rw [c2 _ (by omega)]
    exact (hB i h1 h2).2.2)
  have ok2 : ok147 s2 := fun q hq => by
    rw [g5 147 _ (Or.inl (by decide)) (by omega) (by decide) (by decide) (by decide)]
    by_cases c : q = k
    · subst c
      rw [← hs1, zu_e rfl]
      exact hv
    · rw [f1 147 _ (Or.inl (by decide)) (by omega)]
      exact ok q hq
  have e158 : ∀ j, s2 158 j = σ 158 j := fun j => (g5 158 j (Or.inl (by decide)) (Or.inl (by decide)) (by decide) (by decide) (by decide)).trans (f1 158 j (Or.inl (by decide)) (Or.inl (by decide)))
  obtain ⟨c, s3, k1, k2, k3⟩ := t_behind hH2 g2 g3 (by omega) hB2 ok2
  refine ⟨c, s3, ?_, fun j hj => (k2 j hj).trans (c2 j (by omega)), fun i hi => ?_⟩
  · unfold g_m_put_L72
    rw [s_rowAt (by omega) (by omega)]
    rw [Option.bind_some]
    try dsimp only
    rw [if_pos (by omega), s_rowAt (by omega) (by omega)]
    rw [Option.bind_some]
    try dsimp only
    rw [w32_id (x := 20 + 3 * (k : Int) + 1) (by omega) (by omega), if_pos (by omega), s_rowAt (by omega) (by omega)]
    rw [Option.bind_some]
    try dsimp only
    rw [w32_id (x := 20 + 3 * (k : Int) + 2) (by omega) (by omega), if_pos (by omega), w32_id (x := 1 + (k : Int)) (by omega) (by omega), if_pos (by omega), show 20 + 3 * (k : Int) + 1 = 21 + 3 * (k : Int) by omega, show 20 + 3 * (k : Int) + 2 = 22 + 3 * (k : Int) by omega, hs1, g1]
    rw [Option.bind_some]
    try dsimp only
    rw [k1]
    rfl
  · have h := k3 i (by rw [c2 10 (Or.inl rfl)]; exact hi)
    rw [e158, c2 _ (by have := hH.2.2.2.2.1; omega)] at h
    exact h
/-- what put() and take() make of the changes -/
def chP (σ s : zS) (B : Nat → Bx) : Prop := (∀ j, (j = 10 ∨ (260 ≤ j ∧ j < 340 ∧ n5 j)) → s 144 j = σ 144 j) ∧ ∀ i : Nat, (i : Int) < σ 144 10 → s 144 (305 + 6 * (i : Int)) = chgA (VR σ B i) (σ 144 (305 + 6 * (i : Int))) (VR s B i)
theorem t_putW {σ : zS} {B : Nat → Bx} {r x y v : Int} (hH : HI σ) (hI : NI σ) (hB : WR σ B) (ok : ok147 σ) (hv : okL v) : ∃ c s, g_m_put r x y v σ = some (c, s) ∧ (acc r x y v → chP σ s B) ∧ (¬ acc r x y v → s = σ) := by
  have same : ∀ c : Int, ¬ acc r x y v → ∃ c' s, (some (c, σ) : Option (Int × zS)) = some (c', s) ∧ (acc r x y v → chP σ s B) ∧ (¬ acc r x y v → s = σ) := fun c h => ⟨c, σ, rfl, fun k => absurd k h, fun _ => rfl⟩
  unfold g_m_put
  rw [s_isRow]
  rw [Option.bind_some]
  try dsimp only
  by_cases c1 : 0 ≤ r ∧ r < 60
  · rw [if_pos c1, if_pos (by decide)]
    by_cases c2 : 0 ≤ x ∧ x ≤ 31
    · rw [s_isIn_t c2.1 c2.2]
      rw [Option.bind_some]
      try dsimp only
      rw [if_neg (by decide)]
      by_cases c3 : 0 ≤ y ∧ y ≤ 31
      · rw [s_isIn_t c3.1 c3.2]
        rw [Option.bind_some]
        try dsimp only
        rw [if_neg (by decide)]
        by_cases c4 : lCmp v (-9223372036854775808) = 0
        · rw [if_pos c4]
          exact same _ (fun h => h.2.2.2.1 (lCmp_eq.mp c4))
        · rw [if_neg c4]
          by_cases c5 : lCmp v (-9223372036854775807) ≠ 0
          · rw [if_pos c5]
            have hacc : acc r x y v := ⟨c1, c2, c3, fun h => c4 (lCmp_eq.mpr h), fun h => c5 (lCmp_eq.mpr h)⟩
            obtain ⟨s1, e1, e2, e3⟩ := t_values (σ := σ) (B := B) hH.2.2.2.2.1 hH.2.2.2.2.2.2 hB ok
            rw [e1]
            rw [Option.bind_some]
            try dsimp only
            rw [s_rowAt (by omega) (by omega)]
            rw [Option.bind_some]
            try dsimp only
            rw [if_pos (by omega)]
            have hH1 := HI_V hH e2
            have e144 : ∀ j, s1 144 j = σ 144 j := fun j => e2 144 j (Or.inl (by decide)) (by decide) (by decide) (by decide)
            have e147 : ∀ j, s1 147 j = σ 147 j := fun j => e2 147 j (Or.inl (by decide)) (by decide) (by decide) (by decide)
            have hB1 : WR s1 B := WR_mv hB (fun j _ => e144 j) (fun k h1 h2 => by rw [e144]; exact (hB k h1 h2).2.2)
            have ok1 : ok147 s1 := fun q hq => by rw [e147]; exact ok q hq
            obtain ⟨N, n1, n2, n3⟩ := NI_fr (s := s1) hI (fun j _ => e144 j)
            split
            · obtain ⟨c, s, g1, g2, g3⟩ := t_put72W (v := v) hH1 n3 n2 (by omega) c1 c2 c3 hB1 ok1 hv
              refine ⟨c, s, g1, fun _ => ⟨fun j hj => (g2 j hj).trans (e144 j), fun i hi => ?_⟩, fun h => absurd hacc h⟩
              have h := g3 i (by rw [e144]; exact hi)
              rw [e144, e3 i hi] at h
              exact h
            · obtain ⟨s2, N2, g1, g2, g3, g4, g5⟩ := s_out hH1 n3 n2 (by omega) c1
              rw [g1]
              rw [Option.bind_some]
              try dsimp only
              have z1 : HI (zu s1 144 (20 + 3 * r) 0) := HI_P hH1 (fun j hj => zu_i (by omega)) (fun t ht => by rw [zu_i (by omega), zu_i (by omega)]; exact hH1.2.2.2.2.2.2 t ht)
              have hH2 : HI s2 := HI_fr8 z1 (fun j h1 h2 => g5 144 j (Or.inr ⟨h1, h2⟩) (Or.inl (by decide)) (by decide) (by decide) (by decide))
              have c2' : ∀ j, (j = 10 ∨ (260 ≤ j ∧ j < 340)) → s2 144 j = σ 144 j := fun j hj => by
                rw [g5 144 j (Or.inr (by omega)) (Or.inl (by decide)) (by decide) (by decide) (by decide), zu_i (by omega), e144]
              have hB2 : WR s2 B := WR_mv hB (fun j hj => c2' j (by omega)) (fun i h1 h2 => by
                rw [c2' _ (by omega)]
                exact (hB i h1 h2).2.2)
              have ok2 : ok147 s2 := fun q hq => by
                rw [g5 147 _ (Or.inl (by decide)) (by omega) (by decide) (by decide) (by decide), zu_a (by decide)]
                exact ok1 q hq
              have e158 : ∀ j, s2 158 j = s1 158 j := fun j => (g5 158 j (Or.inl (by decide)) (Or.inl (by decide)) (by decide) (by decide) (by decide)).trans (zu_a (by decide))
              obtain ⟨c, s, k1, k2, k3⟩ := t_put72W (v := v) hH2 g2 g3 (by omega) c1 c2 c3 hB2 ok2 hv
              refine ⟨c, s, k1, fun _ => ⟨fun j hj => (k2 j hj).trans (c2' j (by omega)), fun i hi => ?_⟩, fun h => absurd hacc h⟩
              have h := k3 i (by rw [c2' 10 (Or.inl rfl)]; exact hi)
              rw [c2' _ (by have := hH.2.2.2.2.1; omega), e158, e3 i hi] at h
              exact h
          · rw [if_neg c5]
            exact same _ (fun h => c5 (fun e => h.2.2.2.2 (lCmp_eq.mp e)))
      · rw [s_isIn_f (by omega)]
        exact same _ (fun h => c3 h.2.2.1)
    · rw [s_isIn_f (by omega)]
      exact same _ (fun h => c2 h.2.1)
  · rw [if_neg c1, if_neg (by decide)]
    exact same _ (fun h => c1 h.1)
theorem t_takeW {σ : zS} {B : Nat → Bx} {r : Int} (hH : HI σ) (hI : NI σ) (hB : WR σ B) (ok : ok147 σ) : ∃ c s, g_m_take r σ = some (c, s) ∧ ((0 ≤ r ∧ r < 60) ∧ σ 144 (20 + 3 * r) ≠ 0 → chP σ s B) ∧ (¬ ((0 ≤ r ∧ r < 60) ∧ σ 144 (20 + 3 * r) ≠ 0) → s = σ) := by
  have same : ∀ c : Int, ¬ ((0 ≤ r ∧ r < 60) ∧ σ 144 (20 + 3 * r) ≠ 0) → ∃ c' s, (some (c, σ) : Option (Int × zS)) = some (c', s) ∧ ((0 ≤ r ∧ r < 60) ∧ σ 144 (20 + 3 * r) ≠ 0 → chP σ s B) ∧ (¬ ((0 ≤ r ∧ r < 60) ∧ σ 144 (20 + 3 * r) ≠ 0) → s = σ) := fun c h => ⟨c, σ, rfl, fun k => absurd k h, fun _ => rfl⟩
  unfold g_m_take
  rw [s_isRow]
  rw [Option.bind_some]
  try dsimp only
  by_cases c1 : 0 ≤ r ∧ r < 60
  · rw [if_pos c1, if_pos (by decide), s_rowAt (by omega) (by omega)]
    rw [Option.bind_some]
    try dsimp +instances only
    rw [if_pos (by omega)]
    by_cases c2 : σ 144 (20 + 3 * r) ≠ 0
    · rw [if_pos c2]
      obtain ⟨s1, e1, e2, e3⟩ := t_values (σ := σ) (B := B) hH.2.2.2.2.1 hH.2.2.2.2.2.2 hB ok
      rw [e1]
      rw [Option.bind_some]
      try dsimp only
      have hH1 := HI_V hH e2
      have e144 : ∀ j, s1 144 j = σ 144 j := fun j => e2 144 j (Or.inl (by decide)) (by decide) (by decide) (by decide)
      have e147 : ∀ j, s1 147 j = σ 147 j := fun j => e2 147 j (Or.inl (by decide)) (by decide) (by decide) (by decide)
      obtain ⟨N, n1, n2, n3⟩ := NI_fr (s := s1) hI (fun j _ => e144 j)
      obtain ⟨s2, N2, g1, g2, g3, g4, g5⟩ := s_out hH1 n3 n2 (by omega) c1
      rw [g1]
      rw [Option.bind_some]
      try dsimp only
      have z1 : HI (zu s1 144 (20 + 3 * r) 0) := HI_P hH1 (fun j hj => zu_i (by omega)) (fun t ht => by rw [zu_i (by omega), zu_i (by omega)]; exact hH1.2.2.2.2.2.2 t ht)
      have hH2 : HI s2 := HI_fr8 z1 (fun j h1 h2 => g5 144 j (Or.inr ⟨h1, h2⟩) (Or.inl (by decide)) (by decide) (by decide) (by decide))
      have c2' : ∀ j, (j = 10 ∨ (260 ≤ j ∧ j < 340)) → s2 144 j = σ 144 j := fun j hj => by
        rw [g5 144 j (Or.inr (by omega)) (Or.inl (by decide)) (by decide) (by decide) (by decide), zu_i (by omega), e144]
      have hB2 : WR s2 B := WR_mv hB (fun j hj => c2' j (by omega)) (fun i h1 h2 => by
        rw [c2' _ (by omega)]
        exact (hB i h1 h2).2.2)
      have ok2 : ok147 s2 := fun q hq => by
        rw [g5 147 _ (Or.inl (by decide)) (by omega) (by decide) (by decide) (by decide), zu_a (by decide), e147]
        exact ok q hq
      have e158 : ∀ j, s2 158 j = s1 158 j := fun j => (g5 158 j (Or.inl (by decide)) (Or.inl (by decide)) (by decide) (by decide) (by decide)).trans (zu_a (by decide))
      obtain ⟨c, s3, k1, k2, k3⟩ := t_behind hH2 g2 g3 (by omega) hB2 ok2
      rw [k1]
      rw [Option.bind_some]
      refine ⟨c, s3, rfl, fun _ => ⟨fun j hj => (k2 j hj).trans (c2' j (by omega)), fun i hi => ?_⟩, fun h => absurd ⟨c1, c2⟩ h⟩
      have h := k3 i (by rw [c2' 10 (Or.inl rfl)]; exact hi)
      rw [c2' _ (by have := hH.2.2.2.2.1; omega), e158, e3 i hi] at h
      exact h
    · rw [if_neg c2]
      exact same _ (fun h => c2 h.2)
  · rw [if_neg c1, if_neg (by decide)]
    exact same _ (fun h => c1 h.1)
end
section
/-! 64.bank -/
/-! BOTH SIDES: the rows, how many boxes are traced and watched, the image of these -/
def inS (σ : zS) (m : Nat) (r : Nat) : Bool := decide (r < 60 ∧ σ m (20 + 3 * (r : Int)) = 1)
/-- the class's store at c tells the rows that m and mw tell -/
def RW (σ : zS) (c m mw : Nat) : Prop := ST σ c (inS σ m) ∧ ∀ r : Nat, r < 60 → (σ m (20 + 3 * (r : Int)) = 0 ∨ σ m (20 + 3 * (r : Int)) = 1) ∧ σ (c + 1) (r : Int) = σ m (21 + 3 * (r : Int)) ∧ σ (c + 2) (r : Int) = σ m (22 + 3 * (r : Int)) ∧ σ (c + 3) (r : Int) = σ mw (1 + (r : Int)) ∧ okL (σ mw (1 + (r : Int)))
/-- the boxes of the trace -/
def TR (σ : zS) (c m : Nat) : Prop := ∀ t : Nat, t < 10 → (t : Int) < σ m 9 → bOk (bxA σ m (260 + 4 * (t : Int))) ∧ σ (c + 23) (t : Int) = enc (bxA σ m (260 + 4 * (t : Int)))
/-- the watches -/
def WT (σ : zS) (c m : Nat) : Prop := ∀ k : Nat, k < 6 → (k : Int) < σ m 10 → bOk (bxA σ m (301 + 6 * (k : Int))) ∧ (0 ≤ σ m (300 + 6 * (k : Int)) ∧ σ m (300 + 6 * (k : Int)) ≤ 6) ∧ (-2147483648 ≤ σ m (305 + 6 * (k : Int)) ∧ σ m (305 + 6 * (k : Int)) < 2147483648) ∧ σ (c + 25) (k : Int) = σ m (300 + 6 * (k : Int)) ∧ σ (c + 26) (k : Int) = enc (bxA σ m (301 + 6 * (k : Int))) ∧ σ (c + 27) (k : Int) = σ m (305 + 6 * (k : Int))
def BK (σ : zS) (c m mw : Nat) : Prop := RW σ c m mw ∧ σ (c + 22) 1 = σ m 9 ∧ σ (c + 24) 5 = σ m 10 ∧ TR σ c m ∧ WT σ c m
theorem TR_mv {σ s : zS} {c c' m m' : Nat} (B : TR σ c m) (e : ∀ t : Nat, t < 10 → s (c' + 23) (t : Int) = σ (c + 23) (t : Int)) (em : ∀ j : Int, (j = 9 ∨ (260 ≤ j ∧ j < 300)) → s m' j = σ m j) : TR s c' m' := fun t ht h => by
  rw [em 9 (Or.inl rfl)] at h
  have hb : bxA s m' (260 + 4 * (t : Int)) = bxA σ m (260 + 4 * (t : Int)) := by
    unfold bxA
    rw [em _ (by omega), em _ (by omega), em _ (by omega), em _ (by omega)]
  rw [hb, e t ht]
  exact B t ht h
theorem WT_mv {σ s : zS} {c c' m m' : Nat} (B : WT σ c m) (e : ∀ k : Nat, 25 ≤ k → k ≤ 27 → ∀ j : Nat, j < 6 → s (c' + k) (j : Int) = σ (c + k) (j : Int)) (em : ∀ j : Int, (j = 10 ∨ (300 ≤ j ∧ j < 340)) → s m' j = σ m j) : WT s c' m' := fun k hk h => by
  rw [em 10 (Or.inl rfl)] at h
  have hb : bxA s m' (301 + 6 * (k : Int)) = bxA σ m (301 + 6 * (k : Int)) := by
    unfold bxA
    rw [em _ (by omega), em _ (by omega), em _ (by omega), em _ (by omega)]
  rw [hb, em _ (by omega), em _ (by omega), e 25 (by omega) (by omega) k hk, e 26 (by omega) (by omega) k hk, e 27 (by omega) (by omega) k hk]
  exact B k hk h
def Rel (σ : zS) : Prop := BK σ 41 144 147 ∧ (σ 39 2 ≠ 0 ↔ σ 143 6 ≠ 0) ∧ (σ 143 6 ≠ 0 → BK σ 74 145 148)
theorem RW_mv {σ s : zS} {c c' m m' mw mw' : Nat} (B : RW σ c m mw) (hc : 0 ≤ σ c 4 ∧ σ c 4 ≤ 60) (e4 : s c' 4 = σ c 4) (e : ∀ k : Nat, 1 ≤ k → k ≤ 4 → ∀ j : Nat, j < 60 → s (c' + k) (j : Int) = σ (c + k) (j : Int)) (e2 : ∀ k : Nat, 5 ≤ k → k ≤ 6 → ∀ j : Nat, j ≤ 32 → s (c' + k) (j : Int) = σ (c + k) (j : Int)) (em : ∀ j : Int, (20 ≤ j ∧ j < 200) → s m' j = σ m j) (ew : ∀ j : Int, 1 ≤ j → j < 61 → s mw' j = σ mw j) : RW s c' m' mw' := by
  obtain ⟨⟨b1, b2, b3, b5⟩, hr⟩ := B
  have eI : inS s m' = inS σ m := by
    funext r
    unfold inS
    by_cases c : r < 60
    · rw [em _ (by omega)]
    · rw [decide_eq_false (fun h => c h.1), decide_eq_false (fun h => c h.1)]
  have eo : ordL s c' = ordL σ c := by
    show sg (s (c' + 4)) 0 (s c' 4).toNat = sg (σ (c + 4)) 0 (σ c 4).toNat
    rw [e4]
    refine sg_ext _ 0 0 (fun j hj => ?_)
    rw [show (0 : Int) + (j : Int) = (j : Int) by omega]
    exact e 4 (by omega) (by omega) j (by omega)
  refine ⟨⟨?_, ?_, ?_, ?_⟩, fun r hr6 => ?_⟩
  · rw [eI]; exact b1
  · rw [eI]
    intro i q hi hq
    obtain ⟨g1, g2⟩ := b2 i q hi hq
    rw [e2 5 (by omega) (by omega) i hi, e2 6 (by omega) (by omega) i hi]
    by_cases cq : q < 60
    · rw [e 1 (by omega) (by omega) q cq, e 2 (by omega) (by omega) q cq]
      exact ⟨g1, g2⟩
    · have hI : inS σ m q = false := by
        unfold inS
        exact decide_eq_false (fun h => cq h.1)
      rw [hI, Bool.false_and] at g1 g2
      rw [g1, g2, hI, Bool.false_and, Bool.false_and]
      exact ⟨rfl, rfl⟩
  · rw [eo]
    have mem : ∀ a, a ∈ ordL σ c → ∃ r : Nat, a = (r : Int) ∧ r < 60 := fun a ha => by
      obtain ⟨r, h1, h2⟩ := (b5 a).mp ha
      exact ⟨r, h1, b1 r h2⟩
    refine List.Pairwise.imp_of_mem (fun {a b} ha hb h => ?_) b3
    obtain ⟨r1, rfl, q1⟩ := mem a ha
    obtain ⟨r2, rfl, q2⟩ := mem b hb
    show (s (c' + 1) (r1 : Int) * 32 + s (c' + 2) (r1 : Int)) * 60 + (r1 : Int) < (s (c' + 1) (r2 : Int) * 32 + s (c' + 2) (r2 : Int)) * 60 + (r2 : Int)
    rw [e 1 (by omega) (by omega) r1 q1, e 2 (by omega) (by omega) r1 q1, e 1 (by omega) (by omega) r2 q2, e 2 (by omega) (by omega) r2 q2]
    exact h
  · rw [eo, eI]; exact b5
  · obtain ⟨g1, g2, g3, g4, g5⟩ := hr r hr6
    rw [em _ (by omega), em _ (by omega), em _ (by omega), ew _ (by omega) (by omega), e 1 (by omega) (by omega) r hr6, e 2 (by omega) (by omega) r hr6, e 3 (by omega) (by omega) r hr6]
    exact ⟨g1, g2, g3, g4, g5⟩
/-- a measure of a box's rows is told alike -/
theorem val_eq {σ : zS} {c m mw : Nat} (R : RW σ c m mw) (B : Bx) (ms : Int) : valC σ c B ms = valR (σ m) (σ mw) B (fun _ => true) ms := by
  obtain ⟨⟨b1, b2, b3, b5⟩, hr⟩ := R
  have mem : ∀ a, a ∈ ordL σ c → ∃ q : Nat, a = (q : Int) ∧ q < 60 ∧ inS σ m q = true := fun a ha => by
    obtain ⟨q, h1, h2⟩ := (b5 a).mp ha
    exact ⟨q, h1, b1 q h2, h2⟩
  have hS : SL (KF (σ m)) (selF (σ m) B (fun _ => true)) (liC σ c B) := by
    refine ⟨?_, fun v => ?_⟩
    · refine List.Pairwise.imp_of_mem (fun {a b} ha hb h => ?_) (List.Pairwise.filter _ b3)
      obtain ⟨q1, rfl, h1, -⟩ := mem a (List.mem_filter.mp ha).1
      obtain ⟨q2, rfl, h2, -⟩ := mem b (List.mem_filter.mp hb).1
      obtain ⟨-, x1, y1, -⟩ := hr q1 h1
      obtain ⟨-, x2, y2, -⟩ := hr q2 h2
      unfold rkA at h
      rw [x1, y1, x2, y2] at h
      exact h
    · unfold liC
      rw [List.mem_filter]
      constructor
      · rintro ⟨h1, h2⟩
        obtain ⟨q, rfl, h3, h4⟩ := mem v h1
        obtain ⟨-, x1, y1, -⟩ := hr q h3
        have h2 := of_decide_eq_true h2
        rw [x1, y1] at h2
        have h5 := of_decide_eq_true h4
        exact ⟨q, h3, rfl, by omega, h2, rfl⟩
      · rintro ⟨q, h1, rfl, h2, h3, -⟩
        obtain ⟨z1, x1, y1, -⟩ := hr q h1
        refine ⟨(b5 _).mpr ⟨q, rfl, decide_eq_true ⟨h1, by omega⟩⟩, decide_eq_true ?_⟩
        rw [x1, y1]
        exact h3
  unfold valC valR
  rw [liR_eq hS]
  refine msF_ext (fun j hj => ?_)
  have hm := getD_mem hj
  obtain ⟨q, e, h3, -⟩ := mem _ (List.mem_filter.mp hm).1
  obtain ⟨-, -, -, w1, -⟩ := hr q h3
  rw [show ((j : Nat) : Int).toNat = j by omega, e, w1]
  exact (if_pos (by omega)).symm
theorem BK_mv {σ s : zS} {c c' m m' mw mw' : Nat} (B : BK σ c m mw) (hc : 0 ≤ σ c 4 ∧ σ c 4 ≤ 60) (e4 : s c' 4 = σ c 4) (e : ∀ k : Nat, 1 ≤ k → k ≤ 4 → ∀ j : Nat, j < 60 → s (c' + k) (j : Int) = σ (c + k) (j : Int)) (e2 : ∀ k : Nat, 5 ≤ k → k ≤ 6 → ∀ j : Nat, j ≤ 32 → s (c' + k) (j : Int) = σ (c + k) (j : Int)) (e22 : s (c' + 22) 1 = σ (c + 22) 1) (e24 : s (c' + 24) 5 = σ (c + 24) 5) (e23 : ∀ t : Nat, t < 10 → (t : Int) < σ (c + 22) 1 → s (c' + 23) (t : Int) = σ (c + 23) (t : Int)) (e25 : ∀ k : Nat, 25 ≤ k → k ≤ 27 → ∀ j : Nat, j < 6 → s (c' + k) (j : Int) = σ (c + k) (j : Int)) (em : ∀ j : Int, ((20 ≤ j ∧ j < 200) ∨ j = 9 ∨ j = 10 ∨ (260 ≤ j ∧ j < 340)) → s m' j = σ m j) (ew : ∀ j : Int, 1 ≤ j → j < 61 → s mw' j = σ mw j) : BK s c' m' mw' := by
  obtain ⟨b1, b2, b3, b4, b5⟩ := B
  refine ⟨RW_mv b1 hc e4 e e2 (fun j h => em j (Or.inl h)) ew, by rw [e22, em 9 (by omega)]; exact b2, by rw [e24, em 10 (by omega)]; exact b3, fun t ht h => ?_, WT_mv b5 e25 (fun j h => em j (by omega))⟩
  rw [em 9 (by omega)] at h
  have hb : bxA s m' (260 + 4 * (t : Int)) = bxA σ m (260 + 4 * (t : Int)) := by
    unfold bxA
    rw [em _ (by omega), em _ (by omega), em _ (by omega), em _ (by omega)]
  rw [hb, e23 t ht (by rw [b2]; exact h)]
  exact b4 t ht h
/-! what most calls keep -/
def rK (σ s : zS) : Prop := (∀ j : Int, ((20 ≤ j ∧ j < 200) ∨ j = 9 ∨ j = 10 ∨ (260 ≤ j ∧ j < 340)) → s 144 j = σ 144 j) ∧ (∀ j : Int, 1 ≤ j → j < 61 → s 147 j = σ 147 j) ∧ (∀ j : Int, s 145 j = σ 145 j ∧ s 148 j = σ 148 j) ∧ s 143 6 = σ 143 6
theorem rK.refl (σ : zS) : rK σ σ := ⟨fun _ _ => rfl, fun _ _ _ => rfl, fun _ => ⟨rfl, rfl⟩, rfl⟩
theorem rK.of {σ s : zS} (e : ∀ a j, ((a = 144 ∧ ((20 ≤ j ∧ j < 200) ∨ j = 9 ∨ j = 10 ∨ (260 ≤ j ∧ j < 340))) ∨ (a = 147 ∧ 1 ≤ j ∧ j < 61) ∨ a = 145 ∨ a = 148 ∨ (a = 143 ∧ j = 6)) → s a j = σ a j) : rK σ s := ⟨fun j h => e 144 j (by omega), fun j h1 h2 => e 147 j (by omega), fun j => ⟨e 145 j (by omega), e 148 j (by omega)⟩, e 143 6 (by omega)⟩
def cK (a : Nat) (j : Int) : Prop := stK a j ∨ (a = 63 ∧ j = 1) ∨ (a = 65 ∧ j = 5) ∨ (a = 39 ∧ j = 2) ∨ (75 ≤ a ∧ a ≤ 80) ∨ (a = 74 ∧ j = 4) ∨ (a = 96 ∧ j = 1) ∨ (a = 98 ∧ j = 5) ∨ (a = 64 ∨ a = 66 ∨ a = 67 ∨ a = 68 ∨ a = 97 ∨ a = 99 ∨ a = 100 ∨ a = 101)
def cE (σ s : zS) : Prop := ∀ a j, cK a j → s a j = σ a j
theorem cK_lt {a : Nat} {j : Int} (h : cK a j) : a < 143 := by
  unfold cK stK at h
  omega
/-- what a class's call changes, none of these -/
def cF (F : Nat → Int → Bool) : Prop := (∀ j, F 42 j = false ∧ F 43 j = false ∧ F 44 j = false ∧ F 45 j = false ∧ F 46 j = false ∧ F 47 j = false ∧ F 41 4 = false ∧ F 63 1 = false ∧ F 65 5 = false ∧ F 39 2 = false ∧ F 75 j = false ∧ F 76 j = false ∧ F 77 j = false ∧ F 78 j = false ∧ F 79 j = false ∧ F 80 j = false ∧ F 74 4 = false ∧ F 96 1 = false ∧ F 98 5 = false) ∧ ∀ j, F 64 j = false ∧ F 66 j = false ∧ F 67 j = false ∧ F 68 j = false ∧ F 97 j = false ∧ F 99 j = false ∧ F 100 j = false ∧ F 101 j = false
theorem cE.of {F : Nat → Int → Bool} {σ s : zS} (G : fr F σ s) (h : cF F) : cE σ s := fun a j k => by
  obtain ⟨h1, h2, h3, h4, h5, h6, h7, h8, h9, h10, h11, h12, h13, h14, h15, h16, h17, h18, h19⟩ := h.1 j
  obtain ⟨i1, i2, i3, i4, i5, i6, i7, i8⟩ := h.2 j
  rcases k with (rfl | rfl | rfl | rfl | rfl | rfl | ⟨rfl, rfl⟩) | ⟨rfl, rfl⟩ | ⟨rfl, rfl⟩ | ⟨rfl, rfl⟩ | k | ⟨rfl, rfl⟩ | ⟨rfl, rfl⟩ | ⟨rfl, rfl⟩ | rfl | rfl | rfl | rfl | rfl | rfl | rfl | rfl
  · exact G _ _ (Or.inr h1)
  · exact G _ _ (Or.inr h2)
  · exact G _ _ (Or.inr h3)
  · exact G _ _ (Or.inr h4)
  · exact G _ _ (Or.inr h5)
  · exact G _ _ (Or.inr h6)
  · exact G _ _ (Or.inr h7)
  · exact G _ _ (Or.inr h8)
  · exact G _ _ (Or.inr h9)
  · exact G _ _ (Or.inr h10)
  · have k6 : a = 75 ∨ a = 76 ∨ a = 77 ∨ a = 78 ∨ a = 79 ∨ a = 80 := by omega
    rcases k6 with rfl | rfl | rfl | rfl | rfl | rfl
    · exact G _ _ (Or.inr h11)
    · exact G _ _ (Or.inr h12)
    · exact G _ _ (Or.inr h13)
    · exact G _ _ (Or.inr h14)
    · exact G _ _ (Or.inr h15)
    · exact G _ _ (Or.inr h16)
  · exact G _ _ (Or.inr h17)
  · exact G _ _ (Or.inr h18)
  · exact G _ _ (Or.inr h19)
  · exact G _ _ (Or.inr i1)
  · exact G _ _ (Or.inr i2)
  · exact G _ _ (Or.inr i3)
  · exact G _ _ (Or.inr i4)
  · exact G _ _ (Or.inr i5)
  · exact G _ _ (Or.inr i6)
  · exact G _ _ (Or.inr i7)
  · exact G _ _ (Or.inr i8)
theorem rK.cls {F : Nat → Int → Bool} {σ s : zS} (G : fr F σ s) : rK σ s := rK.of (fun a j h => G a j (Or.inl (by omega)))
theorem cK_1 {a : Nat} {j : Int} (h1 : 42 ≤ a) (h2 : a ≤ 47) : cK a j := by
  have h : a = 42 ∨ a = 43 ∨ a = 44 ∨ a = 45 ∨ a = 46 ∨ a = 47 := by omega
  refine Or.inl ?_
  unfold stK
  rcases h with h | h | h | h | h | h
  · exact Or.inl h
  · exact Or.inr (Or.inl h)
  · exact Or.inr (Or.inr (Or.inl h))
  · exact Or.inr (Or.inr (Or.inr (Or.inl h)))
  · exact Or.inr (Or.inr (Or.inr (Or.inr (Or.inl h))))
  · exact Or.inr (Or.inr (Or.inr (Or.inr (Or.inr (Or.inl h)))))
theorem cK_2 {a : Nat} {j : Int} (h1 : 66 ≤ a) (h2 : a ≤ 68) : cK a j := by
  have h : a = 66 ∨ a = 67 ∨ a = 68 := by omega
  rcases h with h | h | h <;> subst h <;> (unfold cK; simp)
theorem cK_3 {a : Nat} {j : Int} (h1 : 99 ≤ a) (h2 : a ≤ 101) : cK a j := by
  have h : a = 99 ∨ a = 100 ∨ a = 101 := by omega
  rcases h with h | h | h <;> subst h <;> (unfold cK; simp)
theorem cK_4 {a : Nat} {j : Int} (h1 : 75 ≤ a) (h2 : a ≤ 80) : cK a j := Or.inr (Or.inr (Or.inr (Or.inr (Or.inl ⟨h1, h2⟩))))
theorem Rel_E {σ s : zS} (H : CI σ) (R : Rel σ) (e : cE σ s) (k : rK σ s) : Rel s := by
  obtain ⟨B, h6, Bi⟩ := R
  obtain ⟨k1, k2, k3, k4⟩ := k
  have c4 := CI.c4 (a := 41) H (by omega)
  have c4' := CI.c4 (a := 74) H (by omega)
  refine ⟨BK_mv B c4 (e 41 4 (by unfold cK stK; simp)) (fun k h1 h2 j _ => e (41 + k) _ (cK_1 (by omega) (by omega))) (fun k h1 h2 j _ => e (41 + k) _ (cK_1 (by omega) (by omega))) (e 63 1 (by unfold cK; simp)) (e 65 5 (by unfold cK; simp)) (fun t _ _ => e 64 _ (by unfold cK; simp)) (fun k h1 h2 j _ => e (41 + k) _ (cK_2 (by omega) (by omega))) k1 k2, ?_, fun h => ?_⟩
  · rw [e 39 2 (by unfold cK; simp), k4]; exact h6
  · rw [k4] at h
    exact BK_mv (Bi h) c4' (e 74 4 (by unfold cK; simp)) (fun k h1 h2 j _ => e (74 + k) _ (cK_4 (by omega) (by omega))) (fun k h1 h2 j _ => e (74 + k) _ (cK_4 (by omega) (by omega))) (e 96 1 (by unfold cK; simp)) (e 98 5 (by unfold cK; simp)) (fun t _ _ => e 97 _ (by unfold cK; simp)) (fun k h1 h2 j _ => e (74 + k) _ (cK_3 (by omega) (by omega))) (fun j _ => (k3 j).1) (fun j _ _ => (k3 j).2)
/-! the reference's calls that keep them -/
theorem k_same {m : zS → Option (Int × zS)} (h : ∀ s, MI s → ∃ w, m s = some (w, s)) : ∀ s, MI s → zO (m s) (fun _ s2 => rK s s2) := fun s hs => by
  obtain ⟨w, e⟩ := h s hs
  exact ⟨w, s, e, rK.refl s⟩
theorem k_spell {σ : zS} (h : MI σ) : zO (g_m_spell σ) (fun _ s => rK σ s) := by
  obtain ⟨N, hN2, hN, -⟩ := h.1
  unfold g_m_spell
  try dsimp only
  have q29 : zu σ 143 29 0 143 29 = 0 := zu_e rfl
  obtain ⟨v, s, e1, e2⟩ := s_spell7 hN2 N 0 zK (zu σ 143 29 0) (by omega) (by show _ < 1000000; omega) (by rw [zu_a (by decide)]; exact hN) (by omega) (by omega)
  exact ⟨v, s, e1, rK.of (fun a j k => by rw [e2.1 a j (by omega) (by omega), zu_c (by omega)])⟩
theorem k_explain {x0 x1 y0 y1 : Int} {σ : zS} (h : MI σ) : zO (g_m_explain x0 x1 y0 y1 σ) (fun _ s => rK σ s) := by
  unfold g_m_explain
  by_cases c : bOk (x0, x1, y0, y1)
  · rw [s_isBox_t c]
    rw [Option.bind_some]
    try dsimp only
    rw [if_pos (by decide), s_sets (by omega) (by rw [l152]; omega) (by rw [l152]; omega)]
    rw [Option.bind_some]
    try dsimp only
    generalize hs0 : zb σ 152 0 (x0, x1, y0, y1) = s0'
    have q0 : ∀ a j, a ≠ 152 → s0' a j = σ a j := fun a j k1 => by rw [← hs0, zb_a k1]
    obtain ⟨s1, M, N, e1, e2, e3, e4, e5, e6⟩ := s_missM (σ := s0') c (by rw [← hs0]; exact zb_bx rfl) (NI_fr h.1 (fun j _ => q0 144 j (by decide)))
    rw [e1]
    rw [Option.bind_some]
    try dsimp only
    have q1 : ∀ a j, a ≠ 150 → a ≠ 151 → (a ≠ 143 ∨ j ≠ 10) → a ≠ 152 → s1 a j = σ a j := fun a j k1 k2 k3 k4 => (e2 a j k1 k2 k3).trans (q0 a j k4)
    have q29 : zu s1 143 29 0 143 29 = 0 := zu_e rfl
    obtain ⟨v, s', g1, g2⟩ := s_exp39 (M := M) (N := N) (by omega) e6 N 0 zK (zu s1 143 29 0) (by omega) (by show _ < 1000000; omega) (by rw [zu_a (by decide), e2 144 0 (by decide) (by decide) (by decide)]; exact e5) (by rw [zu_i (by decide)]; exact e3) (by omega) (by omega)
    exact ⟨v, s', g1, rK.of (fun a j k => by rw [g2.1 a j (by omega) (by omega) (by omega), zu_c (by omega), q1 a j (by omega) (by omega) (by omega) (by omega)])⟩
  · rw [s_isBox_f c]
    rw [Option.bind_some]
    try dsimp only
    rw [if_neg (by decide)]
    exact ⟨_, σ, rfl, rK.refl σ⟩
theorem k_probe {x0 x1 y0 y1 : Int} {σ : zS} (h : MI σ) : zO (g_m_probe x0 x1 y0 y1 σ) (fun _ s => rK σ s) := by
  unfold g_m_probe
  by_cases c : bOk (x0, x1, y0, y1)
  · rw [s_isBox_t c]
    rw [Option.bind_some]
    try dsimp only
    rw [if_pos (by decide), s_sets (by omega) (by rw [l152]; omega) (by rw [l152]; omega)]
    rw [Option.bind_some]
    try dsimp only
    generalize hs0 : zb σ 152 0 (x0, x1, y0, y1) = s0'
    have q0 : ∀ a j, a ≠ 152 → s0' a j = σ a j := fun a j k1 => by rw [← hs0, zb_a k1]
    obtain ⟨s1, M, N, e1, e2, e3, e4, e5, e6⟩ := s_missM (σ := s0') c (by rw [← hs0]; exact zb_bx rfl) (NI_fr h.1 (fun j _ => q0 144 j (by decide)))
    rw [e1]
    rw [Option.bind_some]
    try dsimp only
    have q1 : ∀ a j, a ≠ 150 → a ≠ 151 → (a ≠ 143 ∨ j ≠ 10) → a ≠ 152 → s1 a j = σ a j := fun a j k1 k2 k3 k4 => (e2 a j k1 k2 k3).trans (q0 a j k4)
    obtain ⟨v, s', g1, g2, g3⟩ := s_probe39 (M := M) (N := N) (by omega) e6 N 0 zK (zu s1 143 32 0) 0 (by omega) (by show _ < 1000000; omega) (by rw [zu_a (by decide), e2 144 0 (by decide) (by decide) (by decide)]; exact e5) (by rw [zu_i (by decide)]; exact e3) (zu_e rfl) (by omega)
    exact ⟨v, s', g1, rK.of (fun a j k => by rw [g3 a j (by omega) (by omega), zu_c (by omega), q1 a j (by omega) (by omega) (by omega) (by omega)])⟩
  · rw [s_isBox_f c]
    rw [Option.bind_some]
    try dsimp only
    rw [if_neg (by decide)]
    exact ⟨_, σ, rfl, rK.refl σ⟩
theorem k_query {x x0 x1 y0 y1 : Int} {σ : zS} (h : MI σ) : zO (g_m_query x x0 x1 y0 y1 σ) (fun _ s => rK σ s) := by
  obtain ⟨v, s, e1, -, -, e4⟩ := s_query (x := x) (x0 := x0) (x1 := x1) (y0 := y0) (y1 := y1) h.2.1 h.1
  exact ⟨v, s, e1, rK.of (fun a j k => e4 a j (by omega) (by omega) (by omega) (by omega) (by omega) (by omega) (by omega) (by omega) (by omega))⟩
theorem k_flush {σ : zS} (_h : MI σ) : zO (g_m_flush σ) (fun _ s => rK σ s) := ⟨_, _, rfl, rK.of (fun a j k => zu_c (by omega))⟩
theorem rK_in {σ s : zS} (e1 : sameIn σ s 144 144 2740) (e2 : sameIn σ s 147 147 361) (e3 : frD σ s) : rK σ s := ⟨fun j h => e1 j (by omega) (by omega), fun j h1 h2 => e2 j (by omega) (by omega), fun j => ⟨e3 145 j (by decide) (by decide) (by decide) (by decide) (by decide) (by decide) (by decide) (by decide) (Or.inl (by decide)), e3 148 j (by decide) (by decide) (by decide) (by decide) (by decide) (by decide) (by decide) (by decide) (Or.inl (by decide))⟩, e3 143 6 (by decide) (by decide) (by decide) (by decide) (by decide) (by decide) (by decide) (by decide) (Or.inr (by decide))⟩
theorem k_again {x y : Int} {σ : zS} (h : MI σ) : zO (g_m_again x y σ) (fun _ s => rK σ s) := by
  obtain ⟨v, s, e, e1, e2, e3⟩ := s_again (x := x) (y := y) h.2.1
  exact ⟨v, s, e, rK_in e1 e2 e3⟩
theorem k_least {x : Int} {σ : zS} (h : MI σ) : zO (g_m_least x σ) (fun _ s => rK σ s) := by
  obtain ⟨v, s, e, e1, e2, e3⟩ := s_least (x := x) h.2.1
  exact ⟨v, s, e, rK_in e1 e2 e3⟩
theorem k_value {x : Int} {σ : zS} (h : MI σ) : zO (g_m_value x σ) (fun _ s => rK σ s) := by
  obtain ⟨v, s, e, e1⟩ := s_value (k := x) h.2.1.2.2.2.2.1
  exact ⟨v, s, e, rK.of (fun a j k => e1 a j (by omega) (by omega) (by omega))⟩
theorem k_settings {σ : zS} (h : MI σ) : zO (g_m_settings σ) (fun _ s => rK σ s) := by
  obtain ⟨v, s, e, -, -, e3⟩ := m_settings2 h
  exact ⟨v, s, e, rK.of (fun a j k => e3 a j (by omega))⟩
theorem k_run {σ : zS} (h : MI σ) : zO (g_m_run σ) (fun _ s => rK σ s) := by
  obtain ⟨v, s, e, -, -, e3⟩ := m_run2 h
  exact ⟨v, s, e, rK.of (fun a j k => e3 a j (by omega))⟩
theorem k_load {σ : zS} (h : MI σ) : zO (g_m_load σ) (fun _ s => rK σ s) := by
  obtain ⟨v, s, e, -, -, e3⟩ := m_load2 h
  exact ⟨v, s, e, rK.of (fun a j k => e3 a j (by omega))⟩
theorem k_clear {σ : zS} (h : MI σ) : zO (g_m_clear σ) (fun _ s => rK σ s) := by
  obtain ⟨s, e, -, -, e3⟩ := m_clear h
  exact ⟨_, s, e, rK.of (fun a j k => e3 a j (by omega))⟩
theorem k_feed {x : Int} {σ : zS} (h : MI σ) : zO (g_m_feed x σ) (fun _ s => rK σ s) := by
  obtain ⟨s, e, -, -, e3⟩ := m_feed (x := x) h
  exact ⟨_, s, e, rK.of (fun a j k => e3 a j (by omega) (by omega))⟩
theorem k_list {l x : Int} {σ : zS} (h : MI σ) : zO (g_m_list l x σ) (fun _ s => rK σ s) := by
  obtain ⟨s, e, -, e3, -⟩ := m_list (l := l) (x := x) h
  exact ⟨_, s, e, rK.of (fun a j k => e3 a j (by omega))⟩
theorem k_set {l i v : Int} {σ : zS} (h : MI σ) : zO (g_m_set l i v σ) (fun _ s => rK σ s) := by
  obtain ⟨s, e, -, e3⟩ := m_set (l := l) (i := i) (v := v) h
  exact ⟨_, s, e, rK.of (fun a j k => e3 a j (by omega))⟩
theorem k_move {l i o j x : Int} {σ : zS} (hi : i < 2147483648) (hj : j < 2147483648) (h : MI σ) : zO (g_m_move l i o j x σ) (fun _ s => rK σ s) := by
  obtain ⟨s, e, -, e3⟩ := m_move (l := l) (o := o) (x := x) h hi hj
  exact ⟨_, s, e, rK.of (fun a j k => e3 a j (by omega))⟩
theorem k_lay {l i : Int} {σ : zS} (hi : -2147483648 ≤ i ∧ i < 2147483648) (h : MI σ) : zO (g_m_lay l i σ) (fun _ s => rK σ s) := by
  obtain ⟨v, s, e, -, e3⟩ := m_lay (l := l) h hi
  exact ⟨_, s, e, rK.of (fun a j k => e3 a j (by omega))⟩
/-! pairs of calls that keep the relation -/
def Inv2 (σ : zS) : Prop := Inv σ ∧ Rel σ
/-- the class's call leaves the reference as it was and the kept cells -/
theorem two_k {σ : zS} {c : Option (Int × zS)} {m : zS → Option (Int × zS)} {Q : Int → Int → zS → Prop} (R : Rel σ) (H : CI σ) (o : two c m (fun v w s => Inv s ∧ Q v w s)) (hc : zP' c (fun _ s1 => CI s1 ∧ cE σ s1 ∧ rK σ s1 ∧ MI s1)) (hm : ∀ s, MI s → zO (m s) (fun _ s2 => rK s s2 ∧ ∀ a j, (a < 143 ∨ 168 ≤ a) → s2 a j = s a j)) : two c m (fun v w s => Inv2 s ∧ Q v w s) := by
  obtain ⟨v, s1, e1, w, s2, e2, I2, q⟩ := o
  obtain ⟨H1, k1, k2, M1⟩ := hc v s1 e1
  have h := zP'.of (hm s1 M1) w s2 e2
  have R1 := Rel_E H R k1 k2
  exact ⟨v, s1, e1, w, s2, e2, ⟨I2, Rel_E H1 R1 (fun a j k => h.2 a j (Or.inl (cK_lt k))) h.1⟩, q⟩
theorem hc_i {F : Nat → Int → Bool} {σ : zS} {c : Option (Int × zS)} {P : Int → zS → Prop} (I : Inv σ) (hc : zO c (fun v s => CI s ∧ fr F σ s ∧ P v s)) (f : cF F) : zP' c (fun _ s1 => CI s1 ∧ cE σ s1 ∧ rK σ s1 ∧ MI s1) := (zP'.of hc).imp (fun v s p => ⟨p.1, cE.of p.2.1 f, rK.cls p.2.1, MI_cls I.2.1 (fun a j h1 h2 => p.2.1 a j (Or.inl ⟨h1, h2⟩))⟩)
theorem hc_p {σ : zS} {c : Option (Int × zS)} {P : Int → Prop} (I : Inv σ) (hc : zOp c σ P) : zP' c (fun _ s1 => CI s1 ∧ cE σ s1 ∧ rK σ s1 ∧ MI s1) := fun v s e => by
  obtain ⟨v0, e0, -⟩ := hc
  rw [e0] at e
  cases e
  exact ⟨I.1, fun _ _ _ => rfl, rK.refl σ, I.2.1⟩
theorem hm_k {m : zS → Option (Int × zS)} (h1 : ∀ s, MI s → ∃ w s2, m s = some (w, s2) ∧ MI s2 ∧ frI s s2) (h2 : ∀ s, MI s → zO (m s) (fun _ s2 => rK s s2)) : ∀ s, MI s → zO (m s) (fun _ s2 => rK s s2 ∧ ∀ a j, (a < 143 ∨ 168 ≤ a) → s2 a j = s a j) := fun s hs => by
  obtain ⟨w, s2, e, -, h⟩ := h1 s hs
  exact ⟨w, s2, e, zP'.of (h2 s hs) w s2 e, fun a j k => h a j (by omega)⟩
theorem tt {c : Option (Int × zS)} {m : zS → Option (Int × zS)} (o : two c m (fun _ _ s => Inv s)) : two c m (fun _ _ s => Inv s ∧ True) := by
  obtain ⟨v, s1, e1, w, s2, e2, h⟩ := o
  exact ⟨v, s1, e1, w, s2, e2, h, trivial⟩
theorem ft {c : Option (Int × zS)} {m : zS → Option (Int × zS)} (o : two c m (fun _ _ s => Inv2 s ∧ True)) : two c m (fun _ _ s => Inv2 s) := by
  obtain ⟨v, s1, e1, w, s2, e2, h, -⟩ := o
  exact ⟨v, s1, e1, w, s2, e2, h⟩
end
section
/-! 65.special -/
/-! BOTH SIDES: put, take, rows and worths, traces and watches counted, the image -/
theorem nb {a b : Nat} (h : a ≠ b) : (a == b) = false := beq_false_of_ne h
theorem nb2 {a b : Nat} {j i : Int} (h : a ≠ b) : (a == b && j == i) = false := by rw [nb h]; rfl
theorem p_isBox {x0 x1 y0 y1 : Int} {σ : zS} : g_b_isBox x0 x1 y0 y1 σ = some (if bOk (x0, x1, y0, y1) then 1 else 0, σ) := by
  unfold g_b_isBox
  rw [p_isPlace]
  rw [Option.bind_some]
  try dsimp +instances only
  by_cases c : bOk (x0, x1, y0, y1)
  · rw [if_pos c]
    dsimp only [bOk] at c
    rw [if_pos (show 0 ≤ x0 ∧ x0 ≤ 31 ∧ 0 ≤ y0 ∧ y0 ≤ 31 by omega), if_neg (by decide), p_isPlace]
    rw [Option.bind_some]
    try dsimp +instances only
    rw [if_pos (show 0 ≤ x1 ∧ x1 ≤ 31 ∧ 0 ≤ y1 ∧ y1 ≤ 31 by omega), if_neg (by decide), if_neg (by omega), if_neg (by omega)]
  · rw [if_neg c]
    dsimp only [bOk] at c
    by_cases c1 : 0 ≤ x0 ∧ x0 ≤ 31 ∧ 0 ≤ y0 ∧ y0 ≤ 31
    · rw [if_pos c1, if_neg (by decide), p_isPlace]
      rw [Option.bind_some]
      try dsimp +instances only
      by_cases c2 : 0 ≤ x1 ∧ x1 ≤ 31 ∧ 0 ≤ y1 ∧ y1 ≤ 31
      · rw [if_pos c2, if_neg (by decide)]
        by_cases c3 : x1 < x0
        · rw [if_pos c3]
        · rw [if_neg c3, if_pos (by omega)]
      · rw [if_neg c2, if_pos rfl]
    · rw [if_neg c1, if_pos rfl]
theorem p_add {a : Nat} {x L : Int} {σ : zS} (hL : zLI (a + 1) = L) (hL2 : L ≤ 1000) (h0 : 0 ≤ σ a 1) : g_bs_add a x σ = if σ a 1 < L then some (1, zu (zu σ (a + 1) (σ a 1) x) a 1 (σ a 1 + 1)) else some (0, σ) := by
  unfold g_bs_add
  try dsimp only
  rw [if_neg (by omega), hL]
  by_cases c : σ a 1 < L
  · rw [if_pos c, if_pos c, if_pos ⟨h0, c⟩, zu_a (by omega), w32_id (by omega) (by omega)]
  · rw [if_neg c, if_neg c]
/-- what trace() answers and how many there are then -/
def trA (n x0 x1 y0 y1 : Int) : Int := if x0 ≠ -1 then (if bOk (x0, x1, y0, y1) then (if n ≠ 10 then n + 1 else -4) else -2) else 0
def trN (n x0 x1 y0 y1 : Int) : Int := if x0 ≠ -1 then (if bOk (x0, x1, y0, y1) then (if n ≠ 10 then n + 1 else n) else n) else 0
def trOk (n x0 x1 y0 y1 : Int) : Prop := x0 ≠ -1 ∧ bOk (x0, x1, y0, y1) ∧ n ≠ 10
theorem t_trace {x0 x1 y0 y1 : Int} {σ : zS} (h : 0 ≤ σ 144 9 ∧ σ 144 9 ≤ 10) : ∃ s, g_m_trace x0 x1 y0 y1 σ = some (trA (σ 144 9) x0 x1 y0 y1, s) ∧ s 144 9 = trN (σ 144 9) x0 x1 y0 y1 ∧ (∀ a j, (a ≠ 144 ∨ (j ≠ 9 ∧ j < 260)) → s a j = σ a j) ∧ (trOk (σ 144 9) x0 x1 y0 y1 → bxA s 144 (260 + 4 * σ 144 9) = (x0, x1, y0, y1) ∧ ∀ j, 260 ≤ j → (j < 260 + 4 * σ 144 9 ∨ 264 + 4 * σ 144 9 ≤ j) → s 144 j = σ 144 j) ∧ (¬ trOk (σ 144 9) x0 x1 y0 y1 → ∀ j, 260 ≤ j → s 144 j = σ 144 j) := by
  have l := l144
  unfold g_m_trace trA trN
  by_cases c : x0 ≠ -1
  · rw [if_pos c, if_pos c, if_pos c]
    by_cases c2 : bOk (x0, x1, y0, y1)
    · rw [s_isBox_t c2, if_pos c2, if_pos c2]
      rw [Option.bind_some]
      try dsimp +instances only
      rw [if_pos (by decide)]
      by_cases c3 : σ 144 9 ≠ 10
      · rw [if_pos c3, if_pos c3, if_pos c3, w32_id (x := 4 * σ 144 9) (by omega) (by omega), w32_id (x := 260 + 4 * σ 144 9) (by omega) (by omega), s_sets (by omega) (by omega) (by omega)]
        rw [Option.bind_some]
        try dsimp +instances only
        have q9 : zb σ 144 (260 + 4 * σ 144 9) (x0, x1, y0, y1) 144 9 = σ 144 9 := zb_i (by omega)
        rw [q9, w32_id (x := σ 144 9 + 1) (by omega) (by omega), zu_e rfl]
        refine ⟨_, rfl, zu_e rfl, fun a j hh => ?_, fun _ => ⟨?_, fun j j1 j2 => ?_⟩, fun hn => absurd ⟨c, c2, c3⟩ hn⟩
        · rw [zu_c (by omega)]
          by_cases ca : a = 144
          · subst ca; exact zb_i (by omega)
          · exact zb_a ca
        · rw [zu_bxi (by omega)]
          exact zb_bx rfl
        · rw [zu_i (by omega)]
          exact zb_i (by omega)
      · rw [if_neg c3, if_neg c3, if_neg c3]
        exact ⟨σ, rfl, rfl, fun _ _ _ => rfl, fun h => absurd h.2.2 c3, fun _ _ _ => rfl⟩
    · rw [s_isBox_f c2, if_neg c2, if_neg c2]
      rw [Option.bind_some]
      try dsimp +instances only
      rw [if_neg (by decide)]
      exact ⟨σ, rfl, rfl, fun _ _ _ => rfl, fun h => absurd h.2.1 c2, fun _ _ _ => rfl⟩
  · rw [if_neg c, if_neg c, if_neg c]
    exact ⟨_, rfl, zu_e rfl, fun a j hh => zu_c (by omega), fun h => absurd h.1 c, fun _ j hj => zu_i (by omega)⟩
theorem p_trace {x0 x1 y0 y1 : Int} {σ : zS} (h : 0 ≤ σ 63 1 ∧ σ 63 1 ≤ 10) : ∃ s, g_c_trace x0 x1 y0 y1 σ = some (trA (σ 63 1) x0 x1 y0 y1, s) ∧ s 63 1 = trN (σ 63 1) x0 x1 y0 y1 ∧ (∀ a j, a ≠ 64 → (a ≠ 63 ∨ j ≠ 1) → s a j = σ a j) ∧ (trOk (σ 63 1) x0 x1 y0 y1 → s 64 (σ 63 1) = enc (x0, x1, y0, y1) ∧ ∀ j, j ≠ σ 63 1 → s 64 j = σ 64 j) ∧ (¬ trOk (σ 63 1) x0 x1 y0 y1 → ∀ j, s 64 j = σ 64 j) := by
  unfold g_c_trace trA trN
  by_cases c : x0 ≠ -1
  · rw [if_pos c, if_pos c, if_pos c, p_isBox]
    rw [Option.bind_some]
    try dsimp +instances only
    by_cases c2 : bOk (x0, x1, y0, y1)
    · rw [if_pos c2, if_pos c2, if_pos c2, if_pos (by decide)]
      have hb := b_of (b := (x0, x1, y0, y1)) c2.s σ
      try dsimp only at hb
      rw [hb]
      rw [Option.bind_some]
      try dsimp +instances only
      rw [p_add (a := 63) (L := 10) rfl (by decide) h.1]
      by_cases c3 : σ 63 1 ≠ 10
      · rw [if_pos c3, if_pos c3, if_pos (by omega)]
        rw [Option.bind_some]
        try dsimp +instances only
        rw [if_neg (by decide), zu_e rfl]
        exact ⟨_, rfl, zu_e rfl, fun a j k1 k2 => by rw [zu_c k2, zu_a k1], fun _ => ⟨by rw [zu_a (by decide), zu_e rfl], fun j hj => by rw [zu_a (by decide), zu_i hj]⟩, fun hn => absurd ⟨c, c2, c3⟩ hn⟩
      · rw [if_neg c3, if_neg c3, if_neg (by omega)]
        rw [Option.bind_some]
        try dsimp +instances only
        rw [if_pos rfl]
        exact ⟨σ, rfl, rfl, fun _ _ _ _ => rfl, fun h => absurd h.2.2 c3, fun _ _ => rfl⟩
    · rw [if_neg c2, if_neg c2, if_neg c2, if_neg (by decide)]
      exact ⟨σ, rfl, rfl, fun _ _ _ _ => rfl, fun h => absurd h.2.1 c2, fun _ _ => rfl⟩
  · rw [if_neg c, if_neg c, if_neg c]
    exact ⟨_, rfl, zu_e rfl, fun a j _ k2 => zu_c k2, fun h => absurd h.1 c, fun _ j => zu_a (by decide)⟩
/-- what watch() answers and how many there are then -/
def wtA (n m x0 x1 y0 y1 : Int) : Int := if 0 ≤ m ∧ m ≤ 6 then (if bOk (x0, x1, y0, y1) then (if n ≠ 6 then n else -4) else -2) else -1
def wtN (n m x0 x1 y0 y1 : Int) : Int := if 0 ≤ m ∧ m ≤ 6 then (if bOk (x0, x1, y0, y1) then (if n ≠ 6 then n + 1 else n) else n) else n
def wtOk (n m x0 x1 y0 y1 : Int) : Prop := (0 ≤ m ∧ m ≤ 6) ∧ bOk (x0, x1, y0, y1) ∧ n ≠ 6
theorem t_watch {m x0 x1 y0 y1 : Int} {σ : zS} (h : 0 ≤ σ 144 10 ∧ σ 144 10 ≤ 6) : ∃ s, g_m_watch m x0 x1 y0 y1 σ = some (wtA (σ 144 10) m x0 x1 y0 y1, s) ∧ s 144 10 = wtN (σ 144 10) m x0 x1 y0 y1 ∧ (∀ a j, (a ≠ 144 ∨ (j ≠ 10 ∧ j < 300)) → s a j = σ a j) ∧ (wtOk (σ 144 10) m x0 x1 y0 y1 → s 144 (300 + 6 * σ 144 10) = m ∧ bxA s 144 (301 + 6 * σ 144 10) = (x0, x1, y0, y1) ∧ s 144 (305 + 6 * σ 144 10) = 0 ∧ ∀ j, 300 ≤ j → (j < 300 + 6 * σ 144 10 ∨ 306 + 6 * σ 144 10 ≤ j) → s 144 j = σ 144 j) ∧ (¬ wtOk (σ 144 10) m x0 x1 y0 y1 → ∀ j, 300 ≤ j → s 144 j = σ 144 j) := by
  have l := l144
  unfold g_m_watch wtA wtN
  by_cases c : 0 ≤ m ∧ m ≤ 6
  · rw [s_isIn_t c.1 c.2, if_pos c, if_pos c]
    rw [Option.bind_some]
    try dsimp +instances only
    rw [if_pos (by decide)]
    by_cases c2 : bOk (x0, x1, y0, y1)
    · rw [s_isBox_t c2, if_pos c2, if_pos c2]
      rw [Option.bind_some]
      try dsimp +instances only
      rw [if_pos (by decide)]
      by_cases c3 : σ 144 10 ≠ 6
      · rw [if_pos c3, if_pos c3, if_pos c3, w32_id (x := 6 * σ 144 10) (by omega) (by omega), w32_id (x := 300 + 6 * σ 144 10) (by omega) (by omega), if_pos (by omega), w32_id (x := 300 + 6 * σ 144 10 + 1) (by omega) (by omega), w32_id (x := 300 + 6 * σ 144 10 + 5) (by omega) (by omega), s_sets (by omega) (by omega) (by omega)]
        rw [Option.bind_some]
        try dsimp +instances only
        rw [if_pos (by omega)]
        generalize hs : zu (zb (zu σ 144 (300 + 6 * σ 144 10) m) 144 (300 + 6 * σ 144 10 + 1) (x0, x1, y0, y1)) 144 (300 + 6 * σ 144 10 + 5) 0 = s1
        have q : ∀ a j, (a ≠ 144 ∨ j < 300 ∨ 336 ≤ j) → s1 a j = σ a j := fun a j hh => by
          rw [← hs, zu_c (by omega)]
          by_cases ca : a = 144
          · subst ca
            rw [zb_i (by omega), zu_i (by omega)]
          · rw [zb_a ca, zu_a ca]
        have q10 : s1 144 10 = σ 144 10 := q 144 10 (by omega)
        rw [q10, w32_id (x := σ 144 10 + 1) (by omega) (by omega), zu_e rfl, w32_id (x := σ 144 10 + 1 - 1) (by omega) (by omega), show σ 144 10 + 1 - 1 = σ 144 10 by omega]
        refine ⟨_, rfl, zu_e rfl, fun a j hh => ?_, fun _ => ⟨?_, ?_, ?_, fun j j1 j2 => ?_⟩, fun hn => absurd ⟨c, c2, c3⟩ hn⟩
        · rw [zu_c (by omega)]
          exact q a j (by omega)
        · rw [zu_i (by omega), ← hs, zu_i (by omega), zb_i (by omega), zu_e rfl]
        · rw [zu_bxi (by omega), ← hs, show 301 + 6 * σ 144 10 = 300 + 6 * σ 144 10 + 1 by omega, zu_bxi (by omega)]
          exact zb_bx rfl
        · rw [zu_i (by omega), ← hs, show 305 + 6 * σ 144 10 = 300 + 6 * σ 144 10 + 5 by omega, zu_e rfl]
        · rw [zu_i (by omega), ← hs, zu_i (by omega), zb_i (by omega), zu_i (by omega)]
      · rw [if_neg c3, if_neg c3, if_neg c3]
        exact ⟨σ, rfl, rfl, fun _ _ _ => rfl, fun h => absurd h.2.2 c3, fun _ _ _ => rfl⟩
    · rw [s_isBox_f c2, if_neg c2, if_neg c2]
      rw [Option.bind_some]
      try dsimp +instances only
      rw [if_neg (by decide)]
      exact ⟨σ, rfl, rfl, fun _ _ _ => rfl, fun h => absurd h.2.1 c2, fun _ _ _ => rfl⟩
  · rw [s_isIn_f (by omega), if_neg c, if_neg c]
    rw [Option.bind_some]
    try dsimp +instances only
    rw [if_neg (by decide)]
    exact ⟨σ, rfl, rfl, fun _ _ _ => rfl, fun h => absurd h.1 c, fun _ _ _ => rfl⟩
theorem p_isMeasure {x : Int} {σ : zS} : g_fi_isMeasure x σ = some (if 0 ≤ x ∧ x ≤ 6 then 1 else 0, σ) := by
  unfold g_fi_isMeasure
  by_cases c1 : x < 0
  · rw [if_pos c1, if_neg (by omega)]
  · rw [if_neg c1]
    by_cases c2 : 6 < x
    · rw [if_pos c2, if_neg (by omega)]
    · rw [if_neg c2, if_pos (by omega)]
theorem p_watch {m x0 x1 y0 y1 : Int} {σ : zS} (h : 0 ≤ σ 65 5 ∧ σ 65 5 ≤ 6) : ∃ s, g_c_watch m x0 x1 y0 y1 σ = some (wtA (σ 65 5) m x0 x1 y0 y1, s) ∧ s 65 5 = wtN (σ 65 5) m x0 x1 y0 y1 ∧ (∀ a j, a ≠ 66 → a ≠ 67 → a ≠ 68 → (a ≠ 65 ∨ j ≠ 5) → s a j = σ a j) ∧ (wtOk (σ 65 5) m x0 x1 y0 y1 → (s 66 (σ 65 5) = m ∧ s 67 (σ 65 5) = enc (x0, x1, y0, y1) ∧ s 68 (σ 65 5) = 0) ∧ ∀ j, j ≠ σ 65 5 → s 66 j = σ 66 j ∧ s 67 j = σ 67 j ∧ s 68 j = σ 68 j) ∧ (¬ wtOk (σ 65 5) m x0 x1 y0 y1 → ∀ j, s 66 j = σ 66 j ∧ s 67 j = σ 67 j ∧ s 68 j = σ 68 j) := by
  unfold g_c_watch wtA wtN
  rw [p_isMeasure]
  rw [Option.bind_some]
  try dsimp +instances only
  by_cases c : 0 ≤ m ∧ m ≤ 6
  · rw [if_pos c, if_pos c, if_pos c, if_pos (by decide), p_isBox]
    rw [Option.bind_some]
    try dsimp +instances only
    by_cases c2 : bOk (x0, x1, y0, y1)
    · rw [if_pos c2, if_pos c2, if_pos c2, if_pos (by decide)]
      have hb := b_of (b := (x0, x1, y0, y1)) c2.s σ
      try dsimp only at hb
      rw [hb]
      rw [Option.bind_some]
      try dsimp +instances only
      unfold g_wa_add
      try dsimp +instances only
      by_cases c3 : σ 65 5 ≠ 6
      · rw [if_pos c3, if_pos c3, if_pos (by omega), if_pos (by omega), zu_a (by decide), if_pos (by omega), zu_a (by decide), zu_a (by decide), if_pos (by omega), zu_a (by decide), zu_a (by decide), zu_a (by decide)]
        rw [Option.bind_some]
        try dsimp +instances only
        rw [if_neg (by decide), zu_e rfl, w32_id (x := σ 65 5 + 1) (by omega) (by omega), w32_id (x := σ 65 5 + 1 - 1) (by omega) (by omega), show σ 65 5 + 1 - 1 = σ 65 5 by omega]
        exact ⟨_, rfl, zu_e rfl, fun a j k1 k2 k3 k4 => by rw [zu_c k4, zu_a k3, zu_a k2, zu_a k1], fun _ => ⟨⟨by rw [zu_a (by decide), zu_a (by decide), zu_a (by decide), zu_e rfl], by rw [zu_a (by decide), zu_a (by decide), zu_e rfl], by rw [zu_a (by decide), zu_e rfl]⟩, fun j hj => ⟨by rw [zu_a (by decide), zu_a (by decide), zu_a (by decide), zu_i hj], by rw [zu_a (by decide), zu_a (by decide), zu_i hj, zu_a (by decide)], by rw [zu_a (by decide), zu_i hj, zu_a (by decide), zu_a (by decide)]⟩⟩, fun hn => absurd ⟨c, c2, c3⟩ hn⟩
      · rw [if_neg c3, if_neg c3, if_neg (by omega)]
        rw [Option.bind_some]
        try dsimp +instances only
        rw [if_pos rfl]
        exact ⟨σ, rfl, rfl, fun _ _ _ _ _ _ => rfl, fun h => absurd h.2.2 c3, fun _ _ => ⟨rfl, rfl, rfl⟩⟩
    · rw [if_neg c2, if_neg c2, if_neg c2, if_neg (by decide)]
      exact ⟨σ, rfl, rfl, fun _ _ _ _ _ _ => rfl, fun h => absurd h.2.1 c2, fun _ _ => ⟨rfl, rfl, rfl⟩⟩
  · rw [if_neg c, if_neg c, if_neg c, if_neg (by decide)]
    exact ⟨σ, rfl, rfl, fun _ _ _ _ _ _ => rfl, fun h => absurd h.1 c, fun _ _ => ⟨rfl, rfl, rfl⟩⟩
/-! the class's store copied -/
theorem zcp_in {σ : zS} {a b : Nat} {dp n j : Int} (h1 : dp ≤ j) (h2 : j < dp + n) : zcp σ a 0 b dp n b j = σ a (j - dp) := by
  unfold zcp
  rw [if_pos ⟨rfl, h1, h2⟩, Int.zero_add]
theorem p_socopy {a0 a1 : Nat} (hd : a0 + 7 ≤ a1 ∨ a1 + 7 ≤ a0) {σ : zS} : ∃ s, g_so_copyFrom a0 a1 σ = some ((), s) ∧ s a0 4 = σ a1 4 ∧ (∀ k : Nat, 1 ≤ k → k ≤ 4 → ∀ j : Nat, j < 60 → s (a0 + k) (j : Int) = σ (a1 + k) (j : Int)) ∧ (∀ k : Nat, 5 ≤ k → k ≤ 6 → ∀ j : Nat, j ≤ 32 → s (a0 + k) (j : Int) = σ (a1 + k) (j : Int)) ∧ ∀ a j, (a < a0 ∨ a0 + 7 ≤ a) → s a j = σ a j := by
  unfold g_so_copyFrom
  try dsimp only
  refine ⟨_, rfl, ?_, fun k h1 h2 j hj => ?_, fun k h1 h2 j hj => ?_, fun a j h => ?_⟩
  · rw [zu_e rfl, zcp_a (by omega), zcp_a (by omega), zcp_a (by omega), zcp_a (by omega), zcp_a (by omega), zcp_a (by omega)]
  · rw [zu_a (by omega), zcp_a (by omega), zcp_a (by omega)]
    have ej : (j : Int) - 0 = (j : Int) := by omega
    by_cases c4 : k = 4
    · subst c4
      rw [zcp_in (by omega) (by omega), ej, zcp_a (by omega), zcp_a (by omega), zcp_a (by omega)]
    · rw [zcp_a (by omega)]
      by_cases c3 : k = 3
      · subst c3
        rw [zcp_in (by omega) (by omega), ej, zcp_a (by omega), zcp_a (by omega)]
      · rw [zcp_a (by omega)]
        by_cases c2 : k = 2
        · subst c2
          rw [zcp_in (by omega) (by omega), ej, zcp_a (by omega)]
        · have c1 : k = 1 := by omega
          subst c1
          rw [zcp_a (by omega), zcp_in (by omega) (by omega), ej]
  · rw [zu_a (by omega)]
    have ej : (j : Int) - 0 = (j : Int) := by omega
    by_cases c6 : k = 6
    · subst c6
      rw [zcp_in (by omega) (by omega), ej, zcp_a (by omega), zcp_a (by omega), zcp_a (by omega), zcp_a (by omega), zcp_a (by omega)]
    · have c5 : k = 5 := by omega
      subst c5
      rw [zcp_a (by omega), zcp_in (by omega) (by omega), ej, zcp_a (by omega), zcp_a (by omega), zcp_a (by omega), zcp_a (by omega)]
  · rw [zu_a (by omega), zcp_a (by omega), zcp_a (by omega), zcp_a (by omega), zcp_a (by omega), zcp_a (by omega), zcp_a (by omega)]
theorem p_at {a : Nat} {x : Int} {σ : zS} (h0 : 0 ≤ x) (h1 : x < σ a 1) (h2 : x < zLI (a + 1)) : g_bs_at a x σ = some (σ (a + 1) x, σ) := by
  unfold g_bs_at
  try dsimp only
  rw [if_neg (by omega), if_neg (by omega), if_neg (by omega), if_pos ⟨h0, h2⟩]
theorem p_bscopy7 {a0 a1 : Nat} {L : Int} (h1 : a0 ≠ a1) (h2 : a0 + 1 ≠ a1) (h3 : a1 + 1 ≠ a0) (hL : zLI (a0 + 1) = L) (hL1 : zLI (a1 + 1) = L) (hL2 : L ≤ 1000) : ∀ (n : Nat) (i : Nat) (σ : zS), σ a0 1 = (i : Int) → (i : Int) ≤ σ a1 1 → σ a1 1 ≤ L → zP' (g_bs_copyFrom_L7 a0 a1 n (i : Int) σ) (fun _ s => s a0 1 = σ a1 1 ∧ (∀ j : Nat, j < i → s (a0 + 1) (j : Int) = σ (a0 + 1) (j : Int)) ∧ (∀ j : Nat, i ≤ j → (j : Int) < σ a1 1 → s (a0 + 1) (j : Int) = σ (a1 + 1) (j : Int)) ∧ ∀ a j, a ≠ a0 → a ≠ a0 + 1 → s a j = σ a j)
  | 0, _, _, _, _, _ => zP'.no
  | n + 1, i, σ, hi, hle, hm => by
    unfold g_bs_copyFrom_L7
    try dsimp only
    refine zP'.ite (fun c => zP'.ret ⟨by show σ a0 1 = _; omega, fun _ _ => rfl, fun j j1 j2 => by omega, fun _ _ _ _ => rfl⟩) (fun c => ?_)
    rw [p_at (by omega) (by omega) (by omega)]
    rw [Option.bind_some]
    try dsimp +instances only
    rw [p_add hL hL2 (by omega), hi, if_pos (by omega)]
    rw [Option.bind_some]
    try dsimp +instances only
    generalize hs : zu (zu σ (a0 + 1) (i : Int) (σ (a1 + 1) (i : Int))) a0 1 ((i : Int) + 1) = s1
    have q : ∀ a j, a ≠ a0 → a ≠ a0 + 1 → s1 a j = σ a j := fun a j k1 k2 => by rw [← hs, zu_a k1, zu_a k2]
    have q1 : s1 a0 1 = ((i + 1 : Nat) : Int) := by rw [← hs, zu_e rfl]; omega
    have q2 : ∀ j : Int, s1 (a0 + 1) j = if j = (i : Int) then σ (a1 + 1) (i : Int) else σ (a0 + 1) j := fun j => by
      rw [← hs, zu_a (by omega)]
      by_cases cj : j = (i : Int)
      · rw [zu_e cj, if_pos cj]
      · rw [zu_i cj, if_neg cj]
    rw [w32_id (x := (i : Int) + 1) (by omega) (by omega), show (i : Int) + 1 = ((i + 1 : Nat) : Int) by omega]
    have qa : s1 a1 1 = σ a1 1 := q a1 1 (Ne.symm h1) (Ne.symm h2)
    refine (p_bscopy7 h1 h2 h3 hL hL1 hL2 n (i + 1) s1 q1 (by rw [qa]; omega) (by rw [qa]; exact hm)).imp (fun _ s p => ?_)
    obtain ⟨p1, p2, p3, p4⟩ := p
    rw [qa] at p1 p3
    refine ⟨p1, fun j hj => ?_, fun j j1 j2 => ?_, fun a j k1 k2 => (p4 a j k1 k2).trans (q a j k1 k2)⟩
    · rw [p2 j (by omega), q2, if_neg (by omega)]
    · by_cases cj : j = i
      · subst cj
        rw [p2 j (by omega), q2, if_pos rfl]
      · rw [p3 j (by omega) j2]
        exact q (a1 + 1) _ h3 (by omega)
theorem p_bscopy {a0 a1 : Nat} {L : Int} {σ : zS} (h1 : a0 ≠ a1) (h2 : a0 + 1 ≠ a1) (h3 : a1 + 1 ≠ a0) (hL : zLI (a0 + 1) = L) (hL1 : zLI (a1 + 1) = L) (hL2 : L ≤ 1000) (h4 : 0 ≤ σ a1 1 ∧ σ a1 1 ≤ L) : zP' (g_bs_copyFrom a0 a1 σ) (fun _ s => s a0 1 = σ a1 1 ∧ (∀ j : Nat, (j : Int) < σ a1 1 → s (a0 + 1) (j : Int) = σ (a1 + 1) (j : Int)) ∧ ∀ a j, a ≠ a0 → a ≠ a0 + 1 → s a j = σ a j) := by
  unfold g_bs_copyFrom
  try dsimp only
  have qa : zu σ a0 1 0 a1 1 = σ a1 1 := zu_a (Ne.symm h1)
  refine (p_bscopy7 h1 h2 h3 hL hL1 hL2 zK 0 (zu σ a0 1 0) (zu_e rfl) (by rw [qa]; omega) (by rw [qa]; exact h4.2)).imp (fun _ s p => ?_)
  obtain ⟨p1, p2, p3, p4⟩ := p
  rw [qa] at p1 p3
  refine ⟨p1, fun j hj => ?_, fun a j k1 k2 => by rw [p4 a j k1 k2, zu_a k1]⟩
  rw [p3 j (by omega) hj, zu_a h3]
theorem p_st_img {σ : zS} (H : CI σ) (ht : σ 63 1 ≤ 10) : zP' (g_st_copyFrom 73 40 σ) (fun _ s => s 74 4 = σ 41 4 ∧ (∀ k : Nat, 1 ≤ k → k ≤ 4 → ∀ j : Nat, j < 60 → s (74 + k) (j : Int) = σ (41 + k) (j : Int)) ∧ (∀ k : Nat, 5 ≤ k → k ≤ 6 → ∀ j : Nat, j ≤ 32 → s (74 + k) (j : Int) = σ (41 + k) (j : Int)) ∧ s 96 1 = σ 63 1 ∧ s 98 5 = σ 65 5 ∧ (∀ t : Nat, t < 10 → (t : Int) < σ 63 1 → s 97 (t : Int) = σ 64 (t : Int)) ∧ (∀ k : Nat, 25 ≤ k → k ≤ 27 → ∀ j : Nat, j < 6 → s (74 + k) (j : Int) = σ (41 + k) (j : Int)) ∧ ∀ a j, (a < 73 ∨ 104 ≤ a) → a < 106 → s a j = σ a j) := by
  have h1 := CI.c1 (a := 63) H (by omega)
  unfold g_st_copyFrom
  obtain ⟨t1, e1, k1, k2, k3, k4⟩ := p_socopy (a0 := 74) (a1 := 41) (by omega) (σ := σ)
  have G1 := zP'.of (g_so_copyFrom_sp (a0 := 74) (a1 := 41) (by omega) (by omega) H) _ _ e1
  rw [e1]
  rw [Option.bind_some]
  try dsimp +instances only
  refine zP'.bind (zP'.of (g_ca_copyFrom_sp (a0 := 81) (a1 := 48) (by omega) (by omega) G1.1)) (fun _ t2 p2 => ?_)
  obtain ⟨H2, G2, -⟩ := p2
  try dsimp +instances only
  refine zP'.bind (zP'.of (g_fi_copyFrom_sp (a0 := 93) (a1 := 60) (by omega) (by omega) H2)) (fun _ t3 p3 => ?_)
  obtain ⟨H3, G3, -⟩ := p3
  try dsimp +instances only
  have f2 : ∀ a j, (a < 81 ∨ 89 ≤ a) → a < 106 → t2 a j = t1 a j := fun a j h h2 => G2 a j (Or.inr (by
    unfold fw_ca_copyFrom fw_se_copyFrom
    repeat' (first | exact nb2 (by omega) | exact nb (by omega) | exact rfl | refine orf ?_ ?_)))
  have f3 : ∀ a j, (a < 93 ∨ 96 ≤ a) → a < 106 → t3 a j = t2 a j := fun a j h h2 => G3 a j (Or.inr (by
    unfold fw_fi_copyFrom
    repeat' (first | exact nb2 (by omega) | exact nb (by omega) | exact rfl | refine orf ?_ ?_)))
  have c23 : t3 63 1 = σ 63 1 := by rw [f3 _ _ (by omega) (by omega), f2 _ _ (by omega) (by omega), k4 _ _ (by omega)]
  refine zP'.bind (p_bscopy (a0 := 96) (a1 := 63) (L := 10) (σ := t3) (by decide) (by decide) (by decide) rfl rfl (by decide) (by rw [c23]; omega)) (fun _ t4 p4 => ?_)
  obtain ⟨m1, m2, m3⟩ := p4
  try dsimp +instances only
  unfold g_wa_copyFrom
  rw [Option.bind_some]
  try dsimp +instances only
  generalize hs : zu (zcp (zcp (zcp t4 (65 + 1) 0 (98 + 1) 0 6) (65 + 2) 0 (98 + 2) 0 6) (65 + 3) 0 (98 + 3) 0 6) 98 5 (zcp (zcp (zcp t4 (65 + 1) 0 (98 + 1) 0 6) (65 + 2) 0 (98 + 2) 0 6) (65 + 3) 0 (98 + 3) 0 6 65 5) = t5
  have f5 : ∀ a j, (a < 98 ∨ 102 ≤ a) → t5 a j = t4 a j := fun a j h => by rw [← hs, zu_a (by omega), zcp_a (by omega), zcp_a (by omega), zcp_a (by omega)]
  have g5 : t5 98 5 = t4 65 5 := by rw [← hs, zu_e rfl, zcp_a (by omega), zcp_a (by omega), zcp_a (by omega)]
  have lo : ∀ a j, (74 ≤ a ∧ a ≤ 80) → t5 a j = t1 a j := fun a j h => by
    rw [f5 a j (by omega), m3 a j (by omega) (by omega), f3 a j (by omega) (by omega), f2 a j (by omega) (by omega)]
  refine zP'.ret ⟨?_, fun k i1 i2 j hj => ?_, fun k i1 i2 j hj => ?_, ?_, ?_, fun t _ ht2 => ?_, fun k i1 i2 j hj => ?_, fun a j h h2 => ?_⟩
  · show t5 74 4 = _
    rw [lo _ _ (by omega)]; exact k1
  · show t5 (74 + k) _ = _
    rw [lo _ _ (by omega)]; exact k2 k i1 i2 j hj
  · show t5 (74 + k) _ = _
    rw [lo _ _ (by omega)]; exact k3 k i1 i2 j hj
  · show t5 96 1 = _
    rw [f5 _ _ (by omega), m1, c23]
  · show t5 98 5 = _
    rw [g5, m3 _ _ (by decide) (by decide), f3 _ _ (by omega) (by omega), f2 _ _ (by omega) (by omega), k4 _ _ (by omega)]
  · show t5 97 _ = _
    rw [f5 _ _ (by omega), m2 t (by rw [c23]; exact ht2)]
    show t3 64 _ = _
    rw [f3 _ _ (by omega) (by omega), f2 _ _ (by omega) (by omega), k4 _ _ (by omega)]
  · have e4 : ∀ j2, t4 (41 + k) j2 = σ (41 + k) j2 := fun j2 => by
      rw [m3 _ _ (by omega) (by omega), f3 _ _ (by omega) (by omega), f2 _ _ (by omega) (by omega), k4 _ _ (by omega)]
    show t5 (74 + k) _ = _
    rw [← hs, zu_a (by omega)]
    have ej : (j : Int) - 0 = (j : Int) := by omega
    by_cases c27 : k = 27
    · subst c27
      rw [zcp_in (by omega) (by omega), ej, zcp_a (by omega), zcp_a (by omega)]
      exact e4 _
    · rw [zcp_a (by omega)]
      by_cases c26 : k = 26
      · subst c26
        rw [zcp_in (by omega) (by omega), ej, zcp_a (by omega)]
        exact e4 _
      · have c25 : k = 25 := by omega
        subst c25
        rw [zcp_a (by omega), zcp_in (by omega) (by omega), ej]
        exact e4 _
  · show t5 a j = _
    rw [f5 a j (by omega), m3 a j (by omega) (by omega), f3 a j (by omega) h2, f2 a j (by omega) h2, k4 a j (by omega)]
theorem p_st_und {σ : zS} (H : CI σ) (ht : σ 96 1 ≤ 10) : zP' (g_st_copyFrom 40 73 σ) (fun _ s => s 41 4 = σ 74 4 ∧ (∀ k : Nat, 1 ≤ k → k ≤ 4 → ∀ j : Nat, j < 60 → s (41 + k) (j : Int) = σ (74 + k) (j : Int)) ∧ (∀ k : Nat, 5 ≤ k → k ≤ 6 → ∀ j : Nat, j ≤ 32 → s (41 + k) (j : Int) = σ (74 + k) (j : Int)) ∧ s 63 1 = σ 96 1 ∧ s 65 5 = σ 98 5 ∧ (∀ t : Nat, t < 10 → (t : Int) < σ 96 1 → s 64 (t : Int) = σ 97 (t : Int)) ∧ (∀ k : Nat, 25 ≤ k → k ≤ 27 → ∀ j : Nat, j < 6 → s (41 + k) (j : Int) = σ (74 + k) (j : Int)) ∧ ∀ a j, (a < 40 ∨ 71 ≤ a) → a < 106 → s a j = σ a j) := by
  have h1 := CI.c1 (a := 96) H (by omega)
  unfold g_st_copyFrom
  obtain ⟨t1, e1, k1, k2, k3, k4⟩ := p_socopy (a0 := 41) (a1 := 74) (by omega) (σ := σ)
  have G1 := zP'.of (g_so_copyFrom_sp (a0 := 41) (a1 := 74) (by omega) (by omega) H) _ _ e1
  rw [e1]
  rw [Option.bind_some]
  try dsimp +instances only
  refine zP'.bind (zP'.of (g_ca_copyFrom_sp (a0 := 48) (a1 := 81) (by omega) (by omega) G1.1)) (fun _ t2 p2 => ?_)
  obtain ⟨H2, G2, -⟩ := p2
  try dsimp +instances only
  refine zP'.bind (zP'.of (g_fi_copyFrom_sp (a0 := 60) (a1 := 93) (by omega) (by omega) H2)) (fun _ t3 p3 => ?_)
  obtain ⟨H3, G3, -⟩ := p3
  try dsimp +instances only
  have f2 : ∀ a j, (a < 48 ∨ 56 ≤ a) → a < 106 → t2 a j = t1 a j := fun a j h h2 => G2 a j (Or.inr (by
    unfold fw_ca_copyFrom fw_se_copyFrom
    repeat' (first | exact nb2 (by omega) | exact nb (by omega) | exact rfl | refine orf ?_ ?_)))
  have f3 : ∀ a j, (a < 60 ∨ 63 ≤ a) → a < 106 → t3 a j = t2 a j := fun a j h h2 => G3 a j (Or.inr (by
    unfold fw_fi_copyFrom
    repeat' (first | exact nb2 (by omega) | exact nb (by omega) | exact rfl | refine orf ?_ ?_)))
  have c23 : t3 96 1 = σ 96 1 := by rw [f3 _ _ (by omega) (by omega), f2 _ _ (by omega) (by omega), k4 _ _ (by omega)]
  refine zP'.bind (p_bscopy (a0 := 63) (a1 := 96) (L := 10) (σ := t3) (by decide) (by decide) (by decide) rfl rfl (by decide) (by rw [c23]; omega)) (fun _ t4 p4 => ?_)
  obtain ⟨m1, m2, m3⟩ := p4
  try dsimp +instances only
  unfold g_wa_copyFrom
  rw [Option.bind_some]
  try dsimp +instances only
  generalize hs : zu (zcp (zcp (zcp t4 (98 + 1) 0 (65 + 1) 0 6) (98 + 2) 0 (65 + 2) 0 6) (98 + 3) 0 (65 + 3) 0 6) 65 5 (zcp (zcp (zcp t4 (98 + 1) 0 (65 + 1) 0 6) (98 + 2) 0 (65 + 2) 0 6) (98 + 3) 0 (65 + 3) 0 6 98 5) = t5
  have f5 : ∀ a j, (a < 65 ∨ 69 ≤ a) → t5 a j = t4 a j := fun a j h => by rw [← hs, zu_a (by omega), zcp_a (by omega), zcp_a (by omega), zcp_a (by omega)]
  have g5 : t5 65 5 = t4 98 5 := by rw [← hs, zu_e rfl, zcp_a (by omega), zcp_a (by omega), zcp_a (by omega)]
  have lo : ∀ a j, (41 ≤ a ∧ a ≤ 47) → t5 a j = t1 a j := fun a j h => by
    rw [f5 a j (by omega), m3 a j (by omega) (by omega), f3 a j (by omega) (by omega), f2 a j (by omega) (by omega)]
  refine zP'.ret ⟨?_, fun k i1 i2 j hj => ?_, fun k i1 i2 j hj => ?_, ?_, ?_, fun t _ ht2 => ?_, fun k i1 i2 j hj => ?_, fun a j h h2 => ?_⟩
  · show t5 41 4 = _
    rw [lo _ _ (by omega)]; exact k1
  · show t5 (41 + k) _ = _
    rw [lo _ _ (by omega)]; exact k2 k i1 i2 j hj
  · show t5 (41 + k) _ = _
    rw [lo _ _ (by omega)]; exact k3 k i1 i2 j hj
  · show t5 63 1 = _
    rw [f5 _ _ (by omega), m1, c23]
  · show t5 65 5 = _
    rw [g5, m3 _ _ (by decide) (by decide), f3 _ _ (by omega) (by omega), f2 _ _ (by omega) (by omega), k4 _ _ (by omega)]
  · show t5 64 _ = _
    rw [f5 _ _ (by omega), m2 t (by rw [c23]; exact ht2)]
    show t3 97 _ = _
    rw [f3 _ _ (by omega) (by omega), f2 _ _ (by omega) (by omega), k4 _ _ (by omega)]
  · have e4 : ∀ j2, t4 (74 + k) j2 = σ (74 + k) j2 := fun j2 => by
      rw [m3 _ _ (by omega) (by omega), f3 _ _ (by omega) (by omega), f2 _ _ (by omega) (by omega), k4 _ _ (by omega)]
    show t5 (41 + k) _ = _
    rw [← hs, zu_a (by omega)]
    have ej : (j : Int) - 0 = (j : Int) := by omega
    by_cases c27 : k = 27
    · subst c27
      rw [zcp_in (by omega) (by omega), ej, zcp_a (by omega), zcp_a (by omega)]
      exact e4 _
    · rw [zcp_a (by omega)]
      by_cases c26 : k = 26
      · subst c26
        rw [zcp_in (by omega) (by omega), ej, zcp_a (by omega)]
        exact e4 _
      · have c25 : k = 25 := by omega
        subst c25
        rw [zcp_a (by omega), zcp_in (by omega) (by omega), ej]
        exact e4 _
  · show t5 a j = _
    rw [f5 a j (by omega), m3 a j (by omega) (by omega), f3 a j (by omega) h2, f2 a j (by omega) h2, k4 a j (by omega)]
end
section
/-! 65b.ans -/
/-! WHAT IS ASKED, of both sides: the answer of a query, what it finds; the value and the changes of a watch -/
def quC (σ : zS) (m x0 x1 y0 y1 : Int) : Int := if 0 ≤ m ∧ m ≤ 6 then (if bOk (x0, x1, y0, y1) then valC σ 41 (x0, x1, y0, y1) m else -9223372036854775808) else -9223372036854775808
/-- the class's find is that of a set of rows -/
def fnC (σ s : zS) (B : Bx) : Prop := s 60 2 = ((liC σ 41 B).length : Int) ∧ sg (s 61) 0 (liC σ 41 B).length = liC σ 41 B ∧ ∀ j : Nat, j < (liC σ 41 B).length → s 62 (j : Int) = σ 44 ((liC σ 41 B).getD j 0)
theorem p_done {σ : zS} {I : Nat → Bool} {B : Bx} {m : Int} (H : CI σ) (S : ST σ 41 I) (hb : bOk B) (hm : 0 ≤ m ∧ m ≤ 6) (ok : ok44 σ) : zP' (g_c_done m (enc B) (-1) σ) (fun v s => v = valC σ 41 B m ∧ fnC σ s B) := by
  unfold g_c_done
  refine zP'.bind (zP'.of (g_ca_serve_sp (a0 := 48) (by omega) H)) (fun _ s1 p1 => ?_)
  obtain ⟨H1, G1, -⟩ := p1
  have e : stE σ s1 := stE.of G1 (fun _ => ⟨rfl, rfl, rfl, rfl, rfl, rfl, rfl⟩)
  have S1 := ST_E S e
  try dsimp +instances only
  obtain ⟨rows, e1, e2⟩ := p_rowsIn (σ := s1) (b := B) S1.2.1 hb
  rw [e1]
  rw [Option.bind_some]
  try dsimp +instances only
  have e44 : s1 44 = σ 44 := funext (fun j => e 44 j (by unfold stK; omega))
  refine zP'.bind (p_fiMeas (a := 60) (by omega) (B := B) H1 S1 hm (fun r hr => by rw [e44]; exact ok r hr) (fun q hq => by
    rw [bq_and, e2 q (by omega), bq_m1 (by omega), Bool.and_true])) (fun _ s p => ?_)
  obtain ⟨-, p2, p3, p4, p5⟩ := p
  try dsimp +instances only
  refine zP'.bind p5 (fun v t q => ?_)
  have el : liC s1 41 B = liC σ 41 B := by
    have e42 : s1 42 = σ 42 := funext (fun j => e 42 j (by unfold stK; omega))
    have e43 : s1 43 = σ 43 := funext (fun j => e 43 j (by unfold stK; omega))
    have e45 : s1 45 = σ 45 := funext (fun j => e 45 j (by unfold stK; omega))
    have e4 : s1 41 4 = σ 41 4 := e 41 4 (by unfold stK; omega)
    show (sg (s1 45) 0 (s1 41 4).toNat).filter (fun v => decide (bIn B (s1 42 v) (s1 43 v))) = (sg (σ 45) 0 (σ 41 4).toNat).filter (fun v => decide (bIn B (σ 42 v) (σ 43 v)))
    rw [e42, e43, e45, e4]
  rw [el] at p2 p3 p4
  rw [e44] at p4
  refine zP'.ret ⟨?_, ?_⟩
  · dsimp only
    rw [q.2, valC_E e]
  · dsimp only
    rw [q.1]
    exact ⟨p2, p3, p4⟩
theorem p_query {σ : zS} {I : Nat → Bool} {m x0 x1 y0 y1 : Int} (H : CI σ) (S : ST σ 41 I) (ok : ok44 σ) : zP' (g_c_query m x0 x1 y0 y1 σ) (fun v s => v = quC σ m x0 x1 y0 y1 ∧ (0 ≤ m ∧ m ≤ 6 ∧ bOk (x0, x1, y0, y1) → fnC σ s (x0, x1, y0, y1)) ∧ (¬ (0 ≤ m ∧ m ≤ 6 ∧ bOk (x0, x1, y0, y1)) → s = σ)) := by
  unfold g_c_query quC
  rw [p_isMeasure]
  rw [Option.bind_some]
  try dsimp +instances only
  by_cases c : 0 ≤ m ∧ m ≤ 6
  · rw [if_pos c, if_pos c, if_neg (by decide), p_isBox]
    rw [Option.bind_some]
    try dsimp +instances only
    by_cases c2 : bOk (x0, x1, y0, y1)
    · rw [if_pos c2, if_pos c2, if_pos (by decide)]
      have hb := b_of (b := (x0, x1, y0, y1)) c2.s σ
      try dsimp only at hb
      rw [hb]
      rw [Option.bind_some]
      try dsimp +instances only
      refine zP'.bind (p_done H S c2 c ok) (fun v s p => zP'.ret ⟨p.1, fun _ => p.2, fun h => absurd ⟨c.1, c.2, c2⟩ h⟩)
    · rw [if_neg c2, if_neg c2, if_neg (by decide)]
      exact zP'.ret ⟨rfl, fun h => absurd h.2.2 c2, fun _ => rfl⟩
  · rw [if_neg c, if_neg c, if_pos rfl]
    exact zP'.ret ⟨rfl, fun h => absurd ⟨h.1, h.2.1⟩ c, fun _ => rfl⟩
/-! the reference -/
theorem t_asked27 {x v : Int} {m : Nat} {s0' : zS} (hm2 : m ≤ 60) (hx : ∀ s2 : zS, s2 143 14 = s0' 143 14 → (∀ j, s2 155 j = s0' 155 j) → ∃ o, g_m_measured x s2 = some (v, zu s2 143 15 o)) (hm : s0' 143 14 = (m : Int)) : ∀ (d k n : Nat) (s : zS), k + d = m → d < n → (∀ a j, (a ≠ 144 ∨ j < 200 ∨ 260 ≤ j) → (a ≠ 147 ∨ j < 61 ∨ 121 ≤ j) → s a j = s0' a j) → (∀ j : Nat, j < k → s 144 (200 + (j : Int)) = s0' 154 (j : Int) ∧ s 147 (61 + (j : Int)) = s0' 155 (j : Int)) → ∃ s', g_m_asked_L27 n x (k : Int) s = some (v, s') ∧ (∀ a j, (a ≠ 144 ∨ j < 200 ∨ 260 ≤ j) → (a ≠ 147 ∨ j < 61 ∨ 121 ≤ j) → (a ≠ 143 ∨ j ≠ 15) → s' a j = s0' a j) ∧ ∀ j : Nat, j < m → s' 144 (200 + (j : Int)) = s0' 154 (j : Int) ∧ s' 147 (61 + (j : Int)) = s0' 155 (j : Int)
  | _, _, 0, _, _, h, _, _ => absurd h (Nat.not_lt_zero _)
  | 0, k, n + 1, s, hk, _, hf, hv => by
    have e14 : s 143 14 = (m : Int) := (hf 143 14 (Or.inl (by decide)) (Or.inl (by decide))).trans hm
    obtain ⟨o, e⟩ := hx s (e14.trans hm.symm) (fun j => hf 155 j (Or.inl (by decide)) (Or.inl (by decide)))
    refine ⟨zu s 143 15 o, ?_, fun a j h1 h2 h3 => (zu_c h3).trans (hf a j h1 h2), fun j hj => ?_⟩
    · unfold g_m_asked_L27
      simp only [e14]
      rw [if_pos (by omega), e]
      rfl
    · rw [zu_a (by decide), zu_a (by decide)]
      exact hv j (by omega)
  | d + 1, k, n + 1, s, hk, hn, hf, hv => by
    have e14 : s 143 14 = (m : Int) := (hf 143 14 (Or.inl (by decide)) (Or.inl (by decide))).trans hm
    have e154 : s 154 (k : Int) = s0' 154 (k : Int) := hf 154 _ (Or.inl (by decide)) (Or.inl (by decide))
    have e155 : zu s 144 (200 + (k : Int)) (s 154 (k : Int)) 155 (k : Int) = s0' 155 (k : Int) := (zu_a (by decide)).trans (hf 155 _ (Or.inl (by decide)) (Or.inl (by decide)))
    obtain ⟨s', e1, e2, e3⟩ := t_asked27 (x := x) hm2 hx hm d (k + 1) n (zu (zu s 144 (200 + (k : Int)) (s 154 (k : Int))) 147 (61 + (k : Int)) (zu s 144 (200 + (k : Int)) (s 154 (k : Int)) 155 (k : Int))) (by omega) (by omega) (fun a j h1 h2 => by rw [zu_c (by omega), zu_c (by omega)]; exact hf a j h1 h2) (fun j hj => by
      rw [zu_a (by decide)]
      by_cases cj : j = k
      · subst cj
        rw [zu_e rfl, zu_e rfl]
        exact ⟨e154, e155⟩
      · rw [zu_i (by omega), zu_i (by omega), zu_a (by decide)]
        exact hv j (by omega))
    refine ⟨s', ?_, e2, e3⟩
    unfold g_m_asked_L27
    simp only [e14]
    rw [if_neg (by omega), if_pos (by omega), w32_id (x := 200 + (k : Int)) (by omega) (by omega), if_pos (by omega), if_pos (by omega), w32_id (x := 61 + (k : Int)) (by omega) (by omega), if_pos (by omega), w32_id (x := (k : Int) + 1) (by omega) (by omega)]
    rw [show ((k + 1 : Nat) : Int) = (k : Int) + 1 by omega] at e1
    exact e1
/-- the reference's find is that of a set of rows -/
def fnR (σ s : zS) (B : Bx) (T : Int → Bool) : Prop := s 144 8 = ((liR (σ 144) B T).length : Int) ∧ sg (fun j => s 144 (200 + j)) 0 (liR (σ 144) B T).length = liR (σ 144) B T ∧ ∀ j : Nat, j < (liR (σ 144) B T).length → s 147 (61 + (j : Int)) = σ 147 (1 + (liR (σ 144) B T).getD j 0)
theorem t_asked {σ : zS} {N : Nat} {q : Bx} {x t : Int} {T : Int → Bool} (hR : RI σ N) (hN : σ 144 0 = (N : Int)) (hN2 : N ≤ 12) (hq : bOk q) (hb : bxA σ 152 0 = q) (h13 : 1 ≤ σ 144 13) (h13b : σ 144 13 ≤ 12) (h12 : 1 ≤ σ 144 12) (hp : plR σ) (ok : ok147 σ) (hx : 0 ≤ x ∧ x ≤ 6) (ht : ∀ s, frQ σ s → tstT s t T) : ∃ s, g_m_asked x t σ = some (valR (σ 144) (σ 147) q T x, s) ∧ fnR σ s q T := by
  have l152 : zLI 152 = 4 := rfl
  obtain ⟨s1, N1, e1, e2, e3, e4, e5⟩ := s_queries hR hN hN2 hq hb h13 h13b h12
  have c144 : ∀ j, 20 ≤ j → j < 200 → s1 144 j = σ 144 j := fun j j1 j2 => e5 144 j (by omega) (Or.inl (by decide)) (by decide) (by decide) (by decide) (Or.inl (by decide))
  have c147 : ∀ j, 1 ≤ j → j < 61 → s1 147 j = σ 147 j := fun j j1 j2 => e5 147 j (Or.inl (by decide)) (by omega) (by decide) (by decide) (by decide) (Or.inl (by decide))
  have hb1 : bxA s1 152 0 = q := by
    rw [← hb]
    unfold bxA
    rw [e5 152 _ (Or.inl (by decide)) (Or.inl (by decide)) (by decide) (by decide) (by decide) (Or.inl (by decide)), e5 152 _ (Or.inl (by decide)) (Or.inl (by decide)) (by decide) (by decide) (by decide) (Or.inl (by decide)), e5 152 _ (Or.inl (by decide)) (Or.inl (by decide)) (by decide) (by decide) (by decide) (Or.inl (by decide)), e5 152 _ (Or.inl (by decide)) (Or.inl (by decide)) (by decide) (by decide) (by decide) (Or.inl (by decide))]
  obtain ⟨s2, f1, f2, f3, f4, f5, f6, f7⟩ := t_gath (a := 152) (i := 0) (t := t) (σ := s1) (B := q) (ms := x) (T := T) (by omega) (by omega) (by omega) (by decide) (by decide) (by decide) hb1 (fun r hr => by rw [c144 _ (by omega) (by omega), c144 _ (by omega) (by omega)]; exact hp r hr) (ht s1 e5) hx (fun r hr => by rw [c147 _ (by omega) (by omega)]; exact ok r hr)
  have eL : liR (s1 144) q T = liR (σ 144) q T := liR_ext c144
  have eV : valR (s1 144) (s1 147) q T x = valR (σ 144) (σ 147) q T x := valR_ext c144 c147
  rw [eL] at f2 f4 f5 f6
  rw [eV] at f7
  generalize hL : liR (σ 144) q T = L at f2 f4 f5 f6
  have z : ∀ a j, (a ≠ 144 ∨ j ≠ 8) → zu s2 144 8 (L.length : Int) a j = s2 a j := fun a j h => zu_c h
  obtain ⟨s3, g1, g2, g3⟩ := t_asked27 (x := x) (v := valR (σ 144) (σ 147) q T x) (s0' := zu s2 144 8 (L.length : Int)) f2 (fun s4 h1 h2 => f7 s4 (by rw [h1, z 143 14 (Or.inl (by decide))]) (fun j => by rw [h2, z 155 j (Or.inl (by decide))])) (by rw [z 143 14 (Or.inl (by decide))]; exact f4) L.length 0 zK (zu s2 144 8 (L.length : Int)) (by omega) (by show _ < 1000000; omega) (fun _ _ _ _ => rfl) (fun j hj => absurd hj (Nat.not_lt_zero _))
  refine ⟨s3, ?_, ?_⟩
  · unfold g_m_asked
    rw [e1]
    rw [Option.bind_some]
    try dsimp only
    rw [f1]
    simp only [Option.bind_some, f4]
    exact g1
  · unfold fnR
    rw [hL]
    refine ⟨?_, ?_, fun j hj => ?_⟩
    · rw [g2 144 8 (by omega) (Or.inl (by decide)) (Or.inl (by decide)), zu_e rfl]
    · rw [sg_ext (f := fun j => s3 144 (200 + j)) (g := s2 154) L.length 0 0 (fun j hj => by
        show s3 144 (200 + (0 + (j : Int))) = _
        rw [show (0 : Int) + (j : Int) = (j : Int) by omega, (g3 j hj).1, z 154 _ (Or.inl (by decide))])]
      exact f5
    · rw [(g3 j hj).2, z 155 _ (Or.inl (by decide)), f6 j hj]
      have hm := getD_mem hj
      rw [← f5] at hm
      have hv : 0 ≤ L.getD j 0 ∧ L.getD j 0 < 60 := by
        obtain ⟨s5, m5, k1, k2, k3, k4, k5, k6⟩ := t_gathers (a := 152) (i := 0) (t := t) (σ := s1) (B := q) (T := T) (by omega) (by omega) (by omega) (by decide) (by decide) (by decide) hb1 (fun r hr => by rw [c144 _ (by omega) (by omega), c144 _ (by omega) (by omega)]; exact hp r hr) (ht s1 e5)
        have eq : liR (s1 144) q T = sg (s5 154) 0 m5 := liR_eq k5
        rw [f5, ← hL, ← eL, eq] at hm
        have := selF_bd (f := s1 144) (B := q) (T := T) ((k5.2 _).mp hm)
        rw [← eq, eL, hL] at this
        exact this
      exact c147 _ (by omega) (by omega)
noncomputable def quR (σ : zS) (m x0 x1 y0 y1 : Int) : Int := if 0 ≤ m ∧ m ≤ 6 then (if bOk (x0, x1, y0, y1) then valR (σ 144) (σ 147) (x0, x1, y0, y1) (fun _ => true) m else -9223372036854775808) else -9223372036854775808
theorem t_query {σ : zS} {m x0 x1 y0 y1 : Int} (hH : HI σ) (hI : NI σ) (ok : ok147 σ) : ∃ s, g_m_query m x0 x1 y0 y1 σ = some (quR σ m x0 x1 y0 y1, s) ∧ (0 ≤ m ∧ m ≤ 6 ∧ bOk (x0, x1, y0, y1) → fnR σ s (x0, x1, y0, y1) (fun _ => true)) ∧ (¬ (0 ≤ m ∧ m ≤ 6 ∧ bOk (x0, x1, y0, y1)) → s = σ) := by
  have l152 : zLI 152 = 4 := rfl
  unfold g_m_query quR
  by_cases c : 0 ≤ m ∧ m ≤ 6
  · rw [s_isIn_t c.1 c.2, if_pos c]
    rw [Option.bind_some]
    try dsimp +instances only
    rw [if_neg (by decide)]
    by_cases c2 : bOk (x0, x1, y0, y1)
    · rw [s_isBox_t c2, if_pos c2]
      rw [Option.bind_some]
      try dsimp +instances only
      rw [if_pos (by decide), s_sets (by omega) (by rw [l152]; omega) (by rw [l152]; omega)]
      rw [Option.bind_some]
      try dsimp +instances only
      have q0 : ∀ a, a ≠ 152 → zb σ 152 0 (x0, x1, y0, y1) a = σ a := fun a k1 => funext (fun j => zb_a k1)
      have hI' : NI (zb σ 152 0 (x0, x1, y0, y1)) := NI_fr hI (fun j _ => by rw [q0 144 (by decide)])
      obtain ⟨N, n1, n2, n3⟩ := hI'
      have h12 := hH.1
      have h13 := hH.2.1
      obtain ⟨s, e1, e2⟩ := t_asked (σ := zb σ 152 0 (x0, x1, y0, y1)) (q := (x0, x1, y0, y1)) (x := m) (t := -1) (T := fun _ => true) n3 n2 n1 c2 (zb_bx rfl) (by rw [q0 144 (by decide)]; exact h13.1) (by rw [q0 144 (by decide)]; exact h13.2) (by rw [q0 144 (by decide)]; exact h12.1) (fun r hr => by rw [q0 144 (by decide)]; exact hH.2.2.2.2.2.2 r hr) (fun r hr => by rw [q0 147 (by decide)]; exact ok r hr) c (fun s _ => tstT.no s)
      unfold fnR at e2
      rw [q0 144 (by decide), q0 147 (by decide)] at e1 e2
      rw [e1]
      exact ⟨s, rfl, fun _ => e2, fun h => absurd ⟨c.1, c.2, c2⟩ h⟩
    · rw [s_isBox_f c2, if_neg c2]
      rw [Option.bind_some]
      try dsimp +instances only
      rw [if_neg (by decide)]
      exact ⟨σ, rfl, fun h => absurd h.2.2 c2, fun _ => rfl⟩
  · rw [s_isIn_f (by omega), if_neg c]
    rw [Option.bind_some]
    try dsimp +instances only
    rw [if_pos rfl]
    exact ⟨σ, rfl, fun h => absurd ⟨h.1, h.2.1⟩ c, fun _ => rfl⟩
/-! the value and the changes of a watch -/
theorem p_has {x : Int} {σ : zS} (H : CI σ) : g_wa_has x σ = some (if 0 ≤ x ∧ x < σ 65 5 then 1 else 0, σ) := by
  have hw := CI.cw (a := 65) H (by omega)
  unfold g_wa_has
  try dsimp +instances only
  by_cases c1 : x < 0
  · rw [if_pos c1, if_neg (by omega)]
  · rw [if_neg c1]
    by_cases c2 : σ 65 5 ≤ x
    · rw [if_pos c2, if_neg (by omega)]
    · rw [if_neg c2, if_neg (by omega), if_pos (by omega)]
theorem p_cvalue {σ : zS} {I : Nat → Bool} {B : Nat → Bx} {k : Int} (H : CI σ) (S : ST σ 41 I) (hB : WC σ B) (ok : ok44 σ) : zP' (g_c_value k σ) (fun v _ => v = if 0 ≤ k ∧ k < σ 65 5 then valC σ 41 (B k.toNat) (σ 66 k) else -9223372036854775808) := by
  have hw := CI.cw (a := 65) H (by omega)
  unfold g_c_value
  rw [p_has H]
  rw [Option.bind_some]
  try dsimp +instances only
  by_cases c : 0 ≤ k ∧ k < σ 65 5
  · obtain ⟨i, rfl⟩ : ∃ i : Nat, k = (i : Int) := ⟨k.toNat, by omega⟩
    obtain ⟨b1, b2, b3, b4⟩ := hB i (by omega) c.2
    rw [if_pos c, if_neg (by decide)]
    refine zP'.bind (p_valueOf H S c b1 b2 ⟨b3, b4⟩ ok) (fun v s p => zP'.ret ?_)
    dsimp only
    rw [p.1, if_pos c, show ((i : Nat) : Int).toNat = i by omega]
  · rw [if_neg c, if_pos rfl]
    refine zP'.ret ?_
    rw [if_neg c]
theorem t_cvalue {σ : zS} {B : Nat → Bx} {k : Int} (hW : 0 ≤ σ 144 10 ∧ σ 144 10 ≤ 6) (hp : plR σ) (hB : WR σ B) (ok : ok147 σ) : ∃ s, g_m_value k σ = some (if 0 ≤ k ∧ k < σ 144 10 then VR σ B k.toNat else -9223372036854775808, s) := by
  by_cases c : 0 ≤ k ∧ k < σ 144 10
  · obtain ⟨i, rfl⟩ : ∃ i : Nat, k = (i : Int) := ⟨k.toNat, by omega⟩
    obtain ⟨b1, b2, -⟩ := hB i (by omega) c.2
    obtain ⟨s, e1, -⟩ := t_value (k := (i : Int)) hW c hp b1 b2 ok
    refine ⟨s, ?_⟩
    rw [e1, if_pos c, show ((i : Nat) : Int).toNat = i by omega]
    rfl
  · unfold g_m_value
    rw [s_isWatch hW]
    rw [Option.bind_some]
    try dsimp +instances only
    rw [if_neg c, if_neg c, if_neg (by decide)]
    exact ⟨σ, rfl⟩
theorem p_changes {x : Int} {σ : zS} (H : CI σ) : g_c_changes x σ = some (if 0 ≤ x ∧ x < σ 65 5 then σ 68 x else -1, σ) := by
  have hw := CI.cw (a := 65) H (by omega)
  unfold g_c_changes
  rw [p_has H]
  rw [Option.bind_some]
  try dsimp +instances only
  by_cases c : 0 ≤ x ∧ x < σ 65 5
  · rw [if_pos c, if_pos c, if_neg (by decide), if_pos (by omega)]
  · rw [if_neg c, if_neg c, if_pos rfl]
theorem t_changes {x : Int} {σ : zS} (hW : 0 ≤ σ 144 10 ∧ σ 144 10 ≤ 6) : g_m_changes x σ = some (if 0 ≤ x ∧ x < σ 144 10 then σ 144 (305 + 6 * x) else -1, σ) := by
  unfold g_m_changes
  rw [s_isWatch hW]
  rw [Option.bind_some]
  try dsimp +instances only
  by_cases c : 0 ≤ x ∧ x < σ 144 10
  · rw [if_pos c, if_pos c, if_neg (by decide), w32_id (x := 6 * x) (by omega) (by omega), w32_id (x := 300 + 6 * x) (by omega) (by omega), w32_id (x := 300 + 6 * x + 5) (by omega) (by omega), if_pos (by omega), show 300 + 6 * x + 5 = 305 + 6 * x by omega]
  · rw [if_neg c, if_neg c, if_pos rfl]
end
