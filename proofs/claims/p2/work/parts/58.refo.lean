/-! THE REFERENCE over the typed memory: loading -/
def frL2 (σ s : zS) : Prop := ∀ a j, a ≠ 164 → (a ≠ 143 ∨ (j ≠ 21 ∧ j ≠ 22 ∧ j ≠ 23)) → s a j = σ a j
theorem frL2.of {σ s : zS} (h : fr3 σ s) : frL2 σ s := fun a j _ k => h a j k
theorem frL2.trans {σ s t : zS} (h1 : frL2 σ s) (h2 : frL2 s t) : frL2 σ t := fun a j k1 k2 => (h2 a j k1 k2).trans (h1 a j k1 k2)
theorem frL2.u {σ : zS} {i v : Int} : frL2 σ (zu σ 164 i v) := fun a j k1 _ => zu_a k1
theorem s_isSpelled {x : Int} {σ : zS} (h : pI σ) (h5 : σ 143 21 ≤ 160) (hx : 0 ≤ x ∧ x + 3 < 48) : zO (g_m_isSpelled x σ) (fun b s => pO σ s b ∧ frL2 σ s ∧ (∀ j, j < x → s 164 j = σ 164 j) ∧ (b = 1 → bOk (bxA s 164 x))) := by
  have w1 := w32_id (x := x + 1) (by omega) (by omega)
  have w2 := w32_id (x := x + 2) (by omega) (by omega)
  have w3 := w32_id (x := x + 3) (by omega) (by omega)
  have d3 : ∀ {s t : zS}, fr3 s t → ∀ j, t 164 j = s 164 j := fun f j => f 164 j (Or.inl (by decide))
  unfold g_m_isSpelled
  refine zO.bind (s_number h (by decide)) (fun b1 s1 p1 => ?_)
  obtain ⟨o1, f1, r1⟩ := p1
  try dsimp +instances only
  have i1 := pI_160 h h5 o1
  have hb1 := o1.1
  refine zO.ite (fun c1 => ?_) (fun c1 => ?_)
  · refine zO.gd (by omega) ?_
    try dsimp +instances only
    have hb : b1 = 1 := by omega
    subst hb
    have r1 := r1 rfl
    generalize hs22 : zu s1 164 x (s1 143 23) = s2
    have o2 : pO s1 s2 1 := by rw [← hs22]; exact pO_60 (by decide)
    have f2 : frL2 s1 s2 := by rw [← hs22]; exact frL2.u
    have v2 : s2 164 x = s1 143 23 := by rw [← hs22]; exact zu_e rfl
    have q2 : ∀ j, j ≠ x → s2 164 j = s1 164 j := fun j hj => by rw [← hs22]; exact zu_i hj
    have i2 := pI_160 i1.1 i1.2 o2
    refine zO.bind (s_isSign i2.1 (by decide)) (fun b3 s3 p3 => ?_)
    obtain ⟨o3, f3⟩ := p3
    try dsimp +instances only
    have i3 := pI_160 i2.1 i2.2 o3
    have O3 := pO_trans (pO_trans o1 o2) o3
    have F3 := ((frL2.of f1).trans f2).trans (frL2.of f3)
    refine zO.ite (fun c3 => ?_) (fun c3 => ?_)
    · subst c3
      exact zO.ret ⟨O3, F3, fun j hj => by rw [d3 f3, q2 j (by omega), d3 f1], fun hh => absurd hh (by decide)⟩
    · refine zO.gd (by omega) ?_
      try dsimp +instances only
      refine zO.bind (s_number i3.1 (by decide)) (fun b4 s4 p4 => ?_)
      obtain ⟨o4, f4, r4⟩ := p4
      try dsimp +instances only
      have i4 := pI_160 i3.1 i3.2 o4
      have O4 := pO_trans O3 o4
      have F4 := F3.trans (frL2.of f4)
      have hb4 := o4.1
      refine zO.ite (fun c4 => ?_) (fun c4 => ?_)
      · refine zO.gd (by omega) ?_
        try dsimp +instances only
        have hb : b4 = 1 := by omega
        subst hb
        have r4 := r4 rfl
        rw [w1]
        generalize hs61 : zu s4 164 (x + 1) (s4 143 23) = s5
        have o5 : pO s4 s5 1 := by rw [← hs61]; exact pO_60 (by decide)
        have f5 : frL2 s4 s5 := by rw [← hs61]; exact frL2.u
        have v5 : s5 164 (x + 1) = s4 143 23 := by rw [← hs61]; exact zu_e rfl
        have q5 : ∀ j, j ≠ x + 1 → s5 164 j = s4 164 j := fun j hj => by rw [← hs61]; exact zu_i hj
        have i5 := pI_160 i4.1 i4.2 o5
        refine zO.bind (s_isSign i5.1 (by decide)) (fun b6 s6 p6 => ?_)
        obtain ⟨o6, f6⟩ := p6
        try dsimp +instances only
        have i6 := pI_160 i5.1 i5.2 o6
        have O6 := pO_trans (pO_trans O4 o5) o6
        have F6 := (F4.trans f5).trans (frL2.of f6)
        refine zO.ite (fun c6 => ?_) (fun c6 => ?_)
        · subst c6
          exact zO.ret ⟨O6, F6, fun j hj => by rw [d3 f6, q5 j (by omega), d3 f4, d3 f3, q2 j (by omega), d3 f1], fun hh => absurd hh (by decide)⟩
        · refine zO.bind (s_number i6.1 (by decide)) (fun b7 s7 p7 => ?_)
          obtain ⟨o7, f7, r7⟩ := p7
          try dsimp +instances only
          have i7 := pI_160 i6.1 i6.2 o7
          have O7 := pO_trans O6 o7
          have F7 := F6.trans (frL2.of f7)
          have hb7 := o7.1
          refine zO.ite (fun c7 => ?_) (fun c7 => ?_)
          · refine zO.gd (by omega) ?_
            try dsimp +instances only
            have hb : b7 = 1 := by omega
            subst hb
            have r7 := r7 rfl
            rw [w2]
            generalize hs95 : zu s7 164 (x + 2) (s7 143 23) = s8
            have o8 : pO s7 s8 1 := by rw [← hs95]; exact pO_60 (by decide)
            have f8 : frL2 s7 s8 := by rw [← hs95]; exact frL2.u
            have v8 : s8 164 (x + 2) = s7 143 23 := by rw [← hs95]; exact zu_e rfl
            have q8 : ∀ j, j ≠ x + 2 → s8 164 j = s7 164 j := fun j hj => by rw [← hs95]; exact zu_i hj
            have i8 := pI_160 i7.1 i7.2 o8
            refine zO.bind (s_isSign i8.1 (by decide)) (fun b9 s9 p9 => ?_)
            obtain ⟨o9, f9⟩ := p9
            try dsimp +instances only
            have i9 := pI_160 i8.1 i8.2 o9
            have O9 := pO_trans (pO_trans O7 o8) o9
            have F9 := (F7.trans f8).trans (frL2.of f9)
            refine zO.ite (fun c9 => ?_) (fun c9 => ?_)
            · subst c9
              exact zO.ret ⟨O9, F9, fun j hj => by rw [d3 f9, q8 j (by omega), d3 f7, d3 f6, q5 j (by omega), d3 f4, d3 f3, q2 j (by omega), d3 f1], fun hh => absurd hh (by decide)⟩
            · refine zO.gd (by omega) ?_
              try dsimp +instances only
              refine zO.bind (s_number i9.1 (by decide)) (fun ba sa pa => ?_)
              obtain ⟨oa, fa, ra⟩ := pa
              try dsimp +instances only
              have Oa := pO_trans O9 oa
              have Fa := F9.trans (frL2.of fa)
              have hba := oa.1
              refine zO.ite (fun ca => ?_) (fun ca => ?_)
              · refine zO.gd (by omega) ?_
                try dsimp +instances only
                have hb : ba = 1 := by omega
                subst hb
                have ra := ra rfl
                rw [w3]
                refine zO.ret ⟨pO_trans Oa (pO_60 (by decide)), Fa.trans frL2.u, fun j hj => by rw [zu_i (by omega), d3 fa, d3 f9, q8 j (by omega), d3 f7, d3 f6, q5 j (by omega), d3 f4, d3 f3, q2 j (by omega), d3 f1], fun _ => ?_⟩
                have e0 : zu sa 164 (x + 3) (sa 143 23) 164 x = s1 143 23 := by rw [zu_i (by omega), d3 fa, d3 f9, q8 x (by omega), d3 f7, d3 f6, q5 x (by omega), d3 f4, d3 f3, v2]
                have e1 : zu sa 164 (x + 3) (sa 143 23) 164 (x + 1) = s4 143 23 := by rw [zu_i (by omega), d3 fa, d3 f9, q8 (x + 1) (by omega), d3 f7, d3 f6, v5]
                have e2 : zu sa 164 (x + 3) (sa 143 23) 164 (x + 2) = s7 143 23 := by rw [zu_i (by omega), d3 fa, d3 f9, v8]
                have e3 : zu sa 164 (x + 3) (sa 143 23) 164 (x + 3) = sa 143 23 := zu_e rfl
                have k4 : s3 164 x = s1 143 23 := by rw [d3 f3, v2]
                have ka : s9 164 (x + 2) = s7 143 23 := by rw [d3 f9, v8]
                have g4 := r4
                have ga := ra
                rw [k4] at g4
                rw [ka] at ga
                show bOk (bxA (zu sa 164 (x + 3) (sa 143 23)) 164 x)
                unfold bxA
                rw [e0, e1, e2, e3]
                exact ⟨r1.1, g4.1, g4.2, r7.1, ga.1, ga.2⟩
              · have hb : ba = 0 := by omega
                subst hb
                exact zO.ret ⟨Oa, Fa, fun j hj => by rw [d3 fa, d3 f9, q8 j (by omega), d3 f7, d3 f6, q5 j (by omega), d3 f4, d3 f3, q2 j (by omega), d3 f1], fun hh => absurd hh (by decide)⟩
          · have hb : b7 = 0 := by omega
            subst hb
            exact zO.ret ⟨O7, F7, fun j hj => by rw [d3 f7, d3 f6, q5 j (by omega), d3 f4, d3 f3, q2 j (by omega), d3 f1], fun hh => absurd hh (by decide)⟩
      · have hb : b4 = 0 := by omega
        subst hb
        exact zO.ret ⟨O4, F4, fun j hj => by rw [d3 f4, d3 f3, q2 j (by omega), d3 f1], fun hh => absurd hh (by decide)⟩
  · have hb : b1 = 0 := by omega
    subst hb
    exact zO.ret ⟨o1, frL2.of f1, fun j _ => d3 f1 j, fun hh => absurd hh (by decide)⟩
theorem iAnd_b {x : Int} (h : x = 0 ∨ x = 1) : iAnd x 0 = 0 ∧ iAnd x 1 = x := by
  rcases h with rfl | rfl <;> decide +kernel
theorem s_meetsNone5 {a : Nat} {i : Int} {σ : zS} {N : Nat} (hN : σ 144 0 = (N : Int)) (hN2 : N ≤ 239) (h1 : 0 ≤ i) (h2 : i + 3 < zLI a) (h3 : zLI a ≤ 100000) : ∀ (d k n : Nat) (x : Int), k + d = N → d < n → (x = 0 ∨ x = 1) → (x = 1 → ∀ t : Nat, t < k → ¬ bMt (bxA σ a i) (rgA σ (t : Int)).1) → zOp (g_m_meetsNone_L5 a n i x (k : Int) σ) σ (fun b => (b = 0 ∨ b = 1) ∧ (b = 1 → ∀ t : Nat, t < N → ¬ bMt (bxA σ a i) (rgA σ (t : Int)).1)) := by
  intro d
  induction d with
  | zero =>
    intro k n x hk hn hx hm
    obtain ⟨n, rfl⟩ : ∃ m, n = m + 1 := ⟨n - 1, by omega⟩
    unfold g_m_meetsNone_L5
    refine zOp.ite (fun _ => ?_) (fun c => absurd (show σ 144 0 ≤ (k : Int) by omega) c)
    exact zOp.gd hx (zOp.ret ⟨hx, fun h t ht => hm h t (by omega)⟩)
  | succ d ih =>
    intro k n x hk hn hx hm
    obtain ⟨n, rfl⟩ : ∃ m, n = m + 1 := ⟨n - 1, by omega⟩
    have e1 : w32 ((k : Int) + 1) = ((k + 1 : Nat) : Int) := by rw [w32_id (by omega) (by omega)]; omega
    unfold g_m_meetsNone_L5
    refine zOp.ite (fun c => ?_) (fun _ => ?_)
    · have c : σ 144 0 ≤ (k : Int) := c
      exfalso; omega
    · refine zOp.bindp (P := fun v => v = 340 + 10 * (k : Int)) ⟨_, s_region (by omega) (by omega), rfl⟩ (fun v hv => ?_)
      subst hv
      refine zOp.bindp (P := fun v => (v = 1 ∧ bMt (bxA σ a i) (bxA σ 144 (340 + 10 * (k : Int)))) ∨ (v = 0 ∧ ¬ bMt (bxA σ a i) (bxA σ 144 (340 + 10 * (k : Int))))) ⟨_, s_doMeet h1 h2 h3 (by omega) (by rw [l144]; omega) (by rw [l144]; omega), ?_⟩ (fun v hv => ?_)
      · by_cases c : bMt (bxA σ a i) (bxA σ 144 (340 + 10 * (k : Int)))
        · rw [if_pos c]; exact Or.inl ⟨rfl, c⟩
        · rw [if_neg c]; exact Or.inr ⟨rfl, c⟩
      · unfold g_m_meetsNone_L39
        rw [e1, (iAnd_b hx).1, (iAnd_b hx).2]
        refine zOp.ite (fun c => ?_) (fun c => ?_)
        · exact ih (k + 1) n 0 (by omega) (by omega) (Or.inl rfl) (fun h => absurd h (by decide))
        · refine ih (k + 1) n x (by omega) (by omega) hx (fun h t ht => ?_)
          by_cases ct : t = k
          · subst ct
            rcases hv with hv | hv
            · exact absurd (show v ≠ 0 by omega) c
            · exact hv.2
          · exact hm h t (by omega)
theorem l164 : zLI 164 = 48 := rfl
theorem frR_ask {σ : zS} {c : Int} : frR σ (askS σ c) := fun a j k1 k2 => askS_a (by omega)
theorem s_load99 {K : Nat} (hK : K ≤ 12) : ∀ (d k n : Nat) (s : zS) (N : Nat) (x : Int), k + d = K → d < n → RI s N → s 144 0 = (N : Int) → N ≤ 12 + k → HI s → (∀ t : Nat, t < K → bOk (bxA s 164 (4 * (t : Int)))) → ∃ v s', g_m_load_L99 n (K : Int) x (k : Int) s = some (v, s') ∧ NI s' ∧ HI s' ∧ frR s s'
  | _, _, 0, _, _, _, _, h => absurd h (Nat.not_lt_zero _)
  | 0, k, n + 1, s, N, x, hk, _ => by
    intro hR hN hN2 hH hB
    unfold g_m_load_L99
    rw [if_pos (by omega)]
    obtain ⟨s', N', e1, e2, e3, e4, e5, e6⟩ := s_trims hR hN (by omega) hH.2.1.1 hH.1.1
    rw [e1]
    rw [Option.bind_some]
    have := hH.2.1.2
    exact ⟨x, s', rfl, ⟨N', by omega, e4, e3⟩, HI_fr8 hH (fun j j1 j2 => e5 144 j (Or.inr ⟨j1, j2⟩) (Or.inl (by decide))), e5⟩
  | d + 1, k, n + 1, s, N, x, hk, hn => by
    intro hR hN hN2 hH hB
    unfold g_m_load_L99
    have e4 := w32_id (x := 4 * (k : Int)) (by omega) (by omega)
    have e1 : w32 ((k : Int) + 1) = ((k + 1 : Nat) : Int) := by rw [w32_id (by omega) (by omega)]; omega
    rw [if_neg (by omega), e4]
    unfold g_m_meetsNone
    obtain ⟨b, g1, g2, g3⟩ := s_meetsNone5 (a := 164) (i := 4 * (k : Int)) hN (by omega) (by omega) (by rw [l164]; omega) (by rw [l164]; omega) N 0 zK 1 (by omega) (by show _ < 1000000; omega) (Or.inr rfl) (fun _ t ht => absurd ht (Nat.not_lt_zero _))
    rw [show ((0 : Nat) : Int) = 0 from rfl] at g1
    rw [g1]
    rw [Option.bind_some]
    try dsimp +instances only
    unfold g_m_load_L154
    by_cases c : b ≠ 0
    · have hb : b = 1 := by omega
      rw [if_pos c, s_asks (by decide) (by omega) (by rw [l164]; omega) (by rw [l164]; omega)]
      rw [Option.bind_some]
      try dsimp +instances only
      generalize hc : costN s (bxA s 164 (4 * (k : Int))) = cst
      have qN : askS s cst 144 0 = (N : Int) := by rw [askS_a (by omega)]; exact hN
      rw [s_adds qN (by omega) (by omega) (by omega) (by rw [l164]; omega) (by rw [l164]; omega)]
      rw [Option.bind_some]
      try dsimp +instances only
      rw [s_weighs (by omega) (by omega)]
      rw [Option.bind_some]
      try dsimp +instances only
      rw [e1, askS_bx (Or.inl (by decide))]
      generalize hbx : bxA s 164 (4 * (k : Int)) = p
      generalize hs1 : addsS (askS s cst) (N : Int) p = s1
      have hp : bOk p := by rw [← hbx]; exact hB k (by omega)
      have R0 : RI (askS s cst) N := RI_of hR (fun t _ => by rw [rgA_ask (by omega)]; exact ⟨rfl, rfl⟩)
      have R1 : RI s1 (N + 1) := by
        rw [← hs1]
        refine RI_adds R0 hp (fun t ht hm => ?_)
        rw [rgA_ask (by omega)] at hm
        refine g3 hb t ht ?_
        rw [hbx]
        exact bMt_comm hm
      have R2 : RI (trW s1 (N : Int)) (N + 1) := RI_of R1 (fun t _ => rgA_w)
      have fA : frR s s1 := by
        rw [← hs1]
        intro a j k1 k2
        rw [addsS_a (by omega)]
        exact frR_ask a j k1 k2
      have fW : frR s1 (trW s1 (N : Int)) := fun a j k1 k2 => zu_c (by omega)
      have f := fA.trans fW
      have n1 : trW s1 (N : Int) 144 0 = ((N + 1 : Nat) : Int) := by
        rw [show trW s1 (N : Int) 144 0 = s1 144 0 from zu_a (by decide), ← hs1, addsS_N (by omega) (by omega)]
        omega
      obtain ⟨v, s', h1, h2, h3, h4⟩ := s_load99 hK d (k + 1) n (trW s1 (N : Int)) (N + 1) (w32 (x + 1)) (by omega) (by omega) R2 n1 (by omega) (HI_fr8 hH (fun j j1 j2 => f 144 j (Or.inr ⟨j1, j2⟩) (Or.inl (by decide)))) (fun t ht => by
        have e : bxA (trW s1 (N : Int)) 164 (4 * (t : Int)) = bxA s 164 (4 * (t : Int)) := by
          unfold bxA
          rw [f 164 _ (Or.inl (by decide)) (Or.inl (by decide)), f 164 _ (Or.inl (by decide)) (Or.inl (by decide)), f 164 _ (Or.inl (by decide)) (Or.inl (by decide)), f 164 _ (Or.inl (by decide)) (Or.inl (by decide))]
        rw [e]; exact hB t ht)
      exact ⟨v, s', h1, h2, h3, f.trans h4⟩
    · rw [if_neg c, e1]
      exact s_load99 hK d (k + 1) n s N x (by omega) (by omega) hR hN (by omega) hH hB
theorem MI_L2 {σ s : zS} (h : MI σ) (f : frL2 σ s) : MI s ∧ frT3 σ s :=
  ⟨MI_144 h (fun a j hh => f a j (by omega) (by omega)), fun a j hh => f a j (by omega) (by omega)⟩
theorem s_loadStop {σ0 s : zS} {n k : Nat} (h : MI σ0) (f : frL2 σ0 s) (hk : 0 ≤ s 143 22 ∨ (k ≤ 12 ∧ ∀ t : Nat, t < k → bOk (bxA s 164 (4 * (t : Int))))) : ∃ c s', g_m_load_L8 (n + 1) (k : Int) 0 s = some (c, s') ∧ MI s' ∧ s' 143 20 = 0 ∧ frT3 σ0 s' := by
  obtain ⟨h1, f1⟩ := MI_L2 h f
  obtain ⟨h2, h20, f2⟩ := MI_z20 h1 f1
  unfold g_m_load_L8
  rw [if_pos rfl]
  try dsimp +instances only
  rw [show zu s 143 20 0 143 22 = s 143 22 from zu_i (by decide)]
  by_cases c : s 143 22 < 0
  · rw [if_pos c]
    obtain ⟨k12, hq⟩ := hk.resolve_left (by omega)
    obtain ⟨N, hN2, hN, hR⟩ := h2.1
    obtain ⟨v, s', g1, g2, g3, g4⟩ := s_load99 k12 k 0 zK (zu s 143 20 0) N 0 (by omega) (by show _ < 1000000; omega) hR hN (by omega) h2.2.1 (fun t ht => by
      rw [zu_bxa (by decide)]; exact hq t ht)
    refine ⟨v, s', g1, MI_q h2 g2 g3 (fun a j hh => g4 a j (by omega) (by omega)), ?_, fun a j hh => (g4 a j (by omega) (by omega)).trans (f2 a j hh)⟩
    rw [g4 143 20 (by omega) (by omega)]; exact h20
  · rw [if_neg c]
    exact ⟨_, _, rfl, h2, h20, f2⟩
theorem s_load8 {σ0 : zS} (h : MI σ0) : ∀ (d k n : Nat) (s : zS), k + d = 12 → 1 ≤ d → d + 1 < n → frL2 σ0 s → pI s → s 143 21 ≤ 160 → (0 ≤ s 143 22 ∨ ∀ t : Nat, t < k → bOk (bxA s 164 (4 * (t : Int)))) → ∃ c s', g_m_load_L8 n (k : Int) 1 s = some (c, s') ∧ MI s' ∧ s' 143 20 = 0 ∧ frT3 σ0 s' := by
  intro d
  induction d with
  | zero => intro k n s _ h1; omega
  | succ d ih =>
    intro k n s hk _ hn f p p5 hq
    obtain ⟨n, rfl⟩ : ∃ m, n = m + 2 := ⟨n - 2, by omega⟩
    unfold g_m_load_L8
    rw [if_neg (by decide), w32_id (x := 4 * (k : Int)) (by omega) (by omega)]
    obtain ⟨b, s1, e1, e2, e3, e4, e5⟩ := s_isSpelled (x := 4 * (k : Int)) p p5 (by omega)
    rw [e1]
    rw [Option.bind_some]
    try dsimp +instances only
    obtain ⟨p1, p15⟩ := pI_160 p p5 e2
    have f1 := f.trans e3
    rw [w32_id (x := (k : Int) + 1) (by omega) (by omega), show (k : Int) + 1 = ((k + 1 : Nat) : Int) by omega]
    have hb := e2
    unfold pO at hb
    have bxs : ∀ {u v : zS}, (∀ j, u 164 j = v 164 j) → ∀ t : Nat, bxA u 164 (4 * (t : Int)) = bxA v 164 (4 * (t : Int)) := fun q t => by
      unfold bxA
      rw [q, q, q, q]
    by_cases c : b = 0
    · rw [if_pos c]
      unfold g_m_load_L43
      rw [if_pos c, c]
      exact s_loadStop h f1 (Or.inl (hb.2.2.2.2.2 c))
    · have hb1 : b = 1 := by omega
      have hq1 : 0 ≤ s1 143 22 ∨ ∀ t : Nat, t < k + 1 → bOk (bxA s1 164 (4 * (t : Int))) := by
        rcases hq with hq | hq
        · exact Or.inl (hb.2.2.2.2.1 hq)
        · refine Or.inr (fun t ht => ?_)
          by_cases ct : t = k
          · subst ct; exact e5 hb1
          · have e : bxA s1 164 (4 * (t : Int)) = bxA s 164 (4 * (t : Int)) := by
              unfold bxA
              rw [e4 _ (by omega), e4 _ (by omega), e4 _ (by omega), e4 _ (by omega)]
            rw [e]; exact hq t (by omega)
      rw [if_neg c]
      by_cases c2 : s1 143 21 ≠ s1 143 20
      · rw [if_pos c2]
        unfold g_m_load_L43
        rw [if_neg c]
        by_cases c3 : 12 ≤ ((k + 1 : Nat) : Int)
        · rw [if_pos c3]
          obtain ⟨s2, g1, g2, g3⟩ := s_failsO p1
          dsimp only
          rw [g1]
          rw [Option.bind_some]
          dsimp only
          unfold g_m_load_L70
          unfold pO at g2
          exact s_loadStop h (f1.trans (frL2.of g3)) (Or.inl (g2.2.2.2.2.2 rfl))
        · rw [if_neg c3]
          obtain ⟨b2, s2, g1, g2, g3⟩ := s_isSign (x := 59) p1 (by decide)
          rw [g1]
          rw [Option.bind_some]
          dsimp only
          unfold g_m_load_L70
          have g4 := g2
          unfold pO at g4
          obtain ⟨p2, p25⟩ := pI_160 p1 p15 g2
          by_cases c4 : b2 = 0
          · rw [c4]
            exact s_loadStop h (f1.trans (frL2.of g3)) (Or.inl (g4.2.2.2.2.2 c4))
          · have hb2 : b2 = 1 := by omega
            rw [hb2]
            refine ih (k + 1) (n + 1) s2 (by omega) (by omega) (by omega) (f1.trans (frL2.of g3)) p2 p25 ?_
            rcases hq1 with hq1 | hq1
            · exact Or.inl (g4.2.2.2.2.1 hq1)
            · exact Or.inr (fun t ht => by rw [bxs (fun j => g3 164 j (by omega)) t]; exact hq1 t ht)
      · rw [if_neg c2]
        refine s_loadStop h f1 ?_
        rcases hq1 with hq1 | hq1
        · exact Or.inl hq1
        · exact Or.inr ⟨by omega, hq1⟩
theorem m_load2 {σ : zS} (h : MI σ) : ∃ c s, g_m_load σ = some (c, s) ∧ MI s ∧ s 143 20 = 0 ∧ frT3 σ s := by
  unfold g_m_load g_m_begins
  rw [Option.bind_some]
  dsimp only
  have f1 : frL2 σ (zu (zu σ 143 21 0) 143 22 (-1)) := fun a j k1 k2 => by rw [zu_c (by omega), zu_c (by omega)]
  have h20 := h.2.2.1.1
  have q20 : zu (zu σ 143 21 0) 143 22 (-1) 143 20 = σ 143 20 := f1 143 20 (by decide) (by omega)
  have q21 : zu (zu σ 143 21 0) 143 22 (-1) 143 21 = 0 := by rw [zu_i (by omega), zu_e rfl]
  exact s_load8 h 12 0 zK _ rfl (by omega) (by show _ < 1000000; omega) f1 ⟨by rw [q20]; omega, by rw [q20]; omega, by rw [q21]; omega⟩ (by rw [q21]; omega) (Or.inr (fun t ht => absurd ht (Nat.not_lt_zero _)))
theorem m_load {σ : zS} (h : MI σ) : ∃ c s, g_m_load σ = some (c, s) ∧ MI s ∧ s 143 20 = 0 ∧ frT σ s := by
  obtain ⟨c, s, h1, h2, h3, h4⟩ := m_load2 h
  exact ⟨c, s, h1, h2, h3, h4.t⟩
