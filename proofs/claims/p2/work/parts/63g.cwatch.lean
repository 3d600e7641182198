/-! THE CLASS'S WATCHES: what put() and take() make of their changes -/
def WC (σ : zS) (B : Nat → Bx) : Prop := ∀ k : Nat, k < 6 → (k : Int) < σ 65 5 → bOk (B k) ∧ σ 67 (k : Int) = enc (B k) ∧ 0 ≤ σ 66 (k : Int) ∧ σ 66 (k : Int) ≤ 6
def ok44 (σ : zS) : Prop := ∀ r : Nat, r < 60 → okL (σ 44 (r : Int))
def chgA (b v n : Int) : Int := if n = b then v else w32 (v + 1)
theorem CI_v {σ : zS} {k : Int} (H : CI σ) : zP' (g_wa_valueOf k σ) (fun _ s => CI s) := (zP'.of (g_wa_valueOf_sp (x1 := k) H)).imp (fun _ _ p => p.1)
theorem p_remember2 {σ0 : zS} {I : Nat → Bool} {B : Nat → Bx} {W : Nat} (S : ST σ0 41 I) (hW : σ0 65 5 = (W : Int)) (hW2 : W ≤ 6) (hB : WC σ0 B) (ok : ok44 σ0) : ∀ (n k : Nat) (σ : zS), CI σ → (∀ b j, b ≠ 69 → b ≠ 70 → b ≠ 71 → b ≠ 72 → σ b j = σ0 b j) → k ≤ W → (∀ i : Nat, i < k → σ 69 (i : Int) = valC σ0 41 (B i) (σ0 66 (i : Int))) → zP' (g_wa_remember_L2 n (k : Int) σ) (fun _ s => ∀ i : Nat, i < W → s 69 (i : Int) = valC σ0 41 (B i) (σ0 66 (i : Int)))
  | 0, _, _, _, _, _, _ => zP'.no
  | n + 1, k, σ, H, hf, hk, hv => by
    have e5 : σ 65 5 = (W : Int) := (hf 65 5 (by decide) (by decide) (by decide) (by decide)).trans hW
    have st : stE σ0 σ := fun a j h => hf a j (by unfold stK at h; omega) (by unfold stK at h; omega) (by unfold stK at h; omega) (by unfold stK at h; omega)
    unfold g_wa_remember_L2
    try dsimp +instances only
    rw [e5]
    refine zP'.ite (fun c => zP'.ret (fun i hi => hv i (by omega))) (fun c => zP'.ite (fun c2 => zP'.ret (fun i hi => hv i (by omega))) (fun c2 => ?_))
    obtain ⟨b1, b2, b3, b4⟩ := hB k (by omega) (by omega)
    have e66 : σ 66 (k : Int) = σ0 66 (k : Int) := hf 66 _ (by decide) (by decide) (by decide) (by decide)
    refine zP'.bind ((p_valueOf (k := (k : Int)) (B := B k) H (ST_E S st) (by omega) b1 (by rw [hf 67 _ (by decide) (by decide) (by decide) (by decide)]; exact b2) (by rw [e66]; exact ⟨b3, b4⟩) (fun r hr => by rw [hf 44 _ (by decide) (by decide) (by decide) (by decide)]; exact ok r hr)).and (CI_v H)) (fun v s p => ?_)
    obtain ⟨⟨p1, p2⟩, H1⟩ := p
    refine zP'.gd (fun _ => ?_)
    try dsimp +instances only
    rw [w32_id (x := (k : Int) + 1) (by omega) (by omega), show (k : Int) + 1 = ((k + 1 : Nat) : Int) by omega]
    refine p_remember2 S hW hW2 hB ok n (k + 1) _ (CI_zun H1 (by decide) (by decide) rfl) (fun b j h1 h2 h3 h4 => by rw [zu_a h1, p2 b j h3 h4 (Or.inl h2)]; exact hf b j h1 h2 h3 h4) (by omega) (fun i hi => ?_)
    by_cases ci : i = k
    · subst ci
      rw [zu_e rfl, p1, valC_E st, e66]
    · rw [zu_i (by omega), p2 69 _ (by decide) (by decide) (Or.inl (by decide))]
      exact hv i (by omega)
theorem p_remember {σ : zS} {I : Nat → Bool} {B : Nat → Bx} (H : CI σ) (S : ST σ 41 I) (hB : WC σ B) (ok : ok44 σ) : zP' (g_wa_remember σ) (fun _ s => ∀ i : Nat, (i : Int) < σ 65 5 → s 69 (i : Int) = valC σ 41 (B i) (σ 66 (i : Int))) := by
  have hw := CI.cw (a := 65) H (by omega)
  obtain ⟨W, hW⟩ : ∃ W : Nat, σ 65 5 = (W : Int) := ⟨(σ 65 5).toNat, by omega⟩
  exact (p_remember2 S hW (by omega) hB ok zK 0 σ H (fun _ _ _ _ _ _ => rfl) (Nat.zero_le _) (fun i hi => absurd hi (Nat.not_lt_zero _))).imp (fun _ s p i hi => p i (by omega))
theorem p_compare2 {σ0 : zS} {I : Nat → Bool} {B : Nat → Bx} {W : Nat} (S : ST σ0 41 I) (hW : σ0 65 5 = (W : Int)) (hW2 : W ≤ 6) (hB : WC σ0 B) (ok : ok44 σ0) : ∀ (n k : Nat) (σ : zS), CI σ → (∀ b j, b ≠ 68 → b ≠ 70 → b ≠ 71 → b ≠ 72 → σ b j = σ0 b j) → k ≤ W → (∀ i : Nat, i < k → σ 68 (i : Int) = chgA (σ0 69 (i : Int)) (σ0 68 (i : Int)) (valC σ0 41 (B i) (σ0 66 (i : Int)))) → (∀ i : Nat, k ≤ i → σ 68 (i : Int) = σ0 68 (i : Int)) → zP' (g_wa_compare_L2 n (k : Int) σ) (fun _ s => ∀ i : Nat, i < W → s 68 (i : Int) = chgA (σ0 69 (i : Int)) (σ0 68 (i : Int)) (valC σ0 41 (B i) (σ0 66 (i : Int))))
  | 0, _, _, _, _, _, _, _ => zP'.no
  | n + 1, k, σ, H, hf, hk, hv, hv2 => by
    have e5 : σ 65 5 = (W : Int) := (hf 65 5 (by decide) (by decide) (by decide) (by decide)).trans hW
    have st : stE σ0 σ := fun a j h => hf a j (by unfold stK at h; omega) (by unfold stK at h; omega) (by unfold stK at h; omega) (by unfold stK at h; omega)
    unfold g_wa_compare_L2
    try dsimp +instances only
    rw [e5]
    refine zP'.ite (fun c => zP'.ret (fun i hi => hv i (by omega))) (fun c => zP'.ite (fun c2 => zP'.ret (fun i hi => hv i (by omega))) (fun c2 => ?_))
    obtain ⟨b1, b2, b3, b4⟩ := hB k (by omega) (by omega)
    have e66 : σ 66 (k : Int) = σ0 66 (k : Int) := hf 66 _ (by decide) (by decide) (by decide) (by decide)
    refine zP'.bind ((p_valueOf (k := (k : Int)) (B := B k) H (ST_E S st) (by omega) b1 (by rw [hf 67 _ (by decide) (by decide) (by decide) (by decide)]; exact b2) (by rw [e66]; exact ⟨b3, b4⟩) (fun r hr => by rw [hf 44 _ (by decide) (by decide) (by decide) (by decide)]; exact ok r hr)).and (CI_v H)) (fun v s p => ?_)
    obtain ⟨⟨p1, p2⟩, H1⟩ := p
    have ev : v = valC σ0 41 (B k) (σ0 66 (k : Int)) := by rw [p1, valC_E st, e66]
    have sf : ∀ b j, b ≠ 68 → b ≠ 70 → b ≠ 71 → b ≠ 72 → s b j = σ0 b j := fun b j h1 h2 h3 h4 => by rw [p2 b j h3 h4 (Or.inl h2)]; exact hf b j h1 h2 h3 h4
    have s68 : ∀ j, s 68 j = σ 68 j := fun j => p2 68 j (by decide) (by decide) (Or.inl (by decide))
    have e69 : s 69 (k : Int) = σ0 69 (k : Int) := sf 69 _ (by decide) (by decide) (by decide) (by decide)
    refine zP'.gd (fun _ => ?_)
    try dsimp +instances only
    refine zP'.ite (fun c3 => ?_) (fun c3 => ?_)
    · unfold g_wa_compare_L42
      rw [w32_id (x := (k : Int) + 1) (by omega) (by omega), show (k : Int) + 1 = ((k + 1 : Nat) : Int) by omega]
      have c3 := lCmp_eq.mp c3
      rw [e69, ev] at c3
      refine p_compare2 S hW hW2 hB ok n (k + 1) s H1 sf (by omega) (fun i hi => ?_) (fun i hi => by rw [s68]; exact hv2 i (by omega))
      by_cases ci : i = k
      · subst ci
        rw [s68, hv2 i (Nat.le_refl _)]
        exact (if_pos c3).symm
      · rw [s68]
        exact hv i (by omega)
    · refine zP'.gd (fun _ => zP'.gd (fun _ => ?_))
      try dsimp +instances only
      unfold g_wa_compare_L42
      rw [w32_id (x := (k : Int) + 1) (by omega) (by omega), show (k : Int) + 1 = ((k + 1 : Nat) : Int) by omega]
      have c3 : ¬ valC σ0 41 (B k) (σ0 66 (k : Int)) = σ0 69 (k : Int) := fun e => c3 (lCmp_eq.mpr (by rw [e69, ev]; exact e))
      refine p_compare2 S hW hW2 hB ok n (k + 1) _ (CI_zun H1 (by decide) (by decide) rfl) (fun b j h1 h2 h3 h4 => by rw [zu_a h1]; exact sf b j h1 h2 h3 h4) (by omega) (fun i hi => ?_) (fun i hi => by rw [zu_i (by omega), s68]; exact hv2 i (by omega))
      by_cases ci : i = k
      · subst ci
        rw [zu_e rfl, s68, hv2 i (Nat.le_refl _)]
        exact (if_neg c3).symm
      · rw [zu_i (by omega), s68]
        exact hv i (by omega)
/-- the end of put() and take() -/
theorem p_after {σ : zS} {I : Nat → Bool} {B : Nat → Bx} (H : CI σ) (S : ST σ 41 I) (hB : WC σ B) (ok : ok44 σ) : zP' (g_c_afterWrites σ) (fun _ s => ∀ i : Nat, (i : Int) < σ 65 5 → s 68 (i : Int) = chgA (σ 69 (i : Int)) (σ 68 (i : Int)) (valC s 41 (B i) (σ 66 (i : Int)))) := by
  have hw := CI.cw (a := 65) H (by omega)
  obtain ⟨W, hW⟩ : ∃ W : Nat, σ 65 5 = (W : Int) := ⟨(σ 65 5).toNat, by omega⟩
  unfold g_c_afterWrites
  refine zP'.bind (zP'.of (g_ca_trim_sp (a0 := 48) (by omega) H)) (fun _ s1 p1 => ?_)
  obtain ⟨H1, G1, -⟩ := p1
  try dsimp +instances only
  have st : stE σ s1 := stE.of G1 (fun _ => ⟨rfl, rfl, rfl, rfl, rfl, rfl, rfl⟩)
  have k5 : s1 65 5 = σ 65 5 := G1 65 5 (Or.inr rfl)
  have k66 : ∀ j, s1 66 j = σ 66 j := fun j => G1 66 j (Or.inr rfl)
  have k67 : ∀ j, s1 67 j = σ 67 j := fun j => G1 67 j (Or.inr rfl)
  have k68 : ∀ j, s1 68 j = σ 68 j := fun j => G1 68 j (Or.inr rfl)
  have k69 : ∀ j, s1 69 j = σ 69 j := fun j => G1 69 j (Or.inr rfl)
  have hB1 : WC s1 B := fun k h1 h2 => by
    rw [k66, k67]
    rw [k5] at h2
    exact hB k h1 h2
  have ok1 : ok44 s1 := fun r hr => by
    rw [st 44 _ (by unfold stK; omega)]
    exact ok r hr
  refine zP'.bind ((p_compare2 (σ0 := s1) (ST_E S st) (k5.trans hW) (by omega) hB1 ok1 zK 0 s1 H1 (fun _ _ _ _ _ _ => rfl) (Nat.zero_le _) (fun i hi => absurd hi (Nat.not_lt_zero _)) (fun _ _ => rfl)).and (zP'.of (g_wa_compare_sp H1))) (fun _ s2 p2 => ?_)
  obtain ⟨p2, H2, G2, -⟩ := p2
  have st2 : stE s1 s2 := stE.of G2 (fun _ => ⟨rfl, rfl, rfl, rfl, rfl, rfl, rfl⟩)
  refine zP'.ret (fun i hi => ?_)
  dsimp only
  rw [valC_E st2]
  have h := p2 i (by omega)
  rw [k66, k68, k69] at h
  exact h
theorem c_put90W {r : Nat} {x y v : Int} {σ : zS} {I : Nat → Bool} {B : Nat → Bx} (H : CI σ) (S : ST σ 41 I) (hr : r < 60) (hI : I r = false) (hx : 0 ≤ x ∧ x ≤ 31) (hy : 0 ≤ y ∧ y ≤ 31) (hB : WC σ B) (ok : ok44 σ) (hv : okL v) : zP' (g_c_put_L90 (r : Int) x y v σ) (fun _ s => ∀ i : Nat, (i : Int) < σ 65 5 → s 68 (i : Int) = chgA (σ 69 (i : Int)) (σ 68 (i : Int)) (valC s 41 (B i) (σ 66 (i : Int)))) := by
  have h4 := CI.c4 (a := 41) H (by omega)
  unfold g_c_put_L90
  refine zP'.bind ((p_bringIn H hr hx hy (ST_cnt S hr hI h4.1) (by rw [ST_bit H S hr]; exact hI) (ST_val S)).and (zP'.of (g_so_bringIn_sp H))) (fun _ s1 p1 => ?_)
  obtain ⟨⟨k1, k2, k3, k4⟩, H1, G1, -⟩ := p1
  have S1 := ST_in S hr hI hx hy h4.1 k1 k2 k3 k4
  try dsimp +instances only
  unfold g_b_of
  rw [Option.bind_some]
  refine zP'.bind (zP'.of (g_ca_write_sp (a0 := 48) (by omega) H1)) (fun _ s2 p2 => ?_)
  obtain ⟨H2, G2, -⟩ := p2
  try dsimp +instances only
  have st : stE s1 s2 := stE.of G2 (fun _ => ⟨rfl, rfl, rfl, rfl, rfl, rfl, rfl⟩)
  have j5 : s2 65 5 = σ 65 5 := (G2 65 5 (Or.inr rfl)).trans (G1 65 5 (Or.inr rfl))
  have j66 : ∀ j, s2 66 j = σ 66 j := fun j => (G2 66 j (Or.inr rfl)).trans (G1 66 j (Or.inr rfl))
  have j67 : ∀ j, s2 67 j = σ 67 j := fun j => (G2 67 j (Or.inr rfl)).trans (G1 67 j (Or.inr rfl))
  have j68 : ∀ j, s2 68 j = σ 68 j := fun j => (G2 68 j (Or.inr rfl)).trans (G1 68 j (Or.inr rfl))
  have j69 : ∀ j, s2 69 j = σ 69 j := fun j => (G2 69 j (Or.inr rfl)).trans (G1 69 j (Or.inr rfl))
  have hB2 : WC s2 B := fun k h1 h2 => by
    rw [j66, j67]
    rw [j5] at h2
    exact hB k h1 h2
  have ok2 : ok44 s2 := fun q hq => by
    rw [st 44 _ (by unfold stK; omega), k1.2.2]
    by_cases c : (q : Int) = (r : Int)
    · rw [if_pos c]; exact hv
    · rw [if_neg c]; exact ok q hq
  refine zP'.bind (p_after (B := B) H2 (ST_E S1 st) hB2 ok2) (fun _ s3 p3 => ?_)
  refine zP'.ret (fun i hi => ?_)
  have h := p3 i (by rw [j5]; exact hi)
  rw [j66, j68, j69] at h
  exact h
theorem c_putW {r x y v : Int} {σ : zS} {I : Nat → Bool} {B : Nat → Bx} (H : CI σ) (S : ST σ 41 I) (hB : WC σ B) (ok : ok44 σ) (hv : okL v) : zP' (g_c_put r x y v σ) (fun _ s => (acc r x y v → ∀ i : Nat, (i : Int) < σ 65 5 → s 68 (i : Int) = chgA (valC σ 41 (B i) (σ 66 (i : Int))) (σ 68 (i : Int)) (valC s 41 (B i) (σ 66 (i : Int)))) ∧ (¬ acc r x y v → s = σ)) := by
  have no : ∀ c : Int, ¬ acc r x y v → zP' (some (c, σ)) (fun _ s => (acc r x y v → ∀ i : Nat, (i : Int) < σ 65 5 → s 68 (i : Int) = chgA (valC σ 41 (B i) (σ 66 (i : Int))) (σ 68 (i : Int)) (valC s 41 (B i) (σ 66 (i : Int)))) ∧ (¬ acc r x y v → s = σ)) := fun c h => zP'.ret ⟨fun k => absurd k h, fun _ => rfl⟩
  unfold g_c_put
  rw [p_isRow]
  rw [Option.bind_some]
  try dsimp +instances only
  by_cases c1 : 0 ≤ r ∧ r < 60
  · rw [if_pos c1, if_pos (by decide), p_isPlace]
    rw [Option.bind_some]
    try dsimp +instances only
    by_cases c2 : 0 ≤ x ∧ x ≤ 31 ∧ 0 ≤ y ∧ y ≤ 31
    · rw [if_pos c2, if_neg (by decide)]
      refine zP'.ite (fun c3 => no _ (fun h => h.2.2.2.1 (lCmp_eq.mp c3))) (fun c3 => ?_)
      refine zP'.ite (fun c4 => ?_) (fun c4 => no _ (fun h => c4 (fun e => h.2.2.2.2 (lCmp_eq.mp e))))
      have hacc : acc r x y v := ⟨c1, ⟨c2.1, c2.2.1⟩, c2.2.2, fun h => c3 (lCmp_eq.mpr h), fun h => c4 (lCmp_eq.mpr h)⟩
      obtain ⟨k, rfl⟩ : ∃ k : Nat, r = (k : Int) := ⟨r.toNat, by omega⟩
      have hk : k < 60 := by omega
      refine zP'.bind ((p_remember H S hB ok).and (zP'.of (g_wa_remember_sp H))) (fun _ s1 p1 => ?_)
      obtain ⟨w1, H1, G1, -⟩ := p1
      have e1 : stE σ s1 := stE.of G1 (fun _ => ⟨rfl, rfl, rfl, rfl, rfl, rfl, rfl⟩)
      have S1 := ST_E S e1
      try dsimp +instances only
      have j5 : s1 65 5 = σ 65 5 := G1 65 5 (Or.inr rfl)
      have j66 : ∀ j, s1 66 j = σ 66 j := fun j => G1 66 j (Or.inr rfl)
      have j67 : ∀ j, s1 67 j = σ 67 j := fun j => G1 67 j (Or.inr rfl)
      have j68 : ∀ j, s1 68 j = σ 68 j := fun j => G1 68 j (Or.inr rfl)
      have hB1 : WC s1 B := fun k h1 h2 => by
        rw [j66, j67]
        rw [j5] at h2
        exact hB k h1 h2
      have ok1 : ok44 s1 := fun q hq => by
        rw [e1 44 _ (by unfold stK; omega)]
        exact ok q hq
      rw [p_isIn hk, ST_bit H1 S1 hk]
      rw [Option.bind_some]
      try dsimp +instances only
      by_cases c5 : I k = true
      · rw [if_pos c5, if_neg (by decide)]
        refine zP'.bind ((p_bringOut H1 hk).and (zP'.of (g_so_bringOut_sp H1))) (fun w s2 p2 => ?_)
        obtain ⟨k2, H2, G2, -⟩ := p2
        obtain ⟨k3, k4, k5, -⟩ := k2 (by rw [ST_bit H1 S1 hk]; exact c5)
        have S2 := ST_out H1 S1 hk c5 k3 k4 k5
        try dsimp +instances only
        refine zP'.bind (zP'.of (g_ca_write_sp (a0 := 48) (by omega) H2)) (fun _ s3 p3 => ?_)
        obtain ⟨H3, G3, -⟩ := p3
        have e3 : stE s2 s3 := stE.of G3 (fun _ => ⟨rfl, rfl, rfl, rfl, rfl, rfl, rfl⟩)
        have S3 := ST_E S2 e3
        try dsimp +instances only
        have m5 : s3 65 5 = s1 65 5 := (G3 65 5 (Or.inr rfl)).trans (G2 65 5 (Or.inr rfl))
        have m66 : ∀ j, s3 66 j = s1 66 j := fun j => (G3 66 j (Or.inr rfl)).trans (G2 66 j (Or.inr rfl))
        have m67 : ∀ j, s3 67 j = s1 67 j := fun j => (G3 67 j (Or.inr rfl)).trans (G2 67 j (Or.inr rfl))
        have m68 : ∀ j, s3 68 j = s1 68 j := fun j => (G3 68 j (Or.inr rfl)).trans (G2 68 j (Or.inr rfl))
        have m69 : ∀ j, s3 69 j = s1 69 j := fun j => (G3 69 j (Or.inr rfl)).trans (G2 69 j (Or.inr rfl))
        have hB3 : WC s3 B := fun k h1 h2 => by
          rw [m66, m67]
          rw [m5] at h2
          exact hB1 k h1 h2
        have ok3 : ok44 s3 := fun q hq => by
          rw [e3 44 _ (by unfold stK; omega), k3 44 _ (by decide) (by decide) (by decide) (Or.inl (by decide))]
          exact ok1 q hq
        refine (c_put90W (x := x) (y := y) (v := v) (B := B) H3 S3 hk (by simp) ⟨c2.1, c2.2.1⟩ c2.2.2 hB3 ok3 hv).imp (fun _ s h => ⟨fun _ i hi => ?_, fun hn => absurd hacc hn⟩)
        have h := h i (by rw [m5, j5]; exact hi)
        rw [m66, m68, m69, j66, j68, w1 i hi] at h
        exact h
      · have c6 : I k = false := by
          cases hb : I k with
          | true => exact absurd hb c5
          | false => rfl
        rw [if_neg c5, if_pos rfl]
        refine (c_put90W (x := x) (y := y) (v := v) (B := B) H1 S1 hk c6 ⟨c2.1, c2.2.1⟩ c2.2.2 hB1 ok1 hv).imp (fun _ s h => ⟨fun _ i hi => ?_, fun hn => absurd hacc hn⟩)
        have h := h i (by rw [j5]; exact hi)
        rw [j66, j68, w1 i hi] at h
        exact h
    · rw [if_neg c2, if_pos rfl]
      exact no _ (fun h => c2 ⟨h.2.1.1, h.2.1.2, h.2.2.1.1, h.2.2.1.2⟩)
  · rw [if_neg c1, if_neg (by decide)]
    exact no _ (fun h => c1 h.1)
theorem c_takeW {r : Int} {σ : zS} {I : Nat → Bool} {B : Nat → Bx} (H : CI σ) (S : ST σ 41 I) (hB : WC σ B) (ok : ok44 σ) : zP' (g_c_take r σ) (fun _ s => ((0 ≤ r ∧ r < 60) ∧ I r.toNat = true → ∀ i : Nat, (i : Int) < σ 65 5 → s 68 (i : Int) = chgA (valC σ 41 (B i) (σ 66 (i : Int))) (σ 68 (i : Int)) (valC s 41 (B i) (σ 66 (i : Int)))) ∧ (¬ ((0 ≤ r ∧ r < 60) ∧ I r.toNat = true) → s = σ)) := by
  unfold g_c_take
  rw [p_isRow]
  rw [Option.bind_some]
  try dsimp +instances only
  by_cases c1 : 0 ≤ r ∧ r < 60
  · obtain ⟨k, rfl⟩ : ∃ k : Nat, r = (k : Int) := ⟨r.toNat, by omega⟩
    have hk : k < 60 := by omega
    have ek : ((k : Int)).toNat = k := by omega
    rw [if_pos c1, if_pos (by decide), p_isIn hk, ST_bit H S hk]
    rw [Option.bind_some]
    try dsimp +instances only
    by_cases c5 : I k = true
    · rw [if_pos c5, if_pos (by decide)]
      refine zP'.bind ((p_remember H S hB ok).and (zP'.of (g_wa_remember_sp H))) (fun _ s1 p1 => ?_)
      obtain ⟨w1, H1, G1, -⟩ := p1
      have e1 : stE σ s1 := stE.of G1 (fun _ => ⟨rfl, rfl, rfl, rfl, rfl, rfl, rfl⟩)
      have S1 := ST_E S e1
      try dsimp +instances only
      refine zP'.bind ((p_bringOut H1 hk).and (zP'.of (g_so_bringOut_sp H1))) (fun w s2 p2 => ?_)
      obtain ⟨k2, H2, G2, -⟩ := p2
      obtain ⟨k3, k4, k5, -⟩ := k2 (by rw [ST_bit H1 S1 hk]; exact c5)
      have S2 := ST_out H1 S1 hk c5 k3 k4 k5
      try dsimp +instances only
      refine zP'.bind (zP'.of (g_ca_write_sp (a0 := 48) (by omega) H2)) (fun _ s3 p3 => ?_)
      obtain ⟨H3, G3, -⟩ := p3
      have e3 : stE s2 s3 := stE.of G3 (fun _ => ⟨rfl, rfl, rfl, rfl, rfl, rfl, rfl⟩)
      try dsimp +instances only
      have m5 : s3 65 5 = σ 65 5 := (G3 65 5 (Or.inr rfl)).trans ((G2 65 5 (Or.inr rfl)).trans (G1 65 5 (Or.inr rfl)))
      have m66 : ∀ j, s3 66 j = σ 66 j := fun j => (G3 66 j (Or.inr rfl)).trans ((G2 66 j (Or.inr rfl)).trans (G1 66 j (Or.inr rfl)))
      have m67 : ∀ j, s3 67 j = σ 67 j := fun j => (G3 67 j (Or.inr rfl)).trans ((G2 67 j (Or.inr rfl)).trans (G1 67 j (Or.inr rfl)))
      have m68 : ∀ j, s3 68 j = σ 68 j := fun j => (G3 68 j (Or.inr rfl)).trans ((G2 68 j (Or.inr rfl)).trans (G1 68 j (Or.inr rfl)))
      have m69 : ∀ j, s3 69 j = s1 69 j := fun j => (G3 69 j (Or.inr rfl)).trans (G2 69 j (Or.inr rfl))
      have hB3 : WC s3 B := fun k h1 h2 => by
        rw [m66, m67]
        rw [m5] at h2
        exact hB k h1 h2
      have ok3 : ok44 s3 := fun q hq => by
        rw [e3 44 _ (by unfold stK; omega), k3 44 _ (by decide) (by decide) (by decide) (Or.inl (by decide)), e1 44 _ (by unfold stK; omega)]
        exact ok q hq
      refine zP'.bind (p_after (B := B) H3 (ST_E S2 e3) hB3 ok3) (fun _ s4 p4 => ?_)
      refine zP'.ret ⟨fun _ i hi => ?_, fun hn => absurd ⟨c1, by rw [ek]; exact c5⟩ hn⟩
      have h := p4 i (by rw [m5]; exact hi)
      rw [m66, m68, m69, w1 i hi] at h
      exact h
    · rw [if_neg c5, if_neg (by decide)]
      exact zP'.ret ⟨fun h => absurd (by rw [ek] at h; exact h.2) c5, fun _ => rfl⟩
  · rw [if_neg c1, if_neg (by decide)]
    exact zP'.ret ⟨fun h => absurd h.1 c1, fun _ => rfl⟩
