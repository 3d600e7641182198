/-! MORE RULES: copies of which nothing is known after, products, a box's sides -/
section ZWM
variable {xl : Nat} {xs : Nat → Int32} {N S : Nat} {T : wT}
variable {q : z_R} {d k pc pc' : Nat} {L L' : zL} {st st' r : List Value} {μ : zM} {Q : Option Value → zM → Prop}
theorem w_ok.src (H : w_ok xl xs N S T μ) {a t na : Nat} (h : (w_row T a).map (fun r => (r.1, r.2.1)) = some (t, na)) : z_tg μ a = t ∧ z_n μ a = na ∧ w_el t (μ.2 a) := by
  obtain ⟨rr, hrr, he⟩ := Option.map_eq_some_iff.mp h
  obtain ⟨g1, g2, g3, g4⟩ := H.2.2.2.2 a rr hrr
  have he1 : rr.1 = t := (Prod.mk.inj he).1
  have he2 : rr.2.1 = na := (Prod.mk.inj he).2
  refine ⟨?_, ?_, by rw [← he1]; exact g3⟩
  · unfold z_tg; rw [g2]; exact he1
  · unfold z_n; rw [g2]; exact he2
theorem w_ok.srce (H : w_ok xl xs N S T μ) {a na : Nat} (ha : a < 39) (h19 : 19 ≤ a) (h : (z_sh0 xl)[a]? = some (2, na)) : z_tg μ a = 2 ∧ z_n μ a = na ∧ w_el 2 (μ.2 a) := by
  obtain ⟨g1, g2⟩ := H.te ha h
  refine ⟨g1, g2, fun _ j => ?_, fun h => by omega⟩
  rw [(H.2.2.2.1 a ha).2 j]
  unfold z_m0
  rw [if_neg (by omega), if_neg (by omega)]
  split
  · exact ⟨_, rfl⟩
  · exact ⟨_, rfl⟩
theorem w_cpu (H : w_ok xl xs N S T μ) {idx a b t na nb n s0 d0 : Nat} {r3 : Nat × Nat × List Nat} {y sp dp : Int32} (hq : z_mth k = some q) (hi : z_at q pc (.invokestatic idx)) (hl : z_lk z_ML q.2.2.2.2.1 idx = some (8, r3)) (hcat : z_cat r ≤ 8) (hs : z_tg μ a = t ∧ z_n μ a = na ∧ w_el t (μ.2 a)) (hrb : (w_row T b).map (fun r => (r.1, r.2.1)) = some (t, nb)) (hsp : sp.toInt = s0) (hdp : dp.toInt = d0) (hy : y.toInt = n) (h1 : s0 + n ≤ na) (h2 : d0 + n ≤ nb) (h3 : t < 3) (e1 : pc + 3 = pc') (e2 : z_can k pc' L = L') (kk : ∀ μ2, w_ok xl xs N S ((b, (t, nb, [], none)) :: T) μ2 → z_W d k pc' L' r μ2 Q) : z_W d k pc L (.int y :: .int dp :: .ref b :: .int sp :: .ref a :: r) μ Q := by
  obtain ⟨ta, na', ela⟩ := hs
  obtain ⟨tb, nb', elb⟩ := H.src hrb
  obtain ⟨rb, hrb2, he⟩ := Option.map_eq_some_iff.mp hrb
  have he1 : rb.1 = t := (Prod.mk.inj he).1
  have he2 : rb.2.1 = nb := (Prod.mk.inj he).2
  obtain ⟨H1, H2, H3, H4, H5⟩ := id H
  obtain ⟨gb1, gb2, -, -⟩ := H5 b rb hrb2
  have e3 : y.toNatClampNeg = n := by
    show y.toInt.toNat = n
    omega
  have e4 : sp.toNatClampNeg = s0 := by
    show sp.toInt.toNat = s0
    omega
  have e5 : dp.toNatClampNeg = d0 := by
    show dp.toInt.toNat = d0
    omega
  have hcp : z_cp μ a sp b dp y = some (μ.1, z_nw μ.2 b (z_cpy (μ.2 a) (μ.2 b) s0 d0 n)) := by
    unfold z_cp
    rw [e3, e4, e5, if_pos ⟨gb1, ta.trans tb.symm, by rw [ta]; exact h3, by omega, by omega, by omega, by omega, by omega⟩]
  refine w_x (fun _ _ e => ev_cp hq hi hl hcat hcp e1 e2 e) (kk _ ?_)
  refine ⟨H1, H2, H3, fun c hc => ⟨(H4 c hc).1, fun j => ?_⟩, fun c rc hc => ?_⟩
  · show (if c = b then _ else μ.2 c j) = _
    rw [if_neg (by omega)]
    exact (H4 c hc).2 j
  · rw [w_row_cons] at hc
    by_cases hbc : b = c
    · subst hbc
      rw [if_pos rfl] at hc
      cases hc
      have e : ∀ j, (if b = b then z_cpy (μ.2 a) (μ.2 b) s0 d0 n j else μ.2 b j) = if d0 ≤ j ∧ j < d0 + n then μ.2 a (s0 + (j - d0)) else μ.2 b j := fun j => if_pos rfl
      refine ⟨gb1, ?_, ⟨fun ht j => ?_, fun ht j => ?_⟩, fun j v hj hv => ?_⟩
      · show μ.1[b]? = some (t, nb)
        rw [gb2, he1, he2]
      · show ∃ x : Int32, (if b = b then z_cpy (μ.2 a) (μ.2 b) s0 d0 n j else μ.2 b j) = .int x
        rw [e j]
        split
        · exact ela.1 ht _
        · exact elb.1 ht j
      · show ∃ x : Int64, (if b = b then z_cpy (μ.2 a) (μ.2 b) s0 d0 n j else μ.2 b j) = .long x
        rw [e j]
        split
        · exact ela.2 ht _
        · exact elb.2 ht j
      · cases hv
    · rw [if_neg hbc] at hc
      obtain ⟨k1, k2, k3, k4⟩ := H5 c rc hc
      have e : z_nw μ.2 b (z_cpy (μ.2 a) (μ.2 b) s0 d0 n) c = μ.2 c := funext fun j => if_neg (fun e => hbc e.symm)
      refine ⟨k1, k2, ?_, ?_⟩
      · show w_el rc.1 (z_nw μ.2 b (z_cpy (μ.2 a) (μ.2 b) s0 d0 n) c)
        rw [e]; exact k3
      · show ∀ j v, j < rc.2.1 → w_at rc j = some v → z_nw μ.2 b (z_cpy (μ.2 a) (μ.2 b) s0 d0 n) c j = v
        rw [e]; exact k4
end ZWM
theorem zi_prod {x y : Int32} {a b : Int} (hx : x.toInt = a) (hy : y.toInt = b) (ha : 1 ≤ a ∧ a ≤ 32) (hb : 1 ≤ b ∧ b ≤ 32) : 1 ≤ (x * y).toInt ∧ (x * y).toInt ≤ 1024 := by
  have h1 : 1 * 1 ≤ a * b := Int.mul_le_mul ha.1 hb.1 (by omega) (by omega)
  have h2 : a * b ≤ 32 * 32 := Int.mul_le_mul ha.2 hb.2 (by omega) (by omega)
  have := zi_mul (c := a * b) hx hy (by omega) (by omega) rfl
  omega
theorem zp_n {x : Int32} (h : 0 ≤ x.toInt ∧ x.toInt ≤ 31) : ∃ n, n < 32 ∧ x = Int32.ofNat n := by
  refine ⟨x.toInt.toNat, by omega, ?_⟩
  apply Int32.toInt_inj.mp
  rw [Int32.toInt_ofNat']
  have : ((x.toInt.toNat : Nat) : Int) = x.toInt := by omega
  rw [this, zi_bm (by omega) (by omega)]
theorem zp_or_and (a b c : Int32) : (a ||| b) &&& c = (a &&& c) ||| (b &&& c) := by
  apply Int32.toBitVec_inj.1
  apply BitVec.eq_of_getLsbD_eq
  intro i _
  simp [Bool.and_or_distrib_right]
theorem zpdA_0 : ∀ n, n < 32 → (Int32.ofNat n) &&& (31 : Int32) = Int32.ofNat n := by decide +kernel
theorem zpdA_1 : ∀ n, n < 32 → (Int32.ofNat n <<< ((5 : Int32) &&& 31)) &&& (31 : Int32) = 0 := by decide +kernel
theorem zpdA_2 : ∀ n, n < 32 → (Int32.ofNat n <<< ((10 : Int32) &&& 31)) &&& (31 : Int32) = 0 := by decide +kernel
theorem zpdA_3 : ∀ n, n < 32 → (Int32.ofNat n <<< ((15 : Int32) &&& 31)) &&& (31 : Int32) = 0 := by decide +kernel
theorem zpA {x y z w : Int32} (hx : 0 ≤ x.toInt ∧ x.toInt ≤ 31) (hy : 0 ≤ y.toInt ∧ y.toInt ≤ 31) (hz : 0 ≤ z.toInt ∧ z.toInt ≤ 31) (hw : 0 ≤ w.toInt ∧ w.toInt ≤ 31) : (((x ||| (y <<< ((5 : Int32) &&& 31))) ||| (z <<< ((10 : Int32) &&& 31))) ||| (w <<< ((15 : Int32) &&& 31))) &&& (31 : Int32) = x := by
  obtain ⟨a, ha, rfl⟩ := zp_n hx
  obtain ⟨b, hb, rfl⟩ := zp_n hy
  obtain ⟨c, hc, rfl⟩ := zp_n hz
  obtain ⟨f, hf, rfl⟩ := zp_n hw
  rw [zp_or_and, zp_or_and, zp_or_and, zpdA_0 a ha, zpdA_1 b hb, zpdA_2 c hc, zpdA_3 f hf]
  simp only [Int32.or_zero, Int32.zero_or]
theorem zpd0_0 : ∀ n, n < 32 → ((Int32.ofNat n) >>> ((0 : Int32) &&& 31)) &&& (31 : Int32) = Int32.ofNat n := by decide +kernel
theorem zpd0_1 : ∀ n, n < 32 → ((Int32.ofNat n <<< ((5 : Int32) &&& 31)) >>> ((0 : Int32) &&& 31)) &&& (31 : Int32) = 0 := by decide +kernel
theorem zpd0_2 : ∀ n, n < 32 → ((Int32.ofNat n <<< ((10 : Int32) &&& 31)) >>> ((0 : Int32) &&& 31)) &&& (31 : Int32) = 0 := by decide +kernel
theorem zpd0_3 : ∀ n, n < 32 → ((Int32.ofNat n <<< ((15 : Int32) &&& 31)) >>> ((0 : Int32) &&& 31)) &&& (31 : Int32) = 0 := by decide +kernel
theorem zp0 {x y z w : Int32} (hx : 0 ≤ x.toInt ∧ x.toInt ≤ 31) (hy : 0 ≤ y.toInt ∧ y.toInt ≤ 31) (hz : 0 ≤ z.toInt ∧ z.toInt ≤ 31) (hw : 0 ≤ w.toInt ∧ w.toInt ≤ 31) : ((((x ||| (y <<< ((5 : Int32) &&& 31))) ||| (z <<< ((10 : Int32) &&& 31))) ||| (w <<< ((15 : Int32) &&& 31))) >>> ((0 : Int32) &&& 31)) &&& (31 : Int32) = x := by
  obtain ⟨a, ha, rfl⟩ := zp_n hx
  obtain ⟨b, hb, rfl⟩ := zp_n hy
  obtain ⟨c, hc, rfl⟩ := zp_n hz
  obtain ⟨f, hf, rfl⟩ := zp_n hw
  rw [Int32.shiftRight_or, Int32.shiftRight_or, Int32.shiftRight_or, zp_or_and, zp_or_and, zp_or_and, zpd0_0 a ha, zpd0_1 b hb, zpd0_2 c hc, zpd0_3 f hf]
  simp only [Int32.or_zero, Int32.zero_or]
theorem zpd5_0 : ∀ n, n < 32 → ((Int32.ofNat n) >>> ((5 : Int32) &&& 31)) &&& (31 : Int32) = 0 := by decide +kernel
theorem zpd5_1 : ∀ n, n < 32 → ((Int32.ofNat n <<< ((5 : Int32) &&& 31)) >>> ((5 : Int32) &&& 31)) &&& (31 : Int32) = Int32.ofNat n := by decide +kernel
theorem zpd5_2 : ∀ n, n < 32 → ((Int32.ofNat n <<< ((10 : Int32) &&& 31)) >>> ((5 : Int32) &&& 31)) &&& (31 : Int32) = 0 := by decide +kernel
theorem zpd5_3 : ∀ n, n < 32 → ((Int32.ofNat n <<< ((15 : Int32) &&& 31)) >>> ((5 : Int32) &&& 31)) &&& (31 : Int32) = 0 := by decide +kernel
theorem zp5 {x y z w : Int32} (hx : 0 ≤ x.toInt ∧ x.toInt ≤ 31) (hy : 0 ≤ y.toInt ∧ y.toInt ≤ 31) (hz : 0 ≤ z.toInt ∧ z.toInt ≤ 31) (hw : 0 ≤ w.toInt ∧ w.toInt ≤ 31) : ((((x ||| (y <<< ((5 : Int32) &&& 31))) ||| (z <<< ((10 : Int32) &&& 31))) ||| (w <<< ((15 : Int32) &&& 31))) >>> ((5 : Int32) &&& 31)) &&& (31 : Int32) = y := by
  obtain ⟨a, ha, rfl⟩ := zp_n hx
  obtain ⟨b, hb, rfl⟩ := zp_n hy
  obtain ⟨c, hc, rfl⟩ := zp_n hz
  obtain ⟨f, hf, rfl⟩ := zp_n hw
  rw [Int32.shiftRight_or, Int32.shiftRight_or, Int32.shiftRight_or, zp_or_and, zp_or_and, zp_or_and, zpd5_0 a ha, zpd5_1 b hb, zpd5_2 c hc, zpd5_3 f hf]
  simp only [Int32.or_zero, Int32.zero_or]
theorem zpd10_0 : ∀ n, n < 32 → ((Int32.ofNat n) >>> ((10 : Int32) &&& 31)) &&& (31 : Int32) = 0 := by decide +kernel
theorem zpd10_1 : ∀ n, n < 32 → ((Int32.ofNat n <<< ((5 : Int32) &&& 31)) >>> ((10 : Int32) &&& 31)) &&& (31 : Int32) = 0 := by decide +kernel
theorem zpd10_2 : ∀ n, n < 32 → ((Int32.ofNat n <<< ((10 : Int32) &&& 31)) >>> ((10 : Int32) &&& 31)) &&& (31 : Int32) = Int32.ofNat n := by decide +kernel
theorem zpd10_3 : ∀ n, n < 32 → ((Int32.ofNat n <<< ((15 : Int32) &&& 31)) >>> ((10 : Int32) &&& 31)) &&& (31 : Int32) = 0 := by decide +kernel
theorem zp10 {x y z w : Int32} (hx : 0 ≤ x.toInt ∧ x.toInt ≤ 31) (hy : 0 ≤ y.toInt ∧ y.toInt ≤ 31) (hz : 0 ≤ z.toInt ∧ z.toInt ≤ 31) (hw : 0 ≤ w.toInt ∧ w.toInt ≤ 31) : ((((x ||| (y <<< ((5 : Int32) &&& 31))) ||| (z <<< ((10 : Int32) &&& 31))) ||| (w <<< ((15 : Int32) &&& 31))) >>> ((10 : Int32) &&& 31)) &&& (31 : Int32) = z := by
  obtain ⟨a, ha, rfl⟩ := zp_n hx
  obtain ⟨b, hb, rfl⟩ := zp_n hy
  obtain ⟨c, hc, rfl⟩ := zp_n hz
  obtain ⟨f, hf, rfl⟩ := zp_n hw
  rw [Int32.shiftRight_or, Int32.shiftRight_or, Int32.shiftRight_or, zp_or_and, zp_or_and, zp_or_and, zpd10_0 a ha, zpd10_1 b hb, zpd10_2 c hc, zpd10_3 f hf]
  simp only [Int32.or_zero, Int32.zero_or]
theorem zpd15_0 : ∀ n, n < 32 → ((Int32.ofNat n) >>> ((15 : Int32) &&& 31)) &&& (31 : Int32) = 0 := by decide +kernel
theorem zpd15_1 : ∀ n, n < 32 → ((Int32.ofNat n <<< ((5 : Int32) &&& 31)) >>> ((15 : Int32) &&& 31)) &&& (31 : Int32) = 0 := by decide +kernel
theorem zpd15_2 : ∀ n, n < 32 → ((Int32.ofNat n <<< ((10 : Int32) &&& 31)) >>> ((15 : Int32) &&& 31)) &&& (31 : Int32) = 0 := by decide +kernel
theorem zpd15_3 : ∀ n, n < 32 → ((Int32.ofNat n <<< ((15 : Int32) &&& 31)) >>> ((15 : Int32) &&& 31)) &&& (31 : Int32) = Int32.ofNat n := by decide +kernel
theorem zp15 {x y z w : Int32} (hx : 0 ≤ x.toInt ∧ x.toInt ≤ 31) (hy : 0 ≤ y.toInt ∧ y.toInt ≤ 31) (hz : 0 ≤ z.toInt ∧ z.toInt ≤ 31) (hw : 0 ≤ w.toInt ∧ w.toInt ≤ 31) : ((((x ||| (y <<< ((5 : Int32) &&& 31))) ||| (z <<< ((10 : Int32) &&& 31))) ||| (w <<< ((15 : Int32) &&& 31))) >>> ((15 : Int32) &&& 31)) &&& (31 : Int32) = w := by
  obtain ⟨a, ha, rfl⟩ := zp_n hx
  obtain ⟨b, hb, rfl⟩ := zp_n hy
  obtain ⟨c, hc, rfl⟩ := zp_n hz
  obtain ⟨f, hf, rfl⟩ := zp_n hw
  rw [Int32.shiftRight_or, Int32.shiftRight_or, Int32.shiftRight_or, zp_or_and, zp_or_and, zp_or_and, zpd15_0 a ha, zpd15_1 b hb, zpd15_2 c hc, zpd15_3 f hf]
  simp only [Int32.or_zero, Int32.zero_or]
theorem zi_div {x y : Int32} {a b : Int} (hx : x.toInt = a) (hy : y.toInt = b) (ha : 0 ≤ a) (hb : 0 < b) : 0 ≤ (x / y).toInt ∧ b * (x / y).toInt ≤ a ∧ a < b * (x / y).toInt + b := by
  have h1 := Int32.toInt_div x y
  rw [hx, hy, Int.tdiv_eq_ediv_of_nonneg ha] at h1
  have h2 := zi_bd x
  have h3 : 0 ≤ a / b := Int.ediv_nonneg ha (by omega)
  have h4 : a / b ≤ a := Int.ediv_le_self b ha
  rw [zi_bm (by omega) (by omega)] at h1
  have h5 := Int.mul_ediv_add_emod a b
  have h6 := Int.emod_nonneg a (show b ≠ 0 by omega)
  have h7 := Int.emod_lt_of_pos a hb
  rw [h1]
  omega
