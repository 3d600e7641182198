/-! Long.bitCount as printed -/
theorem i64_n {n : Nat} (h : n < 9223372036854775808) : (Int64.ofInt (n : Int)).toBitVec.toNat = n := by
  rw [Int64.toBitVec_ofInt, BitVec.toNat_ofInt]
  omega
theorem i64_ti {x : Int64} (h : x.toBitVec.toNat < 9223372036854775808) : x.toInt = (x.toBitVec.toNat : Int) := by
  show x.toBitVec.toInt = _
  rw [BitVec.toInt_eq_toNat_of_lt (by omega)]
theorem lAnd_n {n m : Nat} (hn : n < 9223372036854775808) (hm : m < 9223372036854775808) : lAnd (n : Int) (m : Int) = ((n &&& m : Nat) : Int) := by
  unfold lAnd
  have h : (Int64.ofInt (n : Int) &&& Int64.ofInt (m : Int)).toBitVec.toNat = n &&& m := by
    rw [Int64.toBitVec_and, BitVec.toNat_and, i64_n hn, i64_n hm]
  have h2 : n &&& m ≤ n := Nat.and_le_left
  rw [i64_ti (by rw [h]; exact Nat.lt_of_le_of_lt h2 hn), h]
theorem lUshr_n {n k : Nat} (hn : n < 9223372036854775808) (hk : k < 64) : lUshr (n : Int) (k : Int) = ((n / 2 ^ k : Nat) : Int) := by
  unfold lUshr
  have h : (((Int64.ofInt (n : Int)).toUInt64 >>> ((Int32.ofInt (k : Int)).toInt64.toUInt64 &&& Int64.toUInt64 63)).toInt64).toBitVec.toNat = n / 2 ^ k := by
    rw [bq_ush hk, BitVec.toNat_ushiftRight, i64_n hn, Nat.shiftRight_eq_div_pow]
  have h2 : n / 2 ^ k ≤ n := Nat.div_le_self n _
  rw [i64_ti (by rw [h]; exact Nat.lt_of_le_of_lt h2 hn), h]
theorem w32_m {x : Int} : w32 x % 128 = x % 128 := by
  unfold w32 Int.bmod
  simp only [Nat.reducePow]
  split <;> omega
theorem iAnd_127 {x : Int} (h1 : -2147483648 ≤ x) (h2 : x < 2147483648) (h : 0 ≤ x % 128 ∧ x % 128 < 128) : iAnd x 127 = x % 128 := by
  have e : (Int32.ofInt x &&& Int32.ofInt 127).toBitVec.toNat = (x % 128).toNat := by
    rw [Int32.toBitVec_and, BitVec.toNat_and]
    have e1 : (Int32.ofInt 127).toBitVec.toNat = 2 ^ 7 - 1 := by decide +kernel
    rw [e1, Nat.and_two_pow_sub_one_eq_mod, Int32.toBitVec_ofInt, BitVec.toNat_ofInt]
    omega
  unfold iAnd
  rw [i32_ti (by rw [e]; omega), e]
  omega
theorem mod128 {x c : Nat} (h : x % 128 = c) : ((x : Nat) : Int) % 128 = (c : Int) := by omega
theorem bitC_n {n : Nat} (h : n < 1152921504606846976) {σ : zS} : g_jLong_bitCount (n : Int) σ = some (((cntB n 64 : Nat) : Int), σ) := by
  have hp := popN_cnt (n := n) (by omega)
  unfold popN at hp
  try dsimp only at hp
  have A1 : lAnd (lUshr (n : Int) 1) 6148914691236517205 = ((n / 2 &&& 6148914691236517205 : Nat) : Int) := by
    rw [show (1 : Int) = ((1 : Nat) : Int) from rfl, lUshr_n (by omega) (by decide)]
    exact lAnd_n (m := 6148914691236517205) (by omega) (by decide)
  have le1 : n / 2 &&& 6148914691236517205 ≤ n / 2 := Nat.and_le_left
  generalize ha : n - (n / 2 &&& 6148914691236517205) = a at hp
  have A2 : w64 ((n : Int) - (lAnd (lUshr (n : Int) 1) 6148914691236517205)) = (a : Int) := by
    rw [A1, w64_id (by omega) (by omega)]
    omega
  have a0 : a ≤ n := by omega
  have le2 : a &&& 3689348814741910323 ≤ a := Nat.and_le_left
  have le3 : a / 4 &&& 3689348814741910323 ≤ a / 4 := Nat.and_le_left
  have B1 : lAnd (a : Int) 3689348814741910323 = ((a &&& 3689348814741910323 : Nat) : Int) := lAnd_n (m := 3689348814741910323) (by omega) (by decide)
  have B2 : lAnd (lUshr (a : Int) 2) 3689348814741910323 = ((a / 4 &&& 3689348814741910323 : Nat) : Int) := by
    rw [show (2 : Int) = ((2 : Nat) : Int) from rfl, lUshr_n (by omega) (by decide)]
    exact lAnd_n (m := 3689348814741910323) (by omega) (by decide)
  generalize hb : (a &&& 3689348814741910323) + (a / 4 &&& 3689348814741910323) = b at hp
  have B3 : w64 (lAnd (a : Int) 3689348814741910323 + lAnd (lUshr (a : Int) 2) 3689348814741910323) = (b : Int) := by
    rw [B1, B2, w64_id (by omega) (by omega)]
    omega
  have b0 : b ≤ 2 * n := by omega
  have C0 : w64 ((b : Int) + lUshr (b : Int) 4) = ((b + b / 16 : Nat) : Int) := by
    rw [show (4 : Int) = ((4 : Nat) : Int) from rfl, lUshr_n (by omega) (by decide), w64_id (by omega) (by omega)]
    omega
  have le4 : b + b / 16 &&& 1085102592571150095 ≤ 1085102592571150095 := Nat.and_le_right
  have C1 : lAnd (w64 ((b : Int) + lUshr (b : Int) 4)) 1085102592571150095 = ((b + b / 16 &&& 1085102592571150095 : Nat) : Int) := by
    rw [C0]
    exact lAnd_n (m := 1085102592571150095) (by omega) (by decide)
  generalize hc : b + b / 16 &&& 1085102592571150095 = c at hp le4 C1
  have D1 : w64 ((c : Int) + lUshr (c : Int) 8) = ((c + c / 256 : Nat) : Int) := by
    rw [show (8 : Int) = ((8 : Nat) : Int) from rfl, lUshr_n (by omega) (by decide), w64_id (by omega) (by omega)]
    omega
  generalize hd : c + c / 256 = d at hp D1
  have E1 : w64 ((d : Int) + lUshr (d : Int) 16) = ((d + d / 65536 : Nat) : Int) := by
    rw [show (16 : Int) = ((16 : Nat) : Int) from rfl, lUshr_n (by omega) (by decide), w64_id (by omega) (by omega)]
    omega
  generalize he : d + d / 65536 = e at hp E1
  have F1 : w64 ((e : Int) + lUshr (e : Int) 32) = ((e + e / 4294967296 : Nat) : Int) := by
    rw [show (32 : Int) = ((32 : Nat) : Int) from rfl, lUshr_n (by omega) (by decide), w64_id (by omega) (by omega)]
    omega
  unfold g_jLong_bitCount
  rw [A2, B3, C1, D1, E1, F1]
  have hw := w32_bd ((e + e / 4294967296 : Nat) : Int)
  rw [iAnd_127 hw.1 hw.2 ⟨Int.emod_nonneg _ (by decide), Int.emod_lt_of_pos _ (by decide)⟩, w32_m, mod128 hp]
/-- a set of rows below 60 as a natural -/
theorem bq_nat {v : Int} (hv : okL v) (h : ∀ q, q < 64 → 60 ≤ q → bq v q = false) : ∃ n : Nat, v = (n : Int) ∧ n < 1152921504606846976 ∧ ∀ q, q < 64 → n.testBit q = bq v q := by
  have e : (Int64.ofInt v).toInt = v := toInt_ofInt64 hv
  have lt : (Int64.ofInt v).toBitVec.toNat < 2 ^ 60 := by
    refine Nat.lt_pow_two_of_testBit _ (fun i hi => ?_)
    by_cases c : i < 64
    · have k := h i c hi
      unfold bq at k
      exact k
    · exact Nat.testBit_lt_two_pow (Nat.lt_of_lt_of_le (Int64.ofInt v).toBitVec.isLt (Nat.pow_le_pow_right (by decide) (by omega)))
  refine ⟨(Int64.ofInt v).toBitVec.toNat, ?_, by omega, fun q hq => rfl⟩
  rw [← i64_ti (by omega), e]
def cnP (P : Nat → Bool) : Nat → Int
  | 0 => 0
  | k + 1 => cnP P k + (if P k = true then 1 else 0)
theorem cnP_ext {P Q : Nat → Bool} : ∀ k : Nat, (∀ q : Nat, q < k → P q = Q q) → cnP P k = cnP Q k
  | 0, _ => rfl
  | k + 1, h => by
    show cnP P k + _ = cnP Q k + _
    rw [cnP_ext k (fun q hq => h q (by omega)), h k (by omega)]
theorem cnP_bd {P : Nat → Bool} : ∀ k : Nat, 0 ≤ cnP P k ∧ cnP P k ≤ (k : Int)
  | 0 => ⟨Int.le_refl _, Int.le_refl _⟩
  | k + 1 => by
    have ih := cnP_bd (P := P) k
    show 0 ≤ cnP P k + _ ∧ cnP P k + _ ≤ ((k + 1 : Nat) : Int)
    split <;> omega
theorem cntB_P {n : Nat} {P : Nat → Bool} : ∀ k : Nat, (∀ q : Nat, q < k → n.testBit q = P q) → ((cntB n k : Nat) : Int) = cnP P k
  | 0, _ => rfl
  | k + 1, h => by
    have ih := cntB_P k (fun q hq => h q (by omega))
    show ((cntB n k + (n.testBit k).toNat : Nat) : Int) = cnP P k + _
    rw [h k (by omega), ← ih]
    cases P k
    · show ((cntB n k + 0 : Nat) : Int) = _
      rw [if_neg (by decide)]
      omega
    · show ((cntB n k + 1 : Nat) : Int) = _
      rw [if_pos rfl]
      omega
theorem cntB_60 {n : Nat} (h : n < 1152921504606846976) : cntB n 64 = cntB n 60 := by
  have z : ∀ q, 60 ≤ q → n.testBit q = false := fun q hq => Nat.testBit_lt_two_pow (Nat.lt_of_lt_of_le (show n < 2 ^ 60 by omega) (Nat.pow_le_pow_right (by decide) hq))
  show cntB n 60 + (n.testBit 60).toNat + (n.testBit 61).toNat + (n.testBit 62).toNat + (n.testBit 63).toNat = _
  rw [z 60 (by decide), z 61 (by decide), z 62 (by decide), z 63 (by decide)]
  rfl
theorem lAnd_ok (x y : Int) : okL (lAnd x y) := by
  unfold lAnd
  have h1 := Int64.le_toInt (Int64.ofInt x &&& Int64.ofInt y)
  have h2 := Int64.toInt_lt (Int64.ofInt x &&& Int64.ofInt y)
  omega
theorem rowsIn_ok {x : Int} {σ : zS} : zP' (g_so_rowsIn x σ) (fun v _ => okL v) := by
  unfold g_so_rowsIn g_b_x1 g_b_x0 g_b_y1 g_b_y0
  simp only [Option.bind_some]
  repeat' first | exact zP'.ret (lAnd_ok _ _) | refine zP'.gd (fun _ => ?_)
/-- how many rows lie in a box, of the class's store -/
def rnC (σ : zS) (I : Nat → Bool) (b : Bx) : Int := cnP (fun q => I q && decide (bIn b (σ 42 (q : Int)) (σ 43 (q : Int)))) 60
theorem p_rc {σ : zS} {I : Nat → Bool} {b : Bx} (S : STb σ 41 I) (hI : ∀ r, I r = true → r < 60) (hb : bOk b) : ∃ v, g_so_rowsIn (enc b) σ = some (v, σ) ∧ ∀ s, g_jLong_bitCount v s = some (rnC σ I b, s) := by
  obtain ⟨v, e1, e2⟩ := p_rowsIn (σ := σ) (b := b) S hb
  refine ⟨v, e1, fun s => ?_⟩
  have hv : okL v := rowsIn_ok v σ e1
  obtain ⟨n, rfl, hn, ht⟩ := bq_nat hv (fun q h1 h2 => by
    rw [e2 q h1]
    cases hq : I q with
    | false => rfl
    | true =>
      have := hI q hq
      omega)
  rw [bitC_n hn, cntB_60 hn, cntB_P (P := fun q => I q && decide (bIn b (σ 42 (q : Int)) (σ 43 (q : Int)))) 60 (fun q hq => by rw [ht q (by omega), e2 q (by omega)])]
  rfl
theorem rnC_bd {σ : zS} {I : Nat → Bool} {b : Bx} : 0 ≤ rnC σ I b ∧ rnC σ I b ≤ 60 := cnP_bd 60
theorem rowsC_P {σ : zS} {b : Bx} : ∀ k : Nat, rowsC σ b k = cnP (fun q => decide (σ 144 (20 + 3 * (q : Int)) = 1 ∧ bIn b (σ 144 (21 + 3 * (q : Int))) (σ 144 (22 + 3 * (q : Int))))) k
  | 0 => rfl
  | k + 1 => by
    show rowsC σ b k + _ = cnP _ k + _
    rw [rowsC_P k]
    by_cases c : σ 144 (20 + 3 * (k : Int)) = 1 ∧ bIn b (σ 144 (21 + 3 * (k : Int))) (σ 144 (22 + 3 * (k : Int)))
    · rw [if_pos c, if_pos (decide_eq_true c)]
    · rw [if_neg c, if_neg (fun h => c (of_decide_eq_true h))]
theorem rnC_eq {σ : zS} {b : Bx} (R : RW σ 41 144 147) : rnC σ (inS σ 144) b = rowsN σ b := by
  unfold rnC rowsN
  rw [rowsC_P]
  refine cnP_ext 60 (fun q hq => ?_)
  obtain ⟨g1, g2, g3, -⟩ := R.2 q hq
  have g2 : σ 42 (q : Int) = σ 144 (21 + 3 * (q : Int)) := g2
  have g3 : σ 43 (q : Int) = σ 144 (22 + 3 * (q : Int)) := g3
  try dsimp only
  rw [g2, g3]
  unfold inS
  by_cases c : σ 144 (20 + 3 * (q : Int)) = 1
  · rw [decide_eq_true (show q < 60 ∧ _ from ⟨hq, c⟩), Bool.true_and]
    by_cases c2 : bIn b (σ 144 (21 + 3 * (q : Int))) (σ 144 (22 + 3 * (q : Int)))
    · rw [decide_eq_true c2, decide_eq_true (show _ ∧ _ from ⟨c, c2⟩)]
    · rw [decide_eq_false c2, decide_eq_false (fun h => c2 h.2)]
  · rw [decide_eq_false (fun h => c h.2), Bool.false_and, decide_eq_false (fun h => c h.1)]
