/-! A BOX AS ONE NUMBER, as the class has it; the rows in a box as bits -/
theorem i32_n {n : Nat} (h : n < 2147483648) : (Int32.ofInt (n : Int)).toBitVec.toNat = n := by
  rw [Int32.toBitVec_ofInt, BitVec.toNat_ofInt]
  omega
theorem i32_ti {x : Int32} (h : x.toBitVec.toNat < 2147483648) : x.toInt = (x.toBitVec.toNat : Int) := by
  show x.toBitVec.toInt = _
  rw [BitVec.toInt_eq_toNat_of_lt (by omega)]
theorem i32_sh {k : Nat} (hk : k < 32) : ((Int32.ofInt (k : Int) &&& 31).toBitVec.smod 32).toNat = k := by
  have h : ∀ k : Fin 32, ((Int32.ofInt ((k.val : Nat) : Int) &&& 31).toBitVec.smod 32).toNat = k.val := by decide +kernel
  exact h ⟨k, hk⟩
theorem iAnd_n {n m : Nat} (hn : n < 2147483648) (hm : m < 2147483648) : iAnd (n : Int) (m : Int) = ((n &&& m : Nat) : Int) := by
  unfold iAnd
  have h : (Int32.ofInt (n : Int) &&& Int32.ofInt (m : Int)).toBitVec.toNat = n &&& m := by
    rw [Int32.toBitVec_and, BitVec.toNat_and, i32_n hn, i32_n hm]
  have h2 : n &&& m ≤ n := Nat.and_le_left
  rw [i32_ti (by rw [h]; exact Nat.lt_of_le_of_lt h2 hn), h]
theorem iOr_n {n m : Nat} (hn : n < 2147483648) (hm : m < 2147483648) : iOr (n : Int) (m : Int) = ((n ||| m : Nat) : Int) := by
  unfold iOr
  have h : (Int32.ofInt (n : Int) ||| Int32.ofInt (m : Int)).toBitVec.toNat = n ||| m := by
    rw [Int32.toBitVec_or, BitVec.toNat_or, i32_n hn, i32_n hm]
  have h2 : n ||| m < 2 ^ 31 := Nat.or_lt_two_pow hn hm
  rw [i32_ti (by rw [h]; exact h2), h]
theorem iShl_n {n k : Nat} (hk : k < 32) (h : n * 2 ^ k < 2147483648) : iShl (n : Int) (k : Int) = ((n * 2 ^ k : Nat) : Int) := by
  have hn : n < 2147483648 := Nat.lt_of_le_of_lt (Nat.le_mul_of_pos_right n (Nat.two_pow_pos k)) h
  unfold iShl
  have e : (Int32.ofInt (n : Int) <<< (Int32.ofInt (k : Int) &&& 31)).toBitVec.toNat = n * 2 ^ k := by
    rw [Int32.toBitVec_shiftLeft, BitVec.shiftLeft_eq', i32_sh hk, BitVec.toNat_shiftLeft, i32_n hn, Nat.shiftLeft_eq, Nat.mod_eq_of_lt (Nat.lt_trans h (by decide))]
  rw [i32_ti (by rw [e]; exact h), e]
theorem iShr_d {x : Int} {k : Nat} (hk : k < 32) (h1 : -2147483648 ≤ x) (h2 : x < 2147483648) : iShr x (k : Int) = x / ((2 ^ k : Nat) : Int) := by
  unfold iShr
  show (Int32.ofInt x >>> (Int32.ofInt (k : Int) &&& 31)).toBitVec.toInt = _
  rw [Int32.toBitVec_shiftRight, BitVec.sshiftRight_eq', i32_sh hk, BitVec.toInt_sshiftRight, Int32.toBitVec_ofInt, BitVec.toInt_ofInt, Int.shiftRight_eq_div_pow]
  have e : x.bmod (2 ^ 32) = x := w32_id h1 h2
  rw [e]
theorem iAnd_m {x : Int} (k : Nat) (hk : k < 31) (h1 : 0 ≤ x) (h2 : x < 2147483648) : iAnd x ((2 ^ k - 1 : Nat) : Int) = x % ((2 ^ k : Nat) : Int) := by
  obtain ⟨n, rfl⟩ : ∃ n : Nat, x = (n : Int) := ⟨x.toNat, by omega⟩
  have h3 : 2 ^ k < 2 ^ 31 := Nat.pow_lt_pow_right (by decide) hk
  rw [iAnd_n (by omega) (by omega), Nat.and_two_pow_sub_one_eq_mod]
  rfl
theorem iAnd_31 {x : Int} (h1 : 0 ≤ x) (h2 : x < 2147483648) : iAnd x 31 = x % 32 := iAnd_m 5 (by decide) h1 h2
theorem iAnd_1023 {x : Int} (h1 : 0 ≤ x) (h2 : x < 2147483648) : iAnd x 1023 = x % 1024 := iAnd_m 10 (by decide) h1 h2
theorem en_or {n m k : Nat} (hk : k ≤ 15) (hn : n < 2 ^ k) (hm : m < 32) : iOr (n : Int) (iShl (m : Int) (k : Int)) = ((n + m * 2 ^ k : Nat) : Int) := by
  have h3 : 2 ^ k ≤ 2 ^ 15 := Nat.pow_le_pow_right (by decide) hk
  have h4 : m * 2 ^ k ≤ 31 * 2 ^ 15 := Nat.mul_le_mul (by omega) h3
  rw [iShl_n (by omega) (by omega), iOr_n (by omega) (by omega)]
  have e := Nat.shiftLeft_add_eq_or_of_lt hn m
  rw [Nat.shiftLeft_eq] at e
  rw [Nat.or_comm, ← e, Nat.add_comm]
abbrev sOk (b : Bx) : Prop := (0 ≤ b.1 ∧ b.1 ≤ 31) ∧ (0 ≤ b.2.1 ∧ b.2.1 ≤ 31) ∧ (0 ≤ b.2.2.1 ∧ b.2.2.1 ≤ 31) ∧ (0 ≤ b.2.2.2 ∧ b.2.2.2 ≤ 31)
theorem bOk.s {b : Bx} (h : bOk b) : sOk b := by
  dsimp only [bOk, sOk] at *
  omega
def enc (b : Bx) : Int := b.1 + 32 * b.2.1 + 1024 * b.2.2.1 + 32768 * b.2.2.2
theorem b_of {b : Bx} (h : sOk b) (σ : zS) : g_b_of b.1 b.2.1 b.2.2.1 b.2.2.2 σ = some (enc b, σ) := by
  obtain ⟨x, y, z, w⟩ := b
  dsimp only [sOk] at h
  obtain ⟨x, rfl⟩ : ∃ n : Nat, x = (n : Int) := ⟨x.toNat, by omega⟩
  obtain ⟨y, rfl⟩ : ∃ n : Nat, y = (n : Int) := ⟨y.toNat, by omega⟩
  obtain ⟨z, rfl⟩ : ∃ n : Nat, z = (n : Int) := ⟨z.toNat, by omega⟩
  obtain ⟨w, rfl⟩ : ∃ n : Nat, w = (n : Int) := ⟨w.toNat, by omega⟩
  unfold g_b_of enc
  dsimp only
  have e1 : iOr (x : Int) (iShl (y : Int) 5) = ((x + y * 2 ^ 5 : Nat) : Int) := en_or (k := 5) (by decide) (by omega) (by omega)
  have e2 : iOr ((x + y * 2 ^ 5 : Nat) : Int) (iShl (z : Int) 10) = ((x + y * 2 ^ 5 + z * 2 ^ 10 : Nat) : Int) := en_or (k := 10) (by decide) (by omega) (by omega)
  have e3 : iOr ((x + y * 2 ^ 5 + z * 2 ^ 10 : Nat) : Int) (iShl (w : Int) 15) = ((x + y * 2 ^ 5 + z * 2 ^ 10 + w * 2 ^ 15 : Nat) : Int) := en_or (k := 15) (by decide) (by omega) (by omega)
  rw [e1, e2, e3]
  have e4 : ((x + y * 2 ^ 5 + z * 2 ^ 10 + w * 2 ^ 15 : Nat) : Int) = (x : Int) + 32 * (y : Int) + 1024 * (z : Int) + 32768 * (w : Int) := by omega
  rw [e4]
theorem enc_bd {b : Bx} (h : sOk b) : 0 ≤ enc b ∧ enc b < 1048576 := by
  dsimp only [sOk] at h
  unfold enc
  omega
theorem b_x0 {b : Bx} (h : sOk b) (σ : zS) : g_b_x0 (enc b) σ = some (b.1, σ) := by
  have hb := enc_bd h
  unfold g_b_x0
  rw [iAnd_31 (by omega) (by omega)]
  have e : enc b % 32 = b.1 := by
    dsimp only [sOk] at h
    unfold enc
    omega
  rw [e]
theorem en_side {b : Bx} (h : sOk b) (k : Nat) (hk : k < 32) : iAnd (iShr (enc b) (k : Int)) 31 = enc b / ((2 ^ k : Nat) : Int) % 32 := by
  have hb := enc_bd h
  have hp : (0 : Int) < ((2 ^ k : Nat) : Int) := by
    have := Nat.two_pow_pos k
    omega
  rw [iShr_d hk (by omega) (by omega), iAnd_31 (Int.ediv_nonneg hb.1 (by omega)) (Int.lt_of_le_of_lt (Int.ediv_le_self _ hb.1) (by omega))]
theorem en_5 {b : Bx} (h : sOk b) : iAnd (iShr (enc b) 5) 31 = b.2.1 := by
  refine (en_side h 5 (by decide)).trans ?_
  dsimp only [sOk] at h
  unfold enc
  show _ / ((32 : Nat) : Int) % 32 = _
  omega
theorem en_10 {b : Bx} (h : sOk b) : iAnd (iShr (enc b) 10) 31 = b.2.2.1 := by
  refine (en_side h 10 (by decide)).trans ?_
  dsimp only [sOk] at h
  unfold enc
  show _ / ((1024 : Nat) : Int) % 32 = _
  omega
theorem en_15 {b : Bx} (h : sOk b) : iAnd (iShr (enc b) 15) 31 = b.2.2.2 := by
  refine (en_side h 15 (by decide)).trans ?_
  dsimp only [sOk] at h
  unfold enc
  show _ / ((32768 : Nat) : Int) % 32 = _
  omega
theorem b_x1 {b : Bx} (h : sOk b) (σ : zS) : g_b_x1 (enc b) σ = some (b.2.1, σ) := by
  unfold g_b_x1
  rw [en_5 h]
theorem b_y0 {b : Bx} (h : sOk b) (σ : zS) : g_b_y0 (enc b) σ = some (b.2.2.1, σ) := by
  unfold g_b_y0
  rw [en_10 h]
theorem b_y1 {b : Bx} (h : sOk b) (σ : zS) : g_b_y1 (enc b) σ = some (b.2.2.2, σ) := by
  unfold g_b_y1
  rw [en_15 h]
theorem p_rowsIn {σ : zS} {I : Nat → Bool} {b : Bx} (S : STb σ 41 I) (hb : bOk b) : ∃ v, g_so_rowsIn (enc b) σ = some (v, σ) ∧ ∀ q, q < 64 → bq v q = (I q && decide (bIn b (σ 42 (q : Int)) (σ 43 (q : Int)))) := by
  have hs := hb.s
  have ho := hb
  dsimp only [bOk] at ho
  refine ⟨lAnd (lAnd (lAnd (σ 46 (b.2.1 + 1)) (lXor (σ 46 b.1) (-1))) (σ 47 (b.2.2.2 + 1))) (lXor (σ 47 b.2.2.1) (-1)), ?_, ?_⟩
  · unfold g_so_rowsIn
    rw [b_x1 hs]
    rw [Option.bind_some]
    try dsimp +instances only
    rw [w32_id (x := b.2.1 + 1) (by omega) (by omega), if_pos (by omega), b_x0 hs]
    rw [Option.bind_some]
    try dsimp +instances only
    rw [if_pos (by omega), b_y1 hs]
    rw [Option.bind_some]
    try dsimp +instances only
    rw [w32_id (x := b.2.2.2 + 1) (by omega) (by omega), if_pos (by omega), b_y0 hs]
    rw [Option.bind_some]
    try dsimp +instances only
    rw [if_pos (by omega)]
  · intro q hq
    obtain ⟨a1, -⟩ := S (b.2.1 + 1).toNat q (by omega) hq
    obtain ⟨a2, -⟩ := S b.1.toNat q (by omega) hq
    obtain ⟨-, a3⟩ := S (b.2.2.2 + 1).toNat q (by omega) hq
    obtain ⟨-, a4⟩ := S b.2.2.1.toNat q (by omega) hq
    rw [show (((b.2.1 + 1).toNat : Nat) : Int) = b.2.1 + 1 by omega] at a1
    rw [show ((b.1.toNat : Nat) : Int) = b.1 by omega] at a2
    rw [show (((b.2.2.2 + 1).toNat : Nat) : Int) = b.2.2.2 + 1 by omega] at a3
    rw [show ((b.2.2.1.toNat : Nat) : Int) = b.2.2.1 by omega] at a4
    have a1 : bq (σ 46 (b.2.1 + 1)) q = (I q && decide (σ 42 (q : Int) < b.2.1 + 1)) := a1
    have a2 : bq (σ 46 b.1) q = (I q && decide (σ 42 (q : Int) < b.1)) := a2
    have a3 : bq (σ 47 (b.2.2.2 + 1)) q = (I q && decide (σ 43 (q : Int) < b.2.2.2 + 1)) := a3
    have a4 : bq (σ 47 b.2.2.1) q = (I q && decide (σ 43 (q : Int) < b.2.2.1)) := a4
    rw [bq_and, bq_and, bq_and, bq_not _ hq, bq_not _ hq, a1, a2, a3, a4]
    cases I q with
    | false => rfl
    | true =>
      rw [Bool.true_and, Bool.true_and, Bool.true_and, Bool.true_and, Bool.true_and]
      by_cases c : bIn b (σ 42 (q : Int)) (σ 43 (q : Int))
      · rw [decide_eq_true c]
        dsimp only [bIn] at c
        rw [decide_eq_true (by omega), decide_eq_false (by omega), decide_eq_true (by omega), decide_eq_false (by omega)]
        rfl
      · rw [decide_eq_false c]
        dsimp only [bIn] at c
        by_cases c1 : σ 42 (q : Int) < b.2.1 + 1
        · by_cases c2 : σ 42 (q : Int) < b.1
          · rw [decide_eq_true c2]
            simp
          · by_cases c3 : σ 43 (q : Int) < b.2.2.2 + 1
            · rw [decide_eq_true (show σ 43 (q : Int) < b.2.2.1 by omega)]
              simp
            · rw [decide_eq_false c3]
              simp
        · rw [decide_eq_false c1]
          simp
