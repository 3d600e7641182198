/-! A TYPED MEMORY of whole numbers over the small memory (zS: address, place -> number), and the rules for runs that keep to it -/
abbrev zS : Type := Nat → Int → Int
def w32 (x : Int) : Int := x.bmod (2 ^ 32)
def w64 (x : Int) : Int := x.bmod (2 ^ 64)
def w8 (x : Int) : Int := x.bmod (2 ^ 8)
def w16 (x : Int) : Int := x % 65536
def iAnd (x y : Int) : Int := (Int32.ofInt x &&& Int32.ofInt y).toInt
def iOr (x y : Int) : Int := (Int32.ofInt x ||| Int32.ofInt y).toInt
def iXor (x y : Int) : Int := (Int32.ofInt x ^^^ Int32.ofInt y).toInt
def iShl (x y : Int) : Int := (Int32.ofInt x <<< (Int32.ofInt y &&& 31)).toInt
def iShr (x y : Int) : Int := (Int32.ofInt x >>> (Int32.ofInt y &&& 31)).toInt
def lAnd (x y : Int) : Int := (Int64.ofInt x &&& Int64.ofInt y).toInt
def lOr (x y : Int) : Int := (Int64.ofInt x ||| Int64.ofInt y).toInt
def lXor (x y : Int) : Int := (Int64.ofInt x ^^^ Int64.ofInt y).toInt
def lShl (x y : Int) : Int := (Int64.ofInt x <<< ((Int32.ofInt y).toInt64 &&& 63)).toInt
def lShr (x y : Int) : Int := (Int64.ofInt x >>> ((Int32.ofInt y).toInt64 &&& 63)).toInt
def lUshr (x y : Int) : Int := ((Int64.ofInt x).toUInt64 >>> ((Int32.ofInt y).toInt64.toUInt64 &&& Int64.toUInt64 63)).toInt64.toInt
def lCmp (x y : Int) : Int := if x > y then 1 else if x = y then 0 else -1
def zu (σ : zS) (a : Nat) (i v : Int) : zS := fun b j => if b = a ∧ j = i then v else σ b j
def zcp (σ : zS) (a : Nat) (sp : Int) (b : Nat) (dp n : Int) : zS := fun c j => if c = b ∧ dp ≤ j ∧ j < dp + n then σ a (sp + (j - dp)) else σ c j
/-- what the texts and the digits hold, which nobody writes -/
def zs0 (a : Nat) (i : Int) : Int := if a < 37 then ((z_byt.getD (a - 19) []).getD i.toNat 0).toInt else ((z_dig (a - 37)).getD i.toNat 0).toInt
def zTB : List (Nat × Nat × List Nat) := [(100, 0, []), (9, 2, []), (9, 2, []), (9, 2, []), (9, 2, []), (9, 2, []), (9, 2, []), (9, 2, []), (9, 2, []), (9, 2, []), (9, 2, []), (9, 2, []), (9, 2, []), (9, 2, []), (9, 2, []), (9, 2, []), (9, 2, []), (9, 2, []), (9, 2, []), (2, 39, []), (2, 14, []), (2, 6, []), (2, 36, []), (2, 2, []), (2, 4, []), (2, 3, []), (2, 5, []), (2, 4, []), (2, 4, []), (2, 39, []), (2, 14, []), (2, 6, []), (2, 36, []), (2, 2, []), (2, 5, []), (2, 4, []), (2, 4, []), (2, 100, []), (2, 100, []), (21, 14, [140, 173, 0, 206, 218, 220, 222, 226, 228, 0, 229, 231, 233, 234]), (17, 5, [141, 148, 160, 163, 165]), (18, 7, [142, 143, 144, 145, 0, 146, 147]), (0, 60, []), (0, 60, []), (1, 60, []), (0, 60, []), (1, 33, []), (1, 33, []), (12, 18, [141, 149, 0, 151, 152, 153, 154, 155, 0, 1, 0, 0, 0, 0, 0, 0, 156, 158]), (16, 1, [150]), (0, 7, []), (0, 181, []), (0, 181, []), (0, 181, []), (0, 181, []), (1, 181, []), (11, 2, [157, 0]), (0, 169, []), (11, 2, [159, 0]), (0, 169, []), (13, 3, [161, 162, 0]), (0, 60, []), (1, 60, []), (11, 2, [164, 0]), (0, 10, []), (20, 6, [166, 167, 168, 169, 170, 0]), (0, 6, []), (0, 6, []), (0, 6, []), (1, 6, []), (13, 3, [171, 172, 0]), (0, 60, []), (1, 60, []), (17, 5, [174, 181, 193, 196, 198]), (18, 7, [175, 176, 177, 178, 0, 179, 180]), (0, 60, []), (0, 60, []), (1, 60, []), (0, 60, []), (1, 33, []), (1, 33, []), (12, 18, [174, 182, 0, 184, 185, 186, 187, 188, 0, 1, 0, 0, 0, 0, 0, 0, 189, 191]), (16, 1, [183]), (0, 7, []), (0, 181, []), (0, 181, []), (0, 181, []), (0, 181, []), (1, 181, []), (11, 2, [190, 0]), (0, 169, []), (11, 2, [192, 0]), (0, 169, []), (13, 3, [194, 195, 0]), (0, 60, []), (1, 60, []), (11, 2, [197, 0]), (0, 10, []), (20, 6, [199, 200, 201, 202, 203, 0]), (0, 6, []), (0, 6, []), (0, 6, []), (1, 6, []), (13, 3, [204, 205, 0]), (0, 60, []), (1, 60, []), (12, 18, [141, 207, 0, 209, 210, 211, 212, 213, 0, 1, 0, 0, 0, 0, 0, 0, 214, 216]), (16, 1, [208]), (0, 7, []), (0, 181, []), (0, 181, []), (0, 181, []), (0, 181, []), (1, 181, []), (11, 2, [215, 0]), (0, 169, []), (11, 2, [217, 0]), (0, 169, []), (16, 1, [219]), (0, 7, []), (19, 4, [221, 0, 0, 0]), (2, 160, []), (15, 6, [220, 141, 223, 224, 225, 0]), (0, 8, []), (0, 8, []), (1, 8, []), (11, 2, [227, 0]), (0, 12, []), (1, 8, []), (23, 4, [9, 0, 0, 0]), (2, 16, []), (11, 2, [232, 0]), (0, 181, []), (0, 181, []), (14, 2, [235, 242]), (3, 6, [236, 237, 238, 239, 240, 241]), (1, 60, []), (1, 60, []), (1, 60, []), (1, 60, []), (1, 60, []), (1, 60, []), (0, 6, []), (22, 35, [244, 245, 246, 247, 248, 249, 0, 250, 251, 252, 0, 253, 254, 255, 0, 0, 256, 257, 258, 259, 0, 0, 0, 0, 260, 261, 262, 0, 263, 0, 264, 265, 0, 266, 267]), (0, 2740, []), (0, 2740, []), (0, 2740, []), (1, 361, []), (1, 361, []), (1, 361, []), (0, 2400, []), (0, 2400, []), (0, 4, []), (0, 4, []), (0, 60, []), (1, 60, []), (0, 10, []), (0, 4, []), (1, 6, []), (0, 160, []), (0, 7, []), (0, 48, []), (1, 8, []), (0, 40000, []), (0, 48, []), (0, 3000, []), (0, 6, []), (1, 360, [])]
def zTg (a : Nat) : Nat := (zTB.getD a (100, 0, [])).1
def zLN (a : Nat) : Nat := (zTB.getD a (100, 0, [])).2.1
def zLI (a : Nat) : Int := (zLN a : Int)
def zKd (a i : Nat) : Nat := match zTg a with
  | 0 => 0
  | 2 => 0
  | 1 => 1
  | _ => (zTB.getD a (100, 0, [])).2.2.getD i 9
def zT (a tg : Nat) : Bool := decide (39 ≤ a) && decide (a < 168) && !(a == 130) && zTg a == tg
def zQ (a tg f k : Nat) : Bool := zT a tg && decide (f < zLN a) && zKd a f == k
def zAr (a t : Nat) (n : Int) : Bool := zT a t && decide (zLI a = n) && decide (t < 3)
def zAz (a t : Nat) (n : Int) : Bool := decide (19 ≤ a) && decide (a < 39) && decide (zLI a = n) && t == 2
def zIn (l : List Nat) (a : Nat) : Bool := l.contains a
theorem zIn_all {l : List Nat} {p : Nat → Bool} (h : l.all p = true) {a : Nat} (ha : zIn l a = true) : p a = true := List.all_eq_true.mp h a (List.contains_iff_mem.mp ha)
def zCell (k : Nat) (v : Value) (x : Int) : Prop := if k = 0 then ∃ X : Int32, v = .int X ∧ X.toInt = x else if k = 1 then ∃ X : Int64, v = .long X ∧ X.toInt = x else if k = 9 then True else v = .ref (k - 100)
/-- the text of the paper: its bytes lie at p (130 or, grown, behind all); the places of address 168 tell them, 169 0 how many there is room for -/
def zPage (xl : Nat) (xs : Nat → Int32) (p : Nat) (m : zM) (σ : zS) : Prop := ∃ cap : Nat,
  m.2 129 0 = .ref p ∧ (p = 130 ∨ 168 ≤ p) ∧ m.1[p]? = some (2, cap) ∧ (cap : Int) = σ 169 0 ∧ (∀ j : Nat, j < cap → ∃ X : Int32, m.2 p j = .int X ∧ X.toInt = σ 168 j) ∧ cap ≤ 200000 ∧ 168 ≤ m.1.length ∧ m.1.length ≤ 168 + cap ∧ z_slt m ≤ 63950 + 3 * cap + z_slt (z_mu0 xl xs)
def zRep (xl : Nat) (xs : Nat → Int32) (p : Nat) (m : zM) (σ : zS) : Prop :=
  (∀ a, a < 39 → m.1[a]? = (z_sh0 xl)[a]? ∧ ∀ j, m.2 a j = z_m0 xs a j) ∧
  (∀ a, 39 ≤ a → a < 168 → a ≠ 130 → m.1[a]? = some (zTg a, zLN a)) ∧
  (∀ a, 39 ≤ a → a < 168 → a ≠ 130 → ∀ i : Nat, i < zLN a → zCell (zKd a i) (m.2 a i) (σ a i)) ∧ zPage xl xs p m σ
def vI (r : Int) (v : Option Value) : Prop := ∃ R : Int32, v = some (.int R) ∧ R.toInt = r
def vL (r : Int) (v : Option Value) : Prop := ∃ R : Int64, v = some (.long R) ∧ R.toInt = r
def vR (a : Nat) (v : Option Value) : Prop := v = some (.ref a)
def vV (v : Option Value) : Prop := v = none
/-- runs from there to an end of which P holds, the memory is told by σ' then -/
def zGo (xl : Nat) (xs : Nat → Int32) (f : Nat → Prop) (d k pc : Nat) (L : zL) (st : List Value) (m : zM) (P : Option Value → Prop) (σ' : zS) : Prop := ∃ v m' p', z_Ev d k pc L st m v m' ∧ P v ∧ f p' ∧ zRep xl xs p' m' σ'
theorem z_ite {α : Type} {P : Prop} [Decidable P] {a b : Option α} {o : α} (h : (if P then a else b) = some o) : (P ∧ a = some o) ∨ (¬ P ∧ b = some o) := by
  by_cases hp : P
  · rw [if_pos hp] at h; exact Or.inl ⟨hp, h⟩
  · rw [if_neg hp] at h; exact Or.inr ⟨hp, h⟩
def zP (o : ClassFile.Cond) (x y : Int) : Prop := match o with
  | .eq => x = y
  | .ne => x ≠ y
  | .lt => x < y
  | .ge => y ≤ x
  | .gt => y < x
  | .le => x ≤ y
theorem zP_c {o : ClassFile.Cond} {X Y : Int32} {x y : Int} (hx : X.toInt = x) (hy : Y.toInt = y) : z_c o X Y = true ↔ zP o x y := by
  subst hx hy
  cases o
  · exact decide_eq_true_iff.trans Int32.toInt_inj.symm
  · exact decide_eq_true_iff.trans (not_congr Int32.toInt_inj.symm)
  · exact decide_eq_true_iff.trans Int32.lt_iff_toInt_lt
  · exact decide_eq_true_iff.trans Int32.le_iff_toInt_le
  · exact decide_eq_true_iff.trans Int32.lt_iff_toInt_lt
  · exact decide_eq_true_iff.trans Int32.le_iff_toInt_le
theorem tx_iadd {X Y : Int32} {x y : Int} (hx : X.toInt = x) (hy : Y.toInt = y) : (X + Y).toInt = w32 (x + y) := by subst hx hy; exact Int32.toInt_add X Y
theorem tx_iaddn {X Y : Int32} {x n : Int} (hx : X.toInt = x) (hy : Y.toInt = -n) : (X + Y).toInt = w32 (x - n) := by rw [tx_iadd hx hy]; rfl
theorem tx_isub {X Y : Int32} {x y : Int} (hx : X.toInt = x) (hy : Y.toInt = y) : (X - Y).toInt = w32 (x - y) := by subst hx hy; exact Int32.toInt_sub X Y
theorem tx_imul {X Y : Int32} {x y : Int} (hx : X.toInt = x) (hy : Y.toInt = y) : (X * Y).toInt = w32 (x * y) := by subst hx hy; exact Int32.toInt_mul X Y
theorem tx_ineg {X : Int32} {x : Int} (hx : X.toInt = x) : (-X).toInt = w32 (-x) := by subst hx; exact Int32.toInt_neg X
theorem tx_ladd {X Y : Int64} {x y : Int} (hx : X.toInt = x) (hy : Y.toInt = y) : (X + Y).toInt = w64 (x + y) := by subst hx hy; exact Int64.toInt_add X Y
theorem tx_lsub {X Y : Int64} {x y : Int} (hx : X.toInt = x) (hy : Y.toInt = y) : (X - Y).toInt = w64 (x - y) := by subst hx hy; exact Int64.toInt_sub X Y
theorem tx_lmul {X Y : Int64} {x y : Int} (hx : X.toInt = x) (hy : Y.toInt = y) : (X * Y).toInt = w64 (x * y) := by subst hx hy; exact Int64.toInt_mul X Y
theorem zo_i {X : Int32} {x : Int} (hx : X.toInt = x) : Int32.ofInt x = X := by subst hx; exact Int32.ofInt_toInt X
theorem zo_l {X : Int64} {x : Int} (hx : X.toInt = x) : Int64.ofInt x = X := by subst hx; exact Int64.ofInt_toInt X
theorem tx_iand {X Y : Int32} {x y : Int} (hx : X.toInt = x) (hy : Y.toInt = y) : (X &&& Y).toInt = iAnd x y := by unfold iAnd; rw [zo_i hx, zo_i hy]
theorem tx_ior {X Y : Int32} {x y : Int} (hx : X.toInt = x) (hy : Y.toInt = y) : (X ||| Y).toInt = iOr x y := by unfold iOr; rw [zo_i hx, zo_i hy]
theorem tx_ixor {X Y : Int32} {x y : Int} (hx : X.toInt = x) (hy : Y.toInt = y) : (X ^^^ Y).toInt = iXor x y := by unfold iXor; rw [zo_i hx, zo_i hy]
theorem tx_land {X Y : Int64} {x y : Int} (hx : X.toInt = x) (hy : Y.toInt = y) : (X &&& Y).toInt = lAnd x y := by unfold lAnd; rw [zo_l hx, zo_l hy]
theorem tx_lor {X Y : Int64} {x y : Int} (hx : X.toInt = x) (hy : Y.toInt = y) : (X ||| Y).toInt = lOr x y := by unfold lOr; rw [zo_l hx, zo_l hy]
theorem tx_lxor {X Y : Int64} {x y : Int} (hx : X.toInt = x) (hy : Y.toInt = y) : (X ^^^ Y).toInt = lXor x y := by unfold lXor; rw [zo_l hx, zo_l hy]
theorem tx_ishl {X Y : Int32} {x y : Int} (hx : X.toInt = x) (hy : Y.toInt = y) : (X <<< (Y &&& 31)).toInt = iShl x y := by unfold iShl; rw [zo_i hx, zo_i hy]
theorem tx_ishr {X Y : Int32} {x y : Int} (hx : X.toInt = x) (hy : Y.toInt = y) : (X >>> (Y &&& 31)).toInt = iShr x y := by unfold iShr; rw [zo_i hx, zo_i hy]
theorem tx_lshl {X : Int64} {Y : Int32} {x y : Int} (hx : X.toInt = x) (hy : Y.toInt = y) : (X <<< (Y.toInt64 &&& 63)).toInt = lShl x y := by unfold lShl; rw [zo_l hx, zo_i hy]
theorem tx_lshr {X : Int64} {Y : Int32} {x y : Int} (hx : X.toInt = x) (hy : Y.toInt = y) : (X >>> (Y.toInt64 &&& 63)).toInt = lShr x y := by unfold lShr; rw [zo_l hx, zo_i hy]
theorem tx_lushr {X : Int64} {Y : Int32} {x y : Int} (hx : X.toInt = x) (hy : Y.toInt = y) : ((X.toUInt64 >>> (Y.toInt64.toUInt64 &&& Int64.toUInt64 63)).toInt64).toInt = lUshr x y := by unfold lUshr; rw [zo_l hx, zo_i hy]
theorem tx_i2b {X : Int32} {x : Int} (hx : X.toInt = x) : (X.toInt8.toInt32).toInt = w8 x := by subst hx; rw [Int8.toInt_toInt32, Int32.toInt_toInt8]; rfl
theorem tx_i2l {X : Int32} {x : Int} (hx : X.toInt = x) : (X.toInt64).toInt = x := by rw [Int32.toInt_toInt64, hx]
theorem tx_l2i {X : Int64} {x : Int} (hx : X.toInt = x) : (X.toInt32).toInt = w32 x := by subst hx; rw [Int64.toInt_toInt32]; rfl
theorem tx_i2c {X : Int32} {x : Int} (hx : X.toInt = x) : ((X.toUInt32 % 65536).toInt32).toInt = w16 x := by
  subst hx
  show ((X.toBitVec % 65536#32)).toInt = _
  have h1 : X.toInt = X.toBitVec.toInt := rfl
  have h2 := BitVec.toInt_eq_toNat_cond X.toBitVec
  have h3 : (X.toBitVec % 65536#32).toNat = X.toBitVec.toNat % 65536 := BitVec.toNat_umod
  have h4 := BitVec.toInt_eq_toNat_cond (X.toBitVec % 65536#32)
  have h5 := X.toBitVec.isLt
  unfold w16
  simp only [Nat.reducePow] at h2 h4 h5
  split at h2 <;> split at h4 <;> omega
theorem tx_lcmp {X Y : Int64} {x y : Int} (hx : X.toInt = x) (hy : Y.toInt = y) : (lg_cmp X Y).toInt = lCmp x y := by
  subst hx hy
  unfold lg_cmp lCmp
  by_cases h1 : X > Y
  · rw [if_pos h1, if_pos (show X.toInt > Y.toInt from Int64.lt_iff_toInt_lt.mp h1)]; rfl
  · rw [if_neg h1, if_neg (show ¬ X.toInt > Y.toInt from fun h => h1 (Int64.lt_iff_toInt_lt.mpr h))]
    by_cases h2 : X = Y
    · rw [if_pos h2, if_pos (congrArg Int64.toInt h2)]; rfl
    · rw [if_neg h2, if_neg (fun h => h2 (Int64.toInt_inj.mp h))]; rfl
theorem tx_idiv {X Y : Int32} {x y : Int} (hx : X.toInt = x) (hy : Y.toInt = y) : (X / Y).toInt = w32 (Int.tdiv x y) := by subst hx hy; exact Int32.toInt_div X Y
theorem tx_ldiv {X Y : Int64} {x y : Int} (hx : X.toInt = x) (hy : Y.toInt = y) : (X / Y).toInt = w64 (Int.tdiv x y) := by subst hx hy; exact Int64.toInt_div X Y
theorem tx_irem {X Y : Int32} {x y : Int} (hx : X.toInt = x) (hy : Y.toInt = y) : (X - X / Y * Y).toInt = Int.tmod x y := by
  subst hx hy
  rw [Int32.toInt_sub, Int32.toInt_mul, Int32.toInt_div, Int.sub_bmod_bmod, ← Int.sub_bmod_bmod, Int.bmod_mul_bmod, Int.sub_bmod_bmod, ← Int32.toInt_mod]
  have h := Int32.toInt_mod X Y
  have h2 : X.toInt - X.toInt.tdiv Y.toInt * Y.toInt = (X % Y).toInt := by
    rw [h, Int.mul_comm]
    have := Int.mul_tdiv_add_tmod X.toInt Y.toInt
    omega
  rw [h2]
  exact Int32.toInt_bmod _
theorem tx_lrem {X Y : Int64} {x y : Int} (hx : X.toInt = x) (hy : Y.toInt = y) : (X - X / Y * Y).toInt = Int.tmod x y := by
  subst hx hy
  rw [Int64.toInt_sub, Int64.toInt_mul, Int64.toInt_div, Int.sub_bmod_bmod, ← Int.sub_bmod_bmod, Int.bmod_mul_bmod, Int.sub_bmod_bmod, ← Int64.toInt_mod]
  have h := Int64.toInt_mod X Y
  have h2 : X.toInt - X.toInt.tdiv Y.toInt * Y.toInt = (X % Y).toInt := by
    rw [h, Int.mul_comm]
    have := Int.mul_tdiv_add_tmod X.toInt Y.toInt
    omega
  rw [h2]
  exact Int64.toInt_bmod _
theorem z_fit_bz {X : Int32} {x : Int} (hx : X.toInt = x) (h : x = 0 ∨ x = 1) : z_fit .boolean (.int X) = true := by
  subst hx
  rcases h with h | h
  · rw [zi_lit h (y := 0) rfl]; rfl
  · rw [zi_lit h (y := 1) rfl]; rfl
theorem z_rty_bo {X : Int32} {x : Int} (hx : X.toInt = x) (h : x = 0 ∨ x = 1) : z_rty .boolean X = true := by
  subst hx
  rcases h with h | h
  · rw [zi_lit h (y := 0) rfl]; rfl
  · rw [zi_lit h (y := 1) rfl]; rfl
theorem z_rty_by {X : Int32} {x : Int} (hx : X.toInt = x) (h : x = 0 ∨ x = 1) : z_rty .byte X = true := by
  subst hx
  rcases h with h | h
  · rw [zi_lit h (y := 0) rfl]; rfl
  · rw [zi_lit h (y := 1) rfl]; rfl
theorem z_rty_ch {X : Int32} {x : Int} (hx : X.toInt = x) (h : 0 ≤ x ∧ x < 65536) : z_rty .char X = true := by
  subst hx
  exact z_rty_c h
theorem zT_u {a tg : Nat} (h : zT a tg = true) : 39 ≤ a ∧ a < 168 ∧ a ≠ 130 ∧ zTg a = tg := by
  unfold zT at h
  simp only [Bool.and_eq_true, decide_eq_true_eq, Bool.not_eq_true', beq_eq_false_iff_ne, beq_iff_eq] at h
  exact ⟨h.1.1.1, h.1.1.2, h.1.2, h.2⟩
theorem zQ_u {a tg f k : Nat} (h : zQ a tg f k = true) : zT a tg = true ∧ f < zLN a ∧ zKd a f = k := by
  unfold zQ at h
  simp only [Bool.and_eq_true, decide_eq_true_eq, beq_iff_eq] at h
  exact ⟨h.1.1, h.1.2, h.2⟩
theorem zAr_u {a t : Nat} {n : Int} (h : zAr a t n = true) : zT a t = true ∧ zLI a = n ∧ t < 3 := by
  unfold zAr at h
  simp only [Bool.and_eq_true, decide_eq_true_eq] at h
  exact ⟨h.1.1, h.1.2, h.2⟩
theorem zAr_n {a t : Nat} {n : Int} (h : zAr a t n = true) : a ≠ 129 := by
  intro e
  subst e
  have h2 := (zT_u (zAr_u h).1).2.2.2
  have h3 := (zAr_u h).2.2
  have h4 : zTg 129 = 23 := rfl
  omega
theorem zAz_u {a t : Nat} {n : Int} (h : zAz a t n = true) : 19 ≤ a ∧ a < 39 ∧ zLI a = n ∧ t = 2 := by
  unfold zAz at h
  simp only [Bool.and_eq_true, decide_eq_true_eq, beq_iff_eq] at h
  exact ⟨h.1.1.1, h.1.1.2, h.1.2, h.2⟩
section ZG
variable {xl : Nat} {xs : Nat → Int32} {ff ff1 : Nat → Prop} {p : Nat} {σ σ' σ1 : zS} {m : zM} {q : z_R} {d k pc pc' : Nat} {L L' : zL} {st st' r : List Value} {P : Option Value → Prop}
theorem zRep.tg (H : zRep xl xs p m σ) {a tg : Nat} (h : zT a tg = true) : z_tg m a = tg := by
  obtain ⟨h1, h2, h3, h4⟩ := zT_u h
  unfold z_tg
  rw [H.2.1 a h1 h2 h3]
  exact h4
theorem zRep.n (H : zRep xl xs p m σ) {a tg : Nat} (h : zT a tg = true) : z_n m a = zLN a := by
  obtain ⟨h1, h2, h3, h4⟩ := zT_u h
  unfold z_n
  rw [H.2.1 a h1 h2 h3]
  rfl
theorem z_str_sh : ∀ a, a < 19 → 0 < a → (z_sh0 0)[a]? = some (9, 2) := by decide
theorem z_sh0_str {a : Nat} (h1 : 0 < a) (h2 : a < 19) : (z_sh0 xl)[a]? = some (9, 2) := by
  have := z_str_sh a h2 h1
  obtain ⟨b, rfl⟩ := Nat.exists_eq_add_of_lt h1
  rw [Nat.zero_add] at this ⊢
  exact this
theorem zIn_str {a : Nat} (h : zIn [1, 2, 3, 4, 5, 6, 7, 8, 9, 10, 11, 12, 13, 14, 15, 16, 17, 18] a = true) : 0 < a ∧ a < 19 := by
  have h := List.contains_iff_mem.mp h
  simp only [List.mem_cons, List.not_mem_nil, or_false] at h
  omega
theorem zRep.tg9 (H : zRep xl xs p m σ) {a : Nat} (h : zIn [1, 2, 3, 4, 5, 6, 7, 8, 9, 10, 11, 12, 13, 14, 15, 16, 17, 18] a = true) : z_tg m a = 9 := by
  obtain ⟨h1, h2⟩ := zIn_str h
  unfold z_tg
  rw [(H.1 a (by omega)).1, z_sh0_str h1 h2]
  rfl
theorem zRep.wr (H : zRep xl xs p m σ) {a f : Nat} {x : Int} {v : Value} (h1 : 39 ≤ a) (h2 : a < 168) (h3 : a ≠ 130) (h4 : a ≠ 129 ∨ f ≠ 0) (hk : zCell (zKd a f) v x) : zRep xl xs p (z_wr m a f v) (zu σ a f x) := by
  obtain ⟨H1, H2, H3, H4⟩ := H
  have e1 : ∀ b, b ≠ a → (z_wr m a f v).2 b = m.2 b := fun b hb => funext fun j => if_neg hb
  refine ⟨fun b hb => ⟨(H1 b hb).1, fun j => ?_⟩, H2, fun b hb1 hb2 hb3 i hi => ?_, ?_⟩
  · rw [e1 b (by omega)]; exact (H1 b hb).2 j
  · by_cases hba : b = a
    · subst hba
      show zCell (zKd b i) (if b = b then (if i = f then v else m.2 b i) else m.2 b i) (if b = b ∧ (i : Int) = (f : Int) then x else σ b i)
      rw [if_pos rfl]
      by_cases hif : i = f
      · subst hif
        rw [if_pos rfl, if_pos ⟨rfl, rfl⟩]; exact hk
      · rw [if_neg hif, if_neg (fun h => hif (by omega))]; exact H3 b hb1 hb2 hb3 i hi
    · rw [e1 b hba]
      show zCell _ _ (if b = a ∧ _ then x else σ b i)
      rw [if_neg (fun h => hba h.1)]
      exact H3 b hb1 hb2 hb3 i hi
  · obtain ⟨cap, g1, g2, g3, g4, g5, g6, g7, g8, g9⟩ := H4
    have e2 : ∀ j, zu σ a f x 169 j = σ 169 j := fun j => if_neg (fun h => by omega)
    have e3 : ∀ j, zu σ a f x 168 j = σ 168 j := fun j => if_neg (fun h => by omega)
    refine ⟨cap, ?_, g2, g3, ?_, ?_, g6, g7, g8, g9⟩
    · show (if 129 = a then (if 0 = f then v else m.2 129 0) else m.2 129 0) = _
      by_cases h129 : 129 = a
      · rw [if_pos h129, if_neg (by omega)]; exact g1
      · rw [if_neg h129]; exact g1
    · rw [e2]; exact g4
    · intro j hj
      rw [e1 p (by omega), e3]
      exact g5 j hj
theorem g_of {m2 : zM} {d' k' : Nat} (h : ∀ v m', z_Ev d' k' pc' L' st' m2 v m' → z_Ev d k pc L st m v m') (kk : zGo xl xs ff d' k' pc' L' st' m2 P σ') : zGo xl xs ff d k pc L st m P σ' := by
  obtain ⟨v, m', p', h1, h2, h3⟩ := kk
  exact ⟨v, m', p', h v m' h1, h2, h3⟩
theorem r_p (hq : z_mth k = some q) (n : Nat) (h : z_rn q k n (pc, L, st, m) = some (pc', L', st', m)) (kk : zGo xl xs ff d k pc' L' st' m P σ') : zGo xl xs ff d k pc L st m P σ' := g_of (fun _ _ e => ev_r hq n h e) kk
theorem zCell0 {v : Value} {x : Int} (h : zCell 0 v x) : ∃ X : Int32, v = .int X ∧ X.toInt = x := h
theorem zCell1 {v : Value} {x : Int} (h : zCell 1 v x) : ∃ X : Int64, v = .long X ∧ X.toInt = x := h
theorem zCellR {b : Nat} {v : Value} {x : Int} (h : zCell (100 + b) v x) : v = .ref b := by
  unfold zCell at h
  rw [if_neg (by omega), if_neg (by omega), if_neg (by omega)] at h
  rw [h, Nat.add_sub_cancel_left]
theorem zRep.fd (H : zRep xl xs p m σ) {a tg f kd : Nat} (h : zQ a tg f kd = true) : z_tg m a = tg ∧ zCell kd (m.2 a f) (σ a f) := by
  obtain ⟨h1, h3, h4⟩ := zQ_u h
  obtain ⟨g1, g2, g3, g4⟩ := zT_u h1
  refine ⟨H.tg h1, ?_⟩
  rw [← h4]
  exact H.2.2.1 a g1 g2 g3 f h3
theorem r_gI (H : zRep xl xs p m σ) {idx a tg f wp : Nat} (hq : z_mth k = some q) (hi : z_at q pc (.getfield idx)) (hl : z_lk z_FL q.2.2.2.2.1 idx = some (tg, f, wp)) (hs : zQ a tg f 0 = true) (e1 : pc + 3 = pc') (e2 : z_can k pc' L = L') (kk : ∀ V : Int32, V.toInt = σ a f → zGo xl xs ff d k pc' L' (.int V :: r) m P σ') : zGo xl xs ff d k pc L (.ref a :: r) m P σ' := by
  subst e1
  obtain ⟨h1, h2⟩ := H.fd hs
  obtain ⟨V, h3, h4⟩ := zCell0 h2
  exact g_of (fun _ _ e => ev_s hq hi rfl (z_getf_step hl h1 h3) e2 e) (kk V h4)
theorem r_gL (H : zRep xl xs p m σ) {idx a tg f wp : Nat} (hq : z_mth k = some q) (hi : z_at q pc (.getfield idx)) (hl : z_lk z_FL q.2.2.2.2.1 idx = some (tg, f, wp)) (hs : zQ a tg f 1 = true) (e1 : pc + 3 = pc') (e2 : z_can k pc' L = L') (kk : ∀ V : Int64, V.toInt = σ a f → zGo xl xs ff d k pc' L' (.long V :: r) m P σ') : zGo xl xs ff d k pc L (.ref a :: r) m P σ' := by
  subst e1
  obtain ⟨h1, h2⟩ := H.fd hs
  obtain ⟨V, h3, h4⟩ := zCell1 h2
  exact g_of (fun _ _ e => ev_s hq hi rfl (z_getf_step hl h1 h3) e2 e) (kk V h4)
theorem r_gR {b : Nat} (H : zRep xl xs p m σ) {idx a tg f wp : Nat} (hq : z_mth k = some q) (hi : z_at q pc (.getfield idx)) (hl : z_lk z_FL q.2.2.2.2.1 idx = some (tg, f, wp)) (hs : zQ a tg f (100 + b) = true) (e1 : pc + 3 = pc') (e2 : z_can k pc' L = L') (kk : zGo xl xs ff d k pc' L' (.ref b :: r) m P σ') : zGo xl xs ff d k pc L (.ref a :: r) m P σ' := by
  subst e1
  obtain ⟨h1, h2⟩ := H.fd hs
  exact g_of (fun _ _ e => ev_s hq hi rfl (z_getf_step hl h1 (zCellR h2)) e2 e) kk
theorem r_gsR (H : zRep xl xs p m σ) {idx a wp : Nat} (hq : z_mth k = some q) (hi : z_at q pc (.getfield idx)) (hl : z_lk z_FL q.2.2.2.2.1 idx = some (9, 0, wp)) (hs : zIn [1, 2, 3, 4, 5, 6, 7, 8, 9, 10, 11, 12, 13, 14, 15, 16, 17, 18] a = true) (e1 : pc + 3 = pc') (e2 : z_can k pc' L = L') (kk : zGo xl xs ff d k pc' L' (.ref (a + 18) :: r) m P σ') : zGo xl xs ff d k pc L (.ref a :: r) m P σ' := by
  subst e1
  obtain ⟨h1, h2⟩ := zIn_str hs
  refine g_of (fun _ _ e => ev_s hq hi rfl (z_getf_step hl (H.tg9 hs) (((H.1 a (by omega)).2 0).trans ?_)) e2 e) kk
  unfold z_m0
  rw [if_neg (by omega), if_pos h2, if_pos rfl, Nat.add_comm]
theorem r_gsI (H : zRep xl xs p m σ) {idx a wp : Nat} (hq : z_mth k = some q) (hi : z_at q pc (.getfield idx)) (hl : z_lk z_FL q.2.2.2.2.1 idx = some (9, 1, wp)) (hs : zIn [1, 2, 3, 4, 5, 6, 7, 8, 9, 10, 11, 12, 13, 14, 15, 16, 17, 18] a = true) (e1 : pc + 3 = pc') (e2 : z_can k pc' L = L') (kk : zGo xl xs ff d k pc' L' (.int (0 : Int32) :: r) m P σ') : zGo xl xs ff d k pc L (.ref a :: r) m P σ' := by
  subst e1
  obtain ⟨h1, h2⟩ := zIn_str hs
  refine g_of (fun _ _ e => ev_s hq hi rfl (z_getf_step hl (H.tg9 hs) (((H.1 a (by omega)).2 1).trans ?_)) e2 e) kk
  unfold z_m0
  rw [if_neg (by omega), if_pos h2, if_neg (by decide)]
theorem r_pI {X : Int32} (H : zRep xl xs p m σ) {idx a tg f wp : Nat} {x : Int} (hq : z_mth k = some q) (hi : z_at q pc (.putfield idx)) (hl : z_lk z_FL q.2.2.2.2.1 idx = some (tg, f, wp)) (hs : zQ a tg f 0 = true) (hX : X.toInt = x) (h10 : 10 ≤ tg) (hf : z_fit ((z_tys.getD (tg - 10) []).getD f .int) (.int X) = true) (hn : ((z_cls.getD (tg - 10) ("", z_T0, 0)).2.1 f).2.2.2 = false) (e1 : pc + 3 = pc') (e2 : z_can k pc' L = L') (kk : ∀ m', zRep xl xs p m' (zu σ a f x) → zGo xl xs ff d k pc' L' r m' P σ') : zGo xl xs ff d k pc L (.int X :: .ref a :: r) m P σ' := by
  subst e1
  obtain ⟨g1, g3, g4⟩ := zQ_u hs
  obtain ⟨k1, k2, k3, k4⟩ := zT_u g1
  have g2 : a ≠ 129 ∨ f ≠ 0 := by
    by_cases h129 : a = 129
    · subst h129
      refine Or.inr (fun e => ?_)
      subst e
      exact absurd g4 (by decide)
    · exact Or.inl h129
  exact g_of (fun _ _ e => ev_s hq hi rfl (z_putf_step hl ⟨k1, h10, H.tg g1, hf, Or.inl hn⟩) e2 e) (kk _ (H.wr k1 k2 k3 g2 (by rw [g4]; exact ⟨X, rfl, hX⟩)))
theorem r_pL {X : Int64} (H : zRep xl xs p m σ) {idx a tg f wp : Nat} {x : Int} (hq : z_mth k = some q) (hi : z_at q pc (.putfield idx)) (hl : z_lk z_FL q.2.2.2.2.1 idx = some (tg, f, wp)) (hs : zQ a tg f 1 = true) (hX : X.toInt = x) (h10 : 10 ≤ tg) (hf : z_fit ((z_tys.getD (tg - 10) []).getD f .int) (.long X) = true) (hn : ((z_cls.getD (tg - 10) ("", z_T0, 0)).2.1 f).2.2.2 = false) (e1 : pc + 3 = pc') (e2 : z_can k pc' L = L') (kk : ∀ m', zRep xl xs p m' (zu σ a f x) → zGo xl xs ff d k pc' L' r m' P σ') : zGo xl xs ff d k pc L (.long X :: .ref a :: r) m P σ' := by
  subst e1
  obtain ⟨g1, g3, g4⟩ := zQ_u hs
  obtain ⟨k1, k2, k3, k4⟩ := zT_u g1
  have g2 : a ≠ 129 ∨ f ≠ 0 := by
    by_cases h129 : a = 129
    · subst h129
      refine Or.inr (fun e => ?_)
      subst e
      exact absurd g4 (by decide)
    · exact Or.inl h129
  exact g_of (fun _ _ e => ev_s hq hi rfl (z_putf_step hl ⟨k1, h10, H.tg g1, hf, Or.inl hn⟩) e2 e) (kk _ (H.wr k1 k2 k3 g2 (by rw [g4]; exact ⟨X, rfl, hX⟩)))
theorem z_ix {X : Int32} {i n : Int} (hX : X.toInt = i) (hb : 0 ≤ i ∧ i < n) : ((X.toNatClampNeg : Nat) : Int) = i := by
  show ((X.toInt.toNat : Nat) : Int) = i
  omega
theorem z_inb {X : Int32} {i n : Int} {N : Nat} (hX : X.toInt = i) (hb : 0 ≤ i ∧ i < n) (hn : (N : Int) = n) : z_in X N = true := by
  unfold z_in
  rw [decide_eq_true (show 0 ≤ X.toInt by omega), decide_eq_true (show X.toInt < N by omega)]
  rfl
theorem zKd_i {a t : Nat} (h : zTg a = t) (ht : t = 0 ∨ t = 2) (i : Nat) : zKd a i = 0 := by
  unfold zKd
  rcases ht with ht | ht <;> (rw [h, ht]; rfl)
theorem zKd_l {a : Nat} (h : zTg a = 1) (i : Nat) : zKd a i = 1 := by
  unfold zKd
  rw [h]
  rfl
theorem zRep.aI (H : zRep xl xs p m σ) {a t : Nat} {n i : Int} {X : Int32} (hs : zAr a t n = true) (ht : t = 0 ∨ t = 2) (hX : X.toInt = i) (hb : 0 ≤ i ∧ i < n) : z_tg m a = t ∧ z_in X (z_n m a) = true ∧ ∃ V : Int32, m.2 a X.toNatClampNeg = .int V ∧ V.toInt = σ a i := by
  obtain ⟨g1, g3, g4⟩ := zAr_u hs
  obtain ⟨k1, k2, k3, k4⟩ := zT_u g1
  refine ⟨H.tg g1, ?_, ?_⟩
  · rw [H.n g1]; exact z_inb hX hb g3
  · have e := z_ix hX hb
    have := H.2.2.1 a k1 k2 k3 X.toNatClampNeg (by have : ((zLN a : Nat) : Int) = n := g3; omega)
    rw [zKd_i k4 ht, e] at this
    exact this
theorem zRep.aL (H : zRep xl xs p m σ) {a : Nat} {n i : Int} {X : Int32} (hs : zAr a 1 n = true) (hX : X.toInt = i) (hb : 0 ≤ i ∧ i < n) : z_tg m a = 1 ∧ z_in X (z_n m a) = true ∧ ∃ V : Int64, m.2 a X.toNatClampNeg = .long V ∧ V.toInt = σ a i := by
  obtain ⟨g1, g3, g4⟩ := zAr_u hs
  obtain ⟨k1, k2, k3, k4⟩ := zT_u g1
  refine ⟨H.tg g1, ?_, ?_⟩
  · rw [H.n g1]; exact z_inb hX hb g3
  · have e := z_ix hX hb
    have := H.2.2.1 a k1 k2 k3 X.toNatClampNeg (by have : ((zLN a : Nat) : Int) = n := g3; omega)
    rw [zKd_l k4, e] at this
    exact this
theorem r_ia (H : zRep xl xs p m σ) {a : Nat} {n i : Int} {X : Int32} (hq : z_mth k = some q) (hi : z_at q pc .iaload) (hs : zAr a 0 n = true) (hX : X.toInt = i) (hb : 0 ≤ i ∧ i < n) (e1 : pc + 1 = pc') (e2 : z_can k pc' L = L') (kk : ∀ V : Int32, V.toInt = σ a i → zGo xl xs ff d k pc' L' (.int V :: r) m P σ') : zGo xl xs ff d k pc L (.int X :: .ref a :: r) m P σ' := by
  subst e1
  obtain ⟨h1, h2, V, h3, h4⟩ := H.aI hs (Or.inl rfl) hX hb
  exact g_of (fun _ _ e => ev_s hq hi rfl (show z_ld m 0 pc L a X r = _ from z_ld_ok h1 h2 h3) e2 e) (kk V h4)
theorem r_ba (H : zRep xl xs p m σ) {a : Nat} {n i : Int} {X : Int32} (hq : z_mth k = some q) (hi : z_at q pc .baload) (hs : zAr a 2 n = true) (hX : X.toInt = i) (hb : 0 ≤ i ∧ i < n) (e1 : pc + 1 = pc') (e2 : z_can k pc' L = L') (kk : ∀ V : Int32, V.toInt = σ a i → zGo xl xs ff d k pc' L' (.int V :: r) m P σ') : zGo xl xs ff d k pc L (.int X :: .ref a :: r) m P σ' := by
  subst e1
  obtain ⟨h1, h2, V, h3, h4⟩ := H.aI hs (Or.inr rfl) hX hb
  exact g_of (fun _ _ e => ev_s hq hi rfl (show z_ld m 2 pc L a X r = _ from z_ld_ok h1 h2 h3) e2 e) (kk V h4)
theorem r_la (H : zRep xl xs p m σ) {a : Nat} {n i : Int} {X : Int32} (hq : z_mth k = some q) (hi : z_at q pc .laload) (hs : zAr a 1 n = true) (hX : X.toInt = i) (hb : 0 ≤ i ∧ i < n) (e1 : pc + 1 = pc') (e2 : z_can k pc' L = L') (kk : ∀ V : Int64, V.toInt = σ a i → zGo xl xs ff d k pc' L' (.long V :: r) m P σ') : zGo xl xs ff d k pc L (.int X :: .ref a :: r) m P σ' := by
  subst e1
  obtain ⟨h1, h2, V, h3, h4⟩ := H.aL hs hX hb
  exact g_of (fun _ _ e => ev_s hq hi rfl (show z_ld m 1 pc L a X r = _ from z_ld_ok h1 h2 h3) e2 e) (kk V h4)
theorem z_sh0_bz : ∀ a, a < 39 → 19 ≤ a → (z_sh0 0)[a]? = some (2, zLN a) := by decide +kernel
theorem r_ba0 (H : zRep xl xs p m σ) {a : Nat} {n i : Int} {X : Int32} (hq : z_mth k = some q) (hi : z_at q pc .baload) (hs : zAz a 2 n = true) (hX : X.toInt = i) (hb : 0 ≤ i ∧ i < n) (e1 : pc + 1 = pc') (e2 : z_can k pc' L = L') (kk : ∀ V : Int32, V.toInt = zs0 a i → zGo xl xs ff d k pc' L' (.int V :: r) m P σ') : zGo xl xs ff d k pc L (.int X :: .ref a :: r) m P σ' := by
  subst e1
  obtain ⟨g1, g2, g3, g4⟩ := zAz_u hs
  have hsh : m.1[a]? = some (2, zLN a) := by
    rw [(H.1 a g2).1, ← z_sh0_bz a g2 g1]
    obtain ⟨b, rfl⟩ := Nat.exists_eq_add_of_lt (show 0 < a by omega)
    rw [Nat.zero_add]
    rfl
  have e := z_ix hX hb
  obtain ⟨V, hV, hVi⟩ : ∃ V : Int32, m.2 a X.toNatClampNeg = .int V ∧ V.toInt = zs0 a i := by
    rw [(H.1 a g2).2 X.toNatClampNeg]
    unfold z_m0 zs0
    rw [if_neg (by omega), if_neg (by omega), ← e, Int.toNat_natCast]
    by_cases h37 : a < 37
    · rw [if_pos h37, if_pos h37]; exact ⟨_, rfl, rfl⟩
    · rw [if_neg h37, if_neg h37]; exact ⟨_, rfl, rfl⟩
  exact g_of (fun _ _ e => ev_s hq hi rfl (show z_ld m 2 pc L a X r = _ from z_ld_ok (by unfold z_tg; rw [hsh]; rfl) (by unfold z_n; rw [hsh]; exact z_inb hX hb g3) hV) e2 e) (kk V hVi)
theorem zRep.sI (H : zRep xl xs p m σ) {a t : Nat} {n i x : Int} {X V : Int32} (hs : zAr a t n = true) (ht : t = 0 ∨ t = 2) (hX : X.toInt = i) (hb : 0 ≤ i ∧ i < n) (hV : V.toInt = x) : z_sd m t pc L a X (.int V) r = some (pc + 1, L, r, z_wr m a X.toNatClampNeg (.int V)) ∧ zRep xl xs p (z_wr m a X.toNatClampNeg (.int V)) (zu σ a i x) := by
  obtain ⟨g1, g3, g4⟩ := zAr_u hs
  have g2 : a ≠ 129 ∨ X.toNatClampNeg ≠ 0 := Or.inl (zAr_n hs)
  obtain ⟨k1, k2, k3, k4⟩ := zT_u g1
  constructor
  · unfold z_sd
    rw [if_pos (show zE ≤ a from k1), if_pos (H.tg g1), H.n g1, if_pos (z_inb hX hb g3)]
  · have := H.wr (f := X.toNatClampNeg) (x := x) (v := .int V) k1 k2 k3 g2 (by rw [zKd_i k4 ht]; exact ⟨V, rfl, hV⟩)
    rw [z_ix hX hb] at this
    exact this
theorem r_is (H : zRep xl xs p m σ) {a : Nat} {n i x : Int} {X V : Int32} (hq : z_mth k = some q) (hi : z_at q pc .iastore) (hs : zAr a 0 n = true) (hX : X.toInt = i) (hb : 0 ≤ i ∧ i < n) (hV : V.toInt = x) (e1 : pc + 1 = pc') (e2 : z_can k pc' L = L') (kk : ∀ m', zRep xl xs p m' (zu σ a i x) → zGo xl xs ff d k pc' L' r m' P σ') : zGo xl xs ff d k pc L (.int V :: .int X :: .ref a :: r) m P σ' := by
  subst e1
  obtain ⟨h1, h2⟩ := H.sI (pc := pc) (L := L) (r := r) hs (Or.inl rfl) hX hb hV
  exact g_of (fun _ _ e => ev_s hq hi rfl (show z_sd m 0 pc L a X (.int V) r = _ from h1) e2 e) (kk _ h2)
theorem r_bs (H : zRep xl xs p m σ) {a : Nat} {n i x : Int} {X V : Int32} (hq : z_mth k = some q) (hi : z_at q pc .bastore) (hs : zAr a 2 n = true) (hX : X.toInt = i) (hb : 0 ≤ i ∧ i < n) (hV : V.toInt = x) (e1 : pc + 1 = pc') (e2 : z_can k pc' L = L') (kk : ∀ m', zRep xl xs p m' (zu σ a i (w8 x)) → zGo xl xs ff d k pc' L' r m' P σ') : zGo xl xs ff d k pc L (.int V :: .int X :: .ref a :: r) m P σ' := by
  subst e1
  obtain ⟨h1, h2⟩ := H.sI (pc := pc) (L := L) (r := r) hs (Or.inr rfl) hX hb (tx_i2b hV)
  exact g_of (fun _ _ e => ev_s hq hi rfl (show z_sd m 2 pc L a X (.int V.toInt8.toInt32) r = _ from h1) e2 e) (kk _ h2)
theorem r_ls (H : zRep xl xs p m σ) {a : Nat} {n i x : Int} {X : Int32} {V : Int64} (hq : z_mth k = some q) (hi : z_at q pc .lastore) (hs : zAr a 1 n = true) (hX : X.toInt = i) (hb : 0 ≤ i ∧ i < n) (hV : V.toInt = x) (e1 : pc + 1 = pc') (e2 : z_can k pc' L = L') (kk : ∀ m', zRep xl xs p m' (zu σ a i x) → zGo xl xs ff d k pc' L' r m' P σ') : zGo xl xs ff d k pc L (.long V :: .int X :: .ref a :: r) m P σ' := by
  subst e1
  obtain ⟨g1, g3, g4⟩ := zAr_u hs
  have g2 : a ≠ 129 ∨ X.toNatClampNeg ≠ 0 := Or.inl (zAr_n hs)
  obtain ⟨k1, k2, k3, k4⟩ := zT_u g1
  have h2 := H.wr (f := X.toNatClampNeg) (x := x) (v := .long V) k1 k2 k3 g2 (by rw [zKd_l k4]; exact ⟨V, rfl, hV⟩)
  rw [z_ix hX hb] at h2
  have h1 : z_sd m 1 pc L a X (.long V) r = some (pc + 1, L, r, z_wr m a X.toNatClampNeg (.long V)) := by
    unfold z_sd
    rw [if_pos (show zE ≤ a from k1), if_pos (H.tg g1), H.n g1, if_pos (z_inb hX hb g3)]
  exact g_of (fun _ _ e => ev_s hq hi rfl (show z_sd m 1 pc L a X (.long V) r = _ from h1) e2 e) (kk _ h2)
theorem z_rows_ok : ∀ i, i < 6 → zQ 135 3 i (100 + (136 + i)) = true := by decide
theorem r_aa (H : zRep xl xs p m σ) {i : Int} {X : Int32} (hq : z_mth k = some q) (hi : z_at q pc .aaload) (hX : X.toInt = i) (hb : 0 ≤ i ∧ i < 6) (e1 : pc + 1 = pc') (e2 : z_can k pc' L = L') (kk : ∀ A, A = 136 + i.toNat → zIn [136, 137, 138, 139, 140, 141] A = true → zGo xl xs ff d k pc' L' (.ref A :: r) m P σ') : zGo xl xs ff d k pc L (.int X :: .ref 135 :: r) m P σ' := by
  subst e1
  have e := z_ix hX hb
  have h0 : i.toNat < 6 := by omega
  have e2' : X.toNatClampNeg = i.toNat := by omega
  obtain ⟨h1, h2⟩ := H.fd (z_rows_ok i.toNat h0)
  refine g_of (fun _ _ e => ev_s hq hi rfl (show z_ld m 3 pc L 135 X r = _ from z_ld_ok h1 (by rw [H.n (tg := 3) rfl]; exact z_inb hX hb rfl) (by rw [e2']; exact zCellR h2)) e2 e) (kk _ rfl ?_)
  generalize i.toNat = j at h0
  unfold zIn
  rw [List.contains_iff_mem]
  simp only [List.mem_cons, List.not_mem_nil, or_false]
  omega
theorem zLN_lt : ∀ a, a < 168 → zLN a < 100000 := by decide +kernel
theorem r_le (H : zRep xl xs p m σ) {a t : Nat} {n : Int} (hq : z_mth k = some q) (hi : z_at q pc .arraylength) (hs : zAr a t n = true) (e1 : pc + 1 = pc') (e2 : z_can k pc' L = L') (e3 : (4 : Nat) = 4) (kk : ∀ V : Int32, V.toInt = n → zGo xl xs ff d k pc' L' (.int V :: r) m P σ') : zGo xl xs ff d k pc L (.ref a :: r) m P σ' := by
  obtain ⟨g1, g3, g4⟩ := zAr_u hs
  obtain ⟨k1, k2, k3, k4⟩ := zT_u g1
  have hlt := zLN_lt a k2
  refine g_of (fun _ _ e => ev_le hq hi (show (if z_tg m a < 4 then some (Int32.ofNat (z_n m a)) else none) = _ by rw [H.tg g1, H.n g1, if_pos (show t < 4 by omega)]) e1 e2 e) (kk _ ?_)
  rw [Int32.toInt_ofNat_of_lt (by omega)]
  exact g3
theorem r_le0 (H : zRep xl xs p m σ) {a t : Nat} {n : Int} (hq : z_mth k = some q) (hi : z_at q pc .arraylength) (hs : zAz a t n = true) (e1 : pc + 1 = pc') (e2 : z_can k pc' L = L') (e3 : (4 : Nat) = 4) (kk : ∀ V : Int32, V.toInt = n → zGo xl xs ff d k pc' L' (.int V :: r) m P σ') : zGo xl xs ff d k pc L (.ref a :: r) m P σ' := by
  obtain ⟨g1, g2, g3, g4⟩ := zAz_u hs
  have hsh : m.1[a]? = some (2, zLN a) := by
    rw [(H.1 a g2).1, ← z_sh0_bz a g2 g1]
    obtain ⟨b, rfl⟩ := Nat.exists_eq_add_of_lt (show 0 < a by omega)
    rw [Nat.zero_add]
    rfl
  have hlt := zLN_lt a (by omega)
  refine g_of (fun _ _ e => ev_le hq hi (show (if z_tg m a < 4 then some (Int32.ofNat (z_n m a)) else none) = some (Int32.ofNat (zLN a)) by unfold z_tg z_n; rw [hsh]; exact if_pos (show 2 < 4 by omega)) e1 e2 e) (kk _ ?_)
  rw [Int32.toInt_ofNat_of_lt (show zLN a < 2 ^ 31 by omega)]
  exact g3
theorem r_cp {t : Nat} (H : zRep xl xs p m σ) {idx a b : Nat} {na nb sp dp n : Int} {SP DP N : Int32} {r3 : Nat × Nat × List Nat} (hq : z_mth k = some q) (hi : z_at q pc (.invokestatic idx)) (hl : z_lk z_ML q.2.2.2.2.1 idx = some (8, r3)) (hcat : z_cat r ≤ 8) (ht : t = 0 ∨ t = 1) (hsa : zAr a t na = true) (hsb : zAr b t nb = true) (h1 : SP.toInt = sp) (h2 : DP.toInt = dp) (h3 : N.toInt = n) (hb : 0 ≤ sp ∧ 0 ≤ dp ∧ 0 ≤ n ∧ sp + n ≤ na ∧ dp + n ≤ nb) (e1 : pc + 3 = pc') (e2 : z_can k pc' L = L') (kk : ∀ m', zRep xl xs p m' (zcp σ a sp b dp n) → zGo xl xs ff d k pc' L' r m' P σ') : zGo xl xs ff d k pc L (.int N :: .int DP :: .ref b :: .int SP :: .ref a :: r) m P σ' := by
  obtain ⟨g1, g3, g4⟩ := zAr_u hsa
  obtain ⟨f1, f3, f4⟩ := zAr_u hsb
  have f2 := zAr_n hsb
  obtain ⟨ka1, ka2, ka3, ka4⟩ := zT_u g1
  obtain ⟨kb1, kb2, kb3, kb4⟩ := zT_u f1
  obtain ⟨b1, b2, b3, b4, b5⟩ := hb
  have c1 : ((SP.toNatClampNeg : Nat) : Int) = sp := z_ix (n := sp + 1) h1 ⟨b1, by omega⟩
  have c2 : ((DP.toNatClampNeg : Nat) : Int) = dp := z_ix (n := dp + 1) h2 ⟨b2, by omega⟩
  have c3 : ((N.toNatClampNeg : Nat) : Int) = n := z_ix (n := n + 1) h3 ⟨b3, by omega⟩
  have l1 : ((zLN a : Nat) : Int) = na := g3
  have l2 : ((zLN b : Nat) : Int) = nb := f3
  have hcp : z_cp m a SP b DP N = some (m.1, z_nw m.2 b (z_cpy (m.2 a) (m.2 b) SP.toNatClampNeg DP.toNatClampNeg N.toNatClampNeg)) := by
    unfold z_cp
    rw [H.tg g1, H.tg f1, H.n g1, H.n f1, if_pos ⟨kb1, rfl, g4, by omega, by omega, by omega, by omega, by omega⟩]
  refine g_of (fun _ _ e => ev_cp hq hi hl hcat hcp e1 e2 e) (kk _ ?_)
  obtain ⟨H1, H2, H3, H4⟩ := H
  have e1 : ∀ c, c ≠ b → z_nw m.2 b (z_cpy (m.2 a) (m.2 b) SP.toNatClampNeg DP.toNatClampNeg N.toNatClampNeg) c = m.2 c := fun c hc => funext fun j => if_neg hc
  refine ⟨fun c hc => ⟨(H1 c hc).1, fun j => ?_⟩, H2, fun c hc1 hc2 hc3 i hi => ?_, ?_⟩
  · show z_nw _ _ _ c j = _
    rw [e1 c (by omega)]; exact (H1 c hc).2 j
  · show zCell _ (z_nw _ _ _ c i) _
    by_cases hcb : c = b
    · subst hcb
      show zCell _ (if c = c then z_cpy (m.2 a) (m.2 c) SP.toNatClampNeg DP.toNatClampNeg N.toNatClampNeg i else m.2 c i) (if c = c ∧ dp ≤ (i : Int) ∧ (i : Int) < dp + n then σ a (sp + ((i : Int) - dp)) else σ c i)
      rw [if_pos rfl]
      show zCell _ (if DP.toNatClampNeg ≤ i ∧ i < DP.toNatClampNeg + N.toNatClampNeg then m.2 a (SP.toNatClampNeg + (i - DP.toNatClampNeg)) else m.2 c i) _
      by_cases hr : DP.toNatClampNeg ≤ i ∧ i < DP.toNatClampNeg + N.toNatClampNeg
      · rw [if_pos hr, if_pos ⟨rfl, by omega, by omega⟩]
        have hk : zKd c i = zKd a (SP.toNatClampNeg + (i - DP.toNatClampNeg)) := by
          rcases ht with rfl | rfl
          · rw [zKd_i kb4 (Or.inl rfl), zKd_i ka4 (Or.inl rfl)]
          · rw [zKd_l kb4, zKd_l ka4]
        have := H3 a ka1 ka2 ka3 (SP.toNatClampNeg + (i - DP.toNatClampNeg)) (by omega)
        rw [hk]
        have e : ((SP.toNatClampNeg + (i - DP.toNatClampNeg) : Nat) : Int) = sp + ((i : Int) - dp) := by omega
        rw [e] at this
        exact this
      · rw [if_neg hr, if_neg (fun h => hr ⟨by omega, by omega⟩)]
        exact H3 c hc1 hc2 hc3 i hi
    · rw [e1 c hcb]
      show zCell _ _ (if c = b ∧ _ then _ else σ c i)
      rw [if_neg (fun h => hcb h.1)]
      exact H3 c hc1 hc2 hc3 i hi
  · obtain ⟨cap, g1, g2, g3, g4, g5, g6, g7, g8, g9⟩ := H4
    have e2 : ∀ j, zcp σ a sp b dp n 169 j = σ 169 j := fun j => if_neg (fun h => by omega)
    have e3 : ∀ j, zcp σ a sp b dp n 168 j = σ 168 j := fun j => if_neg (fun h => by omega)
    refine ⟨cap, ?_, g2, g3, ?_, ?_, g6, g7, g8, g9⟩
    · show z_nw _ _ _ 129 0 = _; rw [e1 129 (Ne.symm f2)]; exact g1
    · rw [e2]; exact g4
    · intro j hj
      show ∃ X, z_nw _ _ _ p j = _ ∧ _
      rw [e1 p (by omega), e3]
      exact g5 j hj
theorem r_idiv {X Y : Int32} {x y : Int} (hq : z_mth k = some q) (hi : z_at q pc .idiv) (hx : X.toInt = x) (hy : Y.toInt = y) (hn : ¬ y = 0) (e1 : pc + 1 = pc') (e2 : z_can k pc' L = L') (kk : ∀ V : Int32, V.toInt = w32 (Int.tdiv x y) → zGo xl xs ff d k pc' L' (.int V :: r) m P σ') : zGo xl xs ff d k pc L (.int Y :: .int X :: r) m P σ' :=
  g_of (fun _ _ e => ev_idiv hq hi (fun h => hn (by rw [← hy, h]; rfl)) e1 e2 e) (kk _ (tx_idiv hx hy))
theorem r_irem {X Y : Int32} {x y : Int} (hq : z_mth k = some q) (hi : z_at q pc .irem) (hx : X.toInt = x) (hy : Y.toInt = y) (hn : ¬ y = 0) (e1 : pc + 1 = pc') (e2 : z_can k pc' L = L') (kk : ∀ V : Int32, V.toInt = Int.tmod x y → zGo xl xs ff d k pc' L' (.int V :: r) m P σ') : zGo xl xs ff d k pc L (.int Y :: .int X :: r) m P σ' :=
  g_of (fun _ _ e => ev_irem hq hi (fun h => hn (by rw [← hy, h]; rfl)) e1 e2 e) (kk _ (tx_irem hx hy))
theorem r_ldiv {X Y : Int64} {x y : Int} (hq : z_mth k = some q) (hi : z_at q pc .ldiv) (hx : X.toInt = x) (hy : Y.toInt = y) (hn : ¬ y = 0) (e1 : pc + 1 = pc') (e2 : z_can k pc' L = L') (kk : ∀ V : Int64, V.toInt = w64 (Int.tdiv x y) → zGo xl xs ff d k pc' L' (.long V :: r) m P σ') : zGo xl xs ff d k pc L (.long Y :: .long X :: r) m P σ' :=
  g_of (fun _ _ e => ev_ldiv hq hi (fun h => hn (by rw [← hy, h]; rfl)) e1 e2 e) (kk _ (tx_ldiv hx hy))
theorem r_lrem {X Y : Int64} {x y : Int} (hq : z_mth k = some q) (hi : z_at q pc .lrem) (hx : X.toInt = x) (hy : Y.toInt = y) (hn : ¬ y = 0) (e1 : pc + 1 = pc') (e2 : z_can k pc' L = L') (kk : ∀ V : Int64, V.toInt = Int.tmod x y → zGo xl xs ff d k pc' L' (.long V :: r) m P σ') : zGo xl xs ff d k pc L (.long Y :: .long X :: r) m P σ' :=
  g_of (fun _ _ e => ev_lrem hq hi (fun h => hn (by rw [← hy, h]; rfl)) e1 e2 e) (kk _ (tx_lrem hx hy))
theorem r_t1 {o : ClassFile.Cond} {off : Int} {X : Int32} {x : Int} (hq : z_mth k = some q) (hi : z_at q pc (.ifCond o off)) (hf : z_fw pc off = true) (hx : X.toInt = x) (hc : zP o x 0) (e1 : z_to pc off = pc') (e2 : z_can k pc' L = L') (kk : zGo xl xs ff d k pc' L' r m P σ') : zGo xl xs ff d k pc L (.int X :: r) m P σ' :=
  g_of (fun _ _ e => ev_t1 hq hi hf ((zP_c hx rfl).mpr hc) e1 e2 e) kk
theorem r_f1 {o : ClassFile.Cond} {off : Int} {X : Int32} {x : Int} (hq : z_mth k = some q) (hi : z_at q pc (.ifCond o off)) (hf : z_fw pc off = true) (hx : X.toInt = x) (hc : ¬ zP o x 0) (e1 : pc + 3 = pc') (e2 : z_can k pc' L = L') (kk : zGo xl xs ff d k pc' L' r m P σ') : zGo xl xs ff d k pc L (.int X :: r) m P σ' :=
  g_of (fun _ _ e => ev_f1 hq hi hf (Bool.eq_false_iff.mpr (fun h => hc ((zP_c hx rfl).mp h))) e1 e2 e) kk
theorem r_t2 {o : ClassFile.Cond} {off : Int} {X Y : Int32} {x y : Int} (hq : z_mth k = some q) (hi : z_at q pc (.if_icmp o off)) (hf : z_fw pc off = true) (hx : X.toInt = x) (hy : Y.toInt = y) (hc : zP o x y) (e1 : z_to pc off = pc') (e2 : z_can k pc' L = L') (kk : zGo xl xs ff d k pc' L' r m P σ') : zGo xl xs ff d k pc L (.int Y :: .int X :: r) m P σ' :=
  g_of (fun _ _ e => ev_t2 hq hi hf ((zP_c hx hy).mpr hc) e1 e2 e) kk
theorem r_f2 {o : ClassFile.Cond} {off : Int} {X Y : Int32} {x y : Int} (hq : z_mth k = some q) (hi : z_at q pc (.if_icmp o off)) (hf : z_fw pc off = true) (hx : X.toInt = x) (hy : Y.toInt = y) (hc : ¬ zP o x y) (e1 : pc + 3 = pc') (e2 : z_can k pc' L = L') (kk : zGo xl xs ff d k pc' L' r m P σ') : zGo xl xs ff d k pc L (.int Y :: .int X :: r) m P σ' :=
  g_of (fun _ _ e => ev_f2 hq hi hf (Bool.eq_false_iff.mpr (fun h => hc ((zP_c hx hy).mp h))) e1 e2 e) kk
theorem r_sw {dflt lo up off : Int} {offs : Array Int} {X : Int32} (hq : z_mth k = some q) (hi : z_at q pc (.tableswitch dflt lo up offs)) (ho : z_off lo up dflt offs X = some off) (hf : z_fw pc off = true) (e1 : z_to pc off = pc') (e2 : z_can k pc' L = L') (kk : zGo xl xs ff d k pc' L' r m P σ') : zGo xl xs ff d k pc L (.int X :: r) m P σ' :=
  g_of (fun _ _ e => ev_sw hq hi ho hf e1 e2 e) kk
theorem r_ci {idx : Nat} {X Y : Int32} {x y : Int} {r3 : Nat × Nat × List Nat} (hq : z_mth k = some q) (hi : z_at q pc (.invokestatic idx)) (hl : z_lk z_ML q.2.2.2.2.1 idx = some (7, r3)) (hcat : z_cat r ≤ 8) (hx : X.toInt = x) (hy : Y.toInt = y) (h : 0 ≤ x ∧ x < y) (e1 : pc + 3 = pc') (e2 : z_can k pc' L = L') (kk : zGo xl xs ff d k pc' L' r m P σ') : zGo xl xs ff d k pc L (.int Y :: .int X :: r) m P σ' :=
  g_of (fun _ _ e => ev_ci hq hi hl hcat (by rw [hx, hy]; exact h) e1 e2 e) kk
theorem r_rv (hq : z_mth k = some q) (hi : z_at q pc .return_) (hr : q.2.2.2.1 = none) (hff : ff p) (H : zRep xl xs p m σ) : zGo xl xs ff d k pc L [] m vV σ := ⟨_, _, _, ev_rv hq hi hr, rfl, hff, H⟩
theorem r_ri {X : Int32} {x : Int} {ty : FieldType} (hq : z_mth k = some q) (hi : z_at q pc .ireturn) (hr : q.2.2.2.1 = some ty) (ht : z_rty ty X = true) (hx : X.toInt = x) (hff : ff p) (H : zRep xl xs p m σ) : zGo xl xs ff d k pc L [.int X] m (vI x) σ := ⟨_, _, _, ev_ri hq hi hr ht, ⟨X, rfl, hx⟩, hff, H⟩
theorem r_rl {X : Int64} {x : Int} (hq : z_mth k = some q) (hi : z_at q pc .lreturn) (hr : q.2.2.2.1 = some .long) (hx : X.toInt = x) (hff : ff p) (H : zRep xl xs p m σ) : zGo xl xs ff d k pc L [.long X] m (vL x) σ := ⟨_, _, _, ev_rl hq hi hr, ⟨X, rfl, hx⟩, hff, H⟩
theorem r_ra {a : Nat} (hq : z_mth k = some q) (hi : z_at q pc .areturn) (hr : (match q.2.2.2.1 with | some (.object _) => true | some (.array _) => true | _ => false) = true) (hff : ff p) (H : zRep xl xs p m σ) : zGo xl xs ff d k pc L [.ref a] m (vR a) σ := ⟨_, _, _, ev_ra hq hi hr, rfl, hff, H⟩
theorem r_gP (H : zRep xl xs p m σ) {idx wp : Nat} (hq : z_mth k = some q) (hi : z_at q pc (.getfield idx)) (hl : z_lk z_FL q.2.2.2.2.1 idx = some (23, 0, wp)) (e1 : pc + 3 = pc') (e2 : z_can k pc' L = L') (kk : zGo xl xs ff d k pc' L' (.ref p :: r) m P σ') : zGo xl xs ff d k pc L (.ref 129 :: r) m P σ' := by
  subst e1
  obtain ⟨cap, g1, -⟩ := H.2.2.2
  exact g_of (fun _ _ e => ev_s hq hi rfl (z_getf_step hl (H.tg (a := 129) (tg := 23) rfl) g1) e2 e) kk
theorem zRep.pg (H : zRep xl xs p m σ) : 39 ≤ p ∧ z_tg m p = 2 ∧ (z_n m p : Int) = σ 169 0 ∧ σ 169 0 ≤ 200000 ∧ p ≠ 129 := by
  obtain ⟨cap, g1, g2, g3, g4, -, g6, -⟩ := H.2.2.2
  have e1 : z_tg m p = 2 := by unfold z_tg; rw [g3]; rfl
  have e2 : z_n m p = cap := by unfold z_n; rw [g3]; rfl
  exact ⟨by omega, e1, by rw [e2]; exact g4, by omega, by omega⟩
theorem r_baP (H : zRep xl xs p m σ) {i : Int} {X : Int32} (hq : z_mth k = some q) (hi : z_at q pc .baload) (hX : X.toInt = i) (hb : 0 ≤ i ∧ i < σ 169 0) (e1 : pc + 1 = pc') (e2 : z_can k pc' L = L') (kk : ∀ V : Int32, V.toInt = σ 168 i → zGo xl xs ff d k pc' L' (.int V :: r) m P σ') : zGo xl xs ff d k pc L (.int X :: .ref p :: r) m P σ' := by
  subst e1
  obtain ⟨h1, h2, h3, h4, -⟩ := H.pg
  obtain ⟨cap, g1, g2, g3, g4, g5, -⟩ := H.2.2.2
  have e := z_ix hX hb
  obtain ⟨V, k1, k2⟩ := g5 X.toNatClampNeg (by omega)
  rw [e] at k2
  exact g_of (fun _ _ e => ev_s hq hi rfl (show z_ld m 2 pc L p X r = _ from z_ld_ok h2 (z_inb hX hb h3) k1) e2 e) (kk V k2)
theorem r_bsP (H : zRep xl xs p m σ) {i x : Int} {X V : Int32} (hq : z_mth k = some q) (hi : z_at q pc .bastore) (hX : X.toInt = i) (hb : 0 ≤ i ∧ i < σ 169 0) (hV : V.toInt = x) (e1 : pc + 1 = pc') (e2 : z_can k pc' L = L') (kk : ∀ m', zRep xl xs p m' (zu σ 168 i (w8 x)) → zGo xl xs ff d k pc' L' r m' P σ') : zGo xl xs ff d k pc L (.int V :: .int X :: .ref p :: r) m P σ' := by
  subst e1
  obtain ⟨h1, h2, h3, h4, h5⟩ := H.pg
  have e := z_ix hX hb
  have hst : z_sd m 2 pc L p X (.int V.toInt8.toInt32) r = some (pc + 1, L, r, z_wr m p X.toNatClampNeg (.int V.toInt8.toInt32)) := by
    unfold z_sd
    rw [if_pos (show zE ≤ p from h1), if_pos h2, if_pos (z_inb hX hb h3)]
  refine g_of (fun _ _ e => ev_s hq hi rfl hst e2 e) (kk _ ?_)
  obtain ⟨H1, H2, H3, cap, g1, g2, g3, g4, g5, g6, g7, g8, g9⟩ := H
  have e1 : ∀ b, b ≠ p → (z_wr m p X.toNatClampNeg (.int V.toInt8.toInt32)).2 b = m.2 b := fun b hb => funext fun j => if_neg hb
  have ez : ∀ b j, b ≠ 168 → zu σ 168 i (w8 x) b j = σ b j := fun b j hb => if_neg (fun h => hb h.1)
  refine ⟨fun b hb => ⟨(H1 b hb).1, fun j => ?_⟩, H2, fun b hb1 hb2 hb3 j hj => ?_, cap, ?_, g2, g3, ?_, fun j hj => ?_, g6, g7, g8, g9⟩
  · rw [e1 b (by omega)]; exact (H1 b hb).2 j
  · rw [e1 b (by omega), ez b _ (by omega)]; exact H3 b hb1 hb2 hb3 j hj
  · rw [e1 129 (Ne.symm h5)]; exact g1
  · rw [ez 169 0 (by decide)]; exact g4
  · show ∃ Y, (if p = p then (if j = X.toNatClampNeg then Value.int V.toInt8.toInt32 else m.2 p j) else m.2 p j) = .int Y ∧ Y.toInt = (if 168 = 168 ∧ (j : Int) = i then w8 x else σ 168 j)
    rw [if_pos rfl]
    by_cases hji : j = X.toNatClampNeg
    · rw [if_pos hji, if_pos ⟨rfl, by omega⟩]; exact ⟨_, rfl, tx_i2b hV⟩
    · rw [if_neg hji, if_neg (fun h => hji (by omega))]; exact g5 j hj
theorem r_leP (H : zRep xl xs p m σ) (hq : z_mth k = some q) (hi : z_at q pc .arraylength) (e1 : pc + 1 = pc') (e2 : z_can k pc' L = L') (kk : ∀ V : Int32, V.toInt = σ 169 0 → zGo xl xs ff d k pc' L' (.int V :: r) m P σ') : zGo xl xs ff d k pc L (.ref p :: r) m P σ' := by
  obtain ⟨h1, h2, h3, h4, -⟩ := H.pg
  refine g_of (fun _ _ e => ev_le hq hi (show (if z_tg m p < 4 then some (Int32.ofNat (z_n m p)) else none) = _ by rw [h2, if_pos (by decide)]) e1 e2 e) (kk _ ?_)
  rw [Int32.toInt_ofNat_of_lt (by omega)]
  exact h3
/-- a text copied to the paper -/
def zcP (σ : zS) (a : Nat) (sp dp n : Int) : zS := fun c j => if c = 168 ∧ dp ≤ j ∧ j < dp + n then zs0 a (sp + (j - dp)) else σ c j
theorem r_cpP (H : zRep xl xs p m σ) {idx a : Nat} {na sp dp n : Int} {SP DP N : Int32} {r3 : Nat × Nat × List Nat} (hq : z_mth k = some q) (hi : z_at q pc (.invokestatic idx)) (hl : z_lk z_ML q.2.2.2.2.1 idx = some (8, r3)) (hcat : z_cat r ≤ 8) (hsa : zAz a 2 na = true) (h1 : SP.toInt = sp) (h2 : DP.toInt = dp) (h3 : N.toInt = n) (hb : 0 ≤ sp ∧ 0 ≤ dp ∧ 0 ≤ n ∧ sp + n ≤ na ∧ dp + n ≤ σ 169 0) (e1 : pc + 3 = pc') (e2 : z_can k pc' L = L') (kk : ∀ m', zRep xl xs p m' (zcP σ a sp dp n) → zGo xl xs ff d k pc' L' r m' P σ') : zGo xl xs ff d k pc L (.int N :: .int DP :: .ref p :: .int SP :: .ref a :: r) m P σ' := by
  obtain ⟨q1, q2, q3, q4⟩ := zAz_u hsa
  obtain ⟨p1, p2, p3, p4, p5⟩ := H.pg
  obtain ⟨b1, b2, b3, b4, b5⟩ := hb
  have hsh : m.1[a]? = some (2, zLN a) := by
    rw [(H.1 a q2).1, ← z_sh0_bz a q2 q1]
    obtain ⟨b, rfl⟩ := Nat.exists_eq_add_of_lt (show 0 < a by omega)
    rw [Nat.zero_add]
    rfl
  have ta : z_tg m a = 2 := by unfold z_tg; rw [hsh]; rfl
  have na' : z_n m a = zLN a := by unfold z_n; rw [hsh]; rfl
  have l1 : ((zLN a : Nat) : Int) = na := q3
  have c1 : ((SP.toNatClampNeg : Nat) : Int) = sp := z_ix (n := sp + 1) h1 ⟨b1, by omega⟩
  have c2 : ((DP.toNatClampNeg : Nat) : Int) = dp := z_ix (n := dp + 1) h2 ⟨b2, by omega⟩
  have c3 : ((N.toNatClampNeg : Nat) : Int) = n := z_ix (n := n + 1) h3 ⟨b3, by omega⟩
  have hcp : z_cp m a SP p DP N = some (m.1, z_nw m.2 p (z_cpy (m.2 a) (m.2 p) SP.toNatClampNeg DP.toNatClampNeg N.toNatClampNeg)) := by
    unfold z_cp
    rw [ta, p2, na', if_pos ⟨p1, rfl, by decide, by omega, by omega, by omega, by omega, by omega⟩]
  refine g_of (fun _ _ e => ev_cp hq hi hl hcat hcp e1 e2 e) (kk _ ?_)
  obtain ⟨H1, H2, H3, cap, g1, g2, g3, g4, g5, g6, g7, g8, g9⟩ := H
  have e1 : ∀ c, c ≠ p → z_nw m.2 p (z_cpy (m.2 a) (m.2 p) SP.toNatClampNeg DP.toNatClampNeg N.toNatClampNeg) c = m.2 c := fun c hc => funext fun j => if_neg hc
  have ez : ∀ b j, b ≠ 168 → zcP σ a sp dp n b j = σ b j := fun b j hb => if_neg (fun h => hb h.1)
  refine ⟨fun c hc => ⟨(H1 c hc).1, fun j => ?_⟩, H2, fun c hc1 hc2 hc3 i hi => ?_, cap, ?_, g2, g3, ?_, fun j hj => ?_, g6, g7, g8, g9⟩
  · show z_nw _ _ _ c j = _
    rw [e1 c (by omega)]; exact (H1 c hc).2 j
  · show zCell _ (z_nw _ _ _ c i) _
    rw [e1 c (by omega), ez c _ (by omega)]; exact H3 c hc1 hc2 hc3 i hi
  · show z_nw _ _ _ 129 0 = _
    rw [e1 129 (Ne.symm p5)]; exact g1
  · rw [ez 169 0 (by decide)]; exact g4
  · show ∃ Y, (if p = p then z_cpy (m.2 a) (m.2 p) SP.toNatClampNeg DP.toNatClampNeg N.toNatClampNeg j else m.2 p j) = .int Y ∧ Y.toInt = (if 168 = 168 ∧ dp ≤ (j : Int) ∧ (j : Int) < dp + n then zs0 a (sp + ((j : Int) - dp)) else σ 168 j)
    rw [if_pos rfl]
    show ∃ Y, (if DP.toNatClampNeg ≤ j ∧ j < DP.toNatClampNeg + N.toNatClampNeg then m.2 a (SP.toNatClampNeg + (j - DP.toNatClampNeg)) else m.2 p j) = .int Y ∧ _
    by_cases hr : DP.toNatClampNeg ≤ j ∧ j < DP.toNatClampNeg + N.toNatClampNeg
    · rw [if_pos hr, if_pos ⟨rfl, by omega, by omega⟩, (H1 a q2).2]
      unfold z_m0 zs0
      have e : (sp + ((j : Int) - dp)).toNat = SP.toNatClampNeg + (j - DP.toNatClampNeg) := by omega
      rw [if_neg (show ¬ a = 0 by omega), if_neg (show ¬ a < 19 by omega), e]
      by_cases h37 : a < 37
      · rw [if_pos h37, if_pos h37]; exact ⟨_, rfl, rfl⟩
      · rw [if_neg h37, if_neg h37]; exact ⟨_, rfl, rfl⟩
    · rw [if_neg hr, if_neg (fun h => hr ⟨by omega, by omega⟩)]; exact g5 j hj
theorem r_iaS (H : zRep xl xs p m σ) {i : Int} {X : Int32} (hq : z_mth k = some q) (hi : z_at q pc .iaload) (hX : X.toInt = i) (hb : 0 ≤ i ∧ i < (xl : Int)) (e1 : pc + 1 = pc') (e2 : z_can k pc' L = L') (kk : ∀ V : Int32, V.toInt = (xs i.toNat).toInt → zGo xl xs ff d k pc' L' (.int V :: r) m P σ') : zGo xl xs ff d k pc L (.int X :: .ref 0 :: r) m P σ' := by
  subst e1
  obtain ⟨h1, h2⟩ := H.1 0 (by decide)
  have e := z_ix hX hb
  have e3 : X.toNatClampNeg = i.toNat := by omega
  have h4 : m.2 0 X.toNatClampNeg = .int (xs i.toNat) := by rw [h2, e3]; rfl
  exact g_of (fun _ _ e => ev_s hq hi rfl (show z_ld m 0 pc L 0 X r = _ from z_ld_ok (by unfold z_tg; rw [h1]; rfl) (by unfold z_n; rw [h1]; exact z_inb hX hb rfl) h4) e2 e) (kk _ rfl)
theorem r_leS (hxl : xl < 2147483648) (H : zRep xl xs p m σ) (hq : z_mth k = some q) (hi : z_at q pc .arraylength) (e1 : pc + 1 = pc') (e2 : z_can k pc' L = L') (kk : ∀ V : Int32, V.toInt = (xl : Int) → zGo xl xs ff d k pc' L' (.int V :: r) m P σ') : zGo xl xs ff d k pc L (.ref 0 :: r) m P σ' := by
  obtain ⟨h1, h2⟩ := H.1 0 (by decide)
  refine g_of (fun _ _ e => ev_le hq hi (show (if z_tg m 0 < 4 then some (Int32.ofNat (z_n m 0)) else none) = some (Int32.ofNat xl) by unfold z_tg z_n; rw [h1]; rfl) e1 e2 e) (kk _ ?_)
  rw [Int32.toInt_ofNat_of_lt (show xl < 2 ^ 31 by omega)]
theorem r_csI {As rest : List Value} {j : Nat} {idx dc : Nat} {i : Instr} {ks : List Nat} {x : Int} (hq : z_mth k = some q) (hi : z_at q pc i) (hk : (i = .invokestatic idx ∧ ks = [0]) ∨ (i = .invokespecial idx ∧ ks = [2, 3, 4])) (hs : z_step q.2.2.2.2.1 q.2.2.1 (q.1.name == "<init>") i pc L st m = none) (hv : z_inv q.2.2.2.2.1 idx ks st m = some (.inr (.inr (j, As, rest)))) (hd : dc + 1 ≤ d) (hc : zGo xl xs ff1 dc j 0 (z_can j 0 (lv_args 0 As)) [] m (vI x) σ1) (e1 : pc + 3 = pc') (e2 : z_can k pc' L = L') (kk : ∀ (R : Int32) m1 p1, ff1 p1 → R.toInt = x → zRep xl xs p1 m1 σ1 → zGo xl xs ff d k pc' L' (.int R :: rest) m1 P σ') : zGo xl xs ff d k pc L st m P σ' := by
  obtain ⟨v, m1, p1, h1, h2, hf1, h3⟩ := hc
  obtain ⟨R, rfl, hR⟩ := h2
  exact g_of (fun _ _ e => ev_cs hq hi hk hs hv hd h1 e1 e2 rfl e) (kk R m1 p1 hf1 hR h3)
theorem r_csL {As rest : List Value} {j : Nat} {idx dc : Nat} {i : Instr} {ks : List Nat} {x : Int} (hq : z_mth k = some q) (hi : z_at q pc i) (hk : (i = .invokestatic idx ∧ ks = [0]) ∨ (i = .invokespecial idx ∧ ks = [2, 3, 4])) (hs : z_step q.2.2.2.2.1 q.2.2.1 (q.1.name == "<init>") i pc L st m = none) (hv : z_inv q.2.2.2.2.1 idx ks st m = some (.inr (.inr (j, As, rest)))) (hd : dc + 1 ≤ d) (hc : zGo xl xs ff1 dc j 0 (z_can j 0 (lv_args 0 As)) [] m (vL x) σ1) (e1 : pc + 3 = pc') (e2 : z_can k pc' L = L') (kk : ∀ (R : Int64) m1 p1, ff1 p1 → R.toInt = x → zRep xl xs p1 m1 σ1 → zGo xl xs ff d k pc' L' (.long R :: rest) m1 P σ') : zGo xl xs ff d k pc L st m P σ' := by
  obtain ⟨v, m1, p1, h1, h2, hf1, h3⟩ := hc
  obtain ⟨R, rfl, hR⟩ := h2
  exact g_of (fun _ _ e => ev_cs hq hi hk hs hv hd h1 e1 e2 rfl e) (kk R m1 p1 hf1 hR h3)
theorem r_csV {As rest : List Value} {j : Nat} {idx dc : Nat} {i : Instr} {ks : List Nat} (hq : z_mth k = some q) (hi : z_at q pc i) (hk : (i = .invokestatic idx ∧ ks = [0]) ∨ (i = .invokespecial idx ∧ ks = [2, 3, 4])) (hs : z_step q.2.2.2.2.1 q.2.2.1 (q.1.name == "<init>") i pc L st m = none) (hv : z_inv q.2.2.2.2.1 idx ks st m = some (.inr (.inr (j, As, rest)))) (hd : dc + 1 ≤ d) (hc : zGo xl xs ff1 dc j 0 (z_can j 0 (lv_args 0 As)) [] m vV σ1) (e1 : pc + 3 = pc') (e2 : z_can k pc' L = L') (kk : ∀ m1 p1, ff1 p1 → zRep xl xs p1 m1 σ1 → zGo xl xs ff d k pc' L' rest m1 P σ') : zGo xl xs ff d k pc L st m P σ' := by
  obtain ⟨v, m1, p1, h1, h2, hf1, h3⟩ := hc
  cases h2
  exact g_of (fun _ _ e => ev_cs hq hi hk hs hv hd h1 e1 e2 rfl e) (kk m1 p1 hf1 h3)
theorem r_csR {As rest : List Value} {j : Nat} {idx dc : Nat} {i : Instr} {ks : List Nat} {b : Nat} (hq : z_mth k = some q) (hi : z_at q pc i) (hk : (i = .invokestatic idx ∧ ks = [0]) ∨ (i = .invokespecial idx ∧ ks = [2, 3, 4])) (hs : z_step q.2.2.2.2.1 q.2.2.1 (q.1.name == "<init>") i pc L st m = none) (hv : z_inv q.2.2.2.2.1 idx ks st m = some (.inr (.inr (j, As, rest)))) (hd : dc + 1 ≤ d) (hc : zGo xl xs ff1 dc j 0 (z_can j 0 (lv_args 0 As)) [] m (vR b) σ1) (e1 : pc + 3 = pc') (e2 : z_can k pc' L = L') (kk : ∀ m1 p1, ff1 p1 → zRep xl xs p1 m1 σ1 → zGo xl xs ff d k pc' L' (.ref b :: rest) m1 P σ') : zGo xl xs ff d k pc L st m P σ' := by
  obtain ⟨v, m1, p1, h1, h2, hf1, h3⟩ := hc
  cases h2
  exact g_of (fun _ _ e => ev_cs hq hi hk hs hv hd h1 e1 e2 rfl e) (kk m1 p1 hf1 h3)
theorem r_cvI {Ps rest : List Value} {idx j dc kd tg a : Nat} {i : Instr} {ks ps : List Nat} {qc : z_R} {x : Int} (hq : z_mth k = some q) (hi : z_at q pc i) (hk : (i = .invokevirtual idx ∧ ks = [1, 5]) ∨ (i = .invokespecial idx ∧ ks = [2, 3, 4] ∧ kd = 4)) (hl : z_lk z_ML q.2.2.2.2.1 idx = some (kd, j, tg, ps)) (hks : ks.contains kd = true) (hk0 : kd ≠ 0) (hk9 : kd ≠ 9) (hr : z_r j = some qc) (h1 : ¬ st.length < qc.2.2.2.2.2.1) (h2 : st.drop qc.2.2.2.2.2.1 = .ref a :: rest) (h3 : (st.take qc.2.2.2.2.2.1).reverse = Ps) (h4 : z_cat rest ≤ 8) (h5 : (lg_sl (.ref a :: Ps)).length ≤ qc.2.2.1) (h6 : qc.2.2.1 ≤ 41) (htg : z_tg m a = tg) (hd : dc + 1 ≤ d) (hc : zGo xl xs ff1 dc j 0 (z_can j 0 (lv_args 0 (.ref a :: Ps))) [] m (vI x) σ1) (e1 : pc + 3 = pc') (e2 : z_can k pc' L = L') (kk : ∀ (R : Int32) m1 p1, ff1 p1 → R.toInt = x → zRep xl xs p1 m1 σ1 → zGo xl xs ff d k pc' L' (.int R :: rest) m1 P σ') : zGo xl xs ff d k pc L st m P σ' := by
  obtain ⟨v, m1, p1, g1, g2, hf1, g3⟩ := hc
  obtain ⟨R, rfl, hR⟩ := g2
  exact g_of (fun _ _ e => ev_cv hq hi hk hl hks hk0 hk9 hr h1 h2 h3 h4 h5 h6 htg hd g1 e1 e2 rfl e) (kk R m1 p1 hf1 hR g3)
theorem r_cvL {Ps rest : List Value} {idx j dc kd tg a : Nat} {i : Instr} {ks ps : List Nat} {qc : z_R} {x : Int} (hq : z_mth k = some q) (hi : z_at q pc i) (hk : (i = .invokevirtual idx ∧ ks = [1, 5]) ∨ (i = .invokespecial idx ∧ ks = [2, 3, 4] ∧ kd = 4)) (hl : z_lk z_ML q.2.2.2.2.1 idx = some (kd, j, tg, ps)) (hks : ks.contains kd = true) (hk0 : kd ≠ 0) (hk9 : kd ≠ 9) (hr : z_r j = some qc) (h1 : ¬ st.length < qc.2.2.2.2.2.1) (h2 : st.drop qc.2.2.2.2.2.1 = .ref a :: rest) (h3 : (st.take qc.2.2.2.2.2.1).reverse = Ps) (h4 : z_cat rest ≤ 8) (h5 : (lg_sl (.ref a :: Ps)).length ≤ qc.2.2.1) (h6 : qc.2.2.1 ≤ 41) (htg : z_tg m a = tg) (hd : dc + 1 ≤ d) (hc : zGo xl xs ff1 dc j 0 (z_can j 0 (lv_args 0 (.ref a :: Ps))) [] m (vL x) σ1) (e1 : pc + 3 = pc') (e2 : z_can k pc' L = L') (kk : ∀ (R : Int64) m1 p1, ff1 p1 → R.toInt = x → zRep xl xs p1 m1 σ1 → zGo xl xs ff d k pc' L' (.long R :: rest) m1 P σ') : zGo xl xs ff d k pc L st m P σ' := by
  obtain ⟨v, m1, p1, g1, g2, hf1, g3⟩ := hc
  obtain ⟨R, rfl, hR⟩ := g2
  exact g_of (fun _ _ e => ev_cv hq hi hk hl hks hk0 hk9 hr h1 h2 h3 h4 h5 h6 htg hd g1 e1 e2 rfl e) (kk R m1 p1 hf1 hR g3)
theorem r_cvV {Ps rest : List Value} {idx j dc kd tg a : Nat} {i : Instr} {ks ps : List Nat} {qc : z_R} (hq : z_mth k = some q) (hi : z_at q pc i) (hk : (i = .invokevirtual idx ∧ ks = [1, 5]) ∨ (i = .invokespecial idx ∧ ks = [2, 3, 4] ∧ kd = 4)) (hl : z_lk z_ML q.2.2.2.2.1 idx = some (kd, j, tg, ps)) (hks : ks.contains kd = true) (hk0 : kd ≠ 0) (hk9 : kd ≠ 9) (hr : z_r j = some qc) (h1 : ¬ st.length < qc.2.2.2.2.2.1) (h2 : st.drop qc.2.2.2.2.2.1 = .ref a :: rest) (h3 : (st.take qc.2.2.2.2.2.1).reverse = Ps) (h4 : z_cat rest ≤ 8) (h5 : (lg_sl (.ref a :: Ps)).length ≤ qc.2.2.1) (h6 : qc.2.2.1 ≤ 41) (htg : z_tg m a = tg) (hd : dc + 1 ≤ d) (hc : zGo xl xs ff1 dc j 0 (z_can j 0 (lv_args 0 (.ref a :: Ps))) [] m vV σ1) (e1 : pc + 3 = pc') (e2 : z_can k pc' L = L') (kk : ∀ m1 p1, ff1 p1 → zRep xl xs p1 m1 σ1 → zGo xl xs ff d k pc' L' rest m1 P σ') : zGo xl xs ff d k pc L st m P σ' := by
  obtain ⟨v, m1, p1, g1, g2, hf1, g3⟩ := hc
  cases g2
  exact g_of (fun _ _ e => ev_cv hq hi hk hl hks hk0 hk9 hr h1 h2 h3 h4 h5 h6 htg hd g1 e1 e2 rfl e) (kk m1 p1 hf1 g3)
theorem r_cvR {Ps rest : List Value} {idx j dc kd tg a : Nat} {i : Instr} {ks ps : List Nat} {qc : z_R} {b : Nat} (hq : z_mth k = some q) (hi : z_at q pc i) (hk : (i = .invokevirtual idx ∧ ks = [1, 5]) ∨ (i = .invokespecial idx ∧ ks = [2, 3, 4] ∧ kd = 4)) (hl : z_lk z_ML q.2.2.2.2.1 idx = some (kd, j, tg, ps)) (hks : ks.contains kd = true) (hk0 : kd ≠ 0) (hk9 : kd ≠ 9) (hr : z_r j = some qc) (h1 : ¬ st.length < qc.2.2.2.2.2.1) (h2 : st.drop qc.2.2.2.2.2.1 = .ref a :: rest) (h3 : (st.take qc.2.2.2.2.2.1).reverse = Ps) (h4 : z_cat rest ≤ 8) (h5 : (lg_sl (.ref a :: Ps)).length ≤ qc.2.2.1) (h6 : qc.2.2.1 ≤ 41) (htg : z_tg m a = tg) (hd : dc + 1 ≤ d) (hc : zGo xl xs ff1 dc j 0 (z_can j 0 (lv_args 0 (.ref a :: Ps))) [] m (vR b) σ1) (e1 : pc + 3 = pc') (e2 : z_can k pc' L = L') (kk : ∀ m1 p1, ff1 p1 → zRep xl xs p1 m1 σ1 → zGo xl xs ff d k pc' L' (.ref b :: rest) m1 P σ') : zGo xl xs ff d k pc L st m P σ' := by
  obtain ⟨v, m1, p1, g1, g2, hf1, g3⟩ := hc
  cases g2
  exact g_of (fun _ _ e => ev_cv hq hi hk hl hks hk0 hk9 hr h1 h2 h3 h4 h5 h6 htg hd g1 e1 e2 rfl e) (kk m1 p1 hf1 g3)
end ZG
