/-! FACTS OF ANSWERS: calls that may be opened (zP), bits of a long, rows of cells as lists -/
def zP' {α : Type} (x : Option (α × zS)) (Q : α → zS → Prop) : Prop := ∀ v s, x = some (v, s) → Q v s
theorem zP'.ret {α : Type} {Q : α → zS → Prop} {v : α} {s : zS} (h : Q v s) : zP' (some (v, s)) Q := fun _ _ e => by
  cases e; exact h
theorem zP'.no {α : Type} {Q : α → zS → Prop} : zP' (none : Option (α × zS)) Q := fun _ _ e => by cases e
theorem zP'.ite {α : Type} {c : Prop} [Decidable c] {a b : Option (α × zS)} {Q : α → zS → Prop} (h1 : c → zP' a Q) (h2 : ¬ c → zP' b Q) : zP' (if c then a else b) Q := by
  by_cases h : c
  · rw [if_pos h]; exact h1 h
  · rw [if_neg h]; exact h2 h
theorem zP'.gd {α : Type} {c : Prop} [Decidable c] {a : Option (α × zS)} {Q : α → zS → Prop} (h1 : c → zP' a Q) : zP' (if c then a else none) Q := zP'.ite h1 (fun _ => zP'.no)
theorem zP'.bind {α β : Type} {x : Option (α × zS)} {f : α × zS → Option (β × zS)} {P : α → zS → Prop} {Q : β → zS → Prop} (h : zP' x P) (k : ∀ v s, P v s → zP' (f (v, s)) Q) : zP' (x.bind f) Q := by
  intro v s e
  cases x with
  | none => cases e
  | some o =>
    obtain ⟨v0, s0⟩ := o
    exact k v0 s0 (h _ _ rfl) v s e
theorem zP'.bindp {α β : Type} {x : Option (α × zS)} {f : α × zS → Option (β × zS)} {σ : zS} {P : α → Prop} {Q : β → zS → Prop} (h : zOp x σ P) (k : ∀ v, P v → zP' (f (v, σ)) Q) : zP' (x.bind f) Q := by
  obtain ⟨v, e, p⟩ := h
  rw [e]
  exact k v p
theorem zP'.imp {α : Type} {x : Option (α × zS)} {P Q : α → zS → Prop} (h : zP' x P) (k : ∀ v s, P v s → Q v s) : zP' x Q := fun v s e => k v s (h v s e)
theorem zP'.of {α : Type} {x : Option (α × zS)} {P : α → zS → Prop} (h : zO x P) : zP' x P := fun v s e => by
  obtain ⟨v0, s0, e0, p⟩ := h
  rw [e0] at e
  cases e
  exact p
theorem zP'.and {α : Type} {x : Option (α × zS)} {P Q : α → zS → Prop} (h1 : zP' x P) (h2 : zP' x Q) : zP' x (fun v s => P v s ∧ Q v s) := fun v s e => ⟨h1 v s e, h2 v s e⟩
theorem zO.and {α : Type} {x : Option (α × zS)} {P Q : α → zS → Prop} (h1 : zO x P) (h2 : zP' x Q) : zO x (fun v s => P v s ∧ Q v s) := by
  obtain ⟨v, s, e, p⟩ := h1
  exact ⟨v, s, e, p, h2 v s e⟩
/-! BITS -/
def bq (v : Int) (r : Nat) : Bool := (Int64.ofInt v).toBitVec.getLsbD r
theorem bq_and (x y : Int) (r : Nat) : bq (lAnd x y) r = (bq x r && bq y r) := by
  unfold bq lAnd
  rw [Int64.ofInt_toInt, Int64.toBitVec_and, BitVec.getLsbD_and]
theorem bq_or (x y : Int) (r : Nat) : bq (lOr x y) r = (bq x r || bq y r) := by
  unfold bq lOr
  rw [Int64.ofInt_toInt, Int64.toBitVec_or, BitVec.getLsbD_or]
theorem bq_xor (x y : Int) (r : Nat) : bq (lXor x y) r = (bq x r ^^ bq y r) := by
  unfold bq lXor
  rw [Int64.ofInt_toInt, Int64.toBitVec_xor, BitVec.getLsbD_xor]
theorem bq_m1 {r : Nat} (h : r < 64) : bq (-1) r = true := by
  have e : (Int64.ofInt (-1)).toBitVec = BitVec.allOnes 64 := by decide +kernel
  unfold bq
  rw [e, BitVec.getLsbD_allOnes]
  exact decide_eq_true h
theorem bq_not (x : Int) {r : Nat} (h : r < 64) : bq (lXor x (-1)) r = !bq x r := by
  rw [bq_xor, bq_m1 h]
  cases bq x r <;> rfl
theorem bq_0 (r : Nat) : bq 0 r = false := by
  have e : (Int64.ofInt 0).toBitVec = 0#64 := by decide +kernel
  unfold bq
  rw [e]
  exact BitVec.getLsbD_zero
theorem bq_bit {r k : Nat} (hr : r < 64) : bq (lShl 1 (r : Int)) k = decide (k = r) := by
  have h : ∀ i : Fin 64, (Int64.ofInt 1 <<< ((Int32.ofInt ((i.val : Nat) : Int)).toInt64 &&& 63)).toBitVec = BitVec.twoPow 64 i.val := by decide +kernel
  have h := h ⟨r, hr⟩
  unfold bq lShl
  rw [Int64.ofInt_toInt]
  rw [show (Int64.ofInt 1 <<< ((Int32.ofInt ((r : Nat) : Int)).toInt64 &&& 63)).toBitVec = BitVec.twoPow 64 r from h]
  rw [BitVec.getLsbD_twoPow]
  by_cases c : k = r
  · subst c
    simp [hr]
  · have c2 : ¬ r = k := fun e => c e.symm
    simp [c, c2]
theorem bv_and1 (x : BitVec 64) : x &&& 1#64 = if x.getLsbD 0 then 1#64 else 0#64 := by
  rw [BitVec.and_one_eq_setWidth_ofBool_getLsbD]
  cases x.getLsbD 0 <;> rfl
theorem bq_ush {v : Int} {r : Nat} (hr : r < 64) : ((Int64.ofInt v).toUInt64 >>> ((Int32.ofInt (r : Int)).toInt64.toUInt64 &&& Int64.toUInt64 63)).toInt64.toBitVec = (Int64.ofInt v).toBitVec >>> r := by
  have h : ∀ i : Fin 64, (((Int32.ofInt ((i.val : Nat) : Int)).toInt64.toUInt64 &&& Int64.toUInt64 63).toBitVec % 64).toNat = i.val := by decide +kernel
  have h : (((Int32.ofInt ((r : Nat) : Int)).toInt64.toUInt64 &&& Int64.toUInt64 63).toBitVec % 64).toNat = r := h ⟨r, hr⟩
  rw [UInt64.toBitVec_toInt64, UInt64.toBitVec_shiftRight, Int64.toBitVec_toUInt64]
  rw [BitVec.ushiftRight_eq', h]
theorem bq_tst {v : Int} {r : Nat} (hr : r < 64) : lCmp (lAnd (lUshr v (r : Int)) 1) 0 = 0 ↔ bq v r = false := by
  rw [lCmp_eq]
  unfold lAnd lUshr bq
  rw [Int64.ofInt_toInt]
  have e1 : (Int64.ofInt 1).toBitVec = 1#64 := by decide +kernel
  have key : (((Int64.ofInt v).toUInt64 >>> ((Int32.ofInt (r : Int)).toInt64.toUInt64 &&& Int64.toUInt64 63)).toInt64 &&& Int64.ofInt 1).toBitVec = if (Int64.ofInt v).toBitVec.getLsbD r then 1#64 else 0#64 := by
    rw [Int64.toBitVec_and, bq_ush hr, e1, bv_and1, BitVec.getLsbD_ushiftRight, Nat.add_zero]
  have ti : ∀ x : Int64, x.toInt = x.toBitVec.toInt := fun _ => rfl
  rw [ti, key]
  cases (Int64.ofInt v).toBitVec.getLsbD r
  · exact ⟨fun _ => rfl, fun _ => by decide⟩
  · exact ⟨fun h => absurd h (by decide), fun h => by cases h⟩
/-! ROWS OF CELLS AS LISTS -/
def sg (f : Int → Int) (a : Int) : Nat → List Int
  | 0 => []
  | n + 1 => f a :: sg f (a + 1) n
theorem sg_len (f : Int → Int) : ∀ (n : Nat) (a : Int), (sg f a n).length = n
  | 0, _ => rfl
  | n + 1, a => by
    show (sg f (a + 1) n).length + 1 = n + 1
    rw [sg_len f n (a + 1)]
theorem sg_ext {f g : Int → Int} : ∀ (n : Nat) (a b : Int), (∀ j : Nat, j < n → f (a + (j : Int)) = g (b + (j : Int))) → sg f a n = sg g b n
  | 0, _, _, _ => rfl
  | n + 1, a, b, h => by
    show f a :: sg f (a + 1) n = g b :: sg g (b + 1) n
    have h0 := h 0 (Nat.succ_pos n)
    rw [show a + ((0 : Nat) : Int) = a by omega, show b + ((0 : Nat) : Int) = b by omega] at h0
    rw [h0, sg_ext n (a + 1) (b + 1) (fun j hj => by
      have e := h (j + 1) (by omega)
      rw [show a + ((j + 1 : Nat) : Int) = a + 1 + (j : Int) by omega, show b + ((j + 1 : Nat) : Int) = b + 1 + (j : Int) by omega] at e
      exact e)]
theorem sg_app (f : Int → Int) : ∀ (n m : Nat) (a : Int), sg f a (n + m) = sg f a n ++ sg f (a + (n : Int)) m
  | 0, m, a => by
    rw [Nat.zero_add]
    show sg f a m = sg f (a + ((0 : Nat) : Int)) m
    rw [show a + ((0 : Nat) : Int) = a by omega]
  | n + 1, m, a => by
    rw [show n + 1 + m = (n + m) + 1 by omega]
    show f a :: sg f (a + 1) (n + m) = f a :: (sg f (a + 1) n ++ sg f (a + ((n + 1 : Nat) : Int)) m)
    rw [sg_app f n m (a + 1), show a + ((n + 1 : Nat) : Int) = a + 1 + (n : Int) by omega]
theorem sg_snoc (f : Int → Int) (n : Nat) (a : Int) : sg f a (n + 1) = sg f a n ++ [f (a + (n : Int))] := by
  rw [sg_app f n 1 a]
  rfl
theorem sg_mem {f : Int → Int} {x : Int} : ∀ (n : Nat) (a : Int), x ∈ sg f a n ↔ ∃ j : Nat, j < n ∧ f (a + (j : Int)) = x
  | 0, a => ⟨fun h => (by cases h), fun ⟨j, h, _⟩ => absurd h (Nat.not_lt_zero _)⟩
  | n + 1, a => by
    show x ∈ f a :: sg f (a + 1) n ↔ _
    rw [List.mem_cons, sg_mem n (a + 1)]
    constructor
    · rintro (rfl | ⟨j, h1, h2⟩)
      · exact ⟨0, by omega, by rw [show a + ((0 : Nat) : Int) = a by omega]⟩
      · exact ⟨j + 1, by omega, by rw [show a + ((j + 1 : Nat) : Int) = a + 1 + (j : Int) by omega]; exact h2⟩
    · rintro ⟨j, h1, h2⟩
      cases j with
      | zero => rw [show a + ((0 : Nat) : Int) = a by omega] at h2; exact Or.inl h2.symm
      | succ j => rw [show a + ((j + 1 : Nat) : Int) = a + 1 + (j : Int) by omega] at h2; exact Or.inr ⟨j, by omega, h2⟩
