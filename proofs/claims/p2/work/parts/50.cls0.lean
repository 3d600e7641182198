/-! THE CLASS over the typed memory: calls that answer (zO, zOp), the class's invariant CI, what a call changes (fr) -/
def zO {α : Type} (x : Option (α × zS)) (Q : α → zS → Prop) : Prop := ∃ v s, x = some (v, s) ∧ Q v s
def zOp {α : Type} (x : Option (α × zS)) (σ : zS) (P : α → Prop) : Prop := ∃ v, x = some (v, σ) ∧ P v
theorem zO.ret {α : Type} {Q : α → zS → Prop} {v : α} {s : zS} (h : Q v s) : zO (some (v, s)) Q := ⟨v, s, rfl, h⟩
theorem zOp.ret {α : Type} {P : α → Prop} {v : α} {s : zS} (h : P v) : zOp (some (v, s)) s P := ⟨v, rfl, h⟩
theorem zO.ite {α : Type} {c : Prop} [Decidable c] {a b : Option (α × zS)} {Q : α → zS → Prop} (h1 : c → zO a Q) (h2 : ¬ c → zO b Q) : zO (if c then a else b) Q := by
  by_cases h : c
  · rw [if_pos h]; exact h1 h
  · rw [if_neg h]; exact h2 h
theorem zOp.ite {α : Type} {c : Prop} [Decidable c] {a b : Option (α × zS)} {σ : zS} {P : α → Prop} (h1 : c → zOp a σ P) (h2 : ¬ c → zOp b σ P) : zOp (if c then a else b) σ P := by
  by_cases h : c
  · rw [if_pos h]; exact h1 h
  · rw [if_neg h]; exact h2 h
theorem zO.gd {α : Type} {c : Prop} [Decidable c] {a b : Option (α × zS)} {Q : α → zS → Prop} (h : c) (k : zO a Q) : zO (if c then a else b) Q := by
  rw [if_pos h]; exact k
theorem zOp.gd {α : Type} {c : Prop} [Decidable c] {a b : Option (α × zS)} {σ : zS} {P : α → Prop} (h : c) (k : zOp a σ P) : zOp (if c then a else b) σ P := by
  rw [if_pos h]; exact k
theorem zO.bind {α β : Type} {x : Option (α × zS)} {f : α × zS → Option (β × zS)} {P : α → zS → Prop} {Q : β → zS → Prop} (h : zO x P) (k : ∀ v s, P v s → zO (f (v, s)) Q) : zO (x.bind f) Q := by
  obtain ⟨v, s, e, p⟩ := h
  rw [e]
  exact k v s p
theorem zO.bindp {α β : Type} {x : Option (α × zS)} {f : α × zS → Option (β × zS)} {σ : zS} {P : α → Prop} {Q : β → zS → Prop} (h : zOp x σ P) (k : ∀ v, P v → zO (f (v, σ)) Q) : zO (x.bind f) Q := by
  obtain ⟨v, e, p⟩ := h
  rw [e]
  exact k v p
theorem zOp.bindp {α β : Type} {x : Option (α × zS)} {f : α × zS → Option (β × zS)} {σ : zS} {P : α → Prop} {Q : β → Prop} (h : zOp x σ P) (k : ∀ v, P v → zOp (f (v, σ)) σ Q) : zOp (x.bind f) σ Q := by
  obtain ⟨v, e, p⟩ := h
  rw [e]
  exact k v p
theorem zO.imp {α : Type} {x : Option (α × zS)} {P Q : α → zS → Prop} (h : zO x P) (k : ∀ v s, P v s → Q v s) : zO x Q := by
  obtain ⟨v, s, e, p⟩ := h
  exact ⟨v, s, e, k v s p⟩
theorem zOp.imp {α : Type} {x : Option (α × zS)} {σ : zS} {P Q : α → Prop} (h : zOp x σ P) (k : ∀ v, P v → Q v) : zOp x σ Q := by
  obtain ⟨v, e, p⟩ := h
  exact ⟨v, e, k v p⟩
/-- the cells whose bounds every call keeps -/
def rng (a : Nat) (j : Int) : Option (Int × Int) :=
  if (a = 48 ∨ a = 81 ∨ a = 106) ∧ j = 2 then some (0, 181) else
  if (a = 56 ∨ a = 58 ∨ a = 63 ∨ a = 89 ∨ a = 91 ∨ a = 96 ∨ a = 114 ∨ a = 116 ∨ a = 126 ∨ a = 131) ∧ j = 1 then some (0, 181) else
  if (a = 41 ∨ a = 74) ∧ j = 4 then some (0, 60) else
  if a = 42 ∨ a = 43 ∨ a = 75 ∨ a = 76 then some (0, 31) else
  if (a = 60 ∨ a = 70 ∨ a = 93 ∨ a = 103) ∧ j = 2 then some (0, 60) else
  if (a = 65 ∨ a = 98) ∧ j = 5 then some (0, 6) else
  if a = 120 ∧ j = 1 then some (0, 160) else
  if a = 120 ∧ j = 2 then some (0, 160) else
  if a = 122 ∧ j = 5 then some (0, 8) else
  if a = 39 ∧ j = 9 then some (0, 8) else
  if a = 142 then some (-1, 60) else
  if (a = 48 ∨ a = 81 ∨ a = 106) ∧ j = 8 then some (-2147483648, 2147483647) else
  if a = 51 ∨ a = 84 ∨ a = 109 then some (-2147483648, 2147483647) else none
def CR (a : Nat) (j v : Int) : Prop := ∀ lo hi, rng a j = some (lo, hi) → lo ≤ v ∧ v ≤ hi
/-- the paper: no wide signs, its length within its room -/
def PG (σ : zS) : Prop := σ 129 1 = 0 ∧ 0 ≤ σ 129 3 ∧ σ 129 3 ≤ σ 169 0 ∧ σ 129 3 ≤ 50000 ∧ σ 169 0 ≤ 200000
def CI (σ : zS) : Prop := (∀ a j, CR a j (σ a j)) ∧ PG σ
theorem CI.c2 {σ : zS} {a : Nat} (H : CI σ) (h : a = 48 ∨ a = 81 ∨ a = 106) : 0 ≤ σ a 2 ∧ σ a 2 ≤ 181 := (H.1 a 2) 0 181 (by rcases h with rfl | rfl | rfl <;> rfl)
theorem CI.c1 {σ : zS} {a : Nat} (H : CI σ) (h : a = 56 ∨ a = 58 ∨ a = 63 ∨ a = 89 ∨ a = 91 ∨ a = 96 ∨ a = 114 ∨ a = 116 ∨ a = 126 ∨ a = 131) : 0 ≤ σ a 1 ∧ σ a 1 ≤ 181 := (H.1 a 1) 0 181 (by rcases h with rfl | rfl | rfl | rfl | rfl | rfl | rfl | rfl | rfl | rfl <;> rfl)
theorem CI.c4 {σ : zS} {a : Nat} (H : CI σ) (h : a = 41 ∨ a = 74) : 0 ≤ σ a 4 ∧ σ a 4 ≤ 60 := (H.1 a 4) 0 60 (by rcases h with rfl | rfl <;> rfl)
theorem CI.cp {σ : zS} {a : Nat} {j : Int} (H : CI σ) (h : a = 42 ∨ a = 43 ∨ a = 75 ∨ a = 76) : 0 ≤ σ a j ∧ σ a j ≤ 31 := (H.1 a j) 0 31 (by rcases h with rfl | rfl | rfl | rfl <;> rfl)
theorem CI.cf {σ : zS} {a : Nat} (H : CI σ) (h : a = 60 ∨ a = 70 ∨ a = 93 ∨ a = 103) : 0 ≤ σ a 2 ∧ σ a 2 ≤ 60 := (H.1 a 2) 0 60 (by rcases h with rfl | rfl | rfl | rfl <;> rfl)
theorem CI.cw {σ : zS} {a : Nat} (H : CI σ) (h : a = 65 ∨ a = 98) : 0 ≤ σ a 5 ∧ σ a 5 ≤ 6 := (H.1 a 5) 0 6 (by rcases h with rfl | rfl <;> rfl)
theorem CI.ct {σ : zS} (H : CI σ) : 0 ≤ σ 120 1 ∧ σ 120 1 ≤ 160 := (H.1 120 1) 0 160 rfl
theorem CI.ca {σ : zS} (H : CI σ) : 0 ≤ σ 120 2 ∧ σ 120 2 ≤ 160 := (H.1 120 2) 0 160 rfl
theorem CI.cq {σ : zS} (H : CI σ) : 0 ≤ σ 122 5 ∧ σ 122 5 ≤ 8 := (H.1 122 5) 0 8 rfl
theorem CI.cn {σ : zS} (H : CI σ) : 0 ≤ σ 39 9 ∧ σ 39 9 ≤ 8 := (H.1 39 9) 0 8 rfl
theorem CI.cl {σ : zS} {j : Int} (H : CI σ) : -1 ≤ σ 142 j ∧ σ 142 j ≤ 60 := (H.1 142 j) (-1) 60 rfl
theorem CI.cx {σ : zS} {a : Nat} (H : CI σ) (h : a = 48 ∨ a = 81 ∨ a = 106) : -2147483648 ≤ σ a 8 ∧ σ a 8 ≤ 2147483647 := (H.1 a 8) (-2147483648) 2147483647 (by rcases h with rfl | rfl | rfl <;> rfl)
theorem CI.cy {σ : zS} {a : Nat} {j : Int} (H : CI σ) (h : a = 51 ∨ a = 84 ∨ a = 109) : -2147483648 ≤ σ a j ∧ σ a j ≤ 2147483647 := (H.1 a j) (-2147483648) 2147483647 (by rcases h with rfl | rfl | rfl <;> rfl)
theorem CI_z {σ : zS} {a : Nat} {i v : Int} (H : CI σ) (h1 : a ≠ 129) (h2 : a ≠ 169) (h : CR a i v) : CI (zu σ a i v) := by
  refine ⟨fun b j => ?_, ?_⟩
  · by_cases e : b = a ∧ j = i
    · obtain ⟨rfl, rfl⟩ := e
      rw [zu_e rfl]; exact h
    · rw [show zu σ a i v b j = σ b j from if_neg e]; exact H.1 b j
  · unfold PG
    rw [zu_a (Ne.symm h1), zu_a (Ne.symm h1), zu_a (Ne.symm h2)]; exact H.2
theorem CI_zun {σ : zS} {a : Nat} {i v : Int} (H : CI σ) (h1 : a ≠ 129) (h2 : a ≠ 169) (h : rng a i = none) : CI (zu σ a i v) := CI_z H h1 h2 (fun lo hi e => by rw [h] at e; cases e)
theorem CI_zuy {σ : zS} {a : Nat} {i v lo hi : Int} (H : CI σ) (h1 : a ≠ 129) (h2 : a ≠ 169) (h : rng a i = some (lo, hi)) (k1 : lo ≤ v) (k2 : v ≤ hi) : CI (zu σ a i v) := CI_z H h1 h2 (fun l2 h2 e => by
  rw [h] at e
  cases e
  exact ⟨k1, k2⟩)
theorem zcp_a {σ : zS} {a b c : Nat} {sp dp n j : Int} (h : c ≠ b) : zcp σ a sp b dp n c j = σ c j := if_neg (fun e => h e.1)
theorem CI_zcpy {σ : zS} {a b : Nat} {sp dp n : Int} (H : CI σ) (h1 : b ≠ 129) (h2 : b ≠ 169) (h : ∀ j k v, CR a k v → CR b j v) : CI (zcp σ a sp b dp n) := by
  refine ⟨fun c j => ?_, ?_⟩
  · by_cases e : c = b ∧ dp ≤ j ∧ j < dp + n
    · rw [show zcp σ a sp b dp n c j = σ a (sp + (j - dp)) from if_pos e]
      rw [e.1]
      exact h j _ _ (H.1 a _)
    · rw [show zcp σ a sp b dp n c j = σ c j from if_neg e]; exact H.1 c j
  · unfold PG
    rw [zcp_a (Ne.symm h1), zcp_a (Ne.symm h1), zcp_a (Ne.symm h2)]; exact H.2
theorem CI_zcpn {σ : zS} {a b : Nat} {sp dp n : Int} (H : CI σ) (h1 : b ≠ 129) (h2 : b ≠ 169) (h : ∀ j, rng b j = none) : CI (zcp σ a sp b dp n) := CI_zcpy H h1 h2 (fun j k v _ lo hi e => by rw [h j] at e; cases e)
theorem rng_row {a : Nat} {j : Int} (h : 136 ≤ a ∧ a ≤ 141) : rng a j = none := by
  unfold rng
  rw [if_neg (by omega)]
  rw [if_neg (by omega)]
  rw [if_neg (by omega)]
  rw [if_neg (by omega)]
  rw [if_neg (by omega)]
  rw [if_neg (by omega)]
  rw [if_neg (by omega)]
  rw [if_neg (by omega)]
  rw [if_neg (by omega)]
  rw [if_neg (by omega)]
  rw [if_neg (by omega)]
  rw [if_neg (by omega)]
  rw [if_neg (by omega)]
theorem row_mem {a : Nat} (h : 136 ≤ a ∧ a ≤ 141) : (decide (136 ≤ a) && decide (a ≤ 141)) = true := by
  rw [decide_eq_true h.1, decide_eq_true h.2]; rfl
theorem bl {x y : Bool} (h : x = true) : (x || y) = true := by rw [h]; rfl
theorem br {x y : Bool} (h : y = true) : (x || y) = true := by rw [h]; cases x <;> rfl
theorem ffl {x y : Bool} (h : (x || y) = false) : x = false := by cases x <;> first | rfl | cases h
theorem ffr {x y : Bool} (h : (x || y) = false) : y = false := by cases x <;> first | exact h | cases h
theorem zbb (a : Nat) (j : Int) : (a == a && j == j) = true := by
  rw [beq_self_eq_true, beq_self_eq_true]; rfl
/-- the reference's cells and all that F does not name are as they were -/
def fr (F : Nat → Int → Bool) (σ s : zS) : Prop := ∀ a j, ((143 ≤ a ∧ a < 168) ∨ F a j = false) → s a j = σ a j
theorem fr.refl {F : Nat → Int → Bool} (σ : zS) : fr F σ σ := fun _ _ _ => rfl
theorem fr.trans {F : Nat → Int → Bool} {σ s t : zS} (h1 : fr F σ s) (h2 : fr F s t) : fr F σ t := fun a j k => (h2 a j k).trans (h1 a j k)
theorem fr.mono {F G : Nat → Int → Bool} {σ s : zS} (h : fr G σ s) (m : ∀ a j, F a j = false → G a j = false) : fr F σ s := fun a j k => h a j (k.imp id (m a j))
theorem fr.zu {F : Nat → Int → Bool} {σ p : zS} {a : Nat} {i v : Int} (h : fr F σ p) (ha : a < 143 ∨ 168 ≤ a) (hm : F a i = true) : fr F σ (zu p a i v) := fun b j k => by
  by_cases e : b = a ∧ j = i
  · obtain ⟨rfl, rfl⟩ := e
    rcases k with k | k
    · omega
    · rw [hm] at k; cases k
  · exact (zu_c (by omega)).trans (h b j k)
theorem fr.zcp {F : Nat → Int → Bool} {σ p : zS} {a b : Nat} {sp dp n : Int} (h : fr F σ p) (hb : b < 143 ∨ 168 ≤ b) (hm : ∀ j, F b j = true) : fr F σ (zcp p a sp b dp n) := fun c j k => by
  by_cases e : c = b
  · subst e
    rcases k with k | k
    · omega
    · rw [hm j] at k; cases k
  · rw [zcp_a e]; exact h c j k
theorem iAnd_bd {x : Int} {m : Nat} (hm : m < 2147483648) : 0 ≤ iAnd x (m : Int) ∧ iAnd x (m : Int) ≤ (m : Int) := by
  unfold iAnd
  have h : (Int32.ofInt x &&& Int32.ofInt (m : Int)).toBitVec.toNat ≤ m := by
    rw [Int32.toBitVec_and, BitVec.toNat_and]
    refine Nat.le_trans Nat.and_le_right ?_
    rw [Int32.toBitVec_ofInt, BitVec.toNat_ofInt]
    omega
  have h2 : (Int32.ofInt x &&& Int32.ofInt (m : Int)).toInt = ((Int32.ofInt x &&& Int32.ofInt (m : Int)).toBitVec.toNat : Int) := by
    show (Int32.ofInt x &&& Int32.ofInt (m : Int)).toBitVec.toInt = _
    rw [BitVec.toInt_eq_toNat_of_lt (by omega)]
  rw [h2]
  omega
theorem iAnd31 {x : Int} : 0 ≤ iAnd x 31 ∧ iAnd x 31 ≤ 31 := iAnd_bd (m := 31) (by decide)
theorem orf {x y : Bool} (h1 : x = false) (h2 : y = false) : (x || y) = false := by rw [h1, h2]; rfl
theorem iAnd127 {x : Int} : 0 ≤ iAnd x 127 ∧ iAnd x 127 ≤ 127 := iAnd_bd (m := 127) (by decide)
theorem shl12 {x : Int} (h1 : 0 ≤ x) (h2 : x ≤ 12) : iShl 1 x ≤ 4096 := by
  obtain ⟨n, rfl⟩ : ∃ n : Nat, x = (n : Int) := ⟨x.toNat, by omega⟩
  have h : ∀ n : Fin 13, iShl 1 ((n.val : Nat) : Int) ≤ 4096 := by decide +kernel
  exact h ⟨n, by omega⟩
theorem g_b_x0_sp {x0 : Int} {σ : zS} : zOp (g_b_x0 x0 σ) σ (fun v => 0 ≤ v ∧ v ≤ 31) := ⟨_, rfl, iAnd31⟩
theorem g_b_x1_sp {x0 : Int} {σ : zS} : zOp (g_b_x1 x0 σ) σ (fun v => 0 ≤ v ∧ v ≤ 31) := ⟨_, rfl, iAnd31⟩
theorem g_b_y0_sp {x0 : Int} {σ : zS} : zOp (g_b_y0 x0 σ) σ (fun v => 0 ≤ v ∧ v ≤ 31) := ⟨_, rfl, iAnd31⟩
theorem g_b_y1_sp {x0 : Int} {σ : zS} : zOp (g_b_y1 x0 σ) σ (fun v => 0 ≤ v ∧ v ≤ 31) := ⟨_, rfl, iAnd31⟩
theorem g_jLong_bitCount_sp {y0 : Int} {σ : zS} : zOp (g_jLong_bitCount y0 σ) σ (fun v => 0 ≤ v ∧ v ≤ 127) := ⟨_, rfl, iAnd127⟩
theorem g_b_side_sp {x0 x1 : Int} {σ : zS} : zOp (g_b_side x0 x1 σ) σ (fun v => 0 ≤ v ∧ v ≤ 31) := ⟨_, rfl, iAnd31⟩
