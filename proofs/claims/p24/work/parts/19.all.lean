section
/-! 50.cls0 -/
/-! THE CLASS over the typed memory: calls that answer (zO, zOp), the class's invariant CI, what a call changes (fr) -/
def zO {α : Type} (x : Option (α × zS)) (Q : α → zS → Prop) : Prop := ∃ v s, x = some (v, s) ∧ Q v s
def zOp {α : Type} (x : Option (α × zS)) (σ : zS) (P : α → Prop) : Prop := ∃ v, x = some (v, σ) ∧ P v
theorem zO.ret {α : Type} {Q : α → zS → Prop} {v : α} {s : zS} (h : Q v s) : zO (some (v, s)) Q := ⟨v, s, rfl, h⟩
theorem zOp.ret {α : Type} {P : α → Prop} {v : α} {s : zS} (h : P v) : zOp (some (v, s)) s P := ⟨v, rfl, h⟩
theorem zO.ite {α : Type} {c : Prop} [Decidable c] {a b : Option (α × zS)} {Q : α → zS → Prop} (h1 : c → zO a Q) (h2 : ¬ c → zO b Q) : zO (if c then a else b) Q := by
  by_cases h : c
  · rw [if_pos h]; exact h1 h
  · rw [if_neg h]; exact h2 h
theorem zOp.ite {α : Type} {c : Prop} [Decidable c] {a b : Option (α × zS)} {σ : zS} {P : α → Prop} (h1 : c → zOp a σ P) (h2 : ¬ c → zOp b σ P) : zOp (if c then a else b) σ P := by
  by_cases h : c
  · rw [if_pos h]; exact h1 h
  · rw [if_neg h]; exact h2 h
theorem zO.gd {α : Type} {c : Prop} [Decidable c] {a b : Option (α × zS)} {Q : α → zS → Prop} (h : c) (k : zO a Q) : zO (if c then a else b) Q := by
  rw [if_pos h]; exact k
theorem zOp.gd {α : Type} {c : Prop} [Decidable c] {a b : Option (α × zS)} {σ : zS} {P : α → Prop} (h : c) (k : zOp a σ P) : zOp (if c then a else b) σ P := by
  rw [if_pos h]; exact k
theorem zO.bind {α β : Type} {x : Option (α × zS)} {f : α × zS → Option (β × zS)} {P : α → zS → Prop} {Q : β → zS → Prop} (h : zO x P) (k : ∀ v s, P v s → zO (f (v, s)) Q) : zO (x.bind f) Q := by
  obtain ⟨v, s, e, p⟩ := h
  rw [e]
  exact k v s p
theorem zO.bindp {α β : Type} {x : Option (α × zS)} {f : α × zS → Option (β × zS)} {σ : zS} {P : α → Prop} {Q : β → zS → Prop} (h : zOp x σ P) (k : ∀ v, P v → zO (f (v, σ)) Q) : zO (x.bind f) Q := by
  obtain ⟨v, e, p⟩ := h
  rw [e]
  exact k v p
theorem zOp.bindp {α β : Type} {x : Option (α × zS)} {f : α × zS → Option (β × zS)} {σ : zS} {P : α → Prop} {Q : β → Prop} (h : zOp x σ P) (k : ∀ v, P v → zOp (f (v, σ)) σ Q) : zOp (x.bind f) σ Q := by
  obtain ⟨v, e, p⟩ := h
  rw [e]
  exact k v p
theorem zO.imp {α : Type} {x : Option (α × zS)} {P Q : α → zS → Prop} (h : zO x P) (k : ∀ v s, P v s → Q v s) : zO x Q := by
  obtain ⟨v, s, e, p⟩ := h
  exact ⟨v, s, e, k v s p⟩
theorem zOp.imp {α : Type} {x : Option (α × zS)} {σ : zS} {P Q : α → Prop} (h : zOp x σ P) (k : ∀ v, P v → Q v) : zOp x σ Q := by
  obtain ⟨v, e, p⟩ := h
  exact ⟨v, e, k v p⟩
/-- the cells whose bounds every call keeps -/
def rng (a : Nat) (j : Int) : Option (Int × Int) :=
  if (a = 48 ∨ a = 81 ∨ a = 106) ∧ j = 2 then some (0, 181) else
  if (a = 56 ∨ a = 58 ∨ a = 63 ∨ a = 89 ∨ a = 91 ∨ a = 96 ∨ a = 114 ∨ a = 116 ∨ a = 126 ∨ a = 131) ∧ j = 1 then some (0, 181) else
  if (a = 41 ∨ a = 74) ∧ j = 4 then some (0, 60) else
  if a = 42 ∨ a = 43 ∨ a = 75 ∨ a = 76 then some (0, 31) else
  if (a = 60 ∨ a = 70 ∨ a = 93 ∨ a = 103) ∧ j = 2 then some (0, 60) else
  if (a = 65 ∨ a = 98) ∧ j = 5 then some (0, 6) else
  if a = 120 ∧ j = 1 then some (0, 160) else
  if a = 120 ∧ j = 2 then some (0, 160) else
  if a = 122 ∧ j = 5 then some (0, 8) else
  if a = 39 ∧ j = 9 then some (0, 8) else
  if a = 142 then some (-1, 60) else
  if (a = 48 ∨ a = 81 ∨ a = 106) ∧ j = 8 then some (-2147483648, 2147483647) else
  if a = 51 ∨ a = 84 ∨ a = 109 then some (-2147483648, 2147483647) else none
def CR (a : Nat) (j v : Int) : Prop := ∀ lo hi, rng a j = some (lo, hi) → lo ≤ v ∧ v ≤ hi
/-- the paper: no wide signs, its length within its room -/
def PG (σ : zS) : Prop := σ 129 1 = 0 ∧ 0 ≤ σ 129 3 ∧ σ 129 3 ≤ σ 169 0 ∧ σ 129 3 ≤ 50000 ∧ σ 169 0 ≤ 200000
def CI (σ : zS) : Prop := (∀ a j, CR a j (σ a j)) ∧ PG σ
theorem CI.c2 {σ : zS} {a : Nat} (H : CI σ) (h : a = 48 ∨ a = 81 ∨ a = 106) : 0 ≤ σ a 2 ∧ σ a 2 ≤ 181 := (H.1 a 2) 0 181 (by rcases h with rfl | rfl | rfl <;> rfl)
theorem CI.c1 {σ : zS} {a : Nat} (H : CI σ) (h : a = 56 ∨ a = 58 ∨ a = 63 ∨ a = 89 ∨ a = 91 ∨ a = 96 ∨ a = 114 ∨ a = 116 ∨ a = 126 ∨ a = 131) : 0 ≤ σ a 1 ∧ σ a 1 ≤ 181 := (H.1 a 1) 0 181 (by rcases h with rfl | rfl | rfl | rfl | rfl | rfl | rfl | rfl | rfl | rfl <;> rfl)
theorem CI.c4 {σ : zS} {a : Nat} (H : CI σ) (h : a = 41 ∨ a = 74) : 0 ≤ σ a 4 ∧ σ a 4 ≤ 60 := (H.1 a 4) 0 60 (by rcases h with rfl | rfl <;> rfl)
theorem CI.cp {σ : zS} {a : Nat} {j : Int} (H : CI σ) (h : a = 42 ∨ a = 43 ∨ a = 75 ∨ a = 76) : 0 ≤ σ a j ∧ σ a j ≤ 31 := (H.1 a j) 0 31 (by rcases h with rfl | rfl | rfl | rfl <;> rfl)
theorem CI.cf {σ : zS} {a : Nat} (H : CI σ) (h : a = 60 ∨ a = 70 ∨ a = 93 ∨ a = 103) : 0 ≤ σ a 2 ∧ σ a 2 ≤ 60 := (H.1 a 2) 0 60 (by rcases h with rfl | rfl | rfl | rfl <;> rfl)
theorem CI.cw {σ : zS} {a : Nat} (H : CI σ) (h : a = 65 ∨ a = 98) : 0 ≤ σ a 5 ∧ σ a 5 ≤ 6 := (H.1 a 5) 0 6 (by rcases h with rfl | rfl <;> rfl)
theorem CI.ct {σ : zS} (H : CI σ) : 0 ≤ σ 120 1 ∧ σ 120 1 ≤ 160 := (H.1 120 1) 0 160 rfl
theorem CI.ca {σ : zS} (H : CI σ) : 0 ≤ σ 120 2 ∧ σ 120 2 ≤ 160 := (H.1 120 2) 0 160 rfl
theorem CI.cq {σ : zS} (H : CI σ) : 0 ≤ σ 122 5 ∧ σ 122 5 ≤ 8 := (H.1 122 5) 0 8 rfl
theorem CI.cn {σ : zS} (H : CI σ) : 0 ≤ σ 39 9 ∧ σ 39 9 ≤ 8 := (H.1 39 9) 0 8 rfl
theorem CI.cl {σ : zS} {j : Int} (H : CI σ) : -1 ≤ σ 142 j ∧ σ 142 j ≤ 60 := (H.1 142 j) (-1) 60 rfl
theorem CI.cx {σ : zS} {a : Nat} (H : CI σ) (h : a = 48 ∨ a = 81 ∨ a = 106) : -2147483648 ≤ σ a 8 ∧ σ a 8 ≤ 2147483647 := (H.1 a 8) (-2147483648) 2147483647 (by rcases h with rfl | rfl | rfl <;> rfl)
theorem CI.cy {σ : zS} {a : Nat} {j : Int} (H : CI σ) (h : a = 51 ∨ a = 84 ∨ a = 109) : -2147483648 ≤ σ a j ∧ σ a j ≤ 2147483647 := (H.1 a j) (-2147483648) 2147483647 (by rcases h with rfl | rfl | rfl <;> rfl)
theorem CI_z {σ : zS} {a : Nat} {i v : Int} (H : CI σ) (h1 : a ≠ 129) (h2 : a ≠ 169) (h : CR a i v) : CI (zu σ a i v) := by
  refine ⟨fun b j => ?_, ?_⟩
  · by_cases e : b = a ∧ j = i
    · obtain ⟨rfl, rfl⟩ := e
      rw [zu_e rfl]; exact h
    · rw [show zu σ a i v b j = σ b j from if_neg e]; exact H.1 b j
  · unfold PG
    rw [zu_a (Ne.symm h1), zu_a (Ne.symm h1), zu_a (Ne.symm h2)]; exact H.2
theorem CI_zun {σ : zS} {a : Nat} {i v : Int} (H : CI σ) (h1 : a ≠ 129) (h2 : a ≠ 169) (h : rng a i = none) : CI (zu σ a i v) := CI_z H h1 h2 (fun lo hi e => by rw [h] at e; cases e)
theorem CI_zuy {σ : zS} {a : Nat} {i v lo hi : Int} (H : CI σ) (h1 : a ≠ 129) (h2 : a ≠ 169) (h : rng a i = some (lo, hi)) (k1 : lo ≤ v) (k2 : v ≤ hi) : CI (zu σ a i v) := CI_z H h1 h2 (fun l2 h2 e => by
  rw [h] at e
  cases e
  exact ⟨k1, k2⟩)
theorem zcp_a {σ : zS} {a b c : Nat} {sp dp n j : Int} (h : c ≠ b) : zcp σ a sp b dp n c j = σ c j := if_neg (fun e => h e.1)
theorem CI_zcpy {σ : zS} {a b : Nat} {sp dp n : Int} (H : CI σ) (h1 : b ≠ 129) (h2 : b ≠ 169) (h : ∀ j k v, CR a k v → CR b j v) : CI (zcp σ a sp b dp n) := by
  refine ⟨fun c j => ?_, ?_⟩
  · by_cases e : c = b ∧ dp ≤ j ∧ j < dp + n
    · rw [show zcp σ a sp b dp n c j = σ a (sp + (j - dp)) from if_pos e]
      rw [e.1]
      exact h j _ _ (H.1 a _)
    · rw [show zcp σ a sp b dp n c j = σ c j from if_neg e]; exact H.1 c j
  · unfold PG
    rw [zcp_a (Ne.symm h1), zcp_a (Ne.symm h1), zcp_a (Ne.symm h2)]; exact H.2
theorem CI_zcpn {σ : zS} {a b : Nat} {sp dp n : Int} (H : CI σ) (h1 : b ≠ 129) (h2 : b ≠ 169) (h : ∀ j, rng b j = none) : CI (zcp σ a sp b dp n) := CI_zcpy H h1 h2 (fun j k v _ lo hi e => by rw [h j] at e; cases e)
theorem rng_row {a : Nat} {j : Int} (h : 136 ≤ a ∧ a ≤ 141) : rng a j = none := by
  unfold rng
  rw [if_neg (by omega)]
  rw [if_neg (by omega)]
  rw [if_neg (by omega)]
  rw [if_neg (by omega)]
  rw [if_neg (by omega)]
  rw [if_neg (by omega)]
  rw [if_neg (by omega)]
  rw [if_neg (by omega)]
  rw [if_neg (by omega)]
  rw [if_neg (by omega)]
  rw [if_neg (by omega)]
  rw [if_neg (by omega)]
  rw [if_neg (by omega)]
theorem row_mem {a : Nat} (h : 136 ≤ a ∧ a ≤ 141) : (decide (136 ≤ a) && decide (a ≤ 141)) = true := by
  rw [decide_eq_true h.1, decide_eq_true h.2]; rfl
theorem bl {x y : Bool} (h : x = true) : (x || y) = true := by rw [h]; rfl
theorem br {x y : Bool} (h : y = true) : (x || y) = true := by rw [h]; cases x <;> rfl
theorem ffl {x y : Bool} (h : (x || y) = false) : x = false := by cases x <;> first | rfl | cases h
theorem ffr {x y : Bool} (h : (x || y) = false) : y = false := by cases x <;> first | exact h | cases h
theorem zbb (a : Nat) (j : Int) : (a == a && j == j) = true := by
  rw [beq_self_eq_true, beq_self_eq_true]; rfl
/-- the reference's cells and all that F does not name are as they were -/
def fr (F : Nat → Int → Bool) (σ s : zS) : Prop := ∀ a j, ((143 ≤ a ∧ a < 168) ∨ F a j = false) → s a j = σ a j
theorem fr.refl {F : Nat → Int → Bool} (σ : zS) : fr F σ σ := fun _ _ _ => rfl
theorem fr.trans {F : Nat → Int → Bool} {σ s t : zS} (h1 : fr F σ s) (h2 : fr F s t) : fr F σ t := fun a j k => (h2 a j k).trans (h1 a j k)
theorem fr.mono {F G : Nat → Int → Bool} {σ s : zS} (h : fr G σ s) (m : ∀ a j, F a j = false → G a j = false) : fr F σ s := fun a j k => h a j (k.imp id (m a j))
theorem fr.zu {F : Nat → Int → Bool} {σ p : zS} {a : Nat} {i v : Int} (h : fr F σ p) (ha : a < 143 ∨ 168 ≤ a) (hm : F a i = true) : fr F σ (zu p a i v) := fun b j k => by
  by_cases e : b = a ∧ j = i
  · obtain ⟨rfl, rfl⟩ := e
    rcases k with k | k
    · omega
    · rw [hm] at k; cases k
  · exact (zu_c (by omega)).trans (h b j k)
theorem fr.zcp {F : Nat → Int → Bool} {σ p : zS} {a b : Nat} {sp dp n : Int} (h : fr F σ p) (hb : b < 143 ∨ 168 ≤ b) (hm : ∀ j, F b j = true) : fr F σ (zcp p a sp b dp n) := fun c j k => by
  by_cases e : c = b
  · subst e
    rcases k with k | k
    · omega
    · rw [hm j] at k; cases k
  · rw [zcp_a e]; exact h c j k
theorem iAnd_bd {x : Int} {m : Nat} (hm : m < 2147483648) : 0 ≤ iAnd x (m : Int) ∧ iAnd x (m : Int) ≤ (m : Int) := by
  unfold iAnd
  have h : (Int32.ofInt x &&& Int32.ofInt (m : Int)).toBitVec.toNat ≤ m := by
    rw [Int32.toBitVec_and, BitVec.toNat_and]
    refine Nat.le_trans Nat.and_le_right ?_
    rw [Int32.toBitVec_ofInt, BitVec.toNat_ofInt]
    omega
  have h2 : (Int32.ofInt x &&& Int32.ofInt (m : Int)).toInt = ((Int32.ofInt x &&& Int32.ofInt (m : Int)).toBitVec.toNat : Int) := by
    show (Int32.ofInt x &&& Int32.ofInt (m : Int)).toBitVec.toInt = _
    rw [BitVec.toInt_eq_toNat_of_lt (by omega)]
  rw [h2]
  omega
theorem iAnd31 {x : Int} : 0 ≤ iAnd x 31 ∧ iAnd x 31 ≤ 31 := iAnd_bd (m := 31) (by decide)
theorem orf {x y : Bool} (h1 : x = false) (h2 : y = false) : (x || y) = false := by rw [h1, h2]; rfl
theorem iAnd127 {x : Int} : 0 ≤ iAnd x 127 ∧ iAnd x 127 ≤ 127 := iAnd_bd (m := 127) (by decide)
theorem shl12 {x : Int} (h1 : 0 ≤ x) (h2 : x ≤ 12) : iShl 1 x ≤ 4096 := by
  obtain ⟨n, rfl⟩ : ∃ n : Nat, x = (n : Int) := ⟨x.toNat, by omega⟩
  have h : ∀ n : Fin 13, iShl 1 ((n.val : Nat) : Int) ≤ 4096 := by decide +kernel
  exact h ⟨n, by omega⟩
theorem g_b_x0_sp {x0 : Int} {σ : zS} : zOp (g_b_x0 x0 σ) σ (fun v => 0 ≤ v ∧ v ≤ 31) := ⟨_, rfl, iAnd31⟩
theorem g_b_x1_sp {x0 : Int} {σ : zS} : zOp (g_b_x1 x0 σ) σ (fun v => 0 ≤ v ∧ v ≤ 31) := ⟨_, rfl, iAnd31⟩
theorem g_b_y0_sp {x0 : Int} {σ : zS} : zOp (g_b_y0 x0 σ) σ (fun v => 0 ≤ v ∧ v ≤ 31) := ⟨_, rfl, iAnd31⟩
theorem g_b_y1_sp {x0 : Int} {σ : zS} : zOp (g_b_y1 x0 σ) σ (fun v => 0 ≤ v ∧ v ≤ 31) := ⟨_, rfl, iAnd31⟩
theorem g_jLong_bitCount_sp {y0 : Int} {σ : zS} : zOp (g_jLong_bitCount y0 σ) σ (fun v => 0 ≤ v ∧ v ≤ 127) := ⟨_, rfl, iAnd127⟩
theorem g_b_side_sp {x0 x1 : Int} {σ : zS} : zOp (g_b_side x0 x1 σ) σ (fun v => 0 ≤ v ∧ v ≤ 31) := ⟨_, rfl, iAnd31⟩
end
section
/-! 51.cls1 -/
/-! THE CLASS over the typed memory: each method answers, keeps the invariant, changes what fw_.. names (printed by wip/zv.py) -/
theorem g_b_isPlace_sp {x0 : Int} {x1 : Int} {σ : zS} : zOp (g_b_isPlace x0 x1 σ) σ (fun v => v ≠ 0 → 0 ≤ x0 ∧ x0 ≤ 31 ∧ 0 ≤ x1 ∧ x1 ≤ 31) := by
  unfold g_b_isPlace
  try dsimp +instances only
  refine zOp.ite (fun c_1 => ?_) (fun c_1 => ?_)
  ·
    try dsimp +instances only
    exact zOp.ret (by omega)
  ·
    try dsimp +instances only
    refine zOp.ite (fun c_2 => ?_) (fun c_2 => ?_)
    ·
      try dsimp +instances only
      exact zOp.ret (by omega)
    ·
      try dsimp +instances only
      refine zOp.ite (fun c_3 => ?_) (fun c_3 => ?_)
      ·
        try dsimp +instances only
        exact zOp.ret (by omega)
      ·
        try dsimp +instances only
        refine zOp.ite (fun c_4 => ?_) (fun c_4 => ?_)
        ·
          try dsimp +instances only
          exact zOp.ret (by omega)
        ·
          try dsimp +instances only
          exact zOp.ret (by omega)
theorem g_b_isBox_sp {x0 : Int} {x1 : Int} {x2 : Int} {x3 : Int} {σ : zS} : zOp (g_b_isBox x0 x1 x2 x3 σ) σ (fun v => True) := by
  unfold g_b_isBox
  try dsimp +instances only
  refine zOp.bindp (g_b_isPlace_sp) (fun r_2 p_2 => ?_)
  try dsimp +instances only
  refine zOp.ite (fun c_2 => ?_) (fun c_2 => ?_)
  ·
    try dsimp +instances only
    exact zOp.ret trivial
  ·
    try dsimp +instances only
    refine zOp.bindp (g_b_isPlace_sp) (fun r_10 p_10 => ?_)
    try dsimp +instances only
    refine zOp.ite (fun c_4 => ?_) (fun c_4 => ?_)
    ·
      try dsimp +instances only
      exact zOp.ret trivial
    ·
      try dsimp +instances only
      refine zOp.ite (fun c_5 => ?_) (fun c_5 => ?_)
      ·
        try dsimp +instances only
        exact zOp.ret trivial
      ·
        try dsimp +instances only
        refine zOp.ite (fun c_6 => ?_) (fun c_6 => ?_)
        ·
          try dsimp +instances only
          exact zOp.ret trivial
        ·
          try dsimp +instances only
          exact zOp.ret trivial
theorem g_b_of_sp {x0 : Int} {x1 : Int} {x2 : Int} {x3 : Int} {σ : zS} : zOp (g_b_of x0 x1 x2 x3 σ) σ (fun v => True) := by
  unfold g_b_of
  try dsimp +instances only
  exact zOp.ret trivial
theorem g_b_area_sp {x0 : Int} {σ : zS} : zOp (g_b_area x0 σ) σ (fun v => True) := by
  unfold g_b_area
  try dsimp +instances only
  refine zOp.bindp (g_b_x1_sp) (fun r_1 p_1 => ?_)
  try dsimp +instances only
  refine zOp.bindp (g_b_x0_sp) (fun r_5 p_5 => ?_)
  try dsimp +instances only
  refine zOp.bindp (g_b_y1_sp) (fun r_12 p_12 => ?_)
  try dsimp +instances only
  refine zOp.bindp (g_b_y0_sp) (fun r_16 p_16 => ?_)
  try dsimp +instances only
  try have ew_5 := w32_id (x := r_1 - r_5) (by omega) (by omega)
  try have ew_6 := w32_id (x := r_12 - r_16) (by omega) (by omega)
  try have ew_7 := w32_id (x := (w32 (r_1 - r_5)) + 1) (by omega) (by omega)
  try have ew_8 := w32_id (x := (w32 (r_12 - r_16)) + 1) (by omega) (by omega)
  try have ew_9 := w32_id (x := (w32 ((w32 (r_1 - r_5)) + 1)) * (w32 ((w32 (r_12 - r_16)) + 1))) (by omega) (by omega)
  exact zOp.ret trivial
theorem g_b_meet_sp {x0 : Int} {x1 : Int} {σ : zS} : zOp (g_b_meet x0 x1 σ) σ (fun v => True) := by
  unfold g_b_meet
  try dsimp +instances only
  refine zOp.ite (fun c_1 => ?_) (fun c_1 => ?_)
  ·
    try dsimp +instances only
    exact zOp.ret trivial
  ·
    try dsimp +instances only
    refine zOp.ite (fun c_2 => ?_) (fun c_2 => ?_)
    ·
      try dsimp +instances only
      exact zOp.ret trivial
    ·
      try dsimp +instances only
      refine zOp.bindp (g_b_x0_sp) (fun r_11 p_11 => ?_)
      try dsimp +instances only
      refine zOp.bindp (g_b_x1_sp) (fun r_15 p_15 => ?_)
      try dsimp +instances only
      refine zOp.ite (fun c_5 => ?_) (fun c_5 => ?_)
      ·
        try dsimp +instances only
        exact zOp.ret trivial
      ·
        try dsimp +instances only
        refine zOp.bindp (g_b_x0_sp) (fun r_22 p_22 => ?_)
        try dsimp +instances only
        refine zOp.bindp (g_b_x1_sp) (fun r_26 p_26 => ?_)
        try dsimp +instances only
        refine zOp.ite (fun c_8 => ?_) (fun c_8 => ?_)
        ·
          try dsimp +instances only
          exact zOp.ret trivial
        ·
          try dsimp +instances only
          refine zOp.bindp (g_b_y0_sp) (fun r_33 p_33 => ?_)
          try dsimp +instances only
          refine zOp.bindp (g_b_y1_sp) (fun r_37 p_37 => ?_)
          try dsimp +instances only
          refine zOp.ite (fun c_11 => ?_) (fun c_11 => ?_)
          ·
            try dsimp +instances only
            exact zOp.ret trivial
          ·
            try dsimp +instances only
            refine zOp.bindp (g_b_y0_sp) (fun r_44 p_44 => ?_)
            try dsimp +instances only
            refine zOp.bindp (g_b_y1_sp) (fun r_48 p_48 => ?_)
            try dsimp +instances only
            refine zOp.ite (fun c_14 => ?_) (fun c_14 => ?_)
            ·
              try dsimp +instances only
              exact zOp.ret trivial
            ·
              try dsimp +instances only
              exact zOp.ret trivial
theorem g_jMath_max_289_sp {x0 : Int} {x1 : Int} {σ : zS} : zOp (g_jMath_max_289 x0 x1 σ) σ (fun v => x0 ≤ v ∧ x1 ≤ v ∧ (v = x0 ∨ v = x1)) := by
  unfold g_jMath_max_289
  try dsimp +instances only
  refine zOp.ite (fun c_1 => ?_) (fun c_1 => ?_)
  ·
    try dsimp +instances only
    exact zOp.ret (by omega)
  ·
    try dsimp +instances only
    exact zOp.ret (by omega)
theorem g_jMath_min_291_sp {x0 : Int} {x1 : Int} {σ : zS} : zOp (g_jMath_min_291 x0 x1 σ) σ (fun v => v ≤ x0 ∧ v ≤ x1 ∧ (v = x0 ∨ v = x1)) := by
  unfold g_jMath_min_291
  try dsimp +instances only
  refine zOp.ite (fun c_1 => ?_) (fun c_1 => ?_)
  ·
    try dsimp +instances only
    exact zOp.ret (by omega)
  ·
    try dsimp +instances only
    exact zOp.ret (by omega)
theorem g_b_common_sp {x0 : Int} {x1 : Int} {σ : zS} : zOp (g_b_common x0 x1 σ) σ (fun v => True) := by
  unfold g_b_common
  try dsimp +instances only
  refine zOp.bindp (g_b_meet_sp) (fun r_2 p_2 => ?_)
  try dsimp +instances only
  refine zOp.ite (fun c_2 => ?_) (fun c_2 => ?_)
  ·
    try dsimp +instances only
    refine zOp.bindp (g_b_x0_sp) (fun r_11 p_11 => ?_)
    try dsimp +instances only
    refine zOp.bindp (g_b_x0_sp) (fun r_15 p_15 => ?_)
    try dsimp +instances only
    refine zOp.bindp (g_jMath_max_289_sp) (fun r_18 p_18 => ?_)
    try dsimp +instances only
    refine zOp.bindp (g_b_x1_sp) (fun r_22 p_22 => ?_)
    try dsimp +instances only
    refine zOp.bindp (g_b_x1_sp) (fun r_26 p_26 => ?_)
    try dsimp +instances only
    refine zOp.bindp (g_jMath_min_291_sp) (fun r_29 p_29 => ?_)
    try dsimp +instances only
    refine zOp.bindp (g_b_y0_sp) (fun r_33 p_33 => ?_)
    try dsimp +instances only
    refine zOp.bindp (g_b_y0_sp) (fun r_37 p_37 => ?_)
    try dsimp +instances only
    refine zOp.bindp (g_jMath_max_289_sp) (fun r_40 p_40 => ?_)
    try dsimp +instances only
    refine zOp.bindp (g_b_y1_sp) (fun r_44 p_44 => ?_)
    try dsimp +instances only
    refine zOp.bindp (g_b_y1_sp) (fun r_48 p_48 => ?_)
    try dsimp +instances only
    refine zOp.bindp (g_jMath_min_291_sp) (fun r_51 p_51 => ?_)
    try dsimp +instances only
    refine zOp.bindp (g_b_of_sp) (fun r_54 p_54 => ?_)
    try dsimp +instances only
    exact zOp.ret trivial
  ·
    try dsimp +instances only
    exact zOp.ret trivial
theorem g_b_around_sp {x0 : Int} {x1 : Int} {σ : zS} : zOp (g_b_around x0 x1 σ) σ (fun v => True) := by
  unfold g_b_around
  try dsimp +instances only
  refine zOp.ite (fun c_1 => ?_) (fun c_1 => ?_)
  ·
    try dsimp +instances only
    refine zOp.ite (fun c_2 => ?_) (fun c_2 => ?_)
    ·
      try dsimp +instances only
      refine zOp.bindp (g_b_x0_sp) (fun r_15 p_15 => ?_)
      try dsimp +instances only
      refine zOp.bindp (g_b_x0_sp) (fun r_19 p_19 => ?_)
      try dsimp +instances only
      refine zOp.bindp (g_jMath_min_291_sp) (fun r_22 p_22 => ?_)
      try dsimp +instances only
      refine zOp.bindp (g_b_x1_sp) (fun r_26 p_26 => ?_)
      try dsimp +instances only
      refine zOp.bindp (g_b_x1_sp) (fun r_30 p_30 => ?_)
      try dsimp +instances only
      refine zOp.bindp (g_jMath_max_289_sp) (fun r_33 p_33 => ?_)
      try dsimp +instances only
      refine zOp.bindp (g_b_y0_sp) (fun r_37 p_37 => ?_)
      try dsimp +instances only
      refine zOp.bindp (g_b_y0_sp) (fun r_41 p_41 => ?_)
      try dsimp +instances only
      refine zOp.bindp (g_jMath_min_291_sp) (fun r_44 p_44 => ?_)
      try dsimp +instances only
      refine zOp.bindp (g_b_y1_sp) (fun r_48 p_48 => ?_)
      try dsimp +instances only
      refine zOp.bindp (g_b_y1_sp) (fun r_52 p_52 => ?_)
      try dsimp +instances only
      refine zOp.bindp (g_jMath_max_289_sp) (fun r_55 p_55 => ?_)
      try dsimp +instances only
      refine zOp.bindp (g_b_of_sp) (fun r_58 p_58 => ?_)
      try dsimp +instances only
      exact zOp.ret trivial
    ·
      try dsimp +instances only
      exact zOp.ret trivial
  ·
    try dsimp +instances only
    exact zOp.ret trivial
theorem g_b_join_sp {x0 : Int} {x1 : Int} {σ : zS} : zOp (g_b_join x0 x1 σ) σ (fun v => True) := by
  unfold g_b_join
  try dsimp +instances only
  refine zOp.bindp (g_b_x1_sp) (fun r_1 p_1 => ?_)
  try dsimp +instances only
  refine zOp.bindp (g_b_x0_sp) (fun r_7 p_7 => ?_)
  try dsimp +instances only
  try have ew_3 := w32_id (x := r_1 + 1) (by omega) (by omega)
  refine zOp.ite (fun c_4 => ?_) (fun c_4 => ?_)
  ·
    try dsimp +instances only
    unfold g_b_join_L26
    try dsimp +instances only
    unfold g_b_join_L31
    try dsimp +instances only
    refine zOp.bindp (g_b_y1_sp) (fun r_33 p_33 => ?_)
    try dsimp +instances only
    refine zOp.bindp (g_b_y0_sp) (fun r_39 p_39 => ?_)
    try dsimp +instances only
    try have ew_7 := w32_id (x := r_33 + 1) (by omega) (by omega)
    refine zOp.ite (fun c_8 => ?_) (fun c_8 => ?_)
    ·
      try dsimp +instances only
      unfold g_b_join_L58
      try dsimp +instances only
      unfold g_b_join_L63
      try dsimp +instances only
      refine zOp.ite (fun c_9 => ?_) (fun c_9 => ?_)
      ·
        try dsimp +instances only
        unfold g_b_join_L82
        try dsimp +instances only
        refine zOp.ite (fun c_10 => ?_) (fun c_10 => ?_)
        ·
          try dsimp +instances only
          unfold g_b_join_L100
          try dsimp +instances only
          refine zOp.ite (fun c_11 => ?_) (fun c_11 => ?_)
          ·
            try dsimp +instances only
            unfold g_b_join_L111
            try dsimp +instances only
            refine zOp.ite (fun c_12 => ?_) (fun c_12 => ?_)
            ·
              try dsimp +instances only
              exact zOp.ret trivial
            ·
              try dsimp +instances only
              refine zOp.ite (fun c_13 => ?_) (fun c_13 => ?_)
              ·
                try dsimp +instances only
                exact zOp.ret trivial
              ·
                try dsimp +instances only
                exact zOp.ret trivial
          ·
            try dsimp +instances only
            refine zOp.ite (fun c_14 => ?_) (fun c_14 => ?_)
            ·
              try dsimp +instances only
              exact zOp.ret trivial
            ·
              try dsimp +instances only
              unfold g_b_join_L111
              try dsimp +instances only
              refine zOp.ite (fun c_15 => ?_) (fun c_15 => ?_)
              ·
                try dsimp +instances only
                exact zOp.ret trivial
              ·
                try dsimp +instances only
                refine zOp.ite (fun c_16 => ?_) (fun c_16 => ?_)
                ·
                  try dsimp +instances only
                  exact zOp.ret trivial
                ·
                  try dsimp +instances only
                  exact zOp.ret trivial
        ·
          try dsimp +instances only
          unfold g_b_join_L100
          try dsimp +instances only
          refine zOp.ite (fun c_17 => ?_) (fun c_17 => ?_)
          ·
            try dsimp +instances only
            unfold g_b_join_L111
            try dsimp +instances only
            refine zOp.ite (fun c_18 => ?_) (fun c_18 => ?_)
            ·
              try dsimp +instances only
              exact zOp.ret trivial
            ·
              try dsimp +instances only
              refine zOp.ite (fun c_19 => ?_) (fun c_19 => ?_)
              ·
                try dsimp +instances only
                exact zOp.ret trivial
              ·
                try dsimp +instances only
                exact zOp.ret trivial
          ·
            try dsimp +instances only
            refine zOp.ite (fun c_20 => ?_) (fun c_20 => ?_)
            ·
              try dsimp +instances only
              exact zOp.ret trivial
            ·
              try dsimp +instances only
              unfold g_b_join_L111
              try dsimp +instances only
              refine zOp.ite (fun c_21 => ?_) (fun c_21 => ?_)
              ·
                try dsimp +instances only
                exact zOp.ret trivial
              ·
                try dsimp +instances only
                refine zOp.ite (fun c_22 => ?_) (fun c_22 => ?_)
                ·
                  try dsimp +instances only
                  exact zOp.ret trivial
                ·
                  try dsimp +instances only
                  exact zOp.ret trivial
      ·
        try dsimp +instances only
        unfold g_b_join_L82
        try dsimp +instances only
        refine zOp.ite (fun c_23 => ?_) (fun c_23 => ?_)
        ·
          try dsimp +instances only
          unfold g_b_join_L100
          try dsimp +instances only
          refine zOp.ite (fun c_24 => ?_) (fun c_24 => ?_)
          ·
            try dsimp +instances only
            unfold g_b_join_L111
            try dsimp +instances only
            refine zOp.ite (fun c_25 => ?_) (fun c_25 => ?_)
            ·
              try dsimp +instances only
              exact zOp.ret trivial
            ·
              try dsimp +instances only
              refine zOp.ite (fun c_26 => ?_) (fun c_26 => ?_)
              ·
                try dsimp +instances only
                exact zOp.ret trivial
              ·
                try dsimp +instances only
                exact zOp.ret trivial
          ·
            try dsimp +instances only
            refine zOp.ite (fun c_27 => ?_) (fun c_27 => ?_)
            ·
              try dsimp +instances only
              exact zOp.ret trivial
            ·
              try dsimp +instances only
              unfold g_b_join_L111
              try dsimp +instances only
              refine zOp.ite (fun c_28 => ?_) (fun c_28 => ?_)
              ·
                try dsimp +instances only
                exact zOp.ret trivial
              ·
                try dsimp +instances only
                refine zOp.ite (fun c_29 => ?_) (fun c_29 => ?_)
                ·
                  try dsimp +instances only
                  exact zOp.ret trivial
                ·
                  try dsimp +instances only
                  exact zOp.ret trivial
        ·
          try dsimp +instances only
          unfold g_b_join_L100
          try dsimp +instances only
          refine zOp.ite (fun c_30 => ?_) (fun c_30 => ?_)
          ·
            try dsimp +instances only
            unfold g_b_join_L111
            try dsimp +instances only
            refine zOp.ite (fun c_31 => ?_) (fun c_31 => ?_)
            ·
              try dsimp +instances only
              exact zOp.ret trivial
            ·
              try dsimp +instances only
              refine zOp.ite (fun c_32 => ?_) (fun c_32 => ?_)
              ·
                try dsimp +instances only
                exact zOp.ret trivial
              ·
                try dsimp +instances only
                exact zOp.ret trivial
          ·
            try dsimp +instances only
            refine zOp.ite (fun c_33 => ?_) (fun c_33 => ?_)
            ·
              try dsimp +instances only
              exact zOp.ret trivial
            ·
              try dsimp +instances only
              unfold g_b_join_L111
              try dsimp +instances only
              refine zOp.ite (fun c_34 => ?_) (fun c_34 => ?_)
              ·
                try dsimp +instances only
                exact zOp.ret trivial
              ·
                try dsimp +instances only
                refine zOp.ite (fun c_35 => ?_) (fun c_35 => ?_)
                ·
                  try dsimp +instances only
                  exact zOp.ret trivial
                ·
                  try dsimp +instances only
                  exact zOp.ret trivial
    ·
      try dsimp +instances only
      refine zOp.bindp (g_b_y1_sp) (fun r_46 p_46 => ?_)
      try dsimp +instances only
      refine zOp.bindp (g_b_y0_sp) (fun r_52 p_52 => ?_)
      try dsimp +instances only
      try have ew_38 := w32_id (x := r_46 + 1) (by omega) (by omega)
      refine zOp.ite (fun c_39 => ?_) (fun c_39 => ?_)
      ·
        try dsimp +instances only
        unfold g_b_join_L63
        try dsimp +instances only
        refine zOp.ite (fun c_40 => ?_) (fun c_40 => ?_)
        ·
          try dsimp +instances only
          unfold g_b_join_L82
          try dsimp +instances only
          refine zOp.ite (fun c_41 => ?_) (fun c_41 => ?_)
          ·
            try dsimp +instances only
            unfold g_b_join_L100
            try dsimp +instances only
            refine zOp.ite (fun c_42 => ?_) (fun c_42 => ?_)
            ·
              try dsimp +instances only
              unfold g_b_join_L111
              try dsimp +instances only
              refine zOp.ite (fun c_43 => ?_) (fun c_43 => ?_)
              ·
                try dsimp +instances only
                exact zOp.ret trivial
              ·
                try dsimp +instances only
                refine zOp.ite (fun c_44 => ?_) (fun c_44 => ?_)
                ·
                  try dsimp +instances only
                  exact zOp.ret trivial
                ·
                  try dsimp +instances only
                  exact zOp.ret trivial
            ·
              try dsimp +instances only
              refine zOp.ite (fun c_45 => ?_) (fun c_45 => ?_)
              ·
                try dsimp +instances only
                exact zOp.ret trivial
              ·
                try dsimp +instances only
                unfold g_b_join_L111
                try dsimp +instances only
                refine zOp.ite (fun c_46 => ?_) (fun c_46 => ?_)
                ·
                  try dsimp +instances only
                  exact zOp.ret trivial
                ·
                  try dsimp +instances only
                  refine zOp.ite (fun c_47 => ?_) (fun c_47 => ?_)
                  ·
                    try dsimp +instances only
                    exact zOp.ret trivial
                  ·
                    try dsimp +instances only
                    exact zOp.ret trivial
          ·
            try dsimp +instances only
            unfold g_b_join_L100
            try dsimp +instances only
            refine zOp.ite (fun c_48 => ?_) (fun c_48 => ?_)
            ·
              try dsimp +instances only
              unfold g_b_join_L111
              try dsimp +instances only
              refine zOp.ite (fun c_49 => ?_) (fun c_49 => ?_)
              ·
                try dsimp +instances only
                exact zOp.ret trivial
              ·
                try dsimp +instances only
                refine zOp.ite (fun c_50 => ?_) (fun c_50 => ?_)
                ·
                  try dsimp +instances only
                  exact zOp.ret trivial
                ·
                  try dsimp +instances only
                  exact zOp.ret trivial
            ·
              try dsimp +instances only
              refine zOp.ite (fun c_51 => ?_) (fun c_51 => ?_)
              ·
                try dsimp +instances only
                exact zOp.ret trivial
              ·
                try dsimp +instances only
                unfold g_b_join_L111
                try dsimp +instances only
                refine zOp.ite (fun c_52 => ?_) (fun c_52 => ?_)
                ·
                  try dsimp +instances only
                  exact zOp.ret trivial
                ·
                  try dsimp +instances only
                  refine zOp.ite (fun c_53 => ?_) (fun c_53 => ?_)
                  ·
                    try dsimp +instances only
                    exact zOp.ret trivial
                  ·
                    try dsimp +instances only
                    exact zOp.ret trivial
        ·
          try dsimp +instances only
          unfold g_b_join_L82
          try dsimp +instances only
          refine zOp.ite (fun c_54 => ?_) (fun c_54 => ?_)
          ·
            try dsimp +instances only
            unfold g_b_join_L100
            try dsimp +instances only
            refine zOp.ite (fun c_55 => ?_) (fun c_55 => ?_)
            ·
              try dsimp +instances only
              unfold g_b_join_L111
              try dsimp +instances only
              refine zOp.ite (fun c_56 => ?_) (fun c_56 => ?_)
              ·
                try dsimp +instances only
                exact zOp.ret trivial
              ·
                try dsimp +instances only
                refine zOp.ite (fun c_57 => ?_) (fun c_57 => ?_)
                ·
                  try dsimp +instances only
                  exact zOp.ret trivial
                ·
                  try dsimp +instances only
                  exact zOp.ret trivial
            ·
              try dsimp +instances only
              refine zOp.ite (fun c_58 => ?_) (fun c_58 => ?_)
              ·
                try dsimp +instances only
                exact zOp.ret trivial
              ·
                try dsimp +instances only
                unfold g_b_join_L111
                try dsimp +instances only
                refine zOp.ite (fun c_59 => ?_) (fun c_59 => ?_)
                ·
                  try dsimp +instances only
                  exact zOp.ret trivial
                ·
                  try dsimp +instances only
                  refine zOp.ite (fun c_60 => ?_) (fun c_60 => ?_)
                  ·
                    try dsimp +instances only
                    exact zOp.ret trivial
                  ·
                    try dsimp +instances only
                    exact zOp.ret trivial
          ·
            try dsimp +instances only
            unfold g_b_join_L100
            try dsimp +instances only
            refine zOp.ite (fun c_61 => ?_) (fun c_61 => ?_)
            ·
              try dsimp +instances only
              unfold g_b_join_L111
              try dsimp +instances only
              refine zOp.ite (fun c_62 => ?_) (fun c_62 => ?_)
              ·
                try dsimp +instances only
                exact zOp.ret trivial
              ·
                try dsimp +instances only
                refine zOp.ite (fun c_63 => ?_) (fun c_63 => ?_)
                ·
                  try dsimp +instances only
                  exact zOp.ret trivial
                ·
                  try dsimp +instances only
                  exact zOp.ret trivial
            ·
              try dsimp +instances only
              refine zOp.ite (fun c_64 => ?_) (fun c_64 => ?_)
              ·
                try dsimp +instances only
                exact zOp.ret trivial
              ·
                try dsimp +instances only
                unfold g_b_join_L111
                try dsimp +instances only
                refine zOp.ite (fun c_65 => ?_) (fun c_65 => ?_)
                ·
                  try dsimp +instances only
                  exact zOp.ret trivial
                ·
                  try dsimp +instances only
                  refine zOp.ite (fun c_66 => ?_) (fun c_66 => ?_)
                  ·
                    try dsimp +instances only
                    exact zOp.ret trivial
                  ·
                    try dsimp +instances only
                    exact zOp.ret trivial
      ·
        try dsimp +instances only
        unfold g_b_join_L58
        try dsimp +instances only
        unfold g_b_join_L63
        try dsimp +instances only
        refine zOp.ite (fun c_67 => ?_) (fun c_67 => ?_)
        ·
          try dsimp +instances only
          unfold g_b_join_L82
          try dsimp +instances only
          refine zOp.ite (fun c_68 => ?_) (fun c_68 => ?_)
          ·
            try dsimp +instances only
            unfold g_b_join_L100
            try dsimp +instances only
            refine zOp.ite (fun c_69 => ?_) (fun c_69 => ?_)
            ·
              try dsimp +instances only
              unfold g_b_join_L111
              try dsimp +instances only
              refine zOp.ite (fun c_70 => ?_) (fun c_70 => ?_)
              ·
                try dsimp +instances only
                exact zOp.ret trivial
              ·
                try dsimp +instances only
                refine zOp.ite (fun c_71 => ?_) (fun c_71 => ?_)
                ·
                  try dsimp +instances only
                  exact zOp.ret trivial
                ·
                  try dsimp +instances only
                  exact zOp.ret trivial
            ·
              try dsimp +instances only
              refine zOp.ite (fun c_72 => ?_) (fun c_72 => ?_)
              ·
                try dsimp +instances only
                exact zOp.ret trivial
              ·
                try dsimp +instances only
                unfold g_b_join_L111
                try dsimp +instances only
                refine zOp.ite (fun c_73 => ?_) (fun c_73 => ?_)
                ·
                  try dsimp +instances only
                  exact zOp.ret trivial
                ·
                  try dsimp +instances only
                  refine zOp.ite (fun c_74 => ?_) (fun c_74 => ?_)
                  ·
                    try dsimp +instances only
                    exact zOp.ret trivial
                  ·
                    try dsimp +instances only
                    exact zOp.ret trivial
          ·
            try dsimp +instances only
            unfold g_b_join_L100
            try dsimp +instances only
            refine zOp.ite (fun c_75 => ?_) (fun c_75 => ?_)
            ·
              try dsimp +instances only
              unfold g_b_join_L111
              try dsimp +instances only
              refine zOp.ite (fun c_76 => ?_) (fun c_76 => ?_)
              ·
                try dsimp +instances only
                exact zOp.ret trivial
              ·
                try dsimp +instances only
                refine zOp.ite (fun c_77 => ?_) (fun c_77 => ?_)
                ·
                  try dsimp +instances only
                  exact zOp.ret trivial
                ·
                  try dsimp +instances only
                  exact zOp.ret trivial
            ·
              try dsimp +instances only
              refine zOp.ite (fun c_78 => ?_) (fun c_78 => ?_)
              ·
                try dsimp +instances only
                exact zOp.ret trivial
              ·
                try dsimp +instances only
                unfold g_b_join_L111
                try dsimp +instances only
                refine zOp.ite (fun c_79 => ?_) (fun c_79 => ?_)
                ·
                  try dsimp +instances only
                  exact zOp.ret trivial
                ·
                  try dsimp +instances only
                  refine zOp.ite (fun c_80 => ?_) (fun c_80 => ?_)
                  ·
                    try dsimp +instances only
                    exact zOp.ret trivial
                  ·
                    try dsimp +instances only
                    exact zOp.ret trivial
        ·
          try dsimp +instances only
          unfold g_b_join_L82
          try dsimp +instances only
          refine zOp.ite (fun c_81 => ?_) (fun c_81 => ?_)
          ·
            try dsimp +instances only
            unfold g_b_join_L100
            try dsimp +instances only
            refine zOp.ite (fun c_82 => ?_) (fun c_82 => ?_)
            ·
              try dsimp +instances only
              unfold g_b_join_L111
              try dsimp +instances only
              refine zOp.ite (fun c_83 => ?_) (fun c_83 => ?_)
              ·
                try dsimp +instances only
                exact zOp.ret trivial
              ·
                try dsimp +instances only
                refine zOp.ite (fun c_84 => ?_) (fun c_84 => ?_)
                ·
                  try dsimp +instances only
                  exact zOp.ret trivial
                ·
                  try dsimp +instances only
                  exact zOp.ret trivial
            ·
              try dsimp +instances only
              refine zOp.ite (fun c_85 => ?_) (fun c_85 => ?_)
              ·
                try dsimp +instances only
                exact zOp.ret trivial
              ·
                try dsimp +instances only
                unfold g_b_join_L111
                try dsimp +instances only
                refine zOp.ite (fun c_86 => ?_) (fun c_86 => ?_)
                ·
                  try dsimp +instances only
                  exact zOp.ret trivial
                ·
                  try dsimp +instances only
                  refine zOp.ite (fun c_87 => ?_) (fun c_87 => ?_)
                  ·
                    try dsimp +instances only
                    exact zOp.ret trivial
                  ·
                    try dsimp +instances only
                    exact zOp.ret trivial
          ·
            try dsimp +instances only
            unfold g_b_join_L100
            try dsimp +instances only
            refine zOp.ite (fun c_88 => ?_) (fun c_88 => ?_)
            ·
              try dsimp +instances only
              unfold g_b_join_L111
              try dsimp +instances only
              refine zOp.ite (fun c_89 => ?_) (fun c_89 => ?_)
              ·
                try dsimp +instances only
                exact zOp.ret trivial
              ·
                try dsimp +instances only
                refine zOp.ite (fun c_90 => ?_) (fun c_90 => ?_)
                ·
                  try dsimp +instances only
                  exact zOp.ret trivial
                ·
                  try dsimp +instances only
                  exact zOp.ret trivial
            ·
              try dsimp +instances only
              refine zOp.ite (fun c_91 => ?_) (fun c_91 => ?_)
              ·
                try dsimp +instances only
                exact zOp.ret trivial
              ·
                try dsimp +instances only
                unfold g_b_join_L111
                try dsimp +instances only
                refine zOp.ite (fun c_92 => ?_) (fun c_92 => ?_)
                ·
                  try dsimp +instances only
                  exact zOp.ret trivial
                ·
                  try dsimp +instances only
                  refine zOp.ite (fun c_93 => ?_) (fun c_93 => ?_)
                  ·
                    try dsimp +instances only
                    exact zOp.ret trivial
                  ·
                    try dsimp +instances only
                    exact zOp.ret trivial
  ·
    try dsimp +instances only
    refine zOp.bindp (g_b_x1_sp) (fun r_14 p_14 => ?_)
    try dsimp +instances only
    refine zOp.bindp (g_b_x0_sp) (fun r_20 p_20 => ?_)
    try dsimp +instances only
    try have ew_96 := w32_id (x := r_14 + 1) (by omega) (by omega)
    refine zOp.ite (fun c_97 => ?_) (fun c_97 => ?_)
    ·
      try dsimp +instances only
      unfold g_b_join_L31
      try dsimp +instances only
      refine zOp.bindp (g_b_y1_sp) (fun r_33 p_33 => ?_)
      try dsimp +instances only
      refine zOp.bindp (g_b_y0_sp) (fun r_39 p_39 => ?_)
      try dsimp +instances only
      try have ew_100 := w32_id (x := r_33 + 1) (by omega) (by omega)
      refine zOp.ite (fun c_101 => ?_) (fun c_101 => ?_)
      ·
        try dsimp +instances only
        unfold g_b_join_L58
        try dsimp +instances only
        unfold g_b_join_L63
        try dsimp +instances only
        refine zOp.ite (fun c_102 => ?_) (fun c_102 => ?_)
        ·
          try dsimp +instances only
          unfold g_b_join_L82
          try dsimp +instances only
          refine zOp.ite (fun c_103 => ?_) (fun c_103 => ?_)
          ·
            try dsimp +instances only
            unfold g_b_join_L100
            try dsimp +instances only
            refine zOp.ite (fun c_104 => ?_) (fun c_104 => ?_)
            ·
              try dsimp +instances only
              unfold g_b_join_L111
              try dsimp +instances only
              refine zOp.ite (fun c_105 => ?_) (fun c_105 => ?_)
              ·
                try dsimp +instances only
                exact zOp.ret trivial
              ·
                try dsimp +instances only
                refine zOp.ite (fun c_106 => ?_) (fun c_106 => ?_)
                ·
                  try dsimp +instances only
                  exact zOp.ret trivial
                ·
                  try dsimp +instances only
                  exact zOp.ret trivial
            ·
              try dsimp +instances only
              refine zOp.ite (fun c_107 => ?_) (fun c_107 => ?_)
              ·
                try dsimp +instances only
                exact zOp.ret trivial
              ·
                try dsimp +instances only
                unfold g_b_join_L111
                try dsimp +instances only
                refine zOp.ite (fun c_108 => ?_) (fun c_108 => ?_)
                ·
                  try dsimp +instances only
                  exact zOp.ret trivial
                ·
                  try dsimp +instances only
                  refine zOp.ite (fun c_109 => ?_) (fun c_109 => ?_)
                  ·
                    try dsimp +instances only
                    exact zOp.ret trivial
                  ·
                    try dsimp +instances only
                    exact zOp.ret trivial
          ·
            try dsimp +instances only
            unfold g_b_join_L100
            try dsimp +instances only
            refine zOp.ite (fun c_110 => ?_) (fun c_110 => ?_)
            ·
              try dsimp +instances only
              unfold g_b_join_L111
              try dsimp +instances only
              refine zOp.ite (fun c_111 => ?_) (fun c_111 => ?_)
              ·
                try dsimp +instances only
                exact zOp.ret trivial
              ·
                try dsimp +instances only
                refine zOp.ite (fun c_112 => ?_) (fun c_112 => ?_)
                ·
                  try dsimp +instances only
                  exact zOp.ret trivial
                ·
                  try dsimp +instances only
                  exact zOp.ret trivial
            ·
              try dsimp +instances only
              refine zOp.ite (fun c_113 => ?_) (fun c_113 => ?_)
              ·
                try dsimp +instances only
                exact zOp.ret trivial
              ·
                try dsimp +instances only
                unfold g_b_join_L111
                try dsimp +instances only
                refine zOp.ite (fun c_114 => ?_) (fun c_114 => ?_)
                ·
                  try dsimp +instances only
                  exact zOp.ret trivial
                ·
                  try dsimp +instances only
                  refine zOp.ite (fun c_115 => ?_) (fun c_115 => ?_)
                  ·
                    try dsimp +instances only
                    exact zOp.ret trivial
                  ·
                    try dsimp +instances only
                    exact zOp.ret trivial
        ·
          try dsimp +instances only
          unfold g_b_join_L82
          try dsimp +instances only
          refine zOp.ite (fun c_116 => ?_) (fun c_116 => ?_)
          ·
            try dsimp +instances only
            unfold g_b_join_L100
            try dsimp +instances only
            refine zOp.ite (fun c_117 => ?_) (fun c_117 => ?_)
            ·
              try dsimp +instances only
              unfold g_b_join_L111
              try dsimp +instances only
              refine zOp.ite (fun c_118 => ?_) (fun c_118 => ?_)
              ·
                try dsimp +instances only
                exact zOp.ret trivial
              ·
                try dsimp +instances only
                refine zOp.ite (fun c_119 => ?_) (fun c_119 => ?_)
                ·
                  try dsimp +instances only
                  exact zOp.ret trivial
                ·
                  try dsimp +instances only
                  exact zOp.ret trivial
            ·
              try dsimp +instances only
              refine zOp.ite (fun c_120 => ?_) (fun c_120 => ?_)
              ·
                try dsimp +instances only
                exact zOp.ret trivial
              ·
                try dsimp +instances only
                unfold g_b_join_L111
                try dsimp +instances only
                refine zOp.ite (fun c_121 => ?_) (fun c_121 => ?_)
                ·
                  try dsimp +instances only
                  exact zOp.ret trivial
                ·
                  try dsimp +instances only
                  refine zOp.ite (fun c_122 => ?_) (fun c_122 => ?_)
                  ·
                    try dsimp +instances only
                    exact zOp.ret trivial
                  ·
                    try dsimp +instances only
                    exact zOp.ret trivial
          ·
            try dsimp +instances only
            unfold g_b_join_L100
            try dsimp +instances only
            refine zOp.ite (fun c_123 => ?_) (fun c_123 => ?_)
            ·
              try dsimp +instances only
              unfold g_b_join_L111
              try dsimp +instances only
              refine zOp.ite (fun c_124 => ?_) (fun c_124 => ?_)
              ·
                try dsimp +instances only
                exact zOp.ret trivial
              ·
                try dsimp +instances only
                refine zOp.ite (fun c_125 => ?_) (fun c_125 => ?_)
                ·
                  try dsimp +instances only
                  exact zOp.ret trivial
                ·
                  try dsimp +instances only
                  exact zOp.ret trivial
            ·
              try dsimp +instances only
              refine zOp.ite (fun c_126 => ?_) (fun c_126 => ?_)
              ·
                try dsimp +instances only
                exact zOp.ret trivial
              ·
                try dsimp +instances only
                unfold g_b_join_L111
                try dsimp +instances only
                refine zOp.ite (fun c_127 => ?_) (fun c_127 => ?_)
                ·
                  try dsimp +instances only
                  exact zOp.ret trivial
                ·
                  try dsimp +instances only
                  refine zOp.ite (fun c_128 => ?_) (fun c_128 => ?_)
                  ·
                    try dsimp +instances only
                    exact zOp.ret trivial
                  ·
                    try dsimp +instances only
                    exact zOp.ret trivial
      ·
        try dsimp +instances only
        refine zOp.bindp (g_b_y1_sp) (fun r_46 p_46 => ?_)
        try dsimp +instances only
        refine zOp.bindp (g_b_y0_sp) (fun r_52 p_52 => ?_)
        try dsimp +instances only
        try have ew_131 := w32_id (x := r_46 + 1) (by omega) (by omega)
        refine zOp.ite (fun c_132 => ?_) (fun c_132 => ?_)
        ·
          try dsimp +instances only
          unfold g_b_join_L63
          try dsimp +instances only
          refine zOp.ite (fun c_133 => ?_) (fun c_133 => ?_)
          ·
            try dsimp +instances only
            unfold g_b_join_L82
            try dsimp +instances only
            refine zOp.ite (fun c_134 => ?_) (fun c_134 => ?_)
            ·
              try dsimp +instances only
              unfold g_b_join_L100
              try dsimp +instances only
              refine zOp.ite (fun c_135 => ?_) (fun c_135 => ?_)
              ·
                try dsimp +instances only
                unfold g_b_join_L111
                try dsimp +instances only
                refine zOp.ite (fun c_136 => ?_) (fun c_136 => ?_)
                ·
                  try dsimp +instances only
                  exact zOp.ret trivial
                ·
                  try dsimp +instances only
                  refine zOp.ite (fun c_137 => ?_) (fun c_137 => ?_)
                  ·
                    try dsimp +instances only
                    exact zOp.ret trivial
                  ·
                    try dsimp +instances only
                    exact zOp.ret trivial
              ·
                try dsimp +instances only
                refine zOp.ite (fun c_138 => ?_) (fun c_138 => ?_)
                ·
                  try dsimp +instances only
                  exact zOp.ret trivial
                ·
                  try dsimp +instances only
                  unfold g_b_join_L111
                  try dsimp +instances only
                  refine zOp.ite (fun c_139 => ?_) (fun c_139 => ?_)
                  ·
                    try dsimp +instances only
                    exact zOp.ret trivial
                  ·
                    try dsimp +instances only
                    refine zOp.ite (fun c_140 => ?_) (fun c_140 => ?_)
                    ·
                      try dsimp +instances only
                      exact zOp.ret trivial
                    ·
                      try dsimp +instances only
                      exact zOp.ret trivial
            ·
              try dsimp +instances only
              unfold g_b_join_L100
              try dsimp +instances only
              refine zOp.ite (fun c_141 => ?_) (fun c_141 => ?_)
              ·
                try dsimp +instances only
                unfold g_b_join_L111
                try dsimp +instances only
                refine zOp.ite (fun c_142 => ?_) (fun c_142 => ?_)
                ·
                  try dsimp +instances only
                  exact zOp.ret trivial
                ·
                  try dsimp +instances only
                  refine zOp.ite (fun c_143 => ?_) (fun c_143 => ?_)
                  ·
                    try dsimp +instances only
                    exact zOp.ret trivial
                  ·
                    try dsimp +instances only
                    exact zOp.ret trivial
              ·
                try dsimp +instances only
                refine zOp.ite (fun c_144 => ?_) (fun c_144 => ?_)
                ·
                  try dsimp +instances only
                  exact zOp.ret trivial
                ·
                  try dsimp +instances only
                  unfold g_b_join_L111
                  try dsimp +instances only
                  refine zOp.ite (fun c_145 => ?_) (fun c_145 => ?_)
                  ·
                    try dsimp +instances only
                    exact zOp.ret trivial
                  ·
                    try dsimp +instances only
                    refine zOp.ite (fun c_146 => ?_) (fun c_146 => ?_)
                    ·
                      try dsimp +instances only
                      exact zOp.ret trivial
                    ·
                      try dsimp +instances only
                      exact zOp.ret trivial
          ·
            try dsimp +instances only
            unfold g_b_join_L82
            try dsimp +instances only
            refine zOp.ite (fun c_147 => ?_) (fun c_147 => ?_)
            ·
              try dsimp +instances only
              unfold g_b_join_L100
              try dsimp +instances only
              refine zOp.ite (fun c_148 => ?_) (fun c_148 => ?_)
              ·
                try dsimp +instances only
                unfold g_b_join_L111
                try dsimp +instances only
                refine zOp.ite (fun c_149 => ?_) (fun c_149 => ?_)
                ·
                  try dsimp +instances only
                  exact zOp.ret trivial
                ·
                  try dsimp +instances only
                  refine zOp.ite (fun c_150 => ?_) (fun c_150 => ?_)
                  ·
                    try dsimp +instances only
                    exact zOp.ret trivial
                  ·
                    try dsimp +instances only
                    exact zOp.ret trivial
              ·
                try dsimp +instances only
                refine zOp.ite (fun c_151 => ?_) (fun c_151 => ?_)
                ·
                  try dsimp +instances only
                  exact zOp.ret trivial
                ·
                  try dsimp +instances only
                  unfold g_b_join_L111
                  try dsimp +instances only
                  refine zOp.ite (fun c_152 => ?_) (fun c_152 => ?_)
                  ·
                    try dsimp +instances only
                    exact zOp.ret trivial
                  ·
                    try dsimp +instances only
                    refine zOp.ite (fun c_153 => ?_) (fun c_153 => ?_)
                    ·
                      try dsimp +instances only
                      exact zOp.ret trivial
                    ·
                      try dsimp +instances only
                      exact zOp.ret trivial
            ·
              try dsimp +instances only
              unfold g_b_join_L100
              try dsimp +instances only
              refine zOp.ite (fun c_154 => ?_) (fun c_154 => ?_)
              ·
                try dsimp +instances only
                unfold g_b_join_L111
                try dsimp +instances only
                refine zOp.ite (fun c_155 => ?_) (fun c_155 => ?_)
                ·
                  try dsimp +instances only
                  exact zOp.ret trivial
                ·
                  try dsimp +instances only
                  refine zOp.ite (fun c_156 => ?_) (fun c_156 => ?_)
                  ·
                    try dsimp +instances only
                    exact zOp.ret trivial
                  ·
                    try dsimp +instances only
                    exact zOp.ret trivial
              ·
                try dsimp +instances only
                refine zOp.ite (fun c_157 => ?_) (fun c_157 => ?_)
                ·
                  try dsimp +instances only
                  exact zOp.ret trivial
                ·
                  try dsimp +instances only
                  unfold g_b_join_L111
                  try dsimp +instances only
                  refine zOp.ite (fun c_158 => ?_) (fun c_158 => ?_)
                  ·
                    try dsimp +instances only
                    exact zOp.ret trivial
                  ·
                    try dsimp +instances only
                    refine zOp.ite (fun c_159 => ?_) (fun c_159 => ?_)
                    ·
                      try dsimp +instances only
                      exact zOp.ret trivial
                    ·
                      try dsimp +instances only
                      exact zOp.ret trivial
        ·
          try dsimp +instances only
          unfold g_b_join_L58
          try dsimp +instances only
          unfold g_b_join_L63
          try dsimp +instances only
          refine zOp.ite (fun c_160 => ?_) (fun c_160 => ?_)
          ·
            try dsimp +instances only
            unfold g_b_join_L82
            try dsimp +instances only
            refine zOp.ite (fun c_161 => ?_) (fun c_161 => ?_)
            ·
              try dsimp +instances only
              unfold g_b_join_L100
              try dsimp +instances only
              refine zOp.ite (fun c_162 => ?_) (fun c_162 => ?_)
              ·
                try dsimp +instances only
                unfold g_b_join_L111
                try dsimp +instances only
                refine zOp.ite (fun c_163 => ?_) (fun c_163 => ?_)
                ·
                  try dsimp +instances only
                  exact zOp.ret trivial
                ·
                  try dsimp +instances only
                  refine zOp.ite (fun c_164 => ?_) (fun c_164 => ?_)
                  ·
                    try dsimp +instances only
                    exact zOp.ret trivial
                  ·
                    try dsimp +instances only
                    exact zOp.ret trivial
              ·
                try dsimp +instances only
                refine zOp.ite (fun c_165 => ?_) (fun c_165 => ?_)
                ·
                  try dsimp +instances only
                  exact zOp.ret trivial
                ·
                  try dsimp +instances only
                  unfold g_b_join_L111
                  try dsimp +instances only
                  refine zOp.ite (fun c_166 => ?_) (fun c_166 => ?_)
                  ·
                    try dsimp +instances only
                    exact zOp.ret trivial
                  ·
                    try dsimp +instances only
                    refine zOp.ite (fun c_167 => ?_) (fun c_167 => ?_)
                    ·
                      try dsimp +instances only
                      exact zOp.ret trivial
                    ·
                      try dsimp +instances only
                      exact zOp.ret trivial
            ·
              try dsimp +instances only
              unfold g_b_join_L100
              try dsimp +instances only
              refine zOp.ite (fun c_168 => ?_) (fun c_168 => ?_)
              ·
                try dsimp +instances only
                unfold g_b_join_L111
                try dsimp +instances only
                refine zOp.ite (fun c_169 => ?_) (fun c_169 => ?_)
                ·
                  try dsimp +instances only
                  exact zOp.ret trivial
                ·
                  try dsimp +instances only
                  refine zOp.ite (fun c_170 => ?_) (fun c_170 => ?_)
                  ·
                    try dsimp +instances only
                    exact zOp.ret trivial
                  ·
                    try dsimp +instances only
                    exact zOp.ret trivial
              ·
                try dsimp +instances only
                refine zOp.ite (fun c_171 => ?_) (fun c_171 => ?_)
                ·
                  try dsimp +instances only
                  exact zOp.ret trivial
                ·
                  try dsimp +instances only
                  unfold g_b_join_L111
                  try dsimp +instances only
                  refine zOp.ite (fun c_172 => ?_) (fun c_172 => ?_)
                  ·
                    try dsimp +instances only
                    exact zOp.ret trivial
                  ·
                    try dsimp +instances only
                    refine zOp.ite (fun c_173 => ?_) (fun c_173 => ?_)
                    ·
                      try dsimp +instances only
                      exact zOp.ret trivial
                    ·
                      try dsimp +instances only
                      exact zOp.ret trivial
          ·
            try dsimp +instances only
            unfold g_b_join_L82
            try dsimp +instances only
            refine zOp.ite (fun c_174 => ?_) (fun c_174 => ?_)
            ·
              try dsimp +instances only
              unfold g_b_join_L100
              try dsimp +instances only
              refine zOp.ite (fun c_175 => ?_) (fun c_175 => ?_)
              ·
                try dsimp +instances only
                unfold g_b_join_L111
                try dsimp +instances only
                refine zOp.ite (fun c_176 => ?_) (fun c_176 => ?_)
                ·
                  try dsimp +instances only
                  exact zOp.ret trivial
                ·
                  try dsimp +instances only
                  refine zOp.ite (fun c_177 => ?_) (fun c_177 => ?_)
                  ·
                    try dsimp +instances only
                    exact zOp.ret trivial
                  ·
                    try dsimp +instances only
                    exact zOp.ret trivial
              ·
                try dsimp +instances only
                refine zOp.ite (fun c_178 => ?_) (fun c_178 => ?_)
                ·
                  try dsimp +instances only
                  exact zOp.ret trivial
                ·
                  try dsimp +instances only
                  unfold g_b_join_L111
                  try dsimp +instances only
                  refine zOp.ite (fun c_179 => ?_) (fun c_179 => ?_)
                  ·
                    try dsimp +instances only
                    exact zOp.ret trivial
                  ·
                    try dsimp +instances only
                    refine zOp.ite (fun c_180 => ?_) (fun c_180 => ?_)
                    ·
                      try dsimp +instances only
                      exact zOp.ret trivial
                    ·
                      try dsimp +instances only
                      exact zOp.ret trivial
            ·
              try dsimp +instances only
              unfold g_b_join_L100
              try dsimp +instances only
              refine zOp.ite (fun c_181 => ?_) (fun c_181 => ?_)
              ·
                try dsimp +instances only
                unfold g_b_join_L111
                try dsimp +instances only
                refine zOp.ite (fun c_182 => ?_) (fun c_182 => ?_)
                ·
                  try dsimp +instances only
                  exact zOp.ret trivial
                ·
                  try dsimp +instances only
                  refine zOp.ite (fun c_183 => ?_) (fun c_183 => ?_)
                  ·
                    try dsimp +instances only
                    exact zOp.ret trivial
                  ·
                    try dsimp +instances only
                    exact zOp.ret trivial
              ·
                try dsimp +instances only
                refine zOp.ite (fun c_184 => ?_) (fun c_184 => ?_)
                ·
                  try dsimp +instances only
                  exact zOp.ret trivial
                ·
                  try dsimp +instances only
                  unfold g_b_join_L111
                  try dsimp +instances only
                  refine zOp.ite (fun c_185 => ?_) (fun c_185 => ?_)
                  ·
                    try dsimp +instances only
                    exact zOp.ret trivial
                  ·
                    try dsimp +instances only
                    refine zOp.ite (fun c_186 => ?_) (fun c_186 => ?_)
                    ·
                      try dsimp +instances only
                      exact zOp.ret trivial
                    ·
                      try dsimp +instances only
                      exact zOp.ret trivial
    ·
      try dsimp +instances only
      unfold g_b_join_L26
      try dsimp +instances only
      unfold g_b_join_L31
      try dsimp +instances only
      refine zOp.bindp (g_b_y1_sp) (fun r_33 p_33 => ?_)
      try dsimp +instances only
      refine zOp.bindp (g_b_y0_sp) (fun r_39 p_39 => ?_)
      try dsimp +instances only
      try have ew_189 := w32_id (x := r_33 + 1) (by omega) (by omega)
      refine zOp.ite (fun c_190 => ?_) (fun c_190 => ?_)
      ·
        try dsimp +instances only
        unfold g_b_join_L58
        try dsimp +instances only
        unfold g_b_join_L63
        try dsimp +instances only
        refine zOp.ite (fun c_191 => ?_) (fun c_191 => ?_)
        ·
          try dsimp +instances only
          unfold g_b_join_L82
          try dsimp +instances only
          refine zOp.ite (fun c_192 => ?_) (fun c_192 => ?_)
          ·
            try dsimp +instances only
            unfold g_b_join_L100
            try dsimp +instances only
            refine zOp.ite (fun c_193 => ?_) (fun c_193 => ?_)
            ·
              try dsimp +instances only
              unfold g_b_join_L111
              try dsimp +instances only
              refine zOp.ite (fun c_194 => ?_) (fun c_194 => ?_)
              ·
                try dsimp +instances only
                exact zOp.ret trivial
              ·
                try dsimp +instances only
                refine zOp.ite (fun c_195 => ?_) (fun c_195 => ?_)
                ·
                  try dsimp +instances only
                  exact zOp.ret trivial
                ·
                  try dsimp +instances only
                  exact zOp.ret trivial
            ·
              try dsimp +instances only
              refine zOp.ite (fun c_196 => ?_) (fun c_196 => ?_)
              ·
                try dsimp +instances only
                exact zOp.ret trivial
              ·
                try dsimp +instances only
                unfold g_b_join_L111
                try dsimp +instances only
                refine zOp.ite (fun c_197 => ?_) (fun c_197 => ?_)
                ·
                  try dsimp +instances only
                  exact zOp.ret trivial
                ·
                  try dsimp +instances only
                  refine zOp.ite (fun c_198 => ?_) (fun c_198 => ?_)
                  ·
                    try dsimp +instances only
                    exact zOp.ret trivial
                  ·
                    try dsimp +instances only
                    exact zOp.ret trivial
          ·
            try dsimp +instances only
            unfold g_b_join_L100
            try dsimp +instances only
            refine zOp.ite (fun c_199 => ?_) (fun c_199 => ?_)
            ·
              try dsimp +instances only
              unfold g_b_join_L111
              try dsimp +instances only
              refine zOp.ite (fun c_200 => ?_) (fun c_200 => ?_)
              ·
                try dsimp +instances only
                exact zOp.ret trivial
              ·
                try dsimp +instances only
                refine zOp.ite (fun c_201 => ?_) (fun c_201 => ?_)
                ·
                  try dsimp +instances only
                  exact zOp.ret trivial
                ·
                  try dsimp +instances only
                  exact zOp.ret trivial
            ·
              try dsimp +instances only
              refine zOp.ite (fun c_202 => ?_) (fun c_202 => ?_)
              ·
                try dsimp +instances only
                exact zOp.ret trivial
              ·
                try dsimp +instances only
                unfold g_b_join_L111
                try dsimp +instances only
                refine zOp.ite (fun c_203 => ?_) (fun c_203 => ?_)
                ·
                  try dsimp +instances only
                  exact zOp.ret trivial
                ·
                  try dsimp +instances only
                  refine zOp.ite (fun c_204 => ?_) (fun c_204 => ?_)
                  ·
                    try dsimp +instances only
                    exact zOp.ret trivial
                  ·
                    try dsimp +instances only
                    exact zOp.ret trivial
        ·
          try dsimp +instances only
          unfold g_b_join_L82
          try dsimp +instances only
          refine zOp.ite (fun c_205 => ?_) (fun c_205 => ?_)
          ·
            try dsimp +instances only
            unfold g_b_join_L100
            try dsimp +instances only
            refine zOp.ite (fun c_206 => ?_) (fun c_206 => ?_)
            ·
              try dsimp +instances only
              unfold g_b_join_L111
              try dsimp +instances only
              refine zOp.ite (fun c_207 => ?_) (fun c_207 => ?_)
              ·
                try dsimp +instances only
                exact zOp.ret trivial
              ·
                try dsimp +instances only
                refine zOp.ite (fun c_208 => ?_) (fun c_208 => ?_)
                ·
                  try dsimp +instances only
                  exact zOp.ret trivial
                ·
                  try dsimp +instances only
                  exact zOp.ret trivial
            ·
              try dsimp +instances only
              refine zOp.ite (fun c_209 => ?_) (fun c_209 => ?_)
              ·
                try dsimp +instances only
                exact zOp.ret trivial
              ·
                try dsimp +instances only
                unfold g_b_join_L111
                try dsimp +instances only
                refine zOp.ite (fun c_210 => ?_) (fun c_210 => ?_)
                ·
                  try dsimp +instances only
                  exact zOp.ret trivial
                ·
                  try dsimp +instances only
                  refine zOp.ite (fun c_211 => ?_) (fun c_211 => ?_)
                  ·
                    try dsimp +instances only
                    exact zOp.ret trivial
                  ·
                    try dsimp +instances only
                    exact zOp.ret trivial
          ·
            try dsimp +instances only
            unfold g_b_join_L100
            try dsimp +instances only
            refine zOp.ite (fun c_212 => ?_) (fun c_212 => ?_)
            ·
              try dsimp +instances only
              unfold g_b_join_L111
              try dsimp +instances only
              refine zOp.ite (fun c_213 => ?_) (fun c_213 => ?_)
              ·
                try dsimp +instances only
                exact zOp.ret trivial
              ·
                try dsimp +instances only
                refine zOp.ite (fun c_214 => ?_) (fun c_214 => ?_)
                ·
                  try dsimp +instances only
                  exact zOp.ret trivial
                ·
                  try dsimp +instances only
                  exact zOp.ret trivial
            ·
              try dsimp +instances only
              refine zOp.ite (fun c_215 => ?_) (fun c_215 => ?_)
              ·
                try dsimp +instances only
                exact zOp.ret trivial
              ·
                try dsimp +instances only
                unfold g_b_join_L111
                try dsimp +instances only
                refine zOp.ite (fun c_216 => ?_) (fun c_216 => ?_)
                ·
                  try dsimp +instances only
                  exact zOp.ret trivial
                ·
                  try dsimp +instances only
                  refine zOp.ite (fun c_217 => ?_) (fun c_217 => ?_)
                  ·
                    try dsimp +instances only
                    exact zOp.ret trivial
                  ·
                    try dsimp +instances only
                    exact zOp.ret trivial
      ·
        try dsimp +instances only
        refine zOp.bindp (g_b_y1_sp) (fun r_46 p_46 => ?_)
        try dsimp +instances only
        refine zOp.bindp (g_b_y0_sp) (fun r_52 p_52 => ?_)
        try dsimp +instances only
        try have ew_220 := w32_id (x := r_46 + 1) (by omega) (by omega)
        refine zOp.ite (fun c_221 => ?_) (fun c_221 => ?_)
        ·
          try dsimp +instances only
          unfold g_b_join_L63
          try dsimp +instances only
          refine zOp.ite (fun c_222 => ?_) (fun c_222 => ?_)
          ·
            try dsimp +instances only
            unfold g_b_join_L82
            try dsimp +instances only
            refine zOp.ite (fun c_223 => ?_) (fun c_223 => ?_)
            ·
              try dsimp +instances only
              unfold g_b_join_L100
              try dsimp +instances only
              refine zOp.ite (fun c_224 => ?_) (fun c_224 => ?_)
              ·
                try dsimp +instances only
                unfold g_b_join_L111
                try dsimp +instances only
                refine zOp.ite (fun c_225 => ?_) (fun c_225 => ?_)
                ·
                  try dsimp +instances only
                  exact zOp.ret trivial
                ·
                  try dsimp +instances only
                  refine zOp.ite (fun c_226 => ?_) (fun c_226 => ?_)
                  ·
                    try dsimp +instances only
                    exact zOp.ret trivial
                  ·
                    try dsimp +instances only
                    exact zOp.ret trivial
              ·
                try dsimp +instances only
                refine zOp.ite (fun c_227 => ?_) (fun c_227 => ?_)
                ·
                  try dsimp +instances only
                  exact zOp.ret trivial
                ·
                  try dsimp +instances only
                  unfold g_b_join_L111
                  try dsimp +instances only
                  refine zOp.ite (fun c_228 => ?_) (fun c_228 => ?_)
                  ·
                    try dsimp +instances only
                    exact zOp.ret trivial
                  ·
                    try dsimp +instances only
                    refine zOp.ite (fun c_229 => ?_) (fun c_229 => ?_)
                    ·
                      try dsimp +instances only
                      exact zOp.ret trivial
                    ·
                      try dsimp +instances only
                      exact zOp.ret trivial
            ·
              try dsimp +instances only
              unfold g_b_join_L100
              try dsimp +instances only
              refine zOp.ite (fun c_230 => ?_) (fun c_230 => ?_)
              ·
                try dsimp +instances only
                unfold g_b_join_L111
                try dsimp +instances only
                refine zOp.ite (fun c_231 => ?_) (fun c_231 => ?_)
                ·
                  try dsimp +instances only
                  exact zOp.ret trivial
                ·
                  try dsimp +instances only
                  refine zOp.ite (fun c_232 => ?_) (fun c_232 => ?_)
                  ·
                    try dsimp +instances only
                    exact zOp.ret trivial
                  ·
                    try dsimp +instances only
                    exact zOp.ret trivial
              ·
                try dsimp +instances only
                refine zOp.ite (fun c_233 => ?_) (fun c_233 => ?_)
                ·
                  try dsimp +instances only
                  exact zOp.ret trivial
                ·
                  try dsimp +instances only
                  unfold g_b_join_L111
                  try dsimp +instances only
                  refine zOp.ite (fun c_234 => ?_) (fun c_234 => ?_)
                  ·
                    try dsimp +instances only
                    exact zOp.ret trivial
                  ·
                    try dsimp +instances only
                    refine zOp.ite (fun c_235 => ?_) (fun c_235 => ?_)
                    ·
                      try dsimp +instances only
                      exact zOp.ret trivial
                    ·
                      try dsimp +instances only
                      exact zOp.ret trivial
          ·
            try dsimp +instances only
            unfold g_b_join_L82
            try dsimp +instances only
            refine zOp.ite (fun c_236 => ?_) (fun c_236 => ?_)
            ·
              try dsimp +instances only
              unfold g_b_join_L100
              try dsimp +instances only
              refine zOp.ite (fun c_237 => ?_) (fun c_237 => ?_)
              ·
                try dsimp +instances only
                unfold g_b_join_L111
                try dsimp +instances only
                refine zOp.ite (fun c_238 => ?_) (fun c_238 => ?_)
                ·
                  try dsimp +instances only
                  exact zOp.ret trivial
                ·
                  try dsimp +instances only
                  refine zOp.ite (fun c_239 => ?_) (fun c_239 => ?_)
                  ·
                    try dsimp +instances only
                    exact zOp.ret trivial
                  ·
                    try dsimp +instances only
                    exact zOp.ret trivial
              ·
                try dsimp +instances only
                refine zOp.ite (fun c_240 => ?_) (fun c_240 => ?_)
                ·
                  try dsimp +instances only
                  exact zOp.ret trivial
                ·
                  try dsimp +instances only
                  unfold g_b_join_L111
                  try dsimp +instances only
                  refine zOp.ite (fun c_241 => ?_) (fun c_241 => ?_)
                  ·
                    try dsimp +instances only
                    exact zOp.ret trivial
                  ·
                    try dsimp +instances only
                    refine zOp.ite (fun c_242 => ?_) (fun c_242 => ?_)
                    ·
                      try dsimp +instances only
                      exact zOp.ret trivial
                    ·
                      try dsimp +instances only
                      exact zOp.ret trivial
            ·
              try dsimp +instances only
              unfold g_b_join_L100
              try dsimp +instances only
              refine zOp.ite (fun c_243 => ?_) (fun c_243 => ?_)
              ·
                try dsimp +instances only
                unfold g_b_join_L111
                try dsimp +instances only
                refine zOp.ite (fun c_244 => ?_) (fun c_244 => ?_)
                ·
                  try dsimp +instances only
                  exact zOp.ret trivial
                ·
                  try dsimp +instances only
                  refine zOp.ite (fun c_245 => ?_) (fun c_245 => ?_)
                  ·
                    try dsimp +instances only
                    exact zOp.ret trivial
                  ·
                    try dsimp +instances only
                    exact zOp.ret trivial
              ·
                try dsimp +instances only
                refine zOp.ite (fun c_246 => ?_) (fun c_246 => ?_)
                ·
                  try dsimp +instances only
                  exact zOp.ret trivial
                ·
                  try dsimp +instances only
                  unfold g_b_join_L111
                  try dsimp +instances only
                  refine zOp.ite (fun c_247 => ?_) (fun c_247 => ?_)
                  ·
                    try dsimp +instances only
                    exact zOp.ret trivial
                  ·
                    try dsimp +instances only
                    refine zOp.ite (fun c_248 => ?_) (fun c_248 => ?_)
                    ·
                      try dsimp +instances only
                      exact zOp.ret trivial
                    ·
                      try dsimp +instances only
                      exact zOp.ret trivial
        ·
          try dsimp +instances only
          unfold g_b_join_L58
          try dsimp +instances only
          unfold g_b_join_L63
          try dsimp +instances only
          refine zOp.ite (fun c_249 => ?_) (fun c_249 => ?_)
          ·
            try dsimp +instances only
            unfold g_b_join_L82
            try dsimp +instances only
            refine zOp.ite (fun c_250 => ?_) (fun c_250 => ?_)
            ·
              try dsimp +instances only
              unfold g_b_join_L100
              try dsimp +instances only
              refine zOp.ite (fun c_251 => ?_) (fun c_251 => ?_)
              ·
                try dsimp +instances only
                unfold g_b_join_L111
                try dsimp +instances only
                refine zOp.ite (fun c_252 => ?_) (fun c_252 => ?_)
                ·
                  try dsimp +instances only
                  exact zOp.ret trivial
                ·
                  try dsimp +instances only
                  refine zOp.ite (fun c_253 => ?_) (fun c_253 => ?_)
                  ·
                    try dsimp +instances only
                    exact zOp.ret trivial
                  ·
                    try dsimp +instances only
                    exact zOp.ret trivial
              ·
                try dsimp +instances only
                refine zOp.ite (fun c_254 => ?_) (fun c_254 => ?_)
                ·
                  try dsimp +instances only
                  exact zOp.ret trivial
                ·
                  try dsimp +instances only
                  unfold g_b_join_L111
                  try dsimp +instances only
                  refine zOp.ite (fun c_255 => ?_) (fun c_255 => ?_)
                  ·
                    try dsimp +instances only
                    exact zOp.ret trivial
                  ·
                    try dsimp +instances only
                    refine zOp.ite (fun c_256 => ?_) (fun c_256 => ?_)
                    ·
                      try dsimp +instances only
                      exact zOp.ret trivial
                    ·
                      try dsimp +instances only
                      exact zOp.ret trivial
            ·
              try dsimp +instances only
              unfold g_b_join_L100
              try dsimp +instances only
              refine zOp.ite (fun c_257 => ?_) (fun c_257 => ?_)
              ·
                try dsimp +instances only
                unfold g_b_join_L111
                try dsimp +instances only
                refine zOp.ite (fun c_258 => ?_) (fun c_258 => ?_)
                ·
                  try dsimp +instances only
                  exact zOp.ret trivial
                ·
                  try dsimp +instances only
                  refine zOp.ite (fun c_259 => ?_) (fun c_259 => ?_)
                  ·
                    try dsimp +instances only
                    exact zOp.ret trivial
                  ·
                    try dsimp +instances only
                    exact zOp.ret trivial
              ·
                try dsimp +instances only
                refine zOp.ite (fun c_260 => ?_) (fun c_260 => ?_)
                ·
                  try dsimp +instances only
                  exact zOp.ret trivial
                ·
                  try dsimp +instances only
                  unfold g_b_join_L111
                  try dsimp +instances only
                  refine zOp.ite (fun c_261 => ?_) (fun c_261 => ?_)
                  ·
                    try dsimp +instances only
                    exact zOp.ret trivial
                  ·
                    try dsimp +instances only
                    refine zOp.ite (fun c_262 => ?_) (fun c_262 => ?_)
                    ·
                      try dsimp +instances only
                      exact zOp.ret trivial
                    ·
                      try dsimp +instances only
                      exact zOp.ret trivial
          ·
            try dsimp +instances only
            unfold g_b_join_L82
            try dsimp +instances only
            refine zOp.ite (fun c_263 => ?_) (fun c_263 => ?_)
            ·
              try dsimp +instances only
              unfold g_b_join_L100
              try dsimp +instances only
              refine zOp.ite (fun c_264 => ?_) (fun c_264 => ?_)
              ·
                try dsimp +instances only
                unfold g_b_join_L111
                try dsimp +instances only
                refine zOp.ite (fun c_265 => ?_) (fun c_265 => ?_)
                ·
                  try dsimp +instances only
                  exact zOp.ret trivial
                ·
                  try dsimp +instances only
                  refine zOp.ite (fun c_266 => ?_) (fun c_266 => ?_)
                  ·
                    try dsimp +instances only
                    exact zOp.ret trivial
                  ·
                    try dsimp +instances only
                    exact zOp.ret trivial
              ·
                try dsimp +instances only
                refine zOp.ite (fun c_267 => ?_) (fun c_267 => ?_)
                ·
                  try dsimp +instances only
                  exact zOp.ret trivial
                ·
                  try dsimp +instances only
                  unfold g_b_join_L111
                  try dsimp +instances only
                  refine zOp.ite (fun c_268 => ?_) (fun c_268 => ?_)
                  ·
                    try dsimp +instances only
                    exact zOp.ret trivial
                  ·
                    try dsimp +instances only
                    refine zOp.ite (fun c_269 => ?_) (fun c_269 => ?_)
                    ·
                      try dsimp +instances only
                      exact zOp.ret trivial
                    ·
                      try dsimp +instances only
                      exact zOp.ret trivial
            ·
              try dsimp +instances only
              unfold g_b_join_L100
              try dsimp +instances only
              refine zOp.ite (fun c_270 => ?_) (fun c_270 => ?_)
              ·
                try dsimp +instances only
                unfold g_b_join_L111
                try dsimp +instances only
                refine zOp.ite (fun c_271 => ?_) (fun c_271 => ?_)
                ·
                  try dsimp +instances only
                  exact zOp.ret trivial
                ·
                  try dsimp +instances only
                  refine zOp.ite (fun c_272 => ?_) (fun c_272 => ?_)
                  ·
                    try dsimp +instances only
                    exact zOp.ret trivial
                  ·
                    try dsimp +instances only
                    exact zOp.ret trivial
              ·
                try dsimp +instances only
                refine zOp.ite (fun c_273 => ?_) (fun c_273 => ?_)
                ·
                  try dsimp +instances only
                  exact zOp.ret trivial
                ·
                  try dsimp +instances only
                  unfold g_b_join_L111
                  try dsimp +instances only
                  refine zOp.ite (fun c_274 => ?_) (fun c_274 => ?_)
                  ·
                    try dsimp +instances only
                    exact zOp.ret trivial
                  ·
                    try dsimp +instances only
                    refine zOp.ite (fun c_275 => ?_) (fun c_275 => ?_)
                    ·
                      try dsimp +instances only
                      exact zOp.ret trivial
                    ·
                      try dsimp +instances only
                      exact zOp.ret trivial
theorem g_jMath_max_290_sp {y0 : Int} {y2 : Int} {σ : zS} : zOp (g_jMath_max_290 y0 y2 σ) σ (fun v => True) := by
  unfold g_jMath_max_290
  try dsimp +instances only
  refine zOp.ite (fun c_1 => ?_) (fun c_1 => ?_)
  ·
    try dsimp +instances only
    exact zOp.ret trivial
  ·
    try dsimp +instances only
    exact zOp.ret trivial
theorem g_jMath_min_292_sp {y0 : Int} {y2 : Int} {σ : zS} : zOp (g_jMath_min_292 y0 y2 σ) σ (fun v => True) := by
  unfold g_jMath_min_292
  try dsimp +instances only
  refine zOp.ite (fun c_1 => ?_) (fun c_1 => ?_)
  ·
    try dsimp +instances only
    exact zOp.ret trivial
  ·
    try dsimp +instances only
    exact zOp.ret trivial
theorem g_jMath_floorDiv_sp {y0 : Int} {y2 : Int} {σ : zS} (hp : y2 ≠ 0) : zOp (g_jMath_floorDiv y0 y2 σ) σ (fun v => True) := by
  unfold g_jMath_floorDiv
  try dsimp +instances only
  refine zOp.ite (fun c_1 => ?_) (fun c_1 => ?_)
  ·
    try dsimp +instances only
    exfalso; omega
  ·
    try dsimp +instances only
    refine zOp.ite (fun c_2 => ?_) (fun c_2 => ?_)
    ·
      try dsimp +instances only
      exact zOp.ret trivial
    ·
      try dsimp +instances only
      refine zOp.ite (fun c_3 => ?_) (fun c_3 => ?_)
      ·
        try dsimp +instances only
        exact zOp.ret trivial
      ·
        try dsimp +instances only
        exact zOp.ret trivial
theorem g_jLong_compare_sp {y0 : Int} {y2 : Int} {σ : zS} : zOp (g_jLong_compare y0 y2 σ) σ (fun v => True) := by
  unfold g_jLong_compare
  try dsimp +instances only
  refine zOp.ite (fun c_1 => ?_) (fun c_1 => ?_)
  ·
    try dsimp +instances only
    refine zOp.ite (fun c_2 => ?_) (fun c_2 => ?_)
    ·
      try dsimp +instances only
      exact zOp.ret trivial
    ·
      try dsimp +instances only
      exact zOp.ret trivial
  ·
    try dsimp +instances only
    exact zOp.ret trivial
theorem g_fi_isMeasure_sp {x0 : Int} {σ : zS} : zOp (g_fi_isMeasure x0 σ) σ (fun v => True) := by
  unfold g_fi_isMeasure
  try dsimp +instances only
  refine zOp.ite (fun c_1 => ?_) (fun c_1 => ?_)
  ·
    try dsimp +instances only
    exact zOp.ret trivial
  ·
    try dsimp +instances only
    refine zOp.ite (fun c_2 => ?_) (fun c_2 => ?_)
    ·
      try dsimp +instances only
      exact zOp.ret trivial
    ·
      try dsimp +instances only
      exact zOp.ret trivial
theorem g_so_isRow_sp {x0 : Int} {σ : zS} : zOp (g_so_isRow x0 σ) σ (fun v => v ≠ 0 → 0 ≤ x0 ∧ x0 < 60) := by
  unfold g_so_isRow
  try dsimp +instances only
  refine zOp.ite (fun c_1 => ?_) (fun c_1 => ?_)
  ·
    try dsimp +instances only
    exact zOp.ret (by omega)
  ·
    try dsimp +instances only
    refine zOp.ite (fun c_2 => ?_) (fun c_2 => ?_)
    ·
      try dsimp +instances only
      exact zOp.ret (by omega)
    ·
      try dsimp +instances only
      exact zOp.ret (by omega)
theorem g_li_isList_sp {x0 : Int} {σ : zS} : zOp (g_li_isList x0 σ) σ (fun v => v ≠ 0 ↔ (0 ≤ x0 ∧ x0 < 6)) := by
  unfold g_li_isList
  try dsimp +instances only
  refine zOp.ite (fun c_1 => ?_) (fun c_1 => ?_)
  ·
    try dsimp +instances only
    exact zOp.ret (by omega)
  ·
    try dsimp +instances only
    refine zOp.ite (fun c_2 => ?_) (fun c_2 => ?_)
    ·
      try dsimp +instances only
      exact zOp.ret (by omega)
    ·
      try dsimp +instances only
      exact zOp.ret (by omega)
theorem g_so_rowsIn_sp {x1 : Int} {σ : zS} : zOp (g_so_rowsIn x1 σ) σ (fun v => True) := by
  unfold g_so_rowsIn
  try dsimp +instances only
  refine zOp.bindp (g_b_x1_sp) (fun r_5 p_5 => ?_)
  try dsimp +instances only
  try have ew_2 := w32_id (x := r_5 + 1) (by omega) (by omega)
  refine zOp.gd (by omega) ?_
  try dsimp +instances only
  generalize hv_v_10 : σ 46 (w32 (r_5 + 1)) = v_10
  refine zOp.bindp (g_b_x0_sp) (fun r_16 p_16 => ?_)
  try dsimp +instances only
  refine zOp.gd (by omega) ?_
  try dsimp +instances only
  generalize hv_v_19 : σ 46 r_16 = v_19
  refine zOp.bindp (g_b_y1_sp) (fun r_30 p_30 => ?_)
  try dsimp +instances only
  try have ew_5 := w32_id (x := r_30 + 1) (by omega) (by omega)
  refine zOp.gd (by omega) ?_
  try dsimp +instances only
  generalize hv_v_35 : σ 47 (w32 (r_30 + 1)) = v_35
  refine zOp.bindp (g_b_y0_sp) (fun r_42 p_42 => ?_)
  try dsimp +instances only
  refine zOp.gd (by omega) ?_
  try dsimp +instances only
  generalize hv_v_45 : σ 47 r_42 = v_45
  exact zOp.ret trivial
theorem g_ca_sizeOf_sp {a0 : Nat} (ha0 : a0 = 48 ∨ a0 = 106) {x1 : Int} {σ : zS} : zOp (g_ca_sizeOf a0 x1 σ) σ (fun v => True) := by
  unfold g_ca_sizeOf
  try dsimp +instances only
  refine zOp.bindp (g_so_rowsIn_sp) (fun r_6 p_6 => ?_)
  try dsimp +instances only
  refine zOp.bindp (g_jLong_bitCount_sp) (fun r_9 p_9 => ?_)
  try dsimp +instances only
  try have ew_3 := w32_id (x := 1 + r_9) (by omega) (by omega)
  exact zOp.ret trivial
theorem g_se_of_sp {a0 : Nat} (ha0 : a0 = 49 ∨ a0 = 82 ∨ a0 = 107 ∨ a0 = 118) {x1 : Int} {σ : zS} : zOp (g_se_of a0 x1 σ) σ (fun v => True) := by
  unfold g_se_of
  try dsimp +instances only
  refine zOp.ite (fun c_1 => ?_) (fun c_1 => ?_)
  ·
    try dsimp +instances only
    exact zOp.ret trivial
  ·
    try dsimp +instances only
    refine zOp.ite (fun c_2 => ?_) (fun c_2 => ?_)
    ·
      try dsimp +instances only
      exact zOp.ret trivial
    ·
      try dsimp +instances only
      refine zOp.gd (by omega) ?_
      try dsimp +instances only
      generalize hv_v_15 : σ (a0 + 1) x1 = v_15
      exact zOp.ret trivial
theorem g_ca_costOf_sp {a0 : Nat} (ha0 : a0 = 48 ∨ a0 = 106) {x1 : Int} {σ : zS} : zOp (g_ca_costOf a0 x1 σ) σ (fun v => -2147483648 ≤ v ∧ v ≤ 2147483647) := by
  unfold g_ca_costOf
  try dsimp +instances only
  refine zOp.bindp (g_se_of_sp (by omega)) (fun r_5 p_5 => ?_)
  try dsimp +instances only
  refine zOp.bindp (g_so_rowsIn_sp) (fun r_13 p_13 => ?_)
  try dsimp +instances only
  refine zOp.bindp (g_jLong_bitCount_sp) (fun r_16 p_16 => ?_)
  try dsimp +instances only
  try have ew_4 := w32_id (x := r_5 + r_16) (by omega) (by omega)
  have bw_5 := w32_bd (r_5 + r_16)
  exact zOp.ret (by omega)
set_option maxHeartbeats 4000000 in
theorem g_ca_sizes_L7_sp {a0 : Nat} (ha0 : a0 = 48 ∨ a0 = 106) {σ : zS} : ∀ (n : Nat) (x1 : Int) (x2 : Int) (H : CI σ), (0 ≤ x2 ∧ x2 ≤ 181) → (181 - x2) < (n : Int) → zOp (g_ca_sizes_L7 a0 n x1 x2 σ) σ (fun v => True)
  | 0, _, _, _, hi, hm => by exfalso; omega
  | n + 1, x1, x2, H, hi, hm => by
    unfold g_ca_sizes_L7
    try dsimp +instances only
    generalize hv_v_9 : σ a0 2 = v_9
    have rv_v_9 := CI.c2 (a := a0) H (by omega)
    rw [hv_v_9] at rv_v_9
    refine zOp.ite (fun c_1 => ?_) (fun c_1 => ?_)
    ·
      try dsimp +instances only
      exact zOp.ret trivial
    ·
      try dsimp +instances only
      refine zOp.gd (by omega) ?_
      try dsimp +instances only
      generalize hv_v_25 : σ (a0 + 4) x2 = v_25
      refine zOp.bindp (g_so_rowsIn_sp) (fun r_26 p_26 => ?_)
      try dsimp +instances only
      refine zOp.bindp (g_jLong_bitCount_sp) (fun r_29 p_29 => ?_)
      try dsimp +instances only
      try have ew_4 := w32_id (x := x2 + 1) (by omega) (by omega)
      try have ew_5 := w32_id (x := x1 + r_29) (by omega) (by omega)
      exact g_ca_sizes_L7_sp (by omega) n (w32 (x1 + r_29)) (w32 (x2 + 1)) H (by omega) (by omega)
theorem g_ca_sizes_sp {a0 : Nat} (ha0 : a0 = 48 ∨ a0 = 106) {σ : zS} (H : CI σ) : zOp (g_ca_sizes a0 σ) σ (fun v => True) := by
  unfold g_ca_sizes
  try dsimp +instances only
  generalize hv_v_1 : σ a0 2 = v_1
  have rv_v_1 := CI.c2 (a := a0) H (by omega)
  rw [hv_v_1] at rv_v_1
  exact g_ca_sizes_L7_sp (by omega) zK v_1 0 H (by omega) (by show _ < (1000000 : Int); omega)
set_option maxHeartbeats 4000000 in
theorem g_ca_otherBehind_L4_sp {a0 : Nat} (ha0 : a0 = 48 ∨ a0 = 106) {σ : zS} : ∀ (n : Nat) (x1 : Int) (x2 : Int) (H : CI σ), (0 ≤ x1 ∧ x1 < 181 ∧ x1 < x2 ∧ x2 ≤ 181) → (181 - x2) < (n : Int) → zOp (g_ca_otherBehind_L4 a0 n x1 x2 σ) σ (fun v => v = -1 ∨ (x1 < v ∧ v < σ a0 2))
  | 0, _, _, _, hi, hm => by exfalso; omega
  | n + 1, x1, x2, H, hi, hm => by
    have ri_a0_2 := CI.c2 (a := a0) H (by omega)
    unfold g_ca_otherBehind_L4
    try dsimp +instances only
    generalize hv_v_6 : σ a0 2 = v_6
    have rv_v_6 := CI.c2 (a := a0) H (by omega)
    rw [hv_v_6] at rv_v_6
    refine zOp.ite (fun c_1 => ?_) (fun c_1 => ?_)
    ·
      try dsimp +instances only
      exact zOp.ret (by omega)
    ·
      try dsimp +instances only
      refine zOp.gd (by omega) ?_
      try dsimp +instances only
      generalize hv_v_17 : σ (a0 + 4) x1 = v_17
      refine zOp.gd (by omega) ?_
      try dsimp +instances only
      generalize hv_v_23 : σ (a0 + 4) x2 = v_23
      refine zOp.bindp (g_b_join_sp) (fun r_24 p_24 => ?_)
      try dsimp +instances only
      refine zOp.ite (fun c_3 => ?_) (fun c_3 => ?_)
      ·
        try dsimp +instances only
        try have ew_4 := w32_id (x := x2 + 1) (by omega) (by omega)
        exact zOp.imp (g_ca_otherBehind_L4_sp (by omega) n x1 (w32 (x2 + 1)) H (by omega) (by omega)) (fun v p => by omega)
      ·
        try dsimp +instances only
        exact zOp.ret (by omega)
theorem g_ca_otherBehind_sp {a0 : Nat} (ha0 : a0 = 48 ∨ a0 = 106) {x1 : Int} {σ : zS} (H : CI σ) (hp : 0 ≤ x1 ∧ x1 < σ a0 2) : zOp (g_ca_otherBehind a0 x1 σ) σ (fun v => v = -1 ∨ (x1 < v ∧ v < σ a0 2)) := by
  have ri_a0_2 := CI.c2 (a := a0) H (by omega)
  unfold g_ca_otherBehind
  try dsimp +instances only
  try have ew_5 := w32_id (x := x1 + 1) (by omega) (by omega)
  exact zOp.imp (g_ca_otherBehind_L4_sp (by omega) zK x1 (w32 (x1 + 1)) H (by omega) (by show _ < (1000000 : Int); omega)) (fun v p => by omega)
set_option maxHeartbeats 4000000 in
theorem g_ca_earliestFor_L2_sp {a0 : Nat} (ha0 : a0 = 48 ∨ a0 = 106) {σ : zS} : ∀ (n : Nat) (x1 : Int) (x2 : Int) (H : CI σ), (0 ≤ x1 ∧ x1 < 181 ∧ 0 ≤ x2 ∧ x2 ≤ x1) → (181 - x2) < (n : Int) → zOp (g_ca_earliestFor_L2 a0 n x1 x2 σ) σ (fun v => 0 ≤ v ∧ v ≤ x1)
  | 0, _, _, _, hi, hm => by exfalso; omega
  | n + 1, x1, x2, H, hi, hm => by
    unfold g_ca_earliestFor_L2
    try dsimp +instances only
    refine zOp.ite (fun c_1 => ?_) (fun c_1 => ?_)
    ·
      try dsimp +instances only
      exact zOp.ret (by omega)
    ·
      try dsimp +instances only
      refine zOp.gd (by omega) ?_
      try dsimp +instances only
      generalize hv_v_12 : σ (a0 + 4) x2 = v_12
      refine zOp.gd (by omega) ?_
      try dsimp +instances only
      generalize hv_v_18 : σ (a0 + 4) x1 = v_18
      refine zOp.bindp (g_b_join_sp) (fun r_19 p_19 => ?_)
      try dsimp +instances only
      refine zOp.ite (fun c_3 => ?_) (fun c_3 => ?_)
      ·
        try dsimp +instances only
        try have ew_4 := w32_id (x := x2 + 1) (by omega) (by omega)
        exact zOp.imp (g_ca_earliestFor_L2_sp (by omega) n x1 (w32 (x2 + 1)) H (by omega) (by omega)) (fun v p => by omega)
      ·
        try dsimp +instances only
        exact zOp.ret (by omega)
theorem g_ca_earliestFor_sp {a0 : Nat} (ha0 : a0 = 48 ∨ a0 = 106) {x1 : Int} {σ : zS} (H : CI σ) (hp : 0 ≤ x1 ∧ x1 < 181) : zOp (g_ca_earliestFor a0 x1 σ) σ (fun v => 0 ≤ v ∧ v ≤ x1) := by
  unfold g_ca_earliestFor
  try dsimp +instances only
  exact zOp.imp (g_ca_earliestFor_L2_sp (by omega) zK x1 0 H (by omega) (by show _ < (1000000 : Int); omega)) (fun v p => by omega)
set_option maxHeartbeats 4000000 in
theorem g_ca_lightest_L4_sp {a0 : Nat} (ha0 : a0 = 48 ∨ a0 = 106) {σ : zS} : ∀ (n : Nat) (x1 : Int) (x2 : Int) (H : CI σ), (0 ≤ x1 ∧ x1 < σ a0 2 ∧ 0 ≤ x2 ∧ x2 ≤ 181) → (181 - x2) < (n : Int) → zOp (g_ca_lightest_L4 a0 n x1 x2 σ) σ (fun v => 0 ≤ v ∧ v < σ a0 2)
  | 0, _, _, _, hi, hm => by exfalso; omega
  | n + 1, x1, x2, H, hi, hm => by
    have ri_a0_2 := CI.c2 (a := a0) H (by omega)
    unfold g_ca_lightest_L4
    try dsimp +instances only
    generalize hv_v_6 : σ a0 2 = v_6
    have rv_v_6 := CI.c2 (a := a0) H (by omega)
    rw [hv_v_6] at rv_v_6
    refine zOp.ite (fun c_1 => ?_) (fun c_1 => ?_)
    ·
      try dsimp +instances only
      exact zOp.ret (by omega)
    ·
      try dsimp +instances only
      refine zOp.gd (by omega) ?_
      try dsimp +instances only
      generalize hv_v_17 : σ (a0 + 7) x2 = v_17
      refine zOp.gd (by omega) ?_
      try dsimp +instances only
      generalize hv_v_23 : σ (a0 + 7) x1 = v_23
      refine zOp.ite (fun c_2 => ?_) (fun c_2 => ?_)
      ·
        try dsimp +instances only
        unfold g_ca_lightest_L30
        try dsimp +instances only
        try have ew_3 := w32_id (x := x2 + 1) (by omega) (by omega)
        exact zOp.imp (g_ca_lightest_L4_sp (by omega) n x1 (w32 (x2 + 1)) H (by omega) (by omega)) (fun v p => by omega)
      ·
        try dsimp +instances only
        unfold g_ca_lightest_L30
        try dsimp +instances only
        try have ew_4 := w32_id (x := x2 + 1) (by omega) (by omega)
        exact zOp.imp (g_ca_lightest_L4_sp (by omega) n x2 (w32 (x2 + 1)) H (by omega) (by omega)) (fun v p => by omega)
theorem g_ca_lightest_sp {a0 : Nat} (ha0 : a0 = 48 ∨ a0 = 106) {σ : zS} (H : CI σ) (hp : 0 < σ a0 2) : zOp (g_ca_lightest a0 σ) σ (fun v => 0 ≤ v ∧ v < σ a0 2) := by
  have ri_a0_2 := CI.c2 (a := a0) H (by omega)
  unfold g_ca_lightest
  try dsimp +instances only
  exact zOp.imp (g_ca_lightest_L4_sp (by omega) zK 0 1 H (by omega) (by show _ < (1000000 : Int); omega)) (fun v p => by omega)
theorem g_ca_isTooMuch_sp {a0 : Nat} (ha0 : a0 = 48 ∨ a0 = 106) {σ : zS} (H : CI σ) : zOp (g_ca_isTooMuch a0 σ) σ (fun v => True) := by
  unfold g_ca_isTooMuch
  try dsimp +instances only
  generalize hv_v_1 : σ a0 2 = v_1
  have rv_v_1 := CI.c2 (a := a0) H (by omega)
  rw [hv_v_1] at rv_v_1
  refine zOp.bindp (g_se_of_sp (by omega)) (fun r_9 p_9 => ?_)
  try dsimp +instances only
  refine zOp.ite (fun c_2 => ?_) (fun c_2 => ?_)
  ·
    try dsimp +instances only
    exact zOp.ret trivial
  ·
    try dsimp +instances only
    refine zOp.bindp (g_ca_sizes_sp (by omega) H) (fun r_16 p_16 => ?_)
    try dsimp +instances only
    refine zOp.bindp (g_se_of_sp (by omega)) (fun r_24 p_24 => ?_)
    try dsimp +instances only
    refine zOp.ite (fun c_5 => ?_) (fun c_5 => ?_)
    ·
      try dsimp +instances only
      exact zOp.ret trivial
    ·
      try dsimp +instances only
      exact zOp.ret trivial
set_option maxHeartbeats 4000000 in
theorem g_ca_regionAt_L2_sp {a0 : Nat} (ha0 : a0 = 48 ∨ a0 = 106) {σ : zS} : ∀ (n : Nat) (x1 : Int) (x2 : Int) (H : CI σ), (0 ≤ x2 ∧ x2 ≤ 181) → (181 - x2) < (n : Int) → zOp (g_ca_regionAt_L2 a0 n x1 x2 σ) σ (fun v => v = -1 ∨ (0 ≤ v ∧ v < σ a0 2))
  | 0, _, _, _, hi, hm => by exfalso; omega
  | n + 1, x1, x2, H, hi, hm => by
    have ri_a0_2 := CI.c2 (a := a0) H (by omega)
    unfold g_ca_regionAt_L2
    try dsimp +instances only
    generalize hv_v_4 : σ a0 2 = v_4
    have rv_v_4 := CI.c2 (a := a0) H (by omega)
    rw [hv_v_4] at rv_v_4
    refine zOp.ite (fun c_1 => ?_) (fun c_1 => ?_)
    ·
      try dsimp +instances only
      exact zOp.ret (by omega)
    ·
      try dsimp +instances only
      refine zOp.gd (by omega) ?_
      try dsimp +instances only
      generalize hv_v_15 : σ (a0 + 4) x2 = v_15
      refine zOp.bindp (g_b_meet_sp) (fun r_17 p_17 => ?_)
      try dsimp +instances only
      refine zOp.ite (fun c_3 => ?_) (fun c_3 => ?_)
      ·
        try dsimp +instances only
        try have ew_4 := w32_id (x := x2 + 1) (by omega) (by omega)
        exact zOp.imp (g_ca_regionAt_L2_sp (by omega) n x1 (w32 (x2 + 1)) H (by omega) (by omega)) (fun v p => by omega)
      ·
        try dsimp +instances only
        exact zOp.ret (by omega)
theorem g_ca_regionAt_sp {a0 : Nat} (ha0 : a0 = 48 ∨ a0 = 106) {x1 : Int} {σ : zS} (H : CI σ) : zOp (g_ca_regionAt a0 x1 σ) σ (fun v => v = -1 ∨ (0 ≤ v ∧ v < σ a0 2)) := by
  have ri_a0_2 := CI.c2 (a := a0) H (by omega)
  unfold g_ca_regionAt
  try dsimp +instances only
  exact zOp.imp (g_ca_regionAt_L2_sp (by omega) zK x1 0 H (by omega) (by show _ < (1000000 : Int); omega)) (fun v p => by omega)
set_option maxHeartbeats 4000000 in
theorem g_ca_bestSet_L32_sp {a0 : Nat} (ha0 : a0 = 48 ∨ a0 = 106) {g7 : Int → Int → Int → Int → zS → Option (Int × zS)} {X5 : Int} {σ : zS} (hg : ∀ y0 y1 y2 y3 : Int, (1 ≤ y3 ∧ y3 = X5 + 1) → zOp (g7 y0 y1 y2 y3 σ) σ (fun v => True)) : ∀ (n : Nat) (x1 : Int) (x2 : Int) (y3 : Int) (x5 : Int) (x6 : Int) (y7 : Int) (x9 : Int) (H : CI σ), (0 ≤ x9 ∧ x9 ≤ 181 ∧ 1 ≤ x5 ∧ x5 < 4096 ∧ x5 = X5) → (181 - x9) < (n : Int) → zOp (g_ca_bestSet_L32 a0 g7 n x1 x2 y3 x5 x6 y7 x9 σ) σ (fun v => True)
  | 0, _, _, _, _, _, _, _, _, hi, hm => by exfalso; omega
  | n + 1, x1, x2, y3, x5, x6, y7, x9, H, hi, hm => by
    unfold g_ca_bestSet_L32
    try dsimp +instances only
    generalize hv_v_35 : σ a0 2 = v_35
    have rv_v_35 := CI.c2 (a := a0) H (by omega)
    rw [hv_v_35] at rv_v_35
    refine zOp.ite (fun c_1 => ?_) (fun c_1 => ?_)
    ·
      try dsimp +instances only
      unfold g_ca_bestSet_L122
      try dsimp +instances only
      refine zOp.ite (fun c_2 => ?_) (fun c_2 => ?_)
      ·
        try dsimp +instances only
        unfold g_ca_bestSet_L141
        try dsimp +instances only
        try have ew_3 := w32_id (x := x5 + 1) (by omega) (by omega)
        exact hg x1 x2 y3 (w32 (x5 + 1)) (by omega)
      ·
        try dsimp +instances only
        refine zOp.ite (fun c_4 => ?_) (fun c_4 => ?_)
        ·
          try dsimp +instances only
          unfold g_ca_bestSet_L141
          try dsimp +instances only
          try have ew_5 := w32_id (x := x5 + 1) (by omega) (by omega)
          exact hg x1 x2 y3 (w32 (x5 + 1)) (by omega)
        ·
          try dsimp +instances only
          unfold g_ca_bestSet_L141
          try dsimp +instances only
          try have ew_6 := w32_id (x := x5 + 1) (by omega) (by omega)
          exact hg x1 x5 y7 (w32 (x5 + 1)) (by omega)
    ·
      try dsimp +instances only
      refine zOp.ite (fun c_7 => ?_) (fun c_7 => ?_)
      ·
        try dsimp +instances only
        unfold g_ca_bestSet_L122
        try dsimp +instances only
        refine zOp.ite (fun c_8 => ?_) (fun c_8 => ?_)
        ·
          try dsimp +instances only
          unfold g_ca_bestSet_L141
          try dsimp +instances only
          try have ew_9 := w32_id (x := x5 + 1) (by omega) (by omega)
          exact hg x1 x2 y3 (w32 (x5 + 1)) (by omega)
        ·
          try dsimp +instances only
          refine zOp.ite (fun c_10 => ?_) (fun c_10 => ?_)
          ·
            try dsimp +instances only
            unfold g_ca_bestSet_L141
            try dsimp +instances only
            try have ew_11 := w32_id (x := x5 + 1) (by omega) (by omega)
            exact hg x1 x2 y3 (w32 (x5 + 1)) (by omega)
          ·
            try dsimp +instances only
            unfold g_ca_bestSet_L141
            try dsimp +instances only
            try have ew_12 := w32_id (x := x5 + 1) (by omega) (by omega)
            exact hg x1 x5 y7 (w32 (x5 + 1)) (by omega)
      ·
        try dsimp +instances only
        refine zOp.ite (fun c_13 => ?_) (fun c_13 => ?_)
        ·
          try dsimp +instances only
          refine zOp.gd (by omega) ?_
          try dsimp +instances only
          generalize hv_v_70 : σ (a0 + 4) x9 = v_70
          refine zOp.bindp (g_so_rowsIn_sp) (fun r_71 p_71 => ?_)
          try dsimp +instances only
          refine zOp.bindp (g_jLong_bitCount_sp) (fun r_74 p_74 => ?_)
          try dsimp +instances only
          refine zOp.bindp (g_se_of_sp (by omega)) (fun r_95 p_95 => ?_)
          try dsimp +instances only
          refine zOp.gd (by omega) ?_
          try dsimp +instances only
          generalize hv_v_109 : σ (a0 + 5) x9 = v_109
          try have ew_17 := w32_id (x := 1 + r_74) (by omega) (by omega)
          try have ew_18 := w32_id (x := r_95 + r_74) (by omega) (by omega)
          try have ew_19 := w32_id (x := x6 + (w32 (1 + r_74))) (by omega) (by omega)
          unfold g_ca_bestSet_L116
          try dsimp +instances only
          try have ew_20 := w32_id (x := x9 + 1) (by omega) (by omega)
          exact g_ca_bestSet_L32_sp (by omega) hg n x1 x2 y3 x5 (w32 (x6 + (w32 (1 + r_74)))) (w64 (y7 + (w64 ((w32 (r_95 + r_74)) * (w64 (1 + v_109)))))) (w32 (x9 + 1)) H (by omega) (by omega)
        ·
          try dsimp +instances only
          unfold g_ca_bestSet_L116
          try dsimp +instances only
          try have ew_21 := w32_id (x := x9 + 1) (by omega) (by omega)
          exact g_ca_bestSet_L32_sp (by omega) hg n x1 x2 y3 x5 x6 y7 (w32 (x9 + 1)) H (by omega) (by omega)
set_option maxHeartbeats 4000000 in
theorem g_ca_bestSet_L7_sp {a0 : Nat} (ha0 : a0 = 48 ∨ a0 = 106) {σ : zS} : ∀ (n : Nat) (x1 : Int) (x2 : Int) (y3 : Int) (x5 : Int) (H : CI σ), (1 ≤ x5 ∧ x5 ≤ 4096) → (4096 - x5) < (n : Int) → zOp (g_ca_bestSet_L7 a0 n x1 x2 y3 x5 σ) σ (fun v => True)
  | 0, _, _, _, _, _, hi, hm => by exfalso; omega
  | n + 1, x1, x2, y3, x5, H, hi, hm => by
    unfold g_ca_bestSet_L7
    try dsimp +instances only
    generalize hv_v_11 : σ a0 2 = v_11
    have rv_v_11 := CI.c2 (a := a0) H (by omega)
    rw [hv_v_11] at rv_v_11
    refine zOp.bindp (g_jMath_min_291_sp) (fun r_16 p_16 => ?_)
    try dsimp +instances only
    have hh := shl12 (x := r_16) (by omega) (by omega)
    refine zOp.ite (fun c_23 => ?_) (fun c_23 => ?_)
    ·
      try dsimp +instances only
      exact zOp.ret trivial
    ·
      try dsimp +instances only
      exact g_ca_bestSet_L32_sp (X5 := x5) (by omega) (fun y0 y1 y2 y3 hc => g_ca_bestSet_L7_sp (by omega) n y0 y1 y2 y3 H (by omega) (by omega)) zK x1 x2 y3 x5 0 0 0 H (by omega) (by show _ < (1000000 : Int); omega)
theorem g_ca_bestSet_sp {a0 : Nat} (ha0 : a0 = 48 ∨ a0 = 106) {x1 : Int} {σ : zS} (H : CI σ) : zOp (g_ca_bestSet a0 x1 σ) σ (fun v => True) := by
  unfold g_ca_bestSet
  try dsimp +instances only
  exact g_ca_bestSet_L7_sp (by omega) zK x1 0 0 1 H (by omega) (by show _ < (1000000 : Int); omega)
end
section
/-! 52.cls2 -/
/-! THE CLASS over the typed memory: each method answers, keeps the invariant, changes what fw_.. names (printed by wip/zv.py) -/
def fw_bs_add (a0 : Nat) (a : Nat) (j : Int) : Bool := (a == (a0 + 1)) || (((a == a0 && j == 1)) || false)
theorem g_bs_add_sp {a0 : Nat} (ha0 : a0 = 56 ∨ a0 = 58 ∨ a0 = 63 ∨ a0 = 96 ∨ a0 = 114 ∨ a0 = 116 ∨ a0 = 126 ∨ a0 = 131) {x1 : Int} {σ : zS} (H : CI σ) : zO (g_bs_add a0 x1 σ) (fun v s => CI s ∧ fr (fw_bs_add a0) σ s ∧ (True)) := by
  have F : fr (fw_bs_add a0) σ σ := fr.refl σ
  have ri_a0_1 := CI.c1 (a := a0) H (by omega)
  have hz_0 : 0 ≤ zLI (a0 + 1) ∧ zLI (a0 + 1) ≤ 181 := by rcases ha0 with rfl | rfl | rfl | rfl | rfl | rfl | rfl | rfl <;> decide
  unfold g_bs_add
  try dsimp +instances only
  generalize hv_v_1 : σ a0 1 = v_1
  have rv_v_1 := CI.c1 (a := a0) H (by omega)
  rw [hv_v_1] at rv_v_1
  refine zO.ite (fun c_1 => ?_) (fun c_1 => ?_)
  ·
    try dsimp +instances only
    exact zO.ret ⟨H, F, trivial⟩
  ·
    try dsimp +instances only
    refine zO.ite (fun c_2 => ?_) (fun c_2 => ?_)
    ·
      try dsimp +instances only
      refine zO.gd (by omega) ?_
      try dsimp +instances only
      generalize hs_s_30 : zu σ (a0 + 1) v_1 x1 = s_30
      have H_30 : CI s_30 := by rw [← hs_s_30]; exact CI_zun H (by omega) (by omega) (by rcases ha0 with rfl | rfl | rfl | rfl | rfl | rfl | rfl | rfl <;> rfl)
      have F_30 : fr (fw_bs_add a0) σ s_30 := by rw [← hs_s_30]; exact fr.zu F (by omega) (bl (beq_self_eq_true _))
      have e_s_30_a0_1 : s_30 a0 1 = σ a0 1 := by rw [← hs_s_30]; exact zu_c (by omega)
      generalize hv_v_33 : s_30 a0 1 = v_33
      have rv_v_33 := CI.c1 (a := a0) H_30 (by omega)
      rw [hv_v_33] at rv_v_33
      try have ew_3 := w32_id (x := v_33 + 1) (by omega) (by omega)
      generalize hs_s_38 : zu s_30 a0 1 (w32 (v_33 + 1)) = s_38
      have H_38 : CI s_38 := by rw [← hs_s_38]; exact CI_zuy H_30 (by omega) (by omega) (lo := 0) (hi := 181) (by rcases ha0 with rfl | rfl | rfl | rfl | rfl | rfl | rfl | rfl <;> rfl) (by omega) (by omega)
      have F_38 : fr (fw_bs_add a0) σ s_38 := by rw [← hs_s_38]; exact fr.zu F_30 (by omega) (br (bl (zbb _ _)))
      have e_s_38_a0_1 : s_38 a0 1 = (w32 (v_33 + 1)) := by rw [← hs_s_38]; exact zu_e rfl
      exact zO.ret ⟨H_38, F_38, trivial⟩
    ·
      try dsimp +instances only
      exact zO.ret ⟨H, F, trivial⟩
theorem g_bs_at_sp {a0 : Nat} (ha0 : a0 = 56 ∨ a0 = 58 ∨ a0 = 63 ∨ a0 = 96 ∨ a0 = 114 ∨ a0 = 116 ∨ a0 = 126 ∨ a0 = 131) {x1 : Int} {σ : zS} (H : CI σ) : zOp (g_bs_at a0 x1 σ) σ (fun v => True) := by
  have hz_0 : 0 ≤ zLI (a0 + 1) ∧ zLI (a0 + 1) ≤ 181 := by rcases ha0 with rfl | rfl | rfl | rfl | rfl | rfl | rfl | rfl <;> decide
  unfold g_bs_at
  try dsimp +instances only
  refine zOp.ite (fun c_1 => ?_) (fun c_1 => ?_)
  ·
    try dsimp +instances only
    exact zOp.ret trivial
  ·
    try dsimp +instances only
    generalize hv_v_6 : σ a0 1 = v_6
    have rv_v_6 := CI.c1 (a := a0) H (by omega)
    rw [hv_v_6] at rv_v_6
    refine zOp.ite (fun c_2 => ?_) (fun c_2 => ?_)
    ·
      try dsimp +instances only
      exact zOp.ret trivial
    ·
      try dsimp +instances only
      refine zOp.ite (fun c_3 => ?_) (fun c_3 => ?_)
      ·
        try dsimp +instances only
        exact zOp.ret trivial
      ·
        try dsimp +instances only
        refine zOp.gd (by omega) ?_
        try dsimp +instances only
        generalize hv_v_26 : σ (a0 + 1) x1 = v_26
        exact zOp.ret trivial
def fw_bs_copyFrom (a0 : Nat) (a1 : Nat) (a : Nat) (j : Int) : Bool := (fw_bs_add a0 a j) || (((a == a0 && j == 1)) || false)
set_option maxHeartbeats 4000000 in
theorem g_bs_copyFrom_L7_sp {a0 : Nat} {a1 : Nat} (ha0 : a0 = 56 ∨ a0 = 58 ∨ a0 = 63 ∨ a0 = 96 ∨ a0 = 114 ∨ a0 = 116) (ha1 : a1 = 56 ∨ a1 = 58 ∨ a1 = 63 ∨ a1 = 96 ∨ a1 = 114 ∨ a1 = 116) {σ0 : zS} : ∀ (n : Nat) (x2 : Int) (σ : zS), CI σ → fr (fw_bs_copyFrom a0 a1) σ0 σ → (0 ≤ x2 ∧ x2 ≤ 181) → (181 - x2) < (n : Int) → zO (g_bs_copyFrom_L7 a0 a1 n x2 σ) (fun v s => CI s ∧ fr (fw_bs_copyFrom a0 a1) σ0 s ∧ (True))
  | 0, _, σ, _, _, hi, hm => by exfalso; omega
  | n + 1, x2, σ, H, F, hi, hm => by
    unfold g_bs_copyFrom_L7
    try dsimp +instances only
    generalize hv_v_9 : σ a1 1 = v_9
    have rv_v_9 := CI.c1 (a := a1) H (by omega)
    rw [hv_v_9] at rv_v_9
    refine zO.ite (fun c_1 => ?_) (fun c_1 => ?_)
    ·
      try dsimp +instances only
      exact zO.ret ⟨H, F, trivial⟩
    ·
      try dsimp +instances only
      refine zO.bindp (g_bs_at_sp (by omega) H) (fun r_18 p_18 => ?_)
      try dsimp +instances only
      refine zO.bind (g_bs_add_sp (by omega) H) (fun r_21 t_21 p_21 => ?_)
      obtain ⟨H_21, G_21, q_21⟩ := p_21
      try dsimp +instances only
      have F_21 := F.trans (fr.mono G_21 (fun a j h => ffl h))
      try have ew_4 := w32_id (x := x2 + 1) (by omega) (by omega)
      exact g_bs_copyFrom_L7_sp (by omega) (by omega) n (w32 (x2 + 1)) t_21 H_21 F_21 (by omega) (by omega)
theorem g_bs_copyFrom_sp {a0 : Nat} {a1 : Nat} (ha0 : a0 = 56 ∨ a0 = 58 ∨ a0 = 63 ∨ a0 = 96 ∨ a0 = 114 ∨ a0 = 116) (ha1 : a1 = 56 ∨ a1 = 58 ∨ a1 = 63 ∨ a1 = 96 ∨ a1 = 114 ∨ a1 = 116) {σ : zS} (H : CI σ) : zO (g_bs_copyFrom a0 a1 σ) (fun v s => CI s ∧ fr (fw_bs_copyFrom a0 a1) σ s ∧ (True)) := by
  have F : fr (fw_bs_copyFrom a0 a1) σ σ := fr.refl σ
  unfold g_bs_copyFrom
  try dsimp +instances only
  generalize hs_s_2 : zu σ a0 1 0 = s_2
  have H_2 : CI s_2 := by rw [← hs_s_2]; exact CI_zuy H (by omega) (by omega) (lo := 0) (hi := 181) (by rcases ha0 with rfl | rfl | rfl | rfl | rfl | rfl <;> rcases ha1 with rfl | rfl | rfl | rfl | rfl | rfl <;> rfl) (by omega) (by omega)
  have F_2 : fr (fw_bs_copyFrom a0 a1) σ s_2 := by rw [← hs_s_2]; exact fr.zu F (by omega) (br (bl (zbb _ _)))
  exact g_bs_copyFrom_L7_sp (by omega) (by omega) zK 0 s_2 H_2 F_2 (by omega) (by show _ < (1000000 : Int); omega)
def fw_bs_addRest (a0 : Nat) (a : Nat) (j : Int) : Bool := (fw_bs_add a0 a j) || false
theorem g_bs_addRest_sp {a0 : Nat} (ha0 : a0 = 58 ∨ a0 = 116) {x1 : Int} {x2 : Int} {σ : zS} (H : CI σ) : zO (g_bs_addRest a0 x1 x2 σ) (fun v s => CI s ∧ fr (fw_bs_addRest a0) σ s ∧ (True)) := by
  have F : fr (fw_bs_addRest a0) σ σ := fr.refl σ
  unfold g_bs_addRest
  try dsimp +instances only
  refine zO.bindp (g_b_meet_sp) (fun r_2 p_2 => ?_)
  try dsimp +instances only
  refine zO.ite (fun c_2 => ?_) (fun c_2 => ?_)
  ·
    try dsimp +instances only
    refine zO.bindp (g_b_x0_sp) (fun r_16 p_16 => ?_)
    try dsimp +instances only
    refine zO.bindp (g_b_x1_sp) (fun r_21 p_21 => ?_)
    try dsimp +instances only
    refine zO.bindp (g_b_y0_sp) (fun r_27 p_27 => ?_)
    try dsimp +instances only
    refine zO.bindp (g_b_y1_sp) (fun r_33 p_33 => ?_)
    try dsimp +instances only
    refine zO.bindp (g_b_y0_sp) (fun r_41 p_41 => ?_)
    try dsimp +instances only
    refine zO.bindp (g_jMath_max_289_sp) (fun r_44 p_44 => ?_)
    try dsimp +instances only
    refine zO.bindp (g_b_y1_sp) (fun r_52 p_52 => ?_)
    try dsimp +instances only
    refine zO.bindp (g_jMath_min_291_sp) (fun r_55 p_55 => ?_)
    try dsimp +instances only
    refine zO.ite (fun c_11 => ?_) (fun c_11 => ?_)
    ·
      try dsimp +instances only
      unfold g_bs_addRest_L84
      try dsimp +instances only
      refine zO.ite (fun c_12 => ?_) (fun c_12 => ?_)
      ·
        try dsimp +instances only
        unfold g_bs_addRest_L108
        try dsimp +instances only
        refine zO.bindp (g_b_x0_sp) (fun r_110 p_110 => ?_)
        try dsimp +instances only
        refine zO.ite (fun c_14 => ?_) (fun c_14 => ?_)
        ·
          try dsimp +instances only
          unfold g_bs_addRest_L135
          try dsimp +instances only
          refine zO.bindp (g_b_x1_sp) (fun r_138 p_138 => ?_)
          try dsimp +instances only
          refine zO.ite (fun c_16 => ?_) (fun c_16 => ?_)
          ·
            try dsimp +instances only
            exact zO.ret ⟨H, F, trivial⟩
          ·
            try dsimp +instances only
            refine zO.bindp (g_b_x1_sp) (fun r_146 p_146 => ?_)
            try dsimp +instances only
            try have ew_18 := w32_id (x := r_146 + 1) (by omega) (by omega)
            refine zO.bindp (g_b_of_sp) (fun r_157 p_157 => ?_)
            try dsimp +instances only
            refine zO.bind (g_bs_add_sp (by omega) H) (fun r_160 t_160 p_160 => ?_)
            obtain ⟨H_160, G_160, q_160⟩ := p_160
            try dsimp +instances only
            have F_160 := F.trans (fr.mono G_160 (fun a j h => ffl h))
            exact zO.ret ⟨H_160, F_160, trivial⟩
        ·
          try dsimp +instances only
          refine zO.bindp (g_b_x0_sp) (fun r_119 p_119 => ?_)
          try dsimp +instances only
          try have ew_22 := w32_id (x := r_119 - 1) (by omega) (by omega)
          refine zO.bindp (g_b_of_sp) (fun r_128 p_128 => ?_)
          try dsimp +instances only
          refine zO.bind (g_bs_add_sp (by omega) H) (fun r_131 t_131 p_131 => ?_)
          obtain ⟨H_131, G_131, q_131⟩ := p_131
          try dsimp +instances only
          have F_131 := F.trans (fr.mono G_131 (fun a j h => ffl h))
          unfold g_bs_addRest_L135
          try dsimp +instances only
          refine zO.bindp (g_b_x1_sp) (fun r_138 p_138 => ?_)
          try dsimp +instances only
          refine zO.ite (fun c_26 => ?_) (fun c_26 => ?_)
          ·
            try dsimp +instances only
            exact zO.ret ⟨H_131, F_131, trivial⟩
          ·
            try dsimp +instances only
            refine zO.bindp (g_b_x1_sp) (fun r_146 p_146 => ?_)
            try dsimp +instances only
            try have ew_28 := w32_id (x := r_146 + 1) (by omega) (by omega)
            refine zO.bindp (g_b_of_sp) (fun r_157 p_157 => ?_)
            try dsimp +instances only
            refine zO.bind (g_bs_add_sp (by omega) H_131) (fun r_160 t_160 p_160 => ?_)
            obtain ⟨H_160, G_160, q_160⟩ := p_160
            try dsimp +instances only
            have F_160 := F_131.trans (fr.mono G_160 (fun a j h => ffl h))
            exact zO.ret ⟨H_160, F_160, trivial⟩
      ·
        try dsimp +instances only
        try have ew_31 := w32_id (x := r_55 + 1) (by omega) (by omega)
        refine zO.bindp (g_b_of_sp) (fun r_101 p_101 => ?_)
        try dsimp +instances only
        refine zO.bind (g_bs_add_sp (by omega) H) (fun r_104 t_104 p_104 => ?_)
        obtain ⟨H_104, G_104, q_104⟩ := p_104
        try dsimp +instances only
        have F_104 := F.trans (fr.mono G_104 (fun a j h => ffl h))
        unfold g_bs_addRest_L108
        try dsimp +instances only
        refine zO.bindp (g_b_x0_sp) (fun r_110 p_110 => ?_)
        try dsimp +instances only
        refine zO.ite (fun c_35 => ?_) (fun c_35 => ?_)
        ·
          try dsimp +instances only
          unfold g_bs_addRest_L135
          try dsimp +instances only
          refine zO.bindp (g_b_x1_sp) (fun r_138 p_138 => ?_)
          try dsimp +instances only
          refine zO.ite (fun c_37 => ?_) (fun c_37 => ?_)
          ·
            try dsimp +instances only
            exact zO.ret ⟨H_104, F_104, trivial⟩
          ·
            try dsimp +instances only
            refine zO.bindp (g_b_x1_sp) (fun r_146 p_146 => ?_)
            try dsimp +instances only
            try have ew_39 := w32_id (x := r_146 + 1) (by omega) (by omega)
            refine zO.bindp (g_b_of_sp) (fun r_157 p_157 => ?_)
            try dsimp +instances only
            refine zO.bind (g_bs_add_sp (by omega) H_104) (fun r_160 t_160 p_160 => ?_)
            obtain ⟨H_160, G_160, q_160⟩ := p_160
            try dsimp +instances only
            have F_160 := F_104.trans (fr.mono G_160 (fun a j h => ffl h))
            exact zO.ret ⟨H_160, F_160, trivial⟩
        ·
          try dsimp +instances only
          refine zO.bindp (g_b_x0_sp) (fun r_119 p_119 => ?_)
          try dsimp +instances only
          try have ew_43 := w32_id (x := r_119 - 1) (by omega) (by omega)
          refine zO.bindp (g_b_of_sp) (fun r_128 p_128 => ?_)
          try dsimp +instances only
          refine zO.bind (g_bs_add_sp (by omega) H_104) (fun r_131 t_131 p_131 => ?_)
          obtain ⟨H_131, G_131, q_131⟩ := p_131
          try dsimp +instances only
          have F_131 := F_104.trans (fr.mono G_131 (fun a j h => ffl h))
          unfold g_bs_addRest_L135
          try dsimp +instances only
          refine zO.bindp (g_b_x1_sp) (fun r_138 p_138 => ?_)
          try dsimp +instances only
          refine zO.ite (fun c_47 => ?_) (fun c_47 => ?_)
          ·
            try dsimp +instances only
            exact zO.ret ⟨H_131, F_131, trivial⟩
          ·
            try dsimp +instances only
            refine zO.bindp (g_b_x1_sp) (fun r_146 p_146 => ?_)
            try dsimp +instances only
            try have ew_49 := w32_id (x := r_146 + 1) (by omega) (by omega)
            refine zO.bindp (g_b_of_sp) (fun r_157 p_157 => ?_)
            try dsimp +instances only
            refine zO.bind (g_bs_add_sp (by omega) H_131) (fun r_160 t_160 p_160 => ?_)
            obtain ⟨H_160, G_160, q_160⟩ := p_160
            try dsimp +instances only
            have F_160 := F_131.trans (fr.mono G_160 (fun a j h => ffl h))
            exact zO.ret ⟨H_160, F_160, trivial⟩
    ·
      try dsimp +instances only
      try have ew_52 := w32_id (x := r_44 - 1) (by omega) (by omega)
      refine zO.bindp (g_b_of_sp) (fun r_77 p_77 => ?_)
      try dsimp +instances only
      refine zO.bind (g_bs_add_sp (by omega) H) (fun r_80 t_80 p_80 => ?_)
      obtain ⟨H_80, G_80, q_80⟩ := p_80
      try dsimp +instances only
      have F_80 := F.trans (fr.mono G_80 (fun a j h => ffl h))
      unfold g_bs_addRest_L84
      try dsimp +instances only
      refine zO.ite (fun c_55 => ?_) (fun c_55 => ?_)
      ·
        try dsimp +instances only
        unfold g_bs_addRest_L108
        try dsimp +instances only
        refine zO.bindp (g_b_x0_sp) (fun r_110 p_110 => ?_)
        try dsimp +instances only
        refine zO.ite (fun c_57 => ?_) (fun c_57 => ?_)
        ·
          try dsimp +instances only
          unfold g_bs_addRest_L135
          try dsimp +instances only
          refine zO.bindp (g_b_x1_sp) (fun r_138 p_138 => ?_)
          try dsimp +instances only
          refine zO.ite (fun c_59 => ?_) (fun c_59 => ?_)
          ·
            try dsimp +instances only
            exact zO.ret ⟨H_80, F_80, trivial⟩
          ·
            try dsimp +instances only
            refine zO.bindp (g_b_x1_sp) (fun r_146 p_146 => ?_)
            try dsimp +instances only
            try have ew_61 := w32_id (x := r_146 + 1) (by omega) (by omega)
            refine zO.bindp (g_b_of_sp) (fun r_157 p_157 => ?_)
            try dsimp +instances only
            refine zO.bind (g_bs_add_sp (by omega) H_80) (fun r_160 t_160 p_160 => ?_)
            obtain ⟨H_160, G_160, q_160⟩ := p_160
            try dsimp +instances only
            have F_160 := F_80.trans (fr.mono G_160 (fun a j h => ffl h))
            exact zO.ret ⟨H_160, F_160, trivial⟩
        ·
          try dsimp +instances only
          refine zO.bindp (g_b_x0_sp) (fun r_119 p_119 => ?_)
          try dsimp +instances only
          try have ew_65 := w32_id (x := r_119 - 1) (by omega) (by omega)
          refine zO.bindp (g_b_of_sp) (fun r_128 p_128 => ?_)
          try dsimp +instances only
          refine zO.bind (g_bs_add_sp (by omega) H_80) (fun r_131 t_131 p_131 => ?_)
          obtain ⟨H_131, G_131, q_131⟩ := p_131
          try dsimp +instances only
          have F_131 := F_80.trans (fr.mono G_131 (fun a j h => ffl h))
          unfold g_bs_addRest_L135
          try dsimp +instances only
          refine zO.bindp (g_b_x1_sp) (fun r_138 p_138 => ?_)
          try dsimp +instances only
          refine zO.ite (fun c_69 => ?_) (fun c_69 => ?_)
          ·
            try dsimp +instances only
            exact zO.ret ⟨H_131, F_131, trivial⟩
          ·
            try dsimp +instances only
            refine zO.bindp (g_b_x1_sp) (fun r_146 p_146 => ?_)
            try dsimp +instances only
            try have ew_71 := w32_id (x := r_146 + 1) (by omega) (by omega)
            refine zO.bindp (g_b_of_sp) (fun r_157 p_157 => ?_)
            try dsimp +instances only
            refine zO.bind (g_bs_add_sp (by omega) H_131) (fun r_160 t_160 p_160 => ?_)
            obtain ⟨H_160, G_160, q_160⟩ := p_160
            try dsimp +instances only
            have F_160 := F_131.trans (fr.mono G_160 (fun a j h => ffl h))
            exact zO.ret ⟨H_160, F_160, trivial⟩
      ·
        try dsimp +instances only
        try have ew_74 := w32_id (x := r_55 + 1) (by omega) (by omega)
        refine zO.bindp (g_b_of_sp) (fun r_101 p_101 => ?_)
        try dsimp +instances only
        refine zO.bind (g_bs_add_sp (by omega) H_80) (fun r_104 t_104 p_104 => ?_)
        obtain ⟨H_104, G_104, q_104⟩ := p_104
        try dsimp +instances only
        have F_104 := F_80.trans (fr.mono G_104 (fun a j h => ffl h))
        unfold g_bs_addRest_L108
        try dsimp +instances only
        refine zO.bindp (g_b_x0_sp) (fun r_110 p_110 => ?_)
        try dsimp +instances only
        refine zO.ite (fun c_78 => ?_) (fun c_78 => ?_)
        ·
          try dsimp +instances only
          unfold g_bs_addRest_L135
          try dsimp +instances only
          refine zO.bindp (g_b_x1_sp) (fun r_138 p_138 => ?_)
          try dsimp +instances only
          refine zO.ite (fun c_80 => ?_) (fun c_80 => ?_)
          ·
            try dsimp +instances only
            exact zO.ret ⟨H_104, F_104, trivial⟩
          ·
            try dsimp +instances only
            refine zO.bindp (g_b_x1_sp) (fun r_146 p_146 => ?_)
            try dsimp +instances only
            try have ew_82 := w32_id (x := r_146 + 1) (by omega) (by omega)
            refine zO.bindp (g_b_of_sp) (fun r_157 p_157 => ?_)
            try dsimp +instances only
            refine zO.bind (g_bs_add_sp (by omega) H_104) (fun r_160 t_160 p_160 => ?_)
            obtain ⟨H_160, G_160, q_160⟩ := p_160
            try dsimp +instances only
            have F_160 := F_104.trans (fr.mono G_160 (fun a j h => ffl h))
            exact zO.ret ⟨H_160, F_160, trivial⟩
        ·
          try dsimp +instances only
          refine zO.bindp (g_b_x0_sp) (fun r_119 p_119 => ?_)
          try dsimp +instances only
          try have ew_86 := w32_id (x := r_119 - 1) (by omega) (by omega)
          refine zO.bindp (g_b_of_sp) (fun r_128 p_128 => ?_)
          try dsimp +instances only
          refine zO.bind (g_bs_add_sp (by omega) H_104) (fun r_131 t_131 p_131 => ?_)
          obtain ⟨H_131, G_131, q_131⟩ := p_131
          try dsimp +instances only
          have F_131 := F_104.trans (fr.mono G_131 (fun a j h => ffl h))
          unfold g_bs_addRest_L135
          try dsimp +instances only
          refine zO.bindp (g_b_x1_sp) (fun r_138 p_138 => ?_)
          try dsimp +instances only
          refine zO.ite (fun c_90 => ?_) (fun c_90 => ?_)
          ·
            try dsimp +instances only
            exact zO.ret ⟨H_131, F_131, trivial⟩
          ·
            try dsimp +instances only
            refine zO.bindp (g_b_x1_sp) (fun r_146 p_146 => ?_)
            try dsimp +instances only
            try have ew_92 := w32_id (x := r_146 + 1) (by omega) (by omega)
            refine zO.bindp (g_b_of_sp) (fun r_157 p_157 => ?_)
            try dsimp +instances only
            refine zO.bind (g_bs_add_sp (by omega) H_131) (fun r_160 t_160 p_160 => ?_)
            obtain ⟨H_160, G_160, q_160⟩ := p_160
            try dsimp +instances only
            have F_160 := F_131.trans (fr.mono G_160 (fun a j h => ffl h))
            exact zO.ret ⟨H_160, F_160, trivial⟩
  ·
    try dsimp +instances only
    refine zO.bind (g_bs_add_sp (by omega) H) (fun r_10 t_10 p_10 => ?_)
    obtain ⟨H_10, G_10, q_10⟩ := p_10
    try dsimp +instances only
    have F_10 := F.trans (fr.mono G_10 (fun a j h => ffl h))
    exact zO.ret ⟨H_10, F_10, trivial⟩
def fw_bs_becomeRest (a0 : Nat) (a1 : Nat) (a : Nat) (j : Int) : Bool := (fw_bs_addRest a0 a j) || (((a == a0 && j == 1)) || false)
set_option maxHeartbeats 4000000 in
theorem g_bs_becomeRest_L7_sp {a0 : Nat} {a1 : Nat} (ha0 : a0 = 58 ∨ a0 = 116) (ha1 : a1 = 56 ∨ a1 = 114) {σ0 : zS} : ∀ (n : Nat) (x2 : Int) (x3 : Int) (σ : zS), CI σ → fr (fw_bs_becomeRest a0 a1) σ0 σ → (0 ≤ x3 ∧ x3 ≤ 181) → (181 - x3) < (n : Int) → zO (g_bs_becomeRest_L7 a0 a1 n x2 x3 σ) (fun v s => CI s ∧ fr (fw_bs_becomeRest a0 a1) σ0 s ∧ (True))
  | 0, _, _, σ, _, _, hi, hm => by exfalso; omega
  | n + 1, x2, x3, σ, H, F, hi, hm => by
    unfold g_bs_becomeRest_L7
    try dsimp +instances only
    generalize hv_v_9 : σ a1 1 = v_9
    have rv_v_9 := CI.c1 (a := a1) H (by omega)
    rw [hv_v_9] at rv_v_9
    refine zO.ite (fun c_1 => ?_) (fun c_1 => ?_)
    ·
      try dsimp +instances only
      exact zO.ret ⟨H, F, trivial⟩
    ·
      try dsimp +instances only
      refine zO.bindp (g_bs_at_sp (by omega) H) (fun r_18 p_18 => ?_)
      try dsimp +instances only
      refine zO.bind (g_bs_addRest_sp (by omega) H) (fun r_22 t_22 p_22 => ?_)
      obtain ⟨H_22, G_22, q_22⟩ := p_22
      try dsimp +instances only
      have F_22 := F.trans (fr.mono G_22 (fun a j h => ffl h))
      try have ew_4 := w32_id (x := x3 + 1) (by omega) (by omega)
      exact g_bs_becomeRest_L7_sp (by omega) (by omega) n x2 (w32 (x3 + 1)) t_22 H_22 F_22 (by omega) (by omega)
theorem g_bs_becomeRest_sp {a0 : Nat} {a1 : Nat} (ha0 : a0 = 58 ∨ a0 = 116) (ha1 : a1 = 56 ∨ a1 = 114) {x2 : Int} {σ : zS} (H : CI σ) : zO (g_bs_becomeRest a0 a1 x2 σ) (fun v s => CI s ∧ fr (fw_bs_becomeRest a0 a1) σ s ∧ (True)) := by
  have F : fr (fw_bs_becomeRest a0 a1) σ σ := fr.refl σ
  unfold g_bs_becomeRest
  try dsimp +instances only
  generalize hs_s_2 : zu σ a0 1 0 = s_2
  have H_2 : CI s_2 := by rw [← hs_s_2]; exact CI_zuy H (by omega) (by omega) (lo := 0) (hi := 181) (by rcases ha0 with rfl | rfl <;> rcases ha1 with rfl | rfl <;> rfl) (by omega) (by omega)
  have F_2 : fr (fw_bs_becomeRest a0 a1) σ s_2 := by rw [← hs_s_2]; exact fr.zu F (by omega) (br (bl (zbb _ _)))
  exact g_bs_becomeRest_L7_sp (by omega) (by omega) zK x2 0 s_2 H_2 F_2 (by omega) (by show _ < (1000000 : Int); omega)
def fw_ca_forgetAll (a0 : Nat) (a : Nat) (j : Int) : Bool := ((a == a0 && j == 2)) || (((a == a0 && j == 8)) || (((a == a0 && j == 9)) || (((a == a0 && j == 10)) || (((a == a0 && j == 11)) || (((a == a0 && j == 12)) || (((a == a0 && j == 13)) || (((a == a0 && j == 14)) || (((a == a0 && j == 15)) || false))))))))
theorem g_ca_forgetAll_sp {a0 : Nat} (ha0 : a0 = 48 ∨ a0 = 106) {σ : zS} (H : CI σ) : zO (g_ca_forgetAll a0 σ) (fun v s => CI s ∧ fr (fw_ca_forgetAll a0) σ s ∧ (True)) := by
  have F : fr (fw_ca_forgetAll a0) σ σ := fr.refl σ
  unfold g_ca_forgetAll
  try dsimp +instances only
  generalize hs_s_2 : zu σ a0 2 0 = s_2
  have H_2 : CI s_2 := by rw [← hs_s_2]; exact CI_zuy H (by omega) (by omega) (lo := 0) (hi := 181) (by rcases ha0 with rfl | rfl <;> rfl) (by omega) (by omega)
  have F_2 : fr (fw_ca_forgetAll a0) σ s_2 := by rw [← hs_s_2]; exact fr.zu F (by omega) (bl (zbb _ _))
  generalize hs_s_7 : zu s_2 a0 8 0 = s_7
  have H_7 : CI s_7 := by rw [← hs_s_7]; exact CI_zuy H_2 (by omega) (by omega) (lo := -2147483648) (hi := 2147483647) (by rcases ha0 with rfl | rfl <;> rfl) (by omega) (by omega)
  have F_7 : fr (fw_ca_forgetAll a0) σ s_7 := by rw [← hs_s_7]; exact fr.zu F_2 (by omega) (br (bl (zbb _ _)))
  generalize hs_s_12 : zu s_7 a0 9 0 = s_12
  have H_12 : CI s_12 := by rw [← hs_s_12]; exact CI_zun H_7 (by omega) (by omega) (by rcases ha0 with rfl | rfl <;> rfl)
  have F_12 : fr (fw_ca_forgetAll a0) σ s_12 := by rw [← hs_s_12]; exact fr.zu F_7 (by omega) (br (br (bl (zbb _ _))))
  generalize hs_s_17 : zu s_12 a0 10 0 = s_17
  have H_17 : CI s_17 := by rw [← hs_s_17]; exact CI_zun H_12 (by omega) (by omega) (by rcases ha0 with rfl | rfl <;> rfl)
  have F_17 : fr (fw_ca_forgetAll a0) σ s_17 := by rw [← hs_s_17]; exact fr.zu F_12 (by omega) (br (br (br (bl (zbb _ _)))))
  generalize hs_s_22 : zu s_17 a0 11 0 = s_22
  have H_22 : CI s_22 := by rw [← hs_s_22]; exact CI_zun H_17 (by omega) (by omega) (by rcases ha0 with rfl | rfl <;> rfl)
  have F_22 : fr (fw_ca_forgetAll a0) σ s_22 := by rw [← hs_s_22]; exact fr.zu F_17 (by omega) (br (br (br (br (bl (zbb _ _))))))
  generalize hs_s_27 : zu s_22 a0 12 0 = s_27
  have H_27 : CI s_27 := by rw [← hs_s_27]; exact CI_zun H_22 (by omega) (by omega) (by rcases ha0 with rfl | rfl <;> rfl)
  have F_27 : fr (fw_ca_forgetAll a0) σ s_27 := by rw [← hs_s_27]; exact fr.zu F_22 (by omega) (br (br (br (br (br (bl (zbb _ _)))))))
  generalize hs_s_32 : zu s_27 a0 13 0 = s_32
  have H_32 : CI s_32 := by rw [← hs_s_32]; exact CI_zun H_27 (by omega) (by omega) (by rcases ha0 with rfl | rfl <;> rfl)
  have F_32 : fr (fw_ca_forgetAll a0) σ s_32 := by rw [← hs_s_32]; exact fr.zu F_27 (by omega) (br (br (br (br (br (br (bl (zbb _ _))))))))
  generalize hs_s_37 : zu s_32 a0 14 0 = s_37
  have H_37 : CI s_37 := by rw [← hs_s_37]; exact CI_zun H_32 (by omega) (by omega) (by rcases ha0 with rfl | rfl <;> rfl)
  have F_37 : fr (fw_ca_forgetAll a0) σ s_37 := by rw [← hs_s_37]; exact fr.zu F_32 (by omega) (br (br (br (br (br (br (br (bl (zbb _ _)))))))))
  generalize hs_s_42 : zu s_37 a0 15 0 = s_42
  have H_42 : CI s_42 := by rw [← hs_s_42]; exact CI_zun H_37 (by omega) (by omega) (by rcases ha0 with rfl | rfl <;> rfl)
  have F_42 : fr (fw_ca_forgetAll a0) σ s_42 := by rw [← hs_s_42]; exact fr.zu F_37 (by omega) (br (br (br (br (br (br (br (br (bl (zbb _ _))))))))))
  exact zO.ret ⟨H_42, F_42, trivial⟩
def fw_se_copyFrom (a0 : Nat) (a1 : Nat) (a : Nat) (j : Int) : Bool := (a == (a0 + 1)) || false
theorem g_se_copyFrom_sp {a0 : Nat} {a1 : Nat} (ha0 : a0 = 49 ∨ a0 = 82 ∨ a0 = 107 ∨ a0 = 118) (ha1 : a1 = 49 ∨ a1 = 82 ∨ a1 = 107 ∨ a1 = 118) {σ : zS} (H : CI σ) : zO (g_se_copyFrom a0 a1 σ) (fun v s => CI s ∧ fr (fw_se_copyFrom a0 a1) σ s ∧ (True)) := by
  have F : fr (fw_se_copyFrom a0 a1) σ σ := fr.refl σ
  unfold g_se_copyFrom
  try dsimp +instances only
  generalize hs_s_12 : zcp σ (a1 + 1) 0 (a0 + 1) 0 7 = s_12
  have H_12 : CI s_12 := by rw [← hs_s_12]; exact CI_zcpn H (by omega) (by omega) (fun j => by rcases ha0 with rfl | rfl | rfl | rfl <;> rcases ha1 with rfl | rfl | rfl | rfl <;> rfl)
  have F_12 : fr (fw_se_copyFrom a0 a1) σ s_12 := by rw [← hs_s_12]; exact fr.zcp F (by omega) (fun j => bl (beq_self_eq_true _))
  exact zO.ret ⟨H_12, F_12, trivial⟩
def fw_ca_copyFrom (a0 : Nat) (a1 : Nat) (a : Nat) (j : Int) : Bool := (fw_se_copyFrom (a0 + 1) (a1 + 1) a j) || ((a == (a0 + 3)) || ((a == (a0 + 4)) || ((a == (a0 + 5)) || ((a == (a0 + 6)) || ((a == (a0 + 7)) || (((a == a0 && j == 2)) || (((a == a0 && j == 8)) || (((a == a0 && j == 9)) || (((a == a0 && j == 10)) || (((a == a0 && j == 11)) || (((a == a0 && j == 12)) || (((a == a0 && j == 13)) || (((a == a0 && j == 14)) || (((a == a0 && j == 15)) || false))))))))))))))
theorem g_ca_copyFrom_sp {a0 : Nat} {a1 : Nat} (ha0 : a0 = 48 ∨ a0 = 81) (ha1 : a1 = 48 ∨ a1 = 81) {σ : zS} (H : CI σ) : zO (g_ca_copyFrom a0 a1 σ) (fun v s => CI s ∧ fr (fw_ca_copyFrom a0 a1) σ s ∧ (True)) := by
  have F : fr (fw_ca_copyFrom a0 a1) σ σ := fr.refl σ
  unfold g_ca_copyFrom
  try dsimp +instances only
  refine zO.bind (g_se_copyFrom_sp (by omega) (by omega) H) (fun r_8 t_8 p_8 => ?_)
  obtain ⟨H_8, G_8, q_8⟩ := p_8
  try dsimp +instances only
  have F_8 := F.trans (fr.mono G_8 (fun a j h => ffl h))
  generalize hs_s_24 : zcp t_8 (a1 + 3) 0 (a0 + 3) 0 181 = s_24
  have H_24 : CI s_24 := by rw [← hs_s_24]; exact CI_zcpy H_8 (by omega) (by omega) (fun j k v h => by rcases ha0 with rfl | rfl <;> rcases ha1 with rfl | rfl <;> exact h)
  have F_24 : fr (fw_ca_copyFrom a0 a1) σ s_24 := by rw [← hs_s_24]; exact fr.zcp F_8 (by omega) (fun j => br (bl (beq_self_eq_true _)))
  generalize hs_s_40 : zcp s_24 (a1 + 4) 0 (a0 + 4) 0 181 = s_40
  have H_40 : CI s_40 := by rw [← hs_s_40]; exact CI_zcpn H_24 (by omega) (by omega) (fun j => by rcases ha0 with rfl | rfl <;> rcases ha1 with rfl | rfl <;> rfl)
  have F_40 : fr (fw_ca_copyFrom a0 a1) σ s_40 := by rw [← hs_s_40]; exact fr.zcp F_24 (by omega) (fun j => br (br (bl (beq_self_eq_true _))))
  generalize hs_s_56 : zcp s_40 (a1 + 5) 0 (a0 + 5) 0 181 = s_56
  have H_56 : CI s_56 := by rw [← hs_s_56]; exact CI_zcpn H_40 (by omega) (by omega) (fun j => by rcases ha0 with rfl | rfl <;> rcases ha1 with rfl | rfl <;> rfl)
  have F_56 : fr (fw_ca_copyFrom a0 a1) σ s_56 := by rw [← hs_s_56]; exact fr.zcp F_40 (by omega) (fun j => br (br (br (bl (beq_self_eq_true _)))))
  generalize hs_s_72 : zcp s_56 (a1 + 6) 0 (a0 + 6) 0 181 = s_72
  have H_72 : CI s_72 := by rw [← hs_s_72]; exact CI_zcpn H_56 (by omega) (by omega) (fun j => by rcases ha0 with rfl | rfl <;> rcases ha1 with rfl | rfl <;> rfl)
  have F_72 : fr (fw_ca_copyFrom a0 a1) σ s_72 := by rw [← hs_s_72]; exact fr.zcp F_56 (by omega) (fun j => br (br (br (br (bl (beq_self_eq_true _))))))
  generalize hs_s_88 : zcp s_72 (a1 + 7) 0 (a0 + 7) 0 181 = s_88
  have H_88 : CI s_88 := by rw [← hs_s_88]; exact CI_zcpn H_72 (by omega) (by omega) (fun j => by rcases ha0 with rfl | rfl <;> rcases ha1 with rfl | rfl <;> rfl)
  have F_88 : fr (fw_ca_copyFrom a0 a1) σ s_88 := by rw [← hs_s_88]; exact fr.zcp F_72 (by omega) (fun j => br (br (br (br (br (bl (beq_self_eq_true _)))))))
  generalize hv_v_93 : s_88 a1 2 = v_93
  have rv_v_93 := CI.c2 (a := a1) H_88 (by omega)
  rw [hv_v_93] at rv_v_93
  generalize hs_s_96 : zu s_88 a0 2 v_93 = s_96
  have H_96 : CI s_96 := by rw [← hs_s_96]; exact CI_zuy H_88 (by omega) (by omega) (lo := 0) (hi := 181) (by rcases ha0 with rfl | rfl <;> rcases ha1 with rfl | rfl <;> rfl) (by omega) (by omega)
  have F_96 : fr (fw_ca_copyFrom a0 a1) σ s_96 := by rw [← hs_s_96]; exact fr.zu F_88 (by omega) (br (br (br (br (br (br (bl (zbb _ _))))))))
  generalize hv_v_101 : s_96 a1 8 = v_101
  have rv_v_101 := CI.cx (a := a1) H_96 (by omega)
  rw [hv_v_101] at rv_v_101
  generalize hs_s_104 : zu s_96 a0 8 v_101 = s_104
  have H_104 : CI s_104 := by rw [← hs_s_104]; exact CI_zuy H_96 (by omega) (by omega) (lo := -2147483648) (hi := 2147483647) (by rcases ha0 with rfl | rfl <;> rcases ha1 with rfl | rfl <;> rfl) (by omega) (by omega)
  have F_104 : fr (fw_ca_copyFrom a0 a1) σ s_104 := by rw [← hs_s_104]; exact fr.zu F_96 (by omega) (br (br (br (br (br (br (br (bl (zbb _ _)))))))))
  generalize hv_v_109 : s_104 a1 9 = v_109
  generalize hs_s_112 : zu s_104 a0 9 v_109 = s_112
  have H_112 : CI s_112 := by rw [← hs_s_112]; exact CI_zun H_104 (by omega) (by omega) (by rcases ha0 with rfl | rfl <;> rcases ha1 with rfl | rfl <;> rfl)
  have F_112 : fr (fw_ca_copyFrom a0 a1) σ s_112 := by rw [← hs_s_112]; exact fr.zu F_104 (by omega) (br (br (br (br (br (br (br (br (bl (zbb _ _))))))))))
  generalize hv_v_117 : s_112 a1 10 = v_117
  generalize hs_s_120 : zu s_112 a0 10 v_117 = s_120
  have H_120 : CI s_120 := by rw [← hs_s_120]; exact CI_zun H_112 (by omega) (by omega) (by rcases ha0 with rfl | rfl <;> rcases ha1 with rfl | rfl <;> rfl)
  have F_120 : fr (fw_ca_copyFrom a0 a1) σ s_120 := by rw [← hs_s_120]; exact fr.zu F_112 (by omega) (br (br (br (br (br (br (br (br (br (bl (zbb _ _)))))))))))
  generalize hv_v_125 : s_120 a1 11 = v_125
  generalize hs_s_128 : zu s_120 a0 11 v_125 = s_128
  have H_128 : CI s_128 := by rw [← hs_s_128]; exact CI_zun H_120 (by omega) (by omega) (by rcases ha0 with rfl | rfl <;> rcases ha1 with rfl | rfl <;> rfl)
  have F_128 : fr (fw_ca_copyFrom a0 a1) σ s_128 := by rw [← hs_s_128]; exact fr.zu F_120 (by omega) (br (br (br (br (br (br (br (br (br (br (bl (zbb _ _))))))))))))
  generalize hv_v_133 : s_128 a1 12 = v_133
  generalize hs_s_136 : zu s_128 a0 12 v_133 = s_136
  have H_136 : CI s_136 := by rw [← hs_s_136]; exact CI_zun H_128 (by omega) (by omega) (by rcases ha0 with rfl | rfl <;> rcases ha1 with rfl | rfl <;> rfl)
  have F_136 : fr (fw_ca_copyFrom a0 a1) σ s_136 := by rw [← hs_s_136]; exact fr.zu F_128 (by omega) (br (br (br (br (br (br (br (br (br (br (br (bl (zbb _ _)))))))))))))
  generalize hv_v_141 : s_136 a1 13 = v_141
  generalize hs_s_144 : zu s_136 a0 13 v_141 = s_144
  have H_144 : CI s_144 := by rw [← hs_s_144]; exact CI_zun H_136 (by omega) (by omega) (by rcases ha0 with rfl | rfl <;> rcases ha1 with rfl | rfl <;> rfl)
  have F_144 : fr (fw_ca_copyFrom a0 a1) σ s_144 := by rw [← hs_s_144]; exact fr.zu F_136 (by omega) (br (br (br (br (br (br (br (br (br (br (br (br (bl (zbb _ _))))))))))))))
  generalize hv_v_149 : s_144 a1 14 = v_149
  generalize hs_s_152 : zu s_144 a0 14 v_149 = s_152
  have H_152 : CI s_152 := by rw [← hs_s_152]; exact CI_zun H_144 (by omega) (by omega) (by rcases ha0 with rfl | rfl <;> rcases ha1 with rfl | rfl <;> rfl)
  have F_152 : fr (fw_ca_copyFrom a0 a1) σ s_152 := by rw [← hs_s_152]; exact fr.zu F_144 (by omega) (br (br (br (br (br (br (br (br (br (br (br (br (br (bl (zbb _ _)))))))))))))))
  generalize hv_v_157 : s_152 a1 15 = v_157
  generalize hs_s_160 : zu s_152 a0 15 v_157 = s_160
  have H_160 : CI s_160 := by rw [← hs_s_160]; exact CI_zun H_152 (by omega) (by omega) (by rcases ha0 with rfl | rfl <;> rcases ha1 with rfl | rfl <;> rfl)
  have F_160 : fr (fw_ca_copyFrom a0 a1) σ s_160 := by rw [← hs_s_160]; exact fr.zu F_152 (by omega) (br (br (br (br (br (br (br (br (br (br (br (br (br (br (bl (zbb _ _))))))))))))))))
  exact zO.ret ⟨H_160, F_160, trivial⟩
def fw_ca_remove (a0 : Nat) (a : Nat) (j : Int) : Bool := ((a == a0 && j == 2)) || ((a == (a0 + 3)) || ((a == (a0 + 4)) || ((a == (a0 + 5)) || ((a == (a0 + 6)) || ((a == (a0 + 7)) || false)))))
set_option maxHeartbeats 4000000 in
theorem g_ca_remove_L4_sp {a0 : Nat} (ha0 : a0 = 48 ∨ a0 = 106) {σ0 : zS} : ∀ (n : Nat) (x2 : Int) (σ : zS), CI σ → fr (fw_ca_remove a0) σ0 σ → (1 ≤ x2 ∧ x2 ≤ 181 ∧ 1 ≤ σ a0 2 ∧ σ a0 2 = σ0 a0 2) → (181 - x2) < (n : Int) → zO (g_ca_remove_L4 a0 n x2 σ) (fun v s => CI s ∧ fr (fw_ca_remove a0) σ0 s ∧ (s a0 2 = σ0 a0 2 - 1))
  | 0, _, σ, _, _, hi, hm => by exfalso; omega
  | n + 1, x2, σ, H, F, hi, hm => by
    have ri_a0_2 := CI.c2 (a := a0) H (by omega)
    unfold g_ca_remove_L4
    try dsimp +instances only
    generalize hv_v_6 : σ a0 2 = v_6
    have rv_v_6 := CI.c2 (a := a0) H (by omega)
    rw [hv_v_6] at rv_v_6
    refine zO.ite (fun c_1 => ?_) (fun c_1 => ?_)
    ·
      try dsimp +instances only
      try have ew_2 := w32_id (x := v_6 - 1) (by omega) (by omega)
      generalize hs_s_95 : zu σ a0 2 (w32 (v_6 - 1)) = s_95
      have H_95 : CI s_95 := by rw [← hs_s_95]; exact CI_zuy H (by omega) (by omega) (lo := 0) (hi := 181) (by rcases ha0 with rfl | rfl <;> rfl) (by omega) (by omega)
      have F_95 : fr (fw_ca_remove a0) σ0 s_95 := by rw [← hs_s_95]; exact fr.zu F (by omega) (bl (zbb _ _))
      have e_s_95_a0_2 : s_95 a0 2 = (w32 (v_6 - 1)) := by rw [← hs_s_95]; exact zu_e rfl
      exact zO.ret ⟨H_95, F_95, (by omega)⟩
    ·
      try dsimp +instances only
      refine zO.gd (by omega) ?_
      try dsimp +instances only
      generalize hv_v_24 : σ (a0 + 3) x2 = v_24
      have rv_v_24 := CI.cy (a := a0 + 3) (j := x2) H (by omega)
      rw [hv_v_24] at rv_v_24
      try have ew_3 := w32_id (x := x2 - 1) (by omega) (by omega)
      refine zO.gd (by omega) ?_
      try dsimp +instances only
      generalize hs_s_25 : zu σ (a0 + 3) (w32 (x2 - 1)) v_24 = s_25
      have H_25 : CI s_25 := by rw [← hs_s_25]; exact CI_zuy H (by omega) (by omega) (lo := -2147483648) (hi := 2147483647) (by rcases ha0 with rfl | rfl <;> rfl) (by omega) (by omega)
      have F_25 : fr (fw_ca_remove a0) σ0 s_25 := by rw [← hs_s_25]; exact fr.zu F (by omega) (br (bl (beq_self_eq_true _)))
      have e_s_25_a0_2 : s_25 a0 2 = σ a0 2 := by rw [← hs_s_25]; exact zu_c (by omega)
      refine zO.gd (by omega) ?_
      try dsimp +instances only
      generalize hv_v_38 : s_25 (a0 + 4) x2 = v_38
      refine zO.gd (by omega) ?_
      try dsimp +instances only
      generalize hs_s_39 : zu s_25 (a0 + 4) (w32 (x2 - 1)) v_38 = s_39
      have H_39 : CI s_39 := by rw [← hs_s_39]; exact CI_zun H_25 (by omega) (by omega) (by rcases ha0 with rfl | rfl <;> rfl)
      have F_39 : fr (fw_ca_remove a0) σ0 s_39 := by rw [← hs_s_39]; exact fr.zu F_25 (by omega) (br (br (bl (beq_self_eq_true _))))
      have e_s_39_a0_2 : s_39 a0 2 = s_25 a0 2 := by rw [← hs_s_39]; exact zu_c (by omega)
      refine zO.gd (by omega) ?_
      try dsimp +instances only
      generalize hv_v_52 : s_39 (a0 + 5) x2 = v_52
      refine zO.gd (by omega) ?_
      try dsimp +instances only
      generalize hs_s_53 : zu s_39 (a0 + 5) (w32 (x2 - 1)) v_52 = s_53
      have H_53 : CI s_53 := by rw [← hs_s_53]; exact CI_zun H_39 (by omega) (by omega) (by rcases ha0 with rfl | rfl <;> rfl)
      have F_53 : fr (fw_ca_remove a0) σ0 s_53 := by rw [← hs_s_53]; exact fr.zu F_39 (by omega) (br (br (br (bl (beq_self_eq_true _)))))
      have e_s_53_a0_2 : s_53 a0 2 = s_39 a0 2 := by rw [← hs_s_53]; exact zu_c (by omega)
      refine zO.gd (by omega) ?_
      try dsimp +instances only
      generalize hv_v_66 : s_53 (a0 + 6) x2 = v_66
      refine zO.gd (by omega) ?_
      try dsimp +instances only
      generalize hs_s_67 : zu s_53 (a0 + 6) (w32 (x2 - 1)) v_66 = s_67
      have H_67 : CI s_67 := by rw [← hs_s_67]; exact CI_zun H_53 (by omega) (by omega) (by rcases ha0 with rfl | rfl <;> rfl)
      have F_67 : fr (fw_ca_remove a0) σ0 s_67 := by rw [← hs_s_67]; exact fr.zu F_53 (by omega) (br (br (br (br (bl (beq_self_eq_true _))))))
      have e_s_67_a0_2 : s_67 a0 2 = s_53 a0 2 := by rw [← hs_s_67]; exact zu_c (by omega)
      refine zO.gd (by omega) ?_
      try dsimp +instances only
      generalize hv_v_80 : s_67 (a0 + 7) x2 = v_80
      refine zO.gd (by omega) ?_
      try dsimp +instances only
      generalize hs_s_81 : zu s_67 (a0 + 7) (w32 (x2 - 1)) v_80 = s_81
      have H_81 : CI s_81 := by rw [← hs_s_81]; exact CI_zun H_67 (by omega) (by omega) (by rcases ha0 with rfl | rfl <;> rfl)
      have F_81 : fr (fw_ca_remove a0) σ0 s_81 := by rw [← hs_s_81]; exact fr.zu F_67 (by omega) (br (br (br (br (br (bl (beq_self_eq_true _)))))))
      have e_s_81_a0_2 : s_81 a0 2 = s_67 a0 2 := by rw [← hs_s_81]; exact zu_c (by omega)
      try have ew_4 := w32_id (x := x2 + 1) (by omega) (by omega)
      exact zO.imp (g_ca_remove_L4_sp (by omega) n (w32 (x2 + 1)) s_81 H_81 F_81 (by omega) (by omega)) (fun v s ⟨pa, pb, pc⟩ => ⟨pa, pb, by omega⟩)
theorem g_ca_remove_sp {a0 : Nat} (ha0 : a0 = 48 ∨ a0 = 106) {x1 : Int} {σ : zS} (H : CI σ) (hp : 0 ≤ x1 ∧ x1 < σ a0 2) : zO (g_ca_remove a0 x1 σ) (fun v s => CI s ∧ fr (fw_ca_remove a0) σ s ∧ (s a0 2 = σ a0 2 - 1)) := by
  have F : fr (fw_ca_remove a0) σ σ := fr.refl σ
  have ri_a0_2 := CI.c2 (a := a0) H (by omega)
  unfold g_ca_remove
  try dsimp +instances only
  try have ew_5 := w32_id (x := x1 + 1) (by omega) (by omega)
  exact zO.imp (g_ca_remove_L4_sp (by omega) zK (w32 (x1 + 1)) σ H F (by omega) (by show _ < (1000000 : Int); omega)) (fun v s ⟨pa, pb, pc⟩ => ⟨pa, pb, by omega⟩)
def fw_ca_mergeInto (a0 : Nat) (a : Nat) (j : Int) : Bool := (a == (a0 + 4)) || ((a == (a0 + 5)) || ((a == (a0 + 6)) || ((a == (a0 + 7)) || ((fw_ca_remove a0 a j) || (((a == a0 && j == 14)) || false)))))
theorem g_ca_mergeInto_sp {a0 : Nat} (ha0 : a0 = 48 ∨ a0 = 106) {x1 : Int} {x2 : Int} {σ : zS} (H : CI σ) (hp : 0 ≤ x1 ∧ x1 < σ a0 2 ∧ 0 ≤ x2 ∧ x2 < σ a0 2) : zO (g_ca_mergeInto a0 x1 x2 σ) (fun v s => CI s ∧ fr (fw_ca_mergeInto a0) σ s ∧ (s a0 2 = σ a0 2 - 1)) := by
  have F : fr (fw_ca_mergeInto a0) σ σ := fr.refl σ
  have ri_a0_2 := CI.c2 (a := a0) H (by omega)
  unfold g_ca_mergeInto
  try dsimp +instances only
  refine zO.gd (by omega) ?_
  try dsimp +instances only
  generalize hv_v_10 : σ (a0 + 4) x1 = v_10
  refine zO.gd (by omega) ?_
  try dsimp +instances only
  generalize hv_v_16 : σ (a0 + 4) x2 = v_16
  refine zO.bindp (g_b_around_sp) (fun r_17 p_17 => ?_)
  try dsimp +instances only
  refine zO.gd (by omega) ?_
  try dsimp +instances only
  generalize hs_s_20 : zu σ (a0 + 4) x1 r_17 = s_20
  have H_20 : CI s_20 := by rw [← hs_s_20]; exact CI_zun H (by omega) (by omega) (by rcases ha0 with rfl | rfl <;> rfl)
  have F_20 : fr (fw_ca_mergeInto a0) σ s_20 := by rw [← hs_s_20]; exact fr.zu F (by omega) (bl (beq_self_eq_true _))
  have e_s_20_a0_2 : s_20 a0 2 = σ a0 2 := by rw [← hs_s_20]; exact zu_c (by omega)
  refine zO.gd (by omega) ?_
  try dsimp +instances only
  generalize hv_v_34 : s_20 (a0 + 5) x1 = v_34
  refine zO.gd (by omega) ?_
  try dsimp +instances only
  generalize hv_v_40 : s_20 (a0 + 5) x2 = v_40
  try have ew_2 := w32_id (x := v_34 + v_40) (by omega) (by omega)
  refine zO.bindp (g_jMath_min_291_sp) (fun r_42 p_42 => ?_)
  try dsimp +instances only
  refine zO.gd (by omega) ?_
  try dsimp +instances only
  generalize hs_s_45 : zu s_20 (a0 + 5) x1 r_42 = s_45
  have H_45 : CI s_45 := by rw [← hs_s_45]; exact CI_zun H_20 (by omega) (by omega) (by rcases ha0 with rfl | rfl <;> rfl)
  have F_45 : fr (fw_ca_mergeInto a0) σ s_45 := by rw [← hs_s_45]; exact fr.zu F_20 (by omega) (br (bl (beq_self_eq_true _)))
  have e_s_45_a0_2 : s_45 a0 2 = s_20 a0 2 := by rw [← hs_s_45]; exact zu_c (by omega)
  refine zO.gd (by omega) ?_
  try dsimp +instances only
  generalize hv_v_56 : s_45 (a0 + 6) x1 = v_56
  refine zO.gd (by omega) ?_
  try dsimp +instances only
  generalize hv_v_62 : s_45 (a0 + 6) x2 = v_62
  refine zO.bindp (g_b_around_sp) (fun r_63 p_63 => ?_)
  try dsimp +instances only
  refine zO.gd (by omega) ?_
  try dsimp +instances only
  generalize hs_s_66 : zu s_45 (a0 + 6) x1 r_63 = s_66
  have H_66 : CI s_66 := by rw [← hs_s_66]; exact CI_zun H_45 (by omega) (by omega) (by rcases ha0 with rfl | rfl <;> rfl)
  have F_66 : fr (fw_ca_mergeInto a0) σ s_66 := by rw [← hs_s_66]; exact fr.zu F_45 (by omega) (br (br (bl (beq_self_eq_true _))))
  have e_s_66_a0_2 : s_66 a0 2 = s_45 a0 2 := by rw [← hs_s_66]; exact zu_c (by omega)
  refine zO.gd (by omega) ?_
  try dsimp +instances only
  generalize hv_v_77 : s_66 (a0 + 7) x1 = v_77
  refine zO.gd (by omega) ?_
  try dsimp +instances only
  generalize hv_v_83 : s_66 (a0 + 7) x2 = v_83
  refine zO.bindp (g_jMath_max_290_sp) (fun r_84 p_84 => ?_)
  try dsimp +instances only
  refine zO.gd (by omega) ?_
  try dsimp +instances only
  generalize hs_s_87 : zu s_66 (a0 + 7) x1 r_84 = s_87
  have H_87 : CI s_87 := by rw [← hs_s_87]; exact CI_zun H_66 (by omega) (by omega) (by rcases ha0 with rfl | rfl <;> rfl)
  have F_87 : fr (fw_ca_mergeInto a0) σ s_87 := by rw [← hs_s_87]; exact fr.zu F_66 (by omega) (br (br (br (bl (beq_self_eq_true _)))))
  have e_s_87_a0_2 : s_87 a0 2 = s_66 a0 2 := by rw [← hs_s_87]; exact zu_c (by omega)
  refine zO.bind (g_ca_remove_sp (by omega) H_87 (by omega)) (fun r_90 t_90 p_90 => ?_)
  obtain ⟨H_90, G_90, q_90⟩ := p_90
  try dsimp +instances only
  have F_90 := F_87.trans (fr.mono G_90 (fun a j h => ffl (ffr (ffr (ffr (ffr h))))))
  generalize hv_v_95 : t_90 a0 14 = v_95
  try have ew_7 := w32_id (x := v_95 + 1) (by omega) (by omega)
  generalize hs_s_100 : zu t_90 a0 14 (w32 (v_95 + 1)) = s_100
  have H_100 : CI s_100 := by rw [← hs_s_100]; exact CI_zun H_90 (by omega) (by omega) (by rcases ha0 with rfl | rfl <;> rfl)
  have F_100 : fr (fw_ca_mergeInto a0) σ s_100 := by rw [← hs_s_100]; exact fr.zu F_90 (by omega) (br (br (br (br (br (bl (zbb _ _)))))))
  have e_s_100_a0_2 : s_100 a0 2 = t_90 a0 2 := by rw [← hs_s_100]; exact zu_c (by omega)
  exact zO.ret ⟨H_100, F_100, (by omega)⟩
def fw_ca_merge (a0 : Nat) (a : Nat) (j : Int) : Bool := (fw_ca_mergeInto a0 a j) || false
set_option maxHeartbeats 4000000 in
theorem g_ca_merge_L17_sp {a0 : Nat} (ha0 : a0 = 48 ∨ a0 = 106) {σ0 : zS} : ∀ (n : Nat) (x1 : Int) (x2 : Int) (σ : zS), CI σ → fr (fw_ca_merge a0) σ0 σ → (0 ≤ x1 ∧ x1 ≤ 181 ∧ 0 ≤ x2 ∧ x2 ≤ 100000) → (x2) < (n : Int) → zO (g_ca_merge_L17 a0 n x1 x2 σ) (fun v s => CI s ∧ fr (fw_ca_merge a0) σ0 s ∧ (True))
  | 0, _, _, σ, _, _, hi, hm => by exfalso; omega
  | n + 1, x1, x2, σ, H, F, hi, hm => by
    unfold g_ca_merge_L17
    try dsimp +instances only
    refine zO.ite (fun c_1 => ?_) (fun c_1 => ?_)
    ·
      try dsimp +instances only
      exact zO.ret ⟨H, F, trivial⟩
    ·
      try dsimp +instances only
      generalize hv_v_23 : σ a0 2 = v_23
      have rv_v_23 := CI.c2 (a := a0) H (by omega)
      rw [hv_v_23] at rv_v_23
      refine zO.ite (fun c_2 => ?_) (fun c_2 => ?_)
      ·
        try dsimp +instances only
        exact zO.ret ⟨H, F, trivial⟩
      ·
        try dsimp +instances only
        refine zO.bindp (g_ca_otherBehind_sp (by omega) H (by omega)) (fun r_31 p_31 => ?_)
        try dsimp +instances only
        refine zO.ite (fun c_4 => ?_) (fun c_4 => ?_)
        ·
          try dsimp +instances only
          refine zO.bind (g_ca_mergeInto_sp (by omega) H (by omega)) (fun r_48 t_48 p_48 => ?_)
          obtain ⟨H_48, G_48, q_48⟩ := p_48
          try dsimp +instances only
          have F_48 := F.trans (fr.mono G_48 (fun a j h => ffl h))
          refine zO.bindp (g_ca_earliestFor_sp (by omega) H_48 (by omega)) (fun r_53 p_53 => ?_)
          try dsimp +instances only
          unfold g_ca_merge_L57
          try dsimp +instances only
          try have ew_7 := w32_id (x := x2 - 1) (by omega) (by omega)
          exact g_ca_merge_L17_sp (by omega) n r_53 (w32 (x2 - 1)) t_48 H_48 F_48 (by omega) (by omega)
        ·
          try dsimp +instances only
          try have ew_8 := w32_id (x := x1 + 1) (by omega) (by omega)
          unfold g_ca_merge_L57
          try dsimp +instances only
          try have ew_9 := w32_id (x := x2 - 1) (by omega) (by omega)
          exact g_ca_merge_L17_sp (by omega) n (w32 (x1 + 1)) (w32 (x2 - 1)) σ H F (by omega) (by omega)
theorem g_ca_merge_sp {a0 : Nat} (ha0 : a0 = 48 ∨ a0 = 106) {σ : zS} (H : CI σ) : zO (g_ca_merge a0 σ) (fun v s => CI s ∧ fr (fw_ca_merge a0) σ s ∧ (True)) := by
  have F : fr (fw_ca_merge a0) σ σ := fr.refl σ
  unfold g_ca_merge
  try dsimp +instances only
  refine zO.bindp (g_se_of_sp (by omega)) (fun r_5 p_5 => ?_)
  try dsimp +instances only
  refine zO.ite (fun c_11 => ?_) (fun c_11 => ?_)
  ·
    try dsimp +instances only
    exact g_ca_merge_L17_sp (by omega) zK 0 100000 σ H F (by omega) (by show _ < (1000000 : Int); omega)
  ·
    try dsimp +instances only
    exact zO.ret ⟨H, F, trivial⟩
def fw_ca_weigh (a0 : Nat) (a : Nat) (j : Int) : Bool := (a == (a0 + 7)) || false
theorem g_ca_weigh_sp {a0 : Nat} (ha0 : a0 = 48 ∨ a0 = 106) {x1 : Int} {σ : zS} (H : CI σ) (hp : 0 ≤ x1 ∧ x1 < 181) : zO (g_ca_weigh a0 x1 σ) (fun v s => CI s ∧ fr (fw_ca_weigh a0) σ s ∧ (s a0 2 = σ a0 2)) := by
  have F : fr (fw_ca_weigh a0) σ σ := fr.refl σ
  have ri_a0_2 := CI.c2 (a := a0) H (by omega)
  unfold g_ca_weigh
  try dsimp +instances only
  refine zO.gd (by omega) ?_
  try dsimp +instances only
  generalize hv_v_9 : σ (a0 + 4) x1 = v_9
  refine zO.bindp (g_so_rowsIn_sp) (fun r_10 p_10 => ?_)
  try dsimp +instances only
  refine zO.bindp (g_jLong_bitCount_sp) (fun r_13 p_13 => ?_)
  try dsimp +instances only
  refine zO.bindp (g_se_of_sp (by omega)) (fun r_22 p_22 => ?_)
  try dsimp +instances only
  generalize hv_v_35 : σ a0 9 = v_35
  refine zO.gd (by omega) ?_
  try dsimp +instances only
  generalize hv_v_49 : σ (a0 + 5) x1 = v_49
  try have ew_4 := w32_id (x := 1 + r_13) (by omega) (by omega)
  refine zO.ite (fun c_5 => ?_) (fun c_5 => ?_)
  ·
    try dsimp +instances only
    exfalso; omega
  ·
    try dsimp +instances only
    refine zO.gd (by omega) ?_
    try dsimp +instances only
    try have ew_6 := w32_id (x := 1 + v_49) (by omega) (by omega)
    try have ew_7 := w32_id (x := r_22 + r_13) (by omega) (by omega)
    generalize hs_s_59 : zu σ (a0 + 7) x1 (w64 (v_35 + (w64 (Int.tdiv (w64 ((w64 (1000 * (w32 (r_22 + r_13)))) * (w32 (1 + v_49)))) (w32 (1 + r_13)))))) = s_59
    have H_59 : CI s_59 := by rw [← hs_s_59]; exact CI_zun H (by omega) (by omega) (by rcases ha0 with rfl | rfl <;> rfl)
    have F_59 : fr (fw_ca_weigh a0) σ s_59 := by rw [← hs_s_59]; exact fr.zu F (by omega) (bl (beq_self_eq_true _))
    have e_s_59_a0_2 : s_59 a0 2 = σ a0 2 := by rw [← hs_s_59]; exact zu_c (by omega)
    exact zO.ret ⟨H_59, F_59, (by omega)⟩
def fw_ca_giveUp (a0 : Nat) (a : Nat) (j : Int) : Bool := (fw_ca_remove a0 a j) || (((a == a0 && j == 12)) || ((a == (a0 + 4)) || ((a == (a0 + 6)) || ((a == (a0 + 5)) || ((fw_ca_weigh a0 a j) || (((a == a0 && j == 13)) || (((a == a0 && j == 9)) || false)))))))
theorem g_ca_giveUp_sp {a0 : Nat} (ha0 : a0 = 48 ∨ a0 = 106) {x1 : Int} {σ : zS} (H : CI σ) (hp : 0 ≤ x1 ∧ x1 < σ a0 2) : zO (g_ca_giveUp a0 x1 σ) (fun v s => CI s ∧ fr (fw_ca_giveUp a0) σ s ∧ (True)) := by
  have F : fr (fw_ca_giveUp a0) σ σ := fr.refl σ
  have ri_a0_2 := CI.c2 (a := a0) H (by omega)
  unfold g_ca_giveUp
  try dsimp +instances only
  generalize hv_v_2 : σ a0 9 = v_2
  refine zO.gd (by omega) ?_
  try dsimp +instances only
  generalize hv_v_10 : σ (a0 + 7) x1 = v_10
  refine zO.bindp (g_jMath_max_290_sp) (fun r_11 p_11 => ?_)
  try dsimp +instances only
  generalize hs_s_14 : zu σ a0 9 r_11 = s_14
  have H_14 : CI s_14 := by rw [← hs_s_14]; exact CI_zun H (by omega) (by omega) (by rcases ha0 with rfl | rfl <;> rfl)
  have F_14 : fr (fw_ca_giveUp a0) σ s_14 := by rw [← hs_s_14]; exact fr.zu F (by omega) (br (br (br (br (br (br (br (bl (zbb _ _)))))))))
  have e_s_14_a0_2 : s_14 a0 2 = σ a0 2 := by rw [← hs_s_14]; exact zu_c (by omega)
  refine zO.gd (by omega) ?_
  try dsimp +instances only
  generalize hv_v_22 : s_14 (a0 + 6) x1 = v_22
  refine zO.ite (fun c_2 => ?_) (fun c_2 => ?_)
  ·
    try dsimp +instances only
    unfold g_ca_giveUp_L52
    try dsimp +instances only
    unfold g_ca_giveUp_L53
    try dsimp +instances only
    refine zO.bindp (g_se_of_sp (by omega)) (fun r_59 p_59 => ?_)
    try dsimp +instances only
    refine zO.ite (fun c_4 => ?_) (fun c_4 => ?_)
    ·
      try dsimp +instances only
      unfold g_ca_giveUp_L69
      try dsimp +instances only
      refine zO.bind (g_ca_remove_sp (by omega) H_14 (by omega)) (fun r_71 t_71 p_71 => ?_)
      obtain ⟨H_71, G_71, q_71⟩ := p_71
      try dsimp +instances only
      have F_71 := F_14.trans (fr.mono G_71 (fun a j h => ffl h))
      generalize hv_v_76 : t_71 a0 12 = v_76
      try have ew_6 := w32_id (x := v_76 + 1) (by omega) (by omega)
      generalize hs_s_81 : zu t_71 a0 12 (w32 (v_76 + 1)) = s_81
      have H_81 : CI s_81 := by rw [← hs_s_81]; exact CI_zun H_71 (by omega) (by omega) (by rcases ha0 with rfl | rfl <;> rfl)
      have F_81 : fr (fw_ca_giveUp a0) σ s_81 := by rw [← hs_s_81]; exact fr.zu F_71 (by omega) (br (bl (zbb _ _)))
      have e_s_81_a0_2 : s_81 a0 2 = t_71 a0 2 := by rw [← hs_s_81]; exact zu_c (by omega)
      exact zO.ret ⟨H_81, F_81, trivial⟩
    ·
      try dsimp +instances only
      refine zO.ite (fun c_7 => ?_) (fun c_7 => ?_)
      ·
        try dsimp +instances only
        refine zO.gd (by omega) ?_
        try dsimp +instances only
        generalize hv_v_95 : s_14 (a0 + 6) x1 = v_95
        refine zO.gd (by omega) ?_
        try dsimp +instances only
        generalize hs_s_96 : zu s_14 (a0 + 4) x1 v_95 = s_96
        have H_96 : CI s_96 := by rw [← hs_s_96]; exact CI_zun H_14 (by omega) (by omega) (by rcases ha0 with rfl | rfl <;> rfl)
        have F_96 : fr (fw_ca_giveUp a0) σ s_96 := by rw [← hs_s_96]; exact fr.zu F_14 (by omega) (br (br (bl (beq_self_eq_true _))))
        have e_s_96_a0_2 : s_96 a0 2 = s_14 a0 2 := by rw [← hs_s_96]; exact zu_c (by omega)
        refine zO.gd (by omega) ?_
        try dsimp +instances only
        generalize hs_s_103 : zu s_96 (a0 + 6) x1 (-1) = s_103
        have H_103 : CI s_103 := by rw [← hs_s_103]; exact CI_zun H_96 (by omega) (by omega) (by rcases ha0 with rfl | rfl <;> rfl)
        have F_103 : fr (fw_ca_giveUp a0) σ s_103 := by rw [← hs_s_103]; exact fr.zu F_96 (by omega) (br (br (br (bl (beq_self_eq_true _)))))
        have e_s_103_a0_2 : s_103 a0 2 = s_96 a0 2 := by rw [← hs_s_103]; exact zu_c (by omega)
        refine zO.gd (by omega) ?_
        try dsimp +instances only
        generalize hv_v_110 : s_103 (a0 + 5) x1 = v_110
        refine zO.gd (by omega) ?_
        try dsimp +instances only
        try have ew_8 := w32_id (x := Int.tdiv v_110 2) (by omega) (by omega)
        generalize hs_s_113 : zu s_103 (a0 + 5) x1 (w32 (Int.tdiv v_110 2)) = s_113
        have H_113 : CI s_113 := by rw [← hs_s_113]; exact CI_zun H_103 (by omega) (by omega) (by rcases ha0 with rfl | rfl <;> rfl)
        have F_113 : fr (fw_ca_giveUp a0) σ s_113 := by rw [← hs_s_113]; exact fr.zu F_103 (by omega) (br (br (br (br (bl (beq_self_eq_true _))))))
        have e_s_113_a0_2 : s_113 a0 2 = s_103 a0 2 := by rw [← hs_s_113]; exact zu_c (by omega)
        refine zO.bind (g_ca_weigh_sp (by omega) H_113 (by omega)) (fun r_116 t_116 p_116 => ?_)
        obtain ⟨H_116, G_116, q_116⟩ := p_116
        try dsimp +instances only
        have F_116 := F_113.trans (fr.mono G_116 (fun a j h => ffl (ffr (ffr (ffr (ffr (ffr h)))))))
        have e_t_116_a0_2 := G_116 a0 2 (Or.inr (by rcases ha0 with rfl | rfl <;> rfl))
        generalize hv_v_121 : t_116 a0 13 = v_121
        try have ew_10 := w32_id (x := v_121 + 1) (by omega) (by omega)
        generalize hs_s_126 : zu t_116 a0 13 (w32 (v_121 + 1)) = s_126
        have H_126 : CI s_126 := by rw [← hs_s_126]; exact CI_zun H_116 (by omega) (by omega) (by rcases ha0 with rfl | rfl <;> rfl)
        have F_126 : fr (fw_ca_giveUp a0) σ s_126 := by rw [← hs_s_126]; exact fr.zu F_116 (by omega) (br (br (br (br (br (br (bl (zbb _ _))))))))
        have e_s_126_a0_2 : s_126 a0 2 = t_116 a0 2 := by rw [← hs_s_126]; exact zu_c (by omega)
        exact zO.ret ⟨H_126, F_126, trivial⟩
      ·
        try dsimp +instances only
        unfold g_ca_giveUp_L69
        try dsimp +instances only
        refine zO.bind (g_ca_remove_sp (by omega) H_14 (by omega)) (fun r_71 t_71 p_71 => ?_)
        obtain ⟨H_71, G_71, q_71⟩ := p_71
        try dsimp +instances only
        have F_71 := F_14.trans (fr.mono G_71 (fun a j h => ffl h))
        generalize hv_v_76 : t_71 a0 12 = v_76
        try have ew_12 := w32_id (x := v_76 + 1) (by omega) (by omega)
        generalize hs_s_81 : zu t_71 a0 12 (w32 (v_76 + 1)) = s_81
        have H_81 : CI s_81 := by rw [← hs_s_81]; exact CI_zun H_71 (by omega) (by omega) (by rcases ha0 with rfl | rfl <;> rfl)
        have F_81 : fr (fw_ca_giveUp a0) σ s_81 := by rw [← hs_s_81]; exact fr.zu F_71 (by omega) (br (bl (zbb _ _)))
        have e_s_81_a0_2 : s_81 a0 2 = t_71 a0 2 := by rw [← hs_s_81]; exact zu_c (by omega)
        exact zO.ret ⟨H_81, F_81, trivial⟩
  ·
    try dsimp +instances only
    refine zO.gd (by omega) ?_
    try dsimp +instances only
    refine zO.bindp (g_b_area_sp) (fun r_33 p_33 => ?_)
    try dsimp +instances only
    refine zO.gd (by omega) ?_
    try dsimp +instances only
    generalize hv_v_41 : s_14 (a0 + 4) x1 = v_41
    refine zO.bindp (g_b_area_sp) (fun r_42 p_42 => ?_)
    try dsimp +instances only
    refine zO.ite (fun c_15 => ?_) (fun c_15 => ?_)
    ·
      try dsimp +instances only
      unfold g_ca_giveUp_L52
      try dsimp +instances only
      unfold g_ca_giveUp_L53
      try dsimp +instances only
      refine zO.bindp (g_se_of_sp (by omega)) (fun r_59 p_59 => ?_)
      try dsimp +instances only
      refine zO.ite (fun c_17 => ?_) (fun c_17 => ?_)
      ·
        try dsimp +instances only
        unfold g_ca_giveUp_L69
        try dsimp +instances only
        refine zO.bind (g_ca_remove_sp (by omega) H_14 (by omega)) (fun r_71 t_71 p_71 => ?_)
        obtain ⟨H_71, G_71, q_71⟩ := p_71
        try dsimp +instances only
        have F_71 := F_14.trans (fr.mono G_71 (fun a j h => ffl h))
        generalize hv_v_76 : t_71 a0 12 = v_76
        try have ew_19 := w32_id (x := v_76 + 1) (by omega) (by omega)
        generalize hs_s_81 : zu t_71 a0 12 (w32 (v_76 + 1)) = s_81
        have H_81 : CI s_81 := by rw [← hs_s_81]; exact CI_zun H_71 (by omega) (by omega) (by rcases ha0 with rfl | rfl <;> rfl)
        have F_81 : fr (fw_ca_giveUp a0) σ s_81 := by rw [← hs_s_81]; exact fr.zu F_71 (by omega) (br (bl (zbb _ _)))
        have e_s_81_a0_2 : s_81 a0 2 = t_71 a0 2 := by rw [← hs_s_81]; exact zu_c (by omega)
        exact zO.ret ⟨H_81, F_81, trivial⟩
      ·
        try dsimp +instances only
        refine zO.ite (fun c_20 => ?_) (fun c_20 => ?_)
        ·
          try dsimp +instances only
          refine zO.gd (by omega) ?_
          try dsimp +instances only
          generalize hv_v_95 : s_14 (a0 + 6) x1 = v_95
          refine zO.gd (by omega) ?_
          try dsimp +instances only
          generalize hs_s_96 : zu s_14 (a0 + 4) x1 v_95 = s_96
          have H_96 : CI s_96 := by rw [← hs_s_96]; exact CI_zun H_14 (by omega) (by omega) (by rcases ha0 with rfl | rfl <;> rfl)
          have F_96 : fr (fw_ca_giveUp a0) σ s_96 := by rw [← hs_s_96]; exact fr.zu F_14 (by omega) (br (br (bl (beq_self_eq_true _))))
          have e_s_96_a0_2 : s_96 a0 2 = s_14 a0 2 := by rw [← hs_s_96]; exact zu_c (by omega)
          refine zO.gd (by omega) ?_
          try dsimp +instances only
          generalize hs_s_103 : zu s_96 (a0 + 6) x1 (-1) = s_103
          have H_103 : CI s_103 := by rw [← hs_s_103]; exact CI_zun H_96 (by omega) (by omega) (by rcases ha0 with rfl | rfl <;> rfl)
          have F_103 : fr (fw_ca_giveUp a0) σ s_103 := by rw [← hs_s_103]; exact fr.zu F_96 (by omega) (br (br (br (bl (beq_self_eq_true _)))))
          have e_s_103_a0_2 : s_103 a0 2 = s_96 a0 2 := by rw [← hs_s_103]; exact zu_c (by omega)
          refine zO.gd (by omega) ?_
          try dsimp +instances only
          generalize hv_v_110 : s_103 (a0 + 5) x1 = v_110
          refine zO.gd (by omega) ?_
          try dsimp +instances only
          try have ew_21 := w32_id (x := Int.tdiv v_110 2) (by omega) (by omega)
          generalize hs_s_113 : zu s_103 (a0 + 5) x1 (w32 (Int.tdiv v_110 2)) = s_113
          have H_113 : CI s_113 := by rw [← hs_s_113]; exact CI_zun H_103 (by omega) (by omega) (by rcases ha0 with rfl | rfl <;> rfl)
          have F_113 : fr (fw_ca_giveUp a0) σ s_113 := by rw [← hs_s_113]; exact fr.zu F_103 (by omega) (br (br (br (br (bl (beq_self_eq_true _))))))
          have e_s_113_a0_2 : s_113 a0 2 = s_103 a0 2 := by rw [← hs_s_113]; exact zu_c (by omega)
          refine zO.bind (g_ca_weigh_sp (by omega) H_113 (by omega)) (fun r_116 t_116 p_116 => ?_)
          obtain ⟨H_116, G_116, q_116⟩ := p_116
          try dsimp +instances only
          have F_116 := F_113.trans (fr.mono G_116 (fun a j h => ffl (ffr (ffr (ffr (ffr (ffr h)))))))
          have e_t_116_a0_2 := G_116 a0 2 (Or.inr (by rcases ha0 with rfl | rfl <;> rfl))
          generalize hv_v_121 : t_116 a0 13 = v_121
          try have ew_23 := w32_id (x := v_121 + 1) (by omega) (by omega)
          generalize hs_s_126 : zu t_116 a0 13 (w32 (v_121 + 1)) = s_126
          have H_126 : CI s_126 := by rw [← hs_s_126]; exact CI_zun H_116 (by omega) (by omega) (by rcases ha0 with rfl | rfl <;> rfl)
          have F_126 : fr (fw_ca_giveUp a0) σ s_126 := by rw [← hs_s_126]; exact fr.zu F_116 (by omega) (br (br (br (br (br (br (bl (zbb _ _))))))))
          have e_s_126_a0_2 : s_126 a0 2 = t_116 a0 2 := by rw [← hs_s_126]; exact zu_c (by omega)
          exact zO.ret ⟨H_126, F_126, trivial⟩
        ·
          try dsimp +instances only
          unfold g_ca_giveUp_L69
          try dsimp +instances only
          refine zO.bind (g_ca_remove_sp (by omega) H_14 (by omega)) (fun r_71 t_71 p_71 => ?_)
          obtain ⟨H_71, G_71, q_71⟩ := p_71
          try dsimp +instances only
          have F_71 := F_14.trans (fr.mono G_71 (fun a j h => ffl h))
          generalize hv_v_76 : t_71 a0 12 = v_76
          try have ew_25 := w32_id (x := v_76 + 1) (by omega) (by omega)
          generalize hs_s_81 : zu t_71 a0 12 (w32 (v_76 + 1)) = s_81
          have H_81 : CI s_81 := by rw [← hs_s_81]; exact CI_zun H_71 (by omega) (by omega) (by rcases ha0 with rfl | rfl <;> rfl)
          have F_81 : fr (fw_ca_giveUp a0) σ s_81 := by rw [← hs_s_81]; exact fr.zu F_71 (by omega) (br (bl (zbb _ _)))
          have e_s_81_a0_2 : s_81 a0 2 = t_71 a0 2 := by rw [← hs_s_81]; exact zu_c (by omega)
          exact zO.ret ⟨H_81, F_81, trivial⟩
    ·
      try dsimp +instances only
      unfold g_ca_giveUp_L53
      try dsimp +instances only
      refine zO.bindp (g_se_of_sp (by omega)) (fun r_59 p_59 => ?_)
      try dsimp +instances only
      refine zO.ite (fun c_27 => ?_) (fun c_27 => ?_)
      ·
        try dsimp +instances only
        unfold g_ca_giveUp_L69
        try dsimp +instances only
        refine zO.bind (g_ca_remove_sp (by omega) H_14 (by omega)) (fun r_71 t_71 p_71 => ?_)
        obtain ⟨H_71, G_71, q_71⟩ := p_71
        try dsimp +instances only
        have F_71 := F_14.trans (fr.mono G_71 (fun a j h => ffl h))
        generalize hv_v_76 : t_71 a0 12 = v_76
        try have ew_29 := w32_id (x := v_76 + 1) (by omega) (by omega)
        generalize hs_s_81 : zu t_71 a0 12 (w32 (v_76 + 1)) = s_81
        have H_81 : CI s_81 := by rw [← hs_s_81]; exact CI_zun H_71 (by omega) (by omega) (by rcases ha0 with rfl | rfl <;> rfl)
        have F_81 : fr (fw_ca_giveUp a0) σ s_81 := by rw [← hs_s_81]; exact fr.zu F_71 (by omega) (br (bl (zbb _ _)))
        have e_s_81_a0_2 : s_81 a0 2 = t_71 a0 2 := by rw [← hs_s_81]; exact zu_c (by omega)
        exact zO.ret ⟨H_81, F_81, trivial⟩
      ·
        try dsimp +instances only
        refine zO.ite (fun c_30 => ?_) (fun c_30 => ?_)
        ·
          try dsimp +instances only
          refine zO.gd (by omega) ?_
          try dsimp +instances only
          generalize hv_v_95 : s_14 (a0 + 6) x1 = v_95
          refine zO.gd (by omega) ?_
          try dsimp +instances only
          generalize hs_s_96 : zu s_14 (a0 + 4) x1 v_95 = s_96
          have H_96 : CI s_96 := by rw [← hs_s_96]; exact CI_zun H_14 (by omega) (by omega) (by rcases ha0 with rfl | rfl <;> rfl)
          have F_96 : fr (fw_ca_giveUp a0) σ s_96 := by rw [← hs_s_96]; exact fr.zu F_14 (by omega) (br (br (bl (beq_self_eq_true _))))
          have e_s_96_a0_2 : s_96 a0 2 = s_14 a0 2 := by rw [← hs_s_96]; exact zu_c (by omega)
          refine zO.gd (by omega) ?_
          try dsimp +instances only
          generalize hs_s_103 : zu s_96 (a0 + 6) x1 (-1) = s_103
          have H_103 : CI s_103 := by rw [← hs_s_103]; exact CI_zun H_96 (by omega) (by omega) (by rcases ha0 with rfl | rfl <;> rfl)
          have F_103 : fr (fw_ca_giveUp a0) σ s_103 := by rw [← hs_s_103]; exact fr.zu F_96 (by omega) (br (br (br (bl (beq_self_eq_true _)))))
          have e_s_103_a0_2 : s_103 a0 2 = s_96 a0 2 := by rw [← hs_s_103]; exact zu_c (by omega)
          refine zO.gd (by omega) ?_
          try dsimp +instances only
          generalize hv_v_110 : s_103 (a0 + 5) x1 = v_110
          refine zO.gd (by omega) ?_
          try dsimp +instances only
          try have ew_31 := w32_id (x := Int.tdiv v_110 2) (by omega) (by omega)
          generalize hs_s_113 : zu s_103 (a0 + 5) x1 (w32 (Int.tdiv v_110 2)) = s_113
          have H_113 : CI s_113 := by rw [← hs_s_113]; exact CI_zun H_103 (by omega) (by omega) (by rcases ha0 with rfl | rfl <;> rfl)
          have F_113 : fr (fw_ca_giveUp a0) σ s_113 := by rw [← hs_s_113]; exact fr.zu F_103 (by omega) (br (br (br (br (bl (beq_self_eq_true _))))))
          have e_s_113_a0_2 : s_113 a0 2 = s_103 a0 2 := by rw [← hs_s_113]; exact zu_c (by omega)
          refine zO.bind (g_ca_weigh_sp (by omega) H_113 (by omega)) (fun r_116 t_116 p_116 => ?_)
          obtain ⟨H_116, G_116, q_116⟩ := p_116
          try dsimp +instances only
          have F_116 := F_113.trans (fr.mono G_116 (fun a j h => ffl (ffr (ffr (ffr (ffr (ffr h)))))))
          have e_t_116_a0_2 := G_116 a0 2 (Or.inr (by rcases ha0 with rfl | rfl <;> rfl))
          generalize hv_v_121 : t_116 a0 13 = v_121
          try have ew_33 := w32_id (x := v_121 + 1) (by omega) (by omega)
          generalize hs_s_126 : zu t_116 a0 13 (w32 (v_121 + 1)) = s_126
          have H_126 : CI s_126 := by rw [← hs_s_126]; exact CI_zun H_116 (by omega) (by omega) (by rcases ha0 with rfl | rfl <;> rfl)
          have F_126 : fr (fw_ca_giveUp a0) σ s_126 := by rw [← hs_s_126]; exact fr.zu F_116 (by omega) (br (br (br (br (br (br (bl (zbb _ _))))))))
          have e_s_126_a0_2 : s_126 a0 2 = t_116 a0 2 := by rw [← hs_s_126]; exact zu_c (by omega)
          exact zO.ret ⟨H_126, F_126, trivial⟩
        ·
          try dsimp +instances only
          unfold g_ca_giveUp_L69
          try dsimp +instances only
          refine zO.bind (g_ca_remove_sp (by omega) H_14 (by omega)) (fun r_71 t_71 p_71 => ?_)
          obtain ⟨H_71, G_71, q_71⟩ := p_71
          try dsimp +instances only
          have F_71 := F_14.trans (fr.mono G_71 (fun a j h => ffl h))
          generalize hv_v_76 : t_71 a0 12 = v_76
          try have ew_35 := w32_id (x := v_76 + 1) (by omega) (by omega)
          generalize hs_s_81 : zu t_71 a0 12 (w32 (v_76 + 1)) = s_81
          have H_81 : CI s_81 := by rw [← hs_s_81]; exact CI_zun H_71 (by omega) (by omega) (by rcases ha0 with rfl | rfl <;> rfl)
          have F_81 : fr (fw_ca_giveUp a0) σ s_81 := by rw [← hs_s_81]; exact fr.zu F_71 (by omega) (br (bl (zbb _ _)))
          have e_s_81_a0_2 : s_81 a0 2 = t_71 a0 2 := by rw [← hs_s_81]; exact zu_c (by omega)
          exact zO.ret ⟨H_81, F_81, trivial⟩
def fw_ca_trim (a0 : Nat) (a : Nat) (j : Int) : Bool := (fw_ca_giveUp a0 a j) || false
set_option maxHeartbeats 4000000 in
theorem g_ca_trim_L7_sp {a0 : Nat} (ha0 : a0 = 48 ∨ a0 = 106) {σ0 : zS} : ∀ (n : Nat) (x1 : Int) (σ : zS), CI σ → fr (fw_ca_trim a0) σ0 σ → (0 ≤ x1 ∧ x1 ≤ 362) → (x1) < (n : Int) → zO (g_ca_trim_L7 a0 n x1 σ) (fun v s => CI s ∧ fr (fw_ca_trim a0) σ0 s ∧ (True))
  | 0, _, σ, _, _, hi, hm => by exfalso; omega
  | n + 1, x1, σ, H, F, hi, hm => by
    unfold g_ca_trim_L7
    try dsimp +instances only
    refine zO.ite (fun c_1 => ?_) (fun c_1 => ?_)
    ·
      try dsimp +instances only
      exact zO.ret ⟨H, F, trivial⟩
    ·
      try dsimp +instances only
      generalize hv_v_12 : σ a0 2 = v_12
      have rv_v_12 := CI.c2 (a := a0) H (by omega)
      rw [hv_v_12] at rv_v_12
      refine zO.ite (fun c_2 => ?_) (fun c_2 => ?_)
      ·
        try dsimp +instances only
        exact zO.ret ⟨H, F, trivial⟩
      ·
        try dsimp +instances only
        refine zO.bindp (g_ca_isTooMuch_sp (by omega) H) (fun r_19 p_19 => ?_)
        try dsimp +instances only
        refine zO.ite (fun c_4 => ?_) (fun c_4 => ?_)
        ·
          try dsimp +instances only
          exact zO.ret ⟨H, F, trivial⟩
        ·
          try dsimp +instances only
          refine zO.bindp (g_ca_lightest_sp (by omega) H (by omega)) (fun r_27 p_27 => ?_)
          try dsimp +instances only
          refine zO.bind (g_ca_giveUp_sp (by omega) H (by omega)) (fun r_30 t_30 p_30 => ?_)
          obtain ⟨H_30, G_30, q_30⟩ := p_30
          try dsimp +instances only
          have F_30 := F.trans (fr.mono G_30 (fun a j h => ffl h))
          try have ew_7 := w32_id (x := x1 - 1) (by omega) (by omega)
          exact g_ca_trim_L7_sp (by omega) n (w32 (x1 - 1)) t_30 H_30 F_30 (by omega) (by omega)
theorem g_ca_trim_sp {a0 : Nat} (ha0 : a0 = 48 ∨ a0 = 106) {σ : zS} (H : CI σ) : zO (g_ca_trim a0 σ) (fun v s => CI s ∧ fr (fw_ca_trim a0) σ s ∧ (True)) := by
  have F : fr (fw_ca_trim a0) σ σ := fr.refl σ
  unfold g_ca_trim
  try dsimp +instances only
  generalize hv_v_2 : σ a0 2 = v_2
  have rv_v_2 := CI.c2 (a := a0) H (by omega)
  rw [hv_v_2] at rv_v_2
  try have ew_8 := w32_id (x := 2 * v_2) (by omega) (by omega)
  exact g_ca_trim_L7_sp (by omega) zK (w32 (2 * v_2)) σ H F (by omega) (by show _ < (1000000 : Int); omega)
def fw_ca_missingOf (a0 : Nat) (a : Nat) (j : Int) : Bool := (fw_bs_becomeRest (a0 + 10) (a0 + 8) a j) || ((fw_bs_copyFrom (a0 + 8) (a0 + 10) a j) || (((a == a0 + 8 && j == 1)) || ((fw_bs_add (a0 + 8) a j) || false)))
set_option maxHeartbeats 4000000 in
theorem g_ca_missingOf_L19_sp {a0 : Nat} (ha0 : a0 = 48 ∨ a0 = 106) {σ0 : zS} : ∀ (n : Nat) (x1 : Int) (x2 : Int) (σ : zS), CI σ → fr (fw_ca_missingOf a0) σ0 σ → (0 ≤ x2 ∧ x2 ≤ 181) → (181 - x2) < (n : Int) → zO (g_ca_missingOf_L19 a0 n x1 x2 σ) (fun v s => CI s ∧ fr (fw_ca_missingOf a0) σ0 s ∧ (True))
  | 0, _, _, σ, _, _, hi, hm => by exfalso; omega
  | n + 1, x1, x2, σ, H, F, hi, hm => by
    unfold g_ca_missingOf_L19
    try dsimp +instances only
    generalize hv_v_21 : σ a0 2 = v_21
    have rv_v_21 := CI.c2 (a := a0) H (by omega)
    rw [hv_v_21] at rv_v_21
    refine zO.ite (fun c_1 => ?_) (fun c_1 => ?_)
    ·
      try dsimp +instances only
      exact zO.ret ⟨H, F, trivial⟩
    ·
      try dsimp +instances only
      refine zO.gd (by omega) ?_
      try dsimp +instances only
      generalize hv_v_32 : σ (a0 + 4) x2 = v_32
      refine zO.bindp (g_b_meet_sp) (fun r_34 p_34 => ?_)
      try dsimp +instances only
      refine zO.ite (fun c_3 => ?_) (fun c_3 => ?_)
      ·
        try dsimp +instances only
        unfold g_ca_missingOf_L68
        try dsimp +instances only
        try have ew_4 := w32_id (x := x2 + 1) (by omega) (by omega)
        exact g_ca_missingOf_L19_sp (by omega) n x1 (w32 (x2 + 1)) σ H F (by omega) (by omega)
      ·
        try dsimp +instances only
        refine zO.gd (by omega) ?_
        try dsimp +instances only
        generalize hv_v_53 : σ (a0 + 4) x2 = v_53
        refine zO.bind (g_bs_becomeRest_sp (by omega) (by omega) H) (fun r_54 t_54 p_54 => ?_)
        obtain ⟨H_54, G_54, q_54⟩ := p_54
        try dsimp +instances only
        have F_54 := F.trans (fr.mono G_54 (fun a j h => ffl h))
        refine zO.bind (g_bs_copyFrom_sp (by omega) (by omega) H_54) (fun r_65 t_65 p_65 => ?_)
        obtain ⟨H_65, G_65, q_65⟩ := p_65
        try dsimp +instances only
        have F_65 := F_54.trans (fr.mono G_65 (fun a j h => ffl (ffr h)))
        unfold g_ca_missingOf_L68
        try dsimp +instances only
        try have ew_7 := w32_id (x := x2 + 1) (by omega) (by omega)
        exact g_ca_missingOf_L19_sp (by omega) n x1 (w32 (x2 + 1)) t_65 H_65 F_65 (by omega) (by omega)
theorem g_ca_missingOf_sp {a0 : Nat} (ha0 : a0 = 48 ∨ a0 = 106) {x1 : Int} {σ : zS} (H : CI σ) : zO (g_ca_missingOf a0 x1 σ) (fun v s => CI s ∧ fr (fw_ca_missingOf a0) σ s ∧ (True)) := by
  have F : fr (fw_ca_missingOf a0) σ σ := fr.refl σ
  unfold g_ca_missingOf
  try dsimp +instances only
  generalize hs_s_5 : zu σ (a0 + 8) 1 0 = s_5
  have H_5 : CI s_5 := by rw [← hs_s_5]; exact CI_zuy H (by omega) (by omega) (lo := 0) (hi := 181) (by rcases ha0 with rfl | rfl <;> rfl) (by omega) (by omega)
  have F_5 : fr (fw_ca_missingOf a0) σ s_5 := by rw [← hs_s_5]; exact fr.zu F (by omega) (br (br (bl (zbb _ _))))
  refine zO.bind (g_bs_add_sp (by omega) H_5) (fun r_13 t_13 p_13 => ?_)
  obtain ⟨H_13, G_13, q_13⟩ := p_13
  try dsimp +instances only
  have F_13 := F_5.trans (fr.mono G_13 (fun a j h => ffl (ffr (ffr (ffr h)))))
  exact g_ca_missingOf_L19_sp (by omega) zK x1 0 t_13 H_13 F_13 (by omega) (by show _ < (1000000 : Int); omega)
def fw_ca_hit (a0 : Nat) (a : Nat) (j : Int) : Bool := (a == (a0 + 5)) || ((a == (a0 + 6)) || ((fw_ca_weigh a0 a j) || false))
theorem g_ca_hit_sp {a0 : Nat} (ha0 : a0 = 48 ∨ a0 = 106) {x1 : Int} {x2 : Int} {σ : zS} (H : CI σ) (hp : 0 ≤ x1 ∧ x1 < 181) : zO (g_ca_hit a0 x1 x2 σ) (fun v s => CI s ∧ fr (fw_ca_hit a0) σ s ∧ (s a0 2 = σ a0 2)) := by
  have F : fr (fw_ca_hit a0) σ σ := fr.refl σ
  have ri_a0_2 := CI.c2 (a := a0) H (by omega)
  unfold g_ca_hit
  try dsimp +instances only
  refine zO.gd (by omega) ?_
  try dsimp +instances only
  generalize hv_v_13 : σ (a0 + 5) x1 = v_13
  try have ew_1 := w32_id (x := v_13 + 1) (by omega) (by omega)
  refine zO.bindp (g_jMath_min_291_sp) (fun r_16 p_16 => ?_)
  try dsimp +instances only
  refine zO.gd (by omega) ?_
  try dsimp +instances only
  generalize hs_s_19 : zu σ (a0 + 5) x1 r_16 = s_19
  have H_19 : CI s_19 := by rw [← hs_s_19]; exact CI_zun H (by omega) (by omega) (by rcases ha0 with rfl | rfl <;> rfl)
  have F_19 : fr (fw_ca_hit a0) σ s_19 := by rw [← hs_s_19]; exact fr.zu F (by omega) (bl (beq_self_eq_true _))
  have e_s_19_a0_2 : s_19 a0 2 = σ a0 2 := by rw [← hs_s_19]; exact zu_c (by omega)
  refine zO.gd (by omega) ?_
  try dsimp +instances only
  generalize hv_v_30 : s_19 (a0 + 6) x1 = v_30
  refine zO.bindp (g_b_around_sp) (fun r_32 p_32 => ?_)
  try dsimp +instances only
  refine zO.gd (by omega) ?_
  try dsimp +instances only
  generalize hs_s_35 : zu s_19 (a0 + 6) x1 r_32 = s_35
  have H_35 : CI s_35 := by rw [← hs_s_35]; exact CI_zun H_19 (by omega) (by omega) (by rcases ha0 with rfl | rfl <;> rfl)
  have F_35 : fr (fw_ca_hit a0) σ s_35 := by rw [← hs_s_35]; exact fr.zu F_19 (by omega) (br (bl (beq_self_eq_true _)))
  have e_s_35_a0_2 : s_35 a0 2 = s_19 a0 2 := by rw [← hs_s_35]; exact zu_c (by omega)
  refine zO.bind (g_ca_weigh_sp (by omega) H_35 (by omega)) (fun r_38 t_38 p_38 => ?_)
  obtain ⟨H_38, G_38, q_38⟩ := p_38
  try dsimp +instances only
  have F_38 := F_35.trans (fr.mono G_38 (fun a j h => ffl (ffr (ffr h))))
  have e_t_38_a0_2 := G_38 a0 2 (Or.inr (by rcases ha0 with rfl | rfl <;> rfl))
  exact zO.ret ⟨H_38, F_38, (by omega)⟩
def fw_ca_ask (a0 : Nat) (a : Nat) (j : Int) : Bool := ((a == a0 && j == 10)) || (((a == a0 && j == 11)) || false)
theorem g_ca_ask_sp {a0 : Nat} (ha0 : a0 = 48 ∨ a0 = 106) {x1 : Int} {σ : zS} (H : CI σ) : zO (g_ca_ask a0 x1 σ) (fun v s => CI s ∧ fr (fw_ca_ask a0) σ s ∧ (True)) := by
  have F : fr (fw_ca_ask a0) σ σ := fr.refl σ
  unfold g_ca_ask
  try dsimp +instances only
  generalize hv_v_2 : σ a0 10 = v_2
  try have ew_1 := w32_id (x := v_2 + 1) (by omega) (by omega)
  generalize hs_s_7 : zu σ a0 10 (w32 (v_2 + 1)) = s_7
  have H_7 : CI s_7 := by rw [← hs_s_7]; exact CI_zun H (by omega) (by omega) (by rcases ha0 with rfl | rfl <;> rfl)
  have F_7 : fr (fw_ca_ask a0) σ s_7 := by rw [← hs_s_7]; exact fr.zu F (by omega) (bl (zbb _ _))
  generalize hv_v_12 : s_7 a0 11 = v_12
  refine zO.bindp (g_ca_costOf_sp (by omega)) (fun r_17 p_17 => ?_)
  try dsimp +instances only
  try have ew_3 := w32_id (x := v_12 + r_17) (by omega) (by omega)
  generalize hs_s_21 : zu s_7 a0 11 (w32 (v_12 + r_17)) = s_21
  have H_21 : CI s_21 := by rw [← hs_s_21]; exact CI_zun H_7 (by omega) (by omega) (by rcases ha0 with rfl | rfl <;> rfl)
  have F_21 : fr (fw_ca_ask a0) σ s_21 := by rw [← hs_s_21]; exact fr.zu F_7 (by omega) (br (bl (zbb _ _)))
  exact zO.ret ⟨H_21, F_21, trivial⟩
def fw_ca_addLast (a0 : Nat) (a : Nat) (j : Int) : Bool := (a == (a0 + 3)) || ((a == (a0 + 4)) || ((a == (a0 + 5)) || ((a == (a0 + 6)) || ((a == (a0 + 7)) || (((a == a0 && j == 8)) || (((a == a0 && j == 2)) || false))))))
theorem g_ca_addLast_sp {a0 : Nat} (ha0 : a0 = 48 ∨ a0 = 106) {x1 : Int} {x2 : Int} {x3 : Int} {y4 : Int} {σ : zS} (H : CI σ) : zO (g_ca_addLast a0 x1 x2 x3 y4 σ) (fun v s => CI s ∧ fr (fw_ca_addLast a0) σ s ∧ (v = 0 ∨ 1 ≤ s a0 2)) := by
  have F : fr (fw_ca_addLast a0) σ σ := fr.refl σ
  have ri_a0_2 := CI.c2 (a := a0) H (by omega)
  unfold g_ca_addLast
  try dsimp +instances only
  generalize hv_v_1 : σ a0 2 = v_1
  have rv_v_1 := CI.c2 (a := a0) H (by omega)
  rw [hv_v_1] at rv_v_1
  refine zO.ite (fun c_1 => ?_) (fun c_1 => ?_)
  ·
    try dsimp +instances only
    generalize hv_v_21 : σ a0 8 = v_21
    have rv_v_21 := CI.cx (a := a0) H (by omega)
    rw [hv_v_21] at rv_v_21
    refine zO.gd (by omega) ?_
    try dsimp +instances only
    generalize hs_s_24 : zu σ (a0 + 3) v_1 v_21 = s_24
    have H_24 : CI s_24 := by rw [← hs_s_24]; exact CI_zuy H (by omega) (by omega) (lo := -2147483648) (hi := 2147483647) (by rcases ha0 with rfl | rfl <;> rfl) (by omega) (by omega)
    have F_24 : fr (fw_ca_addLast a0) σ s_24 := by rw [← hs_s_24]; exact fr.zu F (by omega) (bl (beq_self_eq_true _))
    have e_s_24_a0_2 : s_24 a0 2 = σ a0 2 := by rw [← hs_s_24]; exact zu_c (by omega)
    generalize hv_v_30 : s_24 a0 2 = v_30
    have rv_v_30 := CI.c2 (a := a0) H_24 (by omega)
    rw [hv_v_30] at rv_v_30
    refine zO.gd (by omega) ?_
    try dsimp +instances only
    generalize hs_s_34 : zu s_24 (a0 + 4) v_30 x1 = s_34
    have H_34 : CI s_34 := by rw [← hs_s_34]; exact CI_zun H_24 (by omega) (by omega) (by rcases ha0 with rfl | rfl <;> rfl)
    have F_34 : fr (fw_ca_addLast a0) σ s_34 := by rw [← hs_s_34]; exact fr.zu F_24 (by omega) (br (bl (beq_self_eq_true _)))
    have e_s_34_a0_2 : s_34 a0 2 = s_24 a0 2 := by rw [← hs_s_34]; exact zu_c (by omega)
    generalize hv_v_40 : s_34 a0 2 = v_40
    have rv_v_40 := CI.c2 (a := a0) H_34 (by omega)
    rw [hv_v_40] at rv_v_40
    refine zO.gd (by omega) ?_
    try dsimp +instances only
    generalize hs_s_44 : zu s_34 (a0 + 5) v_40 x2 = s_44
    have H_44 : CI s_44 := by rw [← hs_s_44]; exact CI_zun H_34 (by omega) (by omega) (by rcases ha0 with rfl | rfl <;> rfl)
    have F_44 : fr (fw_ca_addLast a0) σ s_44 := by rw [← hs_s_44]; exact fr.zu F_34 (by omega) (br (br (bl (beq_self_eq_true _))))
    have e_s_44_a0_2 : s_44 a0 2 = s_34 a0 2 := by rw [← hs_s_44]; exact zu_c (by omega)
    generalize hv_v_50 : s_44 a0 2 = v_50
    have rv_v_50 := CI.c2 (a := a0) H_44 (by omega)
    rw [hv_v_50] at rv_v_50
    refine zO.gd (by omega) ?_
    try dsimp +instances only
    generalize hs_s_54 : zu s_44 (a0 + 6) v_50 x3 = s_54
    have H_54 : CI s_54 := by rw [← hs_s_54]; exact CI_zun H_44 (by omega) (by omega) (by rcases ha0 with rfl | rfl <;> rfl)
    have F_54 : fr (fw_ca_addLast a0) σ s_54 := by rw [← hs_s_54]; exact fr.zu F_44 (by omega) (br (br (br (bl (beq_self_eq_true _)))))
    have e_s_54_a0_2 : s_54 a0 2 = s_44 a0 2 := by rw [← hs_s_54]; exact zu_c (by omega)
    generalize hv_v_60 : s_54 a0 2 = v_60
    have rv_v_60 := CI.c2 (a := a0) H_54 (by omega)
    rw [hv_v_60] at rv_v_60
    refine zO.gd (by omega) ?_
    try dsimp +instances only
    generalize hs_s_65 : zu s_54 (a0 + 7) v_60 y4 = s_65
    have H_65 : CI s_65 := by rw [← hs_s_65]; exact CI_zun H_54 (by omega) (by omega) (by rcases ha0 with rfl | rfl <;> rfl)
    have F_65 : fr (fw_ca_addLast a0) σ s_65 := by rw [← hs_s_65]; exact fr.zu F_54 (by omega) (br (br (br (br (bl (beq_self_eq_true _))))))
    have e_s_65_a0_2 : s_65 a0 2 = s_54 a0 2 := by rw [← hs_s_65]; exact zu_c (by omega)
    generalize hv_v_68 : s_65 a0 8 = v_68
    have rv_v_68 := CI.cx (a := a0) H_65 (by omega)
    rw [hv_v_68] at rv_v_68
    try have ew_2 := w32_id (x := v_68 + 1) (by omega) (by omega)
    generalize hs_s_73 : zu s_65 a0 8 (w32 (v_68 + 1)) = s_73
    have bw_73 := w32_bd (v_68 + 1)
    have H_73 : CI s_73 := by rw [← hs_s_73]; exact CI_zuy H_65 (by omega) (by omega) (lo := -2147483648) (hi := 2147483647) (by rcases ha0 with rfl | rfl <;> rfl) (by omega) (by omega)
    have F_73 : fr (fw_ca_addLast a0) σ s_73 := by rw [← hs_s_73]; exact fr.zu F_65 (by omega) (br (br (br (br (br (bl (zbb _ _)))))))
    have e_s_73_a0_2 : s_73 a0 2 = s_65 a0 2 := by rw [← hs_s_73]; exact zu_c (by omega)
    generalize hv_v_78 : s_73 a0 2 = v_78
    have rv_v_78 := CI.c2 (a := a0) H_73 (by omega)
    rw [hv_v_78] at rv_v_78
    try have ew_3 := w32_id (x := v_78 + 1) (by omega) (by omega)
    generalize hs_s_83 : zu s_73 a0 2 (w32 (v_78 + 1)) = s_83
    have H_83 : CI s_83 := by rw [← hs_s_83]; exact CI_zuy H_73 (by omega) (by omega) (lo := 0) (hi := 181) (by rcases ha0 with rfl | rfl <;> rfl) (by omega) (by omega)
    have F_83 : fr (fw_ca_addLast a0) σ s_83 := by rw [← hs_s_83]; exact fr.zu F_73 (by omega) (br (br (br (br (br (br (bl (zbb _ _))))))))
    have e_s_83_a0_2 : s_83 a0 2 = (w32 (v_78 + 1)) := by rw [← hs_s_83]; exact zu_e rfl
    exact zO.ret ⟨H_83, F_83, (by omega)⟩
  ·
    try dsimp +instances only
    exact zO.ret ⟨H, F, (by omega)⟩
def fw_ca_addNew (a0 : Nat) (a : Nat) (j : Int) : Bool := (fw_ca_addLast a0 a j) || ((fw_ca_weigh a0 a j) || false)
theorem g_ca_addNew_sp {a0 : Nat} (ha0 : a0 = 48 ∨ a0 = 106) {x1 : Int} {σ : zS} (H : CI σ) : zO (g_ca_addNew a0 x1 σ) (fun v s => CI s ∧ fr (fw_ca_addNew a0) σ s ∧ (True)) := by
  have F : fr (fw_ca_addNew a0) σ σ := fr.refl σ
  unfold g_ca_addNew
  try dsimp +instances only
  refine zO.bind (g_ca_addLast_sp (by omega) H) (fun r_5 t_5 p_5 => ?_)
  obtain ⟨H_5, G_5, q_5⟩ := p_5
  try dsimp +instances only
  have F_5 := F.trans (fr.mono G_5 (fun a j h => ffl h))
  refine zO.ite (fun c_2 => ?_) (fun c_2 => ?_)
  ·
    try dsimp +instances only
    exact zO.ret ⟨H_5, F_5, trivial⟩
  ·
    try dsimp +instances only
    generalize hv_v_13 : t_5 a0 2 = v_13
    have rv_v_13 := CI.c2 (a := a0) H_5 (by omega)
    rw [hv_v_13] at rv_v_13
    try have ew_3 := w32_id (x := v_13 - 1) (by omega) (by omega)
    refine zO.bind (g_ca_weigh_sp (by omega) H_5 (by omega)) (fun r_18 t_18 p_18 => ?_)
    obtain ⟨H_18, G_18, q_18⟩ := p_18
    try dsimp +instances only
    have F_18 := F_5.trans (fr.mono G_18 (fun a j h => ffl (ffr h)))
    exact zO.ret ⟨H_18, F_18, trivial⟩
def fw_ca_serve (a0 : Nat) (a : Nat) (j : Int) : Bool := (fw_ca_merge a0 a j) || ((fw_ca_trim a0 a j) || ((fw_ca_ask a0 a j) || ((fw_ca_addNew a0 a j) || ((fw_ca_hit a0 a j) || ((fw_ca_missingOf a0 a j) || false)))))
set_option maxHeartbeats 4000000 in
theorem g_ca_serve_L52_sp {a0 : Nat} (ha0 : a0 = 48 ∨ a0 = 106) {σ0 : zS} : ∀ (n : Nat) (x2 : Int) (σ : zS), CI σ → fr (fw_ca_serve a0) σ0 σ → (0 ≤ x2 ∧ x2 ≤ 181) → (181 - x2) < (n : Int) → zO (g_ca_serve_L52 a0 n x2 σ) (fun v s => CI s ∧ fr (fw_ca_serve a0) σ0 s ∧ (True))
  | 0, _, σ, _, _, hi, hm => by exfalso; omega
  | n + 1, x2, σ, H, F, hi, hm => by
    unfold g_ca_serve_L52
    try dsimp +instances only
    generalize hv_v_57 : σ (a0 + 8) 1 = v_57
    have rv_v_57 := CI.c1 (a := a0 + 8) H (by omega)
    rw [hv_v_57] at rv_v_57
    refine zO.ite (fun c_1 => ?_) (fun c_1 => ?_)
    ·
      try dsimp +instances only
      refine zO.bind (g_ca_merge_sp (by omega) H) (fun r_105 t_105 p_105 => ?_)
      obtain ⟨H_105, G_105, q_105⟩ := p_105
      try dsimp +instances only
      have F_105 := F.trans (fr.mono G_105 (fun a j h => ffl h))
      refine zO.bind (g_ca_trim_sp (by omega) H_105) (fun r_109 t_109 p_109 => ?_)
      obtain ⟨H_109, G_109, q_109⟩ := p_109
      try dsimp +instances only
      have F_109 := F_105.trans (fr.mono G_109 (fun a j h => ffl (ffr h)))
      exact zO.ret ⟨H_109, F_109, trivial⟩
    ·
      try dsimp +instances only
      refine zO.bindp (g_bs_at_sp (by omega) H) (fun r_68 p_68 => ?_)
      try dsimp +instances only
      refine zO.bind (g_ca_ask_sp (by omega) H) (fun r_74 t_74 p_74 => ?_)
      obtain ⟨H_74, G_74, q_74⟩ := p_74
      try dsimp +instances only
      have F_74 := F.trans (fr.mono G_74 (fun a j h => ffl (ffr (ffr h))))
      refine zO.bindp (g_b_area_sp) (fun r_78 p_78 => ?_)
      try dsimp +instances only
      refine zO.bindp (g_se_of_sp (by omega)) (fun r_87 p_87 => ?_)
      try dsimp +instances only
      refine zO.ite (fun c_8 => ?_) (fun c_8 => ?_)
      ·
        try dsimp +instances only
        unfold g_ca_serve_L98
        try dsimp +instances only
        try have ew_9 := w32_id (x := x2 + 1) (by omega) (by omega)
        exact g_ca_serve_L52_sp (by omega) n (w32 (x2 + 1)) t_74 H_74 F_74 (by omega) (by omega)
      ·
        try dsimp +instances only
        refine zO.bind (g_ca_addNew_sp (by omega) H_74) (fun r_95 t_95 p_95 => ?_)
        obtain ⟨H_95, G_95, q_95⟩ := p_95
        try dsimp +instances only
        have F_95 := F_74.trans (fr.mono G_95 (fun a j h => ffl (ffr (ffr (ffr h)))))
        unfold g_ca_serve_L98
        try dsimp +instances only
        try have ew_11 := w32_id (x := x2 + 1) (by omega) (by omega)
        exact g_ca_serve_L52_sp (by omega) n (w32 (x2 + 1)) t_95 H_95 F_95 (by omega) (by omega)
set_option maxHeartbeats 4000000 in
theorem g_ca_serve_L8_sp {a0 : Nat} (ha0 : a0 = 48 ∨ a0 = 106) {σ0 : zS} : ∀ (n : Nat) (x1 : Int) (x2 : Int) (σ : zS), CI σ → fr (fw_ca_serve a0) σ0 σ → (0 ≤ x2 ∧ x2 ≤ 181) → (181 - x2) < (n : Int) → zO (g_ca_serve_L8 a0 n x1 x2 σ) (fun v s => CI s ∧ fr (fw_ca_serve a0) σ0 s ∧ (True))
  | 0, _, _, σ, _, _, hi, hm => by exfalso; omega
  | n + 1, x1, x2, σ, H, F, hi, hm => by
    unfold g_ca_serve_L8
    try dsimp +instances only
    generalize hv_v_10 : σ a0 2 = v_10
    have rv_v_10 := CI.c2 (a := a0) H (by omega)
    rw [hv_v_10] at rv_v_10
    refine zO.ite (fun c_12 => ?_) (fun c_12 => ?_)
    ·
      try dsimp +instances only
      exact g_ca_serve_L52_sp (by omega) zK 0 σ H F (by omega) (by show _ < (1000000 : Int); omega)
    ·
      try dsimp +instances only
      refine zO.gd (by omega) ?_
      try dsimp +instances only
      generalize hv_v_21 : σ (a0 + 4) x2 = v_21
      refine zO.bindp (g_b_meet_sp) (fun r_23 p_23 => ?_)
      try dsimp +instances only
      refine zO.ite (fun c_14 => ?_) (fun c_14 => ?_)
      ·
        try dsimp +instances only
        unfold g_ca_serve_L44
        try dsimp +instances only
        try have ew_15 := w32_id (x := x2 + 1) (by omega) (by omega)
        exact g_ca_serve_L8_sp (by omega) n x1 (w32 (x2 + 1)) σ H F (by omega) (by omega)
      ·
        try dsimp +instances only
        refine zO.gd (by omega) ?_
        try dsimp +instances only
        generalize hv_v_36 : σ (a0 + 4) x2 = v_36
        refine zO.bindp (g_b_common_sp) (fun r_38 p_38 => ?_)
        try dsimp +instances only
        refine zO.bind (g_ca_hit_sp (by omega) H (by omega)) (fun r_41 t_41 p_41 => ?_)
        obtain ⟨H_41, G_41, q_41⟩ := p_41
        try dsimp +instances only
        have F_41 := F.trans (fr.mono G_41 (fun a j h => ffl (ffr (ffr (ffr (ffr h))))))
        unfold g_ca_serve_L44
        try dsimp +instances only
        try have ew_18 := w32_id (x := x2 + 1) (by omega) (by omega)
        exact g_ca_serve_L8_sp (by omega) n x1 (w32 (x2 + 1)) t_41 H_41 F_41 (by omega) (by omega)
theorem g_ca_serve_sp {a0 : Nat} (ha0 : a0 = 48 ∨ a0 = 106) {x1 : Int} {σ : zS} (H : CI σ) : zO (g_ca_serve a0 x1 σ) (fun v s => CI s ∧ fr (fw_ca_serve a0) σ s ∧ (True)) := by
  have F : fr (fw_ca_serve a0) σ σ := fr.refl σ
  unfold g_ca_serve
  try dsimp +instances only
  refine zO.bind (g_ca_missingOf_sp (by omega) H) (fun r_2 t_2 p_2 => ?_)
  obtain ⟨H_2, G_2, q_2⟩ := p_2
  try dsimp +instances only
  have F_2 := F.trans (fr.mono G_2 (fun a j h => ffl (ffr (ffr (ffr (ffr (ffr h)))))))
  exact g_ca_serve_L8_sp (by omega) zK x1 0 t_2 H_2 F_2 (by omega) (by show _ < (1000000 : Int); omega)
def fw_ca_write (a0 : Nat) (a : Nat) (j : Int) : Bool := (fw_ca_addLast a0 a j) || (((a == a0 && j == 15)) || ((fw_ca_remove a0 a j) || (((a == a0 + 10 && j == 1)) || ((fw_bs_addRest (a0 + 10) a j) || false))))
set_option maxHeartbeats 4000000 in
theorem g_ca_write_L99_sp {a0 : Nat} (ha0 : a0 = 48 ∨ a0 = 106) {σ0 : zS} : ∀ (n : Nat) (x5 : Int) (x6 : Int) (y7 : Int) (x9 : Int) (σ : zS), CI σ → fr (fw_ca_write a0) σ0 σ → (0 ≤ x9 ∧ x9 ≤ 181) → (181 - x9) < (n : Int) → zO (g_ca_write_L99 a0 n x5 x6 y7 x9 σ) (fun v s => CI s ∧ fr (fw_ca_write a0) σ0 s ∧ (True))
  | 0, _, _, _, _, σ, _, _, hi, hm => by exfalso; omega
  | n + 1, x5, x6, y7, x9, σ, H, F, hi, hm => by
    have ri_a0_2 := CI.c2 (a := a0) H (by omega)
    unfold g_ca_write_L99
    try dsimp +instances only
    generalize hv_v_105 : σ (a0 + 10) 1 = v_105
    have rv_v_105 := CI.c1 (a := a0 + 10) H (by omega)
    rw [hv_v_105] at rv_v_105
    refine zO.ite (fun c_1 => ?_) (fun c_1 => ?_)
    ·
      try dsimp +instances only
      exact zO.ret ⟨H, F, trivial⟩
    ·
      try dsimp +instances only
      refine zO.bindp (g_bs_at_sp (by omega) H) (fun r_118 p_118 => ?_)
      try dsimp +instances only
      refine zO.bindp (g_bs_at_sp (by omega) H) (fun r_131 p_131 => ?_)
      try dsimp +instances only
      refine zO.bindp (g_b_common_sp) (fun r_134 p_134 => ?_)
      try dsimp +instances only
      refine zO.bind (g_ca_addLast_sp (by omega) H) (fun r_139 t_139 p_139 => ?_)
      obtain ⟨H_139, G_139, q_139⟩ := p_139
      try dsimp +instances only
      have F_139 := F.trans (fr.mono G_139 (fun a j h => ffl h))
      try have ew_6 := w32_id (x := x9 + 1) (by omega) (by omega)
      exact g_ca_write_L99_sp (by omega) n x5 x6 y7 (w32 (x9 + 1)) t_139 H_139 F_139 (by omega) (by omega)
theorem g_ca_write_sp {a0 : Nat} (ha0 : a0 = 48 ∨ a0 = 106) {x1 : Int} {σ : zS} (H : CI σ) : zO (g_ca_write a0 x1 σ) (fun v s => CI s ∧ fr (fw_ca_write a0) σ s ∧ (True)) := by
  have F : fr (fw_ca_write a0) σ σ := fr.refl σ
  have ri_a0_2 := CI.c2 (a := a0) H (by omega)
  unfold g_ca_write
  try dsimp +instances only
  refine zO.bindp (g_ca_regionAt_sp (by omega) H) (fun r_2 p_2 => ?_)
  try dsimp +instances only
  refine zO.ite (fun c_8 => ?_) (fun c_8 => ?_)
  ·
    try dsimp +instances only
    generalize hv_v_13 : σ a0 15 = v_13
    try have ew_9 := w32_id (x := v_13 + 1) (by omega) (by omega)
    generalize hs_s_18 : zu σ a0 15 (w32 (v_13 + 1)) = s_18
    have H_18 : CI s_18 := by rw [← hs_s_18]; exact CI_zun H (by omega) (by omega) (by rcases ha0 with rfl | rfl <;> rfl)
    have F_18 : fr (fw_ca_write a0) σ s_18 := by rw [← hs_s_18]; exact fr.zu F (by omega) (br (bl (zbb _ _)))
    have e_s_18_a0_2 : s_18 a0 2 = σ a0 2 := by rw [← hs_s_18]; exact zu_c (by omega)
    refine zO.bindp (g_se_of_sp (by omega)) (fun r_26 p_26 => ?_)
    try dsimp +instances only
    refine zO.ite (fun c_11 => ?_) (fun c_11 => ?_)
    ·
      try dsimp +instances only
      refine zO.gd (by omega) ?_
      try dsimp +instances only
      generalize hv_v_40 : s_18 (a0 + 4) r_2 = v_40
      refine zO.gd (by omega) ?_
      try dsimp +instances only
      generalize hv_v_48 : s_18 (a0 + 5) r_2 = v_48
      refine zO.gd (by omega) ?_
      try dsimp +instances only
      generalize hv_v_56 : s_18 (a0 + 6) r_2 = v_56
      refine zO.gd (by omega) ?_
      try dsimp +instances only
      generalize hv_v_64 : s_18 (a0 + 7) r_2 = v_64
      refine zO.bind (g_ca_remove_sp (by omega) H_18 (by omega)) (fun r_69 t_69 p_69 => ?_)
      obtain ⟨H_69, G_69, q_69⟩ := p_69
      try dsimp +instances only
      have F_69 := F_18.trans (fr.mono G_69 (fun a j h => ffl (ffr (ffr h))))
      refine zO.ite (fun c_13 => ?_) (fun c_13 => ?_)
      ·
        try dsimp +instances only
        generalize hs_s_83 : zu t_69 (a0 + 10) 1 0 = s_83
        have H_83 : CI s_83 := by rw [← hs_s_83]; exact CI_zuy H_69 (by omega) (by omega) (lo := 0) (hi := 181) (by rcases ha0 with rfl | rfl <;> rfl) (by omega) (by omega)
        have F_83 : fr (fw_ca_write a0) σ s_83 := by rw [← hs_s_83]; exact fr.zu F_69 (by omega) (br (br (br (bl (zbb _ _)))))
        have e_s_83_a0_2 : s_83 a0 2 = t_69 a0 2 := by rw [← hs_s_83]; exact zu_c (by omega)
        refine zO.bind (g_bs_addRest_sp (by omega) H_83) (fun r_93 t_93 p_93 => ?_)
        obtain ⟨H_93, G_93, q_93⟩ := p_93
        try dsimp +instances only
        have F_93 := F_83.trans (fr.mono G_93 (fun a j h => ffl (ffr (ffr (ffr (ffr h))))))
        have e_t_93_a0_2 := G_93 a0 2 (Or.inr (by rcases ha0 with rfl | rfl <;> rfl))
        exact g_ca_write_L99_sp (by omega) zK v_48 v_56 v_64 0 t_93 H_93 F_93 (by omega) (by show _ < (1000000 : Int); omega)
      ·
        try dsimp +instances only
        exact zO.ret ⟨H_69, F_69, trivial⟩
    ·
      try dsimp +instances only
      exact zO.ret ⟨H_18, F_18, trivial⟩
  ·
    try dsimp +instances only
    exact zO.ret ⟨H, F, trivial⟩
def fw_ca_admit (a0 : Nat) (a : Nat) (j : Int) : Bool := (fw_ca_trim a0 a j) || ((fw_ca_ask a0 a j) || ((fw_ca_addNew a0 a j) || false))
set_option maxHeartbeats 4000000 in
theorem g_ca_admit_L4_sp {a0 : Nat} (ha0 : a0 = 48 ∨ a0 = 106) {σ0 : zS} : ∀ (n : Nat) (x2 : Int) (x3 : Int) (σ : zS), CI σ → fr (fw_ca_admit a0) σ0 σ → (0 ≤ x3 ∧ x3 ≤ 181) → (181 - x3) < (n : Int) → zO (g_ca_admit_L4 a0 n x2 x3 σ) (fun v s => CI s ∧ fr (fw_ca_admit a0) σ0 s ∧ (True))
  | 0, _, _, σ, _, _, hi, hm => by exfalso; omega
  | n + 1, x2, x3, σ, H, F, hi, hm => by
    unfold g_ca_admit_L4
    try dsimp +instances only
    generalize hv_v_6 : σ 126 1 = v_6
    have rv_v_6 := CI.c1 (a := 126) H (by omega)
    rw [hv_v_6] at rv_v_6
    refine zO.ite (fun c_1 => ?_) (fun c_1 => ?_)
    ·
      try dsimp +instances only
      refine zO.bind (g_ca_trim_sp (by omega) H) (fun r_52 t_52 p_52 => ?_)
      obtain ⟨H_52, G_52, q_52⟩ := p_52
      try dsimp +instances only
      have F_52 := F.trans (fr.mono G_52 (fun a j h => ffl h))
      exact zO.ret ⟨H_52, F_52, trivial⟩
    ·
      try dsimp +instances only
      refine zO.bindp (g_bs_at_sp (by omega) H) (fun r_15 p_15 => ?_)
      try dsimp +instances only
      refine zO.bindp (g_ca_regionAt_sp (by omega) H) (fun r_18 p_18 => ?_)
      try dsimp +instances only
      refine zO.ite (fun c_5 => ?_) (fun c_5 => ?_)
      ·
        try dsimp +instances only
        unfold g_ca_admit_L45
        try dsimp +instances only
        try have ew_6 := w32_id (x := x3 + 1) (by omega) (by omega)
        exact g_ca_admit_L4_sp (by omega) n x2 (w32 (x3 + 1)) σ H F (by omega) (by omega)
      ·
        try dsimp +instances only
        refine zO.bindp (g_bs_at_sp (by omega) H) (fun r_27 p_27 => ?_)
        try dsimp +instances only
        refine zO.bind (g_ca_ask_sp (by omega) H) (fun r_30 t_30 p_30 => ?_)
        obtain ⟨H_30, G_30, q_30⟩ := p_30
        try dsimp +instances only
        have F_30 := F.trans (fr.mono G_30 (fun a j h => ffl (ffr h)))
        refine zO.bindp (g_bs_at_sp (by omega) H_30) (fun r_36 p_36 => ?_)
        try dsimp +instances only
        refine zO.bind (g_ca_addNew_sp (by omega) H_30) (fun r_39 t_39 p_39 => ?_)
        obtain ⟨H_39, G_39, q_39⟩ := p_39
        try dsimp +instances only
        have F_39 := F_30.trans (fr.mono G_39 (fun a j h => ffl (ffr (ffr h))))
        try have ew_11 := w32_id (x := x2 + 1) (by omega) (by omega)
        unfold g_ca_admit_L45
        try dsimp +instances only
        try have ew_12 := w32_id (x := x3 + 1) (by omega) (by omega)
        exact g_ca_admit_L4_sp (by omega) n (w32 (x2 + 1)) (w32 (x3 + 1)) t_39 H_39 F_39 (by omega) (by omega)
theorem g_ca_admit_sp {a0 : Nat} (ha0 : a0 = 48 ∨ a0 = 106) {σ : zS} (H : CI σ) : zO (g_ca_admit a0 σ) (fun v s => CI s ∧ fr (fw_ca_admit a0) σ s ∧ (True)) := by
  have F : fr (fw_ca_admit a0) σ σ := fr.refl σ
  unfold g_ca_admit
  try dsimp +instances only
  exact g_ca_admit_L4_sp (by omega) zK 0 0 σ H F (by omega) (by show _ < (1000000 : Int); omega)
end
