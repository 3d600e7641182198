/-! THE REFERENCE over the typed memory: its small methods -/
theorem w64_id {x : Int} (h1 : -9223372036854775808 ≤ x) (h2 : x < 9223372036854775808) : w64 x = x := by
  unfold w64 Int.bmod
  simp only [Nat.reducePow]
  split <;> omega
theorem w32_bd (x : Int) : -2147483648 ≤ w32 x ∧ w32 x < 2147483648 := by
  unfold w32 Int.bmod
  simp only [Nat.reducePow]
  split <;> omega
theorem zu_e {σ : zS} {a : Nat} {i j v : Int} (h : j = i) : zu σ a i v a j = v := if_pos ⟨rfl, h⟩
theorem zu_a {σ : zS} {a b : Nat} {i j v : Int} (h : b ≠ a) : zu σ a i v b j = σ b j := if_neg (fun e => h e.1)
theorem zu_c {σ : zS} {a b : Nat} {i j v : Int} (h : b ≠ a ∨ j ≠ i) : zu σ a i v b j = σ b j := if_neg (fun e => by omega)
theorem zu_i {σ : zS} {a b : Nat} {i j v : Int} (h : j ≠ i) : zu σ a i v b j = σ b j := if_neg (fun e => h e.2)
def bxA (σ : zS) (a : Nat) (i : Int) : Bx := (σ a i, σ a (i + 1), σ a (i + 2), σ a (i + 3))
/-- a box laid at a place -/
def zb (σ : zS) (a : Nat) (i : Int) (b : Bx) : zS := fun c j => if c = a ∧ i ≤ j ∧ j < i + 4 then (if j = i then b.1 else if j = i + 1 then b.2.1 else if j = i + 2 then b.2.2.1 else b.2.2.2) else σ c j
theorem zb_a {σ : zS} {a c : Nat} {i j : Int} {b : Bx} (h : c ≠ a) : zb σ a i b c j = σ c j := if_neg (fun e => h e.1)
theorem zb_i {σ : zS} {a c : Nat} {i j : Int} {b : Bx} (h : j < i ∨ i + 4 ≤ j) : zb σ a i b c j = σ c j := if_neg (fun e => by omega)
theorem zb_bx {σ : zS} {a : Nat} {i j : Int} {b : Bx} (h : j = i) : bxA (zb σ a i b) a j = b := by
  subst h
  unfold bxA zb
  rw [if_pos ⟨rfl, by omega, by omega⟩, if_pos rfl, if_pos ⟨rfl, by omega, by omega⟩, if_neg (by omega), if_pos rfl, if_pos ⟨rfl, by omega, by omega⟩, if_neg (by omega), if_neg (by omega), if_pos rfl, if_pos ⟨rfl, by omega, by omega⟩, if_neg (by omega), if_neg (by omega), if_neg (by omega)]
theorem zb_bxa {σ : zS} {a c : Nat} {i j : Int} {b : Bx} (h : c ≠ a) : bxA (zb σ a i b) c j = bxA σ c j := by
  unfold bxA
  rw [zb_a h, zb_a h, zb_a h, zb_a h]
theorem zb_bxi {σ : zS} {a c : Nat} {i j : Int} {b : Bx} (h : j + 4 ≤ i ∨ i + 4 ≤ j) : bxA (zb σ a i b) c j = bxA σ c j := by
  unfold bxA
  rw [zb_i (by omega), zb_i (by omega), zb_i (by omega), zb_i (by omega)]
theorem zu_bxa {σ : zS} {a c : Nat} {i j v : Int} (h : c ≠ a) : bxA (zu σ a i v) c j = bxA σ c j := by
  unfold bxA
  rw [zu_a h, zu_a h, zu_a h, zu_a h]
theorem zu_bxi {σ : zS} {a c : Nat} {i j v : Int} (h : i < j ∨ j + 4 ≤ i) : bxA (zu σ a i v) c j = bxA σ c j := by
  unfold bxA
  rw [zu_i (by omega), zu_i (by omega), zu_i (by omega), zu_i (by omega)]
theorem zu_zb {σ : zS} {a : Nat} {i x y z w : Int} : zu (zu (zu (zu σ a i x) a (i + 1) y) a (i + 2) z) a (i + 3) w = zb σ a i (x, y, z, w) := by
  funext c j
  unfold zu zb
  by_cases hc : c = a
  · subst hc
    by_cases h3 : j = i + 3
    · rw [if_pos ⟨rfl, h3⟩, if_pos ⟨rfl, by omega, by omega⟩, if_neg (by omega), if_neg (by omega), if_neg (by omega)]
    · rw [if_neg (fun e => h3 e.2)]
      by_cases h2 : j = i + 2
      · rw [if_pos ⟨rfl, h2⟩, if_pos ⟨rfl, by omega, by omega⟩, if_neg (by omega), if_neg (by omega), if_pos h2]
      · rw [if_neg (fun e => h2 e.2)]
        by_cases h1 : j = i + 1
        · rw [if_pos ⟨rfl, h1⟩, if_pos ⟨rfl, by omega, by omega⟩, if_neg (by omega), if_pos h1]
        · rw [if_neg (fun e => h1 e.2)]
          by_cases h0 : j = i
          · rw [if_pos ⟨rfl, h0⟩, if_pos ⟨rfl, by omega, by omega⟩, if_pos h0]
          · rw [if_neg (fun e => h0 e.2), if_neg (fun e => by omega)]
  · rw [if_neg (fun e => hc e.1), if_neg (fun e => hc e.1), if_neg (fun e => hc e.1), if_neg (fun e => hc e.1), if_neg (fun e => hc e.1)]
theorem s_isIn_t {v a b : Int} {σ : zS} (h1 : a ≤ v) (h2 : v ≤ b) : g_m_isIn v a b σ = some (1, σ) := by
  unfold g_m_isIn
  rw [if_neg (by omega), if_neg (by omega)]
theorem s_isIn_f {v a b : Int} {σ : zS} (h : v < a ∨ b < v) : g_m_isIn v a b σ = some (0, σ) := by
  unfold g_m_isIn
  by_cases h1 : v < a
  · rw [if_pos h1]
  · rw [if_neg h1, if_pos (by omega)]
theorem s_less {x y : Int} {σ : zS} : g_m_less x y σ = some (zmn x y, σ) := by
  unfold g_m_less zmn
  by_cases h : x < y
  · rw [if_neg (by omega), if_pos h]
  · rw [if_pos (by omega), if_neg h]
theorem s_more {x y : Int} {σ : zS} : g_m_more x y σ = some (if y < x then x else y, σ) := by
  unfold g_m_more
  by_cases h : y < x
  · rw [if_neg (by omega), if_pos h]
  · rw [if_pos (by omega), if_neg h]
theorem zmx_c {x y : Int} : (if y < x then x else y) = zmx x y := by
  unfold zmx
  split <;> split <;> omega
theorem s_region {x : Int} {σ : zS} (h1 : -1000 ≤ x) (h2 : x ≤ 1000) : g_m_region_173 x σ = some (340 + 10 * x, σ) := by
  unfold g_m_region_173
  rw [w32_id (x := 10 * x) (by omega) (by omega), w32_id (by omega) (by omega)]
theorem s_rowAt {x : Int} {σ : zS} (h1 : -1000 ≤ x) (h2 : x ≤ 1000) : g_m_rowAt x σ = some (20 + 3 * x, σ) := by
  unfold g_m_rowAt
  rw [w32_id (x := 3 * x) (by omega) (by omega), w32_id (by omega) (by omega)]
theorem s_isBox_t {x0 x1 y0 y1 : Int} {σ : zS} (h : bOk (x0, x1, y0, y1)) : g_m_isBox x0 x1 y0 y1 σ = some (1, σ) := by
  dsimp only [bOk] at h
  unfold g_m_isBox
  rw [s_isIn_t (by omega) (by omega), Option.bind_some, if_neg (show ¬ ((1 : Int) = 0) by decide), s_isIn_t (by omega) (by omega), Option.bind_some, if_neg (show ¬ ((1 : Int) = 0) by decide), s_isIn_t (by omega) (by omega), Option.bind_some, if_neg (show ¬ ((1 : Int) = 0) by decide), s_isIn_t (by omega) (by omega), Option.bind_some, if_neg (show ¬ ((1 : Int) = 0) by decide)]
theorem s_isBox_f {x0 x1 y0 y1 : Int} {σ : zS} (h : ¬ bOk (x0, x1, y0, y1)) : g_m_isBox x0 x1 y0 y1 σ = some (0, σ) := by
  dsimp only [bOk] at h
  unfold g_m_isBox
  by_cases c1 : 0 ≤ x0 ∧ x0 ≤ 31
  · rw [s_isIn_t c1.1 c1.2, Option.bind_some, if_neg (show ¬ ((1 : Int) = 0) by decide)]
    by_cases c2 : x0 ≤ x1 ∧ x1 ≤ 31
    · rw [s_isIn_t c2.1 c2.2, Option.bind_some, if_neg (show ¬ ((1 : Int) = 0) by decide)]
      by_cases c3 : 0 ≤ y0 ∧ y0 ≤ 31
      · rw [s_isIn_t c3.1 c3.2, Option.bind_some, if_neg (show ¬ ((1 : Int) = 0) by decide), s_isIn_f (by omega), Option.bind_some, if_pos rfl]
      · rw [s_isIn_f (by omega), Option.bind_some, if_pos rfl]
    · rw [s_isIn_f (by omega), Option.bind_some, if_pos rfl]
  · rw [s_isIn_f (by omega), Option.bind_some, if_pos rfl]
theorem s_sets {a : Nat} {i x y z w : Int} {σ : zS} (h1 : 0 ≤ i) (h2 : i + 3 < zLI a) (h3 : zLI a ≤ 100000) : g_m_sets a i x y z w σ = some ((), zb σ a i (x, y, z, w)) := by
  unfold g_m_sets
  rw [w32_id (x := i + 1) (by omega) (by omega), w32_id (x := i + 2) (by omega) (by omega), w32_id (x := i + 3) (by omega) (by omega), if_pos (by omega), if_pos (by omega), if_pos (by omega), if_pos (by omega)]
  show some ((), zu (zu (zu (zu σ a i x) a (i + 1) y) a (i + 2) z) a (i + 3) w) = _
  rw [zu_zb]
theorem s_copies {a c : Nat} {i j : Int} {σ : zS} (h1 : 0 ≤ i) (h2 : i + 3 < zLI a) (h3 : zLI a ≤ 100000) (h4 : 0 ≤ j) (h5 : j + 3 < zLI c) (h6 : zLI c ≤ 100000) : g_m_copies a c i j σ = some ((), zb σ c j (bxA σ a i)) := by
  unfold g_m_copies
  rw [w32_id (x := i + 1) (by omega) (by omega), w32_id (x := i + 2) (by omega) (by omega), w32_id (x := i + 3) (by omega) (by omega), if_pos (by omega), if_pos (by omega), if_pos (by omega), if_pos (by omega)]
  show (g_m_sets c j (σ a i) (σ a (i + 1)) (σ a (i + 2)) (σ a (i + 3)) σ).bind _ = _
  rw [s_sets h4 h5 h6]
  rfl
theorem s_doMeet {a c : Nat} {i j : Int} {σ : zS} (h1 : 0 ≤ i) (h2 : i + 3 < zLI a) (h3 : zLI a ≤ 100000) (h4 : 0 ≤ j) (h5 : j + 3 < zLI c) (h6 : zLI c ≤ 100000) : g_m_doMeet a c i j σ = some (if bMt (bxA σ a i) (bxA σ c j) then 1 else 0, σ) := by
  unfold g_m_doMeet
  rw [w32_id (x := i + 1) (by omega) (by omega), w32_id (x := i + 2) (by omega) (by omega), w32_id (x := i + 3) (by omega) (by omega), w32_id (x := j + 1) (by omega) (by omega), w32_id (x := j + 2) (by omega) (by omega), w32_id (x := j + 3) (by omega) (by omega), if_pos (by omega), if_pos (by omega)]
  show (if σ c (j + 1) < σ a i then _ else _) = _
  by_cases c1 : σ c (j + 1) < σ a i
  · rw [if_pos c1, if_neg (fun e => by dsimp only [bMt, bxA] at e; omega)]
  · rw [if_neg c1, if_pos (by omega), if_pos (by omega)]
    show (if σ a (i + 1) < σ c j then _ else _) = _
    by_cases c2 : σ a (i + 1) < σ c j
    · rw [if_pos c2, if_neg (fun e => by dsimp only [bMt, bxA] at e; omega)]
    · rw [if_neg c2, if_pos (by omega), if_pos (by omega)]
      show (if σ c (j + 3) < σ a (i + 2) then _ else _) = _
      by_cases c3 : σ c (j + 3) < σ a (i + 2)
      · rw [if_pos c3, if_neg (fun e => by dsimp only [bMt, bxA] at e; omega)]
      · rw [if_neg c3, if_pos (by omega), if_pos (by omega)]
        show (if σ a (i + 3) < σ c (j + 2) then _ else _) = _
        by_cases c4 : σ a (i + 3) < σ c (j + 2)
        · rw [if_pos c4, if_neg (fun e => by dsimp only [bMt, bxA] at e; omega)]
        · rw [if_neg c4, if_pos (by dsimp only [bMt, bxA]; omega)]
theorem s_has {a : Nat} {i x y : Int} {σ : zS} (h1 : 0 ≤ i) (h2 : i + 3 < zLI a) (h3 : zLI a ≤ 100000) : g_m_has a i x y σ = some (if bIn (bxA σ a i) x y then 1 else 0, σ) := by
  unfold g_m_has
  rw [w32_id (x := i + 1) (by omega) (by omega), w32_id (x := i + 2) (by omega) (by omega), w32_id (x := i + 3) (by omega) (by omega), if_pos (by omega), if_pos (by omega)]
  show (g_m_isIn x (σ a i) (σ a (i + 1)) σ).bind _ = _
  by_cases c1 : σ a i ≤ x ∧ x ≤ σ a (i + 1)
  · rw [s_isIn_t c1.1 c1.2, Option.bind_some, if_neg (show ¬ ((1 : Int) = 0) by decide), if_pos (by omega), if_pos (by omega)]
    show (g_m_isIn y (σ a (i + 2)) (σ a (i + 3)) σ).bind _ = _
    by_cases c2 : σ a (i + 2) ≤ y ∧ y ≤ σ a (i + 3)
    · rw [s_isIn_t c2.1 c2.2, Option.bind_some, if_neg (show ¬ ((1 : Int) = 0) by decide), if_pos (by dsimp only [bIn, bxA]; omega)]
    · rw [s_isIn_f (by omega), Option.bind_some, if_pos rfl, if_neg (fun e => by dsimp only [bIn, bxA] at e; omega)]
  · rw [s_isIn_f (by omega), Option.bind_some, if_pos rfl, if_neg (fun e => by dsimp only [bIn, bxA] at e; omega)]
def bCom (a b : Bx) : Bx := (zmx a.1 b.1, zmn a.2.1 b.2.1, zmx a.2.2.1 b.2.2.1, zmn a.2.2.2 b.2.2.2)
def bAro (a b : Bx) : Bx := if 0 ≤ a.1 then (zmn a.1 b.1, zmx a.2.1 b.2.1, zmn a.2.2.1 b.2.2.1, zmx a.2.2.2 b.2.2.2) else b
theorem s_commons {a c d : Nat} {i j k : Int} {σ : zS} (h1 : 0 ≤ i) (h2 : i + 3 < zLI a) (h3 : zLI a ≤ 100000) (h4 : 0 ≤ j) (h5 : j + 3 < zLI c) (h6 : zLI c ≤ 100000) (h7 : 0 ≤ k) (h8 : k + 3 < zLI d) (h9 : zLI d ≤ 100000) : g_m_commons a c d i j k σ = some ((), zb σ d k (bCom (bxA σ a i) (bxA σ c j))) := by
  unfold g_m_commons
  rw [w32_id (x := i + 1) (by omega) (by omega), w32_id (x := i + 2) (by omega) (by omega), w32_id (x := i + 3) (by omega) (by omega), w32_id (x := j + 1) (by omega) (by omega), w32_id (x := j + 2) (by omega) (by omega), w32_id (x := j + 3) (by omega) (by omega)]
  simp only [s_more, s_less, Option.bind_some, zmx_c]
  rw [if_pos (by omega), if_pos (by omega), if_pos (by omega), if_pos (by omega), if_pos (by omega), if_pos (by omega), if_pos (by omega), if_pos (by omega), s_sets h7 h8 h9]
  rfl
theorem s_arounds {a c : Nat} {i j : Int} {σ : zS} (h1 : 0 ≤ i) (h2 : i + 3 < zLI a) (h3 : zLI a ≤ 100000) (h4 : 0 ≤ j) (h5 : j + 3 < zLI c) (h6 : zLI c ≤ 100000) : g_m_arounds a c i j σ = some ((), zb σ a i (bAro (bxA σ a i) (bxA σ c j))) := by
  unfold g_m_arounds
  rw [w32_id (x := i + 1) (by omega) (by omega), w32_id (x := i + 2) (by omega) (by omega), w32_id (x := i + 3) (by omega) (by omega), w32_id (x := j + 1) (by omega) (by omega), w32_id (x := j + 2) (by omega) (by omega), w32_id (x := j + 3) (by omega) (by omega)]
  simp only [s_more, s_less, Option.bind_some, zmx_c]
  rw [if_pos (by omega)]
  unfold bAro
  show (if 0 ≤ σ a i then _ else _) = some ((), zb σ a i (if 0 ≤ σ a i then _ else _))
  by_cases c0 : 0 ≤ σ a i
  · rw [if_pos c0, if_pos c0, if_pos (by omega), if_pos (by omega), if_pos (by omega), if_pos (by omega), if_pos (by omega), if_pos (by omega), if_pos (by omega), if_pos (by omega), s_sets h1 h2 h3]
    rfl
  · rw [if_neg c0, if_neg c0, s_copies h4 h5 h6 h1 h2 h3]
    rfl
def bArea (b : Bx) : Int := w32 ((w32 ((w32 (b.2.1 - b.1)) + 1)) * (w32 ((w32 (b.2.2.2 - b.2.2.1)) + 1)))
theorem s_area {a : Nat} {i : Int} {σ : zS} (h1 : 0 ≤ i) (h2 : i + 3 < zLI a) (h3 : zLI a ≤ 100000) : g_m_area a i σ = some (bArea (bxA σ a i), σ) := by
  unfold g_m_area
  rw [w32_id (x := i + 1) (by omega) (by omega), w32_id (x := i + 2) (by omega) (by omega), w32_id (x := i + 3) (by omega) (by omega), if_pos (by omega), if_pos (by omega), if_pos (by omega), if_pos (by omega)]
  rfl
