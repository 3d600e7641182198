/-! THE REFERENCE over the typed memory: merging -/
theorem lCmp_gt {x y : Int} : lCmp x y ≤ 0 ↔ ¬ y < x := by
  unfold lCmp
  split
  · omega
  · split <;> omega
theorem lCmp_lt {x y : Int} : lCmp x y < 0 ↔ x < y := by
  unfold lCmp
  split
  · omega
  · split <;> omega
theorem lCmp_eq {x y : Int} : lCmp x y = 0 ↔ x = y := by
  unfold lCmp
  split
  · omega
  · split <;> omega
abbrev bOne (a b : Bx) : Prop := (a.2.2.1 = b.2.2.1 ∧ a.2.2.2 = b.2.2.2 ∧ (a.2.1 + 1 = b.1 ∨ b.2.1 + 1 = a.1)) ∨ (a.1 = b.1 ∧ a.2.1 = b.2.1 ∧ (a.2.2.2 + 1 = b.2.2.1 ∨ b.2.2.2 + 1 = a.2.2.1))
theorem s_one183 {x : Int} {y : Int} {σ : zS} : g_m_isOneBox_L183 x y σ = some (if x ≠ 0 ∨ y ≠ 0 then 1 else 0, σ) := by
  unfold g_m_isOneBox_L183
  by_cases h : x = 0
  · rw [if_neg (fun e => e h)]
    by_cases h2 : y = 0
    · rw [if_pos h2, if_neg (by omega)]
    · rw [if_neg h2, if_pos (by omega)]
  · rw [if_pos h, if_pos (Or.inl h)]
theorem s_one96 {i j x : Int} {σ : zS} {A B : Bx} (hA : bxA σ 144 i = A) (hB : bxA σ 144 j = B) (okA : bOk A) (okB : bOk B) (h1 : 0 ≤ i) (h2 : i + 3 < 2740) (h3 : 0 ≤ j) (h4 : j + 3 < 2740) : g_m_isOneBox_L96 i j x σ = some (if x ≠ 0 ∨ (A.1 = B.1 ∧ A.2.1 = B.2.1 ∧ (A.2.2.2 + 1 = B.2.2.1 ∨ B.2.2.2 + 1 = A.2.2.1)) then 1 else 0, σ) := by
  obtain ⟨a1, a2, a3, a4⟩ := bx1 hA
  obtain ⟨b1, b2, b3, b4⟩ := bx1 hB
  dsimp only [bOk] at okA okB
  unfold g_m_isOneBox_L96 g_m_isOneBox_L182 g_m_isOneBox_L178
  rw [w32_id (x := i + 1) (by omega) (by omega), w32_id (x := i + 2) (by omega) (by omega), w32_id (x := i + 3) (by omega) (by omega), w32_id (x := j + 1) (by omega) (by omega), w32_id (x := j + 2) (by omega) (by omega), w32_id (x := j + 3) (by omega) (by omega)]
  rw [if_pos (by omega), if_pos (by omega)]
  simp only [a1, a2, a3, a4, b1, b2, b3, b4, s_one183]
  rw [w32_id (x := A.2.2.2 + 1) (by omega) (by omega), w32_id (x := B.2.2.2 + 1) (by omega) (by omega)]
  by_cases c1 : A.1 = B.1
  · rw [if_neg (fun e => e c1), if_pos (by omega), if_pos (by omega)]
    by_cases c2 : A.2.1 = B.2.1
    · rw [if_neg (fun e => e c2), if_pos (by omega), if_pos (by omega)]
      by_cases c3 : A.2.2.2 + 1 = B.2.2.1
      · rw [if_pos c3, if_pos (Or.inr (by decide)), if_pos (Or.inr ⟨c1, c2, Or.inl c3⟩)]
      · rw [if_neg c3, if_pos (by omega), if_pos (by omega)]
        by_cases c4 : B.2.2.2 + 1 = A.2.2.1
        · rw [if_neg (fun e => e c4), if_pos (Or.inr (by decide)), if_pos (Or.inr ⟨c1, c2, Or.inr c4⟩)]
        · rw [if_pos c4]
          by_cases hx : x = 0
          · rw [if_neg (by omega), if_neg (by omega)]
          · rw [if_pos (Or.inl hx), if_pos (Or.inl hx)]
    · rw [if_pos c2]
      by_cases hx : x = 0
      · rw [if_neg (by omega), if_neg (by omega)]
      · rw [if_pos (Or.inl hx), if_pos (Or.inl hx)]
  · rw [if_pos c1]
    by_cases hx : x = 0
    · rw [if_neg (by omega), if_neg (by omega)]
    · rw [if_pos (Or.inl hx), if_pos (Or.inl hx)]
theorem s_isOneBox {i j : Int} {σ : zS} {A B : Bx} (hA : bxA σ 144 (340 + 10 * i) = A) (hB : bxA σ 144 (340 + 10 * j) = B) (okA : bOk A) (okB : bOk B) (h1 : 0 ≤ i) (h2 : i < 240) (h3 : 0 ≤ j) (h4 : j < 240) : g_m_isOneBox i j σ = some (if bOne A B then 1 else 0, σ) := by
  obtain ⟨a1, a2, a3, a4⟩ := bx1 hA
  obtain ⟨b1, b2, b3, b4⟩ := bx1 hB
  have oA := okA
  have oB := okB
  dsimp only [bOk] at oA oB
  unfold g_m_isOneBox g_m_isOneBox_L95 g_m_isOneBox_L91
  rw [s_region (by omega) (by omega)]
  rw [Option.bind_some]
  try dsimp only
  rw [s_region (by omega) (by omega)]
  rw [Option.bind_some]
  try dsimp only
  rw [w32_id (x := 340 + 10 * i + 1) (by omega) (by omega), w32_id (x := 340 + 10 * i + 2) (by omega) (by omega), w32_id (x := 340 + 10 * i + 3) (by omega) (by omega), w32_id (x := 340 + 10 * j + 1) (by omega) (by omega), w32_id (x := 340 + 10 * j + 2) (by omega) (by omega), w32_id (x := 340 + 10 * j + 3) (by omega) (by omega)]
  rw [if_pos (by omega), if_pos (by omega)]
  simp only [a1, a2, a3, a4, b1, b2, b3, b4]
  rw [w32_id (x := A.2.1 + 1) (by omega) (by omega), w32_id (x := B.2.1 + 1) (by omega) (by omega)]
  rw [s_one96 (x := 0) hA hB okA okB (by omega) (by omega) (by omega) (by omega), s_one96 (x := 1) hA hB okA okB (by omega) (by omega) (by omega) (by omega)]
  rw [if_pos (show (1 : Int) ≠ 0 ∨ _ from Or.inl (by decide))]
  have e0 : ¬ (A.2.2.1 = B.2.2.1 ∧ A.2.2.2 = B.2.2.2 ∧ (A.2.1 + 1 = B.1 ∨ B.2.1 + 1 = A.1)) → (if (0 : Int) ≠ 0 ∨ (A.1 = B.1 ∧ A.2.1 = B.2.1 ∧ (A.2.2.2 + 1 = B.2.2.1 ∨ B.2.2.2 + 1 = A.2.2.1)) then (1 : Int) else 0) = if bOne A B then 1 else 0 := by
    intro hn
    by_cases c : A.1 = B.1 ∧ A.2.1 = B.2.1 ∧ (A.2.2.2 + 1 = B.2.2.1 ∨ B.2.2.2 + 1 = A.2.2.1)
    · rw [if_pos (Or.inr c), if_pos (Or.inr c)]
    · rw [if_neg (fun e => e.elim (fun e => e rfl) c), if_neg (fun e => e.elim hn c)]
  by_cases c1 : A.2.2.1 = B.2.2.1
  · rw [if_neg (fun e => e c1), if_pos (by omega), if_pos (by omega)]
    by_cases c2 : A.2.2.2 = B.2.2.2
    · rw [if_neg (fun e => e c2), if_pos (by omega), if_pos (by omega)]
      by_cases c3 : A.2.1 + 1 = B.1
      · rw [if_pos c3, if_pos (show bOne A B from Or.inl ⟨c1, c2, Or.inl c3⟩)]
      · rw [if_neg c3, if_pos (by omega), if_pos (by omega)]
        by_cases c4 : B.2.1 + 1 = A.1
        · rw [if_neg (fun e => e c4), if_pos (show bOne A B from Or.inl ⟨c1, c2, Or.inr c4⟩)]
        · rw [if_pos c4, e0 (by omega)]
    · rw [if_pos c2, e0 (by omega)]
  · rw [if_pos c1, e0 (by omega)]
/-- the state behind the joining of i and j, but for the boxes -/
def jnW (s : zS) (i j : Int) : zS := if s 147 (121 + i) < s 147 (121 + j) then zu s 147 (121 + i) (s 147 (121 + j)) else s
theorem s_joins90 {s : zS} {i j N : Nat} (hN : s 144 0 = (N : Int)) (hi : i < N) (hj : j < N) (hN2 : N ≤ 239) : g_m_joins_L90 (i : Int) (j : Int) s = some ((), zu (zu (gS2 (jnW s (i : Int) (j : Int)) (j : Int) (N : Int) 0) 144 0 ((N : Int) - 1)) 144 6 (w32 (s 144 6 + 1))) := by
  unfold g_m_joins_L90
  rw [w32_id (x := 121 + (j : Int)) (by omega) (by omega), w32_id (x := 121 + (i : Int)) (by omega) (by omega), if_pos (by omega), if_pos (by omega)]
  show (if lCmp (s 147 (121 + (j : Int))) (s 147 (121 + (i : Int))) ≤ 0 then _ else _) = _
  have fin : ∀ t : zS, t 144 0 = (N : Int) → t 144 6 = s 144 6 → g_m_joins_L130 (j : Int) t = some ((), zu (zu (gS2 t (j : Int) (N : Int) 0) 144 0 ((N : Int) - 1)) 144 6 (w32 (s 144 6 + 1))) := by
    intro t h1 h2
    unfold g_m_joins_L130
    rw [s_goes hj h1 hN2]
    rw [Option.bind_some]
    try dsimp only
    have e : zu (gS2 t (j : Int) (N : Int) 0) 144 0 ((N : Int) - 1) 144 6 = s 144 6 := by
      rw [zu_i (by decide)]
      unfold gS2
      rw [if_neg (fun e => by omega), if_neg (fun e => by omega), h2]
    rw [e]
  by_cases c : s 147 (121 + (i : Int)) < s 147 (121 + (j : Int))
  · rw [if_neg (fun e => lCmp_gt.mp e c), if_pos (by omega), if_pos (by omega)]
    unfold jnW
    rw [if_pos c]
    exact fin _ (by rw [zu_a (by decide)]; exact hN) (zu_a (by decide))
  · rw [if_pos (lCmp_gt.mpr c)]
    unfold jnW
    rw [if_neg c]
    exact fin s hN rfl
def jnB (σ : zS) (i j : Int) : zS := zu (zb σ 144 (340 + 10 * i) (bAro (bxA σ 144 (340 + 10 * i)) (bxA σ 144 (340 + 10 * j)))) 144 (349 + 10 * i) (zmn 9999 (w32 (σ 144 (349 + 10 * i) + σ 144 (349 + 10 * j))))
def jnH (σ : zS) (i j : Int) : zS := if σ 144 (344 + 10 * j) < 0 then jnB σ i j else zb (jnB σ i j) 144 (344 + 10 * i) (bAro (bxA σ 144 (344 + 10 * i)) (bxA σ 144 (344 + 10 * j)))
def jnS (σ : zS) (i j N : Int) : zS := zu (zu (gS2 (jnW (jnH σ i j) i j) j N 0) 144 0 (N - 1)) 144 6 (w32 (σ 144 6 + 1))
theorem s_joins {σ : zS} {i j N : Nat} (hN : σ 144 0 = (N : Int)) (hij : i < j) (hj : j < N) (hN2 : N ≤ 239) : g_m_joins (i : Int) (j : Int) σ = some ((), jnS σ (i : Int) (j : Int) (N : Int)) := by
  have l := l144
  unfold g_m_joins
  rw [s_region (by omega) (by omega)]
  rw [Option.bind_some]
  try dsimp only
  rw [s_region (by omega) (by omega)]
  rw [Option.bind_some]
  try dsimp only
  rw [s_arounds (by omega) (by omega) (by omega) (by omega) (by omega) (by omega)]
  rw [Option.bind_some]
  dsimp only
  rw [w32_id (x := 340 + 10 * (i : Int) + 9) (by omega) (by omega), w32_id (x := 340 + 10 * (j : Int) + 9) (by omega) (by omega), w32_id (x := 340 + 10 * (i : Int) + 4) (by omega) (by omega), w32_id (x := 340 + 10 * (j : Int) + 4) (by omega) (by omega), if_pos (by omega), if_pos (by omega), s_less, Option.bind_some]
  dsimp only
  rw [if_pos (by omega), if_pos (by omega)]
  rw [show 340 + 10 * (i : Int) + 9 = 349 + 10 * (i : Int) by omega, show 340 + 10 * (j : Int) + 9 = 349 + 10 * (j : Int) by omega, show 340 + 10 * (i : Int) + 4 = 344 + 10 * (i : Int) by omega, show 340 + 10 * (j : Int) + 4 = 344 + 10 * (j : Int) by omega]
  have e1 : zb σ 144 (340 + 10 * (i : Int)) (bAro (bxA σ 144 (340 + 10 * (i : Int))) (bxA σ 144 (340 + 10 * (j : Int)))) 144 (349 + 10 * (i : Int)) = σ 144 (349 + 10 * (i : Int)) := zb_i (by omega)
  have e2 : zb σ 144 (340 + 10 * (i : Int)) (bAro (bxA σ 144 (340 + 10 * (i : Int))) (bxA σ 144 (340 + 10 * (j : Int)))) 144 (349 + 10 * (j : Int)) = σ 144 (349 + 10 * (j : Int)) := zb_i (by omega)
  rw [e1, e2]
  show (if jnB σ (i : Int) (j : Int) 144 (344 + 10 * (j : Int)) < 0 then g_m_joins_L90 (i : Int) (j : Int) (jnB σ (i : Int) (j : Int)) else (g_m_arounds 144 144 (344 + 10 * (i : Int)) (344 + 10 * (j : Int)) (jnB σ (i : Int) (j : Int))).bind _) = _
  have e3 : jnB σ (i : Int) (j : Int) 144 (344 + 10 * (j : Int)) = σ 144 (344 + 10 * (j : Int)) := by
    unfold jnB
    rw [zu_i (by omega), zb_i (by omega)]
  have e4 : bxA (jnB σ (i : Int) (j : Int)) 144 (344 + 10 * (i : Int)) = bxA σ 144 (344 + 10 * (i : Int)) := by
    unfold jnB
    rw [zu_bxi (by omega), zb_bxi (by omega)]
  have e5 : bxA (jnB σ (i : Int) (j : Int)) 144 (344 + 10 * (j : Int)) = bxA σ 144 (344 + 10 * (j : Int)) := by
    unfold jnB
    rw [zu_bxi (by omega), zb_bxi (by omega)]
  have e6 : jnB σ (i : Int) (j : Int) 144 0 = (N : Int) := by
    unfold jnB
    rw [zu_i (by omega), zb_i (by omega), hN]
  have e7 : jnB σ (i : Int) (j : Int) 144 6 = σ 144 6 := by
    unfold jnB
    rw [zu_i (by omega), zb_i (by omega)]
  rw [e3]
  unfold jnS jnH
  by_cases c : σ 144 (344 + 10 * (j : Int)) < 0
  · rw [if_pos c, if_pos c, s_joins90 e6 (by omega) hj hN2, e7]
  · rw [if_neg c, if_neg c, s_arounds (by omega) (by omega) (by omega) (by omega) (by omega) (by omega)]
    rw [Option.bind_some]
    try dsimp only
    rw [e4, e5, s_joins90 (by rw [zb_i (by omega)]; exact e6) (by omega) hj hN2, zb_i (by omega), e7]
/-- the region that comes of two -/
def mJoin (r s : Rg) : Rg := (bAro r.1 s.1, if s.2.1.1 < 0 then r.2.1 else bAro r.2.1 s.2.1, r.2.2.1, zmn 9999 (w32 (r.2.2.2.1 + s.2.2.2.1)), if r.2.2.2.2 < s.2.2.2.2 then s.2.2.2.2 else r.2.2.2.2)
theorem rgA_jn {σ : zS} {i j k : Int} (hi : 0 ≤ i) (hij : i < j) (hk : 0 ≤ k) : rgA (jnW (jnH σ i j) i j) k = if k = i then mJoin (rgA σ i) (rgA σ j) else rgA σ k := by
  have hH : ∀ a b, (a ≠ 144 ∨ b < 340 + 10 * i ∨ 350 + 10 * i ≤ b) → jnH σ i j a b = σ a b := by
    intro a b h
    unfold jnH jnB
    by_cases c : σ 144 (344 + 10 * j) < 0
    · rw [if_pos c, zu_c (by omega)]
      rcases h with h | h
      · exact zb_a h
      · exact zb_i (by omega)
    · rw [if_neg c]
      rcases h with h | h
      · rw [zb_a h, zu_a h, zb_a h]
      · rw [zb_i (by omega), zu_i (by omega), zb_i (by omega)]
  have hW : ∀ a b, (a ≠ 147 ∨ b ≠ 121 + i) → jnW (jnH σ i j) i j a b = jnH σ i j a b := by
    intro a b h
    unfold jnW
    by_cases c : jnH σ i j 147 (121 + i) < jnH σ i j 147 (121 + j)
    · rw [if_pos c, zu_c h]
    · rw [if_neg c]
  by_cases hki : k = i
  · subst hki
    rw [if_pos rfl]
    have hbx : ∀ x, bxA (jnW (jnH σ k j) k j) 144 x = bxA (jnH σ k j) 144 x := by
      intro x
      unfold bxA
      rw [hW _ _ (Or.inl (by decide)), hW _ _ (Or.inl (by decide)), hW _ _ (Or.inl (by decide)), hW _ _ (Or.inl (by decide))]
    unfold rgA mJoin
    dsimp only
    rw [hbx, hbx, hW _ _ (Or.inl (by decide)), hW _ _ (Or.inl (by decide))]
    have w1 : jnW (jnH σ k j) k j 147 (121 + k) = if σ 147 (121 + k) < σ 147 (121 + j) then σ 147 (121 + j) else σ 147 (121 + k) := by
      unfold jnW
      rw [hH 147 (121 + k) (Or.inl (by decide)), hH 147 (121 + j) (Or.inl (by decide))]
      by_cases c : σ 147 (121 + k) < σ 147 (121 + j)
      · rw [if_pos c, if_pos c, zu_e rfl]
      · rw [if_neg c, if_neg c, hH _ _ (Or.inl (by decide))]
    rw [w1]
    have f1 : (bxA σ 144 (344 + 10 * j)).1 = σ 144 (344 + 10 * j) := rfl
    rw [f1]
    unfold jnH
    by_cases c : σ 144 (344 + 10 * j) < 0
    · rw [if_pos c, if_pos c]
      unfold jnB
      rw [zu_bxi (by omega), zb_bx rfl, zu_bxi (by omega), zb_bxi (by omega), zu_i (by omega), zb_i (by omega), zu_e rfl]
    · rw [if_neg c, if_neg c, zb_bxi (by omega), zb_bx rfl, zb_i (by omega), zb_i (by omega)]
      unfold jnB
      rw [zu_bxi (by omega), zb_bx rfl, zu_i (by omega), zb_i (by omega), zu_e rfl]
  · rw [if_neg hki]
    unfold rgA
    have hb : ∀ x, (x + 4 ≤ 340 + 10 * i ∨ 350 + 10 * i ≤ x) → bxA (jnW (jnH σ i j) i j) 144 x = bxA σ 144 x := by
      intro x hx
      unfold bxA
      rw [hW _ _ (Or.inl (by decide)), hW _ _ (Or.inl (by decide)), hW _ _ (Or.inl (by decide)), hW _ _ (Or.inl (by decide)), hH _ _ (by omega), hH _ _ (by omega), hH _ _ (by omega), hH _ _ (by omega)]
    rw [hb _ (by omega), hb _ (by omega), hW _ _ (Or.inl (by decide)), hW _ _ (Or.inl (by decide)), hW _ _ (Or.inr (by omega)), hH _ _ (by omega), hH _ _ (by omega), hH _ _ (Or.inl (by decide))]
theorem rgA_jnS {σ : zS} {i j N k : Int} (hi : 0 ≤ i) (hij : i < j) (hj : j < N) (hN : N ≤ 239) (hk : 0 ≤ k) (hkN : k < N - 1) : rgA (jnS σ i j N) k = if (if k < j then k else k + 1) = i then mJoin (rgA σ i) (rgA σ j) else rgA σ (if k < j then k else k + 1) := by
  have e : rgA (jnS σ i j N) k = rgA (zu (gS2 (jnW (jnH σ i j) i j) j N 0) 144 0 (N - 1)) k := by
    unfold jnS rgA
    generalize zu (gS2 (jnW (jnH σ i j) i j) j N 0) 144 0 (N - 1) = S
    rw [zu_bxi (j := 340 + 10 * k) (by omega), zu_bxi (j := 344 + 10 * k) (by omega), zu_i (j := 348 + 10 * k) (by omega), zu_i (j := 349 + 10 * k) (by omega), zu_a (by decide)]
  rw [e, rgA_gS2 (by omega) hN hk hkN]
  by_cases h : k < j
  · rw [if_pos h, if_pos h, rgA_jn hi hij hk]
  · rw [if_neg h, if_neg h, rgA_jn hi hij (by omega)]
