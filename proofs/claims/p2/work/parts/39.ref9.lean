/-! THE REFERENCE over the typed memory: measures -/
theorem l154 : zLI 154 = 60 := rfl
theorem l155 : zLI 155 = 60 := rfl
def leC (σ : zS) : Nat → Int
  | 0 => σ 155 0
  | n + 1 => if σ 155 ((n + 1 : Nat) : Int) < leC σ n then σ 155 ((n + 1 : Nat) : Int) else leC σ n
def moC (σ : zS) : Nat → Int
  | 0 => σ 155 0
  | n + 1 => if moC σ n < σ 155 ((n + 1 : Nat) : Int) then σ 155 ((n + 1 : Nat) : Int) else moC σ n
theorem lCmp_ge0 {x y : Int} : 0 ≤ lCmp x y ↔ ¬ x < y := by
  constructor
  · intro h c
    have := lCmp_lt.mpr c
    omega
  · intro h
    have : ¬ lCmp x y < 0 := fun e => h (lCmp_lt.mp e)
    omega
theorem s_least9 {σ : zS} {M : Nat} (hM : σ 143 14 = (M : Int)) (hM2 : M ≤ 60) : ∀ (d k n : Nat), k + 1 + d = M → d < n → g_m_leastOf_L9 n (leC σ k) ((k + 1 : Nat) : Int) σ = some (leC σ (M - 1), σ)
  | _, _, 0, _, h => absurd h (Nat.not_lt_zero _)
  | 0, k, n + 1, hk, _ => by
    unfold g_m_leastOf_L9
    simp only [hM]
    rw [if_pos (by omega), show M - 1 = k by omega]
  | d + 1, k, n + 1, hk, hn => by
    have ih := s_least9 hM hM2 d (k + 1) n (by omega) (by omega)
    unfold g_m_leastOf_L9 g_m_leastOf_L38
    simp only [hM]
    rw [if_neg (by omega), if_pos (by omega), w32_id (x := ((k + 1 : Nat) : Int) + 1) (by omega) (by omega)]
    have ex : leC σ (k + 1) = if σ 155 ((k + 1 : Nat) : Int) < leC σ k then σ 155 ((k + 1 : Nat) : Int) else leC σ k := rfl
    rw [ex] at ih
    rw [show ((k + 1 : Nat) : Int) + 1 = ((k + 1 + 1 : Nat) : Int) by omega]
    by_cases c : σ 155 ((k + 1 : Nat) : Int) < leC σ k
    · rw [if_pos c] at ih
      rw [if_neg (fun e => lCmp_ge0.mp e c), if_pos (by omega)]
      exact ih
    · rw [if_neg c] at ih
      rw [if_pos (lCmp_ge0.mpr c)]
      exact ih
theorem s_leastOf {σ : zS} {M : Nat} (hM : σ 143 14 = (M : Int)) (hM2 : M ≤ 60) : g_m_leastOf σ = some (leC σ (M - 1), σ) := by
  unfold g_m_leastOf
  cases M with
  | zero =>
    show g_m_leastOf_L9 (999999 + 1) (σ 155 0) 1 σ = _
    unfold g_m_leastOf_L9
    simp only [hM]
    rw [if_pos (by omega)]
    rfl
  | succ m => exact s_least9 hM hM2 m 0 zK (by omega) (by show _ < 1000000; omega)
theorem s_most9 {σ : zS} {M : Nat} (hM : σ 143 14 = (M : Int)) (hM2 : M ≤ 60) : ∀ (d k n : Nat), k + 1 + d = M → d < n → g_m_mostOf_L9 n (moC σ k) ((k + 1 : Nat) : Int) σ = some (moC σ (M - 1), σ)
  | _, _, 0, _, h => absurd h (Nat.not_lt_zero _)
  | 0, k, n + 1, hk, _ => by
    unfold g_m_mostOf_L9
    simp only [hM]
    rw [if_pos (by omega), show M - 1 = k by omega]
  | d + 1, k, n + 1, hk, hn => by
    have ih := s_most9 hM hM2 d (k + 1) n (by omega) (by omega)
    unfold g_m_mostOf_L9 g_m_mostOf_L38
    simp only [hM]
    rw [if_neg (by omega), if_pos (by omega), w32_id (x := ((k + 1 : Nat) : Int) + 1) (by omega) (by omega)]
    have ex : moC σ (k + 1) = if moC σ k < σ 155 ((k + 1 : Nat) : Int) then σ 155 ((k + 1 : Nat) : Int) else moC σ k := rfl
    rw [ex] at ih
    rw [show ((k + 1 : Nat) : Int) + 1 = ((k + 1 + 1 : Nat) : Int) by omega]
    by_cases c : moC σ k < σ 155 ((k + 1 : Nat) : Int)
    · rw [if_pos c] at ih
      rw [if_neg (fun e => lCmp_gt.mp e c), if_pos (by omega)]
      exact ih
    · rw [if_neg c] at ih
      rw [if_pos (lCmp_gt.mpr c)]
      exact ih
theorem s_mostOf {σ : zS} {M : Nat} (hM : σ 143 14 = (M : Int)) (hM2 : M ≤ 60) : g_m_mostOf σ = some (moC σ (M - 1), σ) := by
  unfold g_m_mostOf
  cases M with
  | zero =>
    show g_m_mostOf_L9 (999999 + 1) (σ 155 0) 1 σ = _
    unfold g_m_mostOf_L9
    simp only [hM]
    rw [if_pos (by omega)]
    rfl
  | succ m => exact s_most9 hM hM2 m 0 zK (by omega) (by show _ < 1000000; omega)
/-- the sum of the first, and whether one so far was over -/
def suC (σ : zS) : Nat → Int
  | 0 => 0
  | n + 1 => w64 (suC σ n + σ 155 (n : Int))
def ovC (σ : zS) : Nat → Int
  | 0 => 0
  | n + 1 => iOr (ovC σ n) (if lXor (suC σ n) (suC σ (n + 1)) < 0 ∧ lXor (σ 155 (n : Int)) (suC σ (n + 1)) < 0 then 1 else 0)
theorem iOr_01 {x y : Int} (hx : x = 0 ∨ x = 1) (hy : y = 0 ∨ y = 1) : iOr x y = 0 ∨ iOr x y = 1 := by
  rcases hx with rfl | rfl <;> rcases hy with rfl | rfl <;> decide
theorem iAnd_01 {x y : Int} (hx : x = 0 ∨ x = 1) (hy : y = 0 ∨ y = 1) : iAnd x y = 0 ∨ iAnd x y = 1 := by
  rcases hx with rfl | rfl <;> rcases hy with rfl | rfl <;> decide
theorem ovC_01 (σ : zS) : ∀ n : Nat, ovC σ n = 0 ∨ ovC σ n = 1
  | 0 => Or.inl rfl
  | n + 1 => iOr_01 (ovC_01 σ n) (by split <;> simp)
theorem s_sum9 {σ : zS} {M : Nat} (hM : σ 143 14 = (M : Int)) (hM2 : M ≤ 60) : ∀ (d k n : Nat), k + d = M → d < n → g_m_sumOf_L9 n (suC σ k) (k : Int) (zu σ 143 15 (ovC σ k)) = some (suC σ M, zu σ 143 15 (ovC σ M))
  | _, _, 0, _, h => absurd h (Nat.not_lt_zero _)
  | 0, k, n + 1, hk, _ => by
    have : k = M := by omega
    subst this
    unfold g_m_sumOf_L9
    show (if zu σ 143 15 (ovC σ k) 143 14 ≤ (k : Int) then _ else _) = _
    rw [zu_i (by decide), hM, if_pos (Int.le_refl _)]
  | d + 1, k, n + 1, hk, hn => by
    have ih := s_sum9 hM hM2 d (k + 1) n (by omega) (by omega)
    have fin : ∀ (o : Int), (o = if lXor (suC σ k) (suC σ (k + 1)) < 0 ∧ lXor (σ 155 (k : Int)) (suC σ (k + 1)) < 0 then 1 else 0) → g_m_sumOf_L60 (g_m_sumOf_L9 n) (k : Int) (suC σ (k + 1)) o (ovC σ k) (zu σ 143 15 (ovC σ k)) = some (suC σ M, zu σ 143 15 (ovC σ M)) := by
      intro o ho
      have e1 : ovC σ (k + 1) = iOr (ovC σ k) o := by rw [ho]; rfl
      unfold g_m_sumOf_L60
      rw [if_pos (by rw [← e1]; exact ovC_01 σ (k + 1)), w32_id (x := (k : Int) + 1) (by omega) (by omega)]
      rw [← ih, ← e1]
      show g_m_sumOf_L9 n (suC σ (k + 1)) ((k : Int) + 1) (zu (zu σ 143 15 (ovC σ k)) 143 15 (ovC σ (k + 1))) = _
      rw [show ((k + 1 : Nat) : Int) = (k : Int) + 1 by omega]
      congr 1
      funext a j
      unfold zu
      by_cases h : a = 143 ∧ j = 15
      · rw [if_pos h, if_pos h]
      · rw [if_neg h, if_neg h, if_neg h]
    unfold g_m_sumOf_L9 g_m_sumOf_L59
    show (if zu σ 143 15 (ovC σ k) 143 14 ≤ (k : Int) then _ else _) = _
    rw [zu_i (by decide), hM, if_neg (by omega), if_pos (by omega)]
    simp only [zu_a (show (155 : Nat) ≠ 143 by decide), zu_e (show (15 : Int) = 15 from rfl)]
    show (if 0 ≤ lCmp (lXor (suC σ k) (suC σ (k + 1))) 0 then g_m_sumOf_L60 (g_m_sumOf_L9 n) (k : Int) (suC σ (k + 1)) 0 (ovC σ k) _ else (if 0 ≤ (k : Int) ∧ (k : Int) < 60 then (if 0 ≤ lCmp (lXor (σ 155 (k : Int)) (suC σ (k + 1))) 0 then g_m_sumOf_L60 (g_m_sumOf_L9 n) (k : Int) (suC σ (k + 1)) 0 (ovC σ k) _ else g_m_sumOf_L60 (g_m_sumOf_L9 n) (k : Int) (suC σ (k + 1)) 1 (ovC σ k) _) else none)) = _
    by_cases c1 : lXor (suC σ k) (suC σ (k + 1)) < 0
    · rw [if_neg (fun e => lCmp_ge0.mp e c1), if_pos (show 0 ≤ (k : Int) ∧ (k : Int) < 60 by omega)]
      by_cases c2 : lXor (σ 155 (k : Int)) (suC σ (k + 1)) < 0
      · rw [if_neg (fun e => lCmp_ge0.mp e c2)]
        exact fin 1 (by rw [if_pos ⟨c1, c2⟩])
      · rw [if_pos (lCmp_ge0.mpr c2)]
        exact fin 0 (by rw [if_neg (fun e => c2 e.2)])
    · rw [if_pos (lCmp_ge0.mpr c1)]
      exact fin 0 (by rw [if_neg (fun e => c1 e.1)])
theorem s_sumOf {σ : zS} {M : Nat} (hM : σ 143 14 = (M : Int)) (hM2 : M ≤ 60) : g_m_sumOf σ = some (suC σ M, zu σ 143 15 (ovC σ M)) := by
  unfold g_m_sumOf
  exact s_sum9 hM hM2 M 0 zK (by omega) (by show _ < 1000000; omega)
def kiI (σ : zS) (x : Int) : Nat → Int
  | 0 => 1
  | n + 1 => iAnd (kiI σ x n) (if σ 155 (n : Int) = x then 0 else 1)
theorem kiI_01 (σ : zS) (x : Int) : ∀ n : Nat, kiI σ x n = 0 ∨ kiI σ x n = 1
  | 0 => Or.inr rfl
  | n + 1 => iAnd_01 (kiI_01 σ x n) (by split <;> simp)
def kiC (σ : zS) : Nat → Int
  | 0 => 0
  | n + 1 => kiC σ n + kiI σ (σ 155 (n : Int)) n
theorem kiC_bd (σ : zS) : ∀ n : Nat, 0 ≤ kiC σ n ∧ kiC σ n ≤ n
  | 0 => ⟨Int.le_refl _, Int.le_refl _⟩
  | n + 1 => by
    have ih := kiC_bd σ n
    have := kiI_01 σ (σ 155 (n : Int)) n
    show 0 ≤ kiC σ n + _ ∧ kiC σ n + _ ≤ ((n + 1 : Nat) : Int)
    omega
theorem s_kinds17 {g : Int → Int → zS → Option (Int × zS)} {σ : zS} {x : Int} {k : Nat} (hk : k < 60) (hx : x + 1 < 2147483648) (hx0 : 0 ≤ x) : ∀ (d e n : Nat), e + d = k → d < n → g_m_kindsOf_L17 g n x (k : Int) (kiI σ (σ 155 (k : Int)) e) (e : Int) σ = g (x + kiI σ (σ 155 (k : Int)) k) ((k + 1 : Nat) : Int) σ
  | _, _, 0, _, h => absurd h (Nat.not_lt_zero _)
  | 0, e, n + 1, he, _ => by
    have : e = k := by omega
    subst this
    have h01 := kiI_01 σ (σ 155 (e : Int)) e
    unfold g_m_kindsOf_L17 g_m_kindsOf_L64
    rw [if_pos (Int.le_refl _), w32_id (x := (e : Int) + 1) (by omega) (by omega), w32_id (x := x + 0) (by omega) (by omega), w32_id (x := x + 1) (by omega) (by omega), show ((e + 1 : Nat) : Int) = (e : Int) + 1 by omega]
    rcases h01 with h | h
    · rw [if_pos h, h]
    · rw [if_neg (by omega), h]
  | d + 1, e, n + 1, he, hn => by
    have ih := s_kinds17 (g := g) (σ := σ) hk hx hx0 d (e + 1) n (by omega) (by omega)
    have ex : kiI σ (σ 155 (k : Int)) (e + 1) = iAnd (kiI σ (σ 155 (k : Int)) e) (if σ 155 (e : Int) = σ 155 (k : Int) then 0 else 1) := rfl
    rw [ex, show ((e + 1 : Nat) : Int) = (e : Int) + 1 by omega] at ih
    unfold g_m_kindsOf_L17 g_m_kindsOf_L46
    rw [if_neg (by omega), if_pos (by omega), if_pos (by omega), w32_id (x := (e : Int) + 1) (by omega) (by omega)]
    show (if lCmp (σ 155 (e : Int)) (σ 155 (k : Int)) = 0 then _ else _) = _
    by_cases c : σ 155 (e : Int) = σ 155 (k : Int)
    · rw [if_pos (lCmp_eq.mpr c)]
      rw [if_pos c] at ih
      exact ih
    · rw [if_neg (fun h => c (lCmp_eq.mp h))]
      rw [if_neg c] at ih
      exact ih
theorem s_kinds4 {σ : zS} {M : Nat} (hM : σ 143 14 = (M : Int)) (hM2 : M ≤ 60) : ∀ (d k n : Nat), k + d = M → d < n → g_m_kindsOf_L4 n (kiC σ k) (k : Int) σ = some (kiC σ M, σ)
  | _, _, 0, _, h => absurd h (Nat.not_lt_zero _)
  | 0, k, n + 1, hk, _ => by
    have : k = M := by omega
    subst this
    unfold g_m_kindsOf_L4
    simp only [hM]
    rw [if_pos (Int.le_refl _)]
  | d + 1, k, n + 1, hk, hn => by
    have b := kiC_bd σ k
    have ih := s_kinds4 hM hM2 d (k + 1) n (by omega) (by omega)
    have e := s_kinds17 (g := g_m_kindsOf_L4 n) (σ := σ) (x := kiC σ k) (k := k) (by omega) (by omega) b.1 k 0 zK (by omega) (by show _ < 1000000; omega)
    conv => lhs; unfold g_m_kindsOf_L4
    simp only [hM]
    rw [if_neg (by omega)]
    exact e.trans ih
theorem s_kindsOf {σ : zS} {M : Nat} (hM : σ 143 14 = (M : Int)) (hM2 : M ≤ 60) : g_m_kindsOf σ = some (kiC σ M, σ) := s_kinds4 hM hM2 M 0 zK (by omega) (by show _ < 1000000; omega)
/-- the measure of what was gathered -/
theorem s_measured {σ : zS} {M : Nat} (x : Int) (hM : σ 143 14 = (M : Int)) (hM2 : M ≤ 60) : ∃ v o, g_m_measured x σ = some (v, zu σ 143 15 o) := by
  have h0 : zu σ 143 15 0 143 14 = (M : Int) := by rw [zu_i (by decide)]; exact hM
  have zz : ∀ a b, zu (zu σ 143 15 a) 143 15 b = zu σ 143 15 b := by
    intro a b
    funext c j
    unfold zu
    by_cases h : c = 143 ∧ j = 15
    · rw [if_pos h, if_pos h]
    · rw [if_neg h, if_neg h, if_neg h]
  have f102 : ∀ y o, ∃ v o', g_m_measured_L102 y (zu σ 143 15 o) = some (v, zu σ 143 15 o') := by
    intro y o
    unfold g_m_measured_L102
    show ∃ v o', (if zu σ 143 15 o 143 15 = 0 then _ else _) = _
    by_cases c : zu σ 143 15 o 143 15 = 0
    · rw [if_pos c]; exact ⟨_, _, rfl⟩
    · rw [if_neg c]; exact ⟨_, _, rfl⟩
  have f25 : (M = 0 → ¬ (2 ≤ x ∧ x ≤ 5)) → ∃ v o, g_m_measured_L25 x (zu σ 143 15 0) = some (v, zu σ 143 15 o) := by
    intro hg
    unfold g_m_measured_L25
    by_cases c0 : x = 0
    · rw [if_neg (fun e => e c0)]; exact f102 _ _
    · rw [if_pos c0]
      by_cases c1 : x = 1
      · rw [if_neg (fun e => e c1), s_sumOf h0 hM2, Option.bind_some, zz]; exact f102 _ _
      · rw [if_pos c1]
        by_cases c2 : x = 2
        · rw [if_neg (fun e => e c2), s_leastOf h0 hM2, Option.bind_some]; exact f102 _ _
        · rw [if_pos c2]
          by_cases c3 : x = 3
          · rw [if_neg (fun e => e c3), s_mostOf h0 hM2, Option.bind_some]; exact f102 _ _
          · rw [if_pos c3]
            by_cases c4 : x = 4
            · rw [if_neg (fun e => e c4)]
              unfold g_m_meanOf
              rw [s_sumOf h0 hM2, Option.bind_some, zz]
              have hM0 : ¬ zu σ 143 15 (ovC (zu σ 143 15 0) M) 143 14 = 0 := by
                rw [zu_i (by decide), hM]
                intro e
                exact hg (by omega) (by omega)
              show ∃ v o, (Option.bind (if zu σ 143 15 (ovC (zu σ 143 15 0) M) 143 14 = 0 then none else if zu σ 143 15 (ovC (zu σ 143 15 0) M) 143 14 = 0 then none else _) _) = _
              rw [if_neg hM0, if_neg hM0]
              split
              · exact f102 _ _
              · exact f102 _ _
            · rw [if_pos c4]
              by_cases c5 : x = 5
              · rw [if_neg (fun e => e c5)]
                unfold g_m_spanOf g_m_spanOf_L28
                rw [s_mostOf h0 hM2]
                rw [Option.bind_some]
                try dsimp only
                rw [s_leastOf h0 hM2]
                rw [Option.bind_some]
                try dsimp only
                rw [if_pos (Or.inl rfl), if_pos (Or.inr rfl)]
                split
                · simp only [Option.bind_some, zz]; exact f102 _ _
                · simp only [Option.bind_some, zz]; exact f102 _ _
              · rw [if_pos c5, s_kindsOf h0 hM2, Option.bind_some]; exact f102 _ _
  unfold g_m_measured
  show ∃ v o, (if zu σ 143 15 0 143 14 ≠ 0 then _ else _) = _
  by_cases c : M = 0
  · rw [if_neg (by rw [h0]; omega)]
    by_cases c2 : 2 ≤ x ∧ x ≤ 5
    · rw [s_isIn_t c2.1 c2.2]
      exact ⟨_, _, rfl⟩
    · rw [s_isIn_f (by omega)]
      exact f25 (fun _ => c2)
  · rw [if_pos (by rw [h0]; omega)]
    exact f25 (fun e => absurd e c)
