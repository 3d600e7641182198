/-! FACTS OF ANSWERS: the reference's rows behind put() and take() -/
def acc (r x y v : Int) : Prop := (0 ≤ r ∧ r < 60) ∧ (0 ≤ x ∧ x ≤ 31) ∧ (0 ≤ y ∧ y ≤ 31) ∧ v ≠ -9223372036854775808 ∧ v ≠ -9223372036854775807
def rowsTo (σ s : zS) (k x y v : Int) : Prop := (∀ j, 11 ≤ j → j < 300 → s 144 j = if j = 20 + 3 * k then 1 else if j = 21 + 3 * k then x else if j = 22 + 3 * k then y else σ 144 j) ∧ ∀ j, 1 ≤ j → j < 61 → s 147 j = if j = 1 + k then v else σ 147 j
def rowsOut (σ s : zS) (k : Int) : Prop := (∀ j, 11 ≤ j → j < 300 → s 144 j = if j = 20 + 3 * k then 0 else σ 144 j) ∧ ∀ j, 1 ≤ j → j < 61 → s 147 j = σ 147 j
theorem t_put72 {σ : zS} {N : Nat} {r x y v : Int} (hH : HI σ) (hR : RI σ N) (hN : σ 144 0 = (N : Int)) (hN2 : N ≤ 100) (hr : 0 ≤ r ∧ r < 60) (hx : 0 ≤ x ∧ x ≤ 31) (hy : 0 ≤ y ∧ y ≤ 31) : ∃ c s, g_m_put_L72 r x y v σ = some (c, s) ∧ rowsTo σ s r x y v := by
  obtain ⟨k, rfl⟩ : ∃ k : Nat, r = (k : Int) := ⟨r.toNat, by omega⟩
  generalize hs1 : zu (zu (zu (zu σ 144 (20 + 3 * (k : Int)) 1) 144 (21 + 3 * (k : Int)) x) 144 (22 + 3 * (k : Int)) y) 147 (1 + (k : Int)) v = s1
  have f1 : ∀ a j, (a ≠ 144 ∨ j < 20 + 3 * (k : Int) ∨ 23 + 3 * (k : Int) ≤ j) → (a ≠ 147 ∨ j ≠ 1 + (k : Int)) → s1 a j = σ a j := fun a j h1 h2 => by
    rw [← hs1, zu_c h2, zu_c (by omega), zu_c (by omega), zu_c (by omega)]
  have rows1 : ∀ t : Nat, t < 60 → (0 ≤ s1 144 (21 + 3 * (t : Int)) ∧ s1 144 (21 + 3 * (t : Int)) ≤ 31) ∧ (0 ≤ s1 144 (22 + 3 * (t : Int)) ∧ s1 144 (22 + 3 * (t : Int)) ≤ 31) := fun t ht => by
    by_cases c : t = k
    · subst c
      have e1 : s1 144 (21 + 3 * (t : Int)) = x := by rw [← hs1, zu_a (by decide), zu_i (by omega), zu_e rfl]
      have e2 : s1 144 (22 + 3 * (t : Int)) = y := by rw [← hs1, zu_a (by decide), zu_e rfl]
      rw [e1, e2]
      exact ⟨hx, hy⟩
    · rw [f1 144 _ (by omega) (Or.inl (by decide)), f1 144 _ (by omega) (Or.inl (by decide))]
      exact hH.2.2.2.2.2.2 t ht
  have hH1 : HI s1 := HI_P hH (fun j hj => f1 144 j (by omega) (Or.inl (by decide))) rows1
  have hR1 : RI s1 N := RI_of hR (fun t ht => by
    unfold rgA bxA
    try dsimp only
    rw [f1 144 _ (by omega) (Or.inl (by decide)), f1 144 _ (by omega) (Or.inl (by decide)), f1 144 _ (by omega) (Or.inl (by decide)), f1 144 _ (by omega) (Or.inl (by decide)), f1 144 _ (by omega) (Or.inl (by decide)), f1 144 _ (by omega) (Or.inl (by decide)), f1 144 _ (by omega) (Or.inl (by decide)), f1 144 _ (by omega) (Or.inl (by decide))]
    exact ⟨rfl, rfl⟩)
  have hN1 : s1 144 0 = (N : Int) := (f1 144 0 (by omega) (Or.inl (by decide))).trans hN
  obtain ⟨s2, N2, g1, g2, g3, g4, g5⟩ := s_writes hR1 hN1 hN2 hx hy
  have hH2 : HI s2 := HI_fr8 hH1 (fun j h1 h2 => g5 144 j (Or.inr ⟨h1, h2⟩) (Or.inl (by decide)) (by decide) (by decide) (by decide))
  obtain ⟨c, s3, k1, k2, k3, k4⟩ := s_behind hH2 g2 g3 (by omega)
  refine ⟨c, s3, ?_, fun j j1 j2 => ?_, fun j j1 j2 => ?_⟩
  · unfold g_m_put_L72
    rw [s_rowAt (by omega) (by omega)]
    rw [Option.bind_some]
    try dsimp only
    rw [if_pos (by omega), s_rowAt (by omega) (by omega)]
    rw [Option.bind_some]
    try dsimp only
    rw [w32_id (x := 20 + 3 * (k : Int) + 1) (by omega) (by omega), if_pos (by omega), s_rowAt (by omega) (by omega)]
    rw [Option.bind_some]
    try dsimp only
    rw [w32_id (x := 20 + 3 * (k : Int) + 2) (by omega) (by omega), if_pos (by omega), w32_id (x := 1 + (k : Int)) (by omega) (by omega), if_pos (by omega), show 20 + 3 * (k : Int) + 1 = 21 + 3 * (k : Int) by omega, show 20 + 3 * (k : Int) + 2 = 22 + 3 * (k : Int) by omega, hs1, g1]
    rw [Option.bind_some]
    try dsimp only
    rw [k1]
    rfl
  · rw [k4 144 j (Or.inr ⟨by omega, by omega⟩) (Or.inl (by decide)) (Or.inl (by decide)) (by decide) (by decide) (by decide), g5 144 j (Or.inr ⟨by omega, by omega⟩) (Or.inl (by decide)) (by decide) (by decide) (by decide)]
    rw [← hs1, zu_a (by decide)]
    by_cases c2 : j = 22 + 3 * (k : Int)
    · rw [zu_e c2, if_neg (by omega), if_neg (by omega), if_pos c2]
    · rw [zu_i c2]
      by_cases c1 : j = 21 + 3 * (k : Int)
      · rw [zu_e c1, if_neg (by omega), if_pos c1]
      · rw [zu_i c1]
        by_cases c0 : j = 20 + 3 * (k : Int)
        · rw [zu_e c0, if_pos c0]
        · rw [zu_i c0, if_neg c0, if_neg c1, if_neg c2]
  · rw [k4 147 j (Or.inl (by decide)) (Or.inr ⟨by omega, by omega⟩) (Or.inl (by decide)) (by decide) (by decide) (by decide), g5 147 j (Or.inl (by decide)) (Or.inr ⟨by omega, by omega⟩) (by decide) (by decide) (by decide)]
    rw [← hs1]
    by_cases c0 : j = 1 + (k : Int)
    · rw [zu_e c0, if_pos c0]
    · rw [zu_i c0, if_neg c0, zu_a (by decide), zu_a (by decide), zu_a (by decide)]
theorem t_put {σ : zS} {r x y v : Int} (hH : HI σ) (hI : NI σ) : ∃ c s, g_m_put r x y v σ = some (c, s) ∧ (acc r x y v → rowsTo σ s r x y v) ∧ (¬ acc r x y v → s = σ) := by
  have same : ∀ c : Int, ¬ acc r x y v → ∃ c' s, (some (c, σ) : Option (Int × zS)) = some (c', s) ∧ (acc r x y v → rowsTo σ s r x y v) ∧ (¬ acc r x y v → s = σ) := fun c h => ⟨c, σ, rfl, fun k => absurd k h, fun _ => rfl⟩
  unfold g_m_put
  rw [s_isRow]
  rw [Option.bind_some]
  try dsimp only
  by_cases c1 : 0 ≤ r ∧ r < 60
  · rw [if_pos c1, if_pos (by decide)]
    by_cases c2 : 0 ≤ x ∧ x ≤ 31
    · rw [s_isIn_t c2.1 c2.2]
      rw [Option.bind_some]
      try dsimp only
      rw [if_neg (by decide)]
      by_cases c3 : 0 ≤ y ∧ y ≤ 31
      · rw [s_isIn_t c3.1 c3.2]
        rw [Option.bind_some]
        try dsimp only
        rw [if_neg (by decide)]
        by_cases c4 : lCmp v (-9223372036854775808) = 0
        · rw [if_pos c4]
          exact same _ (fun h => h.2.2.2.1 (lCmp_eq.mp c4))
        · rw [if_neg c4]
          by_cases c5 : lCmp v (-9223372036854775807) ≠ 0
          · rw [if_pos c5]
            have hacc : acc r x y v := ⟨c1, c2, c3, fun h => c4 (lCmp_eq.mpr h), fun h => c5 (lCmp_eq.mpr h)⟩
            obtain ⟨s1, e1, e2⟩ := s_values (σ := σ) hH.2.2.2.2.1
            rw [e1]
            rw [Option.bind_some]
            try dsimp only
            rw [s_rowAt (by omega) (by omega)]
            rw [Option.bind_some]
            try dsimp only
            rw [if_pos (by omega)]
            have hH1 := HI_V hH e2
            have e144 : ∀ j, s1 144 j = σ 144 j := fun j => e2 144 j (Or.inl (by decide)) (by decide) (by decide) (by decide)
            have e147 : ∀ j, s1 147 j = σ 147 j := fun j => e2 147 j (Or.inl (by decide)) (by decide) (by decide) (by decide)
            obtain ⟨N, n1, n2, n3⟩ := NI_fr (s := s1) hI (fun j _ => e144 j)
            split
            · obtain ⟨c, s, g1, g2, g3⟩ := t_put72 (v := v) hH1 n3 n2 (by omega) c1 c2 c3
              refine ⟨c, s, g1, fun _ => ⟨fun j j1 j2 => ?_, fun j j1 j2 => ?_⟩, fun h => absurd hacc h⟩
              · rw [g2 j j1 j2, e144]
              · rw [g3 j j1 j2, e147]
            · obtain ⟨s2, N2, g1, g2, g3, g4, g5⟩ := s_out hH1 n3 n2 (by omega) c1
              rw [g1]
              rw [Option.bind_some]
              try dsimp only
              have z1 : HI (zu s1 144 (20 + 3 * r) 0) := HI_P hH1 (fun j hj => zu_i (by omega)) (fun t ht => by rw [zu_i (by omega), zu_i (by omega)]; exact hH1.2.2.2.2.2.2 t ht)
              have hH2 : HI s2 := HI_fr8 z1 (fun j h1 h2 => g5 144 j (Or.inr ⟨h1, h2⟩) (Or.inl (by decide)) (by decide) (by decide) (by decide))
              obtain ⟨c, s, k1, k2, k3⟩ := t_put72 (v := v) hH2 g2 g3 (by omega) c1 c2 c3
              refine ⟨c, s, k1, fun _ => ⟨fun j j1 j2 => ?_, fun j j1 j2 => ?_⟩, fun h => absurd hacc h⟩
              · rw [k2 j j1 j2, g5 144 j (Or.inr ⟨by omega, by omega⟩) (Or.inl (by decide)) (by decide) (by decide) (by decide)]
                by_cases cj : j = 20 + 3 * r
                · rw [if_pos cj, if_pos cj]
                · rw [if_neg cj, if_neg cj, zu_i cj, e144]
              · rw [k3 j j1 j2, g5 147 j (Or.inl (by decide)) (Or.inr ⟨by omega, by omega⟩) (by decide) (by decide) (by decide), zu_a (by decide), e147]
          · rw [if_neg c5]
            exact same _ (fun h => c5 (fun e => h.2.2.2.2 (lCmp_eq.mp e)))
      · rw [s_isIn_f (by omega)]
        exact same _ (fun h => c3 h.2.2.1)
    · rw [s_isIn_f (by omega)]
      exact same _ (fun h => c2 h.2.1)
  · rw [if_neg c1, if_neg (by decide)]
    exact same _ (fun h => c1 h.1)
theorem t_take {σ : zS} {r : Int} (hH : HI σ) (hI : NI σ) : ∃ c s, g_m_take r σ = some (c, s) ∧ ((0 ≤ r ∧ r < 60) ∧ σ 144 (20 + 3 * r) ≠ 0 → rowsOut σ s r) ∧ (¬ ((0 ≤ r ∧ r < 60) ∧ σ 144 (20 + 3 * r) ≠ 0) → s = σ) := by
  have same : ∀ c : Int, ¬ ((0 ≤ r ∧ r < 60) ∧ σ 144 (20 + 3 * r) ≠ 0) → ∃ c' s, (some (c, σ) : Option (Int × zS)) = some (c', s) ∧ ((0 ≤ r ∧ r < 60) ∧ σ 144 (20 + 3 * r) ≠ 0 → rowsOut σ s r) ∧ (¬ ((0 ≤ r ∧ r < 60) ∧ σ 144 (20 + 3 * r) ≠ 0) → s = σ) := fun c h => ⟨c, σ, rfl, fun k => absurd k h, fun _ => rfl⟩
  unfold g_m_take
  rw [s_isRow]
  rw [Option.bind_some]
  try dsimp only
  by_cases c1 : 0 ≤ r ∧ r < 60
  · rw [if_pos c1, if_pos (by decide), s_rowAt (by omega) (by omega)]
    rw [Option.bind_some]
    try dsimp +instances only
    rw [if_pos (by omega)]
    by_cases c2 : σ 144 (20 + 3 * r) ≠ 0
    · rw [if_pos c2]
      obtain ⟨s1, e1, e2⟩ := s_values (σ := σ) hH.2.2.2.2.1
      rw [e1]
      rw [Option.bind_some]
      try dsimp only
      have hH1 := HI_V hH e2
      have e144 : ∀ j, s1 144 j = σ 144 j := fun j => e2 144 j (Or.inl (by decide)) (by decide) (by decide) (by decide)
      have e147 : ∀ j, s1 147 j = σ 147 j := fun j => e2 147 j (Or.inl (by decide)) (by decide) (by decide) (by decide)
      obtain ⟨N, n1, n2, n3⟩ := NI_fr (s := s1) hI (fun j _ => e144 j)
      obtain ⟨s2, N2, g1, g2, g3, g4, g5⟩ := s_out hH1 n3 n2 (by omega) c1
      rw [g1]
      rw [Option.bind_some]
      try dsimp only
      have z1 : HI (zu s1 144 (20 + 3 * r) 0) := HI_P hH1 (fun j hj => zu_i (by omega)) (fun t ht => by rw [zu_i (by omega), zu_i (by omega)]; exact hH1.2.2.2.2.2.2 t ht)
      have hH2 : HI s2 := HI_fr8 z1 (fun j h1 h2 => g5 144 j (Or.inr ⟨h1, h2⟩) (Or.inl (by decide)) (by decide) (by decide) (by decide))
      obtain ⟨c, s3, k1, k2, k3, k4⟩ := s_behind hH2 g2 g3 (by omega)
      rw [k1]
      rw [Option.bind_some]
      refine ⟨c, s3, rfl, fun _ => ⟨fun j j1 j2 => ?_, fun j j1 j2 => ?_⟩, fun h => absurd ⟨c1, c2⟩ h⟩
      · rw [k4 144 j (Or.inr ⟨by omega, by omega⟩) (Or.inl (by decide)) (Or.inl (by decide)) (by decide) (by decide) (by decide), g5 144 j (Or.inr ⟨by omega, by omega⟩) (Or.inl (by decide)) (by decide) (by decide) (by decide)]
        by_cases cj : j = 20 + 3 * r
        · rw [zu_e cj, if_pos cj]
        · rw [zu_i cj, if_neg cj, e144]
      · rw [k4 147 j (Or.inl (by decide)) (Or.inr ⟨by omega, by omega⟩) (Or.inl (by decide)) (by decide) (by decide) (by decide), g5 147 j (Or.inl (by decide)) (Or.inr ⟨by omega, by omega⟩) (by decide) (by decide) (by decide), zu_a (by decide), e147]
    · rw [if_neg c2]
      exact same _ (fun h => c2 h.2)
  · rw [if_neg c1, if_neg (by decide)]
    exact same _ (fun h => c1 h.1)
/-- what row() and worth() answer, of the reference's cells -/
def rowA (σ : zS) (r w : Int) : Int := if 0 ≤ r ∧ r < 60 then (if 0 ≤ w ∧ w ≤ 1 then (if σ 144 (20 + 3 * r) = 0 then -3 else σ 144 (21 + 3 * r + w)) else -1) else -1
theorem t_row {r w : Int} {σ : zS} : g_m_row r w σ = some (rowA σ r w, σ) := by
  unfold g_m_row rowA
  rw [s_isRow]
  rw [Option.bind_some]
  try dsimp +instances only
  by_cases c1 : 0 ≤ r ∧ r < 60
  · rw [if_pos c1, if_pos c1, if_neg (by decide)]
    by_cases c2 : 0 ≤ w ∧ w ≤ 1
    · rw [s_isIn_t c2.1 c2.2, if_pos c2]
      rw [Option.bind_some]
      try dsimp +instances only
      rw [if_pos (by decide), s_rowAt (by omega) (by omega)]
      rw [Option.bind_some]
      try dsimp +instances only
      rw [if_pos (by omega)]
      by_cases c3 : σ 144 (20 + 3 * r) = 0
      · rw [if_neg (fun h => h c3), if_pos c3]
      · rw [if_pos c3, if_neg c3, s_rowAt (by omega) (by omega)]
        rw [Option.bind_some]
        try dsimp +instances only
        rw [w32_id (x := 20 + 3 * r + 1) (by omega) (by omega), w32_id (x := 20 + 3 * r + 1 + w) (by omega) (by omega), if_pos (by omega), show 20 + 3 * r + 1 + w = 21 + 3 * r + w by omega]
    · rw [s_isIn_f (by omega), if_neg c2]
      rw [Option.bind_some]
      try dsimp +instances only
      rw [if_neg (by decide)]
  · rw [if_neg c1, if_neg c1, if_pos rfl]
def worthA (σ : zS) (r : Int) : Int := if 0 ≤ r ∧ r < 60 then (if σ 144 (20 + 3 * r) = 1 then σ 147 (1 + r) else -9223372036854775808) else -9223372036854775808
theorem t_worth {r : Int} {σ : zS} : g_m_worth r σ = some (worthA σ r, σ) := by
  unfold g_m_worth worthA
  rw [s_isRow]
  rw [Option.bind_some]
  try dsimp +instances only
  by_cases c1 : 0 ≤ r ∧ r < 60
  · rw [if_pos c1, if_pos c1, if_neg (by decide), s_rowAt (by omega) (by omega)]
    rw [Option.bind_some]
    try dsimp +instances only
    rw [if_pos (by omega)]
    by_cases c3 : σ 144 (20 + 3 * r) = 1
    · rw [if_neg (fun h => h c3), if_pos c3, w32_id (x := 1 + r) (by omega) (by omega), if_pos (by omega)]
    · rw [if_pos c3, if_neg c3]
  · rw [if_neg c1, if_neg c1, if_pos rfl]
