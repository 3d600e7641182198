/-! WHAT AN IMAGE TAKES of the class: settings, regions, THE FIND (printed by wip/zd.py) -/
theorem p_caimg {σ : zS} : ∃ s, g_ca_copyFrom 81 48 σ = some ((), s) ∧ (∀ j : Int, 0 ≤ j → j < 7 → s 83 j = σ 50 j) ∧ (∀ j : Int, 0 ≤ j → j < 181 → s 84 j = σ 51 j ∧ s 85 j = σ 52 j ∧ s 86 j = σ 53 j ∧ s 87 j = σ 54 j ∧ s 88 j = σ 55 j) ∧ (s 81 2 = σ 48 2 ∧ s 81 8 = σ 48 8 ∧ s 81 9 = σ 48 9 ∧ s 81 10 = σ 48 10 ∧ s 81 11 = σ 48 11 ∧ s 81 12 = σ 48 12 ∧ s 81 13 = σ 48 13 ∧ s 81 14 = σ 48 14 ∧ s 81 15 = σ 48 15) ∧ ∀ a j, (a < 81 ∨ 89 ≤ a) → s a j = σ a j := by
  unfold g_ca_copyFrom
  rw [c_seCopy]
  rw [Option.bind_some]
  try dsimp only
  generalize h1 : zcp σ (48 + 1 + 1) 0 (81 + 1 + 1) 0 7 = t1
  generalize h2 : zcp t1 (48 + 3) 0 (81 + 3) 0 181 = t2
  generalize h3 : zcp t2 (48 + 4) 0 (81 + 4) 0 181 = t3
  generalize h4 : zcp t3 (48 + 5) 0 (81 + 5) 0 181 = t4
  generalize h5 : zcp t4 (48 + 6) 0 (81 + 6) 0 181 = t5
  generalize h6 : zcp t5 (48 + 7) 0 (81 + 7) 0 181 = t6
  generalize h7 : zu t6 81 2 (t6 48 2) = t7
  generalize h8 : zu t7 81 8 (t7 48 8) = t8
  generalize h9 : zu t8 81 9 (t8 48 9) = t9
  generalize h10 : zu t9 81 10 (t9 48 10) = t10
  generalize h11 : zu t10 81 11 (t10 48 11) = t11
  generalize h12 : zu t11 81 12 (t11 48 12) = t12
  generalize h13 : zu t12 81 13 (t12 48 13) = t13
  generalize h14 : zu t13 81 14 (t13 48 14) = t14
  generalize h15 : zu t14 81 15 (t14 48 15) = t15
  have ej : ∀ j : Int, j - 0 = j := fun j => by omega
  have u6 : ∀ a j, a ≠ 81 → t15 a j = t6 a j := fun a j k => by rw [← h15, zu_a k, ← h14, zu_a k, ← h13, zu_a k, ← h12, zu_a k, ← h11, zu_a k, ← h10, zu_a k, ← h9, zu_a k, ← h8, zu_a k, ← h7, zu_a k]
  have lo : ∀ a j, (a < 83 ∨ 89 ≤ a) → t6 a j = σ a j := fun a j k => by rw [← h6, zcp_a (by omega), ← h5, zcp_a (by omega), ← h4, zcp_a (by omega), ← h3, zcp_a (by omega), ← h2, zcp_a (by omega), ← h1, zcp_a (by omega)]
  have lo1 : ∀ a j, (a < 83 ∨ 89 ≤ a) → t1 a j = σ a j := fun a j k => by rw [← h1, zcp_a (by omega)]
  have lo2 : ∀ a j, (a < 83 ∨ 89 ≤ a) → t2 a j = σ a j := fun a j k => by rw [← h2, zcp_a (by omega), ← h1, zcp_a (by omega)]
  have lo3 : ∀ a j, (a < 83 ∨ 89 ≤ a) → t3 a j = σ a j := fun a j k => by rw [← h3, zcp_a (by omega), ← h2, zcp_a (by omega), ← h1, zcp_a (by omega)]
  have lo4 : ∀ a j, (a < 83 ∨ 89 ≤ a) → t4 a j = σ a j := fun a j k => by rw [← h4, zcp_a (by omega), ← h3, zcp_a (by omega), ← h2, zcp_a (by omega), ← h1, zcp_a (by omega)]
  have lo5 : ∀ a j, (a < 83 ∨ 89 ≤ a) → t5 a j = σ a j := fun a j k => by rw [← h5, zcp_a (by omega), ← h4, zcp_a (by omega), ← h3, zcp_a (by omega), ← h2, zcp_a (by omega), ← h1, zcp_a (by omega)]
  refine ⟨t15, rfl, fun j j1 j2 => ?_, fun j j1 j2 => ⟨?_, ?_, ?_, ?_, ?_⟩, ⟨?_, ?_, ?_, ?_, ?_, ?_, ?_, ?_, ?_⟩, fun a j k => ?_⟩
  · rw [u6 _ _ (by decide), ← h6, zcp_a (by decide), ← h5, zcp_a (by decide), ← h4, zcp_a (by decide), ← h3, zcp_a (by decide), ← h2, zcp_a (by decide), ← h1]
    exact (zcp_in (a := 50) (b := 83) j1 (by omega)).trans (by rw [ej])
  · rw [u6 _ _ (by decide), ← h6, zcp_a (by decide), ← h5, zcp_a (by decide), ← h4, zcp_a (by decide), ← h3, zcp_a (by decide), ← h2]
    exact (zcp_in (a := 51) (b := 84) j1 (by omega)).trans (by rw [ej]; exact lo1 _ _ (by omega))
  · rw [u6 _ _ (by decide), ← h6, zcp_a (by decide), ← h5, zcp_a (by decide), ← h4, zcp_a (by decide), ← h3]
    exact (zcp_in (a := 52) (b := 85) j1 (by omega)).trans (by rw [ej]; exact lo2 _ _ (by omega))
  · rw [u6 _ _ (by decide), ← h6, zcp_a (by decide), ← h5, zcp_a (by decide), ← h4]
    exact (zcp_in (a := 53) (b := 86) j1 (by omega)).trans (by rw [ej]; exact lo3 _ _ (by omega))
  · rw [u6 _ _ (by decide), ← h6, zcp_a (by decide), ← h5]
    exact (zcp_in (a := 54) (b := 87) j1 (by omega)).trans (by rw [ej]; exact lo4 _ _ (by omega))
  · rw [u6 _ _ (by decide), ← h6]
    exact (zcp_in (a := 55) (b := 88) j1 (by omega)).trans (by rw [ej]; exact lo5 _ _ (by omega))
  · rw [← h15, zu_i (by decide), ← h14, zu_i (by decide), ← h13, zu_i (by decide), ← h12, zu_i (by decide), ← h11, zu_i (by decide), ← h10, zu_i (by decide), ← h9, zu_i (by decide), ← h8, zu_i (by decide), ← h7, zu_e rfl]
    exact lo _ _ (by omega)
  · rw [← h15, zu_i (by decide), ← h14, zu_i (by decide), ← h13, zu_i (by decide), ← h12, zu_i (by decide), ← h11, zu_i (by decide), ← h10, zu_i (by decide), ← h9, zu_i (by decide), ← h8, zu_e rfl, ← h7, zu_a (by decide)]
    exact lo _ _ (by omega)
  · rw [← h15, zu_i (by decide), ← h14, zu_i (by decide), ← h13, zu_i (by decide), ← h12, zu_i (by decide), ← h11, zu_i (by decide), ← h10, zu_i (by decide), ← h9, zu_e rfl, ← h8, zu_a (by decide), ← h7, zu_a (by decide)]
    exact lo _ _ (by omega)
  · rw [← h15, zu_i (by decide), ← h14, zu_i (by decide), ← h13, zu_i (by decide), ← h12, zu_i (by decide), ← h11, zu_i (by decide), ← h10, zu_e rfl, ← h9, zu_a (by decide), ← h8, zu_a (by decide), ← h7, zu_a (by decide)]
    exact lo _ _ (by omega)
  · rw [← h15, zu_i (by decide), ← h14, zu_i (by decide), ← h13, zu_i (by decide), ← h12, zu_i (by decide), ← h11, zu_e rfl, ← h10, zu_a (by decide), ← h9, zu_a (by decide), ← h8, zu_a (by decide), ← h7, zu_a (by decide)]
    exact lo _ _ (by omega)
  · rw [← h15, zu_i (by decide), ← h14, zu_i (by decide), ← h13, zu_i (by decide), ← h12, zu_e rfl, ← h11, zu_a (by decide), ← h10, zu_a (by decide), ← h9, zu_a (by decide), ← h8, zu_a (by decide), ← h7, zu_a (by decide)]
    exact lo _ _ (by omega)
  · rw [← h15, zu_i (by decide), ← h14, zu_i (by decide), ← h13, zu_e rfl, ← h12, zu_a (by decide), ← h11, zu_a (by decide), ← h10, zu_a (by decide), ← h9, zu_a (by decide), ← h8, zu_a (by decide), ← h7, zu_a (by decide)]
    exact lo _ _ (by omega)
  · rw [← h15, zu_i (by decide), ← h14, zu_e rfl, ← h13, zu_a (by decide), ← h12, zu_a (by decide), ← h11, zu_a (by decide), ← h10, zu_a (by decide), ← h9, zu_a (by decide), ← h8, zu_a (by decide), ← h7, zu_a (by decide)]
    exact lo _ _ (by omega)
  · rw [← h15, zu_e rfl, ← h14, zu_a (by decide), ← h13, zu_a (by decide), ← h12, zu_a (by decide), ← h11, zu_a (by decide), ← h10, zu_a (by decide), ← h9, zu_a (by decide), ← h8, zu_a (by decide), ← h7, zu_a (by decide)]
    exact lo _ _ (by omega)
  · rw [u6 _ _ (by omega)]
    exact lo _ _ (by omega)
theorem p_stF_img {σ : zS} (h1 : 0 ≤ σ 63 1 ∧ σ 63 1 ≤ 10) : zP' (g_st_copyFrom 73 40 σ) (fun _ s => (∀ j : Int, 0 ≤ j → j < 7 → s 83 j = σ 50 j) ∧ (∀ j : Int, 0 ≤ j → j < 181 → s 84 j = σ 51 j ∧ s 85 j = σ 52 j ∧ s 86 j = σ 53 j ∧ s 87 j = σ 54 j ∧ s 88 j = σ 55 j) ∧ (s 81 2 = σ 48 2 ∧ s 81 8 = σ 48 8 ∧ s 81 9 = σ 48 9 ∧ s 81 10 = σ 48 10 ∧ s 81 11 = σ 48 11 ∧ s 81 12 = σ 48 12 ∧ s 81 13 = σ 48 13 ∧ s 81 14 = σ 48 14 ∧ s 81 15 = σ 48 15) ∧ (s 93 2 = σ 60 2 ∧ ∀ j : Int, 0 ≤ j → j < 60 → s 94 j = σ 61 j ∧ s 95 j = σ 62 j) ∧ ∀ a j, (a < 73 ∨ 104 ≤ a) → s a j = σ a j) := by
  unfold g_st_copyFrom
  obtain ⟨t1, e1, -, -, -, k1⟩ := p_socopy (a0 := 74) (a1 := 41) (by omega) (σ := σ)
  rw [e1]
  rw [Option.bind_some]
  try dsimp +instances only
  obtain ⟨t2, e2, m1, m2, m3, k2⟩ := p_caimg (σ := t1)
  rw [e2]
  rw [Option.bind_some]
  try dsimp +instances only
  unfold g_fi_copyFrom
  rw [Option.bind_some]
  try dsimp +instances only
  generalize hf1 : zcp t2 (60 + 1) 0 (93 + 1) 0 60 = t3
  generalize hf2 : zcp t3 (60 + 2) 0 (93 + 2) 0 60 = t4
  generalize hf3 : zu t4 93 2 (t4 60 2) = t5
  have ej : ∀ j : Int, j - 0 = j := fun j => by omega
  have k5 : ∀ a j, (a < 93 ∨ 96 ≤ a) → t5 a j = t2 a j := fun a j k => by rw [← hf3, zu_a (by omega), ← hf2, zcp_a (by omega), ← hf1, zcp_a (by omega)]
  have g1 : t5 93 2 = σ 60 2 := by rw [← hf3, zu_e rfl, ← hf2, zcp_a (by decide), ← hf1, zcp_a (by decide), k2 _ _ (by omega), k1 _ _ (by omega)]
  have g2 : ∀ j : Int, 0 ≤ j → j < 60 → t5 94 j = σ 61 j ∧ t5 95 j = σ 62 j := fun j j1 j2 => by
    constructor
    · rw [← hf3, zu_a (by decide), ← hf2, zcp_a (by decide), ← hf1]
      exact (zcp_in (a := 61) (b := 94) j1 (by omega)).trans (by rw [ej, k2 _ _ (by omega), k1 _ _ (by omega)])
    · rw [← hf3, zu_a (by decide), ← hf2]
      exact (zcp_in (a := 62) (b := 95) j1 (by omega)).trans (by rw [ej, ← hf1, zcp_a (by decide), k2 _ _ (by omega), k1 _ _ (by omega)])
  have c63 : t5 63 1 = σ 63 1 := by rw [k5 _ _ (by omega), k2 _ _ (by omega), k1 _ _ (by omega)]
  refine zP'.bind (p_bscopy (a0 := 96) (a1 := 63) (L := 10) (σ := t5) (by decide) (by decide) (by decide) rfl rfl (by decide) (by rw [c63]; omega)) (fun _ t6 p6 => ?_)
  obtain ⟨-, -, k6⟩ := p6
  try dsimp +instances only
  unfold g_wa_copyFrom
  rw [Option.bind_some]
  try dsimp +instances only
  generalize hs : zu (zcp (zcp (zcp t6 (65 + 1) 0 (98 + 1) 0 6) (65 + 2) 0 (98 + 2) 0 6) (65 + 3) 0 (98 + 3) 0 6) 98 5 ((zcp (zcp (zcp t6 (65 + 1) 0 (98 + 1) 0 6) (65 + 2) 0 (98 + 2) 0 6) (65 + 3) 0 (98 + 3) 0 6) 65 5) = t7
  have k7 : ∀ a j, (a < 98 ∨ 102 ≤ a) → t7 a j = t6 a j := fun a j k => by rw [← hs, zu_a (by omega), zcp_a (by omega), zcp_a (by omega), zcp_a (by omega)]
  have all : ∀ a j, (a < 98 ∨ 102 ≤ a) → (a < 96 ∨ 98 ≤ a) → t7 a j = t5 a j := fun a j h1 h2 => by rw [k7 a j (by omega), k6 a j (by omega) (by omega)]
  have c2 : ∀ a j, (81 ≤ a ∧ a < 89) → t7 a j = t2 a j := fun a j h => by rw [all a j (by omega) (by omega), k5 a j (by omega)]
  have c1 : ∀ a j, (48 ≤ a ∧ a < 56) → t1 a j = σ a j := fun a j h => k1 a j (by omega)
  refine zP'.ret ⟨fun j j1 j2 => ?_, fun j j1 j2 => ?_, ?_, ⟨?_, fun j j1 j2 => ?_⟩, fun a j h => ?_⟩
  · show t7 83 j = _
    rw [c2 _ _ (by omega), m1 j j1 j2, c1 _ _ (by omega)]
  · obtain ⟨n1, n2, n3, n4, n5⟩ := m2 j j1 j2
    show t7 84 j = _ ∧ t7 85 j = _ ∧ t7 86 j = _ ∧ t7 87 j = _ ∧ t7 88 j = _
    rw [c2 84 _ (by omega), c2 85 _ (by omega), c2 86 _ (by omega), c2 87 _ (by omega), c2 88 _ (by omega), n1, n2, n3, n4, n5, c1 51 _ (by omega), c1 52 _ (by omega), c1 53 _ (by omega), c1 54 _ (by omega), c1 55 _ (by omega)]
    exact ⟨rfl, rfl, rfl, rfl, rfl⟩
  · obtain ⟨n1, n2, n3, n4, n5, n6, n7, n8, n9⟩ := m3
    show t7 81 _ = _ ∧ t7 81 _ = _ ∧ t7 81 _ = _ ∧ t7 81 _ = _ ∧ t7 81 _ = _ ∧ t7 81 _ = _ ∧ t7 81 _ = _ ∧ t7 81 _ = _ ∧ t7 81 _ = _
    rw [c2 81 2 (by omega), c2 81 8 (by omega), c2 81 9 (by omega), c2 81 10 (by omega), c2 81 11 (by omega), c2 81 12 (by omega), c2 81 13 (by omega), c2 81 14 (by omega), c2 81 15 (by omega), n1, n2, n3, n4, n5, n6, n7, n8, n9, c1 48 2 (by omega), c1 48 8 (by omega), c1 48 9 (by omega), c1 48 10 (by omega), c1 48 11 (by omega), c1 48 12 (by omega), c1 48 13 (by omega), c1 48 14 (by omega), c1 48 15 (by omega)]
    exact ⟨rfl, rfl, rfl, rfl, rfl, rfl, rfl, rfl, rfl⟩
  · show t7 93 2 = _
    rw [all _ _ (by omega) (by omega)]
    exact g1
  · show t7 94 j = _ ∧ t7 95 j = _
    rw [all 94 _ (by omega) (by omega), all 95 _ (by omega) (by omega)]
    exact g2 j j1 j2
  · show t7 a j = _
    rw [all a j (by omega) (by omega), k5 a j (by omega), k2 a j (by omega), k1 a j (by omega)]
theorem p_caund {σ : zS} : ∃ s, g_ca_copyFrom 48 81 σ = some ((), s) ∧ (∀ j : Int, 0 ≤ j → j < 7 → s 50 j = σ 83 j) ∧ (∀ j : Int, 0 ≤ j → j < 181 → s 51 j = σ 84 j ∧ s 52 j = σ 85 j ∧ s 53 j = σ 86 j ∧ s 54 j = σ 87 j ∧ s 55 j = σ 88 j) ∧ (s 48 2 = σ 81 2 ∧ s 48 8 = σ 81 8 ∧ s 48 9 = σ 81 9 ∧ s 48 10 = σ 81 10 ∧ s 48 11 = σ 81 11 ∧ s 48 12 = σ 81 12 ∧ s 48 13 = σ 81 13 ∧ s 48 14 = σ 81 14 ∧ s 48 15 = σ 81 15) ∧ ∀ a j, (a < 48 ∨ 56 ≤ a) → s a j = σ a j := by
  unfold g_ca_copyFrom
  rw [c_seCopy]
  rw [Option.bind_some]
  try dsimp only
  generalize h1 : zcp σ (81 + 1 + 1) 0 (48 + 1 + 1) 0 7 = t1
  generalize h2 : zcp t1 (81 + 3) 0 (48 + 3) 0 181 = t2
  generalize h3 : zcp t2 (81 + 4) 0 (48 + 4) 0 181 = t3
  generalize h4 : zcp t3 (81 + 5) 0 (48 + 5) 0 181 = t4
  generalize h5 : zcp t4 (81 + 6) 0 (48 + 6) 0 181 = t5
  generalize h6 : zcp t5 (81 + 7) 0 (48 + 7) 0 181 = t6
  generalize h7 : zu t6 48 2 (t6 81 2) = t7
  generalize h8 : zu t7 48 8 (t7 81 8) = t8
  generalize h9 : zu t8 48 9 (t8 81 9) = t9
  generalize h10 : zu t9 48 10 (t9 81 10) = t10
  generalize h11 : zu t10 48 11 (t10 81 11) = t11
  generalize h12 : zu t11 48 12 (t11 81 12) = t12
  generalize h13 : zu t12 48 13 (t12 81 13) = t13
  generalize h14 : zu t13 48 14 (t13 81 14) = t14
  generalize h15 : zu t14 48 15 (t14 81 15) = t15
  have ej : ∀ j : Int, j - 0 = j := fun j => by omega
  have u6 : ∀ a j, a ≠ 48 → t15 a j = t6 a j := fun a j k => by rw [← h15, zu_a k, ← h14, zu_a k, ← h13, zu_a k, ← h12, zu_a k, ← h11, zu_a k, ← h10, zu_a k, ← h9, zu_a k, ← h8, zu_a k, ← h7, zu_a k]
  have lo : ∀ a j, (a < 50 ∨ 56 ≤ a) → t6 a j = σ a j := fun a j k => by rw [← h6, zcp_a (by omega), ← h5, zcp_a (by omega), ← h4, zcp_a (by omega), ← h3, zcp_a (by omega), ← h2, zcp_a (by omega), ← h1, zcp_a (by omega)]
  have lo1 : ∀ a j, (a < 50 ∨ 56 ≤ a) → t1 a j = σ a j := fun a j k => by rw [← h1, zcp_a (by omega)]
  have lo2 : ∀ a j, (a < 50 ∨ 56 ≤ a) → t2 a j = σ a j := fun a j k => by rw [← h2, zcp_a (by omega), ← h1, zcp_a (by omega)]
  have lo3 : ∀ a j, (a < 50 ∨ 56 ≤ a) → t3 a j = σ a j := fun a j k => by rw [← h3, zcp_a (by omega), ← h2, zcp_a (by omega), ← h1, zcp_a (by omega)]
  have lo4 : ∀ a j, (a < 50 ∨ 56 ≤ a) → t4 a j = σ a j := fun a j k => by rw [← h4, zcp_a (by omega), ← h3, zcp_a (by omega), ← h2, zcp_a (by omega), ← h1, zcp_a (by omega)]
  have lo5 : ∀ a j, (a < 50 ∨ 56 ≤ a) → t5 a j = σ a j := fun a j k => by rw [← h5, zcp_a (by omega), ← h4, zcp_a (by omega), ← h3, zcp_a (by omega), ← h2, zcp_a (by omega), ← h1, zcp_a (by omega)]
  refine ⟨t15, rfl, fun j j1 j2 => ?_, fun j j1 j2 => ⟨?_, ?_, ?_, ?_, ?_⟩, ⟨?_, ?_, ?_, ?_, ?_, ?_, ?_, ?_, ?_⟩, fun a j k => ?_⟩
  · rw [u6 _ _ (by decide), ← h6, zcp_a (by decide), ← h5, zcp_a (by decide), ← h4, zcp_a (by decide), ← h3, zcp_a (by decide), ← h2, zcp_a (by decide), ← h1]
    exact (zcp_in (a := 83) (b := 50) j1 (by omega)).trans (by rw [ej])
  · rw [u6 _ _ (by decide), ← h6, zcp_a (by decide), ← h5, zcp_a (by decide), ← h4, zcp_a (by decide), ← h3, zcp_a (by decide), ← h2]
    exact (zcp_in (a := 84) (b := 51) j1 (by omega)).trans (by rw [ej]; exact lo1 _ _ (by omega))
  · rw [u6 _ _ (by decide), ← h6, zcp_a (by decide), ← h5, zcp_a (by decide), ← h4, zcp_a (by decide), ← h3]
    exact (zcp_in (a := 85) (b := 52) j1 (by omega)).trans (by rw [ej]; exact lo2 _ _ (by omega))
  · rw [u6 _ _ (by decide), ← h6, zcp_a (by decide), ← h5, zcp_a (by decide), ← h4]
    exact (zcp_in (a := 86) (b := 53) j1 (by omega)).trans (by rw [ej]; exact lo3 _ _ (by omega))
  · rw [u6 _ _ (by decide), ← h6, zcp_a (by decide), ← h5]
    exact (zcp_in (a := 87) (b := 54) j1 (by omega)).trans (by rw [ej]; exact lo4 _ _ (by omega))
  · rw [u6 _ _ (by decide), ← h6]
    exact (zcp_in (a := 88) (b := 55) j1 (by omega)).trans (by rw [ej]; exact lo5 _ _ (by omega))
  · rw [← h15, zu_i (by decide), ← h14, zu_i (by decide), ← h13, zu_i (by decide), ← h12, zu_i (by decide), ← h11, zu_i (by decide), ← h10, zu_i (by decide), ← h9, zu_i (by decide), ← h8, zu_i (by decide), ← h7, zu_e rfl]
    exact lo _ _ (by omega)
  · rw [← h15, zu_i (by decide), ← h14, zu_i (by decide), ← h13, zu_i (by decide), ← h12, zu_i (by decide), ← h11, zu_i (by decide), ← h10, zu_i (by decide), ← h9, zu_i (by decide), ← h8, zu_e rfl, ← h7, zu_a (by decide)]
    exact lo _ _ (by omega)
  · rw [← h15, zu_i (by decide), ← h14, zu_i (by decide), ← h13, zu_i (by decide), ← h12, zu_i (by decide), ← h11, zu_i (by decide), ← h10, zu_i (by decide), ← h9, zu_e rfl, ← h8, zu_a (by decide), ← h7, zu_a (by decide)]
    exact lo _ _ (by omega)
  · rw [← h15, zu_i (by decide), ← h14, zu_i (by decide), ← h13, zu_i (by decide), ← h12, zu_i (by decide), ← h11, zu_i (by decide), ← h10, zu_e rfl, ← h9, zu_a (by decide), ← h8, zu_a (by decide), ← h7, zu_a (by decide)]
    exact lo _ _ (by omega)
  · rw [← h15, zu_i (by decide), ← h14, zu_i (by decide), ← h13, zu_i (by decide), ← h12, zu_i (by decide), ← h11, zu_e rfl, ← h10, zu_a (by decide), ← h9, zu_a (by decide), ← h8, zu_a (by decide), ← h7, zu_a (by decide)]
    exact lo _ _ (by omega)
  · rw [← h15, zu_i (by decide), ← h14, zu_i (by decide), ← h13, zu_i (by decide), ← h12, zu_e rfl, ← h11, zu_a (by decide), ← h10, zu_a (by decide), ← h9, zu_a (by decide), ← h8, zu_a (by decide), ← h7, zu_a (by decide)]
    exact lo _ _ (by omega)
  · rw [← h15, zu_i (by decide), ← h14, zu_i (by decide), ← h13, zu_e rfl, ← h12, zu_a (by decide), ← h11, zu_a (by decide), ← h10, zu_a (by decide), ← h9, zu_a (by decide), ← h8, zu_a (by decide), ← h7, zu_a (by decide)]
    exact lo _ _ (by omega)
  · rw [← h15, zu_i (by decide), ← h14, zu_e rfl, ← h13, zu_a (by decide), ← h12, zu_a (by decide), ← h11, zu_a (by decide), ← h10, zu_a (by decide), ← h9, zu_a (by decide), ← h8, zu_a (by decide), ← h7, zu_a (by decide)]
    exact lo _ _ (by omega)
  · rw [← h15, zu_e rfl, ← h14, zu_a (by decide), ← h13, zu_a (by decide), ← h12, zu_a (by decide), ← h11, zu_a (by decide), ← h10, zu_a (by decide), ← h9, zu_a (by decide), ← h8, zu_a (by decide), ← h7, zu_a (by decide)]
    exact lo _ _ (by omega)
  · rw [u6 _ _ (by omega)]
    exact lo _ _ (by omega)
theorem p_stF_und {σ : zS} (h1 : 0 ≤ σ 96 1 ∧ σ 96 1 ≤ 10) : zP' (g_st_copyFrom 40 73 σ) (fun _ s => (∀ j : Int, 0 ≤ j → j < 7 → s 50 j = σ 83 j) ∧ (∀ j : Int, 0 ≤ j → j < 181 → s 51 j = σ 84 j ∧ s 52 j = σ 85 j ∧ s 53 j = σ 86 j ∧ s 54 j = σ 87 j ∧ s 55 j = σ 88 j) ∧ (s 48 2 = σ 81 2 ∧ s 48 8 = σ 81 8 ∧ s 48 9 = σ 81 9 ∧ s 48 10 = σ 81 10 ∧ s 48 11 = σ 81 11 ∧ s 48 12 = σ 81 12 ∧ s 48 13 = σ 81 13 ∧ s 48 14 = σ 81 14 ∧ s 48 15 = σ 81 15) ∧ (s 60 2 = σ 93 2 ∧ ∀ j : Int, 0 ≤ j → j < 60 → s 61 j = σ 94 j ∧ s 62 j = σ 95 j) ∧ ∀ a j, (a < 40 ∨ 71 ≤ a) → s a j = σ a j) := by
  unfold g_st_copyFrom
  obtain ⟨t1, e1, -, -, -, k1⟩ := p_socopy (a0 := 41) (a1 := 74) (by omega) (σ := σ)
  rw [e1]
  rw [Option.bind_some]
  try dsimp +instances only
  obtain ⟨t2, e2, m1, m2, m3, k2⟩ := p_caund (σ := t1)
  rw [e2]
  rw [Option.bind_some]
  try dsimp +instances only
  unfold g_fi_copyFrom
  rw [Option.bind_some]
  try dsimp +instances only
  generalize hf1 : zcp t2 (93 + 1) 0 (60 + 1) 0 60 = t3
  generalize hf2 : zcp t3 (93 + 2) 0 (60 + 2) 0 60 = t4
  generalize hf3 : zu t4 60 2 (t4 93 2) = t5
  have ej : ∀ j : Int, j - 0 = j := fun j => by omega
  have k5 : ∀ a j, (a < 60 ∨ 63 ≤ a) → t5 a j = t2 a j := fun a j k => by rw [← hf3, zu_a (by omega), ← hf2, zcp_a (by omega), ← hf1, zcp_a (by omega)]
  have g1 : t5 60 2 = σ 93 2 := by rw [← hf3, zu_e rfl, ← hf2, zcp_a (by decide), ← hf1, zcp_a (by decide), k2 _ _ (by omega), k1 _ _ (by omega)]
  have g2 : ∀ j : Int, 0 ≤ j → j < 60 → t5 61 j = σ 94 j ∧ t5 62 j = σ 95 j := fun j j1 j2 => by
    constructor
    · rw [← hf3, zu_a (by decide), ← hf2, zcp_a (by decide), ← hf1]
      exact (zcp_in (a := 94) (b := 61) j1 (by omega)).trans (by rw [ej, k2 _ _ (by omega), k1 _ _ (by omega)])
    · rw [← hf3, zu_a (by decide), ← hf2]
      exact (zcp_in (a := 95) (b := 62) j1 (by omega)).trans (by rw [ej, ← hf1, zcp_a (by decide), k2 _ _ (by omega), k1 _ _ (by omega)])
  have c63 : t5 96 1 = σ 96 1 := by rw [k5 _ _ (by omega), k2 _ _ (by omega), k1 _ _ (by omega)]
  refine zP'.bind (p_bscopy (a0 := 63) (a1 := 96) (L := 10) (σ := t5) (by decide) (by decide) (by decide) rfl rfl (by decide) (by rw [c63]; omega)) (fun _ t6 p6 => ?_)
  obtain ⟨-, -, k6⟩ := p6
  try dsimp +instances only
  unfold g_wa_copyFrom
  rw [Option.bind_some]
  try dsimp +instances only
  generalize hs : zu (zcp (zcp (zcp t6 (98 + 1) 0 (65 + 1) 0 6) (98 + 2) 0 (65 + 2) 0 6) (98 + 3) 0 (65 + 3) 0 6) 65 5 ((zcp (zcp (zcp t6 (98 + 1) 0 (65 + 1) 0 6) (98 + 2) 0 (65 + 2) 0 6) (98 + 3) 0 (65 + 3) 0 6) 98 5) = t7
  have k7 : ∀ a j, (a < 65 ∨ 69 ≤ a) → t7 a j = t6 a j := fun a j k => by rw [← hs, zu_a (by omega), zcp_a (by omega), zcp_a (by omega), zcp_a (by omega)]
  have all : ∀ a j, (a < 65 ∨ 69 ≤ a) → (a < 63 ∨ 65 ≤ a) → t7 a j = t5 a j := fun a j h1 h2 => by rw [k7 a j (by omega), k6 a j (by omega) (by omega)]
  have c2 : ∀ a j, (48 ≤ a ∧ a < 56) → t7 a j = t2 a j := fun a j h => by rw [all a j (by omega) (by omega), k5 a j (by omega)]
  have c1 : ∀ a j, (81 ≤ a ∧ a < 89) → t1 a j = σ a j := fun a j h => k1 a j (by omega)
  refine zP'.ret ⟨fun j j1 j2 => ?_, fun j j1 j2 => ?_, ?_, ⟨?_, fun j j1 j2 => ?_⟩, fun a j h => ?_⟩
  · show t7 50 j = _
    rw [c2 _ _ (by omega), m1 j j1 j2, c1 _ _ (by omega)]
  · obtain ⟨n1, n2, n3, n4, n5⟩ := m2 j j1 j2
    show t7 51 j = _ ∧ t7 52 j = _ ∧ t7 53 j = _ ∧ t7 54 j = _ ∧ t7 55 j = _
    rw [c2 51 _ (by omega), c2 52 _ (by omega), c2 53 _ (by omega), c2 54 _ (by omega), c2 55 _ (by omega), n1, n2, n3, n4, n5, c1 84 _ (by omega), c1 85 _ (by omega), c1 86 _ (by omega), c1 87 _ (by omega), c1 88 _ (by omega)]
    exact ⟨rfl, rfl, rfl, rfl, rfl⟩
  · obtain ⟨n1, n2, n3, n4, n5, n6, n7, n8, n9⟩ := m3
    show t7 48 _ = _ ∧ t7 48 _ = _ ∧ t7 48 _ = _ ∧ t7 48 _ = _ ∧ t7 48 _ = _ ∧ t7 48 _ = _ ∧ t7 48 _ = _ ∧ t7 48 _ = _ ∧ t7 48 _ = _
    rw [c2 48 2 (by omega), c2 48 8 (by omega), c2 48 9 (by omega), c2 48 10 (by omega), c2 48 11 (by omega), c2 48 12 (by omega), c2 48 13 (by omega), c2 48 14 (by omega), c2 48 15 (by omega), n1, n2, n3, n4, n5, n6, n7, n8, n9, c1 81 2 (by omega), c1 81 8 (by omega), c1 81 9 (by omega), c1 81 10 (by omega), c1 81 11 (by omega), c1 81 12 (by omega), c1 81 13 (by omega), c1 81 14 (by omega), c1 81 15 (by omega)]
    exact ⟨rfl, rfl, rfl, rfl, rfl, rfl, rfl, rfl, rfl⟩
  · show t7 60 2 = _
    rw [all _ _ (by omega) (by omega)]
    exact g1
  · show t7 61 j = _ ∧ t7 62 j = _
    rw [all 61 _ (by omega) (by omega), all 62 _ (by omega) (by omega)]
    exact g2 j j1 j2
  · show t7 a j = _
    rw [all a j (by omega) (by omega), k5 a j (by omega), k2 a j (by omega), k1 a j (by omega)]
