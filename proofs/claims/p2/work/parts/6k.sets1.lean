/-! THE SETTINGS alike: the calls that touch them -/
theorem cT_mT {σ : zS} (hL : σ 120 1 = σ 143 20) (h : TPr σ) : cT σ = mT σ := by
  funext j
  unfold cT mT
  rw [← hL]
  by_cases c : 0 ≤ j ∧ j < σ 120 1
  · rw [if_pos c, if_pos c]
    exact (h j c.1 c.2).1
  · rw [if_neg c, if_neg c]
theorem TPr.c {σ : zS} (h : TPr σ) : byC σ := fun j h1 h2 => (h j h1 h2).2
theorem TPr.m {σ : zS} (hL : σ 120 1 = σ 143 20) (h : TPr σ) : tpR σ := fun j h1 h2 => by
  have e := h j h1 (by omega)
  rw [← e.1]
  exact e.2
theorem qs_settings {σ : zS} (I : InvS σ) : two (g_c_settings σ) g_m_settings (fun v w s => InvS s ∧ v = w) := by
  obtain ⟨v, s1, e1, w, s2, e2, J⟩ := qt_settings I.1
  have hL : σ 120 1 = σ 143 20 := I.1.1.1.2.2.1
  obtain ⟨c1, c2⟩ := c_settings I.1.1.1.1 I.1.2.c v s1 e1
  obtain ⟨-, G1, -⟩ := zP'.of (g_c_settings_sp I.1.1.1.1) v s1 e1
  have ref : ∀ a j, 143 ≤ a → a < 168 → s1 a j = σ a j := fun a j k1 k2 => G1 a j (Or.inl ⟨k1, k2⟩)
  have M1 : MI s1 := MI_cls I.1.1.1.2.1 ref
  have e159 : s1 159 = σ 159 := funext (fun j => ref 159 j (by decide) (by decide))
  have e144 : s1 144 = σ 144 := funext (fun j => ref 144 j (by decide) (by decide))
  have e20 : s1 143 20 = σ 143 20 := ref 143 20 (by decide) (by decide)
  have hR : tpR s1 := by
    unfold tpR
    rw [e20, e159]
    exact I.1.2.m hL
  have eT : mT s1 = cT σ := by
    rw [cT_mT hL I.1.2]
    unfold mT
    rw [e20, e159]
  obtain ⟨m1, m2⟩ := m_settings3 M1 hR w s2 e2
  have F2 := f_settings M1 w s2 e2
  have eS : S7 (fun j => s1 144 (11 + j)) = S7 (σ 50) := S7_ext (fun j j1 j2 => by
    rw [e144]
    exact (I.2.1 j j1 j2).symm)
  rw [eT, e20, eS, ← hL] at m1 m2
  refine ⟨v, s1, e1, w, s2, e2, ⟨J, fun j j1 j2 => ?_, fun k j j1 j2 => ?_⟩, c1.trans m1.symm⟩
  · rw [F2 50 j (by omega), c2 j j1 j2, m2 j j1 j2]
  · rw [F2 143 6 (by omega), ref 143 6 (by decide) (by decide)] at k
    rw [F2 83 j (by omega), F2 145 _ (by omega), ref 145 _ (by decide) (by decide), G1 83 j (Or.inr rfl)]
    exact I.2.2 k j j1 j2
theorem se_of {a : Int} {σ : zS} : g_c_setting a σ = some (if 0 ≤ a ∧ a < 7 then σ 50 a else -1, σ) := by
  unfold g_c_setting g_se_of
  by_cases c1 : a < 0
  · rw [if_pos c1, if_neg (by omega)]
    rfl
  · rw [if_neg c1]
    by_cases c2 : 7 ≤ a
    · rw [if_pos c2, if_neg (by omega)]
      rfl
    · rw [if_neg c2, if_pos (by omega), if_pos (by omega)]
      rfl
theorem t_setting {a : Int} {σ : zS} : g_m_setting a σ = some (if 0 ≤ a ∧ a < 7 then σ 144 (11 + a) else -1, σ) := by
  unfold g_m_setting
  by_cases c : 0 ≤ a ∧ a < 7
  · rw [s_isIn_t c.1 (by omega)]
    rw [Option.bind_some]
    try dsimp +instances only
    rw [if_neg (by decide), w32_id (x := 11 + a) (by omega) (by omega), if_pos (by omega), if_pos c]
  · rw [s_isIn_f (by omega)]
    rw [Option.bind_some]
    try dsimp +instances only
    rw [if_pos rfl, if_neg c]
theorem qs_setting {a : Int} {σ : zS} (I : InvS σ) : two (g_c_setting a σ) (g_m_setting a) (fun v w s => InvS s ∧ v = w) := by
  refine ⟨_, σ, se_of, _, σ, t_setting, I, ?_⟩
  by_cases c : 0 ≤ a ∧ a < 7
  · rw [if_pos c, if_pos c]
    exact I.2.1 a c.1 c.2
  · rw [if_neg c, if_neg c]
theorem qs_image {σ : zS} (I : InvS σ) : two (g_c_image σ) g_m_image (fun _ _ s => InvS s) := by
  obtain ⟨v, s1, e1, w, s2, e2, J⟩ := qt_image I.1
  refine ⟨v, s1, e1, w, s2, e2, J, ?_⟩
  have h1 := CI.c1 (a := 63) I.1.1.1.1 (by omega)
  have h9 := I.1.1.1.2.1.2.1.2.2.2.1
  have R9 : σ 63 1 = σ 144 9 := I.1.1.2.1.2.1
  have key : zP' (g_c_image σ) (fun _ s => (∀ j : Int, 0 ≤ j → j < 7 → s 83 j = σ 50 j) ∧ ∀ j, s 50 j = σ 50 j) := by
    unfold g_c_image
    refine zP'.bind (p_stF_img (σ := σ) ⟨h1.1, by omega⟩) (fun _ t p => ?_)
    obtain ⟨p1, -, -, -, p5⟩ := p
    try dsimp +instances only
    refine zP'.ret ⟨fun j j1 j2 => ?_, fun j => ?_⟩
    · try dsimp only
      rw [zu_a (by decide)]
      exact p1 j j1 j2
    · try dsimp only
      rw [zu_a (by decide)]
      exact p5 50 j (by omega)
  obtain ⟨k1, k2⟩ := key v s1 e1
  obtain ⟨-, G1, -⟩ := zP'.of (g_c_image_sp I.1.1.1.1) v s1 e1
  obtain ⟨m1, m2, -, -⟩ := f_image w s2 e2
  have z : ∀ j : Int, 0 ≤ j → j < 7 → s1 144 (11 + j) = σ 144 (11 + j) := fun j _ _ => G1 144 _ (Or.inl (by decide))
  refine ⟨fun j j1 j2 => ?_, fun _ j j1 j2 => ?_⟩
  · rw [m1 50 j (by decide) (by decide) (Or.inl (by decide)), m1 144 _ (by decide) (by decide) (Or.inl (by decide)), k2, z j j1 j2]
    exact I.2.1 j j1 j2
  · rw [m1 83 j (by decide) (by decide) (Or.inl (by decide)), m2 _ (by omega) (by omega), k1 j j1 j2, z j j1 j2]
    exact I.2.1 j j1 j2
theorem qs_undo {σ : zS} (I : InvS σ) : two (g_c_undo σ) g_m_undo (fun _ _ s => InvS s) := by
  obtain ⟨v, s1, e1, w, s2, e2, J⟩ := qt_undo I.1
  refine ⟨v, s1, e1, w, s2, e2, J, ?_⟩
  obtain ⟨-, G1, -⟩ := zP'.of (g_c_undo_sp I.1.1.1.1) v s1 e1
  have ref : ∀ a j, 143 ≤ a → a < 168 → s1 a j = σ a j := fun a j k1 k2 => G1 a j (Or.inl ⟨k1, k2⟩)
  obtain ⟨m1, m2, m3⟩ := f_undo w s2 e2
  have h6 : σ 39 2 ≠ 0 ↔ σ 143 6 ≠ 0 := I.1.1.2.2.1
  have e6 : s1 143 6 = σ 143 6 := ref 143 6 (by decide) (by decide)
  by_cases c : σ 143 6 ≠ 0
  · have Ri := I.1.1.2.2.2 c
    have II := I.1.1.1.2.1.2.2.2 c
    have R9 : σ 96 1 = σ 145 9 := Ri.2.1
    have h9 : 0 ≤ σ 145 9 ∧ σ 145 9 ≤ 10 := II.2.2.2.2.1
    have key : zP' (g_c_undo σ) (fun _ s => (∀ j : Int, 0 ≤ j → j < 7 → s 50 j = σ 83 j) ∧ ∀ j, s 83 j = σ 83 j) := by
      unfold g_c_undo
      try dsimp +instances only
      rw [if_pos (h6.mpr c)]
      refine zP'.bind (p_stF_und (σ := σ) (by omega)) (fun _ t p => ?_)
      obtain ⟨p1, -, -, -, p5⟩ := p
      try dsimp +instances only
      exact zP'.ret ⟨p1, fun j => p5 83 j (by omega)⟩
    obtain ⟨k1, k2⟩ := key v s1 e1
    obtain ⟨n1, -⟩ := m2 (by rw [e6]; exact c)
    refine ⟨fun j j1 j2 => ?_, fun _ j j1 j2 => ?_⟩
    · rw [m1 50 j (by decide) (by decide), n1 _ (by omega) (by omega), k1 j j1 j2, ref 145 _ (by decide) (by decide)]
      exact I.2.2 c j j1 j2
    · rw [m1 83 j (by decide) (by decide), m1 145 _ (by decide) (by decide), k2, ref 145 _ (by decide) (by decide)]
      exact I.2.2 c j j1 j2
  · have c6 : σ 143 6 = 0 := Classical.byContradiction (fun h => c h)
    have key : zP' (g_c_undo σ) (fun _ s => s = σ) := by
      unfold g_c_undo
      try dsimp +instances only
      rw [if_neg (fun h => c (h6.mp h))]
      exact zP'.ret rfl
    have k := key v s1 e1
    have n := m3 (by rw [e6]; exact c6)
    rw [n, k]
    exact I.2
theorem InvS_s0 : InvS s0 := by
  refine ⟨⟨Inv2_s0, fun j h1 h2 => ?_⟩, fun j h1 h2 => ?_, fun h => ?_⟩
  · have e : s0 120 1 = 0 := by decide +kernel
    rw [e] at h2
    omega
  · have e : ∀ n : Fin 7, s0 50 ((n.val : Nat) : Int) = s0 144 (11 + ((n.val : Nat) : Int)) := by decide +kernel
    obtain ⟨n, rfl⟩ : ∃ n : Nat, j = (n : Int) := ⟨j.toNat, by omega⟩
    exact e ⟨n, by omega⟩
  · have e : s0 143 6 = 0 := by decide +kernel
    exact absurd e h
