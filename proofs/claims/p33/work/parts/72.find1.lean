/-! THE FIND alike: the calls that touch it -/
theorem liT_true {σ : zS} {c : Nat} {B : Bx} : liT σ c B (fun _ => true) = liC σ c B := by
  unfold liT liC
  simp only [Bool.and_true]
theorem fnC_T {σ s : zS} {B : Bx} (h : fnC σ s B) : fnT σ s B (fun _ => true) := by
  unfold fnT
  rw [liT_true]
  exact h
theorem qf_query {a b c d e : Int} {σ : zS} (I : InvF σ) : two (g_c_query a b c d e σ) (g_m_query a b c d e) (fun v w s => InvF s ∧ v = w) := by
  obtain ⟨v, s1, e1, w, s2, e2, J, q⟩ := qs_query (a := a) (b := b) (c := c) (d := d) (e := e) I.1
  refine ⟨v, s1, e1, w, s2, e2, ⟨J, ?_⟩, q⟩
  have H := I.1.1.1.1.1
  have B : BK σ 41 144 147 := I.1.1.1.2.1
  obtain ⟨-, c1, c2⟩ := p_query (m := a) (x0 := b) (x1 := c) (y0 := d) (y1 := e) H B.1.1 B.ok v s1 e1
  obtain ⟨-, G1, -⟩ := zP'.of (g_c_query_sp H) v s1 e1
  have ref : ∀ a j, 143 ≤ a → a < 168 → s1 a j = σ a j := fun a j k1 k2 => G1 a j (Or.inl ⟨k1, k2⟩)
  have M1 : MI s1 := MI_cls I.1.1.1.1.2.1 ref
  have e144 : s1 144 = σ 144 := funext (fun j => ref 144 j (by decide) (by decide))
  have e147 : s1 147 = σ 147 := funext (fun j => ref 147 j (by decide) (by decide))
  have F2 := f_query M1 w s2 e2
  have cl : ∀ a j, (a < 143 ∨ a = 145 ∨ a = 148 ∨ (a = 143 ∧ j = 6)) → s2 a j = s1 a j := fun a j k => F2 a j (by omega) (by omega) (by omega) (by omega) (by omega) (by omega) (by omega) (by omega) (by omega)
  obtain ⟨s3, e3, t1, t2⟩ := t_query (m := a) (x0 := b) (x1 := c) (y0 := d) (y1 := e) M1.2.1 M1.1 (B.ok7 e147)
  rw [e2] at e3
  cases e3
  by_cases cc : 0 ≤ a ∧ a ≤ 6 ∧ bOk (b, c, d, e)
  · have g2 := t1 cc
    unfold fnR at g2
    rw [e144, e147] at g2
    refine ⟨FN_of B.1 (fnC_T (c1 cc)) g2 (fun a j k => cl a j (by omega)), FNi_keep I.2.2 (fun a j k => ?_)⟩
    rw [cl a j (by omega)]
    rcases k with ⟨rfl, rfl⟩ | rfl | rfl | rfl | rfl | ⟨rfl, rfl⟩
    · exact G1 _ _ (Or.inr rfl)
    · exact G1 _ _ (Or.inr rfl)
    · exact G1 _ _ (Or.inr rfl)
    · exact ref _ _ (by decide) (by decide)
    · exact ref _ _ (by decide) (by decide)
    · exact ref _ _ (by decide) (by decide)
  · rw [t2 cc, c2 cc]
    exact I.2
theorem qf_run {σ : zS} (I : InvF σ) : two (g_c_run σ) g_m_run (fun v w s => InvF s ∧ v = w) := by
  obtain ⟨v, s1, e1, w, s2, e2, J, q⟩ := qd_run I.1
  refine ⟨v, s1, e1, w, s2, e2, ⟨J, ?_⟩, q⟩
  have H := I.1.1.1.1.1
  obtain ⟨-, G1, -⟩ := zP'.of (g_c_run_sp H) v s1 e1
  have ref : ∀ a j, 143 ≤ a → a < 168 → s1 a j = σ a j := fun a j k1 k2 => G1 a j (Or.inl ⟨k1, k2⟩)
  have M1 : MI s1 := MI_cls I.1.1.1.1.2.1 ref
  have F2 := f_run M1 w s2 e2
  refine ⟨?_, FNi_keep I.2.2 (fun a j k => ?_)⟩
  · rcases (run_two I.1 e1 e2).2 with ⟨-, k2, -, k⟩ | ⟨-, k⟩
    · refine FNe_keep I.2.1 (fun a j h => ?_)
      obtain ⟨-, k5, k6, -, k8, k9⟩ := k j
      rcases h with ⟨rfl, rfl⟩ | rfl | rfl | ⟨rfl, -⟩ | ⟨rfl, -⟩
      · exact k2
      · exact k5
      · exact k6
      · exact k8
      · exact k9
    · exact k
  · rw [F2 a j (by omega)]
    rcases k with ⟨rfl, rfl⟩ | rfl | rfl | rfl | rfl | ⟨rfl, rfl⟩
    · exact G1 _ _ (Or.inr rfl)
    · exact G1 _ _ (Or.inr rfl)
    · exact G1 _ _ (Or.inr rfl)
    · exact ref _ _ (by decide) (by decide)
    · exact ref _ _ (by decide) (by decide)
    · exact ref _ _ (by decide) (by decide)
theorem qf_image {σ : zS} (I : InvF σ) : two (g_c_image σ) g_m_image (fun _ _ s => InvF s) := by
  obtain ⟨v, s1, e1, w, s2, e2, J⟩ := qs_image I.1
  refine ⟨v, s1, e1, w, s2, e2, J, ?_⟩
  have H := I.1.1.1.1.1
  have h1 := CI.c1 (a := 63) H (by omega)
  have h9 := I.1.1.1.1.2.1.2.1.2.2.2.1
  have R9 : σ 63 1 = σ 144 9 := I.1.1.1.2.1.2.1
  have key : zP' (g_c_image σ) (fun _ s => (s 93 2 = σ 60 2 ∧ ∀ j : Int, 0 ≤ j → j < 60 → s 94 j = σ 61 j ∧ s 95 j = σ 62 j) ∧ ∀ a j, (a = 60 ∨ a = 61 ∨ a = 62) → s a j = σ a j) := by
    unfold g_c_image
    refine zP'.bind (p_stF_img (σ := σ) ⟨h1.1, by omega⟩) (fun _ t p => ?_)
    obtain ⟨-, -, -, p4, p5⟩ := p
    try dsimp +instances only
    refine zP'.ret ⟨⟨?_, fun j j1 j2 => ?_⟩, fun a j k => ?_⟩
    · rw [zu_a (by decide)]
      exact p4.1
    · rw [zu_a (by decide), zu_a (by decide)]
      exact p4.2 j j1 j2
    · rw [zu_a (by omega)]
      exact p5 a j (by omega)
  obtain ⟨⟨k1, k2⟩, k3⟩ := key v s1 e1
  obtain ⟨-, G1, -⟩ := zP'.of (g_c_image_sp H) v s1 e1
  obtain ⟨m1, m2, m3, -⟩ := f_image w s2 e2
  have ref : ∀ a j, 143 ≤ a → a < 168 → s1 a j = σ a j := fun a j k1 k2 => G1 a j (Or.inl ⟨k1, k2⟩)
  have c2 : ∀ a j, (a < 143 ∨ a = 144 ∨ a = 147) → s2 a j = s1 a j := fun a j k => m1 a j (by omega) (by omega) (by omega)
  refine ⟨FNe_keep I.2.1 (fun a j k => ?_), fun _ => ⟨?_, fun j j6 hj => ?_⟩⟩
  · rw [c2 a j (by omega)]
    rcases k with ⟨rfl, rfl⟩ | rfl | rfl | ⟨rfl, -⟩ | ⟨rfl, -⟩
    · exact k3 _ _ (by omega)
    · exact k3 _ _ (by omega)
    · exact k3 _ _ (by omega)
    · exact ref _ _ (by decide) (by decide)
    · exact ref _ _ (by decide) (by decide)
  · rw [c2 93 2 (by omega), k1, m2 8 (by omega) (by omega), ref 144 8 (by decide) (by decide)]
    exact I.2.1.1
  · rw [c2 93 2 (by omega), k1] at hj
    obtain ⟨k4, k5⟩ := k2 (j : Int) (by omega) (by omega)
    rw [c2 94 _ (by omega), c2 95 _ (by omega), k4, k5, m2 _ (by omega) (by omega), m3 _ (by omega) (by omega), ref 144 _ (by decide) (by decide), ref 147 _ (by decide) (by decide)]
    exact I.2.1.2 j j6 hj
theorem qf_undo {σ : zS} (I : InvF σ) : two (g_c_undo σ) g_m_undo (fun _ _ s => InvF s) := by
  obtain ⟨v, s1, e1, w, s2, e2, J⟩ := qs_undo I.1
  refine ⟨v, s1, e1, w, s2, e2, J, ?_⟩
  have H := I.1.1.1.1.1
  obtain ⟨-, G1, -⟩ := zP'.of (g_c_undo_sp H) v s1 e1
  have ref : ∀ a j, 143 ≤ a → a < 168 → s1 a j = σ a j := fun a j k1 k2 => G1 a j (Or.inl ⟨k1, k2⟩)
  obtain ⟨m1, m2, m3⟩ := f_undo w s2 e2
  have h6 : σ 39 2 ≠ 0 ↔ σ 143 6 ≠ 0 := I.1.1.1.2.2.1
  have e6 : s1 143 6 = σ 143 6 := ref 143 6 (by decide) (by decide)
  by_cases c : σ 143 6 ≠ 0
  · have Ri := I.1.1.1.2.2.2 c
    have II := I.1.1.1.1.2.1.2.2.2 c
    have R9 : σ 96 1 = σ 145 9 := Ri.2.1
    have h9 : 0 ≤ σ 145 9 ∧ σ 145 9 ≤ 10 := II.2.2.2.2.1
    have key : zP' (g_c_undo σ) (fun _ s => (s 60 2 = σ 93 2 ∧ ∀ j : Int, 0 ≤ j → j < 60 → s 61 j = σ 94 j ∧ s 62 j = σ 95 j) ∧ ∀ a j, (a = 93 ∨ a = 94 ∨ a = 95) → s a j = σ a j) := by
      unfold g_c_undo
      try dsimp +instances only
      rw [if_pos (h6.mpr c)]
      refine zP'.bind (p_stF_und (σ := σ) (by omega)) (fun _ t p => ?_)
      obtain ⟨-, -, -, p4, p5⟩ := p
      try dsimp +instances only
      exact zP'.ret ⟨p4, fun a j k => p5 a j (by omega)⟩
    obtain ⟨⟨k1, k2⟩, k3⟩ := key v s1 e1
    obtain ⟨n1, n2⟩ := m2 (by rw [e6]; exact c)
    obtain ⟨i1, i2⟩ := I.2.2 c
    have c2 : ∀ a j, (a ≠ 144 ∧ a ≠ 147) → s2 a j = s1 a j := fun a j k => m1 a j k.1 k.2
    refine ⟨⟨?_, fun j j6 hj => ?_⟩, FNi_keep I.2.2 (fun a j k => ?_)⟩
    · rw [c2 60 2 (by decide), k1, n1 8 (by omega) (by omega), ref 145 8 (by decide) (by decide)]
      exact i1
    · rw [c2 60 2 (by decide), k1] at hj
      obtain ⟨k4, k5⟩ := k2 (j : Int) (by omega) (by omega)
      rw [c2 61 _ (by decide), c2 62 _ (by decide), k4, k5, n1 _ (by omega) (by omega), n2 _ (by omega) (by omega), ref 145 _ (by decide) (by decide), ref 148 _ (by decide) (by decide)]
      exact i2 j j6 hj
    · rw [c2 a j (by omega)]
      rcases k with ⟨rfl, rfl⟩ | rfl | rfl | rfl | rfl | ⟨rfl, rfl⟩
      · exact k3 _ _ (by omega)
      · exact k3 _ _ (by omega)
      · exact k3 _ _ (by omega)
      · exact ref _ _ (by decide) (by decide)
      · exact ref _ _ (by decide) (by decide)
      · exact ref _ _ (by decide) (by decide)
  · have c6 : σ 143 6 = 0 := Classical.byContradiction (fun h => c h)
    have key : zP' (g_c_undo σ) (fun _ s => s = σ) := by
      unfold g_c_undo
      try dsimp +instances only
      rw [if_neg (fun h => c (h6.mp h))]
      exact zP'.ret rfl
    have k := key v s1 e1
    have n := m3 (by rw [e6]; exact c6)
    rw [n, k]
    exact I.2
theorem qf_find {a : Int} {σ : zS} (I : InvF σ) : two (g_c_find a σ) (g_m_find a) (fun v w s => InvF s ∧ v = w) := by
  have h2 := CI.cf (a := 60) I.1.1.1.1.1 (by omega)
  obtain ⟨f1, f2⟩ := I.2.1
  have hc : g_c_find a σ = some (if a ≠ -1 then (if 0 ≤ a ∧ a < σ 60 2 then σ 61 a else -1) else σ 60 2, σ) := by
    unfold g_c_find
    by_cases c : a ≠ -1
    · rw [if_pos c, if_pos c]
      by_cases c1 : a < 0
      · rw [if_pos c1, if_neg (by omega)]
      · rw [if_neg c1]
        try dsimp +instances only
        by_cases c3 : σ 60 2 ≤ a
        · rw [if_pos c3, if_neg (by omega)]
        · rw [if_neg c3, if_pos (show 0 ≤ a ∧ a < 60 by omega), if_pos (show 0 ≤ a ∧ a < σ 60 2 by omega)]
    · rw [if_neg c, if_neg c]
  have hm : g_m_find a σ = some (if a ≠ -1 then (if 0 ≤ a ∧ a < σ 144 8 then σ 144 (200 + a) else -1) else σ 144 8, σ) := by
    unfold g_m_find
    by_cases c : a ≠ -1
    · rw [if_pos c, if_pos c]
      try dsimp +instances only
      rw [w32_id (x := σ 144 8 - 1) (by omega) (by omega)]
      by_cases c1 : 0 ≤ a ∧ a < σ 144 8
      · rw [s_isIn_t c1.1 (by omega)]
        rw [Option.bind_some]
        try dsimp +instances only
        rw [if_neg (show ¬ (1 : Int) = 0 by decide), w32_id (x := 200 + a) (by omega) (by omega), if_pos (by omega), if_pos c1]
      · rw [s_isIn_f (by omega)]
        rw [Option.bind_some]
        try dsimp +instances only
        rw [if_pos rfl, if_neg c1]
    · rw [if_neg c, if_neg c]
  refine ⟨_, σ, hc, _, σ, hm, I, ?_⟩
  by_cases c : a ≠ -1
  · rw [if_pos c, if_pos c, ← f1]
    by_cases c1 : 0 ≤ a ∧ a < σ 60 2
    · rw [if_pos c1, if_pos c1]
      have g := (f2 a.toNat (by omega) (by omega)).1
      rw [show ((a.toNat : Nat) : Int) = a by omega] at g
      exact g
    · rw [if_neg c1, if_neg c1]
  · rw [if_neg c, if_neg c]
    exact f1
theorem InvF_s0 : InvF s0 := by
  refine ⟨InvS_s0, ⟨by decide +kernel, fun j j6 hj => ?_⟩, fun h => ?_⟩
  · have e : s0 60 2 = 0 := by decide +kernel
    rw [e] at hj
    omega
  · have e : s0 143 6 = 0 := by decide +kernel
    exact absurd e h
