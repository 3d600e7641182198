/-! FRAMES of the reference's calls, in full, further ones; feed() of both sides; pairs with a component put beside what stands between the calls -/
theorem f_trace {x0 x1 y0 y1 : Int} {σ : zS} (h : MI σ) : zP' (g_m_trace x0 x1 y0 y1 σ) (fun _ s => ∀ a j, (a ≠ 144 ∨ (j ≠ 9 ∧ (j < 260 ∨ 300 ≤ j))) → s a j = σ a j) := by
  have h9 := h.2.1.2.2.2.1
  unfold g_m_trace
  refine zP'.ite (fun c => ?_) (fun c => zP'.ret (fun a j k => zu_c (by omega)))
  by_cases hb : bOk (x0, x1, y0, y1)
  · rw [s_isBox_t hb]
    rw [Option.bind_some]
    try dsimp +instances only
    rw [if_pos (by decide)]
    refine zP'.ite (fun c2 => ?_) (fun c2 => zP'.ret (fun a j k => rfl))
    rw [w32_id (x := 4 * σ 144 9) (by omega) (by omega), w32_id (x := 260 + 4 * σ 144 9) (by omega) (by omega), s_sets (by omega) (by rw [l144]; omega) (by rw [l144]; omega)]
    rw [Option.bind_some]
    try dsimp +instances only
    refine zP'.ret (fun a j k => ?_)
    try dsimp only
    rw [zu_c (by omega)]
    by_cases ca : a = 144
    · subst ca
      exact zb_i (by omega)
    · exact zb_a ca
  · rw [s_isBox_f hb]
    rw [Option.bind_some]
    try dsimp +instances only
    rw [if_neg (by decide)]
    exact zP'.ret (fun a j k => rfl)
theorem f_watch {x x0 x1 y0 y1 : Int} {σ : zS} (h : MI σ) : zP' (g_m_watch x x0 x1 y0 y1 σ) (fun _ s => ∀ a j, (a ≠ 144 ∨ (j ≠ 10 ∧ (j < 300 ∨ 340 ≤ j))) → s a j = σ a j) := by
  have h10 := h.2.1.2.2.2.2.1
  unfold g_m_watch
  by_cases hx : 0 ≤ x ∧ x ≤ 6
  · rw [s_isIn_t hx.1 hx.2]
    rw [Option.bind_some]
    try dsimp +instances only
    rw [if_pos (by decide)]
    by_cases hb : bOk (x0, x1, y0, y1)
    · rw [s_isBox_t hb]
      rw [Option.bind_some]
      try dsimp +instances only
      rw [if_pos (by decide)]
      refine zP'.ite (fun c2 => ?_) (fun c2 => zP'.ret (fun a j k => rfl))
      rw [w32_id (x := 6 * σ 144 10) (by omega) (by omega), w32_id (x := 300 + 6 * σ 144 10) (by omega) (by omega), if_pos (by omega), w32_id (x := 300 + 6 * σ 144 10 + 1) (by omega) (by omega), w32_id (x := 300 + 6 * σ 144 10 + 5) (by omega) (by omega), s_sets (by omega) (by rw [l144]; omega) (by rw [l144]; omega)]
      rw [Option.bind_some]
      try dsimp +instances only
      rw [if_pos (by omega)]
      refine zP'.ret (fun a j k => ?_)
      try dsimp only
      rw [zu_c (by omega), zu_c (by omega)]
      by_cases ca : a = 144
      · subst ca
        rw [zb_i (by omega), zu_c (by omega)]
      · rw [zb_a ca, zu_a ca]
    · rw [s_isBox_f hb]
      rw [Option.bind_some]
      try dsimp +instances only
      rw [if_neg (by decide)]
      exact zP'.ret (fun a j k => rfl)
  · rw [s_isIn_f (by omega)]
    rw [Option.bind_some]
    try dsimp +instances only
    rw [if_neg (by decide)]
    exact zP'.ret (fun a j k => rfl)
theorem f_settings {σ : zS} (h : MI σ) : zP' (g_m_settings σ) (fun _ s => frT2 σ s) := by
  obtain ⟨v, s, e, -, -, e3⟩ := m_settings2 h
  rw [e]
  exact zP'.ret e3
theorem f_run {σ : zS} (h : MI σ) : zP' (g_m_run σ) (fun _ s => frT3 σ s) := by
  obtain ⟨v, s, e, -, -, e3⟩ := m_run2 h
  rw [e]
  exact zP'.ret e3
theorem f_load {σ : zS} (h : MI σ) : zP' (g_m_load σ) (fun _ s => frT3 σ s) := by
  obtain ⟨v, s, e, -, -, e3⟩ := m_load2 h
  rw [e]
  exact zP'.ret e3
theorem f_image {σ : zS} : zP' (g_m_image σ) (fun _ s => (∀ a j, a ≠ 145 → a ≠ 148 → (a ≠ 143 ∨ j ≠ 6) → s a j = σ a j) ∧ (∀ j : Int, 0 ≤ j → j < 2740 → s 145 j = σ 144 j) ∧ (∀ j : Int, 0 ≤ j → j < 361 → s 148 j = σ 147 j) ∧ s 143 6 = 1) := by
  unfold g_m_image
  rw [s_keeps (a := 145) (b := 148) (by decide)]
  rw [Option.bind_some]
  try dsimp +instances only
  refine zP'.ret ⟨fun a j h1 h2 h3 => ?_, fun j h1 h2 => ?_, fun j h1 h2 => ?_, zu_e rfl⟩
  · try dsimp only
    rw [zu_c h3]
    unfold kpS
    rw [if_neg (fun e => h1 e.1), if_neg (fun e => h2 e.1)]
  · try dsimp only
    rw [zu_a (by decide)]
    unfold kpS
    rw [if_pos ⟨rfl, h1, h2⟩]
  · try dsimp only
    rw [zu_a (by decide)]
    unfold kpS
    rw [if_neg (fun e => absurd e.1 (by decide)), if_pos ⟨rfl, h1, h2⟩]
theorem f_undo {σ : zS} : zP' (g_m_undo σ) (fun _ s => (∀ a j, a ≠ 144 → a ≠ 147 → s a j = σ a j) ∧ (σ 143 6 ≠ 0 → (∀ j : Int, 0 ≤ j → j < 2740 → s 144 j = σ 145 j) ∧ ∀ j : Int, 0 ≤ j → j < 361 → s 147 j = σ 148 j) ∧ (σ 143 6 = 0 → s = σ)) := by
  unfold g_m_undo
  refine zP'.ite (fun c => ?_) (fun c => ?_)
  · rw [s_back (a := 145) (b := 148) (by decide)]
    rw [Option.bind_some]
    try dsimp +instances only
    refine zP'.ret ⟨fun a j h1 h2 => ?_, fun _ => ⟨fun j h1 h2 => ?_, fun j h1 h2 => ?_⟩, fun e => absurd e c⟩
    · show bkS σ 145 148 a j = _
      unfold bkS
      rw [if_neg (fun e => h1 e.1), if_neg (fun e => h2 e.1)]
    · show bkS σ 145 148 144 j = _
      unfold bkS
      rw [if_pos ⟨rfl, h1, h2⟩]
    · show bkS σ 145 148 147 j = _
      unfold bkS
      rw [if_neg (fun e => absurd e.1 (by decide)), if_pos ⟨rfl, h1, h2⟩]
  · have c : σ 143 6 = 0 := Classical.byContradiction (fun h => c h)
    exact zP'.ret ⟨fun _ _ _ _ => rfl, fun e => absurd c e, fun _ => rfl⟩
theorem w8_id {x : Int} (h1 : -128 ≤ x) (h2 : x < 128) : w8 x = x := by
  unfold w8 Int.bmod
  simp only [Nat.reducePow]
  split <;> omega
def fedS (σ : zS) (a b : Nat) (i x : Int) : zS := zu (zu σ a (σ b i) x) b i (σ b i + 1)
theorem p_feedF {x : Int} {σ : zS} (h : 0 ≤ σ 120 1 ∧ σ 120 1 ≤ 160) : zP' (g_c_feed x σ) (fun _ s => ((1 ≤ x ∧ x ≤ 127) ∧ σ 120 1 < 160 → s = fedS σ 121 120 1 x) ∧ (¬ ((1 ≤ x ∧ x ≤ 127) ∧ σ 120 1 < 160) → s = σ)) := by
  unfold g_c_feed
  refine zP'.ite (fun c => zP'.ret ⟨fun k => by omega, fun _ => rfl⟩) (fun c => ?_)
  refine zP'.ite (fun c2 => ?_) (fun c2 => zP'.ret ⟨fun k => by omega, fun _ => rfl⟩)
  unfold g_ta_append
  by_cases c3 : σ 120 1 < 160
  · simp only []
    rw [if_pos c3, if_pos (by omega), w8_id (x := x) (by omega) (by omega), w8_id (x := x) (by omega) (by omega)]
    rw [Option.bind_some]
    try dsimp +instances only
    rw [if_neg (by decide), show zu σ 121 (σ 120 1) x 120 1 = σ 120 1 from zu_a (by decide), w32_id (x := σ 120 1 + 1) (by omega) (by omega)]
    exact zP'.ret ⟨fun _ => rfl, fun k => absurd ⟨⟨by omega, c2⟩, c3⟩ k⟩
  · simp only []
    rw [if_neg c3]
    rw [Option.bind_some]
    try dsimp +instances only
    rw [if_pos rfl]
    exact zP'.ret ⟨fun k => absurd k.2 c3, fun _ => rfl⟩
theorem t_feedF {x : Int} {σ : zS} (h : 0 ≤ σ 143 20 ∧ σ 143 20 ≤ 160) : zP' (g_m_feed x σ) (fun _ s => ((1 ≤ x ∧ x ≤ 127) ∧ σ 143 20 < 160 → s = fedS σ 159 143 20 x) ∧ (¬ ((1 ≤ x ∧ x ≤ 127) ∧ σ 143 20 < 160) → s = σ)) := by
  unfold g_m_feed
  by_cases c : 1 ≤ x ∧ x ≤ 127
  · rw [s_isIn_t c.1 c.2]
    rw [Option.bind_some]
    try dsimp +instances only
    rw [if_pos (by decide)]
    refine zP'.ite (fun c3 => ?_) (fun c3 => zP'.ret ⟨fun k => by omega, fun _ => rfl⟩)
    rw [if_pos (by omega), show zu σ 159 (σ 143 20) x 143 20 = σ 143 20 from zu_a (by decide), w32_id (x := σ 143 20 + 1) (by omega) (by omega)]
    exact zP'.ret ⟨fun _ => rfl, fun k => absurd ⟨c, by omega⟩ k⟩
  · rw [s_isIn_f (by omega)]
    rw [Option.bind_some]
    try dsimp +instances only
    rw [if_neg (by decide)]
    exact zP'.ret ⟨fun k => absurd k.1 c, fun _ => rfl⟩
theorem tt2 {P : zS → Prop} {c : Option (Int × zS)} {m : zS → Option (Int × zS)} (o : two c m (fun _ _ s => P s)) : two c m (fun _ _ s => P s ∧ True) := by
  obtain ⟨v, s1, e1, w, s2, e2, h⟩ := o
  exact ⟨v, s1, e1, w, s2, e2, h, trivial⟩
theorem ft2 {P : zS → Prop} {c : Option (Int × zS)} {m : zS → Option (Int × zS)} (o : two c m (fun _ _ s => P s ∧ True)) : two c m (fun _ _ s => P s) := by
  obtain ⟨v, s1, e1, w, s2, e2, h, -⟩ := o
  exact ⟨v, s1, e1, w, s2, e2, h⟩
