/-! WHAT THE REFERENCE'S CALLS LEAVE AS IT WAS, in full -/
theorem f_spell {σ : zS} (h : MI σ) : zP' (g_m_spell σ) (fun _ s => ∀ a j, a ≠ 163 → (a ≠ 143 ∨ j ≠ 29) → s a j = σ a j) := by
  obtain ⟨N, hN2, hN, -⟩ := h.1
  unfold g_m_spell
  try dsimp only
  have q29 : zu σ 143 29 0 143 29 = 0 := zu_e rfl
  obtain ⟨v, s, e1, e2⟩ := s_spell7 hN2 N 0 zK (zu σ 143 29 0) (by omega) (by show _ < 1000000; omega) (by rw [zu_a (by decide)]; exact hN) (by omega) (by omega)
  exact zP'.of ⟨v, s, e1, fun a j k1 k2 => by rw [e2.1 a j (by omega) (by omega), zu_c (by omega)]⟩
theorem f_explain {x0 x1 y0 y1 : Int} {σ : zS} (h : MI σ) : zP' (g_m_explain x0 x1 y0 y1 σ) (fun _ s => ∀ a j, a ≠ 163 → (a ≠ 143 ∨ (j ≠ 10 ∧ j ≠ 29)) → a ≠ 150 → a ≠ 151 → a ≠ 152 → a ≠ 153 → s a j = σ a j) := by
  unfold g_m_explain
  by_cases c : bOk (x0, x1, y0, y1)
  · rw [s_isBox_t c]
    rw [Option.bind_some]
    try dsimp only
    rw [if_pos (by decide), s_sets (by omega) (by rw [l152]; omega) (by rw [l152]; omega)]
    rw [Option.bind_some]
    try dsimp only
    generalize hs0 : zb σ 152 0 (x0, x1, y0, y1) = s0'
    have q0 : ∀ a j, a ≠ 152 → s0' a j = σ a j := fun a j k1 => by rw [← hs0, zb_a k1]
    obtain ⟨s1, M, N, e1, e2, e3, e4, e5, e6⟩ := s_missM (σ := s0') c (by rw [← hs0]; exact zb_bx rfl) (NI_fr h.1 (fun j _ => q0 144 j (by decide)))
    rw [e1]
    rw [Option.bind_some]
    try dsimp only
    have q1 : ∀ a j, a ≠ 150 → a ≠ 151 → (a ≠ 143 ∨ j ≠ 10) → a ≠ 152 → s1 a j = σ a j := fun a j k1 k2 k3 k4 => (e2 a j k1 k2 k3).trans (q0 a j k4)
    have q29 : zu s1 143 29 0 143 29 = 0 := zu_e rfl
    obtain ⟨v, s', g1, g2⟩ := s_exp39 (M := M) (N := N) (by omega) e6 N 0 zK (zu s1 143 29 0) (by omega) (by show _ < 1000000; omega) (by rw [zu_a (by decide), e2 144 0 (by decide) (by decide) (by decide)]; exact e5) (by rw [zu_i (by decide)]; exact e3) (by omega) (by omega)
    exact zP'.of ⟨v, s', g1, fun a j k1 k2 k3 k4 k5 k6 => by rw [g2.1 a j (by omega) (by omega) (by omega), zu_c (by omega), q1 a j (by omega) (by omega) (by omega) (by omega)]⟩
  · rw [s_isBox_f c]
    rw [Option.bind_some]
    try dsimp only
    rw [if_neg (by decide)]
    exact zP'.ret (fun _ _ _ _ _ _ _ _ => rfl)
theorem f_probe {x0 x1 y0 y1 : Int} {σ : zS} (h : MI σ) : zP' (g_m_probe x0 x1 y0 y1 σ) (fun _ s => ∀ a j, a ≠ 165 → (a ≠ 143 ∨ (j ≠ 10 ∧ j ≠ 32)) → a ≠ 150 → a ≠ 151 → a ≠ 152 → s a j = σ a j) := by
  unfold g_m_probe
  by_cases c : bOk (x0, x1, y0, y1)
  · rw [s_isBox_t c]
    rw [Option.bind_some]
    try dsimp only
    rw [if_pos (by decide), s_sets (by omega) (by rw [l152]; omega) (by rw [l152]; omega)]
    rw [Option.bind_some]
    try dsimp only
    generalize hs0 : zb σ 152 0 (x0, x1, y0, y1) = s0'
    have q0 : ∀ a j, a ≠ 152 → s0' a j = σ a j := fun a j k1 => by rw [← hs0, zb_a k1]
    obtain ⟨s1, M, N, e1, e2, e3, e4, e5, e6⟩ := s_missM (σ := s0') c (by rw [← hs0]; exact zb_bx rfl) (NI_fr h.1 (fun j _ => q0 144 j (by decide)))
    rw [e1]
    rw [Option.bind_some]
    try dsimp only
    have q1 : ∀ a j, a ≠ 150 → a ≠ 151 → (a ≠ 143 ∨ j ≠ 10) → a ≠ 152 → s1 a j = σ a j := fun a j k1 k2 k3 k4 => (e2 a j k1 k2 k3).trans (q0 a j k4)
    obtain ⟨v, s', g1, g2, g3⟩ := s_probe39 (M := M) (N := N) (by omega) e6 N 0 zK (zu s1 143 32 0) 0 (by omega) (by show _ < 1000000; omega) (by rw [zu_a (by decide), e2 144 0 (by decide) (by decide) (by decide)]; exact e5) (by rw [zu_i (by decide)]; exact e3) (zu_e rfl) (by omega)
    exact zP'.of ⟨v, s', g1, fun a j k1 k2 k3 k4 k5 => by rw [g3 a j (by omega) (by omega), zu_c (by omega), q1 a j (by omega) (by omega) (by omega) (by omega)]⟩
  · rw [s_isBox_f c]
    rw [Option.bind_some]
    try dsimp only
    rw [if_neg (by decide)]
    exact zP'.ret (fun _ _ _ _ _ _ _ => rfl)
theorem f_query {x x0 x1 y0 y1 : Int} {σ : zS} (h : MI σ) : zP' (g_m_query x x0 x1 y0 y1 σ) (fun _ s => ∀ a j, a ≠ 152 → (a ≠ 144 ∨ (9 ≤ j ∧ j < 200) ∨ (260 ≤ j ∧ j < 340)) → (a ≠ 147 ∨ (1 ≤ j ∧ j < 61)) → a ≠ 150 → a ≠ 151 → a ≠ 153 → a ≠ 154 → a ≠ 155 → (a ≠ 143 ∨ (j ≠ 10 ∧ j ≠ 14 ∧ j ≠ 15 ∧ j ≠ 21 ∧ j ≠ 22 ∧ j ≠ 23)) → s a j = σ a j) := by
  obtain ⟨v, s, e1, -, -, e4⟩ := s_query (x := x) (x0 := x0) (x1 := x1) (y0 := y0) (y1 := y1) h.2.1 h.1
  rw [e1]
  exact zP'.ret e4
theorem f_flush {σ : zS} : zP' (g_m_flush σ) (fun _ s => ∀ a j, (a ≠ 144 ∨ j ≠ 0) → s a j = σ a j) := zP'.ret (fun a j k => zu_c k)
theorem f_again {x y : Int} {σ : zS} (h : MI σ) : zP' (g_m_again x y σ) (fun _ s => ∀ a j, (a ≠ 144 ∨ (0 ≤ j ∧ j < 2740)) → (a ≠ 147 ∨ (0 ≤ j ∧ j < 361)) → a ≠ 146 → a ≠ 149 → a ≠ 150 → a ≠ 151 → a ≠ 152 → a ≠ 153 → (a ≠ 143 ∨ j ≠ 10) → s a j = σ a j) := by
  obtain ⟨v, s, e, e1, e2, e3⟩ := s_again (x := x) (y := y) h.2.1
  rw [e]
  refine zP'.ret (fun a j k1 k2 k3 k4 k5 k6 k7 k8 k9 => ?_)
  by_cases c4 : a = 144
  · subst c4
    have hj := k1.resolve_left (fun h => h rfl)
    exact e1 j hj.1 hj.2
  · by_cases c7 : a = 147
    · subst c7
      have hj := k2.resolve_left (fun h => h rfl)
      exact e2 j hj.1 hj.2
    · exact e3 a j c4 c7 k3 k4 k5 k6 k7 k8 k9
theorem f_least {x : Int} {σ : zS} (h : MI σ) : zP' (g_m_least x σ) (fun _ s => ∀ a j, (a ≠ 144 ∨ (0 ≤ j ∧ j < 2740)) → (a ≠ 147 ∨ (0 ≤ j ∧ j < 361)) → a ≠ 146 → a ≠ 149 → a ≠ 150 → a ≠ 151 → a ≠ 152 → a ≠ 153 → (a ≠ 143 ∨ j ≠ 10) → s a j = σ a j) := by
  obtain ⟨v, s, e, e1, e2, e3⟩ := s_least (x := x) h.2.1
  rw [e]
  refine zP'.ret (fun a j k1 k2 k3 k4 k5 k6 k7 k8 k9 => ?_)
  by_cases c4 : a = 144
  · subst c4
    have hj := k1.resolve_left (fun h => h rfl)
    exact e1 j hj.1 hj.2
  · by_cases c7 : a = 147
    · subst c7
      have hj := k2.resolve_left (fun h => h rfl)
      exact e2 j hj.1 hj.2
    · exact e3 a j c4 c7 k3 k4 k5 k6 k7 k8 k9
theorem f_value {x : Int} {σ : zS} (h : MI σ) : zP' (g_m_value x σ) (fun _ s => frG σ s) := by
  obtain ⟨v, s, e, e1⟩ := s_value (k := x) h.2.1.2.2.2.2.1
  rw [e]
  exact zP'.ret e1
theorem f_put {r x y v : Int} {σ : zS} (h : MI σ) : zP' (g_m_put r x y v σ) (fun _ s => frP σ s) := by
  obtain ⟨c, s, e, -, -, e1⟩ := s_put (r := r) (x := x) (y := y) (v := v) h.2.1 h.1
  rw [e]
  exact zP'.ret e1
theorem f_take {r : Int} {σ : zS} (h : MI σ) : zP' (g_m_take r σ) (fun _ s => frP σ s) := by
  obtain ⟨c, s, e, -, -, e1⟩ := s_take (r := r) h.2.1 h.1
  rw [e]
  exact zP'.ret e1
theorem f_clear {σ : zS} (h : MI σ) : zP' (g_m_clear σ) (fun _ s => ∀ a j, (a ≠ 143 ∨ j ≠ 20) → s a j = σ a j) := by
  obtain ⟨s, e, -, -, e3⟩ := m_clear h
  rw [e]
  exact zP'.ret (fun a j k => e3 a j (by omega))
theorem f_feed {x : Int} {σ : zS} (h : MI σ) : zP' (g_m_feed x σ) (fun _ s => ∀ a j, a ≠ 159 → (a ≠ 143 ∨ j ≠ 20) → s a j = σ a j) := by
  obtain ⟨s, e, -, -, e3⟩ := m_feed (x := x) h
  rw [e]
  exact zP'.ret (fun a j k1 k2 => e3 a j k1 (by omega))
theorem f_list {l x : Int} {σ : zS} (h : MI σ) : zP' (g_m_list l x σ) (fun _ s => ∀ a j, a ≠ 166 → a ≠ 167 → s a j = σ a j) := by
  obtain ⟨s, e, -, e3, -⟩ := m_list (l := l) (x := x) h
  rw [e]
  exact zP'.ret (fun a j k1 k2 => e3 a j (by omega))
theorem f_set {l i v : Int} {σ : zS} (h : MI σ) : zP' (g_m_set l i v σ) (fun _ s => ∀ a j, a ≠ 167 → s a j = σ a j) := by
  obtain ⟨s, e, -, e3⟩ := m_set (l := l) (i := i) (v := v) h
  rw [e]
  exact zP'.ret e3
theorem f_move {l i o j0 x : Int} {σ : zS} (hi : i < 2147483648) (hj : j0 < 2147483648) (h : MI σ) : zP' (g_m_move l i o j0 x σ) (fun _ s => ∀ a j, a ≠ 167 → s a j = σ a j) := by
  obtain ⟨s, e, -, e3⟩ := m_move (l := l) (o := o) (x := x) h hi hj
  rw [e]
  exact zP'.ret e3
theorem f_lay {l i : Int} {σ : zS} (hi : -2147483648 ≤ i ∧ i < 2147483648) (h : MI σ) : zP' (g_m_lay l i σ) (fun _ s => ∀ a j, a ≠ 167 → s a j = σ a j) := by
  obtain ⟨v, s, e, -, e3⟩ := m_lay (l := l) h hi
  rw [e]
  exact zP'.ret e3
