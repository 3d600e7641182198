/-! THE REFERENCE over the typed memory: lay, judge, feed, clear, image, undo, rows in and out, queries, what is told -/
/-- a call that leaves the tape's length, the lists and all that is not the reference's as it was -/
def frC (σ s : zS) : Prop := ∀ a j, (a < 143 ∨ 168 ≤ a ∨ a = 159 ∨ a = 166 ∨ a = 167 ∨ (a = 143 ∧ j = 20)) → s a j = σ a j
theorem frC.refl (σ : zS) : frC σ σ := fun _ _ _ => rfl
theorem frC.trans {σ s t : zS} (h1 : frC σ s) (h2 : frC s t) : frC σ t := fun a j k => (h2 a j k).trans (h1 a j k)
theorem MI_sam {σ : zS} (h : MI σ) (c : Int) : ∃ v s, (some (c, σ) : Option (Int × zS)) = some (v, s) ∧ MI s ∧ frC σ s := ⟨c, σ, rfl, h, frC.refl σ⟩
theorem MI_q {σ s : zS} (h : MI σ) (hN : NI s) (hH : HI s) (q : ∀ a j, (a = 166 ∨ a = 145 ∨ (a = 143 ∧ (j = 6 ∨ j = 20 ∨ j = 27 ∨ j = 29 ∨ j = 32))) → s a j = σ a j) : MI s :=
  ⟨hN, hH, XI_fr h.2.2.1 (fun j hj => q 143 j (by omega)) (fun j => q 166 j (by omega)), II_fr h.2.2.2 (q 143 6 (by omega)) (fun j => q 145 j (by omega))⟩
theorem m_lay {l i : Int} {σ : zS} (h : MI σ) (hi : -2147483648 ≤ i ∧ i < 2147483648) : ∃ c s, g_m_lay l i σ = some (c, s) ∧ MI s ∧ frL σ s := by
  unfold g_m_lay
  rw [m_wrong]
  rw [Option.bind_some]
  try dsimp only
  by_cases c : 0 ≤ l ∧ l < 6
  · have hlen := h.2.2.1.len c
    rw [if_pos c]
    by_cases c1 : 0 ≤ σ 166 l
    · rw [if_pos c1, if_pos rfl]
      have h8 := h.2.1.2.2.1
      obtain ⟨v, s', e1, e2⟩ := m_lay15 c hi (σ 144 8).toNat 0 zK σ (by omega) (by show _ < 1000000; omega) h8.2 hlen
      exact ⟨v, s', e1, MI_144 h (fun a j hh => e2 a j (by omega)), fun a j hh => e2 a j (by omega)⟩
    · rw [if_neg c1, if_neg (by decide)]; exact ⟨_, σ, rfl, h, frL.refl σ⟩
  · rw [if_neg c, if_neg (by decide)]; exact ⟨_, σ, rfl, h, frL.refl σ⟩
theorem m_judge15 {l i : Int} {σ : zS} (hl : 0 ≤ l ∧ l < 6) (hi : -2147483648 ≤ i ∧ i < 2147483648) (h8 : σ 144 8 ≤ 60) (hlen : -1 ≤ σ 166 l ∧ σ 166 l ≤ 60) : ∀ (d k n : Nat), (k : Int) + d = σ 144 8 → d < n → ∃ c, g_m_judge_L15 n l i (k : Int) σ = some (c, σ)
  | _, _, 0, _, h => absurd h (Nat.not_lt_zero _)
  | 0, k, n + 1, hk, _ => by
    refine ⟨-5, ?_⟩
    unfold g_m_judge_L15
    show (if σ 144 8 ≤ (k : Int) then _ else _) = _
    rw [if_pos (by omega)]
  | d + 1, k, n + 1, hk, hn => by
    unfold g_m_judge_L15
    show ∃ c, (if σ 144 8 ≤ (k : Int) then _ else _) = _
    rw [if_neg (by omega)]
    by_cases c1 : i < 0
    · rw [if_pos c1]; exact ⟨_, rfl⟩
    · rw [if_neg c1, if_pos hl]
      dsimp only
      rw [w32_id (x := σ 166 l - i) (by omega) (by omega)]
      by_cases c2 : (k : Int) < σ 166 l - i
      · rw [if_pos c2, w32_id (x := 60 * l) (by omega) (by omega), w32_id (x := 60 * l + i) (by omega) (by omega), w32_id (x := 60 * l + i + (k : Int)) (by omega) (by omega), if_pos (by omega), w32_id (x := 61 + (k : Int)) (by omega) (by omega), if_pos (by omega), w32_id (x := (k : Int) + 1) (by omega) (by omega)]
        obtain ⟨c, e1⟩ := m_judge15 hl hi h8 hlen d (k + 1) n (by omega) (by omega)
        rw [show ((k + 1 : Nat) : Int) = (k : Int) + 1 by omega] at e1
        split
        · exact ⟨c, e1⟩
        · exact ⟨_, rfl⟩
      · rw [if_neg c2]; exact ⟨_, rfl⟩
theorem m_judge {l i : Int} {σ : zS} (h : MI σ) (hi : -2147483648 ≤ i ∧ i < 2147483648) : ∃ c, g_m_judge l i σ = some (c, σ) := by
  unfold g_m_judge
  rw [m_wrong]
  rw [Option.bind_some]
  try dsimp only
  by_cases c : 0 ≤ l ∧ l < 6
  · have hlen := h.2.2.1.len c
    rw [if_pos c]
    by_cases c1 : 0 ≤ σ 166 l
    · rw [if_pos c1, if_pos rfl]
      have h8 := h.2.1.2.2.1
      exact m_judge15 c hi h8.2 hlen (σ 144 8).toNat 0 zK (by omega) (by show _ < 1000000; omega)
    · rw [if_neg c1, if_neg (by decide)]; exact ⟨_, rfl⟩
  · rw [if_neg c, if_neg (by decide)]; exact ⟨_, rfl⟩
/-- what feed() answers of a tape of that length -/
def feedA (n x : Int) : Int := if 1 ≤ x ∧ x ≤ 127 then (if n ≠ 160 then n + 1 else -4) else -2
def feedN (n x : Int) : Int := if 1 ≤ x ∧ x ≤ 127 then (if n ≠ 160 then n + 1 else n) else n
theorem m_feed {x : Int} {σ : zS} (h : MI σ) : ∃ s, g_m_feed x σ = some (feedA (σ 143 20) x, s) ∧ MI s ∧ s 143 20 = feedN (σ 143 20) x ∧ ∀ a j, a ≠ 159 → ¬ (a = 143 ∧ j = 20) → s a j = σ a j := by
  unfold g_m_feed feedA feedN
  have h20 := h.2.2.1.1
  by_cases c : 1 ≤ x ∧ x ≤ 127
  · rw [s_isIn_t c.1 c.2]
    rw [Option.bind_some]
    try dsimp only
    rw [if_pos (by decide), if_pos c, if_pos c]
    by_cases c1 : σ 143 20 ≠ 160
    · rw [if_pos c1, if_pos c1, if_pos c1, if_pos (by omega)]
      have q : zu σ 159 (σ 143 20) x 143 20 = σ 143 20 := zu_a (by decide)
      rw [q, w32_id (x := σ 143 20 + 1) (by omega) (by omega), zu_e (σ := zu σ 159 (σ 143 20) x) (a := 143) (i := 20) (j := 20) rfl]
      have q2 : ∀ a j, a ≠ 159 → ¬ (a = 143 ∧ j = 20) → zu (zu σ 159 (σ 143 20) x) 143 20 (σ 143 20 + 1) a j = σ a j := fun a j h1 h2 => by rw [zu_c (by omega), zu_a h1]
      refine ⟨_, rfl, ⟨NI_fr h.1 (fun j _ => q2 144 j (by omega) (by omega)), HI_fr8 h.2.1 (fun j _ _ => q2 144 j (by omega) (by omega)), ?_, II_fr h.2.2.2 (q2 143 6 (by omega) (by omega)) (fun j => q2 145 j (by omega) (by omega))⟩, zu_e rfl, q2⟩
      obtain ⟨x1, x2, x3, x4, x5⟩ := h.2.2.1
      refine ⟨by rw [zu_e rfl]; omega, by rw [q2 143 27 (by omega) (by omega)]; exact x2, by rw [q2 143 29 (by omega) (by omega)]; exact x3, by rw [q2 143 32 (by omega) (by omega)]; exact x4, fun k hk => ?_⟩
      rw [q2 166 _ (by omega) (by omega)]
      exact x5 k hk
    · rw [if_neg c1, if_neg c1, if_neg c1]
      exact ⟨σ, rfl, h, rfl, fun _ _ _ _ => rfl⟩
  · rw [s_isIn_f (by omega)]
    rw [Option.bind_some]
    try dsimp only
    rw [if_neg (by decide), if_neg c, if_neg c]
    exact ⟨σ, rfl, h, rfl, fun _ _ _ _ => rfl⟩
theorem m_clear {σ : zS} (h : MI σ) : ∃ s, g_m_clear σ = some (σ 143 20, s) ∧ MI s ∧ s 143 20 = 0 ∧ ∀ a j, ¬ (a = 143 ∧ j = 20) → s a j = σ a j := by
  have q2 : ∀ a j, ¬ (a = 143 ∧ j = 20) → zu σ 143 20 0 a j = σ a j := fun a j h2 => zu_c (by omega)
  refine ⟨zu σ 143 20 0, rfl, ⟨NI_fr h.1 (fun j _ => q2 144 j (by omega)), HI_fr8 h.2.1 (fun j _ _ => q2 144 j (by omega)), ?_, II_fr h.2.2.2 (q2 143 6 (by omega)) (fun j => q2 145 j (by omega))⟩, zu_e rfl, q2⟩
  obtain ⟨x1, x2, x3, x4, x5⟩ := h.2.2.1
  refine ⟨by rw [zu_e rfl]; omega, by rw [q2 143 27 (by omega)]; exact x2, by rw [q2 143 29 (by omega)]; exact x3, by rw [q2 143 32 (by omega)]; exact x4, fun k hk => ?_⟩
  rw [q2 166 _ (by omega)]
  exact x5 k hk
theorem m_image {σ : zS} (h : MI σ) : ∃ v s, g_m_image σ = some (v, s) ∧ MI s ∧ frC σ s := by
  unfold g_m_image
  rw [s_keeps (a := 145) (b := 148) (by decide)]
  rw [Option.bind_some]
  try dsimp only
  have q : ∀ a j, a ≠ 145 → a ≠ 148 → ¬ (a = 143 ∧ j = 6) → zu (kpS σ 145 148) 143 6 1 a j = σ a j := fun a j h1 h2 h3 => by
    rw [zu_c (by omega)]
    unfold kpS
    rw [if_neg (fun e => h1 e.1), if_neg (fun e => h2 e.1)]
  have q5 : ∀ j : Int, 0 ≤ j → j < 2740 → zu (kpS σ 145 148) 143 6 1 145 j = σ 144 j := fun j h1 h2 => by
    rw [zu_a (by decide)]
    unfold kpS
    rw [if_pos ⟨rfl, h1, h2⟩]
  refine ⟨_, _, rfl, ⟨NI_fr h.1 (fun j _ => q 144 j (by omega) (by omega) (by omega)), HI_fr8 h.2.1 (fun j _ _ => q 144 j (by omega) (by omega) (by omega)), XI_fr h.2.2.1 (fun j hj => q 143 j (by omega) (by omega) (by omega)) (fun j => q 166 j (by omega) (by omega) (by omega)), fun _ => ⟨NI_fr h.1 (fun j hj => ?_), HI_fr8 h.2.1 (fun j h1 h2 => ?_)⟩⟩, fun a j hh => q a j (by omega) (by omega) (by omega)⟩
  · show zu (kpS σ 145 148) 143 6 1 145 j = _
    exact q5 j (by omega) (by omega)
  · show zu (kpS σ 145 148) 143 6 1 145 j = _
    exact q5 j (by omega) (by omega)
theorem m_undo {σ : zS} (h : MI σ) : ∃ v s, g_m_undo σ = some (v, s) ∧ MI s ∧ frC σ s := by
  unfold g_m_undo
  by_cases c : σ 143 6 ≠ 0
  · obtain ⟨i1, i2⟩ := h.2.2.2 c
    rw [if_pos c, s_back (a := 145) (b := 148) (by decide)]
    rw [Option.bind_some]
    try dsimp only
    have q : ∀ a j, a ≠ 144 → a ≠ 147 → bkS σ 145 148 a j = σ a j := fun a j h1 h2 => by
      unfold bkS
      rw [if_neg (fun e => h1 e.1), if_neg (fun e => h2 e.1)]
    have q4 : ∀ j : Int, 0 ≤ j → j < 2740 → bkS σ 145 148 144 j = imgS σ 144 j := fun j h1 h2 => by
      unfold bkS
      rw [if_pos ⟨rfl, h1, h2⟩]
      rfl
    exact ⟨_, _, rfl, MI_q h (NI_fr i1 (fun j hj => q4 j (by omega) (by omega))) (HI_fr8 i2 (fun j h1 h2 => q4 j (by omega) (by omega))) (fun a j hh => q a j (by omega) (by omega)), fun a j hh => q a j (by omega) (by omega)⟩
  · rw [if_neg c]; exact MI_sam h _
theorem m_query {x x0 x1 y0 y1 : Int} {σ : zS} (h : MI σ) : ∃ v s, g_m_query x x0 x1 y0 y1 σ = some (v, s) ∧ MI s ∧ frC σ s := by
  obtain ⟨v, s, e1, e2, e3, e4⟩ := s_query (x := x) (x0 := x0) (x1 := x1) (y0 := y0) (y1 := y1) h.2.1 h.1
  have q : ∀ a j, (a < 143 ∨ 168 ≤ a ∨ a = 159 ∨ a = 166 ∨ a = 167 ∨ a = 145 ∨ (a = 143 ∧ (j = 6 ∨ j = 20 ∨ j = 27 ∨ j = 29 ∨ j = 32))) → s a j = σ a j := fun a j hh => e4 a j (by omega) (by omega) (by omega) (by omega) (by omega) (by omega) (by omega) (by omega) (by omega)
  exact ⟨v, s, e1, MI_q h e2 e3 (fun a j hh => q a j (by omega)), fun a j hh => q a j (by omega)⟩
theorem m_put {k x y v : Int} {σ : zS} (h : MI σ) : ∃ c s, g_m_put k x y v σ = some (c, s) ∧ MI s ∧ frC σ s := by
  obtain ⟨c, s, e1, e2, e3, e4⟩ := s_put (r := k) (x := x) (y := y) (v := v) h.2.1 h.1
  have q : ∀ a j, (a < 143 ∨ 168 ≤ a ∨ a = 159 ∨ a = 166 ∨ a = 167 ∨ a = 145 ∨ (a = 143 ∧ (j = 6 ∨ j = 20 ∨ j = 27 ∨ j = 29 ∨ j = 32))) → s a j = σ a j := fun a j hh => e4 a j (by omega) (by omega) (by omega) (by omega) (by omega) (by omega) (by omega) (by omega) (by omega)
  exact ⟨c, s, e1, MI_q h e2 e3 (fun a j hh => q a j (by omega)), fun a j hh => q a j (by omega)⟩
theorem m_take {k : Int} {σ : zS} (h : MI σ) : ∃ c s, g_m_take k σ = some (c, s) ∧ MI s ∧ frC σ s := by
  obtain ⟨c, s, e1, e2, e3, e4⟩ := s_take (r := k) h.2.1 h.1
  have q : ∀ a j, (a < 143 ∨ 168 ≤ a ∨ a = 159 ∨ a = 166 ∨ a = 167 ∨ a = 145 ∨ (a = 143 ∧ (j = 6 ∨ j = 20 ∨ j = 27 ∨ j = 29 ∨ j = 32))) → s a j = σ a j := fun a j hh => e4 a j (by omega) (by omega) (by omega) (by omega) (by omega) (by omega) (by omega) (by omega) (by omega)
  exact ⟨c, s, e1, MI_q h e2 e3 (fun a j hh => q a j (by omega)), fun a j hh => q a j (by omega)⟩
theorem MI_in {σ s : zS} (h : MI σ) (e1 : sameIn σ s 144 144 2740) (e2 : frD σ s) : MI s ∧ frC σ s := by
  have q : ∀ a j, (a < 143 ∨ 168 ≤ a ∨ a = 159 ∨ a = 166 ∨ a = 167 ∨ a = 145 ∨ (a = 143 ∧ (j = 6 ∨ j = 20 ∨ j = 27 ∨ j = 29 ∨ j = 32))) → s a j = σ a j := fun a j hh => e2 a j (by omega) (by omega) (by omega) (by omega) (by omega) (by omega) (by omega) (by omega) (by omega)
  exact ⟨MI_q h (NI_in h.1 e1) (HI_in h.2.1 e1) (fun a j hh => q a j (by omega)), fun a j hh => q a j (by omega)⟩
theorem m_again {x y : Int} {σ : zS} (h : MI σ) : ∃ c s, g_m_again x y σ = some (c, s) ∧ MI s ∧ frC σ s := by
  obtain ⟨c, s, e1, e2, _, e4⟩ := s_again (x := x) (y := y) h.2.1
  exact ⟨c, s, e1, MI_in h e2 e4⟩
theorem m_least {x : Int} {σ : zS} (h : MI σ) : ∃ c s, g_m_least x σ = some (c, s) ∧ MI s ∧ frC σ s := by
  obtain ⟨c, s, e1, e2, _, e4⟩ := s_least (x := x) h.2.1
  exact ⟨c, s, e1, MI_in h e2 e4⟩
theorem m_row {x y : Int} {σ : zS} : ∃ c, g_m_row x y σ = some (c, σ) := by
  unfold g_m_row
  rw [s_isRow]
  rw [Option.bind_some]
  try dsimp only
  by_cases c : 0 ≤ x ∧ x < 60
  · rw [if_pos c, if_neg (by decide)]
    by_cases c1 : 0 ≤ y ∧ y ≤ 1
    · rw [s_isIn_t c1.1 c1.2]
      rw [Option.bind_some]
      try dsimp only
      rw [if_pos (by decide), s_rowAt (by omega) (by omega)]
      rw [Option.bind_some]
      try dsimp only
      rw [if_pos (by omega)]
      by_cases c2 : σ 144 (20 + 3 * x) ≠ 0
      · rw [if_pos c2, s_rowAt (by omega) (by omega), Option.bind_some]
        dsimp only
        rw [w32_id (x := 20 + 3 * x + 1) (by omega) (by omega), w32_id (x := 20 + 3 * x + 1 + y) (by omega) (by omega), if_pos (by omega)]
        exact ⟨_, rfl⟩
      · rw [if_neg c2]; exact ⟨_, rfl⟩
    · rw [s_isIn_f (by omega)]
      rw [Option.bind_some]
      try dsimp only
      rw [if_neg (by decide)]
      exact ⟨_, rfl⟩
  · rw [if_neg c, if_pos (by decide)]
    exact ⟨_, rfl⟩
theorem m_worth {x : Int} {σ : zS} : ∃ c, g_m_worth x σ = some (c, σ) := by
  unfold g_m_worth
  rw [s_isRow]
  rw [Option.bind_some]
  try dsimp only
  by_cases c : 0 ≤ x ∧ x < 60
  · rw [if_pos c, if_neg (by decide), s_rowAt (by omega) (by omega)]
    rw [Option.bind_some]
    try dsimp only
    rw [if_pos (by omega)]
    by_cases c2 : σ 144 (20 + 3 * x) ≠ 1
    · rw [if_pos c2]; exact ⟨_, rfl⟩
    · rw [if_neg c2, w32_id (x := 1 + x) (by omega) (by omega), if_pos (by omega)]
      exact ⟨_, rfl⟩
  · rw [if_neg c, if_pos (by decide)]
    exact ⟨_, rfl⟩
theorem m_find {x : Int} {σ : zS} (h : MI σ) : ∃ c, g_m_find x σ = some (c, σ) := by
  unfold g_m_find
  have h8 := h.2.1.2.2.1
  by_cases c : x ≠ -1
  · rw [if_pos c]
    dsimp only
    rw [w32_id (x := σ 144 8 - 1) (by omega) (by omega)]
    by_cases c1 : 0 ≤ x ∧ x ≤ σ 144 8 - 1
    · rw [s_isIn_t c1.1 c1.2]
      rw [Option.bind_some]
      try dsimp only
      rw [if_neg (by decide), w32_id (x := 200 + x) (by omega) (by omega), if_pos (by omega)]
      exact ⟨_, rfl⟩
    · rw [s_isIn_f (by omega)]
      rw [Option.bind_some]
      try dsimp only
      rw [if_pos (by decide)]
      exact ⟨_, rfl⟩
  · rw [if_neg c]; exact ⟨_, rfl⟩
theorem m_piece {x y : Int} {σ : zS} (h : MI σ) : ∃ c, g_m_piece x y σ = some (c, σ) := by
  unfold g_m_piece
  have h32 := h.2.2.1.2.2.2.1
  show ∃ c, (g_m_isIn x 0 (w32 (σ 143 32 - 1)) σ).bind _ = _
  rw [w32_id (x := σ 143 32 - 1) (by omega) (by omega)]
  by_cases c1 : 0 ≤ x ∧ x ≤ σ 143 32 - 1
  · rw [s_isIn_t c1.1 c1.2]
    rw [Option.bind_some]
    try dsimp only
    rw [if_neg (by decide)]
    by_cases c2 : 0 ≤ y ∧ y ≤ 4
    · rw [s_isIn_t c2.1 c2.2]
      rw [Option.bind_some]
      try dsimp only
      rw [if_neg (by decide), w32_id (x := 5 * x) (by omega) (by omega), w32_id (x := 5 * x + y) (by omega) (by omega), if_pos (by omega)]
      exact ⟨_, rfl⟩
    · rw [s_isIn_f (by omega)]
      rw [Option.bind_some]
      try dsimp only
      rw [if_pos (by decide)]
      exact ⟨_, rfl⟩
  · rw [s_isIn_f (by omega)]
    rw [Option.bind_some]
    try dsimp only
    rw [if_pos (by decide)]
    exact ⟨_, rfl⟩
theorem m_weight {x : Int} {σ : zS} (h : MI σ) : ∃ c, g_m_weight x σ = some (c, σ) := by
  obtain ⟨N, n1, n2, _⟩ := h.1
  unfold g_m_weight
  show ∃ c, (g_m_isIn x 0 (w32 (σ 144 0 - 1)) σ).bind _ = _
  rw [w32_id (x := σ 144 0 - 1) (by omega) (by omega)]
  by_cases c1 : 0 ≤ x ∧ x ≤ σ 144 0 - 1
  · rw [s_isIn_t c1.1 c1.2]
    rw [Option.bind_some]
    try dsimp only
    rw [if_neg (by decide), w32_id (x := 121 + x) (by omega) (by omega), if_pos (by omega)]
    exact ⟨_, rfl⟩
  · rw [s_isIn_f (by omega)]
    rw [Option.bind_some]
    try dsimp only
    rw [if_pos (by decide)]
    exact ⟨_, rfl⟩
theorem m_region {x y : Int} {σ : zS} (h : MI σ) : ∃ c, g_m_region_248 x y σ = some (c, σ) := by
  obtain ⟨N, n1, n2, _⟩ := h.1
  unfold g_m_region_248
  show ∃ c, (g_m_isIn x 0 (w32 (σ 144 0 - 1)) σ).bind _ = _
  rw [w32_id (x := σ 144 0 - 1) (by omega) (by omega)]
  by_cases c1 : 0 ≤ x ∧ x ≤ σ 144 0 - 1
  · rw [s_isIn_t c1.1 c1.2]
    rw [Option.bind_some]
    try dsimp only
    rw [if_neg (by decide)]
    by_cases c2 : 0 ≤ y ∧ y ≤ 11
    · rw [s_isIn_t c2.1 c2.2]
      rw [Option.bind_some]
      try dsimp only
      rw [if_pos (by decide), s_region (by omega) (by omega)]
      rw [Option.bind_some]
      try dsimp only
      by_cases c3 : 4 ≤ y
      · rw [if_pos c3]
        by_cases c4 : y ≠ 4
        · rw [if_pos c4]
          by_cases c5 : y ≠ 5
          · rw [if_pos c5]
            by_cases c6 : 10 ≤ y
            · rw [if_pos c6]
              by_cases c7 : y ≠ 10
              · rw [if_pos c7, s_cost (by omega) (by rw [l144]; omega) (by rw [l144]; omega)]
                exact ⟨_, rfl⟩
              · rw [if_neg c7, s_size (by omega) (by omega)]
                exact ⟨_, rfl⟩
            · rw [if_neg c6, w32_id (x := 340 + 10 * x + 4) (by omega) (by omega), w32_id (x := 340 + 10 * x + 4 + y) (by omega) (by omega), w32_id (x := 340 + 10 * x + 4 + y - 6) (by omega) (by omega), if_pos (by omega)]
              exact ⟨_, rfl⟩
          · rw [if_neg c5, w32_id (x := 340 + 10 * x + 9) (by omega) (by omega), if_pos (by omega)]
            exact ⟨_, rfl⟩
        · rw [if_neg c4, w32_id (x := 340 + 10 * x + 8) (by omega) (by omega), if_pos (by omega)]
          exact ⟨_, rfl⟩
      · rw [if_neg c3, w32_id (x := 340 + 10 * x + y) (by omega) (by omega), if_pos (by omega)]
        exact ⟨_, rfl⟩
    · rw [s_isIn_f (by omega)]
      rw [Option.bind_some]
      try dsimp only
      rw [if_neg (by decide)]
      exact ⟨_, rfl⟩
  · rw [s_isIn_f (by omega)]
    rw [Option.bind_some]
    try dsimp only
    rw [if_pos (by decide)]
    exact ⟨_, rfl⟩
theorem s_rows4 {σ : zS} : ∀ (d k n : Nat) (x : Int), k + d = 60 → d < n → ∃ c, g_m_rows_L4 n x (k : Int) σ = some (c, σ)
  | _, _, 0, _, _, h => absurd h (Nat.not_lt_zero _)
  | 0, k, n + 1, x, hk, _ => by
    unfold g_m_rows_L4
    rw [if_pos (by omega)]
    exact ⟨_, rfl⟩
  | d + 1, k, n + 1, x, hk, hn => by
    unfold g_m_rows_L4
    rw [if_neg (by omega), s_rowAt (by omega) (by omega)]
    rw [Option.bind_some]
    try dsimp only
    rw [if_pos (by omega), w32_id (x := (k : Int) + 1) (by omega) (by omega)]
    have e1 := s_rows4 (σ := σ) d (k + 1) n (w32 (x + σ 144 (20 + 3 * (k : Int)))) (by omega) (by omega)
    rw [show ((k + 1 : Nat) : Int) = (k : Int) + 1 by omega] at e1
    exact e1
theorem m_told {x : Int} {σ : zS} (h : MI σ) : ∃ c, g_m_told x σ = some (c, σ) := by
  obtain ⟨N, n1, n2, _⟩ := h.1
  unfold g_m_told
  by_cases c0 : x ≠ 0
  · rw [if_pos c0]
    by_cases c1 : x ≠ 1
    · rw [if_pos c1]
      by_cases c2 : 2 ≤ x ∧ x ≤ 7
      · rw [s_isIn_t c2.1 c2.2]
        rw [Option.bind_some]
        try dsimp only
        rw [if_neg (by decide), w32_id (x := 2 + x) (by omega) (by omega), w32_id (x := 2 + x - 2) (by omega) (by omega), if_pos (by omega)]
        exact ⟨_, rfl⟩
      · rw [s_isIn_f (by omega)]
        rw [Option.bind_some]
        try dsimp only
        rw [if_pos (by decide)]
        by_cases c8 : x ≠ 8
        · rw [if_pos c8]
          by_cases c9 : x ≠ 9
          · rw [if_pos c9]
            by_cases c10 : x ≠ 10
            · rw [if_pos c10]; exact ⟨_, rfl⟩
            · rw [if_neg c10]; exact ⟨_, rfl⟩
          · rw [if_neg c9]
            obtain ⟨c, e⟩ := s_rows4 (σ := σ) 60 0 zK 0 rfl (by show 60 < 1000000; omega)
            unfold g_m_rows
            rw [show ((0 : Nat) : Int) = 0 from rfl] at e
            rw [e]
            exact ⟨_, rfl⟩
        · rw [if_neg c8]; exact ⟨_, rfl⟩
    · rw [if_neg c1, s_sizes n2 (by omega)]
      exact ⟨_, rfl⟩
  · rw [if_neg c0]; exact ⟨_, rfl⟩
theorem m_flush {σ : zS} (h : MI σ) : ∃ v s, g_m_flush σ = some (v, s) ∧ MI s ∧ frC σ s := by
  refine ⟨_, _, rfl, MI_q h ⟨0, by omega, zu_e rfl, ⟨fun k hk => absurd hk (Nat.not_lt_zero _), fun k1 k2 _ hk => absurd hk (Nat.not_lt_zero _)⟩⟩ (HI_fr8 h.2.1 (fun j h1 _ => zu_i (by omega))) (fun a j hh => zu_a (by omega)), fun a j hh => zu_a (by omega)⟩
theorem m_trace {x0 x1 y0 y1 : Int} {σ : zS} (h : MI σ) : ∃ v s, g_m_trace x0 x1 y0 y1 σ = some (v, s) ∧ MI s ∧ frC σ s := by
  unfold g_m_trace
  have l := l144
  obtain ⟨h1, h2, h3, h4, h5, h6, h7⟩ := h.2.1
  by_cases c : x0 ≠ -1
  · rw [if_pos c]
    by_cases c2 : bOk (x0, x1, y0, y1)
    · rw [s_isBox_t c2]
      rw [Option.bind_some]
      try dsimp only
      rw [if_pos (by decide)]
      by_cases c3 : σ 144 9 ≠ 10
      · rw [if_pos c3, w32_id (x := 4 * σ 144 9) (by omega) (by omega), w32_id (x := 260 + 4 * σ 144 9) (by omega) (by omega), s_sets (by omega) (by omega) (by omega)]
        rw [Option.bind_some]
        try dsimp only
        have q9 : zb σ 144 (260 + 4 * σ 144 9) (x0, x1, y0, y1) 144 9 = σ 144 9 := zb_i (by omega)
        rw [q9, w32_id (x := σ 144 9 + 1) (by omega) (by omega)]
        have q : ∀ a j, (a ≠ 144 ∨ j < 9 ∨ (9 < j ∧ j < 260 + 4 * σ 144 9) ∨ 264 + 4 * σ 144 9 ≤ j) → zu (zb σ 144 (260 + 4 * σ 144 9) (x0, x1, y0, y1)) 144 9 (σ 144 9 + 1) a j = σ a j := fun a j hh => by
          rw [zu_c (by omega)]
          by_cases ca : a = 144
          · subst ca; exact zb_i (by omega)
          · exact zb_a ca
        refine ⟨_, _, rfl, MI_q h (NI_fr h.1 (fun j hj => q 144 j (by omega))) ?_ (fun a j hh => q a j (by omega)), fun a j hh => q a j (by omega)⟩
        refine ⟨by rw [q 144 12 (by omega)]; exact h1, by rw [q 144 13 (by omega)]; exact h2, by rw [q 144 8 (by omega)]; exact h3, by rw [zu_e rfl]; omega, by rw [q 144 10 (by omega)]; exact h5, fun t ht => ?_, fun r hr => ?_⟩
        · rw [zu_e rfl] at ht
          rw [zu_bxi (by omega)]
          by_cases ct : (t : Int) = σ 144 9
          · rw [ct, zb_bx rfl]; exact c2
          · rw [zb_bxi (by omega)]; exact h6 t (by omega)
        · rw [q 144 _ (by omega), q 144 _ (by omega)]
          exact h7 r hr
      · rw [if_neg c3]; exact MI_sam h _
    · rw [s_isBox_f c2]
      rw [Option.bind_some]
      try dsimp only
      rw [if_neg (by decide)]
      exact MI_sam h _
  · rw [if_neg c]
    have q : ∀ a j, (a ≠ 144 ∨ j ≠ 9) → zu σ 144 9 0 a j = σ a j := fun a j hh => zu_c hh
    refine ⟨_, _, rfl, MI_q h (NI_fr h.1 (fun j hj => q 144 j (by omega))) ?_ (fun a j hh => q a j (by omega)), fun a j hh => q a j (by omega)⟩
    refine ⟨by rw [q 144 12 (by omega)]; exact h1, by rw [q 144 13 (by omega)]; exact h2, by rw [q 144 8 (by omega)]; exact h3, by rw [zu_e rfl]; omega, by rw [q 144 10 (by omega)]; exact h5, fun t ht => ?_, fun r hr => ?_⟩
    · rw [zu_e rfl] at ht; omega
    · rw [q 144 _ (by omega), q 144 _ (by omega)]
      exact h7 r hr
theorem m_watch {x x0 x1 y0 y1 : Int} {σ : zS} (h : MI σ) : ∃ v s, g_m_watch x x0 x1 y0 y1 σ = some (v, s) ∧ MI s ∧ frC σ s := by
  unfold g_m_watch
  have l := l144
  obtain ⟨h1, h2, h3, h4, h5, h6, h7⟩ := h.2.1
  by_cases c : 0 ≤ x ∧ x ≤ 6
  · rw [s_isIn_t c.1 c.2]
    rw [Option.bind_some]
    try dsimp only
    rw [if_pos (by decide)]
    by_cases c2 : bOk (x0, x1, y0, y1)
    · rw [s_isBox_t c2]
      rw [Option.bind_some]
      try dsimp only
      rw [if_pos (by decide)]
      by_cases c3 : σ 144 10 ≠ 6
      · rw [if_pos c3, w32_id (x := 6 * σ 144 10) (by omega) (by omega), w32_id (x := 300 + 6 * σ 144 10) (by omega) (by omega), if_pos (by omega), w32_id (x := 300 + 6 * σ 144 10 + 1) (by omega) (by omega), w32_id (x := 300 + 6 * σ 144 10 + 5) (by omega) (by omega), s_sets (by omega) (by omega) (by omega)]
        rw [Option.bind_some]
        try dsimp only
        rw [if_pos (by omega)]
        generalize hs : zu (zb (zu σ 144 (300 + 6 * σ 144 10) x) 144 (300 + 6 * σ 144 10 + 1) (x0, x1, y0, y1)) 144 (300 + 6 * σ 144 10 + 5) 0 = s1
        have q : ∀ a j, (a ≠ 144 ∨ j < 300 ∨ 336 ≤ j) → s1 a j = σ a j := fun a j hh => by
          rw [← hs, zu_c (by omega)]
          by_cases ca : a = 144
          · subst ca
            rw [zb_i (by omega), zu_i (by omega)]
          · rw [zb_a ca, zu_a ca]
        have q10 : s1 144 10 = σ 144 10 := q 144 10 (by omega)
        rw [q10, w32_id (x := σ 144 10 + 1) (by omega) (by omega)]
        have q2 : ∀ a j, (a ≠ 144 ∨ (j < 300 ∧ j ≠ 10) ∨ 336 ≤ j) → zu s1 144 10 (σ 144 10 + 1) a j = σ a j := fun a j hh => by
          rw [zu_c (by omega)]
          exact q a j (by omega)
        refine ⟨_, _, rfl, MI_q h (NI_fr h.1 (fun j hj => q2 144 j (by omega))) ?_ (fun a j hh => q2 a j (by omega)), fun a j hh => q2 a j (by omega)⟩
        refine ⟨by rw [q2 144 12 (by omega)]; exact h1, by rw [q2 144 13 (by omega)]; exact h2, by rw [q2 144 8 (by omega)]; exact h3, by rw [q2 144 9 (by omega)]; exact h4, by rw [zu_e rfl]; omega, fun t ht => ?_, fun r hr => ?_⟩
        · rw [q2 144 9 (by omega)] at ht
          unfold bxA
          rw [q2 144 _ (by omega), q2 144 _ (by omega), q2 144 _ (by omega), q2 144 _ (by omega)]
          exact h6 t ht
        · rw [q2 144 _ (by omega), q2 144 _ (by omega)]
          exact h7 r hr
      · rw [if_neg c3]; exact MI_sam h _
    · rw [s_isBox_f c2]
      rw [Option.bind_some]
      try dsimp only
      rw [if_neg (by decide)]
      exact MI_sam h _
  · rw [s_isIn_f (by omega)]
    rw [Option.bind_some]
    try dsimp only
    rw [if_neg (by decide)]
    exact MI_sam h _
theorem m_changes {x : Int} {σ : zS} (h : MI σ) : ∃ c, g_m_changes x σ = some (c, σ) := by
  have h5 := h.2.1.2.2.2.2.1
  unfold g_m_changes
  rw [s_isWatch h5]
  rw [Option.bind_some]
  try dsimp only
  by_cases c : 0 ≤ x ∧ x < σ 144 10
  · rw [if_pos c, if_neg (by decide), w32_id (x := 6 * x) (by omega) (by omega), w32_id (x := 300 + 6 * x) (by omega) (by omega), w32_id (x := 300 + 6 * x + 5) (by omega) (by omega), if_pos (by omega)]
    exact ⟨_, rfl⟩
  · rw [if_neg c, if_pos rfl]
    exact ⟨_, rfl⟩
theorem m_value {x : Int} {σ : zS} (h : MI σ) : ∃ v s, g_m_value x σ = some (v, s) ∧ MI s ∧ frC σ s := by
  obtain ⟨v, s, e1, e2⟩ := s_value (k := x) h.2.1.2.2.2.2.1
  have q : ∀ a j, (a ≠ 143 ∨ (j ≠ 14 ∧ j ≠ 15 ∧ j ≠ 21 ∧ j ≠ 22 ∧ j ≠ 23)) → a ≠ 154 → a ≠ 155 → s a j = σ a j := e2
  exact ⟨v, s, e1, MI_q h (NI_fr h.1 (fun j _ => q 144 j (by omega) (by omega) (by omega))) (HI_fr8 h.2.1 (fun j _ _ => q 144 j (by omega) (by omega) (by omega))) (fun a j hh => q a j (by omega) (by omega) (by omega)), fun a j hh => q a j (by omega) (by omega) (by omega)⟩
