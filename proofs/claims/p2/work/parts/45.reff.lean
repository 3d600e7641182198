/-! THE REFERENCE over the typed memory: what holds between calls; the plain calls -/
def XI (σ : zS) : Prop := (0 ≤ σ 143 20 ∧ σ 143 20 ≤ 160) ∧ (0 ≤ σ 143 27 ∧ σ 143 27 ≤ 8) ∧ (0 ≤ σ 143 29 ∧ σ 143 29 ≤ 40000) ∧ (0 ≤ σ 143 32 ∧ σ 143 32 ≤ 600) ∧ (∀ k : Nat, k < 6 → -1 ≤ σ 166 (k : Int) ∧ σ 166 (k : Int) ≤ 60)
def imgS (σ : zS) : zS := fun a j => if a = 144 then σ 145 j else if a = 147 then σ 148 j else σ a j
def II (σ : zS) : Prop := σ 143 6 ≠ 0 → NI (imgS σ) ∧ HI (imgS σ)
def MI (σ : zS) : Prop := NI σ ∧ HI σ ∧ XI σ ∧ II σ
theorem XI_fr {σ s : zS} (h : XI σ) (e : ∀ j : Int, j = 20 ∨ j = 27 ∨ j = 29 ∨ j = 32 → s 143 j = σ 143 j) (e2 : ∀ j : Int, s 166 j = σ 166 j) : XI s := by
  unfold XI at *
  rw [e 20 (by omega), e 27 (by omega), e 29 (by omega), e 32 (by omega)]
  refine ⟨h.1, h.2.1, h.2.2.1, h.2.2.2.1, fun k hk => ?_⟩
  rw [e2]
  exact h.2.2.2.2 k hk
theorem II_fr {σ s : zS} (h : II σ) (e : s 143 6 = σ 143 6) (e2 : ∀ j : Int, s 145 j = σ 145 j) : II s := by
  intro h6
  rw [e] at h6
  obtain ⟨h1, h2⟩ := h h6
  have q : ∀ j, imgS s 144 j = imgS σ 144 j := fun j => by
    show s 145 j = σ 145 j
    exact e2 j
  exact ⟨NI_fr h1 (fun j _ => q j), HI_fr8 h2 (fun j _ _ => q j)⟩
/-- nothing but the lists is another -/
def frM2 (σ s : zS) : Prop := ∀ a j, a ≠ 166 ∧ a ≠ 167 → s a j = σ a j
/-- only the lists' contents are others -/
def frL (σ s : zS) : Prop := ∀ a j, a ≠ 167 → s a j = σ a j
theorem frL.m {σ s : zS} (h : frL σ s) : frM2 σ s := fun a j k => h a j k.2
theorem frL.refl (σ : zS) : frL σ σ := fun _ _ _ => rfl
theorem MI_same {σ : zS} (h : MI σ) (c : Int) : ∃ v s, (some (c, σ) : Option (Int × zS)) = some (v, s) ∧ MI s ∧ frM2 σ s := ⟨c, σ, rfl, h, fun _ _ _ => rfl⟩
/-- a call that changes but places that no invariant names -/
theorem MI_144 {σ s : zS} (h : MI σ) (e : ∀ a j, a = 144 ∨ a = 145 ∨ a = 166 ∨ (a = 143 ∧ (j = 6 ∨ j = 20 ∨ j = 27 ∨ j = 29 ∨ j = 32)) → s a j = σ a j) : MI s :=
  ⟨NI_fr h.1 (fun j _ => e 144 j (Or.inl rfl)), HI_fr8 h.2.1 (fun j _ _ => e 144 j (Or.inl rfl)), XI_fr h.2.2.1 (fun j hj => e 143 j (by omega)) (fun j => e 166 j (by omega)), II_fr h.2.2.2 (e 143 6 (by omega)) (fun j => e 145 j (by omega))⟩
theorem m_isList {l : Int} {σ : zS} : g_m_isList l σ = some (if 0 ≤ l ∧ l < 6 then 1 else 0, σ) := by
  unfold g_m_isList
  by_cases c : 0 ≤ l ∧ l < 6
  · rw [s_isIn_t c.1 (by omega), if_pos c]
    rw [Option.bind_some]
    try dsimp only
    rw [if_pos (Or.inr rfl)]
  · rw [s_isIn_f (by omega), if_neg c]
    rw [Option.bind_some]
    try dsimp only
    rw [if_pos (Or.inl rfl)]
theorem m_wrong {l : Int} {σ : zS} : g_m_wrong l σ = some (if 0 ≤ l ∧ l < 6 then (if 0 ≤ σ 166 l then 0 else -11) else -1, σ) := by
  unfold g_m_wrong
  rw [m_isList]
  rw [Option.bind_some]
  try dsimp only
  by_cases c : 0 ≤ l ∧ l < 6
  · rw [if_pos c, if_pos c, if_pos (by decide), if_pos c]
    show (if 0 ≤ σ 166 l then _ else _) = _
    by_cases c2 : 0 ≤ σ 166 l
    · rw [if_pos c2, if_pos c2]
    · rw [if_neg c2, if_neg c2]
  · rw [if_neg c, if_neg c, if_neg (by decide)]
    rw [if_neg c]
theorem XI.len {σ : zS} (h : XI σ) {l : Int} (hl : 0 ≤ l ∧ l < 6) : -1 ≤ σ 166 l ∧ σ 166 l ≤ 60 := by
  obtain ⟨k, rfl⟩ : ∃ k : Nat, l = (k : Int) := ⟨l.toNat, by omega⟩
  exact h.2.2.2.2 k (by omega)
theorem m_list34 {l : Int} (hl : 0 ≤ l ∧ l < 6) : ∀ (d k n : Nat) (s : zS), k + d = 60 → d < n → ∃ s', g_m_list_L34 n l (k : Int) s = some (1, s') ∧ ∀ a j, a ≠ 167 → s' a j = s a j
  | _, _, 0, _, _, h => absurd h (Nat.not_lt_zero _)
  | 0, k, n + 1, s, hk, _ => by
    refine ⟨s, ?_, fun _ _ _ => rfl⟩
    unfold g_m_list_L34
    rw [if_pos (by omega)]
  | d + 1, k, n + 1, s, hk, hn => by
    obtain ⟨s', e1, e2⟩ := m_list34 hl d (k + 1) n (zu s 167 (60 * l + (k : Int)) 0) (by omega) (by omega)
    refine ⟨s', ?_, fun a j h => (e2 a j h).trans (zu_a h)⟩
    unfold g_m_list_L34
    rw [if_neg (by omega), w32_id (x := 60 * l) (by omega) (by omega), w32_id (x := 60 * l + (k : Int)) (by omega) (by omega), if_pos (by omega), w32_id (x := (k : Int) + 1) (by omega) (by omega)]
    rw [show ((k + 1 : Nat) : Int) = (k : Int) + 1 by omega] at e1
    exact e1
/-- what list() answers -/
def listA (l n : Int) : Int := if 0 ≤ l ∧ l < 6 then (if n ≤ 60 then (if 0 ≤ n then 1 else -14) else -2) else -1
theorem m_list {l x : Int} {σ : zS} (h : MI σ) : ∃ s, g_m_list l x σ = some (listA l x, s) ∧ MI s ∧ frM2 σ s ∧ ∀ j, s 166 j = if (0 ≤ l ∧ l < 6 ∧ 0 ≤ x ∧ x ≤ 60) ∧ j = l then x else σ 166 j := by
  unfold g_m_list listA
  rw [m_isList]
  rw [Option.bind_some]
  try dsimp only
  by_cases c : 0 ≤ l ∧ l < 6
  · rw [if_pos c, if_pos c, if_pos (by decide)]
    by_cases c1 : x ≤ 60
    · rw [if_pos c1, if_pos c1]
      by_cases c2 : 0 ≤ x
      · rw [if_pos c2, if_pos c2, if_pos c]
        obtain ⟨s', e1, e2⟩ := m_list34 c 60 0 zK (zu σ 166 l x) (by omega) (by show _ < 1000000; omega)
        refine ⟨s', e1, ?_, fun a j hh => by rw [e2 a j (by omega), zu_a (by omega)], fun j => ?_⟩
        case refine_2 =>
          rw [e2 166 j (by decide)]
          by_cases ck : j = l
          · rw [zu_e ck, if_pos ⟨⟨c.1, c.2, c2, c1⟩, ck⟩]
          · rw [zu_i ck, if_neg (fun hh => ck hh.2)]
        have q : ∀ a j, a ≠ 167 → a ≠ 166 → s' a j = σ a j := fun a j h1 h2 => by rw [e2 a j h1, zu_a h2]
        refine ⟨NI_fr h.1 (fun j _ => q 144 j (by decide) (by decide)), HI_fr8 h.2.1 (fun j _ _ => q 144 j (by decide) (by decide)), ?_, II_fr h.2.2.2 (q 143 6 (by decide) (by decide)) (fun j => q 145 j (by decide) (by decide))⟩
        obtain ⟨x1, x2, x3, x4, x5⟩ := h.2.2.1
        refine ⟨by rw [q 143 20 (by decide) (by decide)]; exact x1, by rw [q 143 27 (by decide) (by decide)]; exact x2, by rw [q 143 29 (by decide) (by decide)]; exact x3, by rw [q 143 32 (by decide) (by decide)]; exact x4, fun k hk => ?_⟩
        rw [e2 166 _ (by decide)]
        by_cases ck : (k : Int) = l
        · rw [zu_e ck]; omega
        · rw [zu_i ck]; exact x5 k hk
      · rw [if_neg c2, if_neg c2]
        exact ⟨σ, by rw [if_pos c], h, fun _ _ _ => rfl, fun j => by rw [if_neg (fun hh => by omega)]⟩
    · rw [if_neg c1, if_neg c1]
      exact ⟨σ, by rw [if_pos c], h, fun _ _ _ => rfl, fun j => by rw [if_neg (fun hh => by omega)]⟩
  · rw [if_neg c, if_neg c, if_neg (by decide)]
    exact ⟨σ, by rw [if_neg c], h, fun _ _ _ => rfl, fun j => by rw [if_neg (fun hh => by omega)]⟩
/-- what set() answers, L being the list's length -/
def setA (L l i : Int) : Int := if 0 ≤ l ∧ l < 6 then (if 0 ≤ L then (if 0 ≤ i ∧ i ≤ L - 1 then 1 else -13) else -11) else -1
theorem m_set {l i v : Int} {σ : zS} (h : MI σ) : ∃ s, g_m_set l i v σ = some (setA (σ 166 l) l i, s) ∧ MI s ∧ frL σ s := by
  unfold g_m_set setA
  rw [m_wrong]
  rw [Option.bind_some]
  try dsimp only
  by_cases c : 0 ≤ l ∧ l < 6
  · have hlen := h.2.2.1.len c
    rw [if_pos c, if_pos c]
    by_cases c1 : 0 ≤ σ 166 l
    · rw [if_pos c1, if_pos c1, if_pos rfl, if_pos c, w32_id (x := σ 166 l - 1) (by omega) (by omega)]
      by_cases c2 : 0 ≤ i ∧ i ≤ σ 166 l - 1
      · rw [s_isIn_t c2.1 c2.2, if_pos c2]
        rw [Option.bind_some]
        try dsimp only
        rw [if_pos (by decide), w32_id (x := 60 * l) (by omega) (by omega), w32_id (x := 60 * l + i) (by omega) (by omega), if_pos (by omega)]
        exact ⟨_, rfl, MI_144 h (fun a j hh => zu_a (by omega)), fun a j hh => zu_a (by omega)⟩
      · rw [s_isIn_f (by omega), if_neg c2]
        rw [Option.bind_some]
        try dsimp only
        rw [if_neg (by decide)]
        exact ⟨σ, by first | rfl | (simp only [if_pos c]) | (simp only [if_neg c]) | (simp only [if_pos c']) | (simp only [if_neg c']), h, frL.refl σ⟩
    · rw [if_neg c1, if_neg c1, if_neg (by decide)]
      exact ⟨σ, by first | rfl | (simp only [if_pos c]) | (simp only [if_neg c]) | (simp only [if_pos c']) | (simp only [if_neg c']), h, frL.refl σ⟩
  · rw [if_neg c, if_neg c, if_neg (by decide)]
    exact ⟨σ, by first | rfl | (simp only [if_pos c]) | (simp only [if_neg c]) | (simp only [if_pos c']) | (simp only [if_neg c']), h, frL.refl σ⟩
theorem m_get {l i : Int} {σ : zS} (h : MI σ) : ∃ c, g_m_get l i σ = some (c, σ) := by
  unfold g_m_get
  rw [m_wrong]
  rw [Option.bind_some]
  try dsimp only
  by_cases c : 0 ≤ l ∧ l < 6
  · have hlen := h.2.2.1.len c
    rw [if_pos c]
    by_cases c1 : 0 ≤ σ 166 l
    · rw [if_pos c1, if_neg (by decide), if_pos c, w32_id (x := σ 166 l - 1) (by omega) (by omega)]
      by_cases c2 : 0 ≤ i ∧ i ≤ σ 166 l - 1
      · rw [s_isIn_t c2.1 c2.2]
        rw [Option.bind_some]
        try dsimp only
        rw [if_pos (by decide), w32_id (x := 60 * l) (by omega) (by omega), w32_id (x := 60 * l + i) (by omega) (by omega), if_pos (by omega)]
        exact ⟨_, rfl⟩
      · rw [s_isIn_f (by omega)]
        rw [Option.bind_some]
        try dsimp only
        rw [if_neg (by decide)]
        exact ⟨_, rfl⟩
    · rw [if_neg c1, if_pos (by decide)]
      exact ⟨_, rfl⟩
  · rw [if_neg c, if_pos (by decide)]
    exact ⟨_, rfl⟩
theorem m_move84 {l i o j0 x : Int} (hl : 0 ≤ l ∧ l < 6) (ho : 0 ≤ o ∧ o < 6) (hi : 0 ≤ i ∧ i + x ≤ 60) (hj : 0 ≤ j0 ∧ j0 + x ≤ 60) (hx : x ≤ 60) : ∀ (d k n : Nat) (s : zS), (x ≤ (k : Int) + d) → (k : Int) ≤ 60 → d < n → ∃ s', g_m_move_L84 n l i o j0 x (k : Int) s = some (x, s') ∧ ∀ a j, a ≠ 167 → s' a j = s a j
  | _, _, 0, _, _, _, h => absurd h (Nat.not_lt_zero _)
  | d, k, n + 1, s, hk, hk2, hn => by
    by_cases c : x ≤ (k : Int)
    · refine ⟨s, ?_, fun _ _ _ => rfl⟩
      unfold g_m_move_L84
      rw [if_pos c]
    · cases d with
      | zero => omega
      | succ d =>
        have go : ∀ t : Int, 0 ≤ t → t < x → ∃ s', g_m_move_L109 (g_m_move_L84 n) l i o j0 x (k : Int) t s = some (x, s') ∧ ∀ a j, a ≠ 167 → s' a j = s a j := by
          intro t t1 t2
          obtain ⟨s', e1, e2⟩ := m_move84 hl ho hi hj hx d (k + 1) n (zu s 167 (60 * o + j0 + t) (s 167 (60 * l + i + t))) (by omega) (by omega) (by omega)
          refine ⟨s', ?_, fun a j h => (e2 a j h).trans (zu_a h)⟩
          unfold g_m_move_L109
          rw [w32_id (x := 60 * l) (by omega) (by omega), w32_id (x := 60 * l + i) (by omega) (by omega), w32_id (x := 60 * l + i + t) (by omega) (by omega), w32_id (x := 60 * o) (by omega) (by omega), w32_id (x := 60 * o + j0) (by omega) (by omega), w32_id (x := 60 * o + j0 + t) (by omega) (by omega), if_pos (by omega), if_pos (by omega), w32_id (x := (k : Int) + 1) (by omega) (by omega)]
          rw [show ((k + 1 : Nat) : Int) = (k : Int) + 1 by omega] at e1
          exact e1
        unfold g_m_move_L84
        rw [if_neg c]
        split
        · rw [w32_id (x := x - 1) (by omega) (by omega), w32_id (x := x - 1 - (k : Int)) (by omega) (by omega)]
          exact go _ (by omega) (by omega)
        · exact go _ (by omega) (by omega)
/-- what move() answers, L and M being the lists' lengths -/
def moveA (L M l i o j x : Int) : Int := if 0 ≤ l ∧ l < 6 then (if 0 ≤ o ∧ o < 6 then (if L < 0 then -11 else if 0 ≤ M then (if x < 0 then -13 else if i < 0 then -13 else if j < 0 then -13 else if L - i < x then -13 else if x ≤ M - j then x else -13) else -11) else -1) else -1
theorem m_move {l i o j0 x : Int} {σ : zS} (h : MI σ) (hi : i < 2147483648) (hj : j0 < 2147483648) : ∃ s, g_m_move l i o j0 x σ = some (moveA (σ 166 l) (σ 166 o) l i o j0 x, s) ∧ MI s ∧ frL σ s := by
  unfold g_m_move moveA
  rw [m_isList]
  rw [Option.bind_some]
  try dsimp only
  by_cases c : 0 ≤ l ∧ l < 6
  · have hlen := h.2.2.1.len c
    rw [if_pos c, if_pos c, if_neg (by decide), m_isList]
    rw [Option.bind_some]
    try dsimp only
    by_cases c' : 0 ≤ o ∧ o < 6
    · have hlen' := h.2.2.1.len c'
      rw [if_pos c', if_pos c', if_pos (by decide), if_pos c]
      show ∃ s, (if σ 166 l < 0 then _ else _) = _ ∧ _
      by_cases c1 : σ 166 l < 0
      · rw [if_pos c1, if_pos c1]; exact ⟨σ, by first | rfl | (simp only [if_pos c]) | (simp only [if_neg c]) | (simp only [if_pos c']) | (simp only [if_neg c']), h, frL.refl σ⟩
      · rw [if_neg c1, if_neg c1, if_pos c']
        show ∃ s, (if 0 ≤ σ 166 o then _ else _) = _ ∧ _
        by_cases c2 : 0 ≤ σ 166 o
        · rw [if_pos c2, if_pos c2]
          by_cases c3 : x < 0
          · rw [if_pos c3, if_pos c3]; exact ⟨σ, by first | rfl | (simp only [if_pos c]) | (simp only [if_neg c]) | (simp only [if_pos c']) | (simp only [if_neg c']), h, frL.refl σ⟩
          · rw [if_neg c3, if_neg c3]
            by_cases c4 : i < 0
            · rw [if_pos c4, if_pos c4]; exact ⟨σ, by first | rfl | (simp only [if_pos c]) | (simp only [if_neg c]) | (simp only [if_pos c']) | (simp only [if_neg c']), h, frL.refl σ⟩
            · rw [if_neg c4, if_neg c4]
              by_cases c5 : j0 < 0
              · rw [if_pos c5, if_pos c5]; exact ⟨σ, by first | rfl | (simp only [if_pos c]) | (simp only [if_neg c]) | (simp only [if_pos c']) | (simp only [if_neg c']), h, frL.refl σ⟩
              · rw [if_neg c5, if_neg c5, if_pos c, w32_id (x := σ 166 l - i) (by omega) (by omega)]
                show ∃ s, (if σ 166 l - i < x then _ else _) = _ ∧ _
                by_cases c6 : σ 166 l - i < x
                · rw [if_pos c6, if_pos c6]; exact ⟨σ, by first | rfl | (simp only [if_pos c]) | (simp only [if_neg c]) | (simp only [if_pos c']) | (simp only [if_neg c']), h, frL.refl σ⟩
                · rw [if_neg c6, if_neg c6, if_pos c', w32_id (x := σ 166 o - j0) (by omega) (by omega)]
                  show ∃ s, (if x ≤ σ 166 o - j0 then _ else _) = _ ∧ _
                  by_cases c7 : x ≤ σ 166 o - j0
                  · rw [if_pos c7, if_pos c7]
                    obtain ⟨s', e1, e2⟩ := m_move84 (l := l) (i := i) (o := o) (j0 := j0) (x := x) c c' (by omega) (by omega) (by omega) 60 0 zK σ (by omega) (by omega) (by show _ < 1000000; omega)
                    exact ⟨s', e1, MI_144 h (fun a j hh => e2 a j (by omega)), fun a j hh => e2 a j (by omega)⟩
                  · rw [if_neg c7, if_neg c7]; exact ⟨σ, by first | rfl | (simp only [if_pos c]) | (simp only [if_neg c]) | (simp only [if_pos c']) | (simp only [if_neg c']), h, frL.refl σ⟩
        · rw [if_neg c2, if_neg c2]; exact ⟨σ, by first | rfl | (simp only [if_pos c]) | (simp only [if_neg c]) | (simp only [if_pos c']) | (simp only [if_neg c']), h, frL.refl σ⟩
    · rw [if_neg c', if_neg c', if_neg (by decide)]
      exact ⟨σ, by first | rfl | (simp only [if_pos c]) | (simp only [if_neg c]) | (simp only [if_pos c']) | (simp only [if_neg c']), h, frL.refl σ⟩
  · rw [if_neg c, if_neg c, if_pos rfl]
    exact ⟨σ, by first | rfl | (simp only [if_pos c]) | (simp only [if_neg c]) | (simp only [if_pos c']) | (simp only [if_neg c']), h, frL.refl σ⟩
theorem m_lay15 {l i : Int} (hl : 0 ≤ l ∧ l < 6) (hi : -2147483648 ≤ i ∧ i < 2147483648) : ∀ (d k n : Nat) (s : zS), (k : Int) + d = s 144 8 → d < n → s 144 8 ≤ 60 → -1 ≤ s 166 l ∧ s 166 l ≤ 60 → ∃ c s', g_m_lay_L15 n l i (k : Int) s = some (c, s') ∧ ∀ a j, a ≠ 167 → s' a j = s a j
  | _, _, 0, _, _, h, _, _ => absurd h (Nat.not_lt_zero _)
  | 0, k, n + 1, s, hk, _, _, _ => by
    refine ⟨s 144 8, s, ?_, fun _ _ _ => rfl⟩
    unfold g_m_lay_L15
    show (if s 144 8 ≤ (k : Int) then _ else _) = _
    rw [if_pos (by omega)]
  | d + 1, k, n + 1, s, hk, hn, h8, hlen => by
    unfold g_m_lay_L15
    show ∃ c s', (if s 144 8 ≤ (k : Int) then _ else _) = _ ∧ _
    rw [if_neg (by omega)]
    by_cases c1 : i < 0
    · rw [if_pos c1]; exact ⟨_, s, rfl, fun _ _ _ => rfl⟩
    · rw [if_neg c1, if_pos hl]
      dsimp only
      rw [w32_id (x := s 166 l - i) (by omega) (by omega)]
      by_cases c2 : (k : Int) < s 166 l - i
      · rw [if_pos c2, w32_id (x := 61 + (k : Int)) (by omega) (by omega), if_pos (by omega), w32_id (x := 60 * l) (by omega) (by omega), w32_id (x := 60 * l + i) (by omega) (by omega), w32_id (x := 60 * l + i + (k : Int)) (by omega) (by omega), if_pos (by omega), w32_id (x := (k : Int) + 1) (by omega) (by omega)]
        obtain ⟨c, s', e1, e2⟩ := m_lay15 hl hi d (k + 1) n (zu s 167 (60 * l + i + (k : Int)) (s 147 (61 + (k : Int)))) (by rw [zu_a (by decide)]; omega) (by omega) (by rw [zu_a (by decide)]; exact h8) (by rw [zu_a (by decide)]; exact hlen)
        rw [show ((k + 1 : Nat) : Int) = (k : Int) + 1 by omega] at e1
        exact ⟨c, s', e1, fun a j h => (e2 a j h).trans (zu_a h)⟩
      · rw [if_neg c2]; exact ⟨_, s, rfl, fun _ _ _ => rfl⟩
