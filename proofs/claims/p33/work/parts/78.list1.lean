/-! THE LISTS alike: the calls that touch them -/
theorem p_setF {l i v : Int} {σ : zS} (H : CI σ) : zP' (g_c_set l i v σ) (fun _ s => ((0 ≤ l ∧ l < 6) ∧ 0 ≤ i ∧ i < σ 142 l → s = zu σ (136 + l.toNat) i v) ∧ (¬ ((0 ≤ l ∧ l < 6) ∧ 0 ≤ i ∧ i < σ 142 l) → s = σ)) := by
  have hn := CI.cl (j := l) H
  unfold g_c_set
  rw [p_refusal]
  rw [Option.bind_some]
  try dsimp +instances only
  by_cases c : 0 ≤ l ∧ l < 6
  · rw [if_pos c]
    by_cases c1 : 0 ≤ σ 142 l
    · rw [if_pos c1, if_pos rfl, p_hasPlace c hn.2]
      rw [Option.bind_some]
      try dsimp +instances only
      by_cases c2 : 0 ≤ i ∧ i < σ 142 l
      · rw [if_pos c2, if_pos (show (1 : Int) ≠ 0 by decide), if_pos c, if_pos (show 0 ≤ i ∧ i < 60 by omega)]
        exact zP'.ret ⟨fun _ => rfl, fun h => absurd ⟨c, c2⟩ h⟩
      · rw [if_neg c2, if_neg (show ¬ (0 : Int) ≠ 0 by decide)]
        exact zP'.ret ⟨fun h => absurd h.2 c2, fun _ => rfl⟩
    · rw [if_neg c1, if_neg (by decide)]
      exact zP'.ret ⟨fun h => by omega, fun _ => rfl⟩
  · rw [if_neg c, if_neg (by decide)]
    exact zP'.ret ⟨fun h => absurd h.1 c, fun _ => rfl⟩
theorem t_setF {l i v : Int} {σ : zS} (h : MI σ) : zP' (g_m_set l i v σ) (fun _ s => ((0 ≤ l ∧ l < 6) ∧ 0 ≤ i ∧ i < σ 166 l → s = zu σ 167 (60 * l + i) v) ∧ (¬ ((0 ≤ l ∧ l < 6) ∧ 0 ≤ i ∧ i < σ 166 l) → s = σ)) := by
  unfold g_m_set
  rw [m_wrong]
  rw [Option.bind_some]
  try dsimp +instances only
  by_cases c : 0 ≤ l ∧ l < 6
  · have hlen := h.2.2.1.len c
    rw [if_pos c]
    by_cases c1 : 0 ≤ σ 166 l
    · rw [if_pos c1, if_pos rfl, if_pos c, w32_id (x := σ 166 l - 1) (by omega) (by omega)]
      by_cases c2 : 0 ≤ i ∧ i < σ 166 l
      · rw [s_isIn_t c2.1 (by omega)]
        rw [Option.bind_some]
        try dsimp +instances only
        rw [if_pos (show (1 : Int) ≠ 0 by decide), w32_id (x := 60 * l) (by omega) (by omega), w32_id (x := 60 * l + i) (by omega) (by omega), if_pos (by omega)]
        exact zP'.ret ⟨fun _ => rfl, fun h => absurd ⟨c, c2⟩ h⟩
      · rw [s_isIn_f (by omega)]
        rw [Option.bind_some]
        try dsimp +instances only
        rw [if_neg (show ¬ (0 : Int) ≠ 0 by decide)]
        exact zP'.ret ⟨fun h => absurd h.2 c2, fun _ => rfl⟩
    · rw [if_neg c1, if_neg (by decide)]
      exact zP'.ret ⟨fun h => by omega, fun _ => rfl⟩
  · rw [if_neg c, if_neg (by decide)]
    exact zP'.ret ⟨fun h => absurd h.1 c, fun _ => rfl⟩
theorem ql_set {a b c : Int} {σ : zS} (I : InvL σ) : two (g_c_set a b c σ) (g_m_set a b c) (fun v w s => InvL s ∧ v = w) := by
  obtain ⟨v, s1, e1, w, s2, e2, J, q⟩ := qa_set (a := a) (b := b) (c := c) I.1
  refine ⟨v, s1, e1, w, s2, e2, ⟨J, ?_⟩, q⟩
  have I0 : Inv σ := I.1.1.1.1.1.1
  obtain ⟨p1, p2⟩ := p_setF I0.1 v s1 e1
  obtain ⟨-, G1, -⟩ := zP'.of (g_c_set_sp I0.1) v s1 e1
  have ref : ∀ a j, 143 ≤ a → a < 168 → s1 a j = σ a j := fun a j k1 k2 => G1 a j (Or.inl ⟨k1, k2⟩)
  have M1 : MI s1 := MI_cls I0.2.1 ref
  obtain ⟨t1, t2⟩ := t_setF M1 w s2 e2
  rw [ref 166 a (by decide) (by decide)] at t1 t2
  by_cases cc : (0 ≤ a ∧ a < 6) ∧ 0 ≤ b ∧ b < σ 142 a
  · have el := I0.2.2.2 a cc.1.1 cc.1.2
    rw [t1 (by rw [← el]; exact cc), p1 cc]
    have hn := CI.cl (j := a) I0.1
    intro l hl j j6 hj
    rw [zu_a (by decide), zu_a (by omega)] at hj
    rw [zu_a (by omega)]
    have g := I.2 l hl j j6 hj
    by_cases k1 : (l : Int) = a
    · have ea : 136 + l = 136 + a.toNat := by omega
      rw [ea] at g ⊢
      by_cases k2 : (j : Int) = b
      · rw [zu_e k2, zu_e (by omega)]
      · rw [zu_i k2, zu_i (by omega), zu_a (by omega)]
        exact g
    · rw [zu_a (by omega), zu_i (by omega), zu_a (by omega)]
      exact g
  · have cn : ¬ ((0 ≤ a ∧ a < 6) ∧ 0 ≤ b ∧ b < σ 166 a) := fun h => cc (by rw [I0.2.2.2 a h.1.1 h.1.2]; exact h)
    rw [t2 cn, p2 cc]
    exact I.2
theorem p_make27 {l x : Int} (hl : 0 ≤ l ∧ l < 6) (hx : x ≤ 60) : ∀ (n k : Nat) (σ : zS), k ≤ 60 → zP' (g_li_make_L27 n l x (k : Int) σ) (fun _ s => (∀ a j, a ≠ 136 + l.toNat → s a j = σ a j) ∧ ∀ j, s (136 + l.toNat) j = if (k : Int) ≤ j ∧ j < x then 0 else σ (136 + l.toNat) j)
  | 0, _, _, _ => zP'.no
  | n + 1, k, σ, hk => by
    unfold g_li_make_L27
    by_cases c : x ≤ (k : Int)
    · rw [if_pos c]
      exact zP'.ret ⟨fun _ _ _ => rfl, fun j => by rw [if_neg (by omega)]⟩
    · rw [if_neg c, if_pos hl]
      try dsimp +instances only
      rw [if_pos (show 0 ≤ (k : Int) ∧ (k : Int) < 60 by omega), w32_id (x := (k : Int) + 1) (by omega) (by omega), show (k : Int) + 1 = ((k + 1 : Nat) : Int) by omega]
      refine (p_make27 hl hx n (k + 1) _ (by omega)).imp (fun _ s p => ⟨fun a j h => (p.1 a j h).trans (zu_a h), fun j => ?_⟩)
      rw [p.2 j]
      by_cases c1 : ((k + 1 : Nat) : Int) ≤ j ∧ j < x
      · rw [if_pos c1, if_pos (by omega)]
      · rw [if_neg c1]
        by_cases ce : j = (k : Int)
        · rw [zu_e ce, if_pos (by omega)]
        · rw [zu_i ce, if_neg (by omega)]
theorem t_list34 {l : Int} (hl : 0 ≤ l ∧ l < 6) : ∀ (n k : Nat) (σ : zS), k ≤ 60 → zP' (g_m_list_L34 n l (k : Int) σ) (fun _ s => (∀ a j, a ≠ 167 → s a j = σ a j) ∧ ∀ j, s 167 j = if 60 * l + (k : Int) ≤ j ∧ j < 60 * l + 60 then 0 else σ 167 j)
  | 0, _, _, _ => zP'.no
  | n + 1, k, σ, hk => by
    unfold g_m_list_L34
    by_cases c : 60 ≤ (k : Int)
    · rw [if_pos c]
      exact zP'.ret ⟨fun _ _ _ => rfl, fun j => by rw [if_neg (by omega)]⟩
    · rw [if_neg c, w32_id (x := 60 * l) (by omega) (by omega), w32_id (x := 60 * l + (k : Int)) (by omega) (by omega), if_pos (by omega)]
      try dsimp +instances only
      rw [w32_id (x := (k : Int) + 1) (by omega) (by omega), show (k : Int) + 1 = ((k + 1 : Nat) : Int) by omega]
      refine (t_list34 hl n (k + 1) _ (by omega)).imp (fun _ s p => ⟨fun a j h => (p.1 a j h).trans (zu_a h), fun j => ?_⟩)
      rw [p.2 j]
      by_cases c1 : 60 * l + ((k + 1 : Nat) : Int) ≤ j ∧ j < 60 * l + 60
      · rw [if_pos c1, if_pos (by omega)]
      · rw [if_neg c1]
        by_cases ce : j = 60 * l + (k : Int)
        · rw [zu_e ce, if_pos (by omega)]
        · rw [zu_i ce, if_neg (by omega)]
theorem p_listF {l x : Int} {σ : zS} : zP' (g_c_list l x σ) (fun _ s => ((0 ≤ l ∧ l < 6) ∧ 0 ≤ x ∧ x ≤ 60 → (∀ a j, a ≠ 136 + l.toNat → s a j = zu σ 142 l x a j) ∧ ∀ j, s (136 + l.toNat) j = if 0 ≤ j ∧ j < x then 0 else σ (136 + l.toNat) j) ∧ (¬ ((0 ≤ l ∧ l < 6) ∧ 0 ≤ x ∧ x ≤ 60) → s = σ)) := by
  unfold g_c_list
  by_cases c : 0 ≤ l ∧ l < 6
  · have eL : g_li_isList l σ = some (1, σ) := by
      unfold g_li_isList
      rw [if_neg (show ¬ l < 0 by omega), if_neg (show ¬ 6 ≤ l by omega)]
    rw [eL]
    rw [Option.bind_some]
    try dsimp +instances only
    rw [if_pos (show (1 : Int) ≠ 0 by decide)]
    by_cases c1 : x ≤ 60
    · rw [if_pos c1]
      by_cases c2 : 0 ≤ x
      · rw [if_pos c2]
        unfold g_li_make
        rw [eL]
        rw [Option.bind_some]
        try dsimp +instances only
        rw [if_neg (show ¬ (1 : Int) = 0 by decide), if_neg (show ¬ x < 0 by omega), if_pos c1, if_pos c]
        refine zP'.bind (p_make27 c c1 zK 0 (zu σ 142 l x) (by decide)) (fun _ s p => ?_)
        try dsimp +instances only
        refine zP'.ret ⟨fun _ => ⟨p.1, fun j => ?_⟩, fun h => absurd ⟨c, c2, c1⟩ h⟩
        rw [p.2 j, zu_a (by omega)]
        rfl
      · rw [if_neg c2]
        exact zP'.ret ⟨fun h => absurd h.2.1 c2, fun _ => rfl⟩
    · rw [if_neg c1]
      exact zP'.ret ⟨fun h => absurd h.2.2 c1, fun _ => rfl⟩
  · have eL : g_li_isList l σ = some (0, σ) := by
      unfold g_li_isList
      by_cases c1 : l < 0
      · rw [if_pos c1]
      · rw [if_neg c1, if_pos (show 6 ≤ l by omega)]
    rw [eL]
    rw [Option.bind_some]
    try dsimp +instances only
    rw [if_neg (show ¬ (0 : Int) ≠ 0 by decide)]
    exact zP'.ret ⟨fun h => absurd h.1 c, fun _ => rfl⟩
theorem t_listF {l x : Int} {σ : zS} : zP' (g_m_list l x σ) (fun _ s => ((0 ≤ l ∧ l < 6) ∧ 0 ≤ x ∧ x ≤ 60 → (∀ a j, a ≠ 167 → s a j = zu σ 166 l x a j) ∧ ∀ j, s 167 j = if 60 * l ≤ j ∧ j < 60 * l + 60 then 0 else σ 167 j) ∧ (¬ ((0 ≤ l ∧ l < 6) ∧ 0 ≤ x ∧ x ≤ 60) → s = σ)) := by
  unfold g_m_list
  rw [m_isList]
  rw [Option.bind_some]
  try dsimp +instances only
  by_cases c : 0 ≤ l ∧ l < 6
  · rw [if_pos c, if_pos (show (1 : Int) ≠ 0 by decide)]
    by_cases c1 : x ≤ 60
    · rw [if_pos c1]
      by_cases c2 : 0 ≤ x
      · rw [if_pos c2, if_pos c]
        refine (t_list34 c zK 0 (zu σ 166 l x) (by decide)).imp (fun _ s p => ⟨fun _ => ⟨p.1, fun j => ?_⟩, fun h => absurd ⟨c, c2, c1⟩ h⟩)
        rw [p.2 j, zu_a (by decide), show 60 * l + ((0 : Nat) : Int) = 60 * l by omega]
      · rw [if_neg c2]
        exact zP'.ret ⟨fun h => absurd h.2.1 c2, fun _ => rfl⟩
    · rw [if_neg c1]
      exact zP'.ret ⟨fun h => absurd h.2.2 c1, fun _ => rfl⟩
  · rw [if_neg c, if_neg (show ¬ (0 : Int) ≠ 0 by decide)]
    exact zP'.ret ⟨fun h => absurd h.1 c, fun _ => rfl⟩
theorem ql_list {a b : Int} {σ : zS} (I : InvL σ) : two (g_c_list a b σ) (g_m_list a b) (fun v w s => InvL s ∧ v = w) := by
  obtain ⟨v, s1, e1, w, s2, e2, J, q⟩ := qa_list (a := a) (b := b) I.1
  refine ⟨v, s1, e1, w, s2, e2, ⟨J, ?_⟩, q⟩
  obtain ⟨p1, p2⟩ := p_listF v s1 e1
  obtain ⟨t1, t2⟩ := t_listF w s2 e2
  by_cases cc : (0 ≤ a ∧ a < 6) ∧ 0 ≤ b ∧ b ≤ 60
  · obtain ⟨x1, x2⟩ := p1 cc
    obtain ⟨y1, y2⟩ := t1 cc
    intro l hl j j6 hj
    rw [y1 142 _ (by decide), zu_a (by decide), x1 142 _ (by omega)] at hj
    rw [y1 (136 + l) _ (by omega), zu_a (by omega), y2, x1 167 _ (by omega), zu_a (by decide)]
    by_cases k1 : (l : Int) = a
    · rw [zu_e k1] at hj
      have ea : 136 + l = 136 + a.toNat := by omega
      rw [ea, x2, if_pos (by omega), if_pos (by omega)]
    · rw [zu_i k1] at hj
      rw [x1 (136 + l) _ (by omega), zu_a (by omega), if_neg (by omega)]
      exact I.2 l hl j j6 hj
  · rw [t2 cc, p2 cc]
    exact I.2
theorem ql_lay {a b : Int} {σ : zS} (hb : -2147483648 ≤ b ∧ b < 2147483648) (I : InvL σ) : two (g_c_lay a b σ) (g_m_lay a b) (fun v w s => InvL s ∧ v = w) := by
  obtain ⟨v, s1, e1, w, s2, e2, J, q⟩ := qe_lay (l := a) (i := b) hb I.1
  refine ⟨v, s1, e1, w, s2, e2, ⟨J, ?_⟩, q⟩
  have I0 : Inv σ := I.1.1.1.1.1.1
  obtain ⟨p1, p2⟩ := p_layF hb.2 I0.1 v s1 e1
  obtain ⟨-, G1, -⟩ := zP'.of (g_c_lay_sp I0.1) v s1 e1
  have ref : ∀ a j, 143 ≤ a → a < 168 → s1 a j = σ a j := fun a j k1 k2 => G1 a j (Or.inl ⟨k1, k2⟩)
  have M1 : MI s1 := MI_cls I0.2.1 ref
  obtain ⟨t1, t2⟩ := t_layF hb.2 M1 w s2 e2
  have e147 : s1 147 = σ 147 := funext (fun j => ref 147 j (by decide) (by decide))
  have e167 : s1 167 = σ 167 := funext (fun j => ref 167 j (by decide) (by decide))
  rw [ref 166 a (by decide) (by decide), ref 144 8 (by decide) (by decide), e147, e167] at t1
  rw [ref 166 a (by decide) (by decide)] at t2
  have el : 0 ≤ a ∧ a < 6 → σ 142 a = σ 166 a := fun c => I0.2.2.2 a c.1 c.2
  obtain ⟨f1, f2⟩ := I.1.1.2.1
  by_cases c : layOk (σ 142 a) a
  · have c' : layOk (σ 166 a) a := by
      rw [← el c.1]
      exact c
    obtain ⟨-, x1, x2⟩ := p1 c
    obtain ⟨-, y1, y2⟩ := t1 c'
    have h6 := CI.cf (a := 60) I0.1 (by omega)
    have ca := c.1
    have hn := CI.cl (j := a) I0.1
    intro l hl j j6 hj
    rw [y1 142 _ (by decide), x1 142 _ (by omega)] at hj
    have g := I.2 l hl j j6 hj
    rw [y1 (136 + l) _ (by omega), y2 _ (by omega) (by omega)]
    by_cases k1 : (l : Int) = a
    · have ea : 136 + l = 136 + a.toNat := by omega
      rw [ea] at g ⊢
      rw [x2, if_pos (by omega), ← el c.1, ← f1, show 60 * (l : Int) + (j : Int) - 60 * a = (j : Int) by omega]
      unfold layC
      by_cases cj : 0 ≤ b ∧ b + 0 ≤ (j : Int) ∧ (j : Int) < b + σ 60 2 ∧ (j : Int) < σ 142 a
      · rw [if_pos cj, if_pos cj]
        have h := (f2 ((j : Int) - b).toNat (by omega) (by omega)).2
        rw [show ((((j : Int) - b).toNat : Nat) : Int) = (j : Int) - b by omega] at h
        exact h
      · rw [if_neg cj, if_neg cj, g, k1]
    · rw [x1 (136 + l) _ (by omega), if_neg (by omega)]
      exact g
  · have c' : ¬ layOk (σ 166 a) a := fun h => c (by
      unfold layOk at *
      rw [el h.1]
      exact h)
    rw [(t2 c').2, (p2 c).2]
    exact I.2
/-! move() -/
def mvD (f : Int → Int) (S D x : Int) (j : Int) : Int := if D ≤ j ∧ j < D + x then f (S + (j - D)) else f j
theorem t_move84 {l i o p x : Int} (hl : 0 ≤ l ∧ l < 6) (ho : 0 ≤ o ∧ o < 6) (hi : 0 ≤ i ∧ i + x ≤ 60) (hp : 0 ≤ p ∧ p + x ≤ 60) (hx : x ≤ 60) {f : Int → Int} : ∀ (n k : Nat) (s : zS), (k : Int) ≤ 60 → (i ≤ p → ∀ j, s 167 j = if 60 * o + p + x - (k : Int) ≤ j ∧ j < 60 * o + p + x ∧ 60 * o + p ≤ j then f (60 * l + i + (j - (60 * o + p))) else f j) → (¬ i ≤ p → ∀ j, s 167 j = if 60 * o + p ≤ j ∧ j < 60 * o + p + (k : Int) ∧ j < 60 * o + p + x then f (60 * l + i + (j - (60 * o + p))) else f j) → zP' (g_m_move_L84 n l i o p x (k : Int) s) (fun _ s' => (∀ a j, a ≠ 167 → s' a j = s a j) ∧ ∀ j, s' 167 j = mvD f (60 * l + i) (60 * o + p) x j)
  | 0, _, _, _, _, _ => zP'.no
  | n + 1, k, s, hk, h1, h2 => by
    unfold g_m_move_L84
    by_cases c : x ≤ (k : Int)
    · rw [if_pos c]
      refine zP'.ret ⟨fun _ _ _ => rfl, fun j => ?_⟩
      unfold mvD
      by_cases cd : i ≤ p
      · rw [h1 cd j]
        by_cases cj : 60 * o + p ≤ j ∧ j < 60 * o + p + x
        · rw [if_pos cj, if_pos (by omega)]
        · rw [if_neg cj, if_neg (by omega)]
      · rw [h2 cd j]
        by_cases cj : 60 * o + p ≤ j ∧ j < 60 * o + p + x
        · rw [if_pos cj, if_pos (by omega)]
        · rw [if_neg cj, if_neg (by omega)]
    · rw [if_neg c]
      have ek := w32_id (x := (k : Int) + 1) (by omega) (by omega)
      have go : ∀ t : Int, 0 ≤ t → t < x → (i ≤ p → t = x - 1 - (k : Int)) → (¬ i ≤ p → t = (k : Int)) → zP' (g_m_move_L109 (g_m_move_L84 n) l i o p x (k : Int) t s) (fun _ s' => (∀ a j, a ≠ 167 → s' a j = s a j) ∧ ∀ j, s' 167 j = mvD f (60 * l + i) (60 * o + p) x j) := fun t t1 t2 t3 t4 => by
        unfold g_m_move_L109
        rw [w32_id (x := 60 * l) (by omega) (by omega), w32_id (x := 60 * l + i) (by omega) (by omega), w32_id (x := 60 * l + i + t) (by omega) (by omega), w32_id (x := 60 * o) (by omega) (by omega), w32_id (x := 60 * o + p) (by omega) (by omega), w32_id (x := 60 * o + p + t) (by omega) (by omega), if_pos (by omega), if_pos (by omega), ek, show (k : Int) + 1 = ((k + 1 : Nat) : Int) by omega]
        try dsimp +instances only
        have src : s 167 (60 * l + i + t) = f (60 * l + i + t) := by
          by_cases cd : i ≤ p
          · rw [h1 cd, if_neg (by have := t3 cd; omega)]
          · rw [h2 cd, if_neg (by have := t4 cd; omega)]
        rw [src]
        refine (t_move84 hl ho hi hp hx (f := f) n (k + 1) _ (by omega) (fun cd j => ?_) (fun cd j => ?_)).imp (fun _ s' q => ⟨fun a j h => (q.1 a j h).trans (zu_a h), q.2⟩)
        · have tt := t3 cd
          by_cases cj : j = 60 * o + p + t
          · rw [zu_e cj, if_pos (by omega), show 60 * l + i + (j - (60 * o + p)) = 60 * l + i + t by omega]
          · rw [zu_i cj, h1 cd j]
            by_cases c3 : 60 * o + p + x - (k : Int) ≤ j ∧ j < 60 * o + p + x ∧ 60 * o + p ≤ j
            · rw [if_pos c3, if_pos (by omega)]
            · rw [if_neg c3, if_neg (by omega)]
        · have tt := t4 cd
          by_cases cj : j = 60 * o + p + t
          · rw [zu_e cj, if_pos (by omega), show 60 * l + i + (j - (60 * o + p)) = 60 * l + i + t by omega]
          · rw [zu_i cj, h2 cd j]
            by_cases c3 : 60 * o + p ≤ j ∧ j < 60 * o + p + (k : Int) ∧ j < 60 * o + p + x
            · rw [if_pos c3, if_pos (by omega)]
            · rw [if_neg c3, if_neg (by omega)]
      by_cases cd : i ≤ p
      · rw [if_pos cd, w32_id (x := x - 1) (by omega) (by omega), w32_id (x := x - 1 - (k : Int)) (by omega) (by omega)]
        exact go _ (by omega) (by omega) (fun _ => rfl) (fun h => absurd cd h)
      · rw [if_neg cd]
        exact go _ (by omega) (by omega) (fun h => absurd h cd) (fun _ => rfl)
def mvOk (L M l i o p x : Int) : Prop := (0 ≤ l ∧ l < 6) ∧ (0 ≤ o ∧ o < 6) ∧ 0 ≤ L ∧ 0 ≤ M ∧ 0 ≤ i ∧ 0 ≤ p ∧ 0 ≤ x ∧ i + x ≤ L ∧ p + x ≤ M
theorem t_moveF {l i o p x : Int} {σ : zS} (hi : i < 2147483648) (hp : p < 2147483648) (h : MI σ) : zP' (g_m_move l i o p x σ) (fun _ s => (mvOk (σ 166 l) (σ 166 o) l i o p x → (∀ a j, a ≠ 167 → s a j = σ a j) ∧ ∀ j, s 167 j = mvD (σ 167) (60 * l + i) (60 * o + p) x j) ∧ (¬ mvOk (σ 166 l) (σ 166 o) l i o p x → s = σ)) := by
  unfold g_m_move mvOk
  rw [m_isList]
  rw [Option.bind_some]
  try dsimp +instances only
  by_cases cl : 0 ≤ l ∧ l < 6
  case neg =>
    rw [if_neg cl, if_pos rfl]
    exact zP'.ret ⟨fun h => absurd h.1 cl, fun _ => rfl⟩
  rw [if_pos cl, if_neg (show ¬ (1 : Int) = 0 by decide), m_isList]
  rw [Option.bind_some]
  try dsimp +instances only
  by_cases co : 0 ≤ o ∧ o < 6
  case neg =>
    rw [if_neg co, if_neg (show ¬ (0 : Int) ≠ 0 by decide)]
    exact zP'.ret ⟨fun h => absurd h.2.1 co, fun _ => rfl⟩
  have lenl := h.2.2.1.len cl
  have leno := h.2.2.1.len co
  rw [if_pos co, if_pos (show (1 : Int) ≠ 0 by decide), if_pos cl]
  refine zP'.ite (fun c1 => zP'.ret ⟨fun h => by omega, fun _ => rfl⟩) (fun c1 => ?_)
  rw [if_pos co]
  refine zP'.ite (fun c2 => ?_) (fun c2 => zP'.ret ⟨fun h => by omega, fun _ => rfl⟩)
  refine zP'.ite (fun c3 => zP'.ret ⟨fun h => by omega, fun _ => rfl⟩) (fun c3 => ?_)
  refine zP'.ite (fun c4 => zP'.ret ⟨fun h => by omega, fun _ => rfl⟩) (fun c4 => ?_)
  refine zP'.ite (fun c5 => zP'.ret ⟨fun h => by omega, fun _ => rfl⟩) (fun c5 => ?_)
  rw [if_pos cl, w32_id (x := σ 166 l - i) (by omega) (by omega)]
  refine zP'.ite (fun c6 => zP'.ret ⟨fun h => by omega, fun _ => rfl⟩) (fun c6 => ?_)
  rw [if_pos co, w32_id (x := σ 166 o - p) (by omega) (by omega)]
  refine zP'.ite (fun c7 => ?_) (fun c7 => zP'.ret ⟨fun h => by omega, fun _ => rfl⟩)
  refine (t_move84 (f := σ 167) cl co (by omega) (by omega) (by omega) zK 0 σ (by omega) (fun _ j => by rw [if_neg (by omega)]) (fun _ j => by rw [if_neg (by omega)])).imp (fun _ s q => ⟨fun _ => q, fun h => absurd ⟨cl, co, by omega, by omega, by omega, by omega, by omega, by omega, by omega⟩ h⟩)
theorem p_hasSpan {l i x : Int} {σ : zS} (hl : 0 ≤ l ∧ l < 6) (hi : i < 2147483648) (h : -1 ≤ σ 142 l ∧ σ 142 l ≤ 60) : g_li_hasSpan l i x σ = some (if 0 ≤ i ∧ 0 ≤ x ∧ i ≤ σ 142 l ∧ i + x ≤ σ 142 l then 1 else 0, σ) := by
  unfold g_li_hasSpan g_li_isList
  rw [if_neg (show ¬ l < 0 by omega), if_neg (show ¬ 6 ≤ l by omega)]
  rw [Option.bind_some]
  try dsimp +instances only
  rw [if_neg (show ¬ (1 : Int) = 0 by decide)]
  by_cases c1 : i < 0
  · rw [if_pos c1, if_neg (by omega)]
  · rw [if_neg c1]
    by_cases c2 : x < 0
    · rw [if_pos c2, if_neg (by omega)]
    · rw [if_neg c2, if_pos hl]
      by_cases c3 : σ 142 l < i
      · rw [if_pos c3, if_neg (by omega)]
      · rw [if_neg c3, if_pos hl, w32_id (x := σ 142 l - i) (by omega) (by omega)]
        by_cases c4 : σ 142 l - i < x
        · rw [if_pos c4, if_neg (by omega)]
        · rw [if_neg c4, if_pos (by omega)]
theorem p_isList {l : Int} {σ : zS} : g_li_isList l σ = some (if 0 ≤ l ∧ l < 6 then 1 else 0, σ) := by
  unfold g_li_isList
  by_cases c1 : l < 0
  · rw [if_pos c1, if_neg (by omega)]
  · rw [if_neg c1]
    by_cases c2 : 6 ≤ l
    · rw [if_pos c2, if_neg (by omega)]
    · rw [if_neg c2, if_pos (by omega)]
theorem p_moveF {l i o p x : Int} {σ : zS} (hi : i < 2147483648) (hp : p < 2147483648) (H : CI σ) : zP' (g_c_move l i o p x σ) (fun _ s => (mvOk (σ 142 l) (σ 142 o) l i o p x → s = zcp σ (136 + l.toNat) i (136 + o.toNat) p x) ∧ (¬ mvOk (σ 142 l) (σ 142 o) l i o p x → s = σ)) := by
  have nl := CI.cl (j := l) H
  have no := CI.cl (j := o) H
  unfold g_c_move mvOk
  rw [p_isList]
  rw [Option.bind_some]
  try dsimp +instances only
  by_cases cl : 0 ≤ l ∧ l < 6
  case neg =>
    rw [if_neg cl, if_pos rfl]
    exact zP'.ret ⟨fun h => absurd h.1 cl, fun _ => rfl⟩
  rw [if_pos cl, if_neg (show ¬ (1 : Int) = 0 by decide), p_isList]
  rw [Option.bind_some]
  try dsimp +instances only
  by_cases co : 0 ≤ o ∧ o < 6
  case neg =>
    rw [if_neg co, if_neg (show ¬ (0 : Int) ≠ 0 by decide)]
    exact zP'.ret ⟨fun h => absurd h.2.1 co, fun _ => rfl⟩
  rw [if_pos co, if_pos (show (1 : Int) ≠ 0 by decide), p_refusal]
  rw [Option.bind_some]
  try dsimp +instances only
  rw [if_pos cl]
  by_cases c1 : 0 ≤ σ 142 l
  case neg =>
    rw [if_neg c1, if_pos (show (-11 : Int) ≠ 0 by decide)]
    exact zP'.ret ⟨fun h => by omega, fun _ => rfl⟩
  rw [if_pos c1, if_neg (show ¬ (0 : Int) ≠ 0 by decide), p_refusal]
  rw [Option.bind_some]
  try dsimp +instances only
  rw [if_pos co]
  by_cases c2 : 0 ≤ σ 142 o
  case neg =>
    rw [if_neg c2, if_neg (show ¬ (-11 : Int) = 0 by decide)]
    exact zP'.ret ⟨fun h => by omega, fun _ => rfl⟩
  rw [if_pos c2, if_pos rfl, p_hasSpan cl hi nl]
  rw [Option.bind_some]
  try dsimp +instances only
  by_cases c3 : 0 ≤ i ∧ 0 ≤ x ∧ i ≤ σ 142 l ∧ i + x ≤ σ 142 l
  case neg =>
    rw [if_neg c3, if_pos rfl]
    exact zP'.ret ⟨fun h => by omega, fun _ => rfl⟩
  rw [if_pos c3, if_neg (show ¬ (1 : Int) = 0 by decide), p_hasSpan co hp no]
  rw [Option.bind_some]
  try dsimp +instances only
  by_cases c4 : 0 ≤ p ∧ 0 ≤ x ∧ p ≤ σ 142 o ∧ p + x ≤ σ 142 o
  case neg =>
    rw [if_neg c4, if_neg (show ¬ (0 : Int) ≠ 0 by decide)]
    exact zP'.ret ⟨fun h => by omega, fun _ => rfl⟩
  rw [if_pos c4, if_pos (show (1 : Int) ≠ 0 by decide), if_pos cl, if_pos co, if_pos (by omega)]
  exact zP'.ret ⟨fun _ => rfl, fun h => absurd ⟨cl, co, c1, c2, by omega, by omega, by omega, by omega, by omega⟩ h⟩
theorem ql_move {a b c d e : Int} {σ : zS} (hb : b < 2147483648) (hd : d < 2147483648) (I : InvL σ) : two (g_c_move a b c d e σ) (g_m_move a b c d e) (fun v w s => InvL s ∧ v = w) := by
  obtain ⟨v, s1, e1, w, s2, e2, J, q⟩ := qa_move (a := a) (b := b) (c := c) (d := d) (e := e) hb hd I.1
  refine ⟨v, s1, e1, w, s2, e2, ⟨J, ?_⟩, q⟩
  have I0 : Inv σ := I.1.1.1.1.1.1
  obtain ⟨p1, p2⟩ := p_moveF hb hd I0.1 v s1 e1
  obtain ⟨-, G1, -⟩ := zP'.of (g_c_move_sp I0.1) v s1 e1
  have ref : ∀ a j, 143 ≤ a → a < 168 → s1 a j = σ a j := fun a j k1 k2 => G1 a j (Or.inl ⟨k1, k2⟩)
  have M1 : MI s1 := MI_cls I0.2.1 ref
  obtain ⟨t1, t2⟩ := t_moveF hb hd M1 w s2 e2
  have e167 : s1 167 = σ 167 := funext (fun j => ref 167 j (by decide) (by decide))
  rw [ref 166 a (by decide) (by decide), ref 166 c (by decide) (by decide)] at t1 t2
  rw [e167] at t1
  have el : ∀ x, 0 ≤ x ∧ x < 6 → σ 142 x = σ 166 x := fun x k => I0.2.2.2 x k.1 k.2
  have na := CI.cl (j := a) I0.1
  have nc := CI.cl (j := c) I0.1
  by_cases cc : mvOk (σ 142 a) (σ 142 c) a b c d e
  · have cc' : mvOk (σ 166 a) (σ 166 c) a b c d e := by
      rw [← el a cc.1, ← el c cc.2.1]
      exact cc
    have x1 := p1 cc
    obtain ⟨y1, y2⟩ := t1 cc'
    obtain ⟨ca, ck, l0, m0, b0, d0, x0, bl, dm⟩ := cc
    intro l hl j j6 hj
    rw [y1 142 _ (by decide), x1, zcp_a (by omega)] at hj
    rw [y1 (136 + l) _ (by omega), y2, x1]
    unfold mvD
    by_cases k1 : (l : Int) = c
    · have ea : 136 + l = 136 + c.toNat := by omega
      by_cases k2 : d ≤ (j : Int) ∧ (j : Int) < d + e
      · rw [ea, zcp_e k2, if_pos (by omega)]
        have g := I.2 a.toNat (by omega) (b + ((j : Int) - d)).toNat (by omega) (by
          rw [show ((a.toNat : Nat) : Int) = a by omega]
          omega)
        rw [show (((b + ((j : Int) - d)).toNat : Nat) : Int) = b + ((j : Int) - d) by omega, show ((a.toNat : Nat) : Int) = a by omega] at g
        rw [g]
        congr 1
        omega
      · rw [if_neg (by omega)]
        have z : zcp σ (136 + a.toNat) b (136 + c.toNat) d e (136 + l) (j : Int) = σ (136 + l) (j : Int) := if_neg (fun h => k2 h.2)
        rw [z]
        exact I.2 l hl j j6 hj
    · rw [zcp_a (by omega), if_neg (by omega)]
      exact I.2 l hl j j6 hj
  · have cc' : ¬ mvOk (σ 166 a) (σ 166 c) a b c d e := fun h => cc (by rw [el a h.1, el c h.2.1]; exact h)
    rw [t2 cc', p2 cc]
    exact I.2
theorem ql_get {a b : Int} {σ : zS} (I : InvL σ) : two (g_c_get a b σ) (g_m_get a b) (fun v w s => InvL s ∧ v = w) := by
  have I0 : Inv σ := I.1.1.1.1.1.1
  have na := CI.cl (j := a) I0.1
  have hc : g_c_get a b σ = some (if (0 ≤ a ∧ a < 6) ∧ 0 ≤ b ∧ b < σ 142 a then σ (136 + a.toNat) b else -9223372036854775808, σ) := by
    unfold g_c_get
    by_cases c : 0 ≤ a ∧ a < 6
    · rw [p_hasPlace c na.2]
      rw [Option.bind_some]
      try dsimp +instances only
      by_cases c2 : 0 ≤ b ∧ b < σ 142 a
      · rw [if_pos c2, if_neg (show ¬ (1 : Int) = 0 by decide), if_pos c, if_pos (show 0 ≤ b ∧ b < 60 by omega), if_pos ⟨c, c2⟩]
      · rw [if_neg c2, if_pos rfl, if_neg (fun h => c2 h.2)]
    · unfold g_li_hasPlace
      rw [p_isList, if_neg c]
      rw [Option.bind_some]
      try dsimp +instances only
      rw [if_pos rfl]
      rw [Option.bind_some]
      try dsimp +instances only
      rw [if_pos rfl, if_neg (fun h => c h.1)]
  have hm : g_m_get a b σ = some (if (0 ≤ a ∧ a < 6) ∧ 0 ≤ b ∧ b < σ 166 a then σ 167 (60 * a + b) else -9223372036854775808, σ) := by
    unfold g_m_get
    rw [m_wrong]
    rw [Option.bind_some]
    try dsimp +instances only
    by_cases c : 0 ≤ a ∧ a < 6
    · have hlen := I0.2.1.2.2.1.len c
      rw [if_pos c]
      by_cases c1 : 0 ≤ σ 166 a
      · rw [if_pos c1, if_neg (show ¬ (0 : Int) ≠ 0 by decide), if_pos c, w32_id (x := σ 166 a - 1) (by omega) (by omega)]
        by_cases c2 : 0 ≤ b ∧ b < σ 166 a
        · rw [s_isIn_t c2.1 (by omega)]
          rw [Option.bind_some]
          try dsimp +instances only
          rw [if_pos (show (1 : Int) ≠ 0 by decide), w32_id (x := 60 * a) (by omega) (by omega), w32_id (x := 60 * a + b) (by omega) (by omega), if_pos (show 0 ≤ 60 * a + b ∧ 60 * a + b < 360 by omega), if_pos ⟨c, c2⟩]
        · rw [s_isIn_f (by omega)]
          rw [Option.bind_some]
          try dsimp +instances only
          rw [if_neg (show ¬ (0 : Int) ≠ 0 by decide), if_neg (fun h => c2 h.2)]
      · rw [if_neg c1, if_pos (show (-11 : Int) ≠ 0 by decide), if_neg (fun h => by omega)]
    · rw [if_neg c, if_pos (show (-1 : Int) ≠ 0 by decide), if_neg (fun h => c h.1)]
  refine ⟨_, σ, hc, _, σ, hm, I, ?_⟩
  by_cases c : 0 ≤ a ∧ a < 6
  · rw [I0.2.2.2 a c.1 c.2] at na ⊢
    by_cases c2 : 0 ≤ b ∧ b < σ 166 a
    · rw [if_pos ⟨c, c2⟩, if_pos ⟨c, c2⟩]
      have g := I.2 a.toNat (by omega) b.toNat (by omega) (by
        rw [show ((a.toNat : Nat) : Int) = a by omega, I0.2.2.2 a c.1 c.2]
        omega)
      rw [show ((a.toNat : Nat) : Int) = a by omega, show ((b.toNat : Nat) : Int) = b by omega] at g
      exact g
    · rw [if_neg (fun h => c2 h.2), if_neg (fun h => c2 h.2)]
  · rw [if_neg (fun h => c h.1), if_neg (fun h => c h.1)]
theorem InvL_s0 : InvL s0 := by
  refine ⟨InvA_s0, fun l hl j j6 hj => ?_⟩
  have e : ∀ n : Fin 6, s0 142 ((n.val : Nat) : Int) ≤ 0 := by decide +kernel
  have h := e ⟨l, hl⟩
  have h : s0 142 (l : Int) ≤ 0 := h
  omega
