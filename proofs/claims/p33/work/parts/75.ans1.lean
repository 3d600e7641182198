/-! THE ANSWERS alike: the calls that touch them -/
theorem qa_run {σ : zS} (I : InvA σ) : two (g_c_run σ) g_m_run (fun v w s => InvA s ∧ v = w) := by
  obtain ⟨v, s1, e1, w, s2, e2, J, q⟩ := qf_run I.1
  refine ⟨v, s1, e1, w, s2, e2, ⟨J, ?_⟩, q⟩
  rcases (run_two I.1.1 e1 e2).2 with ⟨k1, -, k3, k⟩ | ⟨k, -⟩
  · refine ANe_keep I.2 (fun a j h => ?_)
    obtain ⟨k4, -, -, k7, -, -⟩ := k j
    rcases h with ⟨rfl, rfl⟩ | rfl | ⟨rfl, rfl⟩ | rfl
    · exact k1
    · exact k4
    · exact k3
    · exact k7
  · exact k
theorem qa_answer {a : Int} {σ : zS} (I : InvA σ) : two (g_c_answer a σ) (g_m_answer a) (fun v w s => InvA s ∧ v = w) := by
  have h2 := CI.cn I.1.1.1.1.1.1
  obtain ⟨f1, f2⟩ := I.2
  have hc : g_c_answer a σ = some (if 0 ≤ a ∧ a < σ 39 9 then σ 128 a else -9223372036854775808, σ) := by
    unfold g_c_answer
    by_cases c1 : a < 0
    · rw [if_pos c1, if_neg (by omega)]
    · rw [if_neg c1]
      try dsimp +instances only
      by_cases c3 : σ 39 9 ≤ a
      · rw [if_pos c3, if_neg (by omega)]
      · rw [if_neg c3, if_neg (show ¬ 8 ≤ a by omega), if_pos (show 0 ≤ a ∧ a < 8 by omega), if_pos (show 0 ≤ a ∧ a < σ 39 9 by omega)]
  have hm : g_m_answer a σ = some (if 0 ≤ a ∧ a < σ 143 27 then σ 162 a else -9223372036854775808, σ) := by
    unfold g_m_answer
    try dsimp +instances only
    rw [w32_id (x := σ 143 27 - 1) (by omega) (by omega)]
    by_cases c1 : 0 ≤ a ∧ a < σ 143 27
    · rw [s_isIn_t c1.1 (by omega)]
      rw [Option.bind_some]
      try dsimp +instances only
      rw [if_neg (show ¬ (1 : Int) = 0 by decide), if_pos (by omega), if_pos c1]
    · rw [s_isIn_f (by omega)]
      rw [Option.bind_some]
      try dsimp +instances only
      rw [if_pos rfl, if_neg c1]
  refine ⟨_, σ, hc, _, σ, hm, I, ?_⟩
  rw [← f1]
  by_cases c1 : 0 ≤ a ∧ a < σ 39 9
  · rw [if_pos c1, if_pos c1]
    have g := f2 a.toNat (by omega) (by omega)
    rw [show ((a.toNat : Nat) : Int) = a by omega] at g
    exact g
  · rw [if_neg c1, if_neg c1]
theorem InvA_s0 : InvA s0 := by
  refine ⟨InvF_s0, by decide +kernel, fun j j6 hj => ?_⟩
  have e : s0 39 9 = 0 := by decide +kernel
  rw [e] at hj
  omega
/-! the rows laid into a list: its answer -/
theorem w32_over {x : Int} (h1 : 2147483648 ≤ x) (h2 : x < 6442450944) : w32 x = x - 4294967296 := by
  unfold w32 Int.bmod
  simp only [Nat.reducePow]
  split <;> omega
theorem p_hasPlace {l i : Int} {σ : zS} (hl : 0 ≤ l ∧ l < 6) (h : σ 142 l ≤ 60) : g_li_hasPlace l i σ = some (if 0 ≤ i ∧ i < σ 142 l then 1 else 0, σ) := by
  unfold g_li_hasPlace g_li_isList
  try dsimp +instances only
  rw [if_neg (show ¬ l < 0 by omega), if_neg (show ¬ 6 ≤ l by omega)]
  rw [Option.bind_some]
  try dsimp +instances only
  rw [if_neg (show ¬ (1 : Int) = 0 by decide)]
  by_cases c1 : i < 0
  · rw [if_pos c1, if_neg (by omega)]
  · rw [if_neg c1, if_pos hl]
    by_cases c2 : σ 142 l ≤ i
    · rw [if_pos c2, if_neg (by omega)]
    · rw [if_neg c2, if_neg (by omega), if_pos (show 0 ≤ i ∧ i < σ 142 l by omega)]
theorem p_refusal {l : Int} {σ : zS} : g_li_refusal l σ = some (if 0 ≤ l ∧ l < 6 then (if 0 ≤ σ 142 l then 0 else -11) else -1, σ) := by
  unfold g_li_refusal g_li_isList
  by_cases c1 : l < 0
  · rw [if_pos c1, if_neg (show ¬ (0 ≤ l ∧ l < 6) by omega)]
    rfl
  · rw [if_neg c1]
    by_cases c2 : 6 ≤ l
    · rw [if_pos c2, if_neg (show ¬ (0 ≤ l ∧ l < 6) by omega)]
      rfl
    · rw [if_neg c2]
      rw [Option.bind_some]
      try dsimp +instances only
      rw [if_pos (show (1 : Int) ≠ 0 by decide), if_pos (show 0 ≤ l ∧ l < 6 by omega), if_pos (show 0 ≤ l ∧ l < 6 by omega)]
      by_cases c3 : 0 ≤ σ 142 l
      · rw [if_pos c3, if_pos c3]
      · rw [if_neg c3, if_neg c3]
/-- laying of the find, of either side -/
def layV (cnt len i k : Int) : Int := if cnt ≤ k then cnt else if 0 ≤ i ∧ i + cnt ≤ len then cnt else -13
def layC (cnt len i k : Int) (f g : Int → Int) (j : Int) : Int := if 0 ≤ i ∧ i + k ≤ j ∧ j < i + cnt ∧ j < len then f (j - i) else g j
theorem p_lay3 {l i : Int} (hl : 0 ≤ l ∧ l < 6) (hi : i < 2147483648) : ∀ (n k : Nat) (σ : zS), σ 142 l ≤ 60 → σ 60 2 ≤ 60 → k ≤ 60 → zP' (g_li_layFrom_L3 n l i (k : Int) σ) (fun v s => v = layV (σ 60 2) (σ 142 l) i (k : Int) ∧ (∀ a j, a ≠ 136 + l.toNat → s a j = σ a j) ∧ ∀ j, s (136 + l.toNat) j = layC (σ 60 2) (σ 142 l) i (k : Int) (σ 62) (σ (136 + l.toNat)) j)
  | 0, _, _, _, _, _ => zP'.no
  | n + 1, k, σ, h1, h2, hk => by
    unfold g_li_layFrom_L3 layV
    try dsimp +instances only
    by_cases c : σ 60 2 ≤ (k : Int)
    · rw [if_pos c, if_pos c]
      unfold g_li_layFrom_L62
      exact zP'.ret ⟨rfl, fun _ _ _ => rfl, fun j => by
        unfold layC
        rw [if_neg (by omega)]⟩
    · rw [if_neg c, if_neg c, if_neg (show ¬ 60 ≤ (k : Int) by omega)]
      by_cases c2 : i < 0
      · rw [if_pos c2, if_neg (show ¬ (0 ≤ i ∧ i + σ 60 2 ≤ σ 142 l) by omega)]
        exact zP'.ret ⟨rfl, fun _ _ _ => rfl, fun j => by
          unfold layC
          rw [if_neg (by omega)]⟩
      · rw [if_neg c2, p_hasPlace hl h1]
        rw [Option.bind_some]
        try dsimp +instances only
        by_cases c3 : i + (k : Int) < σ 142 l
        · have ew := w32_id (x := i + (k : Int)) (by omega) (by omega)
          have ek := w32_id (x := (k : Int) + 1) (by omega) (by omega)
          rw [ew, ek, if_pos (show 0 ≤ i + (k : Int) ∧ i + (k : Int) < σ 142 l by omega), if_pos (show (1 : Int) ≠ 0 by decide), if_pos hl, if_pos (show 0 ≤ (k : Int) ∧ (k : Int) < 60 by omega), if_pos (show 0 ≤ i + (k : Int) ∧ i + (k : Int) < 60 by omega), show (k : Int) + 1 = ((k + 1 : Nat) : Int) by omega]
          have z : ∀ a j, a ≠ 136 + l.toNat → zu σ (136 + l.toNat) (i + (k : Int)) (σ 62 (k : Int)) a j = σ a j := fun a j h => zu_a h
          have e62 : zu σ (136 + l.toNat) (i + (k : Int)) (σ 62 (k : Int)) 62 = σ 62 := funext (fun j => z 62 j (by omega))
          refine (p_lay3 hl hi n (k + 1) _ (by rw [z 142 l (by omega)]; exact h1) (by rw [z 60 2 (by omega)]; exact h2) (by omega)).imp (fun v s p => ?_)
          obtain ⟨p1, p2, p3⟩ := p
          rw [z 142 l (by omega), z 60 2 (by omega)] at p1 p3
          refine ⟨?_, fun a j h => (p2 a j h).trans (z a j h), fun j => ?_⟩
          · rw [p1]
            unfold layV
            by_cases c4 : σ 60 2 ≤ ((k + 1 : Nat) : Int)
            · rw [if_pos c4, if_pos (show 0 ≤ i ∧ i + σ 60 2 ≤ σ 142 l by omega)]
            · rw [if_neg c4]
          · rw [p3 j, e62]
            unfold layC
            by_cases cj : 0 ≤ i ∧ i + ((k + 1 : Nat) : Int) ≤ j ∧ j < i + σ 60 2 ∧ j < σ 142 l
            · rw [if_pos cj, if_pos (show 0 ≤ i ∧ i + (k : Int) ≤ j ∧ j < i + σ 60 2 ∧ j < σ 142 l by omega)]
            · rw [if_neg cj]
              by_cases ce : j = i + (k : Int)
              · rw [zu_e ce, if_pos (show 0 ≤ i ∧ i + (k : Int) ≤ j ∧ j < i + σ 60 2 ∧ j < σ 142 l by omega), show j - i = (k : Int) by omega]
              · rw [zu_i ce, if_neg (show ¬ (0 ≤ i ∧ i + (k : Int) ≤ j ∧ j < i + σ 60 2 ∧ j < σ 142 l) by omega)]
        · have hw : ¬ (0 ≤ w32 (i + (k : Int)) ∧ w32 (i + (k : Int)) < σ 142 l) := fun hh => by
            have cs : w32 (i + (k : Int)) = i + (k : Int) ∨ w32 (i + (k : Int)) < 0 := by
              by_cases co : i + (k : Int) < 2147483648
              · exact Or.inl (w32_id (by omega) co)
              · refine Or.inr ?_
                have e := w32_over (x := i + (k : Int)) (by omega) (by omega)
                omega
            omega
          rw [if_neg hw, if_neg (show ¬ (0 : Int) ≠ 0 by decide), if_neg (show ¬ (0 ≤ i ∧ i + σ 60 2 ≤ σ 142 l) by omega)]
          exact zP'.ret ⟨rfl, fun _ _ _ => rfl, fun j => by
            unfold layC
            rw [if_neg (by omega)]⟩
theorem t_lay15 {l i : Int} (hl : 0 ≤ l ∧ l < 6) (hi : i < 2147483648) : ∀ (n k : Nat) (σ : zS), -1 ≤ σ 166 l ∧ σ 166 l ≤ 60 → σ 144 8 ≤ 60 → k ≤ 60 → zP' (g_m_lay_L15 n l i (k : Int) σ) (fun v s => v = layV (σ 144 8) (σ 166 l) i (k : Int) ∧ (∀ a j, a ≠ 167 → s a j = σ a j) ∧ ∀ j, 0 ≤ j → j < 360 → s 167 j = if 60 * l ≤ j ∧ j < 60 * l + 60 then layC (σ 144 8) (σ 166 l) i (k : Int) (fun t => σ 147 (61 + t)) (fun t => σ 167 (60 * l + t)) (j - 60 * l) else σ 167 j)
  | 0, _, _, _, _, _ => zP'.no
  | n + 1, k, σ, h1, h2, hk => by
    unfold g_m_lay_L15 layV
    try dsimp +instances only
    have same : ∀ (hno : ∀ j, ¬ (0 ≤ i ∧ i + (k : Int) ≤ j ∧ j < i + σ 144 8 ∧ j < σ 166 l)) (j : Int), σ 167 j = if 60 * l ≤ j ∧ j < 60 * l + 60 then layC (σ 144 8) (σ 166 l) i (k : Int) (fun t => σ 147 (61 + t)) (fun t => σ 167 (60 * l + t)) (j - 60 * l) else σ 167 j := fun hno j => by
      by_cases cj : 60 * l ≤ j ∧ j < 60 * l + 60
      · rw [if_pos cj]
        unfold layC
        rw [if_neg (hno _)]
        try dsimp only
        rw [show 60 * l + (j - 60 * l) = j by omega]
      · rw [if_neg cj]
    by_cases c : σ 144 8 ≤ (k : Int)
    · rw [if_pos c, if_pos c]
      exact zP'.ret ⟨rfl, fun _ _ _ => rfl, fun j _ _ => same (fun j => by omega) j⟩
    · rw [if_neg c, if_neg c]
      by_cases c2 : i < 0
      · rw [if_pos c2, if_neg (show ¬ (0 ≤ i ∧ i + σ 144 8 ≤ σ 166 l) by omega)]
        exact zP'.ret ⟨rfl, fun _ _ _ => rfl, fun j _ _ => same (fun j => by omega) j⟩
      · rw [if_neg c2, if_pos hl, w32_id (x := σ 166 l - i) (by omega) (by omega)]
        by_cases c3 : (k : Int) < σ 166 l - i
        · have ek := w32_id (x := (k : Int) + 1) (by omega) (by omega)
          rw [if_pos c3, w32_id (x := 61 + (k : Int)) (by omega) (by omega), if_pos (show 0 ≤ 61 + (k : Int) ∧ 61 + (k : Int) < 361 by omega), w32_id (x := 60 * l) (by omega) (by omega), w32_id (x := 60 * l + i) (by omega) (by omega), w32_id (x := 60 * l + i + (k : Int)) (by omega) (by omega), if_pos (show 0 ≤ 60 * l + i + (k : Int) ∧ 60 * l + i + (k : Int) < 360 by omega), ek, show (k : Int) + 1 = ((k + 1 : Nat) : Int) by omega]
          have z : ∀ a j, a ≠ 167 → zu σ 167 (60 * l + i + (k : Int)) (σ 147 (61 + (k : Int))) a j = σ a j := fun a j h => zu_a h
          refine (t_lay15 hl hi n (k + 1) _ (by rw [z 166 l (by decide)]; exact h1) (by rw [z 144 8 (by decide)]; exact h2) (by omega)).imp (fun v s p => ?_)
          obtain ⟨p1, p2, p3⟩ := p
          rw [z 166 l (by decide), z 144 8 (by decide)] at p1 p3
          refine ⟨?_, fun a j h => (p2 a j h).trans (z a j h), fun j j0 j1 => ?_⟩
          · rw [p1]
            unfold layV
            by_cases c4 : σ 144 8 ≤ ((k + 1 : Nat) : Int)
            · rw [if_pos c4, if_pos (show 0 ≤ i ∧ i + σ 144 8 ≤ σ 166 l by omega)]
            · rw [if_neg c4]
          · rw [p3 j j0 j1]
            by_cases cl : 60 * l ≤ j ∧ j < 60 * l + 60
            · rw [if_pos cl, if_pos cl]
              unfold layC
              try dsimp only
              by_cases cj : 0 ≤ i ∧ i + ((k + 1 : Nat) : Int) ≤ j - 60 * l ∧ j - 60 * l < i + σ 144 8 ∧ j - 60 * l < σ 166 l
              · rw [if_pos cj, if_pos (show 0 ≤ i ∧ i + (k : Int) ≤ j - 60 * l ∧ j - 60 * l < i + σ 144 8 ∧ j - 60 * l < σ 166 l by omega), z 147 _ (by decide)]
              · rw [if_neg cj]
                by_cases ce : 60 * l + (j - 60 * l) = 60 * l + i + (k : Int)
                · rw [zu_e ce, if_pos (show 0 ≤ i ∧ i + (k : Int) ≤ j - 60 * l ∧ j - 60 * l < i + σ 144 8 ∧ j - 60 * l < σ 166 l by omega), show j - 60 * l - i = (k : Int) by omega]
                · rw [zu_i ce, if_neg (show ¬ (0 ≤ i ∧ i + (k : Int) ≤ j - 60 * l ∧ j - 60 * l < i + σ 144 8 ∧ j - 60 * l < σ 166 l) by omega)]
            · rw [if_neg cl, if_neg cl]
              exact zu_i (by omega)
        · rw [if_neg c3, if_neg (show ¬ (0 ≤ i ∧ i + σ 144 8 ≤ σ 166 l) by omega)]
          exact zP'.ret ⟨rfl, fun _ _ _ => rfl, fun j _ _ => same (fun j => by omega) j⟩
def layOk (L l : Int) : Prop := (0 ≤ l ∧ l < 6) ∧ 0 ≤ L
theorem p_layF {l i : Int} {σ : zS} (hi : i < 2147483648) (H : CI σ) : zP' (g_c_lay l i σ) (fun v s => (layOk (σ 142 l) l → v = layV (σ 60 2) (σ 142 l) i 0 ∧ (∀ a j, a ≠ 136 + l.toNat → s a j = σ a j) ∧ ∀ j, s (136 + l.toNat) j = layC (σ 60 2) (σ 142 l) i 0 (σ 62) (σ (136 + l.toNat)) j) ∧ (¬ layOk (σ 142 l) l → v = (if 0 ≤ l ∧ l < 6 then -11 else -1) ∧ s = σ)) := by
  have hn := CI.cl (j := l) H
  have h6 := CI.cf (a := 60) H (by omega)
  unfold g_c_lay layOk
  rw [p_refusal]
  rw [Option.bind_some]
  try dsimp +instances only
  by_cases c : 0 ≤ l ∧ l < 6
  · rw [if_pos c]
    by_cases c1 : 0 ≤ σ 142 l
    · rw [if_pos c1, if_pos rfl]
      unfold g_li_layFrom
      refine zP'.bind (p_lay3 c hi zK 0 σ hn.2 h6.2 (by decide)) (fun v s p => ?_)
      exact zP'.ret ⟨fun _ => p, fun h => absurd ⟨c, c1⟩ h⟩
    · rw [if_neg c1, if_neg (by decide)]
      exact zP'.ret ⟨fun h => absurd h.2 c1, fun _ => ⟨(if_pos c).symm, rfl⟩⟩
  · rw [if_neg c, if_neg (by decide)]
    exact zP'.ret ⟨fun h => absurd h.1 c, fun _ => ⟨(if_neg c).symm, rfl⟩⟩
theorem t_layF {l i : Int} {σ : zS} (hi : i < 2147483648) (h : MI σ) : zP' (g_m_lay l i σ) (fun v s => (layOk (σ 166 l) l → v = layV (σ 144 8) (σ 166 l) i 0 ∧ (∀ a j, a ≠ 167 → s a j = σ a j) ∧ ∀ j, 0 ≤ j → j < 360 → s 167 j = if 60 * l ≤ j ∧ j < 60 * l + 60 then layC (σ 144 8) (σ 166 l) i 0 (fun t => σ 147 (61 + t)) (fun t => σ 167 (60 * l + t)) (j - 60 * l) else σ 167 j) ∧ (¬ layOk (σ 166 l) l → v = (if 0 ≤ l ∧ l < 6 then -11 else -1) ∧ s = σ)) := by
  have h8 := h.2.1.2.2.1
  unfold g_m_lay layOk
  rw [m_wrong]
  rw [Option.bind_some]
  try dsimp +instances only
  by_cases c : 0 ≤ l ∧ l < 6
  · have hlen := h.2.2.1.len c
    rw [if_pos c]
    by_cases c1 : 0 ≤ σ 166 l
    · rw [if_pos c1, if_pos rfl]
      exact (t_lay15 c hi zK 0 σ hlen h8.2 (by decide)).imp (fun v s p => ⟨fun _ => p, fun h => absurd ⟨c, c1⟩ h⟩)
    · rw [if_neg c1, if_neg (by decide)]
      exact zP'.ret ⟨fun h => absurd h.2 c1, fun _ => ⟨(if_pos c).symm, rfl⟩⟩
  · rw [if_neg c, if_neg (by decide)]
    exact zP'.ret ⟨fun h => absurd h.1 c, fun _ => ⟨(if_neg c).symm, rfl⟩⟩
theorem qe_lay {l i : Int} {σ : zS} (hi : -2147483648 ≤ i ∧ i < 2147483648) (I : InvA σ) : two (g_c_lay l i σ) (g_m_lay l i) (fun v w s => InvA s ∧ v = w) := by
  obtain ⟨v, s1, e1, w, s2, e2, J⟩ := qa_lay (a := l) (b := i) hi I
  refine ⟨v, s1, e1, w, s2, e2, J, ?_⟩
  have I0 : Inv σ := I.1.1.1.1.1
  obtain ⟨p1, p2⟩ := p_layF hi.2 I0.1 v s1 e1
  obtain ⟨-, G1, -⟩ := zP'.of (g_c_lay_sp I0.1) v s1 e1
  have ref : ∀ a j, 143 ≤ a → a < 168 → s1 a j = σ a j := fun a j k1 k2 => G1 a j (Or.inl ⟨k1, k2⟩)
  have M1 : MI s1 := MI_cls I0.2.1 ref
  obtain ⟨t1, t2⟩ := t_layF hi.2 M1 w s2 e2
  rw [ref 166 l (by decide) (by decide), ref 144 8 (by decide) (by decide)] at t1
  rw [ref 166 l (by decide) (by decide)] at t2
  have el : 0 ≤ l ∧ l < 6 → σ 142 l = σ 166 l := fun c => I0.2.2.2 l c.1 c.2
  by_cases c : layOk (σ 142 l) l
  · have c' : layOk (σ 166 l) l := by
      rw [← el c.1]
      exact c
    rw [(p1 c).1, (t1 c').1, el c.1, I.1.2.1.1]
  · have c' : ¬ layOk (σ 166 l) l := fun h => c (by
      unfold layOk at *
      rw [el h.1]
      exact h)
    rw [(p2 c).1, (t2 c').1]
