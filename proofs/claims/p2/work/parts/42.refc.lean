/-! THE REFERENCE over the typed memory: what always holds of it; rows come and go, watches -/
/-- of the head of the row of ints: settings, counts, rows' places, the trace -/
def HI (σ : zS) : Prop := (1 ≤ σ 144 12 ∧ σ 144 12 ≤ 99) ∧ (1 ≤ σ 144 13 ∧ σ 144 13 ≤ 12) ∧ (0 ≤ σ 144 8 ∧ σ 144 8 ≤ 60) ∧ (0 ≤ σ 144 9 ∧ σ 144 9 ≤ 10) ∧ (0 ≤ σ 144 10 ∧ σ 144 10 ≤ 6) ∧ (∀ t : Nat, (t : Int) < σ 144 9 → bOk (bxA σ 144 (260 + 4 * (t : Int)))) ∧ (∀ r : Nat, r < 60 → (0 ≤ σ 144 (21 + 3 * (r : Int)) ∧ σ 144 (21 + 3 * (r : Int)) ≤ 31) ∧ (0 ≤ σ 144 (22 + 3 * (r : Int)) ∧ σ 144 (22 + 3 * (r : Int)) ≤ 31))
theorem HI_fr {σ s : zS} (h : HI σ) (e : ∀ j : Int, (9 ≤ j ∧ j < 200) ∨ (260 ≤ j ∧ j < 340) → s 144 j = σ 144 j) (h8 : 0 ≤ s 144 8 ∧ s 144 8 ≤ 60) : HI s := by
  obtain ⟨h1, h2, h3, h4, h5, h6, h7⟩ := h
  refine ⟨by rw [e 12 (by omega)]; exact h1, by rw [e 13 (by omega)]; exact h2, h8, by rw [e 9 (by omega)]; exact h4, by rw [e 10 (by omega)]; exact h5, fun t ht => ?_, fun r hr => ?_⟩
  · rw [e 9 (by omega)] at ht
    unfold bxA
    rw [e _ (by omega), e _ (by omega), e _ (by omega), e _ (by omega)]
    exact h6 t ht
  · rw [e _ (by omega), e _ (by omega)]
    exact h7 r hr
theorem HI_fr8 {σ s : zS} (h : HI σ) (e : ∀ j : Int, 8 ≤ j → j < 340 → s 144 j = σ 144 j) : HI s := HI_fr h (fun j hj => e j (by omega) (by omega)) (by rw [e 8 (by omega) (by omega)]; exact h.2.2.1)
/-- of the regions -/
def NI (σ : zS) : Prop := ∃ N : Nat, N ≤ 12 ∧ σ 144 0 = (N : Int) ∧ RI σ N
theorem NI_fr {σ s : zS} (h : NI σ) (e : ∀ j : Int, j = 0 ∨ (340 ≤ j ∧ j < 2740) → s 144 j = σ 144 j) : NI s := by
  obtain ⟨N, h1, h2, h3⟩ := h
  refine ⟨N, h1, by rw [e 0 (Or.inl rfl)]; exact h2, RI_of h3 (fun k hk => ?_)⟩
  unfold rgA bxA
  dsimp only
  rw [e _ (by omega), e _ (by omega), e _ (by omega), e _ (by omega), e _ (by omega), e _ (by omega), e _ (by omega), e _ (by omega)]
  exact ⟨rfl, rfl⟩
theorem s_isWatch {k : Int} {σ : zS} (h : 0 ≤ σ 144 10 ∧ σ 144 10 ≤ 6) : g_m_isWatch k σ = some (if 0 ≤ k ∧ k < σ 144 10 then 1 else 0, σ) := by
  unfold g_m_isWatch
  show (g_m_isIn k 0 (w32 (σ 144 10 - 1)) σ).bind _ = _
  rw [w32_id (x := σ 144 10 - 1) (by omega) (by omega)]
  by_cases c : 0 ≤ k ∧ k < σ 144 10
  · rw [s_isIn_t c.1 (by omega), if_pos c]
    rw [Option.bind_some]
    try dsimp only
    rw [if_pos (Or.inr rfl)]
  · rw [s_isIn_f (by omega), if_neg c]
    rw [Option.bind_some]
    try dsimp only
    rw [if_pos (Or.inl rfl)]
theorem s_value {k : Int} {σ : zS} (h : 0 ≤ σ 144 10 ∧ σ 144 10 ≤ 6) : ∃ v s, g_m_value k σ = some (v, s) ∧ frG σ s := by
  have l := l144
  unfold g_m_value
  rw [s_isWatch h]
  rw [Option.bind_some]
  try dsimp only
  by_cases c : 0 ≤ k ∧ k < σ 144 10
  · rw [if_pos c, if_pos (by decide), w32_id (x := 6 * k) (by omega) (by omega), w32_id (x := 300 + 6 * k) (by omega) (by omega), w32_id (x := 300 + 6 * k + 1) (by omega) (by omega)]
    obtain ⟨s, m, e1, e2, e3, e4, e5⟩ := s_gathers (a := 144) (i := 300 + 6 * k + 1) (t := -1) (σ := σ) (by omega) (by omega) (by omega) (Or.inl (by decide))
    rw [e1]
    rw [Option.bind_some]
    try dsimp only
    rw [if_pos (by omega)]
    obtain ⟨v, o, f⟩ := s_measured (s 144 (300 + 6 * k)) e4 e2
    show ∃ v s', (g_m_measured (s 144 (300 + 6 * k)) s).bind _ = _ ∧ _
    rw [f]
    exact ⟨v, _, rfl, e3.trans frG.of15⟩
  · rw [if_neg c, if_neg (by decide)]
    exact ⟨_, σ, rfl, frG.refl σ⟩
/-- what valuing watches writes -/
def frV (σ s : zS) : Prop := ∀ a j, (a ≠ 143 ∨ (j ≠ 14 ∧ j ≠ 15 ∧ j ≠ 21 ∧ j ≠ 22 ∧ j ≠ 23)) → a ≠ 154 → a ≠ 155 → a ≠ 158 → s a j = σ a j
theorem s_values2 {σ : zS} {W : Nat} (hW : σ 144 10 = (W : Int)) (hW2 : W ≤ 6) : ∀ (d k n : Nat) (s : zS), k + d = W → d < n → frV σ s → ∃ s', g_m_values_L2 n (k : Int) s = some ((), s') ∧ frV σ s'
  | _, _, 0, _, _, h, _ => absurd h (Nat.not_lt_zero _)
  | 0, k, n + 1, s, hk, _, hf => by
    refine ⟨s, ?_, hf⟩
    unfold g_m_values_L2
    simp only [hf 144 10 (Or.inl (by decide)) (by decide) (by decide) (by decide), hW]
    rw [if_pos (by omega)]
  | d + 1, k, n + 1, s, hk, hn, hf => by
    have e10 : s 144 10 = (W : Int) := (hf 144 10 (Or.inl (by decide)) (by decide) (by decide) (by decide)).trans hW
    obtain ⟨v, s1, e1, e2⟩ := s_value (k := (k : Int)) (σ := s) (by omega)
    obtain ⟨s', f1, f2⟩ := s_values2 hW hW2 d (k + 1) n (zu s1 158 (k : Int) v) (by omega) (by omega) (fun a j h1 h2 h3 h4 => by rw [zu_a h4, e2 a j h1 h2 h3]; exact hf a j h1 h2 h3 h4)
    refine ⟨s', ?_, f2⟩
    unfold g_m_values_L2
    simp only [e10]
    rw [if_neg (by omega), e1]
    rw [Option.bind_some]
    try dsimp only
    rw [if_pos (by omega), w32_id (x := (k : Int) + 1) (by omega) (by omega)]
    rw [show ((k + 1 : Nat) : Int) = (k : Int) + 1 by omega] at f1
    exact f1
theorem s_values {σ : zS} (h : 0 ≤ σ 144 10 ∧ σ 144 10 ≤ 6) : ∃ s, g_m_values σ = some ((), s) ∧ frV σ s := by
  obtain ⟨W, hW⟩ : ∃ W : Nat, σ 144 10 = (W : Int) := ⟨(σ 144 10).toNat, by omega⟩
  exact s_values2 hW (by omega) W 0 zK σ (by omega) (by show _ < 1000000; omega) (fun _ _ _ _ _ _ => rfl)
/-- what the end of a write of a row leaves as it was -/
def frB (σ s : zS) : Prop := ∀ a j, (a ≠ 144 ∨ (8 ≤ j ∧ j < 300)) → (a ≠ 147 ∨ (1 ≤ j ∧ j < 121)) → (a ≠ 143 ∨ (j ≠ 14 ∧ j ≠ 15 ∧ j ≠ 21 ∧ j ≠ 22 ∧ j ≠ 23)) → a ≠ 154 → a ≠ 155 → a ≠ 158 → s a j = σ a j
theorem s_behind6 {σ : zS} {W : Nat} (hW : σ 144 10 = (W : Int)) (hW2 : W ≤ 6) : ∀ (d k n : Nat) (s : zS), k + d = W → d < n → s 144 10 = (W : Int) → ∃ v s', g_m_behind_L6 n (k : Int) s = some (v, s') ∧ v = s 144 0 ∧ ∀ a j, (a ≠ 144 ∨ j < 300 ∨ 340 ≤ j) → (a ≠ 143 ∨ (j ≠ 14 ∧ j ≠ 15 ∧ j ≠ 21 ∧ j ≠ 22 ∧ j ≠ 23)) → a ≠ 154 → a ≠ 155 → s' a j = s a j
  | _, _, 0, _, _, h, _ => absurd h (Nat.not_lt_zero _)
  | 0, k, n + 1, s, hk, _, h10 => by
    refine ⟨s 144 0, s, ?_, rfl, fun _ _ _ _ _ _ => rfl⟩
    unfold g_m_behind_L6
    simp only [h10]
    rw [if_pos (by omega)]
  | d + 1, k, n + 1, s, hk, hn, h10 => by
    obtain ⟨v, s1, e1, e2⟩ := s_value (k := (k : Int)) (σ := s) (by omega)
    have go : ∀ o : Int, ∃ v s', g_m_behind_L53 (g_m_behind_L6 n) (k : Int) o (s 144 (300 + 6 * (k : Int) + 5)) (300 + 6 * (k : Int) + 5) s1 = some (v, s') ∧ v = s 144 0 ∧ ∀ a j, (a ≠ 144 ∨ j < 300 ∨ 340 ≤ j) → (a ≠ 143 ∨ (j ≠ 14 ∧ j ≠ 15 ∧ j ≠ 21 ∧ j ≠ 22 ∧ j ≠ 23)) → a ≠ 154 → a ≠ 155 → s' a j = s a j := by
      intro o
      generalize hs2 : zu s1 144 (300 + 6 * (k : Int) + 5) (w32 (s 144 (300 + 6 * (k : Int) + 5) + o)) = s2
      have f2 : ∀ a j, (a ≠ 144 ∨ j < 300 ∨ 340 ≤ j) → (a ≠ 143 ∨ (j ≠ 14 ∧ j ≠ 15 ∧ j ≠ 21 ∧ j ≠ 22 ∧ j ≠ 23)) → a ≠ 154 → a ≠ 155 → s2 a j = s a j := fun a j h1 h2 h3 h4 => by
        rw [← hs2, zu_c (by omega)]
        exact e2 a j h2 h3 h4
      obtain ⟨v', s', g1, g2, g3⟩ := s_behind6 hW hW2 d (k + 1) n s2 (by omega) (by omega) ((f2 144 10 (by omega) (Or.inl (by decide)) (by decide) (by decide)).trans h10)
      refine ⟨v', s', ?_, ?_, fun a j h1 h2 h3 h4 => (g3 a j h1 h2 h3 h4).trans (f2 a j h1 h2 h3 h4)⟩
      · unfold g_m_behind_L53
        rw [if_pos (by omega), w32_id (x := (k : Int) + 1) (by omega) (by omega)]
        rw [show ((k + 1 : Nat) : Int) = (k : Int) + 1 by omega, ← hs2] at g1
        exact g1
      · rw [g2]
        exact f2 144 0 (by omega) (Or.inl (by decide)) (by decide) (by decide)
    unfold g_m_behind_L6
    simp only [h10]
    rw [if_neg (by omega), w32_id (x := 6 * (k : Int)) (by omega) (by omega), w32_id (x := 300 + 6 * (k : Int)) (by omega) (by omega), w32_id (x := 300 + 6 * (k : Int) + 5) (by omega) (by omega), if_pos (by omega), e1]
    rw [Option.bind_some]
    try dsimp only
    rw [if_pos (by omega)]
    split
    · exact go 0
    · exact go 1
theorem s_behind {σ : zS} {N : Nat} (hH : HI σ) (hR : RI σ N) (hN : σ 144 0 = (N : Int)) (hN2 : N ≤ 239) : ∃ v s, g_m_behind σ = some (v, s) ∧ NI s ∧ v = s 144 0 ∧ frB σ s := by
  obtain ⟨h12, h13, h8, h9, h10, -, -⟩ := hH
  obtain ⟨s1, N', e1, e2, e3, e4, e5, e6⟩ := s_trims hR hN hN2 h13.1 h12.1
  obtain ⟨W, hW⟩ : ∃ W : Nat, σ 144 10 = (W : Int) := ⟨(σ 144 10).toNat, by omega⟩
  obtain ⟨v, s2, f1, f2, f3⟩ := s_behind6 hW (by omega) W 0 zK s1 (by omega) (by show _ < 1000000; omega) ((e5 144 10 (by omega) (Or.inl (by decide))).trans hW)
  have n1 : NI s1 := ⟨N', by omega, e4, e3⟩
  refine ⟨v, s2, ?_, NI_fr n1 (fun j hj => f3 144 j (by omega) (Or.inl (by decide)) (by decide) (by decide)), ?_, fun a j h1 h2 h3 h4 h5 h6 => ?_⟩
  · unfold g_m_behind
    rw [e1]
    exact f1
  · rw [f2, f3 144 0 (by omega) (Or.inl (by decide)) (by decide) (by decide)]
  · rw [f3 a j (by omega) h3 h4 h5, e5 a j (by omega) h2]
theorem s_isRow {r : Int} {σ : zS} : g_m_isRow r σ = some (if 0 ≤ r ∧ r < 60 then 1 else 0, σ) := by
  unfold g_m_isRow
  by_cases c : 0 ≤ r ∧ r < 60
  · rw [s_isIn_t c.1 (by omega), if_pos c]
    rw [Option.bind_some]
    try dsimp only
    rw [if_pos (Or.inr rfl)]
  · rw [s_isIn_f (by omega), if_neg c]
    rw [Option.bind_some]
    try dsimp only
    rw [if_pos (Or.inl rfl)]
theorem s_out {σ : zS} {N : Nat} {r : Int} (hH : HI σ) (hR : RI σ N) (hN : σ 144 0 = (N : Int)) (hN2 : N ≤ 100) (hr : 0 ≤ r ∧ r < 60) : ∃ s N', g_m_out r σ = some ((), s) ∧ RI s N' ∧ s 144 0 = (N' : Int) ∧ N' ≤ N + 3 ∧ frW (zu σ 144 (20 + 3 * r) 0) s := by
  obtain ⟨k, rfl⟩ : ∃ k : Nat, r = (k : Int) := ⟨r.toNat, by omega⟩
  obtain ⟨hx, hy⟩ := hH.2.2.2.2.2.2 k (by omega)
  generalize hs1 : zu σ 144 (20 + 3 * (k : Int)) 0 = s1
  have e21 : s1 144 (21 + 3 * (k : Int)) = σ 144 (21 + 3 * (k : Int)) := by rw [← hs1]; exact zu_i (by omega)
  have e22 : s1 144 (22 + 3 * (k : Int)) = σ 144 (22 + 3 * (k : Int)) := by rw [← hs1]; exact zu_i (by omega)
  have hR1 : RI s1 N := RI_of hR (fun t ht => by
    rw [← hs1]
    exact ⟨zu_bxi (by omega), zu_bxi (by omega)⟩)
  have hN1 : s1 144 0 = (N : Int) := by rw [← hs1, zu_i (by omega)]; exact hN
  obtain ⟨s, N', g1, g2, g3, g4, g5⟩ := s_writes (x := σ 144 (21 + 3 * (k : Int))) (y := σ 144 (22 + 3 * (k : Int))) hR1 hN1 hN2 hx hy
  refine ⟨s, N', ?_, g2, g3, g4, g5⟩
  unfold g_m_out
  rw [s_rowAt (by omega) (by omega)]
  rw [Option.bind_some]
  try dsimp only
  rw [if_pos (by omega), s_rowAt (by omega) (by omega)]
  rw [Option.bind_some]
  try dsimp only
  rw [w32_id (x := 20 + 3 * (k : Int) + 1) (by omega) (by omega), if_pos (by omega), s_rowAt (by omega) (by omega)]
  rw [Option.bind_some]
  try dsimp only
  rw [w32_id (x := 20 + 3 * (k : Int) + 2) (by omega) (by omega), if_pos (by omega), hs1, show 20 + 3 * (k : Int) + 1 = 21 + 3 * (k : Int) by omega, show 20 + 3 * (k : Int) + 2 = 22 + 3 * (k : Int) by omega, e21, e22, g1]
  rfl
/-- what put() and take() leave as it was -/
def frP (σ s : zS) : Prop := ∀ a j, (a ≠ 144 ∨ (8 ≤ j ∧ j < 20) ∨ (200 ≤ j ∧ j < 300)) → (a ≠ 147 ∨ (61 ≤ j ∧ j < 121)) → (a ≠ 143 ∨ (j ≠ 14 ∧ j ≠ 15 ∧ j ≠ 21 ∧ j ≠ 22 ∧ j ≠ 23)) → a ≠ 151 → a ≠ 154 → a ≠ 155 → a ≠ 156 → a ≠ 157 → a ≠ 158 → s a j = σ a j
theorem HI_P {σ s : zS} (h : HI σ) (e : ∀ j : Int, (8 ≤ j ∧ j < 20) ∨ (200 ≤ j ∧ j < 300) → s 144 j = σ 144 j) (hr : ∀ r : Nat, r < 60 → (0 ≤ s 144 (21 + 3 * (r : Int)) ∧ s 144 (21 + 3 * (r : Int)) ≤ 31) ∧ (0 ≤ s 144 (22 + 3 * (r : Int)) ∧ s 144 (22 + 3 * (r : Int)) ≤ 31)) : HI s := by
  obtain ⟨h1, h2, h3, h4, h5, h6, h7⟩ := h
  refine ⟨by rw [e 12 (by omega)]; exact h1, by rw [e 13 (by omega)]; exact h2, by rw [e 8 (by omega)]; exact h3, by rw [e 9 (by omega)]; exact h4, by rw [e 10 (by omega)]; exact h5, fun t ht => ?_, hr⟩
  rw [e 9 (by omega)] at ht
  unfold bxA
  rw [e _ (by omega), e _ (by omega), e _ (by omega), e _ (by omega)]
  exact h6 t ht
theorem s_put72 {σ : zS} {N : Nat} {r x y v : Int} (hH : HI σ) (hR : RI σ N) (hN : σ 144 0 = (N : Int)) (hN2 : N ≤ 100) (hr : 0 ≤ r ∧ r < 60) (hx : 0 ≤ x ∧ x ≤ 31) (hy : 0 ≤ y ∧ y ≤ 31) : ∃ c s, g_m_put_L72 r x y v σ = some (c, s) ∧ NI s ∧ HI s ∧ frP σ s := by
  obtain ⟨k, rfl⟩ : ∃ k : Nat, r = (k : Int) := ⟨r.toNat, by omega⟩
  generalize hs1 : zu (zu (zu (zu σ 144 (20 + 3 * (k : Int)) 1) 144 (21 + 3 * (k : Int)) x) 144 (22 + 3 * (k : Int)) y) 147 (1 + (k : Int)) v = s1
  have f1 : ∀ a j, (a ≠ 144 ∨ j < 20 + 3 * (k : Int) ∨ 23 + 3 * (k : Int) ≤ j) → (a ≠ 147 ∨ j ≠ 1 + (k : Int)) → s1 a j = σ a j := fun a j h1 h2 => by
    rw [← hs1, zu_c h2, zu_c (by omega), zu_c (by omega), zu_c (by omega)]
  have rows1 : ∀ t : Nat, t < 60 → (0 ≤ s1 144 (21 + 3 * (t : Int)) ∧ s1 144 (21 + 3 * (t : Int)) ≤ 31) ∧ (0 ≤ s1 144 (22 + 3 * (t : Int)) ∧ s1 144 (22 + 3 * (t : Int)) ≤ 31) := fun t ht => by
    by_cases c : t = k
    · subst c
      have e1 : s1 144 (21 + 3 * (t : Int)) = x := by rw [← hs1, zu_a (by decide), zu_i (by omega), zu_e rfl]
      have e2 : s1 144 (22 + 3 * (t : Int)) = y := by rw [← hs1, zu_a (by decide), zu_e rfl]
      rw [e1, e2]
      exact ⟨hx, hy⟩
    · rw [f1 144 _ (by omega) (Or.inl (by decide)), f1 144 _ (by omega) (Or.inl (by decide))]
      exact hH.2.2.2.2.2.2 t ht
  have hH1 : HI s1 := HI_P hH (fun j hj => f1 144 j (by omega) (Or.inl (by decide))) rows1
  have hR1 : RI s1 N := RI_of hR (fun t ht => by
    unfold rgA bxA
    dsimp only
    rw [f1 144 _ (by omega) (Or.inl (by decide)), f1 144 _ (by omega) (Or.inl (by decide)), f1 144 _ (by omega) (Or.inl (by decide)), f1 144 _ (by omega) (Or.inl (by decide)), f1 144 _ (by omega) (Or.inl (by decide)), f1 144 _ (by omega) (Or.inl (by decide)), f1 144 _ (by omega) (Or.inl (by decide)), f1 144 _ (by omega) (Or.inl (by decide))]
    exact ⟨rfl, rfl⟩)
  have hN1 : s1 144 0 = (N : Int) := (f1 144 0 (by omega) (Or.inl (by decide))).trans hN
  obtain ⟨s2, N2, g1, g2, g3, g4, g5⟩ := s_writes hR1 hN1 hN2 hx hy
  have hH2 : HI s2 := HI_fr8 hH1 (fun j h1 h2 => g5 144 j (Or.inr ⟨h1, h2⟩) (Or.inl (by decide)) (by decide) (by decide) (by decide))
  obtain ⟨c, s3, k1, k2, k3, k4⟩ := s_behind hH2 g2 g3 (by omega)
  have e3 : ∀ j : Int, 8 ≤ j → j < 300 → s3 144 j = s1 144 j := fun j h1 h2 => by
    rw [k4 144 j (by omega) (Or.inl (by decide)) (Or.inl (by decide)) (by decide) (by decide) (by decide)]
    exact g5 144 j (by omega) (Or.inl (by decide)) (by decide) (by decide) (by decide)
  refine ⟨c, s3, ?_, k2, HI_P hH1 (fun j hj => e3 j (by omega) (by omega)) (fun t ht => by rw [e3 _ (by omega) (by omega), e3 _ (by omega) (by omega)]; exact rows1 t ht), fun a j h1 h2 h3 h4 h5 h6 h7 h8 h9 => ?_⟩
  · unfold g_m_put_L72
    rw [s_rowAt (by omega) (by omega)]
    rw [Option.bind_some]
    try dsimp only
    rw [if_pos (by omega), s_rowAt (by omega) (by omega)]
    rw [Option.bind_some]
    try dsimp only
    rw [w32_id (x := 20 + 3 * (k : Int) + 1) (by omega) (by omega), if_pos (by omega), s_rowAt (by omega) (by omega)]
    rw [Option.bind_some]
    try dsimp only
    rw [w32_id (x := 20 + 3 * (k : Int) + 2) (by omega) (by omega), if_pos (by omega), w32_id (x := 1 + (k : Int)) (by omega) (by omega), if_pos (by omega), show 20 + 3 * (k : Int) + 1 = 21 + 3 * (k : Int) by omega, show 20 + 3 * (k : Int) + 2 = 22 + 3 * (k : Int) by omega, hs1, g1]
    rw [Option.bind_some]
    try dsimp only
    rw [k1]
    rfl
  · rw [k4 a j (by omega) (by omega) h3 h5 h6 h9, g5 a j (by omega) (by omega) h4 h7 h8]
    exact f1 a j (by omega) (by omega)
theorem HI_V {σ s : zS} (h : HI σ) (e : frV σ s) : HI s := HI_fr8 h (fun j _ _ => e 144 j (Or.inl (by decide)) (by decide) (by decide) (by decide))
theorem s_put {σ : zS} {r x y v : Int} (hH : HI σ) (hI : NI σ) : ∃ c s, g_m_put r x y v σ = some (c, s) ∧ NI s ∧ HI s ∧ frP σ s := by
  have same : ∀ c : Int, ∃ c' s, (some (c, σ) : Option (Int × zS)) = some (c', s) ∧ NI s ∧ HI s ∧ frP σ s := fun c => ⟨c, σ, rfl, hI, hH, fun _ _ _ _ _ _ _ _ _ _ _ => rfl⟩
  unfold g_m_put
  rw [s_isRow]
  rw [Option.bind_some]
  try dsimp only
  by_cases c1 : 0 ≤ r ∧ r < 60
  · rw [if_pos c1, if_pos (by decide)]
    by_cases c2 : 0 ≤ x ∧ x ≤ 31
    · rw [s_isIn_t c2.1 c2.2]
      rw [Option.bind_some]
      try dsimp only
      rw [if_neg (by decide)]
      by_cases c3 : 0 ≤ y ∧ y ≤ 31
      · rw [s_isIn_t c3.1 c3.2]
        rw [Option.bind_some]
        try dsimp only
        rw [if_neg (by decide)]
        split
        · exact same _
        · split
          · obtain ⟨s1, e1, e2⟩ := s_values (σ := σ) hH.2.2.2.2.1
            rw [e1]
            rw [Option.bind_some]
            try dsimp only
            rw [s_rowAt (by omega) (by omega)]
            rw [Option.bind_some]
            try dsimp only
            rw [if_pos (by omega)]
            have hH1 := HI_V hH e2
            have e144 : ∀ j, s1 144 j = σ 144 j := fun j => e2 144 j (Or.inl (by decide)) (by decide) (by decide) (by decide)
            obtain ⟨N, n1, n2, n3⟩ := NI_fr (s := s1) hI (fun j _ => e144 j)
            have fin : ∀ (s : zS), frP s1 s → frP σ s := fun s h a j k1 k2 k3 k4 k5 k6 k7 k8 k9 => (h a j k1 k2 k3 k4 k5 k6 k7 k8 k9).trans (e2 a j k3 k5 k6 k9)
            split
            · obtain ⟨c, s, g1, g2, g3, g4⟩ := s_put72 (v := v) hH1 n3 n2 (by omega) c1 c2 c3
              exact ⟨c, s, g1, g2, g3, fin s g4⟩
            · obtain ⟨s2, N2, g1, g2, g3, g4, g5⟩ := s_out hH1 n3 n2 (by omega) c1
              rw [g1]
              rw [Option.bind_some]
              try dsimp only
              have z1 : HI (zu s1 144 (20 + 3 * r) 0) := HI_P hH1 (fun j hj => zu_i (by omega)) (fun t ht => by rw [zu_i (by omega), zu_i (by omega)]; exact hH1.2.2.2.2.2.2 t ht)
              have hH2 : HI s2 := HI_fr8 z1 (fun j h1 h2 => g5 144 j (Or.inr ⟨h1, h2⟩) (Or.inl (by decide)) (by decide) (by decide) (by decide))
              obtain ⟨c, s, k1, k2, k3, k4⟩ := s_put72 (v := v) hH2 g2 g3 (by omega) c1 c2 c3
              refine ⟨c, s, k1, k2, k3, fin s (fun a j h1 h2 h3 h4 h5 h6 h7 h8 h9 => ?_)⟩
              rw [k4 a j h1 h2 h3 h4 h5 h6 h7 h8 h9, g5 a j (by omega) (by omega) h4 h7 h8, zu_c (by omega)]
          · exact same _
      · rw [s_isIn_f (by omega)]
        exact same _
    · rw [s_isIn_f (by omega)]
      exact same _
  · rw [if_neg c1, if_neg (by decide)]
    exact same _
theorem s_take {σ : zS} {r : Int} (hH : HI σ) (hI : NI σ) : ∃ c s, g_m_take r σ = some (c, s) ∧ NI s ∧ HI s ∧ frP σ s := by
  have same : ∀ c : Int, ∃ c' s, (some (c, σ) : Option (Int × zS)) = some (c', s) ∧ NI s ∧ HI s ∧ frP σ s := fun c => ⟨c, σ, rfl, hI, hH, fun _ _ _ _ _ _ _ _ _ _ _ => rfl⟩
  unfold g_m_take
  rw [s_isRow]
  rw [Option.bind_some]
  try dsimp only
  by_cases c1 : 0 ≤ r ∧ r < 60
  · rw [if_pos c1, if_pos (by decide), s_rowAt (by omega) (by omega)]
    rw [Option.bind_some]
    try dsimp only
    rw [if_pos (by omega)]
    split
    · obtain ⟨s1, e1, e2⟩ := s_values (σ := σ) hH.2.2.2.2.1
      rw [e1]
      rw [Option.bind_some]
      try dsimp only
      have hH1 := HI_V hH e2
      have e144 : ∀ j, s1 144 j = σ 144 j := fun j => e2 144 j (Or.inl (by decide)) (by decide) (by decide) (by decide)
      obtain ⟨N, n1, n2, n3⟩ := NI_fr (s := s1) hI (fun j _ => e144 j)
      obtain ⟨s2, N2, g1, g2, g3, g4, g5⟩ := s_out hH1 n3 n2 (by omega) c1
      rw [g1]
      rw [Option.bind_some]
      try dsimp only
      have rz : ∀ t : Nat, t < 60 → (0 ≤ zu s1 144 (20 + 3 * r) 0 144 (21 + 3 * (t : Int)) ∧ zu s1 144 (20 + 3 * r) 0 144 (21 + 3 * (t : Int)) ≤ 31) ∧ (0 ≤ zu s1 144 (20 + 3 * r) 0 144 (22 + 3 * (t : Int)) ∧ zu s1 144 (20 + 3 * r) 0 144 (22 + 3 * (t : Int)) ≤ 31) := fun t ht => by rw [zu_i (by omega), zu_i (by omega)]; exact hH1.2.2.2.2.2.2 t ht
      have z1 : HI (zu s1 144 (20 + 3 * r) 0) := HI_P hH1 (fun j hj => zu_i (by omega)) rz
      have e5 : ∀ j : Int, 8 ≤ j → j < 340 → s2 144 j = zu s1 144 (20 + 3 * r) 0 144 j := fun j h1 h2 => g5 144 j (Or.inr ⟨h1, h2⟩) (Or.inl (by decide)) (by decide) (by decide) (by decide)
      have hH2 : HI s2 := HI_fr8 z1 e5
      obtain ⟨c, s, k1, k2, k3, k4⟩ := s_behind hH2 g2 g3 (by omega)
      rw [k1]
      have e6 : ∀ j : Int, 8 ≤ j → j < 300 → s 144 j = s2 144 j := fun j h1 h2 => k4 144 j (by omega) (Or.inl (by decide)) (Or.inl (by decide)) (by decide) (by decide) (by decide)
      refine ⟨c, s, rfl, k2, HI_P hH2 (fun j hj => e6 j (by omega) (by omega)) (fun t ht => by rw [e6 _ (by omega) (by omega), e6 _ (by omega) (by omega)]; exact hH2.2.2.2.2.2.2 t ht), fun a j h1 h2 h3 h4 h5 h6 h7 h8 h9 => ?_⟩
      rw [k4 a j (by omega) (by omega) h3 h5 h6 h9, g5 a j (by omega) (by omega) h4 h7 h8, zu_c (by omega)]
      exact e2 a j h3 h5 h6 h9
    · exact same _
  · rw [if_neg c1, if_neg (by decide)]
    exact same _
