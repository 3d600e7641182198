/-! THE REFERENCE over the typed memory: the rows of a box in their order; a query with its answer -/
/-- all but what gathering and measuring write -/
def frG (σ s : zS) : Prop := ∀ a j, (a ≠ 143 ∨ (j ≠ 14 ∧ j ≠ 15 ∧ j ≠ 21 ∧ j ≠ 22 ∧ j ≠ 23)) → a ≠ 154 → a ≠ 155 → s a j = σ a j
theorem frG.refl (σ : zS) : frG σ σ := fun _ _ _ _ _ => rfl
theorem frG.trans {σ s t : zS} (h1 : frG σ s) (h2 : frG s t) : frG σ t := fun a j k1 k2 k3 => (h2 a j k1 k2 k3).trans (h1 a j k1 k2 k3)
theorem frG.bx {σ s : zS} (h : frG σ s) {a : Nat} {i : Int} (h1 : a ≠ 143) (h2 : a ≠ 154) (h3 : a ≠ 155) : bxA s a i = bxA σ a i := by
  unfold bxA
  rw [h a _ (Or.inl h1) h2 h3, h a _ (Or.inl h1) h2 h3, h a _ (Or.inl h1) h2 h3, h a _ (Or.inl h1) h2 h3]
def vRow (v : Int) : Prop := 0 ≤ v ∧ v < 60
theorem s_orderOf {v : Int} {σ : zS} (h1 : 0 ≤ v) (h2 : v < 60) : g_m_orderOf v σ = some (w32 ((w32 (32 * σ 144 (21 + 3 * v))) + σ 144 (22 + 3 * v)), σ) := by
  unfold g_m_orderOf
  rw [s_rowAt (by omega) (by omega)]
  rw [Option.bind_some]
  try dsimp only
  rw [w32_id (x := 20 + 3 * v + 1) (by omega) (by omega), if_pos (by omega), s_rowAt (by omega) (by omega)]
  rw [Option.bind_some]
  try dsimp only
  rw [w32_id (x := 20 + 3 * v + 2) (by omega) (by omega), if_pos (by omega), show 20 + 3 * v + 1 = 21 + 3 * v by omega, show 20 + 3 * v + 2 = 22 + 3 * v by omega]
theorem s_g139 {a : Nat} {g : Int → Int → Int → zS → Option (Unit × zS)} {i t r : Int} {k m : Nat} {s : zS} (hr : vRow r) (hm : s 143 14 = (m : Int)) (hm2 : m < 60) (hk : k ≤ m) (hv : ∀ j : Nat, j ≤ m → j ≠ k → vRow (s 154 (j : Int))) : ∃ s', g_m_gathers_L139 a g i t r (k : Int) s = g i t (r + 1) s' ∧ s' 143 14 = ((m + 1 : Nat) : Int) ∧ (∀ j : Nat, j < m + 1 → vRow (s' 154 (j : Int))) ∧ frG s s' := by
  have hr' := hr
  unfold vRow at hr'
  refine ⟨zu (zu s 154 (k : Int) r) 143 14 ((m : Int) + 1), ?_, ?_, fun j hj => ?_, fun b j h1 h2 h3 => ?_⟩
  · unfold g_m_gathers_L139 g_m_gathers_L158
    rw [if_pos (by omega)]
    simp only [zu_a (show (143 : Nat) ≠ 154 by decide), hm]
    rw [w32_id (x := (m : Int) + 1) (by omega) (by omega), w32_id (x := r + 1) (by omega) (by omega)]
  · rw [zu_e rfl]; omega
  · rw [zu_a (by decide)]
    by_cases c : j = k
    · subst c
      rw [zu_e rfl]; exact hr
    · rw [zu_i (by omega)]; exact hv j (by omega) c
  · rw [zu_c (by omega), zu_a h2]
theorem s_g90 {a : Nat} {g : Int → Int → Int → zS → Option (Unit × zS)} {i t r : Int} {m : Nat} (hr : vRow r) (hm2 : m < 60) : ∀ (k n : Nat) (s : zS), k < n → k ≤ m → s 143 14 = (m : Int) → (∀ j : Nat, j ≤ m → j ≠ k → vRow (s 154 (j : Int))) → ∃ s', g_m_gathers_L90 a g n i t r (k : Int) s = g i t (r + 1) s' ∧ s' 143 14 = ((m + 1 : Nat) : Int) ∧ (∀ j : Nat, j < m + 1 → vRow (s' 154 (j : Int))) ∧ frG s s'
  | _, 0, _, h, _, _, _ => absurd h (Nat.not_lt_zero _)
  | 0, n + 1, s, _, hk, hm, hv => by
    obtain ⟨s', e1, e2, e3, e4⟩ := s_g139 (a := a) (g := g) (i := i) (t := t) hr hm hm2 hk hv
    refine ⟨s', ?_, e2, e3, e4⟩
    unfold g_m_gathers_L90
    rw [if_pos (by omega)]
    exact e1
  | k + 1, n + 1, s, hn, hk, hm, hv => by
    have hr' := hr
    unfold vRow at hr'
    have hv1 := hv k (by omega) (by omega)
    have hv1' := hv1
    unfold vRow at hv1'
    unfold g_m_gathers_L90
    rw [if_neg (by omega), w32_id (x := ((k + 1 : Nat) : Int) - 1) (by omega) (by omega), if_pos (by omega), show ((k + 1 : Nat) : Int) - 1 = (k : Int) by omega]
    show ∃ s', (g_m_orderOf (s 154 (k : Int)) s).bind _ = _ ∧ _
    rw [s_orderOf hv1'.1 hv1'.2]
    rw [Option.bind_some]
    try dsimp only
    rw [s_orderOf hr'.1 hr'.2]
    rw [Option.bind_some]
    try dsimp only
    split
    · obtain ⟨s', e1, e2, e3, e4⟩ := s_g139 (a := a) (g := g) (i := i) (t := t) hr hm hm2 hk hv
      exact ⟨s', e1, e2, e3, e4⟩
    · rw [if_pos (by omega), if_pos (by omega)]
      obtain ⟨s', e1, e2, e3, e4⟩ := s_g90 (a := a) (g := g) (i := i) (t := t) hr hm2 k n (zu s 154 ((k + 1 : Nat) : Int) (s 154 (k : Int))) (by omega) (by omega) (by rw [zu_a (by decide)]; exact hm) (fun j hj hjk => by
        by_cases c : j = k + 1
        · subst c
          rw [zu_e rfl]; exact hv1
        · rw [zu_i (by omega)]; exact hv j hj c)
      exact ⟨s', e1, e2, e3, fun b j h1 h2 h3 => (e4 b j h1 h2 h3).trans (zu_a h2)⟩
/-- a test of a row: it comes to an answer, and writes nothing but where it reads -/
def tstOk (σ : zS) (t : Int) : Prop := t < 0 ∨ ∀ s : zS, frG σ s → ∀ r : Int, 0 ≤ r → r < 60 → ∃ b s', g_grp231 zR 231 r (zu s 143 21 t) = some (b, s') ∧ ∀ a j, (a ≠ 143 ∨ (j ≠ 21 ∧ j ≠ 22 ∧ j ≠ 23)) → s' a j = s a j
theorem s_g8 {a : Nat} {i t : Int} {σ : zS} (h1 : 0 ≤ i) (h2 : i + 3 < zLI a) (h3 : zLI a ≤ 100000) (ht : tstOk σ t) : ∀ (d k n m : Nat) (s : zS), k + d = 60 → d < n → m ≤ k → frG σ s → s 143 14 = (m : Int) → (∀ j : Nat, j < m → vRow (s 154 (j : Int))) → ∃ s' m', g_m_gathers_L8 a n i t (k : Int) s = g_m_gathers_L167 a zK 0 s' ∧ m' ≤ 60 ∧ frG σ s' ∧ s' 143 14 = ((m' : Nat) : Int) ∧ ∀ j : Nat, j < m' → vRow (s' 154 (j : Int))
  | _, _, 0, _, _, _, h, _, _, _, _ => absurd h (Nat.not_lt_zero _)
  | 0, k, n + 1, m, s, hk, _, hmk, hf, hm, hv => by
    refine ⟨s, m, ?_, by omega, hf, hm, hv⟩
    unfold g_m_gathers_L8
    rw [if_pos (by omega)]
  | d + 1, k, n + 1, m, s, hk, hn, hmk, hf, hm, hv => by
    have ek : ((k + 1 : Nat) : Int) = (k : Int) + 1 := by omega
    have skip : ∀ s2 : zS, frG s s2 → s2 143 14 = (m : Int) → (∀ j : Nat, j < m → vRow (s2 154 (j : Int))) → ∃ s' m', g_m_gathers_L158 a (g_m_gathers_L8 a n) i t (k : Int) s2 = g_m_gathers_L167 a zK 0 s' ∧ m' ≤ 60 ∧ frG σ s' ∧ s' 143 14 = ((m' : Nat) : Int) ∧ ∀ j : Nat, j < m' → vRow (s' 154 (j : Int)) := by
      intro s2 g1 g2 g3
      unfold g_m_gathers_L158
      rw [w32_id (x := (k : Int) + 1) (by omega) (by omega), ← ek]
      exact s_g8 h1 h2 h3 ht d (k + 1) n m s2 (by omega) (by omega) (by omega) (hf.trans g1) g2 g3
    have take : ∀ s2 : zS, frG s s2 → s2 143 14 = (m : Int) → (∀ j : Nat, j < m → vRow (s2 154 (j : Int))) → ∃ s' m', g_m_gathers_L84 a (g_m_gathers_L8 a n) i t (k : Int) s2 = g_m_gathers_L167 a zK 0 s' ∧ m' ≤ 60 ∧ frG σ s' ∧ s' 143 14 = ((m' : Nat) : Int) ∧ ∀ j : Nat, j < m' → vRow (s' 154 (j : Int)) := by
      intro s2 g1 g2 g3
      unfold g_m_gathers_L84
      show ∃ s' m', g_m_gathers_L90 a (g_m_gathers_L8 a n) zK i t (k : Int) (s2 143 14) s2 = _ ∧ _
      rw [g2]
      obtain ⟨s3, e1, e2, e3, e4⟩ := s_g90 (a := a) (g := g_m_gathers_L8 a n) (i := i) (t := t) (r := (k : Int)) (m := m) (show 0 ≤ (k : Int) ∧ (k : Int) < 60 by omega) (by omega) m zK s2 (by show _ < 1000000; omega) (Nat.le_refl _) g2 (fun j hj hjm => g3 j (by omega))
      rw [e1, ← ek]
      exact s_g8 h1 h2 h3 ht d (k + 1) n (m + 1) s3 (by omega) (by omega) (by omega) (hf.trans (g1.trans e4)) e2 e3
    unfold g_m_gathers_L8
    rw [if_neg (by omega), s_rowAt (by omega) (by omega)]
    rw [Option.bind_some]
    try dsimp only
    rw [if_pos (by omega)]
    split
    · exact skip s (frG.refl s) hm hv
    · rw [s_rowAt (by omega) (by omega), Option.bind_some]
      dsimp only
      rw [w32_id (x := 20 + 3 * (k : Int) + 1) (by omega) (by omega), if_pos (by omega), s_rowAt (by omega) (by omega), Option.bind_some]
      dsimp only
      rw [w32_id (x := 20 + 3 * (k : Int) + 2) (by omega) (by omega), if_pos (by omega), s_has h1 h2 h3]
      rw [Option.bind_some]
      try dsimp only
      by_cases c : bIn (bxA s a i) (s 144 (20 + 3 * (k : Int) + 1)) (s 144 (20 + 3 * (k : Int) + 2))
      · rw [if_pos c, if_pos (by decide)]
        have fz : frG s (zu s 143 21 t) := fun b j k1 k2 k3 => zu_c (by omega)
        by_cases c2 : t < 0
        · rw [if_pos c2]
          exact take _ fz (by rw [zu_i (by decide)]; exact hm) (fun j hj => by rw [zu_a (by decide)]; exact hv j hj)
        · rw [if_neg c2]
          rcases ht with ht | ht
          · exact absurd ht c2
          · obtain ⟨b, s', e1, e2⟩ := ht s hf (k : Int) (by omega) (by omega)
            rw [e1]
            rw [Option.bind_some]
            try dsimp only
            have fs : frG s s' := fun x j k1 k2 k3 => e2 x j (by omega)
            have m1 : s' 143 14 = (m : Int) := by rw [e2 143 14 (by omega)]; exact hm
            have v1 : ∀ j : Nat, j < m → vRow (s' 154 (j : Int)) := fun j hj => by rw [e2 154 _ (Or.inl (by decide))]; exact hv j hj
            split
            · exact take s' fs m1 v1
            · exact skip s' fs m1 v1
      · rw [if_neg c, if_neg (by decide)]
        exact skip s (frG.refl s) hm hv
theorem s_g167 {a : Nat} {m : Nat} (hm2 : m ≤ 60) : ∀ (d k n : Nat) (s : zS), k + d = m → d < n → s 143 14 = (m : Int) → (∀ j : Nat, j < m → vRow (s 154 (j : Int))) → ∃ s', g_m_gathers_L167 a n (k : Int) s = some ((), s') ∧ (∀ x j, x ≠ 155 → s' x j = s x j)
  | _, _, 0, _, _, h, _, _ => absurd h (Nat.not_lt_zero _)
  | 0, k, n + 1, s, hk, _, hm, _ => by
    refine ⟨s, ?_, fun _ _ _ => rfl⟩
    unfold g_m_gathers_L167
    simp only [hm]
    rw [if_pos (by omega)]
  | d + 1, k, n + 1, s, hk, hn, hm, hv => by
    have hv1 := hv k (by omega)
    unfold vRow at hv1
    obtain ⟨s', e1, e2⟩ := s_g167 (a := a) hm2 d (k + 1) n (zu s 155 (k : Int) (s 147 (1 + s 154 (k : Int)))) (by omega) (by omega) (by rw [zu_a (by decide)]; exact hm) (fun j hj => by rw [zu_a (by decide)]; exact hv j hj)
    refine ⟨s', ?_, fun x j hx => (e2 x j hx).trans (zu_a hx)⟩
    unfold g_m_gathers_L167
    simp only [hm]
    rw [if_neg (by omega), if_pos (by omega), w32_id (x := 1 + s 154 (k : Int)) (by omega) (by omega), if_pos (by omega), if_pos (by omega), w32_id (x := (k : Int) + 1) (by omega) (by omega)]
    rw [show ((k + 1 : Nat) : Int) = (k : Int) + 1 by omega] at e1
    exact e1
theorem s_gathers {a : Nat} {i t : Int} {σ : zS} (h1 : 0 ≤ i) (h2 : i + 3 < zLI a) (h3 : zLI a ≤ 100000) (ht : tstOk σ t) : ∃ s m, g_m_gathers a i t σ = some ((), s) ∧ m ≤ 60 ∧ frG σ s ∧ s 143 14 = ((m : Nat) : Int) ∧ ∀ j : Nat, j < m → vRow (s 154 (j : Int)) := by
  obtain ⟨s1, m, e1, e2, e3, e4, e5⟩ := s_g8 (a := a) (i := i) (t := t) (σ := σ) h1 h2 h3 ht 60 0 zK 0 (zu σ 143 14 0) (by omega) (by show _ < 1000000; omega) (Nat.le_refl _) (fun b j k1 k2 k3 => zu_c (by omega)) (zu_e rfl) (fun j hj => absurd hj (Nat.not_lt_zero _))
  obtain ⟨s2, f1, f2⟩ := s_g167 (a := a) e2 m 0 zK s1 (by omega) (by show _ < 1000000; omega) e4 e5
  refine ⟨s2, m, ?_, e2, ?_, ?_, ?_⟩
  · unfold g_m_gathers
    exact e1.trans f1
  · exact e3.trans (fun b j _ _ k3 => f2 b j k3)
  · rw [f2 143 14 (by decide)]; exact e4
  · intro j hj
    rw [f2 154 _ (by decide)]
    exact e5 j hj
theorem frG.of15 {σ : zS} {o : Int} : frG σ (zu σ 143 15 o) := fun b j k1 k2 k3 => zu_c (by omega)
/-- all that a query with its answer leaves as it was -/
def frK (σ s : zS) : Prop := ∀ a j, (a ≠ 144 ∨ (9 ≤ j ∧ j < 200) ∨ (260 ≤ j ∧ j < 340)) → (a ≠ 147 ∨ (1 ≤ j ∧ j < 61)) → a ≠ 150 → a ≠ 151 → a ≠ 153 → a ≠ 154 → a ≠ 155 → (a ≠ 143 ∨ (j ≠ 10 ∧ j ≠ 14 ∧ j ≠ 15 ∧ j ≠ 21 ∧ j ≠ 22 ∧ j ≠ 23)) → s a j = σ a j
theorem s_asked27 {x : Int} {m : Nat} (hm2 : m ≤ 60) : ∀ (d k n : Nat) (s : zS), k + d = m → d < n → s 143 14 = (m : Int) → ∃ v s', g_m_asked_L27 n x (k : Int) s = some (v, s') ∧ ∀ a j, (a ≠ 144 ∨ j < 200 ∨ 260 ≤ j) → (a ≠ 147 ∨ j < 61 ∨ 121 ≤ j) → (a ≠ 143 ∨ j ≠ 15) → s' a j = s a j
  | _, _, 0, _, _, h, _ => absurd h (Nat.not_lt_zero _)
  | 0, k, n + 1, s, hk, _, hm => by
    obtain ⟨v, o, e⟩ := s_measured x hm hm2
    refine ⟨v, zu s 143 15 o, ?_, fun a j _ _ h => zu_c h⟩
    unfold g_m_asked_L27
    simp only [hm]
    rw [if_pos (by omega), e]
    rfl
  | d + 1, k, n + 1, s, hk, hn, hm => by
    obtain ⟨v, s', e1, e2⟩ := s_asked27 (x := x) hm2 d (k + 1) n (zu (zu s 144 (200 + (k : Int)) (s 154 (k : Int))) 147 (61 + (k : Int)) (zu s 144 (200 + (k : Int)) (s 154 (k : Int)) 155 (k : Int))) (by omega) (by omega) (by rw [zu_a (by decide), zu_a (by decide)]; exact hm)
    refine ⟨v, s', ?_, fun a j h1 h2 h3 => ?_⟩
    · unfold g_m_asked_L27
      simp only [hm]
      rw [if_neg (by omega), if_pos (by omega), w32_id (x := 200 + (k : Int)) (by omega) (by omega), if_pos (by omega), if_pos (by omega), w32_id (x := 61 + (k : Int)) (by omega) (by omega), if_pos (by omega), w32_id (x := (k : Int) + 1) (by omega) (by omega)]
      rw [show ((k + 1 : Nat) : Int) = (k : Int) + 1 by omega] at e1
      exact e1
    · rw [e2 a j h1 h2 h3, zu_c (by omega), zu_c (by omega)]
theorem s_asked {σ : zS} {N : Nat} {q : Bx} {x t : Int} (hR : RI σ N) (hN : σ 144 0 = (N : Int)) (hN2 : N ≤ 12) (hq : bOk q) (hb : bxA σ 152 0 = q) (h13 : 1 ≤ σ 144 13) (h13b : σ 144 13 ≤ 12) (h12 : 1 ≤ σ 144 12) (ht : ∀ s, frQ σ s → tstOk s t) : ∃ v s N', g_m_asked x t σ = some (v, s) ∧ RI s N' ∧ s 144 0 = (N' : Int) ∧ N' ≤ 12 ∧ frK σ s ∧ 0 ≤ s 144 8 ∧ s 144 8 ≤ 60 := by
  have l152 : zLI 152 = 4 := rfl
  obtain ⟨s1, N1, e1, e2, e3, e4, e5⟩ := s_queries hR hN hN2 hq hb h13 h13b h12
  obtain ⟨s2, m, f1, f2, f3, f4, f5⟩ := s_gathers (a := 152) (i := 0) (t := t) (σ := s1) (by omega) (by omega) (by omega) (ht s1 e5)
  obtain ⟨v, s3, g1, g2⟩ := s_asked27 (x := x) f2 m 0 zK (zu s2 144 8 (m : Int)) (by omega) (by show _ < 1000000; omega) (by rw [zu_a (by decide)]; exact f4)
  have k144 : ∀ j : Int, (j < 8 ∨ 340 ≤ j) → s3 144 j = s1 144 j := fun j h => by
    rw [g2 144 j (by omega) (Or.inl (by decide)) (Or.inl (by decide)), zu_i (by omega), f3 144 j (Or.inl (by decide)) (by decide) (by decide)]
  have k147 : ∀ j : Int, 121 ≤ j → s3 147 j = s1 147 j := fun j h => by
    rw [g2 147 j (Or.inl (by decide)) (by omega) (Or.inl (by decide)), zu_a (by decide), f3 147 j (Or.inl (by decide)) (by decide) (by decide)]
  refine ⟨v, s3, N1, ?_, ?_, ?_, e4, ?_, ?_⟩
  · unfold g_m_asked
    rw [e1]
    rw [Option.bind_some]
    try dsimp only
    rw [f1]
    simp only [Option.bind_some, f4]
    exact g1
  · refine RI_of e2 (fun k hk => ?_)
    unfold rgA bxA
    rw [k144 _ (by omega), k144 _ (by omega), k144 _ (by omega), k144 _ (by omega), k144 _ (by omega), k144 _ (by omega), k144 _ (by omega), k144 _ (by omega)]
    exact ⟨rfl, rfl⟩
  · rw [k144 0 (by omega)]; exact e3
  · intro a j h1 h2 h3 h4 h5 h6 h7 h8
    rw [g2 a j (by omega) (by omega) (by omega), zu_c (by omega), f3 a j (by omega) h6 h7]
    exact e5 a j (by omega) (by omega) h3 h4 h5 (by omega)
  · have : s3 144 8 = (m : Int) := by rw [g2 144 8 (by omega) (Or.inl (by decide)) (Or.inl (by decide)), zu_e rfl]
    omega
