/-! THE REFERENCE over the typed memory: a trace done again; an image; the plain answers -/
/-- what a trace done again leaves as it was, but for the rows of ints and longs, which come back -/
def frD (σ s : zS) : Prop := ∀ a j, a ≠ 144 → a ≠ 147 → a ≠ 146 → a ≠ 149 → a ≠ 150 → a ≠ 151 → a ≠ 152 → a ≠ 153 → (a ≠ 143 ∨ j ≠ 10) → s a j = σ a j
def sameIn (σ s : zS) (a b : Nat) (n : Int) : Prop := ∀ j : Int, 0 ≤ j → j < n → s a j = σ b j
theorem HI_in {σ s : zS} (h : HI σ) (e : sameIn σ s 144 144 2740) : HI s := HI_fr8 h (fun j h1 h2 => e j (by omega) (by omega))
theorem NI_in {σ s : zS} (h : NI σ) (e : sameIn σ s 144 144 2740) : NI s := NI_fr h (fun j hj => e j (by omega) (by omega))
theorem s_done57 {σ : zS} {x : Int} {T : Nat} (hx : 0 ≤ x ∧ x ≤ 5) : ∀ (d k n : Nat) (s : zS), k + d = T → d < n → s 144 9 = (T : Int) → HI s → NI s → sameIn σ s 146 144 2740 → sameIn σ s 149 147 361 → frD σ s → ∃ v s', g_m_done_L57 n x (k : Int) s = some (v, s') ∧ sameIn σ s' 144 144 2740 ∧ sameIn σ s' 147 147 361 ∧ frD σ s'
  | _, _, 0, _, _, h, _, _, _, _, _, _ => absurd h (Nat.not_lt_zero _)
  | 0, k, n + 1, s, hk, _, hT, hH, hI, h1, h2, h3 => by
    have fin : ∀ v : Int, ∃ v' s', g_m_done_L148 v s = some (v', s') ∧ sameIn σ s' 144 144 2740 ∧ sameIn σ s' 147 147 361 ∧ frD σ s' := by
      intro v
      refine ⟨v, bkS s 146 149, ?_, fun j j1 j2 => ?_, fun j j1 j2 => ?_, fun a j k1 k2 k3 k4 k5 k6 k7 k8 k9 => ?_⟩
      · unfold g_m_done_L148
        rw [s_back ⟨by decide, by decide, by decide, by decide⟩]
        rfl
      · unfold bkS
        rw [if_pos ⟨rfl, j1, j2⟩]
        exact h1 j j1 j2
      · unfold bkS
        rw [if_neg (fun e => by omega), if_pos ⟨rfl, j1, j2⟩]
        exact h2 j j1 j2
      · unfold bkS
        rw [if_neg (fun e => k1 e.1), if_neg (fun e => k2 e.1)]
        exact h3 a j k1 k2 k3 k4 k5 k6 k7 k8 k9
    unfold g_m_done_L57
    simp only [hT]
    rw [if_pos (by omega)]
    by_cases c0 : x = 0
    · rw [if_neg (fun e => e c0)]; exact fin _
    · rw [if_pos c0]
      by_cases c1 : x = 1
      · rw [if_neg (fun e => e c1)]; exact fin _
      · rw [if_pos c1]
        by_cases c5 : 5 ≤ x
        · rw [if_pos c5]; exact fin _
        · rw [if_neg c5, w32_id (x := 4 + x) (by omega) (by omega), w32_id (x := 4 + x - 2) (by omega) (by omega), if_pos (by omega)]
          exact fin _
  | d + 1, k, n + 1, s, hk, hn, hT, hH, hI, h1, h2, h3 => by
    have l := l144
    have l152 : zLI 152 = 4 := rfl
    have hH' := hH
    obtain ⟨g12, g13, g8, g9, g10, gt, gr⟩ := hH'
    obtain ⟨N, n1, n2, n3⟩ := hI
    have okq : bOk (bxA s 144 (260 + 4 * (k : Int))) := gt k (by omega)
    generalize hs1 : zb s 152 0 (bxA s 144 (260 + 4 * (k : Int))) = s1
    have f1 : ∀ a j, a ≠ 152 → s1 a j = s a j := fun a j h => by rw [← hs1]; exact zb_a h
    have hR1 : RI s1 N := RI_of n3 (fun t ht => by
      unfold rgA bxA
      dsimp only
      rw [f1 144 _ (by decide), f1 144 _ (by decide), f1 144 _ (by decide), f1 144 _ (by decide), f1 144 _ (by decide), f1 144 _ (by decide), f1 144 _ (by decide), f1 144 _ (by decide)]
      exact ⟨rfl, rfl⟩)
    obtain ⟨s2, N2, q1, q2, q3, q4, q5⟩ := s_queries (q := bxA s 144 (260 + 4 * (k : Int))) hR1 ((f1 144 0 (by decide)).trans n2) n1 okq (by rw [← hs1]; exact zb_bx rfl) (by rw [f1 144 13 (by decide)]; exact g13.1) (by rw [f1 144 13 (by decide)]; exact g13.2) (by rw [f1 144 12 (by decide)]; exact g12.1)
    have e2 : ∀ j : Int, 8 ≤ j → j < 340 → s2 144 j = s 144 j := fun j j1 j2 => by
      rw [q5 144 j (Or.inr ⟨j1, j2⟩) (Or.inl (by decide)) (by decide) (by decide) (by decide) (Or.inl (by decide))]
      exact f1 144 j (by decide)
    have fo : ∀ a j, a ≠ 144 → a ≠ 147 → a ≠ 150 → a ≠ 151 → a ≠ 152 → a ≠ 153 → (a ≠ 143 ∨ j ≠ 10) → s2 a j = s a j := fun a j k1 k2 k3 k4 k5 k6 k7 => by
      rw [q5 a j (Or.inl k1) (Or.inl k2) k3 k4 k6 k7]
      exact f1 a j k5
    obtain ⟨v, s', p1, p2, p3, p4⟩ := s_done57 (σ := σ) (x := x) (T := T) hx d (k + 1) n s2 (by omega) (by omega) ((e2 9 (by decide) (by decide)).trans hT) (HI_fr8 hH e2) ⟨N2, q4, q3, q2⟩ (fun j j1 j2 => (fo 146 j (by decide) (by decide) (by decide) (by decide) (by decide) (by decide) (Or.inl (by decide))).trans (h1 j j1 j2)) (fun j j1 j2 => (fo 149 j (by decide) (by decide) (by decide) (by decide) (by decide) (by decide) (Or.inl (by decide))).trans (h2 j j1 j2)) (fun a j k1 k2 k3 k4 k5 k6 k7 k8 k9 => (fo a j k1 k2 k5 k6 k7 k8 k9).trans (h3 a j k1 k2 k3 k4 k5 k6 k7 k8 k9))
    refine ⟨v, s', ?_, p2, p3, p4⟩
    unfold g_m_done_L57
    simp only [hT]
    rw [if_neg (by omega), w32_id (x := 4 * (k : Int)) (by omega) (by omega), w32_id (x := 260 + 4 * (k : Int)) (by omega) (by omega), s_copies (by omega) (by omega) (by omega) (by omega) (by omega) (by omega), hs1]
    rw [Option.bind_some]
    try dsimp only
    rw [q1]
    rw [Option.bind_some]
    try dsimp only
    rw [w32_id (x := (k : Int) + 1) (by omega) (by omega)]
    rw [show ((k + 1 : Nat) : Int) = (k : Int) + 1 by omega] at p1
    exact p1
theorem s_done28 {x y : Int} : ∀ (d k n : Nat) (s : zS), k + d = 8 → 2 ≤ k → d < n → ∃ s', g_m_done_L28 n x y (k : Int) s = g_m_done_L57 zK y 0 (zu s' 144 12 x) ∧ ∀ a j, (a ≠ 144 ∨ j < 2 ∨ 8 ≤ j) → s' a j = s a j
  | _, _, 0, _, _, _, h => absurd h (Nat.not_lt_zero _)
  | 0, k, n + 1, s, hk, _, _ => by
    refine ⟨s, ?_, fun _ _ _ => rfl⟩
    unfold g_m_done_L28
    rw [if_pos (by omega)]
  | d + 1, k, n + 1, s, hk, hk2, hn => by
    obtain ⟨s', e1, e2⟩ := s_done28 (x := x) (y := y) d (k + 1) n (zu s 144 (k : Int) 0) (by omega) (by omega) (by omega)
    refine ⟨s', ?_, fun a j h => (e2 a j h).trans (zu_c (by omega))⟩
    unfold g_m_done_L28
    rw [if_neg (by omega), if_pos (by omega), w32_id (x := (k : Int) + 1) (by omega) (by omega)]
    rw [show ((k + 1 : Nat) : Int) = (k : Int) + 1 by omega] at e1
    exact e1
theorem s_done {σ : zS} {x y : Int} (hH : HI σ) (hx : 1 ≤ x ∧ x ≤ 99) (hy : 0 ≤ y ∧ y ≤ 5) : ∃ v s, g_m_done x y σ = some (v, s) ∧ sameIn σ s 144 144 2740 ∧ sameIn σ s 147 147 361 ∧ frD σ s := by
  obtain ⟨T, hT⟩ : ∃ T : Nat, σ 144 9 = (T : Int) := ⟨(σ 144 9).toNat, by have := hH.2.2.2.1; omega⟩
  have hT10 := hH.2.2.2.1
  obtain ⟨s1, e1, e2⟩ := s_done28 (x := x) (y := y) 6 2 zK (zu (zu (kpS σ 146 149) 144 0 0) 147 0 0) (by omega) (by omega) (by show _ < 1000000; omega)
  generalize hs2 : zu s1 144 12 x = s2 at e1
  have kp : ∀ a j, a ≠ 146 → a ≠ 149 → kpS σ 146 149 a j = σ a j := fun a j h1 h2 => by
    unfold kpS
    rw [if_neg (fun e => h1 e.1), if_neg (fun e => h2 e.1)]
  have f2 : ∀ a j, a ≠ 146 → a ≠ 149 → (a ≠ 144 ∨ (8 ≤ j ∧ j ≠ 12)) → (a ≠ 147 ∨ j ≠ 0) → s2 a j = σ a j := fun a j h1 h2 h3 h4 => by
    rw [← hs2, zu_c (by omega), e2 a j (by omega), zu_c h4, zu_c (by omega)]
    exact kp a j h1 h2
  have hH2 : HI s2 := by
    obtain ⟨g12, g13, g8, g9, g10, gt, gr⟩ := hH
    have q : ∀ j : Int, 8 ≤ j → j ≠ 12 → s2 144 j = σ 144 j := fun j h1 h2 => f2 144 j (by decide) (by decide) (Or.inr ⟨h1, h2⟩) (Or.inl (by decide))
    refine ⟨by rw [← hs2, zu_e rfl]; exact hx, by rw [q 13 (by decide) (by decide)]; exact g13, by rw [q 8 (by decide) (by decide)]; exact g8, by rw [q 9 (by decide) (by decide)]; exact g9, by rw [q 10 (by decide) (by decide)]; exact g10, fun t ht => ?_, fun r hr => ?_⟩
    · rw [q 9 (by decide) (by decide)] at ht
      unfold bxA
      rw [q _ (by omega) (by omega), q _ (by omega) (by omega), q _ (by omega) (by omega), q _ (by omega) (by omega)]
      exact gt t ht
    · rw [q _ (by omega) (by omega), q _ (by omega) (by omega)]
      exact gr r hr
  have hI2 : NI s2 := ⟨0, by decide, by rw [← hs2, zu_i (by decide), e2 144 0 (by omega), zu_a (by decide), zu_e rfl]; rfl, fun k hk => absurd hk (Nat.not_lt_zero _), fun k1 k2 _ h => absurd h (Nat.not_lt_zero _)⟩
  obtain ⟨v, s3, g1, g2, g3, g4⟩ := s_done57 (σ := σ) (x := y) (T := T) hy T 0 zK s2 (by omega) (by show _ < 1000000; omega) ((f2 144 9 (by decide) (by decide) (by omega) (Or.inl (by decide))).trans hT) hH2 hI2 (fun j j1 j2 => by
    rw [← hs2, zu_a (by decide), e2 146 j (Or.inl (by decide)), zu_a (by decide), zu_a (by decide)]
    unfold kpS
    rw [if_pos ⟨rfl, j1, j2⟩]) (fun j j1 j2 => by
    rw [← hs2, zu_a (by decide), e2 149 j (Or.inl (by decide)), zu_a (by decide), zu_a (by decide)]
    unfold kpS
    rw [if_neg (fun e => by omega), if_pos ⟨rfl, j1, j2⟩]) (fun a j k1 k2 k3 k4 k5 k6 k7 k8 k9 => f2 a j k3 k4 (Or.inl k1) (Or.inl k2))
  refine ⟨v, s3, ?_, g2, g3, g4⟩
  unfold g_m_done
  rw [s_keeps ⟨by decide, by decide, by decide, by decide, by decide⟩]
  rw [Option.bind_some]
  try dsimp only
  exact e1.trans g1
theorem s_again {σ : zS} {x y : Int} (hH : HI σ) : ∃ v s, g_m_again x y σ = some (v, s) ∧ sameIn σ s 144 144 2740 ∧ sameIn σ s 147 147 361 ∧ frD σ s := by
  have same : ∀ c : Int, ∃ c' s, (some (c, σ) : Option (Int × zS)) = some (c', s) ∧ sameIn σ s 144 144 2740 ∧ sameIn σ s 147 147 361 ∧ frD σ s := fun c => ⟨c, σ, rfl, fun _ _ _ => rfl, fun _ _ _ => rfl, fun _ _ _ _ _ _ _ _ _ _ _ => rfl⟩
  unfold g_m_again
  by_cases c1 : 0 ≤ y ∧ y ≤ 5
  · rw [s_isIn_t c1.1 c1.2]
    rw [Option.bind_some]
    try dsimp only
    rw [if_pos (by decide)]
    by_cases c2 : 1 ≤ x ∧ x ≤ 99
    · rw [s_isIn_t c2.1 c2.2]
      rw [Option.bind_some]
      try dsimp only
      rw [if_pos (by decide)]
      obtain ⟨v, s, e1, e2, e3, e4⟩ := s_done hH c2 c1
      rw [e1]
      exact ⟨v, s, rfl, e2, e3, e4⟩
    · rw [s_isIn_f (by omega)]
      rw [Option.bind_some]
      try dsimp only
      rw [if_neg (by decide)]
      exact same _
  · rw [s_isIn_f (by omega)]
    rw [Option.bind_some]
    try dsimp only
    rw [if_neg (by decide)]
    exact same _
theorem s_least2 {σ : zS} {x : Int} (hH : HI σ) : ∀ (d k n : Nat) (s : zS), k + d = 100 → 1 ≤ k → d < n → sameIn σ s 144 144 2740 → sameIn σ s 147 147 361 → frD σ s → ∃ v s', g_m_least_L2 n x (k : Int) s = some (v, s') ∧ sameIn σ s' 144 144 2740 ∧ sameIn σ s' 147 147 361 ∧ frD σ s'
  | _, _, 0, _, _, _, h, _, _, _ => absurd h (Nat.not_lt_zero _)
  | 0, k, n + 1, s, hk, _, _, h1, h2, h3 => by
    refine ⟨-5, s, ?_, h1, h2, h3⟩
    unfold g_m_least_L2
    rw [if_pos (by omega)]
  | d + 1, k, n + 1, s, hk, hk1, hn, h1, h2, h3 => by
    obtain ⟨v, s1, e1, e2, e3, e4⟩ := s_done (σ := s) (x := (k : Int)) (y := 0) (HI_in hH h1) (by omega) (by decide)
    have t1 : sameIn σ s1 144 144 2740 := fun j a b => (e2 j a b).trans (h1 j a b)
    have t2 : sameIn σ s1 147 147 361 := fun j a b => (e3 j a b).trans (h2 j a b)
    have t3 : frD σ s1 := fun a j k1 k2 k3 k4 k5 k6 k7 k8 k9 => (e4 a j k1 k2 k3 k4 k5 k6 k7 k8 k9).trans (h3 a j k1 k2 k3 k4 k5 k6 k7 k8 k9)
    unfold g_m_least_L2
    rw [if_neg (by omega), e1]
    rw [Option.bind_some]
    try dsimp only
    split
    · rw [w32_id (x := (k : Int) + 1) (by omega) (by omega), show (k : Int) + 1 = ((k + 1 : Nat) : Int) by omega]
      exact s_least2 hH d (k + 1) n s1 (by omega) (by omega) (by omega) t1 t2 t3
    · exact ⟨_, s1, rfl, t1, t2, t3⟩
theorem s_least {σ : zS} {x : Int} (hH : HI σ) : ∃ v s, g_m_least x σ = some (v, s) ∧ sameIn σ s 144 144 2740 ∧ sameIn σ s 147 147 361 ∧ frD σ s := s_least2 hH 99 1 zK σ (by omega) (by omega) (by show _ < 1000000; omega) (fun _ _ _ => rfl) (fun _ _ _ => rfl) (fun _ _ _ _ _ _ _ _ _ _ _ => rfl)
theorem s_query {σ : zS} {x x0 x1 y0 y1 : Int} (hH : HI σ) (hI : NI σ) : ∃ v s, g_m_query x x0 x1 y0 y1 σ = some (v, s) ∧ NI s ∧ HI s ∧ ∀ a j, a ≠ 152 → (a ≠ 144 ∨ (9 ≤ j ∧ j < 200) ∨ (260 ≤ j ∧ j < 340)) → (a ≠ 147 ∨ (1 ≤ j ∧ j < 61)) → a ≠ 150 → a ≠ 151 → a ≠ 153 → a ≠ 154 → a ≠ 155 → (a ≠ 143 ∨ (j ≠ 10 ∧ j ≠ 14 ∧ j ≠ 15 ∧ j ≠ 21 ∧ j ≠ 22 ∧ j ≠ 23)) → s a j = σ a j := by
  have l152 : zLI 152 = 4 := rfl
  have same : ∀ c : Int, ∃ c' s, (some (c, σ) : Option (Int × zS)) = some (c', s) ∧ NI s ∧ HI s ∧ ∀ a j, a ≠ 152 → (a ≠ 144 ∨ (9 ≤ j ∧ j < 200) ∨ (260 ≤ j ∧ j < 340)) → (a ≠ 147 ∨ (1 ≤ j ∧ j < 61)) → a ≠ 150 → a ≠ 151 → a ≠ 153 → a ≠ 154 → a ≠ 155 → (a ≠ 143 ∨ (j ≠ 10 ∧ j ≠ 14 ∧ j ≠ 15 ∧ j ≠ 21 ∧ j ≠ 22 ∧ j ≠ 23)) → s a j = σ a j := fun c => ⟨c, σ, rfl, hI, hH, fun _ _ _ _ _ _ _ _ _ _ _ => rfl⟩
  unfold g_m_query
  by_cases c1 : 0 ≤ x ∧ x ≤ 6
  · rw [s_isIn_t c1.1 c1.2]
    rw [Option.bind_some]
    try dsimp only
    rw [if_neg (by decide)]
    by_cases c2 : bOk (x0, x1, y0, y1)
    · rw [s_isBox_t c2]
      rw [Option.bind_some]
      try dsimp only
      rw [if_pos (by decide), s_sets (by omega) (by omega) (by omega)]
      rw [Option.bind_some]
      try dsimp only
      obtain ⟨N, n1, n2, n3⟩ := hI
      generalize hs1 : zb σ 152 0 (x0, x1, y0, y1) = s1
      have f1 : ∀ a j, a ≠ 152 → s1 a j = σ a j := fun a j h => by rw [← hs1]; exact zb_a h
      have hR1 : RI s1 N := RI_of n3 (fun t ht => by
        unfold rgA bxA
        dsimp only
        rw [f1 144 _ (by decide), f1 144 _ (by decide), f1 144 _ (by decide), f1 144 _ (by decide), f1 144 _ (by decide), f1 144 _ (by decide), f1 144 _ (by decide), f1 144 _ (by decide)]
        exact ⟨rfl, rfl⟩)
      obtain ⟨v, s, N', e1, e2, e3, e4, e5, e6⟩ := s_asked (x := x) (t := -1) (q := (x0, x1, y0, y1)) hR1 ((f1 144 0 (by decide)).trans n2) n1 c2 (by rw [← hs1]; exact zb_bx rfl) (by rw [f1 144 13 (by decide)]; exact hH.2.1.1) (by rw [f1 144 13 (by decide)]; exact hH.2.1.2) (by rw [f1 144 12 (by decide)]; exact hH.1.1) (fun _ _ => Or.inl (by decide))
      rw [e1]
      refine ⟨v, s, rfl, ⟨N', e4, e3, e2⟩, HI_fr hH (fun j hj => ?_) e6, fun a j k0 k1 k2 k3 k4 k5 k6 k7 k8 => ?_⟩
      · rw [e5 144 j (by omega) (Or.inl (by decide)) (by decide) (by decide) (by decide) (by decide) (by decide) (Or.inl (by decide))]
        exact f1 144 j (by decide)
      · rw [e5 a j k1 k2 k3 k4 k5 k6 k7 k8]
        exact f1 a j k0
    · rw [s_isBox_f c2]
      rw [Option.bind_some]
      try dsimp only
      rw [if_neg (by decide)]
      exact same _
  · rw [s_isIn_f (by omega)]
    exact same _
