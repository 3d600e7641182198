/-! THE REFERENCE'S WATCHES: what put() and take() make of their changes -/
def WR (σ : zS) (B : Nat → Bx) : Prop := ∀ k : Nat, k < 6 → (k : Int) < σ 144 10 → bxA σ 144 (301 + 6 * (k : Int)) = B k ∧ (0 ≤ σ 144 (300 + 6 * (k : Int)) ∧ σ 144 (300 + 6 * (k : Int)) ≤ 6) ∧ -2147483648 ≤ σ 144 (305 + 6 * (k : Int)) ∧ σ 144 (305 + 6 * (k : Int)) < 2147483648
def ok147 (σ : zS) : Prop := ∀ r : Nat, r < 60 → okL (σ 147 (1 + (r : Int)))
noncomputable def VR (σ : zS) (B : Nat → Bx) (i : Nat) : Int := valR (σ 144) (σ 147) (B i) (fun _ => true) (σ 144 (300 + 6 * (i : Int)))
/-- all of the row of ints but the changes -/
def n5 (j : Int) : Prop := j < 300 ∨ 340 ≤ j ∨ (j - 300) % 6 ≠ 5
theorem VR_ext {σ s : zS} {B : Nat → Bx} {i : Nat} (h : ∀ j, 20 ≤ j → j < 200 → s 144 j = σ 144 j) (h2 : ∀ j, 1 ≤ j → j < 61 → s 147 j = σ 147 j) (h3 : s 144 (300 + 6 * (i : Int)) = σ 144 (300 + 6 * (i : Int))) : VR s B i = VR σ B i := by
  unfold VR
  rw [valR_ext h h2, h3]
theorem WR_mv {σ s : zS} {B : Nat → Bx} (h : WR σ B) (e : ∀ j, j = 10 ∨ (300 ≤ j ∧ j < 340 ∧ n5 j) → s 144 j = σ 144 j) (e5 : ∀ k : Nat, k < 6 → (k : Int) < σ 144 10 → -2147483648 ≤ s 144 (305 + 6 * (k : Int)) ∧ s 144 (305 + 6 * (k : Int)) < 2147483648) : WR s B := fun k h1 h2 => by
  rw [e 10 (Or.inl rfl)] at h2
  obtain ⟨g1, g2, g3⟩ := h k h1 h2
  refine ⟨?_, ?_, e5 k h1 h2⟩
  · rw [← g1]
    unfold bxA
    rw [e _ (Or.inr (by unfold n5; omega)), e _ (Or.inr (by unfold n5; omega)), e _ (Or.inr (by unfold n5; omega)), e _ (Or.inr (by unfold n5; omega))]
  · rw [e _ (Or.inr (by unfold n5; omega))]
    exact g2
theorem t_values2 {σ : zS} {B : Nat → Bx} {W : Nat} (hW : σ 144 10 = (W : Int)) (hW2 : W ≤ 6) (hp : plR σ) (hB : WR σ B) (ok : ok147 σ) : ∀ (d k n : Nat) (s : zS), k + d = W → d < n → frV σ s → (∀ i : Nat, i < k → s 158 (i : Int) = VR σ B i) → ∃ s', g_m_values_L2 n (k : Int) s = some ((), s') ∧ frV σ s' ∧ ∀ i : Nat, i < W → s' 158 (i : Int) = VR σ B i
  | _, _, 0, _, _, h, _, _ => absurd h (Nat.not_lt_zero _)
  | 0, k, n + 1, s, hk, _, hf, hv => by
    refine ⟨s, ?_, hf, fun i hi => hv i (by omega)⟩
    unfold g_m_values_L2
    simp only [hf 144 10 (Or.inl (by decide)) (by decide) (by decide) (by decide), hW]
    rw [if_pos (by omega)]
  | d + 1, k, n + 1, s, hk, hn, hf, hv => by
    have e144 : s 144 = σ 144 := funext (fun j => hf 144 j (Or.inl (by decide)) (by decide) (by decide) (by decide))
    have e147 : s 147 = σ 147 := funext (fun j => hf 147 j (Or.inl (by decide)) (by decide) (by decide) (by decide))
    have e10 : s 144 10 = (W : Int) := by rw [e144]; exact hW
    obtain ⟨b1, b2, b3⟩ := hB k (by omega) (by omega)
    obtain ⟨s1, e1, e2⟩ := t_value (k := (k : Int)) (σ := s) (B := B k) (by omega) (by omega) (fun r hr => by rw [e144]; exact hp r hr) (by unfold bxA; rw [e144]; exact b1) (by rw [e144]; exact b2) (fun r hr => by rw [e147]; exact ok r hr)
    rw [e144, e147] at e1
    obtain ⟨s', f1, f2, f3⟩ := t_values2 hW hW2 hp hB ok d (k + 1) n (zu s1 158 (k : Int) (VR σ B k)) (by omega) (by omega) (fun a j h1 h2 h3 h4 => by rw [zu_a h4, e2 a j h1 h2 h3]; exact hf a j h1 h2 h3 h4) (fun i hi => by
      by_cases ci : i = k
      · subst ci
        exact zu_e rfl
      · rw [zu_i (by omega), e2 158 _ (Or.inl (by decide)) (by decide) (by decide)]
        exact hv i (by omega))
    refine ⟨s', ?_, f2, f3⟩
    unfold g_m_values_L2
    simp only [e10]
    rw [if_neg (by omega), e1]
    rw [Option.bind_some]
    try dsimp only
    rw [if_pos (by omega), w32_id (x := (k : Int) + 1) (by omega) (by omega)]
    rw [show ((k + 1 : Nat) : Int) = (k : Int) + 1 by omega] at f1
    exact f1
theorem t_values {σ : zS} {B : Nat → Bx} (h : 0 ≤ σ 144 10 ∧ σ 144 10 ≤ 6) (hp : plR σ) (hB : WR σ B) (ok : ok147 σ) : ∃ s, g_m_values σ = some ((), s) ∧ frV σ s ∧ ∀ i : Nat, (i : Int) < σ 144 10 → s 158 (i : Int) = VR σ B i := by
  obtain ⟨W, hW⟩ : ∃ W : Nat, σ 144 10 = (W : Int) := ⟨(σ 144 10).toNat, by omega⟩
  obtain ⟨s, e1, e2, e3⟩ := t_values2 hW (by omega) hp hB ok W 0 zK σ (by omega) (by show _ < 1000000; omega) (fun _ _ _ _ _ _ => rfl) (fun i hi => absurd hi (Nat.not_lt_zero _))
  exact ⟨s, e1, e2, fun i hi => e3 i (by omega)⟩
theorem t_behind6 {σ : zS} {B : Nat → Bx} {W : Nat} (hW : σ 144 10 = (W : Int)) (hW2 : W ≤ 6) (hp : plR σ) (hB : WR σ B) (ok : ok147 σ) : ∀ (d k n : Nat) (s : zS), k + d = W → d < n → (∀ a j, (a ≠ 144 ∨ n5 j) → (a ≠ 143 ∨ (j ≠ 14 ∧ j ≠ 15 ∧ j ≠ 21 ∧ j ≠ 22 ∧ j ≠ 23)) → a ≠ 154 → a ≠ 155 → s a j = σ a j) → (∀ i : Nat, i < k → s 144 (305 + 6 * (i : Int)) = chgA (σ 158 (i : Int)) (σ 144 (305 + 6 * (i : Int))) (VR σ B i)) → (∀ i : Nat, k ≤ i → i < 6 → s 144 (305 + 6 * (i : Int)) = σ 144 (305 + 6 * (i : Int))) → ∃ v s', g_m_behind_L6 n (k : Int) s = some (v, s') ∧ (∀ a j, (a ≠ 144 ∨ n5 j) → (a ≠ 143 ∨ (j ≠ 14 ∧ j ≠ 15 ∧ j ≠ 21 ∧ j ≠ 22 ∧ j ≠ 23)) → a ≠ 154 → a ≠ 155 → s' a j = σ a j) ∧ ∀ i : Nat, i < W → s' 144 (305 + 6 * (i : Int)) = chgA (σ 158 (i : Int)) (σ 144 (305 + 6 * (i : Int))) (VR σ B i)
  | _, _, 0, _, _, h, _, _, _ => absurd h (Nat.not_lt_zero _)
  | 0, k, n + 1, s, hk, _, hf, hv, _ => by
    have h10 : s 144 10 = (W : Int) := (hf 144 10 (Or.inr (by unfold n5; omega)) (Or.inl (by decide)) (by decide) (by decide)).trans hW
    refine ⟨s 144 0, s, ?_, hf, fun i hi => hv i (by omega)⟩
    unfold g_m_behind_L6
    simp only [h10]
    rw [if_pos (by omega)]
  | d + 1, k, n + 1, s, hk, hn, hf, hv, hv2 => by
    have c144 : ∀ j, n5 j → s 144 j = σ 144 j := fun j hj => hf 144 j (Or.inr hj) (Or.inl (by decide)) (by decide) (by decide)
    have e147 : s 147 = σ 147 := funext (fun j => hf 147 j (Or.inl (by decide)) (Or.inl (by decide)) (by decide) (by decide))
    have h10 : s 144 10 = (W : Int) := (c144 10 (by unfold n5; omega)).trans hW
    obtain ⟨b1, b2, b3⟩ := hB k (by omega) (by omega)
    have e300 : s 144 (300 + 6 * (k : Int)) = σ 144 (300 + 6 * (k : Int)) := c144 _ (by unfold n5; omega)
    obtain ⟨s1, e1, e2⟩ := t_value (k := (k : Int)) (σ := s) (B := B k) (by omega) (by omega) (fun r hr => by rw [c144 _ (by unfold n5; omega), c144 _ (by unfold n5; omega)]; exact hp r hr) (by
      rw [← b1]
      unfold bxA
      rw [c144 _ (by unfold n5; omega), c144 _ (by unfold n5; omega), c144 _ (by unfold n5; omega), c144 _ (by unfold n5; omega)]) (by rw [e300]; exact b2) (fun r hr => by rw [e147]; exact ok r hr)
    have ev : valR (s 144) (s 147) (B k) (fun _ => true) (s 144 (300 + 6 * (k : Int))) = VR σ B k := by
      rw [e300, e147]
      exact valR_ext (fun j j1 j2 => c144 j (by unfold n5; omega)) (fun _ _ _ => rfl)
    rw [ev] at e1
    have e305 : s 144 (300 + 6 * (k : Int) + 5) = σ 144 (305 + 6 * (k : Int)) := by
      rw [show 300 + 6 * (k : Int) + 5 = 305 + 6 * (k : Int) by omega]
      exact hv2 k (Nat.le_refl _) (by omega)
    have e158 : s1 158 (k : Int) = σ 158 (k : Int) := (e2 158 _ (Or.inl (by decide)) (by decide) (by decide)).trans (hf 158 _ (Or.inl (by decide)) (Or.inl (by decide)) (by decide) (by decide))
    have go : ∀ o : Int, w32 (σ 144 (305 + 6 * (k : Int)) + o) = chgA (σ 158 (k : Int)) (σ 144 (305 + 6 * (k : Int))) (VR σ B k) → ∃ v s', g_m_behind_L53 (g_m_behind_L6 n) (k : Int) o (s 144 (300 + 6 * (k : Int) + 5)) (300 + 6 * (k : Int) + 5) s1 = some (v, s') ∧ (∀ a j, (a ≠ 144 ∨ n5 j) → (a ≠ 143 ∨ (j ≠ 14 ∧ j ≠ 15 ∧ j ≠ 21 ∧ j ≠ 22 ∧ j ≠ 23)) → a ≠ 154 → a ≠ 155 → s' a j = σ a j) ∧ ∀ i : Nat, i < W → s' 144 (305 + 6 * (i : Int)) = chgA (σ 158 (i : Int)) (σ 144 (305 + 6 * (i : Int))) (VR σ B i) := by
      intro o ho
      rw [e305, show 300 + 6 * (k : Int) + 5 = 305 + 6 * (k : Int) by omega]
      generalize hs2 : zu s1 144 (305 + 6 * (k : Int)) (w32 (σ 144 (305 + 6 * (k : Int)) + o)) = s2
      have f144 : ∀ j, j ≠ 305 + 6 * (k : Int) → s2 144 j = s 144 j := fun j hj => by
        rw [← hs2, zu_i hj]
        exact e2 144 j (Or.inl (by decide)) (by decide) (by decide)
      obtain ⟨v', s', g1, g2, g3⟩ := t_behind6 hW hW2 hp hB ok d (k + 1) n s2 (by omega) (by omega) (fun a j h1 h2 h3 h4 => by
        by_cases ca : a = 144
        · subst ca
          have hn : n5 j := h1.resolve_left (fun h => h rfl)
          rw [f144 j (by unfold n5 at hn; omega)]
          exact c144 j hn
        · rw [← hs2, zu_a ca, e2 a j h2 h3 h4]
          exact hf a j h1 h2 h3 h4) (fun i hi => by
        by_cases ci : i = k
        · subst ci
          rw [← hs2, zu_e rfl]
          exact ho
        · rw [f144 _ (by omega)]
          exact hv i (by omega)) (fun i i1 i2 => by
        rw [f144 _ (by omega)]
        exact hv2 i (by omega) i2)
      refine ⟨v', s', ?_, g2, g3⟩
      unfold g_m_behind_L53
      rw [if_pos (by omega), w32_id (x := (k : Int) + 1) (by omega) (by omega)]
      rw [show ((k + 1 : Nat) : Int) = (k : Int) + 1 by omega, ← hs2] at g1
      exact g1
    unfold g_m_behind_L6
    simp only [h10]
    rw [if_neg (by omega), w32_id (x := 6 * (k : Int)) (by omega) (by omega), w32_id (x := 300 + 6 * (k : Int)) (by omega) (by omega), w32_id (x := 300 + 6 * (k : Int) + 5) (by omega) (by omega), if_pos (by omega), e1]
    rw [Option.bind_some]
    try dsimp +instances only
    rw [if_pos (by omega), e158]
    by_cases cv : VR σ B k = σ 158 (k : Int)
    · rw [if_pos (lCmp_eq.mpr cv)]
      exact go 0 (by
        unfold chgA
        rw [if_pos cv, w32_id (by omega) (by omega)]
        omega)
    · rw [if_neg (fun h => cv (lCmp_eq.mp h))]
      exact go 1 (by
        unfold chgA
        rw [if_neg cv])
/-- what the end of put() and take() makes -/
def chR (σ s : zS) (B : Nat → Bx) : Prop := (∀ j, (j = 10 ∨ (260 ≤ j ∧ j < 340 ∧ n5 j)) → s 144 j = σ 144 j) ∧ ∀ i : Nat, (i : Int) < σ 144 10 → s 144 (305 + 6 * (i : Int)) = chgA (σ 158 (i : Int)) (σ 144 (305 + 6 * (i : Int))) (VR s B i)
theorem t_behind {σ : zS} {N : Nat} {B : Nat → Bx} (hH : HI σ) (hR : RI σ N) (hN : σ 144 0 = (N : Int)) (hN2 : N ≤ 239) (hB : WR σ B) (ok : ok147 σ) : ∃ v s, g_m_behind σ = some (v, s) ∧ chR σ s B := by
  have hp : plR σ := hH.2.2.2.2.2.2
  obtain ⟨h12, h13, h8, h9, h10, -, -⟩ := hH
  obtain ⟨s1, N', e1, e2, e3, e4, e5, e6⟩ := s_trims hR hN hN2 h13.1 h12.1
  obtain ⟨W, hW⟩ : ∃ W : Nat, σ 144 10 = (W : Int) := ⟨(σ 144 10).toNat, by omega⟩
  have c144 : ∀ j, 8 ≤ j → j < 340 → s1 144 j = σ 144 j := fun j j1 j2 => e5 144 j (by omega) (Or.inl (by decide))
  have c147 : ∀ j, 1 ≤ j → j < 61 → s1 147 j = σ 147 j := fun j j1 j2 => e5 147 j (Or.inl (by decide)) (by omega)
  have c158 : ∀ j, s1 158 j = σ 158 j := fun j => e5 158 j (Or.inl (by decide)) (Or.inl (by decide))
  have hB1 : WR s1 B := WR_mv hB (fun j hj => c144 j (by omega) (by omega)) (fun k h1 h2 => by
    rw [c144 _ (by omega) (by omega)]
    exact (hB k h1 h2).2.2)
  obtain ⟨v, s2, f1, f2, f3⟩ := t_behind6 (σ := s1) (B := B) ((c144 10 (by omega) (by omega)).trans hW) (by omega) (fun r hr => by rw [c144 _ (by omega) (by omega), c144 _ (by omega) (by omega)]; exact hp r hr) hB1 (fun r hr => by rw [c147 _ (by omega) (by omega)]; exact ok r hr) W 0 zK s1 (by omega) (by show _ < 1000000; omega) (fun _ _ _ _ _ _ => rfl) (fun i hi => absurd hi (Nat.not_lt_zero _)) (fun _ _ _ => rfl)
  have d144 : ∀ j, 8 ≤ j → j < 340 → n5 j → s2 144 j = σ 144 j := fun j j1 j2 j3 => (f2 144 j (Or.inr j3) (Or.inl (by decide)) (by decide) (by decide)).trans (c144 j j1 j2)
  refine ⟨v, s2, ?_, fun j hj => d144 j (by omega) (by omega) (by unfold n5 at *; omega), fun i hi => ?_⟩
  · unfold g_m_behind
    rw [e1]
    exact f1
  · have ev : VR s2 B i = VR s1 B i := VR_ext (fun j j1 j2 => f2 144 j (Or.inr (by unfold n5; omega)) (Or.inl (by decide)) (by decide) (by decide)) (fun j _ _ => f2 147 j (Or.inl (by decide)) (Or.inl (by decide)) (by decide) (by decide)) (f2 144 _ (Or.inr (by unfold n5; omega)) (Or.inl (by decide)) (by decide) (by decide))
    rw [f3 i (by omega), ev, c158, c144 _ (by omega) (by omega)]
theorem t_put72W {σ : zS} {N : Nat} {B : Nat → Bx} {r x y v : Int} (hH : HI σ) (hR : RI σ N) (hN : σ 144 0 = (N : Int)) (hN2 : N ≤ 100) (hr : 0 ≤ r ∧ r < 60) (hx : 0 ≤ x ∧ x ≤ 31) (hy : 0 ≤ y ∧ y ≤ 31) (hB : WR σ B) (ok : ok147 σ) (hv : okL v) : ∃ c s, g_m_put_L72 r x y v σ = some (c, s) ∧ chR σ s B := by
  obtain ⟨k, rfl⟩ : ∃ k : Nat, r = (k : Int) := ⟨r.toNat, by omega⟩
  generalize hs1 : zu (zu (zu (zu σ 144 (20 + 3 * (k : Int)) 1) 144 (21 + 3 * (k : Int)) x) 144 (22 + 3 * (k : Int)) y) 147 (1 + (k : Int)) v = s1
  have f1 : ∀ a j, (a ≠ 144 ∨ j < 20 + 3 * (k : Int) ∨ 23 + 3 * (k : Int) ≤ j) → (a ≠ 147 ∨ j ≠ 1 + (k : Int)) → s1 a j = σ a j := fun a j h1 h2 => by
    rw [← hs1, zu_c h2, zu_c (by omega), zu_c (by omega), zu_c (by omega)]
  have rows1 : ∀ t : Nat, t < 60 → (0 ≤ s1 144 (21 + 3 * (t : Int)) ∧ s1 144 (21 + 3 * (t : Int)) ≤ 31) ∧ (0 ≤ s1 144 (22 + 3 * (t : Int)) ∧ s1 144 (22 + 3 * (t : Int)) ≤ 31) := fun t ht => by
    by_cases c : t = k
    · subst c
      have e1 : s1 144 (21 + 3 * (t : Int)) = x := by rw [← hs1, zu_a (by decide), zu_i (by omega), zu_e rfl]
      have e2 : s1 144 (22 + 3 * (t : Int)) = y := by rw [← hs1, zu_a (by decide), zu_e rfl]
      rw [e1, e2]
      exact ⟨hx, hy⟩
    · rw [f1 144 _ (by omega) (Or.inl (by decide)), f1 144 _ (by omega) (Or.inl (by decide))]
      exact hH.2.2.2.2.2.2 t ht
  have hH1 : HI s1 := HI_P hH (fun j hj => f1 144 j (by omega) (Or.inl (by decide))) rows1
  have hR1 : RI s1 N := RI_of hR (fun t ht => by
    unfold rgA bxA
    try dsimp only
    rw [f1 144 _ (by omega) (Or.inl (by decide)), f1 144 _ (by omega) (Or.inl (by decide)), f1 144 _ (by omega) (Or.inl (by decide)), f1 144 _ (by omega) (Or.inl (by decide)), f1 144 _ (by omega) (Or.inl (by decide)), f1 144 _ (by omega) (Or.inl (by decide)), f1 144 _ (by omega) (Or.inl (by decide)), f1 144 _ (by omega) (Or.inl (by decide))]
    exact ⟨rfl, rfl⟩)
  have hN1 : s1 144 0 = (N : Int) := (f1 144 0 (by omega) (Or.inl (by decide))).trans hN
  obtain ⟨s2, N2, g1, g2, g3, g4, g5⟩ := s_writes hR1 hN1 hN2 hx hy
  have hH2 : HI s2 := HI_fr8 hH1 (fun j h1 h2 => g5 144 j (Or.inr ⟨h1, h2⟩) (Or.inl (by decide)) (by decide) (by decide) (by decide))
  have c2 : ∀ j, (j = 10 ∨ (260 ≤ j ∧ j < 340)) → s2 144 j = σ 144 j := fun j hj => by
    rw [g5 144 j (Or.inr (by omega)) (Or.inl (by decide)) (by decide) (by decide) (by decide), f1 144 j (by omega) (Or.inl (by decide))]
  have hB2 : WR s2 B := WR_mv hB (fun j hj => c2 j (by omega)) (fun i h1 h2 => by
    rw [c2 _ (by omega)]
    exact (hB i h1 h2).2.2)
  have ok2 : ok147 s2 := fun q hq => by
    rw [g5 147 _ (Or.inl (by decide)) (by omega) (by decide) (by decide) (by decide)]
    by_cases c : q = k
    · subst c
      rw [← hs1, zu_e rfl]
      exact hv
    · rw [f1 147 _ (Or.inl (by decide)) (by omega)]
      exact ok q hq
  have e158 : ∀ j, s2 158 j = σ 158 j := fun j => (g5 158 j (Or.inl (by decide)) (Or.inl (by decide)) (by decide) (by decide) (by decide)).trans (f1 158 j (Or.inl (by decide)) (Or.inl (by decide)))
  obtain ⟨c, s3, k1, k2, k3⟩ := t_behind hH2 g2 g3 (by omega) hB2 ok2
  refine ⟨c, s3, ?_, fun j hj => (k2 j hj).trans (c2 j (by omega)), fun i hi => ?_⟩
  · unfold g_m_put_L72
    rw [s_rowAt (by omega) (by omega)]
    rw [Option.bind_some]
    try dsimp only
    rw [if_pos (by omega), s_rowAt (by omega) (by omega)]
    rw [Option.bind_some]
    try dsimp only
    rw [w32_id (x := 20 + 3 * (k : Int) + 1) (by omega) (by omega), if_pos (by omega), s_rowAt (by omega) (by omega)]
    rw [Option.bind_some]
    try dsimp only
    rw [w32_id (x := 20 + 3 * (k : Int) + 2) (by omega) (by omega), if_pos (by omega), w32_id (x := 1 + (k : Int)) (by omega) (by omega), if_pos (by omega), show 20 + 3 * (k : Int) + 1 = 21 + 3 * (k : Int) by omega, show 20 + 3 * (k : Int) + 2 = 22 + 3 * (k : Int) by omega, hs1, g1]
    rw [Option.bind_some]
    try dsimp only
    rw [k1]
    rfl
  · have h := k3 i (by rw [c2 10 (Or.inl rfl)]; exact hi)
    rw [e158, c2 _ (by have := hH.2.2.2.2.1; omega)] at h
    exact h
/-- what put() and take() make of the changes -/
def chP (σ s : zS) (B : Nat → Bx) : Prop := (∀ j, (j = 10 ∨ (260 ≤ j ∧ j < 340 ∧ n5 j)) → s 144 j = σ 144 j) ∧ ∀ i : Nat, (i : Int) < σ 144 10 → s 144 (305 + 6 * (i : Int)) = chgA (VR σ B i) (σ 144 (305 + 6 * (i : Int))) (VR s B i)
theorem t_putW {σ : zS} {B : Nat → Bx} {r x y v : Int} (hH : HI σ) (hI : NI σ) (hB : WR σ B) (ok : ok147 σ) (hv : okL v) : ∃ c s, g_m_put r x y v σ = some (c, s) ∧ (acc r x y v → chP σ s B) ∧ (¬ acc r x y v → s = σ) := by
  have same : ∀ c : Int, ¬ acc r x y v → ∃ c' s, (some (c, σ) : Option (Int × zS)) = some (c', s) ∧ (acc r x y v → chP σ s B) ∧ (¬ acc r x y v → s = σ) := fun c h => ⟨c, σ, rfl, fun k => absurd k h, fun _ => rfl⟩
  unfold g_m_put
  rw [s_isRow]
  rw [Option.bind_some]
  try dsimp only
  by_cases c1 : 0 ≤ r ∧ r < 60
  · rw [if_pos c1, if_pos (by decide)]
    by_cases c2 : 0 ≤ x ∧ x ≤ 31
    · rw [s_isIn_t c2.1 c2.2]
      rw [Option.bind_some]
      try dsimp only
      rw [if_neg (by decide)]
      by_cases c3 : 0 ≤ y ∧ y ≤ 31
      · rw [s_isIn_t c3.1 c3.2]
        rw [Option.bind_some]
        try dsimp only
        rw [if_neg (by decide)]
        by_cases c4 : lCmp v (-9223372036854775808) = 0
        · rw [if_pos c4]
          exact same _ (fun h => h.2.2.2.1 (lCmp_eq.mp c4))
        · rw [if_neg c4]
          by_cases c5 : lCmp v (-9223372036854775807) ≠ 0
          · rw [if_pos c5]
            have hacc : acc r x y v := ⟨c1, c2, c3, fun h => c4 (lCmp_eq.mpr h), fun h => c5 (lCmp_eq.mpr h)⟩
            obtain ⟨s1, e1, e2, e3⟩ := t_values (σ := σ) (B := B) hH.2.2.2.2.1 hH.2.2.2.2.2.2 hB ok
            rw [e1]
            rw [Option.bind_some]
            try dsimp only
            rw [s_rowAt (by omega) (by omega)]
            rw [Option.bind_some]
            try dsimp only
            rw [if_pos (by omega)]
            have hH1 := HI_V hH e2
            have e144 : ∀ j, s1 144 j = σ 144 j := fun j => e2 144 j (Or.inl (by decide)) (by decide) (by decide) (by decide)
            have e147 : ∀ j, s1 147 j = σ 147 j := fun j => e2 147 j (Or.inl (by decide)) (by decide) (by decide) (by decide)
            have hB1 : WR s1 B := WR_mv hB (fun j _ => e144 j) (fun k h1 h2 => by rw [e144]; exact (hB k h1 h2).2.2)
            have ok1 : ok147 s1 := fun q hq => by rw [e147]; exact ok q hq
            obtain ⟨N, n1, n2, n3⟩ := NI_fr (s := s1) hI (fun j _ => e144 j)
            split
            · obtain ⟨c, s, g1, g2, g3⟩ := t_put72W (v := v) hH1 n3 n2 (by omega) c1 c2 c3 hB1 ok1 hv
              refine ⟨c, s, g1, fun _ => ⟨fun j hj => (g2 j hj).trans (e144 j), fun i hi => ?_⟩, fun h => absurd hacc h⟩
              have h := g3 i (by rw [e144]; exact hi)
              rw [e144, e3 i hi] at h
              exact h
            · obtain ⟨s2, N2, g1, g2, g3, g4, g5⟩ := s_out hH1 n3 n2 (by omega) c1
              rw [g1]
              rw [Option.bind_some]
              try dsimp only
              have z1 : HI (zu s1 144 (20 + 3 * r) 0) := HI_P hH1 (fun j hj => zu_i (by omega)) (fun t ht => by rw [zu_i (by omega), zu_i (by omega)]; exact hH1.2.2.2.2.2.2 t ht)
              have hH2 : HI s2 := HI_fr8 z1 (fun j h1 h2 => g5 144 j (Or.inr ⟨h1, h2⟩) (Or.inl (by decide)) (by decide) (by decide) (by decide))
              have c2' : ∀ j, (j = 10 ∨ (260 ≤ j ∧ j < 340)) → s2 144 j = σ 144 j := fun j hj => by
                rw [g5 144 j (Or.inr (by omega)) (Or.inl (by decide)) (by decide) (by decide) (by decide), zu_i (by omega), e144]
              have hB2 : WR s2 B := WR_mv hB (fun j hj => c2' j (by omega)) (fun i h1 h2 => by
                rw [c2' _ (by omega)]
                exact (hB i h1 h2).2.2)
              have ok2 : ok147 s2 := fun q hq => by
                rw [g5 147 _ (Or.inl (by decide)) (by omega) (by decide) (by decide) (by decide), zu_a (by decide)]
                exact ok1 q hq
              have e158 : ∀ j, s2 158 j = s1 158 j := fun j => (g5 158 j (Or.inl (by decide)) (Or.inl (by decide)) (by decide) (by decide) (by decide)).trans (zu_a (by decide))
              obtain ⟨c, s, k1, k2, k3⟩ := t_put72W (v := v) hH2 g2 g3 (by omega) c1 c2 c3 hB2 ok2 hv
              refine ⟨c, s, k1, fun _ => ⟨fun j hj => (k2 j hj).trans (c2' j (by omega)), fun i hi => ?_⟩, fun h => absurd hacc h⟩
              have h := k3 i (by rw [c2' 10 (Or.inl rfl)]; exact hi)
              rw [c2' _ (by have := hH.2.2.2.2.1; omega), e158, e3 i hi] at h
              exact h
          · rw [if_neg c5]
            exact same _ (fun h => c5 (fun e => h.2.2.2.2 (lCmp_eq.mp e)))
      · rw [s_isIn_f (by omega)]
        exact same _ (fun h => c3 h.2.2.1)
    · rw [s_isIn_f (by omega)]
      exact same _ (fun h => c2 h.2.1)
  · rw [if_neg c1, if_neg (by decide)]
    exact same _ (fun h => c1 h.1)
theorem t_takeW {σ : zS} {B : Nat → Bx} {r : Int} (hH : HI σ) (hI : NI σ) (hB : WR σ B) (ok : ok147 σ) : ∃ c s, g_m_take r σ = some (c, s) ∧ ((0 ≤ r ∧ r < 60) ∧ σ 144 (20 + 3 * r) ≠ 0 → chP σ s B) ∧ (¬ ((0 ≤ r ∧ r < 60) ∧ σ 144 (20 + 3 * r) ≠ 0) → s = σ) := by
  have same : ∀ c : Int, ¬ ((0 ≤ r ∧ r < 60) ∧ σ 144 (20 + 3 * r) ≠ 0) → ∃ c' s, (some (c, σ) : Option (Int × zS)) = some (c', s) ∧ ((0 ≤ r ∧ r < 60) ∧ σ 144 (20 + 3 * r) ≠ 0 → chP σ s B) ∧ (¬ ((0 ≤ r ∧ r < 60) ∧ σ 144 (20 + 3 * r) ≠ 0) → s = σ) := fun c h => ⟨c, σ, rfl, fun k => absurd k h, fun _ => rfl⟩
  unfold g_m_take
  rw [s_isRow]
  rw [Option.bind_some]
  try dsimp only
  by_cases c1 : 0 ≤ r ∧ r < 60
  · rw [if_pos c1, if_pos (by decide), s_rowAt (by omega) (by omega)]
    rw [Option.bind_some]
    try dsimp +instances only
    rw [if_pos (by omega)]
    by_cases c2 : σ 144 (20 + 3 * r) ≠ 0
    · rw [if_pos c2]
      obtain ⟨s1, e1, e2, e3⟩ := t_values (σ := σ) (B := B) hH.2.2.2.2.1 hH.2.2.2.2.2.2 hB ok
      rw [e1]
      rw [Option.bind_some]
      try dsimp only
      have hH1 := HI_V hH e2
      have e144 : ∀ j, s1 144 j = σ 144 j := fun j => e2 144 j (Or.inl (by decide)) (by decide) (by decide) (by decide)
      have e147 : ∀ j, s1 147 j = σ 147 j := fun j => e2 147 j (Or.inl (by decide)) (by decide) (by decide) (by decide)
      obtain ⟨N, n1, n2, n3⟩ := NI_fr (s := s1) hI (fun j _ => e144 j)
      obtain ⟨s2, N2, g1, g2, g3, g4, g5⟩ := s_out hH1 n3 n2 (by omega) c1
      rw [g1]
      rw [Option.bind_some]
      try dsimp only
      have z1 : HI (zu s1 144 (20 + 3 * r) 0) := HI_P hH1 (fun j hj => zu_i (by omega)) (fun t ht => by rw [zu_i (by omega), zu_i (by omega)]; exact hH1.2.2.2.2.2.2 t ht)
      have hH2 : HI s2 := HI_fr8 z1 (fun j h1 h2 => g5 144 j (Or.inr ⟨h1, h2⟩) (Or.inl (by decide)) (by decide) (by decide) (by decide))
      have c2' : ∀ j, (j = 10 ∨ (260 ≤ j ∧ j < 340)) → s2 144 j = σ 144 j := fun j hj => by
        rw [g5 144 j (Or.inr (by omega)) (Or.inl (by decide)) (by decide) (by decide) (by decide), zu_i (by omega), e144]
      have hB2 : WR s2 B := WR_mv hB (fun j hj => c2' j (by omega)) (fun i h1 h2 => by
        rw [c2' _ (by omega)]
        exact (hB i h1 h2).2.2)
      have ok2 : ok147 s2 := fun q hq => by
        rw [g5 147 _ (Or.inl (by decide)) (by omega) (by decide) (by decide) (by decide), zu_a (by decide), e147]
        exact ok q hq
      have e158 : ∀ j, s2 158 j = s1 158 j := fun j => (g5 158 j (Or.inl (by decide)) (Or.inl (by decide)) (by decide) (by decide) (by decide)).trans (zu_a (by decide))
      obtain ⟨c, s3, k1, k2, k3⟩ := t_behind hH2 g2 g3 (by omega) hB2 ok2
      rw [k1]
      rw [Option.bind_some]
      refine ⟨c, s3, rfl, fun _ => ⟨fun j hj => (k2 j hj).trans (c2' j (by omega)), fun i hi => ?_⟩, fun h => absurd ⟨c1, c2⟩ h⟩
      have h := k3 i (by rw [c2' 10 (Or.inl rfl)]; exact hi)
      rw [c2' _ (by have := hH.2.2.2.2.1; omega), e158, e3 i hi] at h
      exact h
    · rw [if_neg c2]
      exact same _ (fun h => c2 h.2)
  · rw [if_neg c1, if_neg (by decide)]
    exact same _ (fun h => c1 h.1)
