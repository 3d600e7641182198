/-! THE REFERENCE gathers: the rows of a box that a test holds for, by their order -/
def oF (σ : zS) (m : Nat) (v : Int) : Int := 32 * σ m (21 + 3 * v) + σ m (22 + 3 * v)
def KR (σ : zS) (m : Nat) (v : Int) : Int := (σ m (21 + 3 * v) * 32 + σ m (22 + 3 * v)) * 60 + v
def selR (σ : zS) (m : Nat) (B : Bx) (T : Int → Bool) (v : Int) : Prop := ∃ q : Nat, q < 60 ∧ v = (q : Int) ∧ σ m (20 + 3 * (q : Int)) ≠ 0 ∧ bIn B (σ m (21 + 3 * (q : Int))) (σ m (22 + 3 * (q : Int))) ∧ T (q : Int) = true
def plR (σ : zS) : Prop := ∀ r : Nat, r < 60 → (0 ≤ σ 144 (21 + 3 * (r : Int)) ∧ σ 144 (21 + 3 * (r : Int)) ≤ 31) ∧ (0 ≤ σ 144 (22 + 3 * (r : Int)) ∧ σ 144 (22 + 3 * (r : Int)) ≤ 31)
theorem t_orderOf {v : Int} {σ : zS} (hp : plR σ) (h1 : 0 ≤ v) (h2 : v < 60) : g_m_orderOf v σ = some (oF σ 144 v, σ) := by
  obtain ⟨q, rfl⟩ : ∃ q : Nat, v = (q : Int) := ⟨v.toNat, by omega⟩
  have hb := hp q (by omega)
  rw [s_orderOf h1 h2, w32_id (x := 32 * σ 144 (21 + 3 * (q : Int))) (by omega) (by omega), w32_id (by omega) (by omega)]
  rfl
theorem t_g90 {a : Nat} {g : Int → Int → Int → zS → Option (Unit × zS)} {i t r : Int} {m : Nat} (hr : vRow r) (hm2 : m < 60) : ∀ (k n : Nat) (s : zS), k < n → k ≤ m → plR s → s 143 14 = (m : Int) → (∀ j : Nat, j < k → vRow (s 154 (j : Int))) → ∃ s', g_m_gathers_L90 a g n i t r (k : Int) s = g i t (r + 1) s' ∧ s' 143 14 = ((m + 1 : Nat) : Int) ∧ frG s s' ∧ ∃ p : Nat, p ≤ k ∧ (∀ j : Nat, j < p → s' 154 (j : Int) = s 154 (j : Int)) ∧ s' 154 (p : Int) = r ∧ (∀ j : Nat, p ≤ j → j < k → s' 154 ((j : Int) + 1) = s 154 (j : Int)) ∧ (∀ j : Int, (k : Int) < j → s' 154 j = s 154 j) ∧ (∀ j : Nat, p ≤ j → j < k → oF s 144 r < oF s 144 (s 154 (j : Int))) ∧ (p = 0 ∨ oF s 144 (s 154 ((p : Int) - 1)) ≤ oF s 144 r)
  | _, 0, _, h, _, _, _, _ => absurd h (Nat.not_lt_zero _)
  | k, n + 1, s, hn, hk, hp, hm, hv => by
    have hr' := hr
    unfold vRow at hr'
    have fin : (k = 0 ∨ oF s 144 (s 154 ((k : Int) - 1)) ≤ oF s 144 r) → ∃ s', g_m_gathers_L139 a g i t r (k : Int) s = g i t (r + 1) s' ∧ s' 143 14 = ((m + 1 : Nat) : Int) ∧ frG s s' ∧ ∃ p : Nat, p ≤ k ∧ (∀ j : Nat, j < p → s' 154 (j : Int) = s 154 (j : Int)) ∧ s' 154 (p : Int) = r ∧ (∀ j : Nat, p ≤ j → j < k → s' 154 ((j : Int) + 1) = s 154 (j : Int)) ∧ (∀ j : Int, (k : Int) < j → s' 154 j = s 154 j) ∧ (∀ j : Nat, p ≤ j → j < k → oF s 144 r < oF s 144 (s 154 (j : Int))) ∧ (p = 0 ∨ oF s 144 (s 154 ((p : Int) - 1)) ≤ oF s 144 r) := fun h => by
      refine ⟨zu (zu s 154 (k : Int) r) 143 14 ((m : Int) + 1), ?_, ?_, fun b j h1 h2 h3 => ?_, k, Nat.le_refl _, fun j hj => ?_, ?_, fun j j1 j2 => absurd j2 (by omega), fun j hj => ?_, fun j j1 j2 => absurd j2 (by omega), h⟩
      · unfold g_m_gathers_L139 g_m_gathers_L158
        rw [if_pos (by omega)]
        simp only [zu_a (show (143 : Nat) ≠ 154 by decide), hm]
        rw [w32_id (x := (m : Int) + 1) (by omega) (by omega), w32_id (x := r + 1) (by omega) (by omega)]
      · rw [zu_e rfl]; omega
      · rw [zu_c (by omega), zu_a h2]
      · rw [zu_a (by decide), zu_i (by omega)]
      · rw [zu_a (by decide), zu_e rfl]
      · rw [zu_a (by decide), zu_i (by omega)]
    unfold g_m_gathers_L90
    by_cases c : k = 0
    · subst c
      rw [if_pos (by omega)]
      exact fin (Or.inl rfl)
    · obtain ⟨k, rfl⟩ : ∃ k', k = k' + 1 := ⟨k - 1, by omega⟩
      have hv1 := hv k (by omega)
      have hv1' := hv1
      unfold vRow at hv1'
      rw [if_neg (by omega), w32_id (x := ((k + 1 : Nat) : Int) - 1) (by omega) (by omega), if_pos (by omega), show ((k + 1 : Nat) : Int) - 1 = (k : Int) by omega]
      rw [show ((k + 1 : Nat) : Int) - 1 = (k : Int) by omega] at fin
      show ∃ s', (g_m_orderOf (s 154 (k : Int)) s).bind _ = _ ∧ _
      rw [t_orderOf hp hv1'.1 hv1'.2]
      rw [Option.bind_some]
      try dsimp only
      rw [t_orderOf hp hr'.1 hr'.2]
      rw [Option.bind_some]
      try dsimp only
      by_cases c2 : oF s 144 (s 154 (k : Int)) ≤ oF s 144 r
      · rw [if_pos c2]
        exact fin (Or.inr c2)
      · rw [if_neg c2, if_pos (by omega), if_pos (by omega)]
        generalize hs : zu s 154 ((k + 1 : Nat) : Int) (s 154 (k : Int)) = s1
        have q : ∀ b j, (b ≠ 154 ∨ j ≠ ((k + 1 : Nat) : Int)) → s1 b j = s b j := fun b j h => by rw [← hs]; exact zu_c h
        have qk : s1 154 ((k + 1 : Nat) : Int) = s 154 (k : Int) := by rw [← hs]; exact zu_e rfl
        have qo : ∀ v, oF s1 144 v = oF s 144 v := fun v => by
          unfold oF
          rw [q 144 _ (Or.inl (by decide)), q 144 _ (Or.inl (by decide))]
        have hp1 : plR s1 := fun r hr => by
          rw [q 144 _ (Or.inl (by decide)), q 144 _ (Or.inl (by decide))]
          exact hp r hr
        obtain ⟨s', e1, e2, e3, p, p0, p1, p2, p3, p4, p5, p6⟩ := t_g90 (a := a) (g := g) (i := i) (t := t) hr hm2 k n s1 (by omega) (by omega) hp1 (by rw [q 143 14 (Or.inl (by decide))]; exact hm) (fun j hj => by rw [q 154 _ (Or.inr (by omega))]; exact hv j (by omega))
        refine ⟨s', e1, e2, fun b j h1 h2 h3 => (e3 b j h1 h2 h3).trans (q b j (Or.inl h2)), p, by omega, fun j hj => by rw [p1 j hj, q 154 _ (Or.inr (by omega))], p2, fun j j1 j2 => ?_, fun j hj => by rw [p4 j (by omega), q 154 _ (Or.inr (by omega))], fun j j1 j2 => ?_, ?_⟩
        · by_cases cj : j = k
          · subst cj
            rw [p4 ((j : Int) + 1) (by omega), show (j : Int) + 1 = ((j + 1 : Nat) : Int) by omega]
            exact qk
          · rw [p3 j j1 (by omega), q 154 _ (Or.inr (by omega))]
        · by_cases cj : j = k
          · subst cj; omega
          · have e := p5 j j1 (by omega)
            rw [qo, qo, q 154 _ (Or.inr (by omega))] at e
            exact e
        · rcases p6 with h | h
          · exact Or.inl h
          · by_cases cp : p = 0
            · exact Or.inl cp
            · rw [qo, qo, q 154 _ (Or.inr (by omega))] at h
              exact Or.inr h
/-- a test told: it comes to T of the row, and writes nothing but where it reads -/
def tstT (σ : zS) (t : Int) (T : Int → Bool) : Prop := (t < 0 ∧ ∀ r, T r = true) ∨ (¬ t < 0 ∧ ∀ s : zS, frG σ s → ∀ r : Int, 0 ≤ r → r < 60 → ∃ b s', g_grp231 zR 231 r (zu s 143 21 t) = some (b, s') ∧ (b ≠ 0 ↔ T r = true) ∧ ∀ a j, (a ≠ 143 ∨ (j ≠ 21 ∧ j ≠ 22 ∧ j ≠ 23)) → s' a j = s a j)
theorem tstT.no (σ : zS) : tstT σ (-1) (fun _ => true) := Or.inl ⟨by decide, fun _ => rfl⟩
theorem t_g8 {a : Nat} {i t : Int} {σ : zS} {T : Int → Bool} {B : Bx} (h1 : 0 ≤ i) (h2 : i + 3 < zLI a) (h3 : zLI a ≤ 100000) (h4 : a ≠ 143) (h5 : a ≠ 154) (h6 : a ≠ 155) (hB : bxA σ a i = B) (hp : plR σ) (ht : tstT σ t T) : ∀ (d k n m : Nat) (s : zS), k + d = 60 → d < n → m ≤ k → frG σ s → s 143 14 = (m : Int) → (sg (s 154) 0 m).Pairwise (fun a b => KR σ 144 a < KR σ 144 b) → (∀ v, v ∈ sg (s 154) 0 m ↔ selR σ 144 B T v ∧ v < (k : Int)) → ∃ s' m', g_m_gathers_L8 a n i t (k : Int) s = g_m_gathers_L167 a zK 0 s' ∧ m' ≤ 60 ∧ frG σ s' ∧ s' 143 14 = ((m' : Nat) : Int) ∧ SL (KR σ 144) (selR σ 144 B T) (sg (s' 154) 0 m')
  | _, _, 0, _, _, _, h, _, _, _, _, _ => absurd h (Nat.not_lt_zero _)
  | 0, k, n + 1, m, s, hk, _, hmk, hf, hm, hpw, hmem => by
    refine ⟨s, m, ?_, by omega, hf, hm, hpw, fun v => ?_⟩
    · unfold g_m_gathers_L8
      rw [if_pos (by omega)]
    · rw [hmem v]
      constructor
      · exact fun h => h.1
      · intro h
        refine ⟨h, ?_⟩
        obtain ⟨q, q1, q2, -⟩ := h
        omega
  | d + 1, k, n + 1, m, s, hk, hn, hmk, hf, hm, hpw, hmem => by
    have ek : ((k + 1 : Nat) : Int) = (k : Int) + 1 := by omega
    have c144 : ∀ j, s 144 j = σ 144 j := fun j => hf 144 j (Or.inl (by decide)) (by decide) (by decide)
    have skip : ∀ s2 : zS, frG s s2 → s2 143 14 = (m : Int) → (∀ j, s2 154 j = s 154 j) → ¬ selR σ 144 B T (k : Int) → ∃ s' m', g_m_gathers_L158 a (g_m_gathers_L8 a n) i t (k : Int) s2 = g_m_gathers_L167 a zK 0 s' ∧ m' ≤ 60 ∧ frG σ s' ∧ s' 143 14 = ((m' : Nat) : Int) ∧ SL (KR σ 144) (selR σ 144 B T) (sg (s' 154) 0 m') := by
      intro s2 g1 g2 g3 g4
      unfold g_m_gathers_L158
      rw [w32_id (x := (k : Int) + 1) (by omega) (by omega), ← ek]
      have e : sg (s2 154) 0 m = sg (s 154) 0 m := sg_ext m 0 0 (fun j _ => g3 _)
      refine t_g8 h1 h2 h3 h4 h5 h6 hB hp ht d (k + 1) n m s2 (by omega) (by omega) (by omega) (hf.trans g1) g2 (by rw [e]; exact hpw) (fun v => ?_)
      rw [e, hmem v]
      constructor
      · exact fun h => ⟨h.1, by omega⟩
      · intro h
        refine ⟨h.1, ?_⟩
        have hne : v ≠ (k : Int) := fun e => g4 (e ▸ h.1)
        omega
    have take : ∀ s2 : zS, frG s s2 → s2 143 14 = (m : Int) → (∀ j, s2 154 j = s 154 j) → selR σ 144 B T (k : Int) → ∃ s' m', g_m_gathers_L84 a (g_m_gathers_L8 a n) i t (k : Int) s2 = g_m_gathers_L167 a zK 0 s' ∧ m' ≤ 60 ∧ frG σ s' ∧ s' 143 14 = ((m' : Nat) : Int) ∧ SL (KR σ 144) (selR σ 144 B T) (sg (s' 154) 0 m') := by
      intro s2 g1 g2 g3 g4
      unfold g_m_gathers_L84
      show ∃ s' m', g_m_gathers_L90 a (g_m_gathers_L8 a n) zK i t (k : Int) (s2 143 14) s2 = _ ∧ _
      rw [g2]
      have d144 : ∀ j, s2 144 j = σ 144 j := fun j => (g1 144 j (Or.inl (by decide)) (by decide) (by decide)).trans (c144 j)
      have eO : ∀ v, oF s2 144 v = oF σ 144 v := fun v => by
        unfold oF
        rw [d144, d144]
      have old : ∀ j : Nat, j < m → ∃ q : Nat, q < 60 ∧ s 154 (j : Int) = (q : Int) ∧ q < k := fun j hj => by
        obtain ⟨⟨q, q1, q2, -⟩, q3⟩ := (hmem (s 154 (j : Int))).mp ((sg_mem m 0).mpr ⟨j, hj, by rw [show (0 : Int) + (j : Int) = (j : Int) by omega]⟩)
        exact ⟨q, q1, q2, by omega⟩
      obtain ⟨s3, e1, e2, e4, p, p0, p1, p2, p3, p4, p5, p6⟩ := t_g90 (a := a) (g := g_m_gathers_L8 a n) (i := i) (t := t) (r := (k : Int)) (m := m) (show 0 ≤ (k : Int) ∧ (k : Int) < 60 by omega) (by omega) m zK s2 (by show _ < 1000000; omega) (Nat.le_refl _) (fun r hr => by rw [d144, d144]; exact hp r hr) g2 (fun j hj => by
        rw [g3]
        obtain ⟨q, q1, q2, -⟩ := old j hj
        show 0 ≤ _ ∧ _ < 60
        omega)
      rw [e1, ← ek]
      have kv : ∀ v, KR σ 144 v = oF σ 144 v * 60 + v := fun v => by
        unfold KR oF
        omega
      have low : ∀ j : Nat, j < p → KR σ 144 (s2 154 (j : Int)) < KR σ 144 (k : Int) := fun j hj => by
        have hp0 : p ≠ 0 := by omega
        have h6 := p6.resolve_left hp0
        rw [eO, eO, g3] at h6
        obtain ⟨q, q1, q2, q3⟩ := old (p - 1) (by omega)
        rw [show ((p - 1 : Nat) : Int) = (p : Int) - 1 by omega] at q2
        have hl : KR σ 144 (s 154 (j : Int)) ≤ KR σ 144 (s 154 ((p : Int) - 1)) := by
          by_cases cj : j + 1 = p
          · rw [show (p : Int) - 1 = (j : Int) by omega]; omega
          · have h := (sg_pw m 0).mp hpw j (p - 1) (by omega) (by omega)
            rw [show (0 : Int) + (j : Int) = (j : Int) by omega, show (0 : Int) + ((p - 1 : Nat) : Int) = (p : Int) - 1 by omega] at h
            omega
        rw [g3]
        rw [kv (s 154 ((p : Int) - 1))] at hl
        rw [kv (k : Int)]
        omega
      obtain ⟨n1, n2⟩ := ins_SL (K := KR σ 144) (f := s2 154) (h := s3 154) (n := m) (p := p) (r := (k : Int)) p0 p1 p2 p3 low (fun j j1 j2 => by
        have h := p5 j j1 j2
        rw [eO, eO] at h
        obtain ⟨q, q1, q2, q3⟩ := old j j2
        rw [g3] at h
        rw [kv, kv, g3]
        omega) (by rw [sg_ext (f := s2 154) (g := s 154) m 0 0 (fun j _ => g3 _)]; exact hpw)
      refine t_g8 h1 h2 h3 h4 h5 h6 hB hp ht d (k + 1) n (m + 1) s3 (by omega) (by omega) (by omega) (hf.trans (g1.trans e4)) e2 n1 (fun v => ?_)
      rw [n2 v, sg_ext (f := s2 154) (g := s 154) m 0 0 (fun j _ => g3 _), hmem v]
      constructor
      · rintro (h | h)
        · subst h
          exact ⟨g4, by omega⟩
        · exact ⟨h.1, by omega⟩
      · intro h
        by_cases cv : v = (k : Int)
        · exact Or.inl cv
        · exact Or.inr ⟨h.1, by omega⟩
    have selk : selR σ 144 B T (k : Int) ↔ σ 144 (20 + 3 * (k : Int)) ≠ 0 ∧ bIn B (σ 144 (21 + 3 * (k : Int))) (σ 144 (22 + 3 * (k : Int))) ∧ T (k : Int) = true := by
      constructor
      · rintro ⟨q, -, q2, q3⟩
        have : q = k := by omega
        subst this
        exact q3
      · exact fun h => ⟨k, by omega, rfl, h⟩
    unfold g_m_gathers_L8
    rw [if_neg (by omega), s_rowAt (by omega) (by omega)]
    rw [Option.bind_some]
    try dsimp only
    rw [if_pos (by omega)]
    by_cases c0 : s 144 (20 + 3 * (k : Int)) = 0
    · rw [if_pos c0]
      exact skip s (frG.refl s) hm (fun _ => rfl) (fun h => by rw [selk, ← c144] at h; exact h.1 c0)
    · rw [if_neg c0, s_rowAt (by omega) (by omega), Option.bind_some]
      dsimp only
      rw [w32_id (x := 20 + 3 * (k : Int) + 1) (by omega) (by omega), if_pos (by omega), s_rowAt (by omega) (by omega), Option.bind_some]
      dsimp only
      rw [w32_id (x := 20 + 3 * (k : Int) + 2) (by omega) (by omega), if_pos (by omega), s_has h1 h2 h3]
      rw [Option.bind_some]
      try dsimp only
      have eB : bxA s a i = B := by rw [hf.bx h4 h5 h6]; exact hB
      rw [show 20 + 3 * (k : Int) + 1 = 21 + 3 * (k : Int) by omega, show 20 + 3 * (k : Int) + 2 = 22 + 3 * (k : Int) by omega, eB]
      rw [c144] at c0
      simp only [c144]
      by_cases c : bIn B (σ 144 (21 + 3 * (k : Int))) (σ 144 (22 + 3 * (k : Int)))
      · rw [if_pos c, if_pos (by decide)]
        have fz : frG s (zu s 143 21 t) := fun b j k1 k2 k3 => zu_c (by omega)
        rcases ht with ⟨ht, hT⟩ | ⟨ht, hT⟩
        · rw [if_pos ht]
          exact take _ fz (by rw [zu_i (by decide)]; exact hm) (fun j => zu_a (by decide)) (selk.mpr ⟨c0, c, hT _⟩)
        · rw [if_neg ht]
          obtain ⟨b, s', e1, e2, e3⟩ := hT s hf (k : Int) (by omega) (by omega)
          rw [e1]
          rw [Option.bind_some]
          try dsimp only
          have fs : frG s s' := fun x j k1 k2 k3 => e3 x j (by omega)
          have m1 : s' 143 14 = (m : Int) := by rw [e3 143 14 (by omega)]; exact hm
          have v1 : ∀ j, s' 154 j = s 154 j := fun j => e3 154 j (Or.inl (by decide))
          by_cases cb : b ≠ 0
          · rw [if_pos cb]
            exact take s' fs m1 v1 (selk.mpr ⟨c0, c, e2.mp cb⟩)
          · rw [if_neg cb]
            exact skip s' fs m1 v1 (fun h => cb (e2.mpr (selk.mp h).2.2))
      · rw [if_neg c, if_neg (by decide)]
        exact skip s (frG.refl s) hm (fun _ => rfl) (fun h => c (selk.mp h).2.1)
theorem t_g167 {a : Nat} {m : Nat} (hm2 : m ≤ 60) : ∀ (d k n : Nat) (s : zS), k + d = m → d < n → s 143 14 = (m : Int) → (∀ j : Nat, j < m → vRow (s 154 (j : Int))) → ∃ s', g_m_gathers_L167 a n (k : Int) s = some ((), s') ∧ (∀ x j, x ≠ 155 → s' x j = s x j) ∧ (∀ j : Nat, j < k → s' 155 (j : Int) = s 155 (j : Int)) ∧ ∀ j : Nat, k ≤ j → j < m → s' 155 (j : Int) = s 147 (1 + s 154 (j : Int))
  | _, _, 0, _, _, h, _, _ => absurd h (Nat.not_lt_zero _)
  | 0, k, n + 1, s, hk, _, hm, _ => by
    refine ⟨s, ?_, fun _ _ _ => rfl, fun _ _ => rfl, fun j h1 h2 => absurd h2 (by omega)⟩
    unfold g_m_gathers_L167
    simp only [hm]
    rw [if_pos (by omega)]
  | d + 1, k, n + 1, s, hk, hn, hm, hv => by
    have hv1 := hv k (by omega)
    unfold vRow at hv1
    obtain ⟨s', e1, e2, e3, e4⟩ := t_g167 (a := a) hm2 d (k + 1) n (zu s 155 (k : Int) (s 147 (1 + s 154 (k : Int)))) (by omega) (by omega) (by rw [zu_a (by decide)]; exact hm) (fun j hj => by rw [zu_a (by decide)]; exact hv j hj)
    refine ⟨s', ?_, fun x j hx => (e2 x j hx).trans (zu_a hx), fun j hj => by rw [e3 j (by omega), zu_i (by omega)], fun j j1 j2 => ?_⟩
    · unfold g_m_gathers_L167
      simp only [hm]
      rw [if_neg (by omega), if_pos (by omega), w32_id (x := 1 + s 154 (k : Int)) (by omega) (by omega), if_pos (by omega), if_pos (by omega), w32_id (x := (k : Int) + 1) (by omega) (by omega)]
      rw [show ((k + 1 : Nat) : Int) = (k : Int) + 1 by omega] at e1
      exact e1
    · by_cases cj : j = k
      · subst cj
        rw [e3 j (by omega), zu_e rfl]
      · rw [e4 j (by omega) j2, zu_a (by decide), zu_a (by decide)]
theorem t_gathers {a : Nat} {i t : Int} {σ : zS} {T : Int → Bool} {B : Bx} (h1 : 0 ≤ i) (h2 : i + 3 < zLI a) (h3 : zLI a ≤ 100000) (h4 : a ≠ 143) (h5 : a ≠ 154) (h6 : a ≠ 155) (hB : bxA σ a i = B) (hp : plR σ) (ht : tstT σ t T) : ∃ s m, g_m_gathers a i t σ = some ((), s) ∧ m ≤ 60 ∧ frG σ s ∧ s 143 14 = ((m : Nat) : Int) ∧ SL (KR σ 144) (selR σ 144 B T) (sg (s 154) 0 m) ∧ ∀ j : Nat, j < m → s 155 (j : Int) = σ 147 (1 + s 154 (j : Int)) := by
  have fz : frG σ (zu σ 143 14 0) := fun b j k1 k2 k3 => zu_c (by omega)
  obtain ⟨s1, m, e1, e2, e3, e4, e5⟩ := t_g8 (a := a) (i := i) (t := t) (σ := σ) h1 h2 h3 h4 h5 h6 hB hp ht 60 0 zK 0 (zu σ 143 14 0) (by omega) (by show _ < 1000000; omega) (Nat.le_refl _) fz (zu_e rfl) List.Pairwise.nil (fun v => ⟨fun h => absurd h List.not_mem_nil, fun h => by
    obtain ⟨⟨q, -, q2, -⟩, q3⟩ := h
    omega⟩)
  have vr : ∀ j : Nat, j < m → vRow (s1 154 (j : Int)) := fun j hj => by
    obtain ⟨q, q1, q2, -⟩ := (e5.2 (s1 154 (j : Int))).mp ((sg_mem m 0).mpr ⟨j, hj, by rw [show (0 : Int) + (j : Int) = (j : Int) by omega]⟩)
    show 0 ≤ _ ∧ _ < 60
    omega
  obtain ⟨s2, f1, f2, -, f4⟩ := t_g167 (a := a) e2 m 0 zK s1 (by omega) (by show _ < 1000000; omega) e4 vr
  refine ⟨s2, m, ?_, e2, e3.trans (fun b j _ _ k3 => f2 b j k3), by rw [f2 143 14 (by decide)]; exact e4, ?_, fun j hj => ?_⟩
  · unfold g_m_gathers
    exact e1.trans f1
  · rw [sg_ext (f := s2 154) (g := s1 154) m 0 0 (fun j _ => f2 154 _ (by decide))]
    exact e5
  · rw [f4 j (Nat.zero_le _) hj, f2 154 _ (by decide), e3 147 _ (Or.inl (by decide)) (by decide) (by decide)]
