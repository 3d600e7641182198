/-! THE REFERENCE over the typed memory: keeping, probing -/
theorem s_shl12 {x : Int} (h1 : 0 ≤ x) (h2 : x ≤ 12) : iShl 1 x ≤ 4096 := by
  obtain ⟨n, rfl⟩ : ∃ n : Nat, x = (n : Int) := ⟨x.toNat, by omega⟩
  have h : ∀ n : Fin 13, iShl 1 ((n.val : Nat) : Int) ≤ 4096 := by decide +kernel
  exact h ⟨n, by omega⟩
theorem s_keep36 {g14 : Int → Int → Int → Int → zS → Option (Int × zS)} {σ : zS} {N : Nat} {x1 x2 y3 x5 : Int} (hN : σ 144 0 = (N : Int)) (hN2 : N ≤ 239) (hg : ∀ a b, ∃ c, g14 x1 a b (w32 (x5 + 1)) σ = some (c, σ)) : ∀ (d k n : Nat) (x6 y7 : Int), k + d = N → d < n → ∃ c, g_m_keep_L36 g14 n x1 x2 y3 x5 x6 y7 (k : Int) σ = some (c, σ)
  | _, _, 0, _, _, _, h => absurd h (Nat.not_lt_zero _)
  | 0, k, n + 1, x6, y7, hk, _ => by
    unfold g_m_keep_L36
    show ∃ c, (if σ 144 0 ≤ (k : Int) then _ else _) = _
    rw [if_pos (by omega)]
    unfold g_m_keep_L135
    split
    · exact hg _ _
    · split
      · exact hg _ _
      · exact hg _ _
  | d + 1, k, n + 1, x6, y7, hk, hn => by
    unfold g_m_keep_L36
    show ∃ c, (if σ 144 0 ≤ (k : Int) then _ else _) = _
    rw [if_neg (by omega)]
    unfold g_m_keep_L107
    have e1 : w32 ((k : Int) + 1) = ((k + 1 : Nat) : Int) := by rw [w32_id (by omega) (by omega)]; omega
    by_cases c : iAnd (iShr x5 (k : Int)) 1 ≠ 0
    · rw [if_pos c, s_size (by omega) (by omega)]
      rw [Option.bind_some]
      try dsimp only
      rw [s_region (by omega) (by omega)]
      rw [Option.bind_some]
      try dsimp only
      rw [s_cost (by omega) (by rw [l144]; omega) (by rw [l144]; omega)]
      rw [Option.bind_some]
      try dsimp only
      rw [s_region (by omega) (by omega)]
      rw [Option.bind_some]
      try dsimp only
      rw [w32_id (x := 340 + 10 * (k : Int) + 9) (by omega) (by omega), if_pos (by omega), e1]
      exact s_keep36 hN hN2 hg d (k + 1) n _ _ (by omega) (by omega)
    · rw [if_neg c, e1]
      exact s_keep36 hN hN2 hg d (k + 1) n _ _ (by omega) (by omega)
theorem s_keep14 {σ : zS} {N : Nat} {x1 : Int} (hN : σ 144 0 = (N : Int)) (hN2 : N ≤ 12) : ∀ (d e n : Nat) (x2 y3 : Int), e + d = 4096 → d < n → ∃ c, g_m_keep_L14 n x1 x2 y3 (e : Int) σ = some (c, σ)
  | _, _, 0, _, _, _, h => absurd h (Nat.not_lt_zero _)
  | d, e, n + 1, x2, y3, he, hn => by
    unfold g_m_keep_L14
    show ∃ c, (if iShl 1 (σ 144 0) ≤ (e : Int) then _ else _) = _
    by_cases c : iShl 1 (σ 144 0) ≤ (e : Int)
    · rw [if_pos c]; exact ⟨_, rfl⟩
    · rw [if_neg c]
      have h := s_shl12 (x := σ 144 0) (by omega) (by omega)
      cases d with
      | zero => omega
      | succ d =>
        have e1 : w32 ((e : Int) + 1) = ((e + 1 : Nat) : Int) := by rw [w32_id (by omega) (by omega)]; omega
        exact s_keep36 hN (by omega) (fun a b => by rw [e1]; exact s_keep14 hN hN2 d (e + 1) n a b (by omega) (by omega)) N 0 zK 0 0 (by omega) (by show _ < 1000000; omega)
theorem m_keep {x : Int} {σ : zS} (h : MI σ) : ∃ c, g_m_keep x σ = some (c, σ) := by
  obtain ⟨N, hN2, hN, -⟩ := h.1
  unfold g_m_keep
  by_cases c : 0 ≤ x
  · rw [if_pos c]; exact s_keep14 hN hN2 4095 1 zK 0 0 (by omega) (by show _ < 1000000; omega)
  · rw [if_neg c]; exact ⟨_, rfl⟩
theorem l165 : zLI 165 = 3000 := rfl
theorem l150 : zLI 150 = 2400 := rfl
theorem l152 : zLI 152 = 4 := rfl
theorem l153 : zLI 153 = 4 := rfl
theorem s_probe145 {M : Nat} (hM : M ≤ 200) : ∀ (d k n : Nat) (s : zS) (P : Nat), k + d = M → d < n → s 143 10 = (M : Int) → s 143 32 = (P : Int) → P ≤ 20 + k → ∃ v s', g_m_probe_L145 n (k : Int) s = some (v, s') ∧ (0 ≤ s' 143 32 ∧ s' 143 32 ≤ 600) ∧ ∀ a j, a ≠ 165 → (a ≠ 143 ∨ j ≠ 32) → s' a j = s a j
  | _, _, 0, _, _, _, h => absurd h (Nat.not_lt_zero _)
  | 0, k, n + 1, s, P, hk, _ => by
    intro h10 h32 hP
    unfold g_m_probe_L145
    show ∃ v s', (if s 143 10 ≤ (k : Int) then _ else _) = _ ∧ _
    rw [if_pos (by omega)]
    exact ⟨_, s, rfl, by omega, fun _ _ _ _ => rfl⟩
  | d + 1, k, n + 1, s, P, hk, hn => by
    intro h10 h32 hP
    unfold g_m_probe_L145
    show ∃ v s', (if s 143 10 ≤ (k : Int) then _ else _) = _ ∧ _
    rw [if_neg (by omega)]
    dsimp only
    rw [h32, w32_id (x := 4 * (k : Int)) (by omega) (by omega), w32_id (x := 5 * (P : Int)) (by omega) (by omega)]
    rw [s_copies (by omega) (by rw [l150]; omega) (by rw [l150]; omega) (by omega) (by rw [l165]; omega) (by rw [l165]; omega)]
    rw [Option.bind_some]
    dsimp only
    have hq : zb s 165 (5 * (P : Int)) (bxA s 150 (4 * (k : Int))) 143 32 = (P : Int) := (zb_a (by decide)).trans h32
    have hw1 := w32_id (x := 5 * (P : Int)) (by omega) (by omega)
    have hw2 := w32_id (x := 5 * (P : Int) + 4) (by omega) (by omega)
    simp only [hq, hw1, hw2]
    rw [if_pos (by omega)]
    rw [show zu (zb s 165 (5 * (P : Int)) (bxA s 150 (4 * (k : Int)))) 165 (5 * (P : Int) + 4) (-5) 143 32 = (P : Int) from (zu_a (by decide)).trans ((zb_a (by decide)).trans h32)]
    rw [w32_id (x := (P : Int) + 1) (by omega) (by omega), w32_id (x := (k : Int) + 1) (by omega) (by omega)]
    generalize hs : zu (zu (zb s 165 (5 * (P : Int)) (bxA s 150 (4 * (k : Int)))) 165 (5 * (P : Int) + 4) (-5)) 143 32 ((P : Int) + 1) = s1
    have q : ∀ a j, a ≠ 165 → (a ≠ 143 ∨ j ≠ 32) → s1 a j = s a j := fun a j k1 k2 => by rw [← hs, zu_c (by omega), zu_a k1, zb_a k1]
    have q32 : s1 143 32 = ((P + 1 : Nat) : Int) := by rw [← hs, zu_e rfl]; omega
    obtain ⟨v, s', e1, e2, e3⟩ := s_probe145 hM d (k + 1) n s1 (P + 1) (by omega) (by omega) (by rw [q 143 10 (by decide) (by decide)]; exact h10) q32 (by omega)
    rw [show ((k + 1 : Nat) : Int) = (k : Int) + 1 by omega] at e1
    exact ⟨v, s', e1, e2, fun a j k1 k2 => (e3 a j k1 k2).trans (q a j k1 k2)⟩
theorem s_probe39 {M N : Nat} (hM : M ≤ 200) (hN2 : N ≤ 12) : ∀ (d k n : Nat) (s : zS) (P : Nat), k + d = N → d < n → s 144 0 = (N : Int) → s 143 10 = (M : Int) → s 143 32 = (P : Int) → P ≤ k → ∃ v s', g_m_probe_L39 n (k : Int) s = some (v, s') ∧ (0 ≤ s' 143 32 ∧ s' 143 32 ≤ 600) ∧ ∀ a j, a ≠ 165 → (a ≠ 143 ∨ j ≠ 32) → s' a j = s a j
  | _, _, 0, _, _, _, h => absurd h (Nat.not_lt_zero _)
  | 0, k, n + 1, s, P, hk, _ => by
    intro h0 h10 h32 hP
    unfold g_m_probe_L39
    show ∃ v s', (if s 144 0 ≤ (k : Int) then _ else _) = _ ∧ _
    rw [if_pos (by omega)]
    exact s_probe145 hM M 0 zK s P (by omega) (by show _ < 1000000; omega) h10 h32 (by omega)
  | d + 1, k, n + 1, s, P, hk, hn => by
    intro h0 h10 h32 hP
    unfold g_m_probe_L39
    show ∃ v s', (if s 144 0 ≤ (k : Int) then _ else _) = _ ∧ _
    rw [if_neg (by omega)]
    rw [s_region (by omega) (by omega)]
    rw [Option.bind_some]
    dsimp only
    rw [s_doMeet (by omega) (by rw [l144]; omega) (by rw [l144]; omega) (by omega) (by rw [l152]; omega) (by rw [l152]; omega)]
    rw [Option.bind_some]
    dsimp only
    unfold g_m_probe_L136
    have e1 : w32 ((k : Int) + 1) = ((k + 1 : Nat) : Int) := by rw [w32_id (by omega) (by omega)]; omega
    by_cases c : bMt (bxA s 144 (340 + 10 * (k : Int))) (bxA s 152 0)
    · rw [if_pos c, if_pos (by decide)]
      rw [s_region (by omega) (by omega)]
      rw [Option.bind_some]
      dsimp only
      rw [h32, w32_id (x := 5 * (P : Int)) (by omega) (by omega)]
      rw [s_commons (by omega) (by rw [l144]; omega) (by rw [l144]; omega) (by omega) (by rw [l152]; omega) (by rw [l152]; omega) (by omega) (by rw [l165]; omega) (by rw [l165]; omega)]
      rw [Option.bind_some]
      dsimp only
      generalize hs1 : zb s 165 (5 * (P : Int)) (bCom (bxA s 144 (340 + 10 * (k : Int))) (bxA s 152 0)) = s1
      have q1 : ∀ a j, a ≠ 165 → s1 a j = s a j := fun a j k1 => by rw [← hs1, zb_a k1]
      rw [s_region (by omega) (by omega)]
      rw [Option.bind_some]
      dsimp only
      have hq : s1 143 32 = (P : Int) := (q1 143 32 (by decide)).trans h32
      have hw1 := w32_id (x := 5 * (P : Int)) (by omega) (by omega)
      have hw2 := w32_id (x := 5 * (P : Int) + 4) (by omega) (by omega)
      have hw3 := w32_id (x := 340 + 10 * (k : Int) + 8) (by omega) (by omega)
      simp only [hq, hw1, hw2, hw3]
      rw [if_pos (by omega), if_pos (by omega)]
      rw [show zu s1 165 (5 * (P : Int) + 4) (s1 144 (340 + 10 * (k : Int) + 8)) 143 32 = (P : Int) from (zu_a (by decide)).trans ((q1 143 32 (by decide)).trans h32)]
      rw [w32_id (x := (P : Int) + 1) (by omega) (by omega), e1]
      generalize hs2 : zu (zu s1 165 (5 * (P : Int) + 4) (s1 144 (340 + 10 * (k : Int) + 8))) 143 32 ((P : Int) + 1) = s2
      have q : ∀ a j, a ≠ 165 → (a ≠ 143 ∨ j ≠ 32) → s2 a j = s a j := fun a j k1 k2 => by rw [← hs2, zu_c (by omega), zu_a k1, q1 a j k1]
      have q32 : s2 143 32 = ((P + 1 : Nat) : Int) := by rw [← hs2, zu_e rfl]; omega
      obtain ⟨v, s', g1, g2, g3⟩ := s_probe39 hM hN2 d (k + 1) n s2 (P + 1) (by omega) (by omega) (by rw [q 144 0 (by decide) (by decide)]; exact h0) (by rw [q 143 10 (by decide) (by decide)]; exact h10) q32 (by omega)
      exact ⟨v, s', g1, g2, fun a j k1 k2 => (g3 a j k1 k2).trans (q a j k1 k2)⟩
    · rw [if_neg c, if_neg (by decide), e1]
      exact s_probe39 hM hN2 d (k + 1) n s P (by omega) (by omega) h0 h10 h32 (by omega)
/-- the missing boxes of the box that stands in 152 -/
theorem s_missM {σ : zS} {q : Bx} (hq : bOk q) (hb : bxA σ 152 0 = q) (hI : NI σ) : ∃ s M N, g_m_misses σ = some ((), s) ∧ frM σ s ∧ s 143 10 = ((M : Nat) : Int) ∧ M ≤ 169 ∧ σ 144 0 = ((N : Nat) : Int) ∧ N ≤ 12 := by
  obtain ⟨N, hN2, hN, hR⟩ := hI
  obtain ⟨r1, r2⟩ := RI_rbx hR
  have r3 : (rbx σ N).length = N := rbx_len
  obtain ⟨s, e1, e2, e3, -⟩ := s_misses hq hb r1 r2 (by omega) (by rw [r3]; exact hN) (by rw [r3])
  exact ⟨s, _, N, e1, e2, e3, bMissAll_169 hq r1 r2 (by omega), hN, hN2⟩
/-- the paper's and the pieces' counts and what every call may change besides -/
theorem MI_pg {σ s : zS} (h : MI σ) (e : ∀ a j, (a = 144 ∨ a = 145 ∨ a = 166 ∨ (a = 143 ∧ (j = 6 ∨ j = 20 ∨ j = 27))) → s a j = σ a j) (h1 : 0 ≤ s 143 29 ∧ s 143 29 ≤ 40000) (h2 : 0 ≤ s 143 32 ∧ s 143 32 ≤ 600) : MI s := by
  obtain ⟨x1, x2, x3, x4, x5⟩ := h.2.2.1
  refine ⟨NI_fr h.1 (fun j _ => e 144 j (by omega)), HI_fr8 h.2.1 (fun j _ _ => e 144 j (by omega)), ⟨?_, ?_, h1, h2, fun k hk => ?_⟩, II_fr h.2.2.2 (e 143 6 (by omega)) (fun j => e 145 j (by omega))⟩
  · rw [e 143 20 (by omega)]; exact x1
  · rw [e 143 27 (by omega)]; exact x2
  · rw [e 166 _ (by omega)]; exact x5 k hk
theorem m_probe {x0 x1 y0 y1 : Int} {σ : zS} (h : MI σ) : ∃ v s, g_m_probe x0 x1 y0 y1 σ = some (v, s) ∧ MI s ∧ frC σ s := by
  unfold g_m_probe
  by_cases c : bOk (x0, x1, y0, y1)
  · rw [s_isBox_t c]
    rw [Option.bind_some]
    dsimp only
    rw [if_pos (by decide), s_sets (by omega) (by rw [l152]; omega) (by rw [l152]; omega)]
    rw [Option.bind_some]
    dsimp only
    generalize hs0 : zb σ 152 0 (x0, x1, y0, y1) = s0'
    have q0 : ∀ a j, a ≠ 152 → s0' a j = σ a j := fun a j k1 => by rw [← hs0, zb_a k1]
    obtain ⟨s1, M, N, e1, e2, e3, e4, e5, e6⟩ := s_missM (σ := s0') c (by rw [← hs0]; exact zb_bx rfl) (NI_fr h.1 (fun j _ => q0 144 j (by decide)))
    rw [e1]
    rw [Option.bind_some]
    dsimp only
    have q1 : ∀ a j, a ≠ 150 → a ≠ 151 → (a ≠ 143 ∨ j ≠ 10) → a ≠ 152 → s1 a j = σ a j := fun a j k1 k2 k3 k4 => (e2 a j k1 k2 k3).trans (q0 a j k4)
    obtain ⟨v, s', g1, g2, g3⟩ := s_probe39 (M := M) (N := N) (by omega) e6 N 0 zK (zu s1 143 32 0) 0 (by omega) (by show _ < 1000000; omega) (by rw [zu_a (by decide), e2 144 0 (by decide) (by decide) (by decide)]; exact e5) (by rw [zu_i (by decide)]; exact e3) (zu_e rfl) (by omega)
    have q2 : ∀ a j, a ≠ 150 → a ≠ 151 → (a ≠ 143 ∨ (j ≠ 10 ∧ j ≠ 32)) → a ≠ 152 → a ≠ 165 → s' a j = σ a j := fun a j k1 k2 k3 k4 k5 => by
      rw [g3 a j k5 (by omega), zu_c (by omega), q1 a j k1 k2 (by omega) k4]
    refine ⟨v, s', g1, MI_pg h (fun a j hh => q2 a j (by omega) (by omega) (by omega) (by omega) (by omega)) ?_ g2, fun a j hh => q2 a j (by omega) (by omega) (by omega) (by omega) (by omega)⟩
    rw [q2 143 29 (by decide) (by decide) (by omega) (by decide) (by decide)]
    exact h.2.2.1.2.2.1
  · rw [s_isBox_f c]
    rw [Option.bind_some]
    dsimp only
    rw [if_neg (by decide)]
    exact MI_sam h _
