/-! THE REFERENCE over the typed memory: regions that do not meet; merging to its end -/
def rOk (r : Rg) : Prop := bOk r.1 ∧ (r.2.1.1 < 0 ∨ (bOk r.2.1 ∧ bSub r.2.1 r.1))
def RI (σ : zS) (N : Nat) : Prop := (∀ k : Nat, k < N → rOk (rgA σ (k : Int))) ∧ ∀ k1 k2 : Nat, k1 < k2 → k2 < N → ¬ bMt (rgA σ (k1 : Int)).1 (rgA σ (k2 : Int)).1
theorem RI.bx {σ : zS} {N k : Nat} (h : RI σ N) (hk : k < N) : bOk (bxA σ 144 (340 + 10 * (k : Int))) := (h.1 k hk).1
/-- nothing but regions, their number, the counters and LEVEL is another -/
def frR (σ s : zS) : Prop := ∀ a j, (a ≠ 144 ∨ (8 ≤ j ∧ j < 340)) → (a ≠ 147 ∨ (1 ≤ j ∧ j < 121)) → s a j = σ a j
theorem frR.refl (σ : zS) : frR σ σ := fun _ _ _ _ => rfl
theorem frR.trans {σ s t : zS} (h1 : frR σ s) (h2 : frR s t) : frR σ t := fun a j k1 k2 => (h2 a j k1 k2).trans (h1 a j k1 k2)
theorem bMt_comm {a b : Bx} (h : bMt a b) : bMt b a := by
  dsimp only [bMt] at *
  omega
theorem bAro_pos {a b : Bx} (h : 0 ≤ a.1) : bAro a b = (zmn a.1 b.1, zmx a.2.1 b.2.1, zmn a.2.2.1 b.2.2.1, zmx a.2.2.2 b.2.2.2) := if_pos h
theorem bAro_neg {a b : Bx} (h : ¬ 0 ≤ a.1) : bAro a b = b := if_neg h
theorem bAro_ok {a b : Bx} (ha : bOk a) (hb : bOk b) : bOk (bAro a b) ∧ bSub a (bAro a b) ∧ bSub b (bAro a b) := by
  have h1 := @zmn_le a.1 b.1
  have h2 := @zmx_le a.2.1 b.2.1
  have h3 := @zmn_le a.2.2.1 b.2.2.1
  have h4 := @zmx_le a.2.2.2 b.2.2.2
  rw [bAro_pos ha.1]
  dsimp only [bOk, bSub] at *
  refine ⟨⟨?_, ?_, ?_, ?_, ?_, ?_⟩, ⟨?_, ?_, ?_, ?_⟩, ?_, ?_, ?_, ?_⟩ <;> omega
theorem join_mt {a b c : Bx} (ha : bOk a) (hb : bOk b) (hc : bOk c) (h1 : bOne a b) (h : bMt (bAro a b) c) : bMt a c ∨ bMt b c := by
  have k1 := @zmn_le a.1 b.1
  have k2 := @zmx_le a.2.1 b.2.1
  have k3 := @zmn_le a.2.2.1 b.2.2.1
  have k4 := @zmx_le a.2.2.2 b.2.2.2
  rw [bAro_pos ha.1] at h
  dsimp only [bOk, bMt, bOne] at *
  omega
theorem mJoin_ok {r s : Rg} (hr : rOk r) (hs : rOk s) : rOk (mJoin r s) := by
  obtain ⟨u1, u2, u3⟩ := bAro_ok hr.1 hs.1
  refine ⟨u1, ?_⟩
  show (if s.2.1.1 < 0 then r.2.1 else bAro r.2.1 s.2.1).1 < 0 ∨ (bOk (if s.2.1.1 < 0 then r.2.1 else bAro r.2.1 s.2.1) ∧ bSub (if s.2.1.1 < 0 then r.2.1 else bAro r.2.1 s.2.1) (bAro r.1 s.1))
  have tr : ∀ {x y z : Bx}, bSub x y → bSub y z → bSub x z := by
    intro x y z h1 h2
    dsimp only [bSub] at *
    omega
  by_cases c : s.2.1.1 < 0
  · rw [if_pos c]
    rcases hr.2 with h | h
    · exact Or.inl h
    · exact Or.inr ⟨h.1, tr h.2 u2⟩
  · rw [if_neg c]
    rcases hs.2 with h | h
    · exact absurd h c
    · rcases hr.2 with h' | h'
      · rw [bAro_neg (by omega)]
        exact Or.inr ⟨h.1, tr h.2 u3⟩
      · obtain ⟨v1, v2, v3⟩ := bAro_ok h'.1 h.1
        refine Or.inr ⟨v1, ?_⟩
        have t1 := tr h'.2 u2
        have t2 := tr h.2 u3
        have k1 := @zmn_le r.2.1.1 s.2.1.1
        have k2 := @zmx_le r.2.1.2.1 s.2.1.2.1
        have k3 := @zmn_le r.2.1.2.2.1 s.2.1.2.2.1
        have k4 := @zmx_le r.2.1.2.2.2 s.2.1.2.2.2
        rw [bAro_pos h'.1.1]
        dsimp only [bSub] at *
        refine ⟨?_, ?_, ?_, ?_⟩ <;> omega
theorem RI_join {σ : zS} {N i j : Nat} (h : RI σ N) (hij : i < j) (hj : j < N) (hN : N ≤ 239) (h1 : bOne (rgA σ (i : Int)).1 (rgA σ (j : Int)).1) : RI (jnS σ (i : Int) (j : Int) (N : Int)) (N - 1) := by
  have e : ∀ k : Nat, k < N - 1 → rgA (jnS σ (i : Int) (j : Int) (N : Int)) (k : Int) = if (if k < j then k else k + 1) = i then mJoin (rgA σ (i : Int)) (rgA σ (j : Int)) else rgA σ (((if k < j then k else k + 1) : Nat) : Int) := by
    intro k hk
    rw [rgA_jnS (by omega) (by omega) (by omega) (by omega) (by omega) (by omega)]
    by_cases c : k < j
    · rw [if_pos (show (k : Int) < (j : Int) by omega), if_pos c]
      by_cases c2 : k = i
      · rw [if_pos c2, if_pos (show (k : Int) = (i : Int) by omega)]
      · rw [if_neg c2, if_neg (show ¬ (k : Int) = (i : Int) by omega)]
    · rw [if_neg (show ¬ (k : Int) < (j : Int) by omega), if_neg c]
      rw [if_neg (show ¬ k + 1 = i by omega), if_neg (show ¬ (k : Int) + 1 = (i : Int) by omega)]
      rw [show ((k + 1 : Nat) : Int) = (k : Int) + 1 by omega]
  have hne : ∀ a b : Nat, a ≠ b → a < N → b < N → ¬ bMt (rgA σ (a : Int)).1 (rgA σ (b : Int)).1 := by
    intro a b hab ha hb hm
    rcases Nat.lt_or_ge a b with c | c
    · exact h.2 a b c hb hm
    · exact h.2 b a (by omega) ha (bMt_comm hm)
  refine ⟨fun k hk => ?_, fun k1 k2 hk1 hk2 => ?_⟩
  · rw [e k hk]
    generalize hk' : (if k < j then k else k + 1) = k'
    have hb : k' < N := by
      rw [← hk']
      split <;> omega
    by_cases c : k' = i
    · rw [if_pos c]; exact mJoin_ok (h.1 i (by omega)) (h.1 j hj)
    · rw [if_neg c]; exact h.1 k' hb
  · rw [e k1 (by omega), e k2 hk2]
    generalize hq1 : (if k1 < j then k1 else k1 + 1) = p1
    generalize hq2 : (if k2 < j then k2 else k2 + 1) = p2
    have b1 : p1 < N ∧ p1 ≠ j := by
      rw [← hq1]
      split <;> omega
    have b2 : p2 < N ∧ p2 ≠ j := by
      rw [← hq2]
      split <;> omega
    have b3 : p1 < p2 := by
      rw [← hq1, ← hq2]
      split <;> split <;> omega
    have oi := (h.1 i (by omega)).1
    have oj := (h.1 j hj).1
    by_cases c1 : p1 = i
    · rw [if_pos c1, if_neg (by omega)]
      intro hm
      rcases join_mt oi oj (h.1 p2 b2.1).1 h1 hm with hm | hm
      · exact hne i p2 (by omega) (by omega) b2.1 hm
      · exact hne j p2 (by omega) hj b2.1 hm
    · rw [if_neg c1]
      by_cases c2 : p2 = i
      · rw [if_pos c2]
        intro hm
        rcases join_mt oi oj (h.1 p1 b1.1).1 h1 (bMt_comm hm) with hm | hm
        · exact hne i p1 (by omega) (by omega) b1.1 hm
        · exact hne j p1 (by omega) hj b1.1 hm
      · rw [if_neg c2]
        exact hne p1 p2 (by omega) b1.1 b2.1
theorem jnS_fr {σ : zS} {i j N : Nat} (hij : i < j) (hj : j < N) (hN : N ≤ 239) : frR σ (jnS σ (i : Int) (j : Int) (N : Int)) ∧ jnS σ (i : Int) (j : Int) (N : Int) 144 0 = ((N - 1 : Nat) : Int) := by
  have hH : ∀ a b, (a ≠ 144 ∨ b < 340) → jnH σ (i : Int) (j : Int) a b = σ a b := by
    intro a b h
    unfold jnH jnB
    by_cases c : σ 144 (344 + 10 * (j : Int)) < 0
    · rw [if_pos c, zu_c (by omega)]
      rcases h with h | h
      · exact zb_a h
      · exact zb_i (by omega)
    · rw [if_neg c]
      rcases h with h | h
      · rw [zb_a h, zu_a h, zb_a h]
      · rw [zb_i (by omega), zu_i (by omega), zb_i (by omega)]
  have hW : ∀ a b, (a ≠ 147 ∨ b < 121) → jnW (jnH σ (i : Int) (j : Int)) (i : Int) (j : Int) a b = jnH σ (i : Int) (j : Int) a b := by
    intro a b h
    unfold jnW
    by_cases c : jnH σ (i : Int) (j : Int) 147 (121 + (i : Int)) < jnH σ (i : Int) (j : Int) 147 (121 + (j : Int))
    · rw [if_pos c, zu_c (by omega)]
    · rw [if_neg c]
  constructor
  · intro a b h1 h2
    unfold jnS
    rw [zu_c (by omega), zu_c (by omega)]
    unfold gS2
    rw [if_neg (fun e => by omega), if_neg (fun e => by omega), hW a b (by omega), hH a b (by omega)]
  · unfold jnS
    rw [zu_i (by decide), zu_e rfl]
    omega
theorem s_im16 {g : Int → zS → Option (Int × zS)} {σ : zS} {N i : Nat} (hR : RI σ N) (hN : σ 144 0 = (N : Int)) (hN2 : N ≤ 239) (hi : i < N) : ∀ (d j n : Nat), j + d = N → i < j → d < n → (∃ j', j ≤ j' ∧ j' < N ∧ bOne (rgA σ (i : Int)).1 (rgA σ (j' : Int)).1 ∧ (∀ t : Nat, j ≤ t → t < j' → ¬ bOne (rgA σ (i : Int)).1 (rgA σ (t : Int)).1) ∧ g_m_isMerged_L16 g n (i : Int) (j : Int) σ = some (1, jnS σ (i : Int) (j' : Int) (N : Int))) ∨ ((∀ t : Nat, j ≤ t → t < N → ¬ bOne (rgA σ (i : Int)).1 (rgA σ (t : Int)).1) ∧ g_m_isMerged_L16 g n (i : Int) (j : Int) σ = g ((i : Int) + 1) σ)
  | _, _, 0, _, _, h => absurd h (Nat.not_lt_zero _)
  | 0, j, n + 1, hj, _, _ => by
    refine Or.inr ⟨fun t h1 h2 => by omega, ?_⟩
    unfold g_m_isMerged_L16
    simp only [hN]
    rw [if_pos (by omega), w32_id (by omega) (by omega)]
  | d + 1, j, n + 1, hj, hij, hn => by
    have e1 : g_m_isMerged_L16 g (n + 1) (i : Int) (j : Int) σ = if bOne (rgA σ (i : Int)).1 (rgA σ (j : Int)).1 then some (1, jnS σ (i : Int) (j : Int) (N : Int)) else g_m_isMerged_L16 g n (i : Int) ((j + 1 : Nat) : Int) σ := by
      have hone := s_isOneBox (i := (i : Int)) (j := (j : Int)) (σ := σ) rfl rfl (hR.bx hi) (hR.bx (show j < N by omega)) (by omega) (by omega) (by omega) (by omega)
      conv => lhs; unfold g_m_isMerged_L16
      simp only [hN]
      rw [if_neg (by omega), hone]
      rw [Option.bind_some]
      try dsimp only
      by_cases c : bOne (bxA σ 144 (340 + 10 * (i : Int))) (bxA σ 144 (340 + 10 * (j : Int)))
      · rw [if_pos c, if_pos (by decide), if_pos (show bOne (rgA σ (i : Int)).1 (rgA σ (j : Int)).1 from c), s_joins hN hij (by omega) hN2]
        rfl
      · rw [if_neg c, if_neg (by decide), if_neg (show ¬ bOne (rgA σ (i : Int)).1 (rgA σ (j : Int)).1 from c), w32_id (x := (j : Int) + 1) (by omega) (by omega), show ((j + 1 : Nat) : Int) = (j : Int) + 1 by omega]
    rw [e1]
    by_cases c : bOne (rgA σ (i : Int)).1 (rgA σ (j : Int)).1
    · rw [if_pos c]
      exact Or.inl ⟨j, Nat.le_refl _, by omega, c, fun t h1 h2 => by omega, rfl⟩
    · rw [if_neg c]
      rcases s_im16 (g := g) hR hN hN2 hi d (j + 1) n (by omega) (by omega) (by omega) with ⟨j', k1, k2, k3, k4, k5⟩ | ⟨k1, k2⟩
      · refine Or.inl ⟨j', by omega, k2, k3, fun t h1 h2 => ?_, k5⟩
        by_cases ht : t = j
        · subst ht; exact c
        · exact k4 t (by omega) h2
      · refine Or.inr ⟨fun t h1 h2 => ?_, k2⟩
        by_cases ht : t = j
        · subst ht; exact c
        · exact k1 t (by omega) h2
theorem s_im2 {σ : zS} {N : Nat} (hR : RI σ N) (hN : σ 144 0 = (N : Int)) (hN2 : N ≤ 239) : ∀ (d i n : Nat), i + d = N → d < n → (∃ i' j', i ≤ i' ∧ i' < j' ∧ j' < N ∧ bOne (rgA σ (i' : Int)).1 (rgA σ (j' : Int)).1 ∧ (∀ s t : Nat, i ≤ s → s < t → t < N → bOne (rgA σ (s : Int)).1 (rgA σ (t : Int)).1 → i' < s ∨ (i' = s ∧ j' ≤ t)) ∧ g_m_isMerged_L2 n (i : Int) σ = some (1, jnS σ (i' : Int) (j' : Int) (N : Int))) ∨ ((∀ s t : Nat, i ≤ s → s < t → t < N → ¬ bOne (rgA σ (s : Int)).1 (rgA σ (t : Int)).1) ∧ g_m_isMerged_L2 n (i : Int) σ = some (0, σ))
  | _, _, 0, _, h => absurd h (Nat.not_lt_zero _)
  | 0, i, n + 1, hi, _ => by
    refine Or.inr ⟨fun s t h1 h2 h3 => by omega, ?_⟩
    unfold g_m_isMerged_L2
    simp only [hN]
    rw [if_pos (by omega)]
  | d + 1, i, n + 1, hi, hn => by
    have e1 : g_m_isMerged_L2 (n + 1) (i : Int) σ = g_m_isMerged_L16 (g_m_isMerged_L2 n) zK (i : Int) ((i + 1 : Nat) : Int) σ := by
      conv => lhs; unfold g_m_isMerged_L2
      simp only [hN]
      rw [if_neg (by omega), w32_id (x := (i : Int) + 1) (by omega) (by omega), show ((i + 1 : Nat) : Int) = (i : Int) + 1 by omega]
    rw [e1]
    rcases s_im16 (g := g_m_isMerged_L2 n) hR hN hN2 (show i < N by omega) (N - (i + 1)) (i + 1) zK (by omega) (by omega) (by show _ < 1000000; omega) with ⟨j', k1, k2, k3, k4, k5⟩ | ⟨k1, k2⟩
    · refine Or.inl ⟨i, j', Nat.le_refl _, by omega, k2, k3, fun s t h1 h2 h3 h4 => ?_, k5⟩
      by_cases hs : s = i
      · subst hs
        refine Or.inr ⟨rfl, ?_⟩
        rcases Nat.lt_or_ge t j' with c | c
        · exact absurd h4 (k4 t (by omega) c)
        · exact c
      · exact Or.inl (by omega)
    · rw [k2, show (i : Int) + 1 = ((i + 1 : Nat) : Int) by omega]
      rcases s_im2 hR hN hN2 d (i + 1) n (by omega) (by omega) with ⟨i', j', m1, m2, m3, m4, m5, m6⟩ | ⟨m1, m2⟩
      · refine Or.inl ⟨i', j', by omega, m2, m3, m4, fun s t h1 h2 h3 h4 => ?_, m6⟩
        by_cases hs : s = i
        · subst hs; exact absurd h4 (k1 t (by omega) h3)
        · exact m5 s t (by omega) h2 h3 h4
      · refine Or.inr ⟨fun s t h1 h2 h3 => ?_, m2⟩
        by_cases hs : s = i
        · subst hs; exact k1 t (by omega) h3
        · exact m1 s t (by omega) h2 h3
theorem s_isMerged {σ : zS} {N : Nat} (hR : RI σ N) (hN : σ 144 0 = (N : Int)) (hN2 : N ≤ 239) : (∃ i j : Nat, i < j ∧ j < N ∧ bOne (rgA σ (i : Int)).1 (rgA σ (j : Int)).1 ∧ (∀ s t : Nat, s < t → t < N → bOne (rgA σ (s : Int)).1 (rgA σ (t : Int)).1 → i < s ∨ (i = s ∧ j ≤ t)) ∧ g_m_isMerged σ = some (1, jnS σ (i : Int) (j : Int) (N : Int))) ∨ ((∀ s t : Nat, s < t → t < N → ¬ bOne (rgA σ (s : Int)).1 (rgA σ (t : Int)).1) ∧ g_m_isMerged σ = some (0, σ)) := by
  rcases s_im2 hR hN hN2 N 0 zK (by omega) (by show _ < 1000000; omega) with ⟨i', j', m1, m2, m3, m4, m5, m6⟩ | ⟨m1, m2⟩
  · exact Or.inl ⟨i', j', m2, m3, m4, fun s t => m5 s t (Nat.zero_le _), m6⟩
  · exact Or.inr ⟨fun s t => m1 s t (Nat.zero_le _), m2⟩
/-- sizes together -/
def sumC (σ : zS) : Nat → Int
  | 0 => 0
  | n + 1 => sumC σ n + (1 + rowsN σ (rgA σ (n : Int)).1)
theorem sumC_bd (σ : zS) : ∀ n : Nat, 0 ≤ sumC σ n ∧ sumC σ n ≤ 61 * n
  | 0 => ⟨Int.le_refl _, Int.le_refl _⟩
  | n + 1 => by
    have ih := sumC_bd σ n
    have b := rowsN_bd σ (rgA σ (n : Int)).1
    show 0 ≤ sumC σ n + _ ∧ sumC σ n + _ ≤ 61 * ((n + 1 : Nat) : Int)
    omega
theorem s_sizes4 {σ : zS} {N : Nat} (hN : σ 144 0 = (N : Int)) (hN2 : N ≤ 239) : ∀ (d k n : Nat), k + d = N → d < n → g_m_sizes_L4 n (sumC σ k) (k : Int) σ = some (sumC σ N, σ)
  | _, _, 0, _, h => absurd h (Nat.not_lt_zero _)
  | 0, k, n + 1, hk, _ => by
    have : k = N := by omega
    subst this
    unfold g_m_sizes_L4
    simp only [hN]
    rw [if_pos (Int.le_refl _)]
  | d + 1, k, n + 1, hk, hn => by
    have ih := s_sizes4 hN hN2 d (k + 1) n (by omega) (by omega)
    have b1 := sumC_bd σ k
    have b2 := rowsN_bd σ (bxA σ 144 (340 + 10 * (k : Int)))
    unfold g_m_sizes_L4
    simp only [hN]
    rw [if_neg (by omega), s_size (by omega) (by omega)]
    rw [Option.bind_some]
    try dsimp only
    rw [w32_id (x := sumC σ k + (1 + rowsN σ (bxA σ 144 (340 + 10 * (k : Int))))) (by omega) (by omega), w32_id (x := (k : Int) + 1) (by omega) (by omega)]
    rw [show ((k + 1 : Nat) : Int) = (k : Int) + 1 by omega] at ih
    exact ih
theorem s_sizes {σ : zS} {N : Nat} (hN : σ 144 0 = (N : Int)) (hN2 : N ≤ 239) : g_m_sizes σ = some (sumC σ N, σ) := s_sizes4 hN hN2 N 0 zK (by omega) (by show _ < 1000000; omega)
/-- the lightest of some: no other is lighter; of those as light none has a lesser number -/
def isLight (σ : zS) (n : Nat) (f : Nat) : Prop := f < n ∧ ∀ k : Nat, k < n → σ 147 (121 + (f : Int)) < σ 147 (121 + (k : Int)) ∨ (σ 147 (121 + (f : Int)) = σ 147 (121 + (k : Int)) ∧ σ 144 (348 + 10 * (f : Int)) ≤ σ 144 (348 + 10 * (k : Int)))
theorem s_light4 {σ : zS} {N : Nat} (hN : σ 144 0 = (N : Int)) (hN2 : N ≤ 239) : ∀ (d k n f : Nat), k + d = N → d < n → isLight σ k f → ∃ f', isLight σ N f' ∧ g_m_lightest_L4 n (f : Int) (k : Int) σ = some ((f' : Int), σ)
  | _, _, 0, _, _, h, _ => absurd h (Nat.not_lt_zero _)
  | 0, k, n + 1, f, hk, _, hf => by
    have : k = N := by omega
    subst this
    refine ⟨f, hf, ?_⟩
    unfold g_m_lightest_L4
    simp only [hN]
    rw [if_pos (Int.le_refl _)]
  | d + 1, k, n + 1, f, hk, hn, hf => by
    have hfk := hf.1
    have take : isLight σ (k + 1) k ∨ isLight σ (k + 1) f := by
      by_cases c : σ 147 (121 + (k : Int)) < σ 147 (121 + (f : Int)) ∨ (σ 147 (121 + (k : Int)) = σ 147 (121 + (f : Int)) ∧ σ 144 (348 + 10 * (k : Int)) < σ 144 (348 + 10 * (f : Int)))
      · refine Or.inl ⟨by omega, fun t ht => ?_⟩
        by_cases htk : t = k
        · subst htk; exact Or.inr ⟨rfl, Int.le_refl _⟩
        · have := hf.2 t (by omega); omega
      · refine Or.inr ⟨by omega, fun t ht => ?_⟩
        by_cases htk : t = k
        · subst htk; omega
        · exact hf.2 t (by omega)
    have e1 : g_m_lightest_L4 (n + 1) (f : Int) (k : Int) σ = g_m_lightest_L4 n (((if σ 147 (121 + (k : Int)) < σ 147 (121 + (f : Int)) ∨ (σ 147 (121 + (k : Int)) = σ 147 (121 + (f : Int)) ∧ σ 144 (348 + 10 * (k : Int)) < σ 144 (348 + 10 * (f : Int))) then k else f) : Nat) : Int) ((k + 1 : Nat) : Int) σ := by
      conv => lhs; unfold g_m_lightest_L4
      unfold g_m_lightest_L85 g_m_lightest_L89 g_m_lightest_L90 g_m_lightest_L100
      simp only [hN]
      rw [if_neg (by omega), w32_id (x := 121 + (k : Int)) (by omega) (by omega), w32_id (x := 121 + (f : Int)) (by omega) (by omega), w32_id (x := (k : Int) + 1) (by omega) (by omega), if_pos (by omega), if_pos (by omega), if_neg (show ¬ ((1 : Int) = 0) by decide), if_pos trivial, show ((k + 1 : Nat) : Int) = (k : Int) + 1 by omega]
      by_cases c1 : σ 147 (121 + (k : Int)) < σ 147 (121 + (f : Int))
      · rw [if_pos (lCmp_lt.mpr c1), if_pos (Or.inl c1)]
      · rw [if_neg (fun e => c1 (lCmp_lt.mp e)), if_pos (by omega), if_pos (by omega)]
        by_cases c2 : σ 147 (121 + (k : Int)) = σ 147 (121 + (f : Int))
        · rw [if_neg (fun e => e (lCmp_eq.mpr c2)), s_region (by omega) (by omega)]
          rw [Option.bind_some]
          try dsimp only
          rw [s_region (by omega) (by omega)]
          rw [Option.bind_some]
          try dsimp only
          rw [w32_id (x := 340 + 10 * (k : Int) + 8) (by omega) (by omega), w32_id (x := 340 + 10 * (f : Int) + 8) (by omega) (by omega), if_pos (by omega), if_pos (by omega), show 340 + 10 * (k : Int) + 8 = 348 + 10 * (k : Int) by omega, show 340 + 10 * (f : Int) + 8 = 348 + 10 * (f : Int) by omega]
          by_cases c3 : σ 144 (348 + 10 * (k : Int)) < σ 144 (348 + 10 * (f : Int))
          · rw [if_neg (show ¬ σ 144 (348 + 10 * (f : Int)) ≤ σ 144 (348 + 10 * (k : Int)) by omega), if_neg (show ¬ ((1 : Int) = 0) by decide), if_pos (Or.inr ⟨c2, c3⟩)]
          · rw [if_pos (show σ 144 (348 + 10 * (f : Int)) ≤ σ 144 (348 + 10 * (k : Int)) by omega), if_pos trivial, if_neg (fun e => e.elim c1 (fun e => c3 e.2))]
        · rw [if_pos (fun e => c2 (lCmp_eq.mp e)), if_neg (fun e => e.elim c1 (fun e => c2 e.1))]
    rw [e1]
    refine s_light4 hN hN2 d (k + 1) n _ (by omega) (by omega) ?_
    by_cases c : σ 147 (121 + (k : Int)) < σ 147 (121 + (f : Int)) ∨ (σ 147 (121 + (k : Int)) = σ 147 (121 + (f : Int)) ∧ σ 144 (348 + 10 * (k : Int)) < σ 144 (348 + 10 * (f : Int)))
    · rw [if_pos c]
      refine ⟨by omega, fun t ht => ?_⟩
      by_cases htk : t = k
      · subst htk; exact Or.inr ⟨rfl, Int.le_refl _⟩
      · have := hf.2 t (by omega); omega
    · rw [if_neg c]
      refine ⟨by omega, fun t ht => ?_⟩
      by_cases htk : t = k
      · subst htk; omega
      · exact hf.2 t (by omega)
theorem s_lightest {σ : zS} {N : Nat} (hN : σ 144 0 = (N : Int)) (hN1 : 0 < N) (hN2 : N ≤ 239) : ∃ f, isLight σ N f ∧ g_m_lightest σ = some ((f : Int), σ) := by
  refine s_light4 hN hN2 (N - 1) 1 zK 0 (by omega) (by show _ < 1000000; omega) ⟨by decide, fun k hk => ?_⟩
  have : k = 0 := by omega
  subst this
  exact Or.inr ⟨rfl, Int.le_refl _⟩
