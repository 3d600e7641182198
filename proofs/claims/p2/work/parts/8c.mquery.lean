/-! THE REFERENCE'S REGIONS: merging, asking, a query -/
theorem jnS_a {σ : zS} {i j N : Nat} {a : Nat} {b : Int} (h1 : a ≠ 144 ∨ (b < 340 ∧ b ≠ 0 ∧ b ≠ 6)) (h2 : a ≠ 147 ∨ b < 121) (hjN : j < N) : jnS σ (i : Int) (j : Int) (N : Int) a b = σ a b := by
  have hH : ∀ a b, (a ≠ 144 ∨ b < 340) → jnH σ (i : Int) (j : Int) a b = σ a b := by
    intro a b h
    unfold jnH jnB
    by_cases c : σ 144 (344 + 10 * (j : Int)) < 0
    · rw [if_pos c, zu_c (by omega)]
      rcases h with h | h
      · exact zb_a h
      · exact zb_i (by omega)
    · rw [if_neg c]
      rcases h with h | h
      · rw [zb_a h, zu_a h, zb_a h]
      · rw [zb_i (by omega), zu_i (by omega), zb_i (by omega)]
  have hW : ∀ a b, (a ≠ 147 ∨ b < 121) → jnW (jnH σ (i : Int) (j : Int)) (i : Int) (j : Int) a b = jnH σ (i : Int) (j : Int) a b := by
    intro a b h
    unfold jnW
    by_cases c : jnH σ (i : Int) (j : Int) 147 (121 + (i : Int)) < jnH σ (i : Int) (j : Int) 147 (121 + (j : Int))
    · rw [if_pos c, zu_c (by omega)]
    · rw [if_neg c]
  unfold jnS
  rw [zu_c (by omega), zu_c (by omega)]
  unfold gS2
  rw [if_neg (fun e => by omega), if_neg (fun e => by omega), hW a b (by omega), hH a b (by omega)]
theorem t_jnS {σ : zS} {rn : Bx → Int} {st : Int → Int} {L : List Rg} {ct : Int → Int} {i j : Nat} (h : mSt σ rn st L ct) (hij : i < j) (hj : j < L.length) (hN : L.length ≤ 239) : mSt (jnS σ (i : Int) (j : Int) (L.length : Int)) rn st (jnL L i j (jnR L i j)) (upC ct 14 (w32 (ct 14 + 1))) := by
  obtain ⟨h1, h2, h3⟩ := h
  have hi : i < L.length := by omega
  have o : ∀ b, (b < 340 ∧ b ≠ 0 ∧ b ≠ 6) → jnS σ (i : Int) (j : Int) (L.length : Int) 144 b = σ 144 b := fun b k => jnS_a (Or.inr k) (Or.inl (by decide)) hj
  have hl := jn_len (i := i) (r := jnR L i j) hj
  refine ⟨⟨?_, fun k hk => ?_⟩, ⟨?_, ?_, fun y y1 y2 => ?_⟩, h3.mv (fun y _ _ => o y (by omega))⟩
  · rw [(jnS_fr hij hj hN).2, hl]
  · have hk' : k < L.length - 1 := by omega
    rw [jn_get hij hj hk, rgA_jnS (by omega) (by omega) (by omega) (by omega) (by omega) (by omega)]
    by_cases c : k < j
    · have c' : (k : Int) < (j : Int) := by omega
      simp only [if_pos c']
      by_cases ci : k = i
      · subst ci
        rw [if_pos rfl, if_pos rfl, jnR_eq hi hj, h1.2 k hi, h1.2 j hj]
      · rw [if_neg (by omega), if_neg ci, h1.2 k (by omega)]
        simp only [c, if_true]
    · have c' : ¬ (k : Int) < (j : Int) := by omega
      simp only [if_neg c']
      rw [if_neg (by omega), if_neg (by omega), show (k : Int) + 1 = ((k + 1 : Nat) : Int) by omega, h1.2 (k + 1) (by omega)]
      simp only [c, if_false]
  · rw [o 1 (by decide), h2.1]
    rfl
  · rw [jnS_a (Or.inl (by decide)) (Or.inr (by decide)) hj, h2.2.1]
    rfl
  · unfold upC
    by_cases c : y = 14
    · subst c
      rw [if_pos rfl]
      unfold jnS
      rw [zu_e (by decide)]
      have e : σ 144 6 = ct 14 := h2.2.2 14 (by decide) (by decide)
      rw [e]
    · rw [if_neg c, o _ (by omega)]
      exact h2.2.2 y y1 y2
theorem jn_ok {L : List Rg} {i j : Nat} (hi : i < L.length) (hj : j < L.length) (hk : ∀ r ∈ L, hOk r) : ∀ r ∈ jnL L i j (jnR L i j), hOk r := fun r hr => by
  unfold jnL at hr
  rcases List.mem_or_eq_of_mem_set (List.mem_of_mem_eraseIdx hr) with h | h
  · exact hk r h
  · rw [h, jnR_eq hi hj]
    exact mJoinH (hk _ (List.getElem_mem hi)) (hk _ (List.getElem_mem hj))
theorem jn_asc {L : List Rg} {i j : Nat} {m : Int} (hi : i < L.length) (hj : j < L.length) (ha : asc L m) : asc (jnL L i j (jnR L i j)) m := by
  unfold jnL
  refine asc.er (asc.set ha hi ?_) j
  rw [jnR_eq hi hj]
  rfl
theorem up0 (ct : Int → Int) : upC ct 14 (bmp 0 (ct 14)) = ct := by
  funext x
  unfold upC bmp
  by_cases c : x = 14
  · rw [if_pos c, c]
  · rw [if_neg c]
theorem up1 (ct : Int → Int) (m : Nat) : upC (upC ct 14 (w32 (ct 14 + 1))) 14 (bmp m (upC ct 14 (w32 (ct 14 + 1)) 14)) = upC ct 14 (bmp (m + 1) (ct 14)) := by
  funext x
  unfold upC
  by_cases c : x = 14
  · rw [if_pos c, if_pos c, if_pos rfl]
    rfl
  · rw [if_neg c, if_neg c, if_neg c]
/-- what the end of a query makes of regions and counters -/
def endR (rn : Bx → Int) (st : Int → Int) (L : List Rg) (ct : Int → Int) (L' : List Rg) (ct' : Int → Int) : Prop := ∃ m2, TMn rn st m2 (L, ct) (L', ct')
theorem t_stop {rn : Bx → Int} {st : Int → Int} (s1 : 0 ≤ st 1) (s2 : 0 ≤ st 2) (s5 : st 5 = 0 ∨ st 5 = 1) {L : List Rg} {ct : Int → Int} {σ : zS} (h : mSt σ rn st L ct) (hN : L.length ≤ 239) (hk : ∀ r ∈ L, hOk r) (ha : asc L (ct 8)) : ∀ n : Nat, zP' (g_m_queries_L189 n 0 σ) (fun _ s => ∃ m L' ct', TMn rn st m (L, ct) (L', ct') ∧ (∀ r ∈ L', hOk r) ∧ L'.length ≤ L.length ∧ asc L' (ct' 8) ∧ ct' 8 = ct 8 ∧ mSt s rn st L' ct')
  | 0 => zP'.no
  | n + 1 => by
    unfold g_m_queries_L189
    rw [if_pos rfl]
    exact zP'.bind (t_trims s1 s2 s5 h hN hk ha) (fun _ s p => zP'.ret p)
theorem t_merges {rn : Bx → Int} {st : Int → Int} (s1 : 0 ≤ st 1) (s2 : 0 ≤ st 2) (s5 : st 5 = 0 ∨ st 5 = 1) : ∀ (n : Nat) (L : List Rg) (ct : Int → Int) (σ : zS), RI σ L.length → mSt σ rn st L ct → L.length ≤ 239 → (∀ r ∈ L, hOk r) → asc L (ct 8) → zP' (g_m_queries_L189 n 1 σ) (fun _ s => ∃ m1 L2 m2 L' ct', MGn m1 L L2 ∧ TMn rn st m2 (L2, upC ct 14 (bmp m1 (ct 14))) (L', ct') ∧ (∀ r ∈ L', hOk r) ∧ asc L' (ct' 8) ∧ ct' 8 = ct 8 ∧ mSt s rn st L' ct')
  | 0, _, _, _, _, _, _, _, _ => zP'.no
  | n + 1, L, ct, σ, hR, h, hN2, hk, ha => by
    have step : g_m_queries_L189 (n + 1) 1 σ = (g_m_isMerged σ).bind (fun o => g_m_queries_L189 n o.1 o.2) := by
      conv => lhs; unfold g_m_queries_L189
      rw [if_neg (by decide)]
    rw [step]
    have hb : ∀ (k : Nat) (hk : k < L.length), (rgA σ (k : Int)).1 = L[k].1 := fun k hk => by rw [h.1.2 k hk]
    rcases s_isMerged hR h.1.1 hN2 with ⟨i, j, k1, k2, k3, k4, k5⟩ | ⟨k1, k2⟩
    · rw [k5]
      rw [Option.bind_some]
      try dsimp only
      have hi : i < L.length := by omega
      have first : isF L i j := by
        refine ⟨⟨hi, k2, k1, ?_⟩, fun a b hp => ?_⟩
        · rw [hb i hi, hb j k2] at k3
          exact k3
        · obtain ⟨ha1, hb1, hab, ho⟩ := hp
          exact k4 a b hab hb1 (by rw [hb a ha1, hb b hb1]; exact ho)
      have hl := jn_len (i := i) (r := jnR L i j) k2
      have RJ := RI_join hR k1 k2 hN2 k3
      rw [← hl] at RJ
      refine (t_merges s1 s2 s5 n _ _ _ RJ (t_jnS h k1 k2 hN2) (by omega) (jn_ok hi k2 hk) (jn_asc hi k2 ha)).imp (fun _ s p => ?_)
      obtain ⟨m1, L2, m2, L', ct', p1, p2, p3, p4, p5, p6⟩ := p
      rw [up1] at p2
      exact ⟨m1 + 1, L2, m2, L', ct', ⟨i, j, first, p1⟩, p2, p3, p4, p5, p6⟩
    · rw [k2]
      rw [Option.bind_some]
      try dsimp only
      refine (t_stop s1 s2 s5 h hN2 hk ha n).imp (fun _ s p => ?_)
      obtain ⟨m, L', ct', p1, p2, p3, p4, p5, p6⟩ := p
      refine ⟨0, L, m, L', ct', ⟨fun a b hp => ?_, rfl⟩, by rw [up0]; exact p1, p2, p4, p5, p6⟩
      obtain ⟨ha1, hb1, hab, ho⟩ := hp
      exact k1 a b hab hb1 (by rw [hb a ha1, hb b hb1]; exact ho)
theorem t_cost {s : zS} {rn : Bx → Int} {st : Int → Int} {b : Bx} (h : mKp s rn st) : costN s b = csP rn st b := by
  unfold csP costN
  have e : s 144 11 = st 0 := h.1 0 (by decide) (by decide)
  rw [h.2 b, e]
theorem t_ask {σ : zS} {rn : Bx → Int} {st : Int → Int} {L : List Rg} {ct : Int → Int} {p : Bx} (h : mSt σ rn st L ct) (hN : L.length ≤ 240) : mSt (askS σ (costN σ p)) rn st L (askP rn st ct p) := by
  obtain ⟨h1, h2, h3⟩ := h
  refine ⟨h1.mv (fun j _ => askS_a (by omega)) (fun j _ _ => askS_a (by omega)) hN, ?_, h3.mv (fun j _ _ => askS_a (by omega))⟩
  have a1 := mCt.up (i := 10) (j := 2) (v := w32 (σ 144 2 + 1)) h2 (by decide) (by decide)
  have a2 := mCt.up (i := 11) (j := 3) (v := w32 (σ 144 3 + costN σ p)) a1 (by decide) (by decide)
  have e2 : σ 144 2 = ct 10 := h2.2.2 10 (by decide) (by decide)
  have e3 : σ 144 3 = ct 11 := h2.2.2 11 (by decide) (by decide)
  rw [e2, e3, t_cost h3] at a2
  unfold askS askP
  rw [e2, e3, t_cost h3]
  exact a2
theorem t_adds {σ : zS} {rn : Bx → Int} {st : Int → Int} {L : List Rg} {ct : Int → Int} {p : Bx} (h : mSt σ rn st L ct) (hN : L.length ≤ 239) : mRs (addsS σ (L.length : Int) p) (L ++ [(p, vdB, ct 8, 0, σ 147 (121 + (L.length : Int)))]) ∧ mCt (addsS σ (L.length : Int) p) (upC ct 8 (w32 (ct 8 + 1))) ∧ mKp (addsS σ (L.length : Int) p) rn st := by
  obtain ⟨h1, h2, h3⟩ := h
  refine ⟨⟨?_, fun k hk => ?_⟩, ⟨?_, ?_, fun i i1 i2 => ?_⟩, h3.mv (fun j _ _ => addsS_a (by omega))⟩
  · rw [addsS_N (by omega) (by omega), List.length_append]
    show (L.length : Int) + 1 = ((L.length + 1 : Nat) : Int)
    omega
  · rw [List.length_append] at hk
    have hk : k < L.length + 1 := hk
    by_cases c : k < L.length
    · rw [List.getElem_append_left c, rgA_addo (by omega) (by omega) (by omega)]
      exact h1.2 k c
    · have ek : k = L.length := by omega
      subst ek
      rw [List.getElem_append_right (Nat.le_refl _), rgA_adds (by omega), h2.1]
      simp
      rfl
  · unfold addsS
    rw [zu_i (by decide), zu_e rfl, h2.1]
    rfl
  · rw [addsS_a (by omega), h2.2.1]
    rfl
  · rw [addsS_a (by omega), h2.2.2 i i1 i2]
    unfold upC
    rw [if_neg (by omega)]
theorem t_trW {s : zS} {rn : Bx → Int} {st : Int → Int} {L : List Rg} {ct : Int → Int} {k : Nat} (h : mSt s rn st L ct) (hk : k < L.length) (hN : L.length ≤ 240) : mSt (trW s (k : Int)) rn st (L.set k (reW rn st (ct 9) (rgD L k))) ct := by
  obtain ⟨h1, h2, h3⟩ := h
  have g := h1.2 k hk
  rw [← rgD_eq hk] at g
  have o : ∀ a j, (a ≠ 147 ∨ j ≠ 121 + (k : Int)) → trW s (k : Int) a j = s a j := fun a j c => zu_c c
  refine ⟨mRs.set h1 (o 144 0 (Or.inl (by decide))) ?_ (fun t ht hne => rgA_mv (fun j _ _ => o 144 j (Or.inl (by decide))) (o 147 _ (by omega))), h2.mv (fun j _ _ => o 144 j (Or.inl (by decide))) (o 147 0 (by omega)), h3.mv (fun j _ _ => o 144 j (Or.inl (by decide)))⟩
  have gb : bxA s 144 (340 + 10 * (k : Int)) = (rgD L k).1 := by rw [← g]; rfl
  have gt : s 144 (349 + 10 * (k : Int)) = (rgD L k).2.2.2.1 := by rw [← g]; rfl
  have w1 : trW s (k : Int) 147 (121 + (k : Int)) = wtP rn st (ct 9) (rgD L k).1 (rgD L k).2.2.2.1 := by
    unfold trW
    rw [zu_e rfl, gb, gt, t_wgt h3, h2.2.1]
  have b : ∀ j, bxA (trW s (k : Int)) 144 j = bxA s 144 j := fun j => by
    unfold bxA
    rw [o 144 _ (Or.inl (by decide)), o 144 _ (Or.inl (by decide)), o 144 _ (Or.inl (by decide)), o 144 _ (Or.inl (by decide))]
  have e : rgA (trW s (k : Int)) (k : Int) = ((rgA s (k : Int)).1, (rgA s (k : Int)).2.1, (rgA s (k : Int)).2.2.1, (rgA s (k : Int)).2.2.2.1, trW s (k : Int) 147 (121 + (k : Int))) := by
    unfold rgA
    rw [b, b, o 144 _ (Or.inl (by decide)), o 144 _ (Or.inl (by decide))]
  rw [e, w1, g]
  rfl
theorem t_add {σ : zS} {rn : Bx → Int} {st : Int → Int} {L : List Rg} {ct : Int → Int} {p : Bx} (h : mSt σ rn st L ct) (hN : L.length ≤ 239) : mSt (trW (addsS σ (L.length : Int) p) (L.length : Int)) rn st (L ++ [newR rn st ct p]) (upC ct 8 (w32 (ct 8 + 1))) := by
  have h1 := t_adds (p := p) h hN
  have hl : (L ++ [((p, vdB, ct 8, 0, σ 147 (121 + (L.length : Int))) : Rg)]).length = L.length + 1 := by
    rw [List.length_append]
    rfl
  have h2 := t_trW (k := L.length) h1 (by rw [hl]; omega) (by rw [hl]; omega)
  have eq : (L ++ [((p, vdB, ct 8, 0, σ 147 (121 + (L.length : Int))) : Rg)]).set L.length (reW rn st (upC ct 8 (w32 (ct 8 + 1)) 9) (rgD (L ++ [((p, vdB, ct 8, 0, σ 147 (121 + (L.length : Int))) : Rg)]) L.length)) = L ++ [newR rn st ct p] := by
    have erg : rgD (L ++ [((p, vdB, ct 8, 0, σ 147 (121 + (L.length : Int))) : Rg)]) L.length = (p, vdB, ct 8, 0, σ 147 (121 + (L.length : Int))) := by
      rw [rgD_eq (by rw [hl]; omega), List.getElem_append_right (Nat.le_refl _)]
      simp
    rw [erg, List.set_append_right _ _ (Nat.le_refl _), Nat.sub_self]
    rfl
  rw [eq] at h2
  exact h2
theorem new_ok {rn : Bx → Int} {st : Int → Int} {ct : Int → Int} {p : Bx} (h : bOk p) : hOk (newR rn st ct p) := ⟨h, Or.inl (show vdB.1 < 0 by decide)⟩
theorem t_pieces {P : List Bx} {σ0 : zS} {rn : Bx → Int} {st : Int → Int} (okP : ∀ p ∈ P, bOk p) (hPP : P.Pairwise (fun a b => ¬ bMt a b)) (hlP : P.length ≤ 200) : ∀ (suf pre : List Bx) (n : Nat) (X : List Rg × (Int → Int)) (σ : zS), P = pre ++ suf → suf.length < n → frA σ0 σ → σ 143 10 = (P.length : Int) → lstA σ 150 P.length = P → RI σ X.1.length → mSt σ rn st X.1 X.2 → X.1.length ≤ 20 + pre.length → asc X.1 (X.2 8) → (∀ r ∈ X.1, hOk r) → (0 ≤ X.2 8 ∧ X.2 8 + (suf.length : Int) < 2147483648) → (∀ k : Nat, k < X.1.length → ∀ p ∈ suf, ¬ bMt (rgA σ (k : Int)).1 p) → ∃ s, g_m_queries_L112 n (pre.length : Int) σ = g_m_queries_L188 (if σ 144 15 = 1 then 1 else 0) s ∧ RI s (suf.foldl (pcP rn st) X).1.length ∧ mSt s rn st (suf.foldl (pcP rn st) X).1 (suf.foldl (pcP rn st) X).2 ∧ (suf.foldl (pcP rn st) X).1.length ≤ 20 + P.length ∧ asc (suf.foldl (pcP rn st) X).1 ((suf.foldl (pcP rn st) X).2 8) ∧ (∀ r ∈ (suf.foldl (pcP rn st) X).1, hOk r) ∧ (X.2 8 ≤ (suf.foldl (pcP rn st) X).2 8 ∧ (suf.foldl (pcP rn st) X).2 8 ≤ X.2 8 + (suf.length : Int))
  | _, _, 0, _, _, _, h, _, _, _, _, _, _, _, _, _, _ => absurd h (Nat.not_lt_zero _)
  | [], pre, n + 1, X, σ, h, _, hf, hM, _, hR, hS, hNp, ha, hk, _, _ => by
    rw [List.append_nil] at h
    subst h
    refine ⟨σ, ?_, hR, hS, hNp, ha, hk, Int.le_refl _, by rw [List.length_nil]; exact Int.le_add_of_nonneg_right (Int.le_refl _)⟩
    unfold g_m_queries_L112
    simp only [hM]
    rw [if_pos (by omega)]
    show (if σ 144 15 ≠ 1 then _ else _) = _
    by_cases c : σ 144 15 = 1
    · rw [if_neg (fun e => e c), if_pos c]
    · rw [if_pos c, if_neg c]
  | p :: suf, pre, n + 1, X, σ, h, hn, hf, hM, hP, hR, hS, hNp, ha, hk, h8, hd => by
    have hlen : P.length = pre.length + (suf.length + 1) := by rw [h, List.length_append, List.length_cons]
    have hp : bxA σ 150 (4 * (pre.length : Int)) = p := by
      have e1 := lstA_get (σ := σ) (a := 150) (n := P.length) (k := pre.length) (by omega)
      rw [hP] at e1
      have e2 : P[pre.length]? = some p := by rw [h, List.getElem?_append_right (Nat.le_refl _), Nat.sub_self]; rfl
      rw [e2] at e1
      exact (Option.some.inj e1).symm
    have okp : bOk p := okP p (by rw [h]; exact List.mem_append_right _ List.mem_cons_self)
    have hps : ∀ x ∈ suf, ¬ bMt p x := by
      rw [h] at hPP
      exact (List.pairwise_cons.mp (List.pairwise_append.mp hPP).2.1).1
    have hN := hS.1.1
    rw [List.length_cons] at h8
    rw [s_piece hM (by omega) (by omega) hN (by omega) hp n]
    have h' : P = (pre ++ [p]) ++ suf := by rw [h, List.append_assoc]; rfl
    have hn' : suf.length < n := by rw [List.length_cons] at hn; omega
    have ek : (pre ++ [p]).length = pre.length + 1 := by rw [List.length_append, List.length_singleton]
    have e17 : σ 144 17 = st 6 := hS.2.2.1 6 (by decide) (by decide)
    have sA := t_ask (p := p) hS (by omega)
    have a8 : askP rn st X.2 p 8 = X.2 8 := rfl
    have lc : (p :: suf).foldl (pcP rn st) X = suf.foldl (pcP rn st) (pcP rn st X p) := rfl
    rw [lc, List.length_cons]
    by_cases c : σ 144 17 < bArea p
    · rw [if_pos c]
      have ep : pcP rn st X p = (X.1, askP rn st X.2 p) := if_pos (by rw [← e17]; exact c)
      rw [ep]
      have := t_pieces (rn := rn) (st := st) okP hPP hlP suf (pre ++ [p]) n (X.1, askP rn st X.2 p) (askS σ (costN σ p)) h' hn' (hf.trans (fun a j k1 k2 => askS_a (by omega))) (by rw [askS_a (Or.inl (by decide))]; exact hM) (by
        rw [← hP, lstA_len]
        unfold lstA
        congr 1) (RI_of hR (fun k hk => by rw [rgA_ask (by omega)]; exact ⟨rfl, rfl⟩)) sA (by show X.1.length ≤ _; omega) ha hk (by show 0 ≤ X.2 8 ∧ X.2 8 + (suf.length : Int) < _; omega) (fun k hk x hx => by rw [rgA_ask (by omega)]; exact hd k hk x (List.mem_cons_of_mem _ hx))
      rw [ek, askS_a (by omega)] at this
      obtain ⟨s, q1, q2, q3, q4, q5, q6, q7, q8⟩ := this
      have q7 : X.2 8 ≤ _ := q7
      have q8 : _ ≤ X.2 8 + (suf.length : Int) := q8
      exact ⟨s, q1, q2, q3, q4, q5, q6, q7, by omega⟩
    · rw [if_neg c]
      have ep : pcP rn st X p = (X.1 ++ [newR rn st (askP rn st X.2 p) p], upC (askP rn st X.2 p) 8 (w32 (askP rn st X.2 p 8 + 1))) := if_neg (by rw [← e17]; exact c)
      rw [ep]
      have hR1 : RI (askS σ (costN σ p)) X.1.length := RI_of hR (fun k hk => by rw [rgA_ask (by omega)]; exact ⟨rfl, rfl⟩)
      have hR2 : RI (addsS (askS σ (costN σ p)) (X.1.length : Int) p) (X.1.length + 1) := RI_adds hR1 okp (fun k hk => by rw [rgA_ask (by omega)]; exact hd k hk p List.mem_cons_self)
      have wa : ∀ a j, (a ≠ 147 ∨ j ≠ 121 + (X.1.length : Int)) → trW (addsS (askS σ (costN σ p)) (X.1.length : Int) p) (X.1.length : Int) a j = addsS (askS σ (costN σ p)) (X.1.length : Int) p a j := fun a j h => zu_c h
      have fin : ∀ a j, (a ≠ 144 ∨ (4 ≤ j ∧ j < 340)) → (a ≠ 147 ∨ j < 121) → trW (addsS (askS σ (costN σ p)) (X.1.length : Int) p) (X.1.length : Int) a j = σ a j := fun a j k1 k2 => by
        rw [wa a j (by omega), addsS_a (by omega), askS_a (by omega)]
      have hl : (X.1 ++ [newR rn st (askP rn st X.2 p) p]).length = X.1.length + 1 := by
        rw [List.length_append]
        rfl
      have w8 : w32 (askP rn st X.2 p 8 + 1) = X.2 8 + 1 := by
        rw [a8]
        exact w32_id (by omega) (by omega)
      have u8 : upC (askP rn st X.2 p) 8 (w32 (askP rn st X.2 p 8 + 1)) 8 = X.2 8 + 1 := w8
      have := t_pieces (rn := rn) (st := st) okP hPP hlP suf (pre ++ [p]) n (X.1 ++ [newR rn st (askP rn st X.2 p) p], upC (askP rn st X.2 p) 8 (w32 (askP rn st X.2 p 8 + 1))) (trW (addsS (askS σ (costN σ p)) (X.1.length : Int) p) (X.1.length : Int)) h' hn' (hf.trans fin) (by rw [fin 143 10 (Or.inl (by decide)) (Or.inl (by decide))]; exact hM) (by
        rw [← hP, lstA_len]
        unfold lstA
        congr 1) (by
        show RI _ (X.1 ++ [newR rn st (askP rn st X.2 p) p]).length
        rw [hl]
        exact RI_of hR2 (fun k hk => rgA_w)) (t_add sA (by omega)) (by
        show (X.1 ++ [newR rn st (askP rn st X.2 p) p]).length ≤ _
        rw [hl]
        omega) (by
        show asc (X.1 ++ [newR rn st (askP rn st X.2 p) p]) (upC (askP rn st X.2 p) 8 (w32 (askP rn st X.2 p 8 + 1)) 8)
        rw [u8]
        exact asc.add ha rfl) (fun r hr => by
        rcases List.mem_append.mp hr with hr | hr
        · exact hk r hr
        · rw [List.mem_singleton] at hr
          rw [hr]
          exact new_ok okp) (by
        show 0 ≤ upC (askP rn st X.2 p) 8 (w32 (askP rn st X.2 p 8 + 1)) 8 ∧ upC (askP rn st X.2 p) 8 (w32 (askP rn st X.2 p 8 + 1)) 8 + (suf.length : Int) < _
        rw [u8]
        omega) (fun k hk x hx => by
        have hk : k < (X.1 ++ [newR rn st (askP rn st X.2 p) p]).length := hk
        rw [hl] at hk
        rw [rgA_w.1]
        by_cases ckN : k = X.1.length
        · subst ckN
          rw [rgA_adds (by omega)]
          exact hps x hx
        · rw [rgA_addo (by omega) (by omega) (by omega), rgA_ask (by omega)]
          exact hd k (by omega) x (List.mem_cons_of_mem _ hx))
      rw [ek, fin 144 15 (by omega) (Or.inl (by decide))] at this
      obtain ⟨s, q1, q2, q3, q4, q5, q6, q7, q8⟩ := this
      have q7 : upC (askP rn st X.2 p) 8 (w32 (askP rn st X.2 p 8 + 1)) 8 ≤ _ := q7
      have q8 : _ ≤ upC (askP rn st X.2 p) 8 (w32 (askP rn st X.2 p 8 + 1)) 8 + (suf.length : Int) := q8
      rw [u8] at q7 q8
      exact ⟨s, q1, q2, q3, q4, q5, q6, by omega, by omega⟩
theorem mHit_eq {σ : zS} {rn : Bx → Int} {st : Int → Int} {q : Bx} {r : Rg} (h : mKp σ rn st) : mHit σ q r = hitR rn st (σ 147 0) (bCom r.1 q) r := by
  unfold mHit
  rw [t_wgt h]
  rfl
theorem hit1_num {rn : Bx → Int} {st : Int → Int} {lev : Int} {q : Bx} (r : Rg) : (hit1 rn st lev q r).2.2.1 = r.2.2.1 := by
  unfold hit1
  by_cases c : bMt r.1 q
  · rw [if_pos c]
    rfl
  · rw [if_neg c]
/-- A QUERY of the reference, but for its answer -/
theorem t_queries {σ : zS} {rn : Bx → Int} {st : Int → Int} {L : List Rg} {ct : Int → Int} {q : Bx} (s1 : 0 ≤ st 1) (s2 : 0 ≤ st 2) (s4 : st 4 = 0 ∨ st 4 = 1) (s5 : st 5 = 0 ∨ st 5 = 1) (hR : RI σ L.length) (h : mSt σ rn st L ct) (hN2 : L.length ≤ 12) (hq : bOk q) (hb : bxA σ 152 0 = q) (ha : asc L (ct 8)) (h8 : 0 ≤ ct 8 ∧ ct 8 + 169 < 2147483648) : zP' (g_m_queries σ) (fun _ s => ∃ L' ct', srvR rn st q L ct L' ct' ∧ (∀ r ∈ L', hOk r) ∧ asc L' (ct' 8) ∧ (ct 8 ≤ ct' 8 ∧ ct' 8 ≤ ct 8 + 169) ∧ mSt s rn st L' ct') := by
  have hN := h.1.1
  obtain ⟨r1, r2⟩ := RI_rbx hR
  have hk : ∀ r ∈ L, hOk r := fun r hr => by
    obtain ⟨k, hk, rfl⟩ := List.getElem_of_mem hr
    have g := hR.1 k hk
    rw [h.1.2 k hk] at g
    exact ⟨g.1, g.2.imp id (fun x => x.1)⟩
  have erb : rbx σ L.length = L.map (fun r => r.1) := by
    refine List.ext_getElem (by rw [rbx_len, List.length_map]) (fun i h1 h2 => ?_)
    rw [rbx_len] at h1
    have e := rbx_get (σ := σ) (n := L.length) (k := i) h1
    rw [List.getElem?_eq_getElem (by rw [rbx_len]; exact h1)] at e
    rw [Option.some.inj e, List.getElem_map, ← h.1.2 i h1]
    rfl
  obtain ⟨s1', m1, m2, m3, m4⟩ := s_misses (σ := σ) (q := q) (rs := rbx σ L.length) hq hb r1 r2 (by rw [rbx_len]; exact hN2) (by rw [rbx_len]; exact hN) (by rw [rbx_len])
  have hinv := (bMissAll_inv hq (rbx σ L.length) r1 r2).1
  have h169 := bMissAll_169 hq r1 r2 (by rw [rbx_len]; exact hN2)
  generalize hP : bMissAll q (rbx σ L.length) = P at m3 m4 hinv h169
  have a1 : ∀ a j, a ≠ 150 → a ≠ 151 → (a ≠ 143 ∨ j ≠ 10) → s1' a j = σ a j := m2
  have e144 : ∀ j, s1' 144 j = σ 144 j := fun j => a1 144 j (by decide) (by decide) (Or.inl (by decide))
  have e147 : ∀ j, s1' 147 j = σ 147 j := fun j => a1 147 j (by decide) (by decide) (Or.inl (by decide))
  have hrg : ∀ k : Int, rgA s1' k = rgA σ k := fun k => rgA_mv (fun j _ _ => e144 j) (e147 _)
  have hN1 : s1' 144 0 = (L.length : Int) := (e144 0).trans hN
  have hb1 : bxA s1' 152 0 = q := (frM_bx m2 (by decide) (by decide) (by decide)).trans hb
  have k1 : mKp s1' rn st := h.2.2.mv (fun j _ _ => e144 j)
  have l1 : s1' 147 0 = ct 9 := (e147 0).trans h.2.1.2.1
  obtain ⟨s2', n1, n2, n3⟩ := s_hits hN1 (by omega) hb1 L.length 0 zK s1' (by omega) (by show _ < 1000000; omega) (fun _ _ _ _ _ => rfl) (fun t ht => by rw [if_neg (by omega)])
  have n2a : ∀ a j, a ≠ 153 → (a ≠ 144 ∨ j < 340) → (a ≠ 147 ∨ j < 121) → s2' a j = s1' a j := n2
  have hl2 : lstA s2' 150 P.length = P := by
    rw [← m4, lstA_len]
    unfold lstA
    congr 1
    funext k
    exact n2.bx (by decide) (by decide) (by decide)
  have hbx2 : ∀ k : Nat, k < L.length → (rgA s2' (k : Int)).1 = (rgA σ (k : Int)).1 := by
    intro k hk
    rw [n3 k hk, hrg]
    split <;> rfl
  have hR2 : RI s2' L.length := by
    refine ⟨fun k hk => ?_, fun k1 k2 h1 h2 => ?_⟩
    · rw [n3 k hk, hrg]
      by_cases c : bMt (rgA σ (k : Int)).1 q
      · rw [if_pos c]; exact mHit_ok (hR.1 k hk) hq c
      · rw [if_neg c]; exact hR.1 k hk
    · rw [hbx2 k1 (by omega), hbx2 k2 h2]
      exact hR.2 k1 k2 h1 h2
  have hlm : (L.map (hit1 rn st (ct 9) q)).length = L.length := List.length_map _
  have hS2 : mSt s2' rn st (L.map (hit1 rn st (ct 9) q)) ct := by
    refine ⟨⟨?_, fun k hk => ?_⟩, ⟨?_, ?_, fun i i1 i2 => ?_⟩, k1.mv (fun j _ _ => n2a 144 j (by decide) (by omega) (Or.inl (by decide)))⟩
    · rw [hlm, n2a 144 0 (by decide) (by omega) (Or.inl (by decide))]
      exact hN1
    · rw [hlm] at hk
      rw [List.getElem_map, n3 k hk, hrg, h.1.2 k hk, mHit_eq k1, l1]
      rfl
    · rw [n2a 144 1 (by decide) (by omega) (Or.inl (by decide)), e144]
      exact h.2.1.1
    · rw [n2a 147 0 (by decide) (by omega) (by omega)]
      exact l1
    · rw [n2a 144 _ (by decide) (by omega) (Or.inl (by decide)), e144]
      exact h.2.1.2.2 i i1 i2
  have hk2 : ∀ r ∈ L.map (hit1 rn st (ct 9) q), hOk r := fun r hr => by
    obtain ⟨x, hx, rfl⟩ := List.mem_map.mp hr
    exact hit1_ok hq (hk x hx)
  obtain ⟨s3', p1, p2, p3, p4, p5, p6, p7, p8⟩ := t_pieces (P := P) (σ0 := s2') (rn := rn) (st := st) (fun p hp => (hinv.1 p hp).1) (List.Pairwise.imp_of_mem (fun {a b} ha hb' hab => bSep_not (hinv.1 a ha).1 (hinv.1 b hb').1 hab) hinv.2) (by omega) P [] zK (L.map (hit1 rn st (ct 9) q), ct) s2' rfl (by show _ < 1000000; omega) (fun _ _ _ _ => rfl) ((n2 143 10 (by decide) (Or.inl (by decide)) (Or.inl (by decide))).trans m3) hl2 (by
    show RI s2' (L.map (hit1 rn st (ct 9) q)).length
    rw [hlm]
    exact hR2) hS2 (by
    show (L.map (hit1 rn st (ct 9) q)).length ≤ _
    rw [hlm]
    omega) (asc.map ha (fun r => hit1_num r)) hk2 (by
    show 0 ≤ ct 8 ∧ ct 8 + (P.length : Int) < _
    omega) (fun k hk p hp hm => by
    have hk : k < (L.map (hit1 rn st (ct 9) q)).length := hk
    rw [hlm] at hk
    rw [hbx2 k hk] at hm
    have hmem : (rgA σ (k : Int)).1 ∈ rbx σ L.length := List.mem_of_getElem? (rbx_get (σ := σ) hk)
    exact (hinv.1 p hp).2.2.2 _ hmem (bMt_comm hm))
  have eY : P.foldl (pcP rn st) (L.map (hit1 rn st (ct 9) q), ct) = srv1 rn st q L ct := by
    unfold srv1
    rw [← erb, hP]
  rw [eY] at p2 p3 p4 p5 p6 p7 p8
  have p7 : ct 8 ≤ (srv1 rn st q L ct).2 8 := p7
  have p8 : (srv1 rn st q L ct).2 8 ≤ ct 8 + (P.length : Int) := p8
  have e1 : g_m_queries σ = g_m_queries_L188 (if s2' 144 15 = 1 then 1 else 0) s3' := by
    unfold g_m_queries
    rw [m1]
    rw [Option.bind_some]
    try dsimp only
    exact n1.trans p1
  have e15 : s2' 144 15 = st 4 := hS2.2.2.1 4 (by decide) (by decide)
  rw [e1, e15]
  unfold g_m_queries_L188
  by_cases c : st 4 = 1
  · rw [if_pos c]
    refine (t_merges s1 s2 s5 zK _ _ s3' p2 p3 (by omega) p6 p5).imp (fun _ s p => ?_)
    obtain ⟨m1, L2, m2, L', ct', q1, q2, q3, q4, q5, q6⟩ := p
    refine ⟨L', ct', ⟨m1, m2, L2, ?_, q2⟩, q3, q4, by omega, q6⟩
    rw [if_neg (by omega)]
    exact q1
  · rw [if_neg c]
    refine (t_stop s1 s2 s5 p3 (by omega) p6 p5 zK).imp (fun _ s p => ?_)
    obtain ⟨m, L', ct', q1, q2, q3, q4, q5, q6⟩ := p
    refine ⟨L', ct', ⟨0, m, (srv1 rn st q L ct).1, ?_, ?_⟩, q2, q4, by omega, q6⟩
    · rw [if_pos (s4.resolve_right c)]
      exact ⟨rfl, rfl⟩
    · rw [up0]
      exact q1
