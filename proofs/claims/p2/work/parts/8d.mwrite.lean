/-! THE REFERENCE'S REGIONS: a write at a place -/
theorem mRs.last {σ s : zS} {L : List Rg} {r : Rg} (h : mRs σ L) (e0 : s 144 0 = (L.length : Int) + 1) (e1 : rgA s (L.length : Int) = r) (e2 : ∀ k : Nat, k < L.length → rgA s (k : Int) = rgA σ (k : Int)) : mRs s (L ++ [r]) := by
  refine ⟨?_, fun k hk => ?_⟩
  · rw [e0, List.length_append]
    show (L.length : Int) + 1 = ((L.length + 1 : Nat) : Int)
    omega
  · rw [List.length_append] at hk
    have hk : k < L.length + 1 := hk
    by_cases c : k < L.length
    · rw [List.getElem_append_left c, e2 k c]
      exact h.2 k c
    · have ek : k = L.length := by omega
      subst ek
      rw [List.getElem_append_right (Nat.le_refl _), e1]
      simp
theorem t_goes {σ : zS} {rn : Bx → Int} {st : Int → Int} {L : List Rg} {ct : Int → Int} {f : Nat} (h : mSt σ rn st L ct) (hf : f < L.length) (hN : L.length ≤ 239) : mSt (zu (gS2 σ (f : Int) (L.length : Int) 0) 144 0 ((L.length : Int) - 1)) rn st (L.eraseIdx f) ct ∧ (∀ a j, (a ≠ 144 ∨ (j ≠ 0 ∧ j < 340)) → (a ≠ 147 ∨ j < 121) → zu (gS2 σ (f : Int) (L.length : Int) 0) 144 0 ((L.length : Int) - 1) a j = σ a j) := by
  obtain ⟨h1, h2, h3⟩ := h
  have o : ∀ a j, (a ≠ 144 ∨ (j ≠ 0 ∧ j < 340)) → (a ≠ 147 ∨ j < 121) → zu (gS2 σ (f : Int) (L.length : Int) 0) 144 0 ((L.length : Int) - 1) a j = σ a j := fun a j k1 k2 => by
    rw [zu_c (by omega)]
    unfold gS2
    rw [if_neg (fun e => by omega), if_neg (fun e => by omega)]
  exact ⟨⟨mRs.er h1 hf (zu_e rfl) (fun k hk => rgA_gS2 (by omega) (by omega) (by omega) (by omega)), h2.mv (fun j j1 j2 => o 144 j (by omega) (Or.inl (by decide))) (o 147 0 (Or.inl (by decide)) (by omega)), h3.mv (fun j j1 j2 => o 144 j (by omega) (Or.inl (by decide)))⟩, o⟩
theorem t_cutS {s : zS} {rn : Bx → Int} {st : Int → Int} {L : List Rg} {ct : Int → Int} {p : Bx} {w : Int} (h : mSt s rn st L ct) (hN : L.length ≤ 239) : mSt (cutS s (L.length : Int) p w) rn st (L ++ [(p, vdB, ct 8, s 156 9, w)]) (upC ct 8 (w32 (ct 8 + 1))) := by
  obtain ⟨-, a2, a3⟩ := t_adds (p := p) h hN
  obtain ⟨h1, h2, h3⟩ := h
  have o : ∀ a j, (a ≠ 144 ∨ j ≠ 349 + 10 * (L.length : Int)) → (a ≠ 147 ∨ j ≠ 121 + (L.length : Int)) → cutS s (L.length : Int) p w a j = addsS s (L.length : Int) p a j := fun a j k1 k2 => by
    unfold cutS
    rw [zu_c k2, zu_c k1]
  have g := rgA_adds (σ := s) (k := (L.length : Int)) (b := p) (by omega)
  refine ⟨mRs.last h1 ?_ ?_ (fun k hk => ?_), a2.mv (fun j j1 j2 => o 144 j (by omega) (Or.inl (by decide))) (o 147 0 (Or.inl (by decide)) (by omega)), a3.mv (fun j j1 j2 => o 144 j (by omega) (Or.inl (by decide)))⟩
  · rw [o 144 0 (by omega) (Or.inl (by decide)), addsS_N (by omega) (by omega)]
  · have b : ∀ j, j + 4 ≤ 349 + 10 * (L.length : Int) → bxA (cutS s (L.length : Int) p w) 144 j = bxA (addsS s (L.length : Int) p) 144 j := fun j hj => by
      unfold bxA
      rw [o 144 _ (by omega) (Or.inl (by decide)), o 144 _ (by omega) (Or.inl (by decide)), o 144 _ (by omega) (Or.inl (by decide)), o 144 _ (by omega) (Or.inl (by decide))]
    have e : rgA (cutS s (L.length : Int) p w) (L.length : Int) = ((rgA (addsS s (L.length : Int) p) (L.length : Int)).1, (rgA (addsS s (L.length : Int) p) (L.length : Int)).2.1, (rgA (addsS s (L.length : Int) p) (L.length : Int)).2.2.1, s 156 9, w) := by
      unfold rgA
      rw [b _ (by omega), b _ (by omega), o 144 (348 + 10 * (L.length : Int)) (by omega) (Or.inl (by decide))]
      unfold cutS
      rw [zu_a (a := 147) (b := 144) (by decide), zu_e rfl, zu_e rfl]
    rw [e, g, h2.1]
    rfl
  · rw [rgA_mv (σ := addsS s (L.length : Int) p) (fun j j1 j2 => o 144 j (by omega) (Or.inl (by decide))) (o 147 _ (Or.inl (by decide)) (by omega))]
    exact rgA_addo (by omega) (by omega) (by omega)
theorem t_cutH {s : zS} {rn : Bx → Int} {st : Int → Int} {L : List Rg} {ct : Int → Int} {p g hb : Bx} {n t w : Int} (h : mSt s rn st (L ++ [(p, g, n, t, w)]) ct) (hN : L.length ≤ 239) : mSt (zb s 144 (344 + 10 * (L.length : Int)) hb) rn st (L ++ [(p, hb, n, t, w)]) ct := by
  obtain ⟨h1, h2, h3⟩ := h
  have hl : (L ++ [((p, g, n, t, w) : Rg)]).length = L.length + 1 := by
    rw [List.length_append]
    rfl
  have hl2 : (L ++ [((p, hb, n, t, w) : Rg)]).length = L.length + 1 := by
    rw [List.length_append]
    rfl
  refine ⟨⟨?_, fun k hk => ?_⟩, h2.mv (fun j j1 j2 => zb_i (by omega)) (zb_a (by decide)), h3.mv (fun j j1 j2 => zb_i (by omega))⟩
  · rw [zb_i (by omega), h1.1, hl, hl2]
  · rw [hl2] at hk
    have q := h1.2 k (by rw [hl]; exact hk)
    by_cases c : k < L.length
    · rw [List.getElem_append_left c] at q ⊢
      rw [rgA_mv (σ := s) (fun j j1 j2 => zb_i (by omega)) (zb_a (by decide))]
      exact q
    · have ek : k = L.length := by omega
      subst ek
      rw [List.getElem_append_right (Nat.le_refl _)] at q ⊢
      have e0 : ([((p, g, n, t, w) : Rg)])[L.length - L.length]'(by rw [Nat.sub_self]; exact Nat.one_pos) = (p, g, n, t, w) := by simp
      have e1 : ([((p, hb, n, t, w) : Rg)])[L.length - L.length]'(by rw [Nat.sub_self]; exact Nat.one_pos) = (p, hb, n, t, w) := by simp
      rw [e0] at q
      rw [e1]
      have q1 : bxA s 144 (340 + 10 * (L.length : Int)) = p := congrArg (fun r : Rg => r.1) q
      have q3 : s 144 (348 + 10 * (L.length : Int)) = n := congrArg (fun r : Rg => r.2.2.1) q
      have q4 : s 144 (349 + 10 * (L.length : Int)) = t := congrArg (fun r : Rg => r.2.2.2.1) q
      have q5 : s 147 (121 + (L.length : Int)) = w := congrArg (fun r : Rg => r.2.2.2.2) q
      unfold rgA
      rw [zb_bxi (by omega), zb_bx rfl, zb_i (by omega), zb_i (by omega), zb_a (by decide), q1, q3, q4, q5]
theorem t_cut86 {C : List Bx} {r : Rg} {rn : Bx → Int} {st : Int → Int} {X0 : List Rg × (Int → Int)} (hr : hOk r) (okC : ∀ p ∈ C, bOk p) (hlC : C.length ≤ 4) : ∀ (n k : Nat) (s : zS), k ≤ C.length → mSt s rn st ((C.take k).foldl (cutF r) X0).1 ((C.take k).foldl (cutF r) X0).2 → ((C.take k).foldl (cutF r) X0).1.length ≤ 100 + k → bxA s 156 4 = r.2.1 → s 156 9 = r.2.2.2.1 → (∀ (k : Nat) (hk : k < C.length), bxA s 151 (4 * (k : Int)) = C[k]) → zP' (g_m_cuts_L86 n r.2.2.2.2 (C.length : Int) (k : Int) s) (fun _ s' => mSt s' rn st (C.foldl (cutF r) X0).1 (C.foldl (cutF r) X0).2)
  | 0, _, _, _, _, _, _, _, _ => zP'.no
  | n + 1, k, s, hk, h, hl, hg, ht, hP => by
    have l151 : zLI 151 = 2400 := rfl
    have l156 : zLI 156 = 10 := rfl
    have l := l144
    unfold g_m_cuts_L86
    by_cases ck : (C.length : Int) ≤ (k : Int)
    · rw [if_pos ck]
      rw [List.take_of_length_le (by omega)] at h
      exact zP'.ret h
    · have hk' : k < C.length := by omega
      have okp := okC _ (List.getElem_mem hk')
      have hp := hP k hk'
      have et : (C.take (k + 1)).foldl (cutF r) X0 = cutF r ((C.take k).foldl (cutF r) X0) C[k] := by
        rw [List.take_succ_eq_append_getElem hk', List.foldl_append]
        rfl
      generalize hX : (C.take k).foldl (cutF r) X0 = X at h hl et
      generalize C[k] = p at okp hp et
      have hN := h.1.1
      have h1 := t_cutS (p := p) (w := r.2.2.2.2) h (by omega)
      rw [ht] at h1
      have hlA : (X.1 ++ [((p, cutH r.2.1 p, X.2 8, r.2.2.2.1, r.2.2.2.2) : Rg)]).length = X.1.length + 1 := by
        rw [List.length_append]
        rfl
      have go : ∀ s2 : zS, mSt s2 rn st (X.1 ++ [(p, cutH r.2.1 p, X.2 8, r.2.2.2.1, r.2.2.2.2)]) (upC X.2 8 (w32 (X.2 8 + 1))) → (∀ a j, a ≠ 144 → s2 a j = cutS s (X.1.length : Int) p r.2.2.2.2 a j) → zP' (g_m_cuts_L194 (g_m_cuts_L86 n) r.2.2.2.2 (C.length : Int) (k : Int) s2) (fun _ s' => mSt s' rn st (C.foldl (cutF r) X0).1 (C.foldl (cutF r) X0).2) := by
        intro s2 m2 f2
        have f3 : ∀ a j, a ≠ 144 → a ≠ 147 → s2 a j = s a j := fun a j k1 k2 => by
          rw [f2 a j k1, cutS_a (by omega) ⟨Or.inl k1, Or.inl k2⟩]
        have bx2 : ∀ (a : Nat) (j : Int), a ≠ 144 → a ≠ 147 → bxA s2 a j = bxA s a j := fun a j h1 h2 => by
          unfold bxA
          rw [f3 a _ h1 h2, f3 a _ h1 h2, f3 a _ h1 h2, f3 a _ h1 h2]
        unfold g_m_cuts_L194
        rw [w32_id (x := (k : Int) + 1) (by omega) (by omega), show (k : Int) + 1 = ((k + 1 : Nat) : Int) by omega]
        refine t_cut86 hr okC hlC n (k + 1) s2 (by omega) ?_ ?_ (by rw [bx2 156 4 (by decide) (by decide)]; exact hg) (by rw [f3 156 9 (by decide) (by decide)]; exact ht) (fun t ht => by rw [bx2 151 _ (by decide) (by decide)]; exact hP t ht)
        · rw [et]
          exact m2
        · rw [et]
          show (X.1 ++ [_]).length ≤ 100 + (k + 1)
          rw [List.length_append]
          show _ + 1 ≤ _
          omega
      rw [if_neg ck, w32_id (x := 4 * (k : Int)) (by omega) (by omega), s_adds (k := (X.1.length : Int)) hN (by omega) (by omega) (by omega) (by omega) (by omega), hp]
      rw [Option.bind_some]
      try dsimp only
      rw [s_region (by omega) (by omega)]
      rw [Option.bind_some]
      try dsimp only
      rw [w32_id (x := 340 + 10 * (X.1.length : Int) + 9) (by omega) (by omega), if_pos (by omega), w32_id (x := 121 + (X.1.length : Int)) (by omega) (by omega), if_pos (by omega), show 340 + 10 * (X.1.length : Int) + 9 = 349 + 10 * (X.1.length : Int) by omega]
      have e156 : addsS s (X.1.length : Int) p 156 9 = s 156 9 := addsS_a (Or.inl (by decide))
      rw [e156]
      show zP' (if cutS s (X.1.length : Int) p r.2.2.2.2 156 4 < 0 then g_m_cuts_L194 (g_m_cuts_L86 n) r.2.2.2.2 (C.length : Int) (k : Int) (cutS s (X.1.length : Int) p r.2.2.2.2) else (g_m_doMeet 156 151 4 (4 * (k : Int)) (cutS s (X.1.length : Int) p r.2.2.2.2)).bind _) _
      have e4 : cutS s (X.1.length : Int) p r.2.2.2.2 156 4 = r.2.1.1 := by
        rw [cutS_a (by omega) ⟨Or.inl (by decide), Or.inl (by decide)⟩, ← hg]
        rfl
      by_cases c1 : r.2.1.1 < 0
      · rw [if_pos (by rw [e4]; exact c1)]
        refine go _ ?_ (fun _ _ _ => rfl)
        unfold cutH
        rw [if_neg (fun hh => by omega)]
        exact h1
      · rw [if_neg (by rw [e4]; exact c1), s_doMeet (by omega) (by omega) (by omega) (by omega) (by omega) (by omega), cutS_bx (by decide) (by decide), cutS_bx (by decide) (by decide), hg, hp]
        rw [Option.bind_some]
        try dsimp only
        by_cases c2 : bMt r.2.1 p
        · rw [if_pos c2, if_neg (by decide), s_region (by omega) (by omega)]
          rw [Option.bind_some]
          try dsimp only
          rw [w32_id (x := 340 + 10 * (X.1.length : Int) + 4) (by omega) (by omega), s_commons (by omega) (by omega) (by omega) (by omega) (by omega) (by omega) (by omega) (by omega) (by omega), cutS_bx (by decide) (by decide), cutS_bx (by decide) (by decide), hg, hp, show 340 + 10 * (X.1.length : Int) + 4 = 344 + 10 * (X.1.length : Int) by omega]
          rw [Option.bind_some]
          try dsimp only
          refine go _ ?_ (fun a j hh => zb_a hh)
          unfold cutH
          rw [if_pos ⟨by omega, c2⟩]
          exact t_cutH h1 (by omega)
        · rw [if_neg c2, if_pos rfl]
          refine go _ ?_ (fun _ _ _ => rfl)
          unfold cutH
          rw [if_neg (fun hh => c2 hh.2)]
          exact h1
theorem rest_ok {r : Rg} {p : Bx} (hp : bOk p) (hr : hOk r) : (bRest r.1 p).length ≤ 4 ∧ ∀ c ∈ bRest r.1 p, bOk c := by
  refine ⟨?_, fun c hc => (bRest_sub hr.1 hp hc).1⟩
  have := bRest_len r.1 p
  refine Nat.le_trans this ?_
  split <;> split <;> split <;> omega
theorem t_cuts {σ : zS} {rn : Bx → Int} {st : Int → Int} {L : List Rg} {ct : Int → Int} {i : Nat} {x y : Int} (h : mSt σ rn st L ct) (hk : ∀ r ∈ L, hOk r) (hi : i < L.length) (hN2 : L.length ≤ 100) (hx : 0 ≤ x ∧ x ≤ 31) (hy : 0 ≤ y ∧ y ≤ 31) : zP' (g_m_cuts (i : Int) x y σ) (fun _ s => mSt s rn st ((bRest (rgD L i).1 (x, x, y, y)).foldl (cutF (rgD L i)) (L.eraseIdx i, ct)).1 ((bRest (rgD L i).1 (x, x, y, y)).foldl (cutF (rgD L i)) (L.eraseIdx i, ct)).2) := by
  have l156 : zLI 156 = 10 := rfl
  have l157 : zLI 157 = 4 := rfl
  have l151 : zLI 151 = 2400 := rfl
  have ok : hOk (rgD L i) := by
    rw [rgD_eq hi]
    exact hk _ (List.getElem_mem hi)
  have gr : rgA σ (i : Int) = rgD L i := by rw [h.1.2 i hi, rgD_eq hi]
  generalize rgD L i = r at ok gr
  obtain ⟨s1, e1, e2, e3⟩ := s_cut3 (σ := σ) (x := x) (y := y) hi hN2 10 0 zK σ (by omega) (by show _ < 1000000; omega) (fun _ _ _ => rfl) (fun t ht => absurd ht (Nat.not_lt_zero _))
  have h1 : mSt s1 rn st L ct := ⟨h.1.mv (fun j _ => e2 144 j (by decide)) (fun j _ _ => e2 147 j (by decide)) (by omega), h.2.1.mv (fun j _ _ => e2 144 j (by decide)) (e2 147 0 (by decide)), h.2.2.mv (fun j _ _ => e2 144 j (by decide))⟩
  obtain ⟨g1, g2⟩ := t_goes h1 hi (by omega)
  generalize hs2 : zu (gS2 s1 (i : Int) (L.length : Int) 0) 144 0 ((L.length : Int) - 1) = s2 at g1 g2
  have gb : bxA s1 156 0 = (rgA σ (i : Int)).1 := by
    have q := fun (t : Nat) (ht : t < 10) => e3 t ht
    show (s1 156 0, s1 156 (0 + 1), s1 156 (0 + 2), s1 156 (0 + 3)) = (σ 144 (340 + 10 * (i : Int)), σ 144 (340 + 10 * (i : Int) + 1), σ 144 (340 + 10 * (i : Int) + 2), σ 144 (340 + 10 * (i : Int) + 3))
    have q0 := q 0 (by decide)
    have q1 := q 1 (by decide)
    have q2 := q 2 (by decide)
    have q3 := q 3 (by decide)
    rw [show ((0 : Nat) : Int) = 0 from rfl, Int.add_zero] at q0
    rw [q0, show (0 : Int) + 1 = ((1 : Nat) : Int) from rfl, show (0 : Int) + 2 = ((2 : Nat) : Int) from rfl, show (0 : Int) + 3 = ((3 : Nat) : Int) from rfl, q1, q2, q3]
    rfl
  have gh : bxA s1 156 4 = (rgA σ (i : Int)).2.1 := by
    have q := fun (t : Nat) (ht : t < 10) => e3 t ht
    have q4 := q 4 (by decide)
    have q5 := q 5 (by decide)
    have q6 := q 6 (by decide)
    have q7 := q 7 (by decide)
    show (s1 156 4, s1 156 (4 + 1), s1 156 (4 + 2), s1 156 (4 + 3)) = (σ 144 (344 + 10 * (i : Int)), σ 144 (344 + 10 * (i : Int) + 1), σ 144 (344 + 10 * (i : Int) + 2), σ 144 (344 + 10 * (i : Int) + 3))
    rw [show (4 : Int) + 1 = ((5 : Nat) : Int) from rfl, show (4 : Int) + 2 = ((6 : Nat) : Int) from rfl, show (4 : Int) + 3 = ((7 : Nat) : Int) from rfl, show s1 156 4 = s1 156 ((4 : Nat) : Int) from rfl, q4, q5, q6, q7]
    rw [show 340 + 10 * (i : Int) + ((4 : Nat) : Int) = 344 + 10 * (i : Int) by omega, show 340 + 10 * (i : Int) + ((5 : Nat) : Int) = 344 + 10 * (i : Int) + 1 by omega, show 340 + 10 * (i : Int) + ((6 : Nat) : Int) = 344 + 10 * (i : Int) + 2 by omega, show 340 + 10 * (i : Int) + ((7 : Nat) : Int) = 344 + 10 * (i : Int) + 3 by omega]
  have gt : s1 156 9 = r.2.2.2.1 := by
    have q9 := e3 9 (by decide)
    rw [show s1 156 9 = s1 156 ((9 : Nat) : Int) from rfl, q9, ← gr, show 340 + 10 * (i : Int) + ((9 : Nat) : Int) = 349 + 10 * (i : Int) by omega]
    rfl
  have gw : s1 147 (121 + (i : Int)) = r.2.2.2.2 := by
    rw [e2 147 _ (by decide), ← gr]
    rfl
  rw [gr] at gb gh
  have okp : bOk (x, x, y, y) := ⟨hx.1, Int.le_refl _, hx.2, hy.1, Int.le_refl _, hy.2⟩
  have s2b : ∀ a j, a ≠ 144 → a ≠ 147 → bxA s2 a j = bxA s1 a j := fun a j h1 h2 => by
    unfold bxA
    rw [g2 a _ (Or.inl h1) (Or.inl h2), g2 a _ (Or.inl h1) (Or.inl h2), g2 a _ (Or.inl h1) (Or.inl h2), g2 a _ (Or.inl h1) (Or.inl h2)]
  generalize hs3 : zb s2 157 0 (x, x, y, y) = s3
  have b3 : bxA s3 156 0 = r.1 := by rw [← hs3, zb_bxa (by decide), s2b _ _ (by decide) (by decide)]; exact gb
  have p3 : bxA s3 157 0 = (x, x, y, y) := by rw [← hs3]; exact zb_bx rfl
  have h3' : bxA s3 156 4 = r.2.1 := by rw [← hs3, zb_bxa (by decide), s2b _ _ (by decide) (by decide)]; exact gh
  have t3 : s3 156 9 = r.2.2.2.1 := by rw [← hs3, zb_a (by decide), g2 156 9 (Or.inl (by decide)) (Or.inl (by decide))]; exact gt
  obtain ⟨hlC, okC⟩ := rest_ok (r := r) okp ok
  generalize hC : bRest r.1 (x, x, y, y) = C at hlC okC
  have hl : (L.eraseIdx i).length = L.length - 1 := List.length_eraseIdx_of_lt hi
  have e1' : g_m_cuts (i : Int) x y σ = g_m_cuts_L3 1 (i : Int) x y 10 s1 := e1
  rw [e1']
  unfold g_m_cuts_L3
  rw [if_pos (by decide), w32_id (x := 121 + (i : Int)) (by omega) (by omega), if_pos (by omega), s_goes hi h1.1.1 (by omega), hs2, gw]
  rw [Option.bind_some]
  try dsimp only
  rw [s_sets (by omega) (by omega) (by omega), hs3]
  rw [Option.bind_some]
  try dsimp only
  rw [s_rests (by rw [b3]; exact ok.1) (by rw [p3]; exact okp) (by decide) (by decide) (by omega) (by omega) (by omega) (by omega) (by omega) (by omega) (by omega) (by omega) (by omega), b3, p3, hC]
  rw [Option.bind_some]
  try dsimp only
  have z : ∀ j, zbs 151 s3 0 C 144 j = s2 144 j := fun j => by rw [zbs_fr _ _ _ _ _ (Or.inl (by decide)), ← hs3, zb_a (by decide)]
  have z7 : ∀ j, zbs 151 s3 0 C 147 j = s2 147 j := fun j => by rw [zbs_fr _ _ _ _ _ (Or.inl (by decide)), ← hs3, zb_a (by decide)]
  have W := t_cut86 (C := C) (r := r) (rn := rn) (st := st) (X0 := (L.eraseIdx i, ct)) ok okC hlC zK 0 (zbs 151 s3 0 C) (Nat.zero_le _) ⟨g1.1.mv (fun j _ => z j) (fun j _ _ => z7 j) (by omega), g1.2.1.mv (fun j _ _ => z j) (z7 0), g1.2.2.mv (fun j _ _ => z j)⟩ (by show (L.eraseIdx i).length ≤ 100 + 0; omega) (by rw [zbs_bx (Or.inl (by decide))]; exact h3') (by rw [zbs_fr _ _ _ _ _ (Or.inl (by decide))]; exact t3) (fun k hk => by
      have := zbs_get (t := 151) C s3 0 k hk
      rw [Int.zero_add] at this
      exact this)
  exact W
theorem t_writes2 {σ : zS} {rn : Bx → Int} {st : Int → Int} {L : List Rg} {ct : Int → Int} {x y : Int} (h : mSt σ rn st L ct) (hk : ∀ r ∈ L, hOk r) (hN2 : L.length ≤ 100) (hx : 0 ≤ x ∧ x ≤ 31) (hy : 0 ≤ y ∧ y ≤ 31) (s3 : 0 ≤ st 3 ∧ st 3 ≤ 2) : ∀ (n k : Nat), k ≤ L.length → (∀ j (hj : j < L.length), j < k → ¬ bMt L[j].1 (x, x, y, y)) → zP' (g_m_writes_L2 n x y (k : Int) σ) (fun _ s => ∃ X, wrR st L ct (x, x, y, y) X ∧ mSt s rn st X.1 X.2)
  | 0, _, _, _ => zP'.no
  | n + 1, k, hkl, hno => by
    have l := l144
    have hN := h.1.1
    unfold g_m_writes_L2
    simp only [hN]
    by_cases ck : (L.length : Int) ≤ (k : Int)
    · rw [if_pos ck]
      exact zP'.ret ⟨(L, ct), Or.inl ⟨fun i hi => by
        obtain ⟨a, b, -⟩ := hi
        exact hno i a (by omega) b, rfl⟩, h⟩
    · have hkN : k < L.length := by omega
      have gb : bxA σ 144 (340 + 10 * (k : Int)) = L[k].1 := by rw [← h.1.2 k hkN]; rfl
      rw [if_neg ck, s_region (by omega) (by omega)]
      rw [Option.bind_some]
      try dsimp only
      rw [s_has (by omega) (by omega) (by omega), gb]
      rw [Option.bind_some]
      try dsimp only
      by_cases c : bIn L[k].1 x y
      · rw [if_pos c, if_pos (by decide)]
        have hF : mtF L (x, x, y, y) k := ⟨hkN, c, fun j hj hjk => hno j hj hjk⟩
        have e7 : σ 144 7 = ct 15 := h.2.1.2.2 15 (by decide) (by decide)
        have h1 : mSt (zu σ 144 7 (w32 (σ 144 7 + 1))) rn st L (upC ct 15 (w32 (ct 15 + 1))) := by
          rw [e7]
          exact ⟨h.1.mv (fun j _ => zu_i (by omega)) (fun j _ _ => zu_a (by decide)) (by omega), h.2.1.up (by decide) (by decide), h.2.2.mv (fun j _ _ => zu_i (by omega))⟩
        generalize hs1 : zu σ 144 7 (w32 (σ 144 7 + 1)) = s1
        rw [hs1] at h1
        have e14 : s1 144 14 = st 3 := h1.2.2.1 3 (by decide) (by decide)
        show zP' (if s1 144 14 ≠ 1 then g_m_writes_L62 x y (k : Int) s1 else (g_m_goes (k : Int) s1).bind _) _
        rw [e14]
        by_cases c1 : st 3 = 1
        · obtain ⟨g1, g2⟩ := t_goes h1 hkN (by omega)
          rw [if_neg (fun e => e c1), s_goes hkN h1.1.1 (by omega)]
          rw [Option.bind_some]
          try dsimp only
          unfold g_m_writes_L62
          have e14 : zu (gS2 s1 (k : Int) (L.length : Int) 0) 144 0 ((L.length : Int) - 1) 144 14 = 1 := by rw [g2 144 14 (by omega) (Or.inl (by decide)), e14]; exact c1
          simp only [e14]
          rw [if_pos (by decide)]
          refine zP'.ret ⟨_, Or.inr ⟨k, hF, rfl⟩, ?_⟩
          unfold wrI
          rw [if_neg (by omega), if_pos c1]
          exact g1
        · rw [if_pos c1]
          unfold g_m_writes_L62
          show zP' (if s1 144 14 ≠ 2 then _ else _) _
          rw [e14]
          by_cases c2 : st 3 = 2
          · rw [if_neg (fun e => e c2)]
            refine zP'.bind (t_cuts h1 hk hkN hN2 hx hy) (fun _ s p => ?_)
            refine zP'.ret ⟨_, Or.inr ⟨k, hF, rfl⟩, ?_⟩
            unfold wrI
            rw [if_neg (by omega), if_neg c1]
            exact p
          · rw [if_pos c2]
            refine zP'.ret ⟨_, Or.inr ⟨k, hF, rfl⟩, ?_⟩
            unfold wrI
            rw [if_pos (by omega)]
            exact h1
      · rw [if_neg c, if_neg (by decide), w32_id (x := (k : Int) + 1) (by omega) (by omega), show (k : Int) + 1 = ((k + 1 : Nat) : Int) by omega]
        refine t_writes2 h hk hN2 hx hy s3 n (k + 1) (by omega) (fun j hj hjk => ?_)
        by_cases cj : j = k
        · subst cj
          exact c
        · exact hno j hj (by omega)
theorem t_writes {σ : zS} {rn : Bx → Int} {st : Int → Int} {L : List Rg} {ct : Int → Int} {x y : Int} (h : mSt σ rn st L ct) (hk : ∀ r ∈ L, hOk r) (hN2 : L.length ≤ 100) (hx : 0 ≤ x ∧ x ≤ 31) (hy : 0 ≤ y ∧ y ≤ 31) (s3 : 0 ≤ st 3 ∧ st 3 ≤ 2) : zP' (g_m_writes x y σ) (fun _ s => ∃ X, wrR st L ct (x, x, y, y) X ∧ mSt s rn st X.1 X.2) := t_writes2 h hk hN2 hx hy s3 zK 0 (Nat.zero_le _) (fun _ _ h => absurd h (Nat.not_lt_zero _))
/-- what cutting leaves of order and boxes -/
theorem cut_all {r : Rg} (hr : hOk r) : ∀ (C : List Bx) (X : List Rg × (Int → Int)), (∀ p ∈ C, bOk p) → asc X.1 (X.2 8) → (∀ q ∈ X.1, hOk q) → (0 ≤ X.2 8 ∧ X.2 8 + (C.length : Int) < 2147483648) → asc (C.foldl (cutF r) X).1 ((C.foldl (cutF r) X).2 8) ∧ (∀ q ∈ (C.foldl (cutF r) X).1, hOk q) ∧ (C.foldl (cutF r) X).1.length = X.1.length + C.length ∧ X.2 8 ≤ (C.foldl (cutF r) X).2 8 ∧ (C.foldl (cutF r) X).2 8 ≤ X.2 8 + (C.length : Int)
  | [], X, _, ha, hk, _ => ⟨ha, hk, rfl, Int.le_refl _, by rw [List.length_nil]; exact Int.le_add_of_nonneg_right (Int.le_refl _)⟩
  | p :: C, X, okC, ha, hk, h8 => by
    rw [List.length_cons] at h8 ⊢
    have w8 : w32 (X.2 8 + 1) = X.2 8 + 1 := w32_id (by omega) (by omega)
    have u8 : (cutF r X p).2 8 = X.2 8 + 1 := w8
    have okp := okC p List.mem_cons_self
    have hl : (cutF r X p).1.length = X.1.length + 1 := by
      show (X.1 ++ [_]).length = _
      rw [List.length_append]
      rfl
    obtain ⟨a1, a2, a3, a4, a5⟩ := cut_all hr C (cutF r X p) (fun q hq => okC q (List.mem_cons_of_mem _ hq)) (by
      rw [u8]
      exact asc.add ha rfl) (fun q hq => by
      rcases List.mem_append.mp (show q ∈ X.1 ++ [_] from hq) with hq | hq
      · exact hk q hq
      · rw [List.mem_singleton] at hq
        rw [hq]
        refine ⟨okp, ?_⟩
        show (cutH r.2.1 p).1 < 0 ∨ bOk (cutH r.2.1 p)
        unfold cutH
        by_cases c : 0 ≤ r.2.1.1 ∧ bMt r.2.1 p
        · rw [if_pos c]
          exact Or.inr (bCom_ok (hr.2.resolve_left (by omega)) okp c.2).1
        · rw [if_neg c]
          exact Or.inl (show vdB.1 < 0 by decide)) (by rw [u8]; omega)
    rw [u8] at a4 a5
    rw [hl] at a3
    have e : (p :: C).foldl (cutF r) X = C.foldl (cutF r) (cutF r X p) := rfl
    rw [e]
    exact ⟨a1, a2, by omega, by omega, by omega⟩
theorem wr_all {st : Int → Int} {L : List Rg} {ct : Int → Int} {p : Bx} {X : List Rg × (Int → Int)} (hp : bOk p) (hk : ∀ r ∈ L, hOk r) (ha : asc L (ct 8)) (h8 : 0 ≤ ct 8 ∧ ct 8 + 4 < 2147483648) (h : wrR st L ct p X) : asc X.1 (X.2 8) ∧ (∀ q ∈ X.1, hOk q) ∧ X.1.length ≤ L.length + 3 ∧ ct 8 ≤ X.2 8 ∧ X.2 8 ≤ ct 8 + 4 := by
  rcases h with ⟨-, rfl⟩ | ⟨i, hF, rfl⟩
  · exact ⟨ha, hk, Nat.le_add_right _ _, Int.le_refl _, by show ct 8 ≤ _; omega⟩
  · have hi := hF.1
    have hl : (L.eraseIdx i).length = L.length - 1 := List.length_eraseIdx_of_lt hi
    unfold wrI
    by_cases c0 : st 3 = 0
    · rw [if_pos c0]
      exact ⟨ha, hk, Nat.le_add_right _ _, Int.le_refl _, by show ct 8 ≤ _; omega⟩
    · rw [if_neg c0]
      by_cases c1 : st 3 = 1
      · rw [if_pos c1]
        exact ⟨asc.er ha i, fun q hq => hk q (List.mem_of_mem_eraseIdx hq), by show (L.eraseIdx i).length ≤ _; omega, Int.le_refl _, by show ct 8 ≤ _; omega⟩
      · rw [if_neg c1]
        have ok : hOk (rgD L i) := by
          rw [rgD_eq hi]
          exact hk _ (List.getElem_mem hi)
        obtain ⟨r1, r2⟩ := rest_ok hp ok
        have c := cut_all ok (bRest (rgD L i).1 p) (L.eraseIdx i, upC ct 15 (w32 (ct 15 + 1))) r2 (asc.er ha i) (fun q hq => hk q (List.mem_of_mem_eraseIdx hq)) (by show 0 ≤ ct 8 ∧ ct 8 + _ < _; omega)
        obtain ⟨a1, a2, a3, a4, a5⟩ := c
        have a3 : _ = (L.eraseIdx i).length + _ := a3
        have a4 : ct 8 ≤ _ := a4
        have a5 : _ ≤ ct 8 + _ := a5
        exact ⟨a1, a2, by omega, a4, by omega⟩
