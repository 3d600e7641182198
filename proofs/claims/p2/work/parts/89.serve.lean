/-! A QUERY SERVED by the class's cache -/
def hit1 (rn : Bx → Int) (st : Int → Int) (lev : Int) (q : Bx) (r : Rg) : Rg := if bMt r.1 q then hitR rn st lev (bCom r.1 q) r else r
def pcP (rn : Bx → Int) (st : Int → Int) (X : List Rg × (Int → Int)) (p : Bx) : List Rg × (Int → Int) := if st 6 < bArea p then (X.1, askP rn st X.2 p) else (X.1 ++ [newR rn st (askP rn st X.2 p) p], upC (askP rn st X.2 p) 8 (w32 (askP rn st X.2 p 8 + 1)))
def srv1 (rn : Bx → Int) (st : Int → Int) (q : Bx) (L : List Rg) (ct : Int → Int) : List Rg × (Int → Int) := (bMissAll q (L.map (fun r => r.1))).foldl (pcP rn st) (L.map (hit1 rn st (ct 9) q), ct)
/-- what serving a box makes of regions and counters -/
def srvR (rn : Bx → Int) (st : Int → Int) (q : Bx) (L : List Rg) (ct : Int → Int) (L' : List Rg) (ct' : Int → Int) : Prop := ∃ m1 m2 L2, (if st 4 = 0 then m1 = 0 ∧ L2 = (srv1 rn st q L ct).1 else MGn m1 (srv1 rn st q L ct).1 L2) ∧ TMn rn st m2 (L2, upC (srv1 rn st q L ct).2 14 (bmp m1 ((srv1 rn st q L ct).2 14))) (L', ct')
theorem srvR.det {rn : Bx → Int} {st : Int → Int} {q : Bx} {L L1 L2 : List Rg} {ct c1 c2 : Int → Int} (h1 : srvR rn st q L ct L1 c1) (h2 : srvR rn st q L ct L2 c2) : L1 = L2 ∧ c1 = c2 := by
  obtain ⟨m1, m2, M, a1, a2⟩ := h1
  obtain ⟨n1, n2, N, b1, b2⟩ := h2
  have e : m1 = n1 ∧ M = N := by
    by_cases c : st 4 = 0
    · rw [if_pos c] at a1 b1
      exact ⟨a1.1.trans b1.1.symm, a1.2.trans b1.2.symm⟩
    · rw [if_neg c] at a1 b1
      exact MGn.det _ _ a1 b1
  obtain ⟨rfl, rfl⟩ := e
  have h := TMn.det _ _ a2 b2
  exact ⟨congrArg Prod.fst h, congrArg Prod.snd h⟩
theorem hit1_ok {rn : Bx → Int} {st : Int → Int} {lev : Int} {q : Bx} {r : Rg} (hq : bOk q) (h : hOk r) : hOk (hit1 rn st lev q r) := by
  unfold hit1
  by_cases c : bMt r.1 q
  · rw [if_pos c]
    have hc := (bCom_ok h.1 hq c).1
    refine ⟨h.1, ?_⟩
    show (bAro r.2.1 (bCom r.1 q)).1 < 0 ∨ bOk (bAro r.2.1 (bCom r.1 q))
    rcases h.2 with h2 | h2
    · rw [bAro_neg (by omega)]
      exact Or.inr hc
    · exact Or.inr (bAro_ok h2 hc).1
  · rw [if_neg c]
    exact h
theorem hit1_bx {rn : Bx → Int} {st : Int → Int} {lev : Int} {q : Bx} {r : Rg} : (hit1 rn st lev q r).1 = r.1 := by
  unfold hit1
  by_cases c : bMt r.1 q
  · rw [if_pos c]
    rfl
  · rw [if_neg c]
theorem k_serve52 {a0 : Nat} {I : Nat → Bool} {rn : Bx → Int} {st : Int → Int} {P : List Bx} {X0 : List Rg × (Int → Int)} (ha : a0 = 48 ∨ a0 = 106) (s1 : 0 ≤ st 1) (s2 : 0 ≤ st 2) (hP : ∀ p ∈ P, bOk p) (hPl : P.length ≤ 169) (hX : X0.1.length ≤ 12) : ∀ (n k : Nat) (σ : zS), k ≤ P.length → cSt σ a0 I rn st ((P.take k).foldl (pcP rn st) X0).1 ((P.take k).foldl (pcP rn st) X0).2 → ((P.take k).foldl (pcP rn st) X0).1.length ≤ 12 + k → (∀ r ∈ ((P.take k).foldl (pcP rn st) X0).1, hOk r) → bsR σ (a0 + 8) P → zP' (g_ca_serve_L52 a0 n (k : Int) σ) (fun _ s => ∃ m1 m2 L2 L' ct', (if st 4 = 0 then m1 = 0 ∧ L2 = (P.foldl (pcP rn st) X0).1 else MGn m1 (P.foldl (pcP rn st) X0).1 L2) ∧ TMn rn st m2 (L2, upC (P.foldl (pcP rn st) X0).2 14 (bmp m1 ((P.foldl (pcP rn st) X0).2 14))) (L', ct') ∧ (∀ r ∈ L', hOk r) ∧ L'.length ≤ 181 ∧ cSt s a0 I rn st L' ct' ∧ frCa a0 σ s)
  | 0, _, _, _, _, _, _, _ => zP'.no
  | n + 1, k, σ, hk, h, hl, hok, hb => by
    have hz8 : zLI (a0 + 8 + 1) = 169 := by rcases ha with rfl | rfl <;> rfl
    unfold g_ca_serve_L52
    try dsimp +instances only
    rw [hb.1]
    by_cases ck : (P.length : Int) ≤ (k : Int)
    · rw [if_pos ck]
      rw [List.take_of_length_le (by omega)] at h hl hok
      generalize P.foldl (pcP rn st) X0 = X at h hl hok
      have up0 : upC X.2 14 (bmp 0 (X.2 14)) = X.2 := by
        funext x
        unfold upC bmp
        by_cases c : x = 14
        · rw [if_pos c, c]
        · rw [if_neg c]
      have mg : zP' (g_ca_merge a0 σ) (fun _ s => ∃ m1 L2, (if st 4 = 0 then m1 = 0 ∧ L2 = X.1 else MGn m1 X.1 L2) ∧ (∀ r ∈ L2, hOk r) ∧ L2.length ≤ 181 ∧ cSt s a0 I rn st L2 (upC X.2 14 (bmp m1 (X.2 14))) ∧ frCa a0 σ s) := by
        unfold g_ca_merge
        rw [p_seOf (by decide)]
        rw [Option.bind_some]
        try dsimp +instances only
        have e4 : σ (a0 + 1 + 1) 4 = st 4 := h.2.2.1 4 (by decide) (by decide)
        rw [e4]
        by_cases c4 : st 4 ≠ 0
        · rw [if_pos c4]
          have M := k_merge17 ha zK 0 100000 X.1 X.2 σ h (by omega) hok (Nat.zero_le _) (fun a b _ => Nat.zero_le _) (by omega) (by decide)
          have M : zP' (g_ca_merge_L17 a0 zK 0 100000 σ) _ := M
          refine M.imp (fun _ s p => ?_)
          obtain ⟨m, L', g1, g2, g3, g4, g5⟩ := p
          exact ⟨m, L', by rw [if_neg c4]; exact g1, g2, by omega, g4, fun x y k => g5 x y (by omega) (by omega)⟩
        · have c4 : st 4 = 0 := Classical.byContradiction (fun hh => c4 hh)
          rw [if_neg (fun hh => hh c4)]
          refine zP'.ret ⟨0, X.1, by rw [if_pos c4]; exact ⟨rfl, rfl⟩, hok, by omega, ?_, frCa.refl a0 σ⟩
          rw [up0]
          exact h
      refine zP'.bind mg (fun _ s p => ?_)
      obtain ⟨m1, L2, g1, g2, g3, g4, g5⟩ := p
      try dsimp +instances only
      refine zP'.bind (k_trim ha s1 s2 g4 g3 g2) (fun _ t p2 => ?_)
      obtain ⟨m2, L', ct', e1, e2, e3, e4, e5⟩ := p2
      exact zP'.ret ⟨m1, m2, L2, L', ct', g1, e1, e2, by omega, e4, g5.trans e5⟩
    · have hk' : k < P.length := by omega
      have okp := hP _ (List.getElem_mem hk')
      rw [if_neg ck, bs_at hz8 hb hPl hk']
      rw [Option.bind_some]
      try dsimp +instances only
      have et : (P.take (k + 1)).foldl (pcP rn st) X0 = pcP rn st ((P.take k).foldl (pcP rn st) X0) P[k] := by
        rw [List.take_succ_eq_append_getElem hk', List.foldl_append]
        rfl
      obtain ⟨t, e1, e2, e3⟩ := k_ask (b := P[k]) ha h okp
      rw [e1]
      rw [Option.bind_some]
      try dsimp +instances only
      rw [c_area okp]
      rw [Option.bind_some]
      try dsimp +instances only
      rw [p_seOf (by decide)]
      rw [Option.bind_some]
      try dsimp +instances only
      have e6 : t (a0 + 1 + 1) 6 = st 6 := e2.2.2.1 6 (by decide) (by decide)
      rw [e6]
      unfold g_ca_serve_L98
      rw [w32_id (x := (k : Int) + 1) (by omega) (by omega), show (k : Int) + 1 = ((k + 1 : Nat) : Int) by omega]
      have bt : ∀ s : zS, (∀ x y, (x < a0 + 3 ∨ a0 + 7 < x) → (x ≠ a0 ∨ (y ≠ 2 ∧ y ≠ 8)) → s x y = t x y) → bsR s (a0 + 8) P ∧ frCa a0 σ s := fun s f => by
        have f8 : ∀ x y, (x = a0 + 8 ∨ x = a0 + 9) → s x y = σ x y := fun x y k => (f x y (by omega) (by omega)).trans (e3 x y (by omega))
        refine ⟨⟨(f8 _ _ (by omega)).trans hb.1, fun i hi => (f8 (a0 + 8 + 1) _ (by omega)).trans (hb.2 i hi)⟩, fun x y k => (f x y (by omega) (by omega)).trans (e3 x y (by omega))⟩
      by_cases c6 : st 6 < bArea P[k]
      · rw [if_pos c6]
        obtain ⟨b1, b2⟩ := bt t (fun _ _ _ _ => rfl)
        have ep : pcP rn st ((P.take k).foldl (pcP rn st) X0) P[k] = (((P.take k).foldl (pcP rn st) X0).1, askP rn st ((P.take k).foldl (pcP rn st) X0).2 P[k]) := if_pos c6
        refine (k_serve52 (I := I) (rn := rn) ha s1 s2 hP hPl hX n (k + 1) t (by omega) ?_ ?_ ?_ b1).imp (fun _ s p => ?_)
        · rw [et, ep]
          exact e2
        · rw [et, ep]
          exact Nat.le_trans hl (by omega)
        · rw [et, ep]
          exact hok
        · obtain ⟨m1, m2, L2, L', ct', g1, g2, g3, g4, g5, g6⟩ := p
          exact ⟨m1, m2, L2, L', ct', g1, g2, g3, g4, g5, b2.trans g6⟩
      · rw [if_neg c6]
        have ep : pcP rn st ((P.take k).foldl (pcP rn st) X0) P[k] = (((P.take k).foldl (pcP rn st) X0).1 ++ [newR rn st (askP rn st ((P.take k).foldl (pcP rn st) X0).2 P[k]) P[k]], upC (askP rn st ((P.take k).foldl (pcP rn st) X0).2 P[k]) 8 (w32 (askP rn st ((P.take k).foldl (pcP rn st) X0).2 P[k] 8 + 1))) := if_neg c6
        refine zP'.bind (k_addNew ha e2 (by omega) okp) (fun _ u p => ?_)
        obtain ⟨p1, p2⟩ := p
        try dsimp +instances only
        obtain ⟨b1, b2⟩ := bt u p2
        refine (k_serve52 (I := I) (rn := rn) ha s1 s2 hP hPl hX n (k + 1) u (by omega) ?_ ?_ ?_ b1).imp (fun _ s p => ?_)
        · rw [et, ep]
          exact p1
        · rw [et, ep]
          show (((P.take k).foldl (pcP rn st) X0).1 ++ [_]).length ≤ 12 + (k + 1)
          rw [List.length_append]
          show _ + 1 ≤ _
          omega
        · rw [et, ep]
          intro r hr
          rcases List.mem_append.mp hr with hr | hr
          · exact hok r hr
          · rw [List.mem_singleton] at hr
            rw [hr]
            exact ⟨okp, Or.inl (by show vdB.1 < 0; decide)⟩
        · obtain ⟨m1, m2, L2, L', ct', g1, g2, g3, g4, g5, g6⟩ := p
          exact ⟨m1, m2, L2, L', ct', g1, g2, g3, g4, g5, b2.trans g6⟩
theorem k_serve8 {a0 : Nat} {I : Nat → Bool} {rn : Bx → Int} {st : Int → Int} {L : List Rg} {ct : Int → Int} {q : Bx} {Q : Unit → zS → Prop} {σ0 : zS} (ha : a0 = 48 ∨ a0 = 106) (hq : bOk q) (hL : L.length ≤ 181) (hk : ∀ r ∈ L, hOk r) (hQ : ∀ s, cSt s a0 I rn st (L.map (hit1 rn st (ct 9) q)) ct → (∀ x y, (x < a0 + 3 ∨ a0 + 7 < x) → s x y = σ0 x y) → zP' (g_ca_serve_L52 a0 zK 0 s) Q) : ∀ (n k : Nat) (M : List Rg) (σ : zS), k ≤ L.length → (hM : M.length = L.length) → (∀ (i : Nat) (hi : i < L.length), M[i]'(by omega) = if i < k then hit1 rn st (ct 9) q L[i] else L[i]) → cSt σ a0 I rn st M ct → (∀ x y, (x < a0 + 3 ∨ a0 + 7 < x) → σ x y = σ0 x y) → zP' (g_ca_serve_L8 a0 n (enc q) (k : Int) σ) Q
  | 0, _, _, _, _, _, _, _, _ => zP'.no
  | n + 1, k, M, σ, hkl, hM, hMi, h, hf => by
    unfold g_ca_serve_L8
    try dsimp +instances only
    rw [h.1.1, hM]
    by_cases ck : (L.length : Int) ≤ (k : Int)
    · rw [if_pos ck]
      have e : M = L.map (hit1 rn st (ct 9) q) := by
        refine List.ext_getElem (by rw [hM, List.length_map]) (fun i h1 h2 => ?_)
        rw [hMi i (by omega), if_pos (by omega), List.getElem_map]
      rw [e] at h
      exact hQ σ h hf
    · have hk' : k < L.length := by omega
      have hkM : k < M.length := by omega
      have eM : M[k] = L[k] := by
        rw [hMi k hk', if_neg (by omega)]
      have ok := hk _ (List.getElem_mem hk')
      rw [if_neg ck, if_pos (by omega), (h.1.2 k hkM).1, eM, c_meet ok.1 hq]
      rw [Option.bind_some]
      try dsimp +instances only
      unfold g_ca_serve_L44
      rw [w32_id (x := (k : Int) + 1) (by omega) (by omega), show (k : Int) + 1 = ((k + 1 : Nat) : Int) by omega]
      by_cases cm : bMt L[k].1 q
      · rw [if_pos cm, if_neg (show ¬ (1 : Int) = 0 by decide), if_pos (by omega), (h.1.2 k hkM).1, eM]
        have ec := c_common (σ := σ) (h := L[k].1) (b := q) (Or.inr ok.1) hq
        have n0 := ok.1.n
        rw [encH_ok ok.1, if_pos (show 0 ≤ L[k].1.1 ∧ bMt L[k].1 q from ⟨by omega, cm⟩)] at ec
        rw [ec]
        rw [Option.bind_some]
        try dsimp +instances only
        refine zP'.bind (k_hit (c := bCom L[k].1 q) ha h (by omega) hkM (by rw [eM]; exact ok.1) (by rw [eM]; exact ok.2) (bCom_ok ok.1 hq cm).1) (fun _ s p => ?_)
        obtain ⟨p1, p2⟩ := p
        try dsimp +instances only
        rw [eM] at p1
        refine k_serve8 ha hq hL hk hQ n (k + 1) _ s (by omega) (by rw [List.length_set]; exact hM) (fun i hi => ?_) p1 (fun x y k => (p2 x y k).trans (hf x y k))
        rw [List.getElem_set]
        by_cases ci : k = i
        · subst ci
          rw [if_pos rfl, if_pos (by omega)]
          unfold hit1
          rw [if_pos cm]
        · rw [if_neg ci, hMi i hi]
          by_cases cl : i < k
          · rw [if_pos cl, if_pos (by omega)]
          · rw [if_neg cl, if_neg (by omega)]
      · rw [if_neg cm, if_pos rfl]
        refine k_serve8 ha hq hL hk hQ n (k + 1) M σ (by omega) hM (fun i hi => ?_) h hf
        rw [hMi i hi]
        by_cases ci : i = k
        · subst ci
          rw [if_neg (by omega), if_pos (by omega)]
          unfold hit1
          rw [if_neg cm]
        · by_cases cl : i < k
          · rw [if_pos cl, if_pos (by omega)]
          · rw [if_neg cl, if_neg (by omega)]
theorem k_serve {a0 : Nat} {I : Nat → Bool} {rn : Bx → Int} {st : Int → Int} {L : List Rg} {ct : Int → Int} {q : Bx} {σ : zS} (ha : a0 = 48 ∨ a0 = 106) (s1 : 0 ≤ st 1) (s2 : 0 ≤ st 2) (hq : bOk q) (hL : L.length ≤ 12) (hk : ∀ r ∈ L, hOk r) (hp : (L.map (fun r => r.1)).Pairwise (fun a b => ¬ bMt a b)) (h : cSt σ a0 I rn st L ct) : zP' (g_ca_serve a0 (enc q) σ) (fun _ s => ∃ L' ct', srvR rn st q L ct L' ct' ∧ (∀ r ∈ L', hOk r) ∧ cSt s a0 I rn st L' ct' ∧ frCa a0 σ s) := by
  unfold g_ca_serve
  refine zP'.bind (c_missingOf ha hq (fun r hr => (hk r hr).1) hp hL h.1) (fun _ s p => ?_)
  obtain ⟨p1, p2⟩ := p
  try dsimp +instances only
  have h1 : cSt s a0 I rn st L ct := h.mv (fun c j k => p2 c j (by omega))
  have all1 : ∀ r ∈ L.map (fun r => r.1), bOk r := fun r hr => by
    obtain ⟨x, hx, rfl⟩ := List.mem_map.mp hr
    exact (hk x hx).1
  have hlen : (L.map (fun r => r.1)).length = L.length := List.length_map _
  obtain ⟨i1, i2⟩ := bMissAll_pre hq all1 hp (by omega) (pre := L.map (fun r => r.1)) (suf := []) (by rw [List.append_nil])
  refine k_serve8 (σ0 := s) ha hq (by omega) hk (fun t ht ft => ?_) zK 0 L s (Nat.zero_le _) rfl (fun i hi => by rw [if_neg (Nat.not_lt_zero _)]) h1 (fun _ _ _ => rfl)
  have bt : bsR t (a0 + 8) (bMissAll q (L.map (fun r => r.1))) := ⟨(ft _ _ (by omega)).trans p1.1, fun i hi => (ft (a0 + 8 + 1) _ (by omega)).trans (p1.2 i hi)⟩
  refine (k_serve52 (P := bMissAll q (L.map (fun r => r.1))) (X0 := (L.map (hit1 rn st (ct 9) q), ct)) ha s1 s2 (fun p hp => (i1.1 p hp).1) i2 (by show (L.map _).length ≤ 12; rw [List.length_map]; exact hL) zK 0 t (Nat.zero_le _) ht (by show (L.map _).length ≤ 12 + 0; rw [List.length_map]; exact hL) (fun r hr => ?_) bt).imp (fun _ u g => ?_)
  · obtain ⟨x, hx, rfl⟩ := List.mem_map.mp (show r ∈ L.map (hit1 rn st (ct 9) q) from hr)
    exact hit1_ok hq (hk x hx)
  · obtain ⟨m1, m2, L2, L', ct', g1, g2, g3, g4, g5, g6⟩ := g
    exact ⟨L', ct', ⟨m1, m2, L2, g1, g2⟩, g3, g5, fun x y k => (g6 x y k).trans ((ft x y (by omega)).trans (p2 x y (by omega)))⟩
