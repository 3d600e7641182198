section
/-! 89.serve -/
/-! A QUERY SERVED by the class's cache -/
def hit1 (rn : Bx → Int) (st : Int → Int) (lev : Int) (q : Bx) (r : Rg) : Rg := if bMt r.1 q then hitR rn st lev (bCom r.1 q) r else r
def pcP (rn : Bx → Int) (st : Int → Int) (X : List Rg × (Int → Int)) (p : Bx) : List Rg × (Int → Int) := if st 6 < bArea p then (X.1, askP rn st X.2 p) else (X.1 ++ [newR rn st (askP rn st X.2 p) p], upC (askP rn st X.2 p) 8 (w32 (askP rn st X.2 p 8 + 1)))
def srv1 (rn : Bx → Int) (st : Int → Int) (q : Bx) (L : List Rg) (ct : Int → Int) : List Rg × (Int → Int) := (bMissAll q (L.map (fun r => r.1))).foldl (pcP rn st) (L.map (hit1 rn st (ct 9) q), ct)
/-- what serving a box makes of regions and counters -/
def srvR (rn : Bx → Int) (st : Int → Int) (q : Bx) (L : List Rg) (ct : Int → Int) (L' : List Rg) (ct' : Int → Int) : Prop := ∃ m1 m2 L2, (if st 4 = 0 then m1 = 0 ∧ L2 = (srv1 rn st q L ct).1 else MGn m1 (srv1 rn st q L ct).1 L2) ∧ TMn rn st m2 (L2, upC (srv1 rn st q L ct).2 14 (bmp m1 ((srv1 rn st q L ct).2 14))) (L', ct')
theorem srvR.det {rn : Bx → Int} {st : Int → Int} {q : Bx} {L L1 L2 : List Rg} {ct c1 c2 : Int → Int} (h1 : srvR rn st q L ct L1 c1) (h2 : srvR rn st q L ct L2 c2) : L1 = L2 ∧ c1 = c2 := by
  obtain ⟨m1, m2, M, a1, a2⟩ := h1
  obtain ⟨n1, n2, N, b1, b2⟩ := h2
  have e : m1 = n1 ∧ M = N := by
    by_cases c : st 4 = 0
    · rw [if_pos c] at a1 b1
      exact ⟨a1.1.trans b1.1.symm, a1.2.trans b1.2.symm⟩
    · rw [if_neg c] at a1 b1
      exact MGn.det _ _ a1 b1
  obtain ⟨rfl, rfl⟩ := e
  have h := TMn.det _ _ a2 b2
  exact ⟨congrArg Prod.fst h, congrArg Prod.snd h⟩
theorem hit1_ok {rn : Bx → Int} {st : Int → Int} {lev : Int} {q : Bx} {r : Rg} (hq : bOk q) (h : hOk r) : hOk (hit1 rn st lev q r) := by
  unfold hit1
  by_cases c : bMt r.1 q
  · rw [if_pos c]
    have hc := (bCom_ok h.1 hq c).1
    refine ⟨h.1, ?_⟩
    show (bAro r.2.1 (bCom r.1 q)).1 < 0 ∨ bOk (bAro r.2.1 (bCom r.1 q))
    rcases h.2 with h2 | h2
    · rw [bAro_neg (by omega)]
      exact Or.inr hc
    · exact Or.inr (bAro_ok h2 hc).1
  · rw [if_neg c]
    exact h
theorem hit1_bx {rn : Bx → Int} {st : Int → Int} {lev : Int} {q : Bx} {r : Rg} : (hit1 rn st lev q r).1 = r.1 := by
  unfold hit1
  by_cases c : bMt r.1 q
  · rw [if_pos c]
    rfl
  · rw [if_neg c]
theorem k_serve52 {a0 : Nat} {I : Nat → Bool} {rn : Bx → Int} {st : Int → Int} {P : List Bx} {X0 : List Rg × (Int → Int)} (ha : a0 = 48 ∨ a0 = 106) (s1 : 0 ≤ st 1) (s2 : 0 ≤ st 2) (hP : ∀ p ∈ P, bOk p) (hPl : P.length ≤ 169) (hX : X0.1.length ≤ 12) : ∀ (n k : Nat) (σ : zS), k ≤ P.length → cSt σ a0 I rn st ((P.take k).foldl (pcP rn st) X0).1 ((P.take k).foldl (pcP rn st) X0).2 → ((P.take k).foldl (pcP rn st) X0).1.length ≤ 12 + k → (∀ r ∈ ((P.take k).foldl (pcP rn st) X0).1, hOk r) → bsR σ (a0 + 8) P → zP' (g_ca_serve_L52 a0 n (k : Int) σ) (fun _ s => ∃ m1 m2 L2 L' ct', (if st 4 = 0 then m1 = 0 ∧ L2 = (P.foldl (pcP rn st) X0).1 else MGn m1 (P.foldl (pcP rn st) X0).1 L2) ∧ TMn rn st m2 (L2, upC (P.foldl (pcP rn st) X0).2 14 (bmp m1 ((P.foldl (pcP rn st) X0).2 14))) (L', ct') ∧ (∀ r ∈ L', hOk r) ∧ L'.length ≤ 181 ∧ cSt s a0 I rn st L' ct' ∧ frCa a0 σ s)
  | 0, _, _, _, _, _, _, _ => zP'.no
  | n + 1, k, σ, hk, h, hl, hok, hb => by
    have hz8 : zLI (a0 + 8 + 1) = 169 := by rcases ha with rfl | rfl <;> rfl
    unfold g_ca_serve_L52
    try dsimp +instances only
    rw [hb.1]
    by_cases ck : (P.length : Int) ≤ (k : Int)
    · rw [if_pos ck]
      rw [List.take_of_length_le (by omega)] at h hl hok
      generalize P.foldl (pcP rn st) X0 = X at h hl hok
      have up0 : upC X.2 14 (bmp 0 (X.2 14)) = X.2 := by
        funext x
        unfold upC bmp
        by_cases c : x = 14
        · rw [if_pos c, c]
        · rw [if_neg c]
      have mg : zP' (g_ca_merge a0 σ) (fun _ s => ∃ m1 L2, (if st 4 = 0 then m1 = 0 ∧ L2 = X.1 else MGn m1 X.1 L2) ∧ (∀ r ∈ L2, hOk r) ∧ L2.length ≤ 181 ∧ cSt s a0 I rn st L2 (upC X.2 14 (bmp m1 (X.2 14))) ∧ frCa a0 σ s) := by
        unfold g_ca_merge
        rw [p_seOf (by decide)]
        rw [Option.bind_some]
        try dsimp +instances only
        have e4 : σ (a0 + 1 + 1) 4 = st 4 := h.2.2.1 4 (by decide) (by decide)
        rw [e4]
        by_cases c4 : st 4 ≠ 0
        · rw [if_pos c4]
          have M := k_merge17 ha zK 0 100000 X.1 X.2 σ h (by omega) hok (Nat.zero_le _) (fun a b _ => Nat.zero_le _) (by omega) (by decide)
          have M : zP' (g_ca_merge_L17 a0 zK 0 100000 σ) _ := M
          refine M.imp (fun _ s p => ?_)
          obtain ⟨m, L', g1, g2, g3, g4, g5⟩ := p
          exact ⟨m, L', by rw [if_neg c4]; exact g1, g2, by omega, g4, fun x y k => g5 x y (by omega) (by omega)⟩
        · have c4 : st 4 = 0 := Classical.byContradiction (fun hh => c4 hh)
          rw [if_neg (fun hh => hh c4)]
          refine zP'.ret ⟨0, X.1, by rw [if_pos c4]; exact ⟨rfl, rfl⟩, hok, by omega, ?_, frCa.refl a0 σ⟩
          rw [up0]
          exact h
      refine zP'.bind mg (fun _ s p => ?_)
      obtain ⟨m1, L2, g1, g2, g3, g4, g5⟩ := p
      try dsimp +instances only
      refine zP'.bind (k_trim ha s1 s2 g4 g3 g2) (fun _ t p2 => ?_)
      obtain ⟨m2, L', ct', e1, e2, e3, e4, e5⟩ := p2
      exact zP'.ret ⟨m1, m2, L2, L', ct', g1, e1, e2, by omega, e4, g5.trans e5⟩
    · have hk' : k < P.length := by omega
      have okp := hP _ (List.getElem_mem hk')
      rw [if_neg ck, bs_at hz8 hb hPl hk']
      rw [Option.bind_some]
      try dsimp +instances only
      have et : (P.take (k + 1)).foldl (pcP rn st) X0 = pcP rn st ((P.take k).foldl (pcP rn st) X0) P[k] := by
        rw [List.take_succ_eq_append_getElem hk', List.foldl_append]
        rfl
      obtain ⟨t, e1, e2, e3⟩ := k_ask (b := P[k]) ha h okp
      rw [e1]
      rw [Option.bind_some]
      try dsimp +instances only
      rw [c_area okp]
      rw [Option.bind_some]
      try dsimp +instances only
      rw [p_seOf (by decide)]
      rw [Option.bind_some]
      try dsimp +instances only
      have e6 : t (a0 + 1 + 1) 6 = st 6 := e2.2.2.1 6 (by decide) (by decide)
      rw [e6]
      unfold g_ca_serve_L98
      rw [w32_id (x := (k : Int) + 1) (by omega) (by omega), show (k : Int) + 1 = ((k + 1 : Nat) : Int) by omega]
      have bt : ∀ s : zS, (∀ x y, (x < a0 + 3 ∨ a0 + 7 < x) → (x ≠ a0 ∨ (y ≠ 2 ∧ y ≠ 8)) → s x y = t x y) → bsR s (a0 + 8) P ∧ frCa a0 σ s := fun s f => by
        have f8 : ∀ x y, (x = a0 + 8 ∨ x = a0 + 9) → s x y = σ x y := fun x y k => (f x y (by omega) (by omega)).trans (e3 x y (by omega))
        refine ⟨⟨(f8 _ _ (by omega)).trans hb.1, fun i hi => (f8 (a0 + 8 + 1) _ (by omega)).trans (hb.2 i hi)⟩, fun x y k => (f x y (by omega) (by omega)).trans (e3 x y (by omega))⟩
      by_cases c6 : st 6 < bArea P[k]
      · rw [if_pos c6]
        obtain ⟨b1, b2⟩ := bt t (fun _ _ _ _ => rfl)
        have ep : pcP rn st ((P.take k).foldl (pcP rn st) X0) P[k] = (((P.take k).foldl (pcP rn st) X0).1, askP rn st ((P.take k).foldl (pcP rn st) X0).2 P[k]) := if_pos c6
        refine (k_serve52 (I := I) (rn := rn) ha s1 s2 hP hPl hX n (k + 1) t (by omega) ?_ ?_ ?_ b1).imp (fun _ s p => ?_)
        · rw [et, ep]
          exact e2
        · rw [et, ep]
          exact Nat.le_trans hl (by omega)
        · rw [et, ep]
          exact hok
        · obtain ⟨m1, m2, L2, L', ct', g1, g2, g3, g4, g5, g6⟩ := p
          exact ⟨m1, m2, L2, L', ct', g1, g2, g3, g4, g5, b2.trans g6⟩
      · rw [if_neg c6]
        have ep : pcP rn st ((P.take k).foldl (pcP rn st) X0) P[k] = (((P.take k).foldl (pcP rn st) X0).1 ++ [newR rn st (askP rn st ((P.take k).foldl (pcP rn st) X0).2 P[k]) P[k]], upC (askP rn st ((P.take k).foldl (pcP rn st) X0).2 P[k]) 8 (w32 (askP rn st ((P.take k).foldl (pcP rn st) X0).2 P[k] 8 + 1))) := if_neg c6
        refine zP'.bind (k_addNew ha e2 (by omega) okp) (fun _ u p => ?_)
        obtain ⟨p1, p2⟩ := p
        try dsimp +instances only
        obtain ⟨b1, b2⟩ := bt u p2
        refine (k_serve52 (I := I) (rn := rn) ha s1 s2 hP hPl hX n (k + 1) u (by omega) ?_ ?_ ?_ b1).imp (fun _ s p => ?_)
        · rw [et, ep]
          exact p1
        · rw [et, ep]
          show (((P.take k).foldl (pcP rn st) X0).1 ++ [_]).length ≤ 12 + (k + 1)
          rw [List.length_append]
          show _ + 1 ≤ _
          omega
        · rw [et, ep]
          intro r hr
          rcases List.mem_append.mp hr with hr | hr
          · exact hok r hr
          · rw [List.mem_singleton] at hr
            rw [hr]
            exact ⟨okp, Or.inl (by show vdB.1 < 0; decide)⟩
        · obtain ⟨m1, m2, L2, L', ct', g1, g2, g3, g4, g5, g6⟩ := p
          exact ⟨m1, m2, L2, L', ct', g1, g2, g3, g4, g5, b2.trans g6⟩
theorem k_serve8 {a0 : Nat} {I : Nat → Bool} {rn : Bx → Int} {st : Int → Int} {L : List Rg} {ct : Int → Int} {q : Bx} {Q : Unit → zS → Prop} {σ0 : zS} (ha : a0 = 48 ∨ a0 = 106) (hq : bOk q) (hL : L.length ≤ 181) (hk : ∀ r ∈ L, hOk r) (hQ : ∀ s, cSt s a0 I rn st (L.map (hit1 rn st (ct 9) q)) ct → (∀ x y, (x < a0 + 3 ∨ a0 + 7 < x) → s x y = σ0 x y) → zP' (g_ca_serve_L52 a0 zK 0 s) Q) : ∀ (n k : Nat) (M : List Rg) (σ : zS), k ≤ L.length → (hM : M.length = L.length) → (∀ (i : Nat) (hi : i < L.length), M[i]'(by omega) = if i < k then hit1 rn st (ct 9) q L[i] else L[i]) → cSt σ a0 I rn st M ct → (∀ x y, (x < a0 + 3 ∨ a0 + 7 < x) → σ x y = σ0 x y) → zP' (g_ca_serve_L8 a0 n (enc q) (k : Int) σ) Q
  | 0, _, _, _, _, _, _, _, _ => zP'.no
  | n + 1, k, M, σ, hkl, hM, hMi, h, hf => by
    unfold g_ca_serve_L8
    try dsimp +instances only
    rw [h.1.1, hM]
    by_cases ck : (L.length : Int) ≤ (k : Int)
    · rw [if_pos ck]
      have e : M = L.map (hit1 rn st (ct 9) q) := by
        refine List.ext_getElem (by rw [hM, List.length_map]) (fun i h1 h2 => ?_)
        rw [hMi i (by omega), if_pos (by omega), List.getElem_map]
      rw [e] at h
      exact hQ σ h hf
    · have hk' : k < L.length := by omega
      have hkM : k < M.length := by omega
      have eM : M[k] = L[k] := by
        rw [hMi k hk', if_neg (by omega)]
      have ok := hk _ (List.getElem_mem hk')
      rw [if_neg ck, if_pos (by omega), (h.1.2 k hkM).1, eM, c_meet ok.1 hq]
      rw [Option.bind_some]
      try dsimp +instances only
      unfold g_ca_serve_L44
      rw [w32_id (x := (k : Int) + 1) (by omega) (by omega), show (k : Int) + 1 = ((k + 1 : Nat) : Int) by omega]
      by_cases cm : bMt L[k].1 q
      · rw [if_pos cm, if_neg (show ¬ (1 : Int) = 0 by decide), if_pos (by omega), (h.1.2 k hkM).1, eM]
        have ec := c_common (σ := σ) (h := L[k].1) (b := q) (Or.inr ok.1) hq
        have n0 := ok.1.n
        rw [encH_ok ok.1, if_pos (show 0 ≤ L[k].1.1 ∧ bMt L[k].1 q from ⟨by omega, cm⟩)] at ec
        rw [ec]
        rw [Option.bind_some]
        try dsimp +instances only
        refine zP'.bind (k_hit (c := bCom L[k].1 q) ha h (by omega) hkM (by rw [eM]; exact ok.1) (by rw [eM]; exact ok.2) (bCom_ok ok.1 hq cm).1) (fun _ s p => ?_)
        obtain ⟨p1, p2⟩ := p
        try dsimp +instances only
        rw [eM] at p1
        refine k_serve8 ha hq hL hk hQ n (k + 1) _ s (by omega) (by rw [List.length_set]; exact hM) (fun i hi => ?_) p1 (fun x y k => (p2 x y k).trans (hf x y k))
        rw [List.getElem_set]
        by_cases ci : k = i
        · subst ci
          rw [if_pos rfl, if_pos (by omega)]
          unfold hit1
          rw [if_pos cm]
        · rw [if_neg ci, hMi i hi]
          by_cases cl : i < k
          · rw [if_pos cl, if_pos (by omega)]
          · rw [if_neg cl, if_neg (by omega)]
      · rw [if_neg cm, if_pos rfl]
        refine k_serve8 ha hq hL hk hQ n (k + 1) M σ (by omega) hM (fun i hi => ?_) h hf
        rw [hMi i hi]
        by_cases ci : i = k
        · subst ci
          rw [if_neg (by omega), if_pos (by omega)]
          unfold hit1
          rw [if_neg cm]
        · by_cases cl : i < k
          · rw [if_pos cl, if_pos (by omega)]
          · rw [if_neg cl, if_neg (by omega)]
theorem k_serve {a0 : Nat} {I : Nat → Bool} {rn : Bx → Int} {st : Int → Int} {L : List Rg} {ct : Int → Int} {q : Bx} {σ : zS} (ha : a0 = 48 ∨ a0 = 106) (s1 : 0 ≤ st 1) (s2 : 0 ≤ st 2) (hq : bOk q) (hL : L.length ≤ 12) (hk : ∀ r ∈ L, hOk r) (hp : (L.map (fun r => r.1)).Pairwise (fun a b => ¬ bMt a b)) (h : cSt σ a0 I rn st L ct) : zP' (g_ca_serve a0 (enc q) σ) (fun _ s => ∃ L' ct', srvR rn st q L ct L' ct' ∧ (∀ r ∈ L', hOk r) ∧ cSt s a0 I rn st L' ct' ∧ frCa a0 σ s) := by
  unfold g_ca_serve
  refine zP'.bind (c_missingOf ha hq (fun r hr => (hk r hr).1) hp hL h.1) (fun _ s p => ?_)
  obtain ⟨p1, p2⟩ := p
  try dsimp +instances only
  have h1 : cSt s a0 I rn st L ct := h.mv (fun c j k => p2 c j (by omega))
  have all1 : ∀ r ∈ L.map (fun r => r.1), bOk r := fun r hr => by
    obtain ⟨x, hx, rfl⟩ := List.mem_map.mp hr
    exact (hk x hx).1
  have hlen : (L.map (fun r => r.1)).length = L.length := List.length_map _
  obtain ⟨i1, i2⟩ := bMissAll_pre hq all1 hp (by omega) (pre := L.map (fun r => r.1)) (suf := []) (by rw [List.append_nil])
  refine k_serve8 (σ0 := s) ha hq (by omega) hk (fun t ht ft => ?_) zK 0 L s (Nat.zero_le _) rfl (fun i hi => by rw [if_neg (Nat.not_lt_zero _)]) h1 (fun _ _ _ => rfl)
  have bt : bsR t (a0 + 8) (bMissAll q (L.map (fun r => r.1))) := ⟨(ft _ _ (by omega)).trans p1.1, fun i hi => (ft (a0 + 8 + 1) _ (by omega)).trans (p1.2 i hi)⟩
  refine (k_serve52 (P := bMissAll q (L.map (fun r => r.1))) (X0 := (L.map (hit1 rn st (ct 9) q), ct)) ha s1 s2 (fun p hp => (i1.1 p hp).1) i2 (by show (L.map _).length ≤ 12; rw [List.length_map]; exact hL) zK 0 t (Nat.zero_le _) ht (by show (L.map _).length ≤ 12 + 0; rw [List.length_map]; exact hL) (fun r hr => ?_) bt).imp (fun _ u g => ?_)
  · obtain ⟨x, hx, rfl⟩ := List.mem_map.mp (show r ∈ L.map (hit1 rn st (ct 9) q) from hr)
    exact hit1_ok hq (hk x hx)
  · obtain ⟨m1, m2, L2, L', ct', g1, g2, g3, g4, g5, g6⟩ := g
    exact ⟨L', ct', ⟨m1, m2, L2, g1, g2⟩, g3, g5, fun x y k => (g6 x y k).trans ((ft x y (by omega)).trans (p2 x y (by omega)))⟩
end
section
/-! 8a.write -/
/-! A WRITE at a place, of the class's cache -/
def mtF (L : List Rg) (p : Bx) (i : Nat) : Prop := ∃ hi : i < L.length, bMt L[i].1 p ∧ ∀ j (hj : j < L.length), j < i → ¬ bMt L[j].1 p
theorem mtF.det {L : List Rg} {p : Bx} {i j : Nat} (h1 : mtF L p i) (h2 : mtF L p j) : i = j := by
  obtain ⟨a, b, c⟩ := h1
  obtain ⟨d, e, f⟩ := h2
  by_cases c1 : i < j
  · exact absurd b (f i a c1)
  · by_cases c2 : j < i
    · exact absurd e (c j d c2)
    · omega
theorem k_at2 {a0 : Nat} {L : List Rg} {p : Bx} (hL : L.length ≤ 181) (hb : ∀ r ∈ L, bOk r.1) (hp : bOk p) : ∀ (n k : Nat) (σ : zS), cRs σ a0 L → k ≤ L.length → (∀ j (hj : j < L.length), j < k → ¬ bMt L[j].1 p) → zP' (g_ca_regionAt_L2 a0 n (enc p) (k : Int) σ) (fun v s => s = σ ∧ ((v = -1 ∧ ∀ i, ¬ mtF L p i) ∨ ∃ i : Nat, v = (i : Int) ∧ mtF L p i))
  | 0, _, _, _, _, _ => zP'.no
  | n + 1, k, σ, h, hk, hno => by
    unfold g_ca_regionAt_L2
    try dsimp +instances only
    rw [h.1]
    by_cases ck : (L.length : Int) ≤ (k : Int)
    · rw [if_pos ck]
      exact zP'.ret ⟨rfl, Or.inl ⟨rfl, fun i hi => by
        obtain ⟨a, b, -⟩ := hi
        exact hno i a (by omega) b⟩⟩
    · have hk' : k < L.length := by omega
      rw [if_neg ck, if_pos (by omega), (h.2 k hk').1, c_meet (hb _ (List.getElem_mem hk')) hp]
      rw [Option.bind_some]
      try dsimp +instances only
      by_cases cm : bMt L[k].1 p
      · rw [if_pos cm, if_neg (show ¬ (1 : Int) = 0 by decide)]
        exact zP'.ret ⟨rfl, Or.inr ⟨k, rfl, hk', cm, fun j hj a => hno j hj a⟩⟩
      · rw [if_neg cm, if_pos rfl, w32_id (x := (k : Int) + 1) (by omega) (by omega), show (k : Int) + 1 = ((k + 1 : Nat) : Int) by omega]
        refine k_at2 hL hb hp n (k + 1) σ h (by omega) (fun j hj a => ?_)
        by_cases c : j = k
        · subst c
          exact cm
        · exact hno j hj (by omega)
theorem k_regionAt {a0 : Nat} {L : List Rg} {p : Bx} {σ : zS} (hL : L.length ≤ 181) (hb : ∀ r ∈ L, bOk r.1) (hp : bOk p) (h : cRs σ a0 L) : zP' (g_ca_regionAt a0 (enc p) σ) (fun v s => s = σ ∧ ((v = -1 ∧ ∀ i, ¬ mtF L p i) ∨ ∃ i : Nat, v = (i : Int) ∧ mtF L p i)) := k_at2 hL hb hp zK 0 σ h (Nat.zero_le _) (fun j _ a => absurd a (Nat.not_lt_zero _))
def cutH (h c : Bx) : Bx := if 0 ≤ h.1 ∧ bMt h c then bCom h c else vdB
def cutF (r : Rg) (X : List Rg × (Int → Int)) (c : Bx) : List Rg × (Int → Int) := (X.1 ++ [(c, cutH r.2.1 c, X.2 8, r.2.2.2.1, r.2.2.2.2)], upC X.2 8 (w32 (X.2 8 + 1)))
def wrI (st : Int → Int) (L : List Rg) (ct : Int → Int) (p : Bx) (i : Nat) : List Rg × (Int → Int) := if st 3 = 0 then (L, upC ct 15 (w32 (ct 15 + 1))) else if st 3 = 1 then (L.eraseIdx i, upC ct 15 (w32 (ct 15 + 1))) else (bRest (rgD L i).1 p).foldl (cutF (rgD L i)) (L.eraseIdx i, upC ct 15 (w32 (ct 15 + 1)))
def wrR (st : Int → Int) (L : List Rg) (ct : Int → Int) (p : Bx) (X : List Rg × (Int → Int)) : Prop := ((∀ i, ¬ mtF L p i) ∧ X = (L, ct)) ∨ ∃ i, mtF L p i ∧ X = wrI st L ct p i
theorem wrR.det {st : Int → Int} {L : List Rg} {ct : Int → Int} {p : Bx} {X Y : List Rg × (Int → Int)} (h1 : wrR st L ct p X) (h2 : wrR st L ct p Y) : X = Y := by
  rcases h1 with ⟨a, b⟩ | ⟨i, a, b⟩
  · rcases h2 with ⟨c, d⟩ | ⟨j, c, d⟩
    · exact b.trans d.symm
    · exact absurd c (a j)
  · rcases h2 with ⟨c, d⟩ | ⟨j, c, d⟩
    · exact absurd a (c i)
    · obtain rfl := a.det c
      exact b.trans d.symm
theorem k_write99 {a0 : Nat} {I : Nat → Bool} {rn : Bx → Int} {st : Int → Int} {P : List Bx} {r : Rg} {X0 : List Rg × (Int → Int)} (ha : a0 = 48 ∨ a0 = 106) (hP : ∀ c ∈ P, bOk c) (hPl : P.length ≤ 4) (hr : hOk r) : ∀ (n k : Nat) (σ : zS), k ≤ P.length → cSt σ a0 I rn st ((P.take k).foldl (cutF r) X0).1 ((P.take k).foldl (cutF r) X0).2 → ((P.take k).foldl (cutF r) X0).1.length ≤ 100 + k → bsR σ (a0 + 10) P → zP' (g_ca_write_L99 a0 n r.2.2.2.1 (encH r.2.1) r.2.2.2.2 (k : Int) σ) (fun _ s => cSt s a0 I rn st (P.foldl (cutF r) X0).1 (P.foldl (cutF r) X0).2 ∧ frCa a0 σ s)
  | 0, _, _, _, _, _, _ => zP'.no
  | n + 1, k, σ, hk, h, hl, hb => by
    have hz : zLI (a0 + 10 + 1) = 169 := by rcases ha with rfl | rfl <;> rfl
    unfold g_ca_write_L99
    try dsimp +instances only
    rw [hb.1]
    by_cases ck : (P.length : Int) ≤ (k : Int)
    · rw [if_pos ck]
      rw [List.take_of_length_le (by omega)] at h
      exact zP'.ret ⟨h, frCa.refl a0 σ⟩
    · have hk' : k < P.length := by omega
      have okp := hP _ (List.getElem_mem hk')
      rw [if_neg ck, bs_at hz hb (by omega) hk']
      rw [Option.bind_some]
      try dsimp +instances only
      rw [bs_at hz hb (by omega) hk']
      rw [Option.bind_some]
      try dsimp +instances only
      rw [c_common hr.2 okp]
      rw [Option.bind_some]
      try dsimp +instances only
      have eh : (if 0 ≤ r.2.1.1 ∧ bMt r.2.1 P[k] then enc (bCom r.2.1 P[k]) else -1) = encH (cutH r.2.1 P[k]) := by
        unfold cutH
        by_cases c : 0 ≤ r.2.1.1 ∧ bMt r.2.1 P[k]
        · rw [if_pos c, if_pos c, encH_ok (bCom_ok (hr.2.resolve_left (by omega)) okp c.2).1]
        · rw [if_neg c, if_neg c]
          rfl
      rw [eh]
      have et : (P.take (k + 1)).foldl (cutF r) X0 = cutF r ((P.take k).foldl (cutF r) X0) P[k] := by
        rw [List.take_succ_eq_append_getElem hk', List.foldl_append]
        rfl
      generalize hX : (P.take k).foldl (cutF r) X0 = X at h hl et
      refine zP'.bind (c_addLast (b := P[k]) (h := cutH r.2.1 P[k]) (hits := r.2.2.2.1) (w := r.2.2.2.2) h.1 (by omega)) (fun v s p => ?_)
      obtain ⟨-, p1, p2, p3⟩ := p
      try dsimp +instances only
      rw [w32_id (x := (k : Int) + 1) (by omega) (by omega), show (k : Int) + 1 = ((k + 1 : Nat) : Int) by omega]
      have f : frCa a0 σ s := fun x y q => p3 x y (by omega) (by omega)
      refine (k_write99 (I := I) (rn := rn) (st := st) ha hP hPl hr n (k + 1) s (by omega) ?_ ?_ ⟨(p3 _ _ (by omega) (by omega)).trans hb.1, fun i hi => (p3 (a0 + 10 + 1) _ (by omega) (by omega)).trans (hb.2 i hi)⟩).imp (fun _ t g => ⟨g.1, f.trans g.2⟩)
      · rw [et]
        obtain ⟨-, h2, h3, h4, h5, h6⟩ := h
        have e8 := h2 8 (by decide) (by decide)
        rw [e8] at p1 p2
        refine ⟨p1, fun i i1 i2 => ?_, fun i i1 i2 => (p3 (a0 + 2) i (by omega) (by omega)).trans (h3 i i1 i2), STb_mv h4 (fun c j k1 k2 => p3 c j (by omega) (by omega)), h5, fun b => ?_⟩
        · show s a0 i = upC X.2 8 (w32 (X.2 8 + 1)) i
          unfold upC
          by_cases c8 : i = 8
          · rw [if_pos c8, c8]
            exact p2
          · rw [if_neg c8, p3 a0 i (by omega) (by omega)]
            exact h2 i i1 i2
        · rw [rnC_mv (fun c j k1 k2 => p3 c j (by omega) (by omega))]
          exact h6 b
      · rw [et]
        show (X.1 ++ [_]).length ≤ 100 + (k + 1)
        rw [List.length_append]
        show _ + 1 ≤ _
        omega
theorem k_write {a0 : Nat} {I : Nat → Bool} {rn : Bx → Int} {st : Int → Int} {L : List Rg} {ct : Int → Int} {p : Bx} {σ : zS} (ha : a0 = 48 ∨ a0 = 106) (hp : bOk p) (hL : L.length ≤ 100) (hk : ∀ r ∈ L, hOk r) (h : cSt σ a0 I rn st L ct) (h4 : ∀ r : Rg, hOk r → (bRest r.1 p).length ≤ 4 ∧ ∀ c ∈ bRest r.1 p, bOk c) : zP' (g_ca_write a0 (enc p) σ) (fun _ s => ∃ X, wrR st L ct p X ∧ cSt s a0 I rn st X.1 X.2 ∧ frCa a0 σ s) := by
  unfold g_ca_write
  refine zP'.bind (k_regionAt (by omega) (fun r hr => (hk r hr).1) hp h.1) (fun v s q => ?_)
  obtain ⟨rfl, q⟩ := q
  try dsimp +instances only
  rcases q with ⟨rfl, q⟩ | ⟨i, rfl, q⟩
  · rw [if_neg (by decide)]
    exact zP'.ret ⟨(L, ct), Or.inl ⟨q, rfl⟩, h, frCa.refl a0 s⟩
  · have hi := q.1
    have ok := hk _ (List.getElem_mem hi)
    have h1 := cSt.ct (i := 15) (v := w32 (s a0 15 + 1)) ha h (by decide)
    rw [h.2.1 15 (by decide) (by decide)] at h1 ⊢
    have f1 : frCa a0 s (zu s a0 15 (w32 (ct 15 + 1))) := fun x y k => zu_c (by omega)
    generalize zu s a0 15 (w32 (ct 15 + 1)) = s1 at h1 f1
    rw [if_pos (by omega), p_seOf (by decide)]
    rw [Option.bind_some]
    try dsimp +instances only
    have e3 : s1 (a0 + 1 + 1) 3 = st 3 := h1.2.2.1 3 (by decide) (by decide)
    rw [e3]
    by_cases c0 : st 3 = 0
    · rw [if_neg (fun k => k c0)]
      refine zP'.ret ⟨_, Or.inr ⟨i, q, rfl⟩, ?_, f1⟩
      unfold wrI
      rw [if_pos c0]
      exact h1
    · have gi : 0 ≤ (i : Int) ∧ (i : Int) < 181 := by omega
      obtain ⟨g1, g2, g3, g4, g5⟩ := h1.1.2 i hi
      rw [if_pos c0]
      rw [if_pos gi]
      rw [if_pos gi]
      rw [if_pos gi]
      rw [if_pos gi, g1, g2, g4, g5]
      refine zP'.bind (c_remove h1.1 (by omega) hi) (fun _ s2 p2 => ?_)
      try dsimp +instances only
      have h2 := cSt.rem ha h1 p2
      have f2 : frCa a0 s s2 := f1.trans (fun x y k => p2.2 x y (by omega) (by omega))
      by_cases c1 : st 3 = 1
      · rw [if_neg (fun k => k c1)]
        refine zP'.ret ⟨_, Or.inr ⟨i, q, rfl⟩, ?_, f2⟩
        unfold wrI
        rw [if_neg c0, if_pos c1]
        exact h2
      · rw [if_pos c1]
        obtain ⟨b4, bo⟩ := h4 _ ok
        have hz : zLI (a0 + 10 + 1) = 169 := by rcases ha with rfl | rfl <;> rfl
        have b0 : bsR (zu s2 (a0 + 10) 1 0) (a0 + 10) [] := ⟨zu_e rfl, fun k hk => absurd hk (Nat.not_lt_zero _)⟩
        refine zP'.bind (bs_addRest hz ok.1 hp b0 (by rw [List.nil_append]; omega)) (fun _ s3 p3 => ?_)
        obtain ⟨r1, r2⟩ := p3
        rw [List.nil_append] at r1
        try dsimp +instances only
        have f3 : ∀ x y, (x < a0 + 10 ∨ a0 + 11 < x) → s3 x y = s2 x y := fun x y k => (r2 x y (by omega) (Or.inl (by omega))).trans (zu_a (by omega))
        have h3 := h2.mv (s := s3) (fun c j k => f3 c j (by omega))
        have hl : (L.eraseIdx i).length = L.length - 1 := List.length_eraseIdx_of_lt hi
        have W := k_write99 (P := bRest L[i].1 p) (r := L[i]) (X0 := (L.eraseIdx i, upC ct 15 (w32 (ct 15 + 1)))) ha bo b4 ok zK 0 s3 (Nat.zero_le _) h3 (by show (L.eraseIdx i).length ≤ 100 + 0; omega) r1
        have W : zP' (g_ca_write_L99 a0 zK L[i].2.2.2.1 (encH L[i].2.1) L[i].2.2.2.2 0 s3) _ := W
        refine W.imp (fun _ t g => ⟨_, Or.inr ⟨i, q, rfl⟩, ?_, fun x y k => (g.2 x y k).trans ((f3 x y (by omega)).trans (f2 x y k))⟩)
        unfold wrI
        rw [if_neg c0, if_neg c1, rgD_eq hi]
        exact g.1
end
section
/-! 8b.mstate -/
/-! THE REFERENCE'S REGIONS: told by the same list, counters, settings and rows as the class's -/
def mRs (σ : zS) (L : List Rg) : Prop := σ 144 0 = (L.length : Int) ∧ ∀ (k : Nat) (hk : k < L.length), rgA σ (k : Int) = L[k]
def mCt (σ : zS) (ct : Int → Int) : Prop := σ 144 1 = ct 8 ∧ σ 147 0 = ct 9 ∧ ∀ i : Int, 10 ≤ i → i ≤ 15 → σ 144 (i - 8) = ct i
def mKp (σ : zS) (rn : Bx → Int) (st : Int → Int) : Prop := (∀ i : Int, 0 ≤ i → i < 7 → σ 144 (11 + i) = st i) ∧ ∀ b, rowsN σ b = rn b
def mSt (σ : zS) (rn : Bx → Int) (st : Int → Int) (L : List Rg) (ct : Int → Int) : Prop := mRs σ L ∧ mCt σ ct ∧ mKp σ rn st
theorem mKp.mv {σ s : zS} {rn : Bx → Int} {st : Int → Int} (h : mKp σ rn st) (e : ∀ j : Int, 11 ≤ j → j < 200 → s 144 j = σ 144 j) : mKp s rn st := ⟨fun i i1 i2 => (e _ (by omega) (by omega)).trans (h.1 i i1 i2), fun b => (rowsN_fr (fun j j1 j2 => e j (by omega) j2) b).trans (h.2 b)⟩
theorem mCt.mv {σ s : zS} {ct : Int → Int} (h : mCt σ ct) (e : ∀ j : Int, 1 ≤ j → j ≤ 7 → s 144 j = σ 144 j) (e0 : s 147 0 = σ 147 0) : mCt s ct := ⟨(e 1 (by decide) (by decide)).trans h.1, e0.trans h.2.1, fun i i1 i2 => (e _ (by omega) (by omega)).trans (h.2.2 i i1 i2)⟩
theorem rgA_mv {σ s : zS} {k : Int} (e : ∀ j : Int, 340 + 10 * k ≤ j → j < 350 + 10 * k → s 144 j = σ 144 j) (e0 : s 147 (121 + k) = σ 147 (121 + k)) : rgA s k = rgA σ k := by
  unfold rgA bxA
  rw [e _ (by omega) (by omega), e _ (by omega) (by omega), e _ (by omega) (by omega), e _ (by omega) (by omega), e _ (by omega) (by omega), e _ (by omega) (by omega), e _ (by omega) (by omega), e _ (by omega) (by omega), e _ (by omega) (by omega), e _ (by omega) (by omega), e0]
theorem mRs.mv {σ s : zS} {L : List Rg} (h : mRs σ L) (e : ∀ j : Int, (j = 0 ∨ (340 ≤ j ∧ j < 2740)) → s 144 j = σ 144 j) (e0 : ∀ j : Int, 121 ≤ j → j < 361 → s 147 j = σ 147 j) (hN : L.length ≤ 240) : mRs s L := ⟨(e 0 (by omega)).trans h.1, fun k hk => (rgA_mv (fun j j1 j2 => e j (by omega)) (e0 _ (by omega) (by omega))).trans (h.2 k hk)⟩
theorem mCt.up {σ : zS} {ct : Int → Int} {i j v : Int} (h : mCt σ ct) (hi : 10 ≤ i ∧ i ≤ 15) (hj : j = i - 8) : mCt (zu σ 144 j v) (upC ct i v) := by
  subst hj
  refine ⟨?_, ?_, fun k k1 k2 => ?_⟩
  · rw [zu_i (by omega), h.1]
    unfold upC
    rw [if_neg (by omega)]
  · rw [zu_a (by decide), h.2.1]
    unfold upC
    rw [if_neg (by omega)]
  · unfold upC
    by_cases c : k = i
    · rw [if_pos c, zu_e (by omega)]
    · rw [if_neg c, zu_i (by omega)]
      exact h.2.2 k k1 k2
/-- numbers grow along the list and lie below the next one -/
def asc (L : List Rg) (m : Int) : Prop := (L.map (fun r => r.2.2.1)).Pairwise (fun a b => a < b) ∧ ∀ r ∈ L, r.2.2.1 < m
theorem asc.get {L : List Rg} {m : Int} (h : asc L m) {a b : Nat} (ha : a < L.length) (hb : b < L.length) (hab : a < b) : L[a].2.2.1 < L[b].2.2.1 := by
  have g := (List.pairwise_iff_getElem.mp h.1) a b (by rw [List.length_map]; exact ha) (by rw [List.length_map]; exact hb) hab
  rw [List.getElem_map, List.getElem_map] at g
  exact g
theorem asc.er {L : List Rg} {m : Int} (h : asc L m) (k : Nat) : asc (L.eraseIdx k) m := ⟨List.Pairwise.sublist ((List.eraseIdx_sublist L k).map _) h.1, fun r hr => h.2 r (List.mem_of_mem_eraseIdx hr)⟩
theorem asc.set {L : List Rg} {m : Int} (h : asc L m) {k : Nat} {r : Rg} (hk : k < L.length) (e : r.2.2.1 = L[k].2.2.1) : asc (L.set k r) m := by
  have e2 : (L.set k r).map (fun r => r.2.2.1) = L.map (fun r => r.2.2.1) := by
    refine List.ext_getElem (by rw [List.length_map, List.length_map, List.length_set]) (fun i h1 h2 => ?_)
    rw [List.getElem_map, List.getElem_map, List.getElem_set]
    by_cases c : k = i
    · subst c
      rw [if_pos rfl, e]
    · rw [if_neg c]
  refine ⟨by rw [e2]; exact h.1, fun x hx => ?_⟩
  rcases List.mem_or_eq_of_mem_set hx with g | g
  · exact h.2 x g
  · rw [g, e]
    exact h.2 _ (List.getElem_mem hk)
theorem asc.add {L : List Rg} {m : Int} (h : asc L m) {r : Rg} (e : r.2.2.1 = m) : asc (L ++ [r]) (m + 1) := by
  refine ⟨?_, fun x hx => ?_⟩
  · rw [List.map_append, List.pairwise_append]
    refine ⟨h.1, List.pairwise_singleton _ _, fun a ha b hb => ?_⟩
    have hb : b ∈ [r.2.2.1] := hb
    rw [List.mem_singleton] at hb
    rw [hb, e]
    obtain ⟨y, hy, rfl⟩ := List.mem_map.mp ha
    exact h.2 y hy
  · rcases List.mem_append.mp hx with g | g
    · have := h.2 x g
      omega
    · rw [List.mem_singleton] at g
      rw [g, e]
      omega
theorem asc.map {L : List Rg} {m : Int} (h : asc L m) {f : Rg → Rg} (e : ∀ r, (f r).2.2.1 = r.2.2.1) : asc (L.map f) m := by
  refine ⟨?_, fun x hx => ?_⟩
  · rw [List.map_map, show ((fun r : Rg => r.2.2.1) ∘ f) = (fun r : Rg => r.2.2.1) from funext (fun r => e r)]
    exact h.1
  · obtain ⟨y, hy, rfl⟩ := List.mem_map.mp hx
    rw [e y]
    exact h.2 y hy
theorem asc.mono {L : List Rg} {m n : Int} (h : asc L m) (e : m ≤ n) : asc L n := ⟨h.1, fun r hr => by
  have := h.2 r hr
  omega⟩
theorem t_light {σ : zS} {L : List Rg} {m : Int} {f : Nat} (h : mRs σ L) (ha : asc L m) (l : isLight σ L.length f) : isLt L f := by
  obtain ⟨hf, l⟩ := l
  have w : ∀ (k : Nat) (hk : k < L.length), σ 147 (121 + (k : Int)) = L[k].2.2.2.2 ∧ σ 144 (348 + 10 * (k : Int)) = L[k].2.2.1 := fun k hk => by
    rw [← h.2 k hk]
    exact ⟨rfl, rfl⟩
  refine ⟨hf, fun k hk => ?_⟩
  obtain ⟨a1, a2⟩ := w f hf
  obtain ⟨b1, b2⟩ := w k hk
  have g := l k hk
  rw [a1, a2, b1, b2] at g
  rcases g with g | ⟨g1, g2⟩
  · exact Or.inl g
  · refine Or.inr ⟨g1, Classical.byContradiction (fun hn => ?_)⟩
    have := ha.get hk hf (by omega)
    omega
/-- the sizes together -/
theorem t_sum {σ : zS} {rn : Bx → Int} {st : Int → Int} {L : List Rg} (h : mRs σ L) (hk : mKp σ rn st) : ∀ k : Nat, k ≤ L.length → sumC σ k = szP rn (L.take k)
  | 0, _ => by
    rw [List.take_zero]
    rfl
  | k + 1, hl => by
    rw [szP_take L k (by omega), ← t_sum h hk k (by omega)]
    show sumC σ k + (1 + rowsN σ (rgA σ (k : Int)).1) = _
    rw [h.2 k (by omega), hk.2]
/-- what a region weighs -/
theorem t_wgt {s : zS} {rn : Bx → Int} {st : Int → Int} {b : Bx} {hits : Int} (h : mKp s rn st) : wgt (s 147 0) (costN s b) hits (1 + rowsN s b) = wtP rn st (s 147 0) b hits := by
  unfold wtP csP costN
  have e : s 144 11 = st 0 := h.1 0 (by decide) (by decide)
  rw [h.2 b, e]
theorem mRs.set {σ s : zS} {L : List Rg} {f : Nat} {r : Rg} (h : mRs σ L) (e0 : s 144 0 = σ 144 0) (e1 : rgA s (f : Int) = r) (e2 : ∀ k : Nat, k < L.length → k ≠ f → rgA s (k : Int) = rgA σ (k : Int)) : mRs s (L.set f r) := by
  refine ⟨by rw [List.length_set, e0]; exact h.1, fun k hk => ?_⟩
  rw [List.length_set] at hk
  rw [List.getElem_set]
  by_cases c : f = k
  · subst c
    rw [if_pos rfl]
    exact e1
  · rw [if_neg c, e2 k hk (fun x => c x.symm)]
    exact h.2 k hk
theorem mRs.er {σ s : zS} {L : List Rg} {f : Nat} (h : mRs σ L) (hf : f < L.length) (e0 : s 144 0 = (L.length : Int) - 1) (e1 : ∀ k : Nat, k < L.length - 1 → rgA s (k : Int) = if (k : Int) < (f : Int) then rgA σ (k : Int) else rgA σ ((k : Int) + 1)) : mRs s (L.eraseIdx f) := by
  have hl : (L.eraseIdx f).length = L.length - 1 := List.length_eraseIdx_of_lt hf
  refine ⟨by rw [e0, hl]; omega, fun k hk => ?_⟩
  rw [hl] at hk
  rw [e1 k hk, List.getElem_eraseIdx]
  by_cases c : k < f
  · rw [if_pos (by omega), h.2 k (by omega)]
    simp only [c, if_true, dite_true]
  · rw [if_neg (by omega), show (k : Int) + 1 = ((k + 1 : Nat) : Int) by omega, h.2 (k + 1) (by omega)]
    simp only [c, if_false, dite_false]
theorem t_tr1 {σ : zS} {rn : Bx → Int} {st : Int → Int} {L : List Rg} {ct : Int → Int} {f : Nat} (h : mSt σ rn st L ct) (hf : f < L.length) : mSt (tr1 σ (f : Int)) rn st L (lvP ct (rgD L f).2.2.2.2) := by
  obtain ⟨h1, h2, h3⟩ := h
  have ew : σ 147 (121 + (f : Int)) = (rgD L f).2.2.2.2 := by
    rw [rgD_eq hf, ← h1.2 f hf]
    rfl
  refine ⟨⟨(tr1_a (by omega)).trans h1.1, fun k hk => ?_⟩, ⟨?_, ?_, fun i i1 i2 => ?_⟩, h3.mv (fun j _ _ => tr1_a (by omega))⟩
  · rw [rgA_mv (fun j _ _ => tr1_a (by omega)) (tr1_a (by omega))]
    exact h1.2 k hk
  · rw [tr1_a (by omega), h2.1]
    rfl
  · show tr1 σ (f : Int) 147 0 = (if ct 9 < (rgD L f).2.2.2.2 then (rgD L f).2.2.2.2 else ct 9)
    unfold tr1
    rw [ew, h2.2.1]
    by_cases c : ct 9 < (rgD L f).2.2.2.2
    · rw [if_pos c, if_pos c, zu_e rfl]
    · rw [if_neg c, if_neg c]
      exact h2.2.1
  · rw [tr1_a (by omega), h2.2.2 i i1 i2]
    unfold lvP upC
    rw [if_neg (by omega)]
theorem t_trE {σ : zS} {rn : Bx → Int} {st : Int → Int} {L : List Rg} {ct : Int → Int} {f : Nat} (h : mSt σ rn st L ct) (hf : f < L.length) (hN : L.length ≤ 239) : mSt (trE σ (f : Int) (L.length : Int)) rn st (L.eraseIdx f) (upC ct 12 (w32 (ct 12 + 1))) := by
  obtain ⟨h1, h2, h3⟩ := h
  have o : ∀ a j, (a ≠ 144 ∨ (j ≠ 0 ∧ j ≠ 4 ∧ j < 340)) → (a ≠ 147 ∨ j < 121) → trE σ (f : Int) (L.length : Int) a j = σ a j := fun a j k1 k2 => trE_a (by omega) k1 k2
  refine ⟨mRs.er h1 hf ?_ (fun k hk => rgA_trE (by omega) (by omega) (by omega) (by omega)), ⟨?_, ?_, fun i i1 i2 => ?_⟩, h3.mv (fun j _ _ => o 144 j (by omega) (by omega))⟩
  · unfold trE
    rw [zu_i (by decide), zu_e rfl]
  · rw [o 144 1 (by omega) (by omega), h2.1]
    rfl
  · rw [o 147 0 (by omega) (by omega), h2.2.1]
    rfl
  · unfold upC
    by_cases c : i = 12
    · subst c
      rw [if_pos rfl]
      unfold trE
      rw [zu_e (by decide)]
      have e : σ 144 4 = ct 12 := h2.2.2 12 (by decide) (by decide)
      rw [e]
    · rw [if_neg c, o 144 _ (by omega) (by omega)]
      exact h2.2.2 i i1 i2
theorem t_trS {σ : zS} {rn : Bx → Int} {st : Int → Int} {L : List Rg} {ct : Int → Int} {f : Nat} (h : mSt σ rn st L ct) (hf : f < L.length) (hN : L.length ≤ 239) : mSt (trS σ (f : Int)) rn st (L.set f (shR rn st (ct 9) (rgD L f))) (upC ct 13 (w32 (ct 13 + 1))) := by
  obtain ⟨h1, h2, h3⟩ := h
  have g := h1.2 f hf
  rw [← rgD_eq hf] at g
  have o : ∀ a j, (a ≠ 144 ∨ (j ≠ 5 ∧ (j < 340 + 10 * (f : Int) ∨ 350 + 10 * (f : Int) ≤ j))) → (a ≠ 147 ∨ j ≠ 121 + (f : Int)) → trS σ (f : Int) a j = σ a j := fun a j k1 k2 => by rw [trS_a (by omega) k2, trH_a (by omega)]
  have kH : mKp (trH σ (f : Int)) rn st := h3.mv (fun j _ _ => trH_a (by omega))
  refine ⟨mRs.set h1 (o 144 0 (by omega) (by omega)) ?_ (fun k hk hne => rgA_mv (fun j _ _ => o 144 j (by omega) (by omega)) (o 147 _ (by omega) (by omega))), ⟨?_, ?_, fun i i1 i2 => ?_⟩, h3.mv (fun j _ _ => o 144 j (by omega) (by omega))⟩
  · have gh : bxA σ 144 (344 + 10 * (f : Int)) = (rgD L f).2.1 := by rw [← g]; rfl
    have gn : σ 144 (348 + 10 * (f : Int)) = (rgD L f).2.2.1 := by rw [← g]; rfl
    have gt : σ 144 (349 + 10 * (f : Int)) = (rgD L f).2.2.2.1 := by rw [← g]; rfl
    have b1 : bxA (trS σ (f : Int)) 144 (340 + 10 * (f : Int)) = (rgD L f).2.1 := by rw [trS_bx (by omega), trH_bx.1, gh]
    have b2 : bxA (trS σ (f : Int)) 144 (344 + 10 * (f : Int)) = vdB := by
      rw [trS_bx (by omega), trH_bx.2]
      rfl
    have bH : bxA (trH σ (f : Int)) 144 (340 + 10 * (f : Int)) = (rgD L f).2.1 := by rw [trH_bx.1, gh]
    have n1 : trS σ (f : Int) 144 (348 + 10 * (f : Int)) = (rgD L f).2.2.1 := by
      rw [trS_a (by omega) (by omega)]
      unfold trH
      rw [zu_i (by omega), zb_i (by omega), zb_i (by omega), gn]
    have tH : trH σ (f : Int) 144 (349 + 10 * (f : Int)) = w32 (Int.tdiv (rgD L f).2.2.2.1 2) := by
      unfold trH
      rw [zu_e rfl, gt]
    have t1 : trS σ (f : Int) 144 (349 + 10 * (f : Int)) = w32 (Int.tdiv (rgD L f).2.2.2.1 2) := by rw [trS_a (by omega) (by omega), tH]
    have lH : trH σ (f : Int) 147 0 = ct 9 := (trH_a (by omega)).trans h2.2.1
    have w1 : trS σ (f : Int) 147 (121 + (f : Int)) = wtP rn st (ct 9) (rgD L f).2.1 (w32 (Int.tdiv (rgD L f).2.2.2.1 2)) := by
      unfold trS
      rw [zu_a (by decide)]
      unfold trW
      rw [zu_e rfl, bH, tH, t_wgt kH, lH]
    unfold rgA
    rw [b1, b2, n1, t1, w1]
    rfl
  · rw [o 144 1 (by omega) (by omega), h2.1]
    rfl
  · rw [o 147 0 (by omega) (by omega), h2.2.1]
    rfl
  · unfold upC
    by_cases c : i = 13
    · subst c
      rw [if_pos rfl]
      unfold trS
      rw [zu_e (by decide)]
      have e : σ 144 5 = ct 13 := h2.2.2 13 (by decide) (by decide)
      rw [e]
    · rw [if_neg c, o 144 _ (by omega) (by omega)]
      exact h2.2.2 i i1 i2
theorem t_trT {σ : zS} {rn : Bx → Int} {st : Int → Int} {L : List Rg} {ct : Int → Int} {f : Nat} (h : mSt σ rn st L ct) (hf : f < L.length) (hN : L.length ≤ 239) (s5 : st 5 = 0 ∨ st 5 = 1) : mSt (trT σ (f : Int) (L.length : Int)) rn st (gvP rn st (L, ct) f).1 (gvP rn st (L, ct) f).2 := by
  have h1 := t_tr1 h hf
  have g := h.1.2 f hf
  rw [← rgD_eq hf] at g
  have e5 : σ 144 16 = st 5 := h.2.2.1 5 (by decide) (by decide)
  have gb : bxA σ 144 (340 + 10 * (f : Int)) = (rgD L f).1 := by rw [← g]; rfl
  have gh : bxA σ 144 (344 + 10 * (f : Int)) = (rgD L f).2.1 := by rw [← g]; rfl
  have g0 : σ 144 (344 + 10 * (f : Int)) = (rgD L f).2.1.1 := by rw [← g]; rfl
  unfold trT gvP
  rw [e5, g0, gb, gh]
  by_cases c : canS st (rgD L f)
  · have c1 : st 5 = 1 ∧ 0 ≤ (rgD L f).2.1.1 ∧ bArea (rgD L f).2.1 < bArea (rgD L f).1 := ⟨s5.resolve_left c.1, c.2⟩
    have c2 : canS st (rgD (L, ct).1 f) := c
    rw [if_pos c1, if_pos c2]
    exact t_trS h1 hf hN
  · have c1 : ¬ (st 5 = 1 ∧ 0 ≤ (rgD L f).2.1.1 ∧ bArea (rgD L f).2.1 < bArea (rgD L f).1) := fun k => c ⟨by omega, k.2⟩
    have c2 : ¬ canS st (rgD (L, ct).1 f) := c
    rw [if_neg c1, if_neg c2]
    exact t_trE h1 hf hN
theorem gv_asc {rn : Bx → Int} {st : Int → Int} {L : List Rg} {ct : Int → Int} {f : Nat} (hf : f < L.length) (h : asc L (ct 8)) : asc (gvP rn st (L, ct) f).1 ((gvP rn st (L, ct) f).2 8) ∧ (gvP rn st (L, ct) f).2 8 = ct 8 := by
  unfold gvP
  by_cases c : canS st (rgD (L, ct).1 f)
  · rw [if_pos c]
    refine ⟨asc.set h hf ?_, rfl⟩
    show (rgD L f).2.2.1 = _
    rw [rgD_eq hf]
  · rw [if_neg c]
    exact ⟨asc.er h f, rfl⟩
/-- TRIMMING of the reference -/
theorem t_trims0 {rn : Bx → Int} {st : Int → Int} (s1 : 0 ≤ st 1) (s2 : 0 ≤ st 2) (s5 : st 5 = 0 ∨ st 5 = 1) : ∀ (n : Nat) (L : List Rg) (ct : Int → Int) (σ : zS), mSt σ rn st L ct → L.length ≤ 239 → (∀ r ∈ L, hOk r) → asc L (ct 8) → zP' (g_m_trims_L0 n σ) (fun _ s => ∃ m L' ct', TMn rn st m (L, ct) (L', ct') ∧ (∀ r ∈ L', hOk r) ∧ L'.length ≤ L.length ∧ asc L' (ct' 8) ∧ ct' 8 = ct 8 ∧ mSt s rn st L' ct')
  | 0, _, _, _, _, _, _, _ => zP'.no
  | n + 1, L, ct, σ, h, hN2, hk, ha => by
    have hN := h.1.1
    have e13 : σ 144 13 = st 2 := h.2.2.1 2 (by decide) (by decide)
    have e12 : σ 144 12 = st 1 := h.2.2.1 1 (by decide) (by decide)
    have es : sumC σ L.length = szP rn L := by rw [t_sum h.1 h.2.2 L.length (Nat.le_refl _), List.take_length]
    have stop : g_m_trims_L0 (n + 1) σ = if st 2 < (L.length : Int) ∨ st 1 < szP rn L then g_m_trims_L30 (g_m_trims_L0 n) σ else some ((), σ) := by
      conv => lhs; unfold g_m_trims_L0
      simp only [hN, e13]
      by_cases c1 : st 2 < (L.length : Int)
      · rw [if_pos c1, if_pos (Or.inl c1)]
      · rw [if_neg c1, s_sizes hN hN2, es]
        rw [Option.bind_some]
        try dsimp only
        by_cases c2 : st 1 < szP rn L
        · rw [if_neg (by omega), if_pos (Or.inr c2)]
        · rw [if_pos (by omega), if_neg (by omega)]
    rw [stop]
    by_cases c : st 2 < (L.length : Int) ∨ st 1 < szP rn L
    · rw [if_pos c]
      have hN1 : 0 < L.length := by
        rcases Nat.eq_zero_or_pos L.length with h0 | h0
        · have e0 : L = [] := List.eq_nil_of_length_eq_zero h0
          subst e0
          have c : st 2 < (0 : Int) ∨ st 1 < (0 : Int) := c
          omega
        · exact h0
      obtain ⟨f, hf, e⟩ := s_trims30 (g := g_m_trims_L0 n) hN hN1 hN2
      have lt := t_light h.1 ha hf
      have hfl := lt.1
      rw [e]
      obtain ⟨o1, o2, o3⟩ := gv_ok (rn := rn) (st := st) (ct := ct) hfl hk
      obtain ⟨a1, a2⟩ := gv_asc (rn := rn) (st := st) hfl ha
      refine (t_trims0 s1 s2 s5 n _ _ _ (t_trT h hfl hN2 s5) (by omega) o1 a1).imp (fun _ s p => ?_)
      obtain ⟨m, L', ct', p1, p2, p3, p4, p5, p6⟩ := p
      exact ⟨m + 1, L', ct', ⟨c, f, lt, p1⟩, p2, by omega, p4, p5.trans a2, p6⟩
    · rw [if_neg c]
      exact zP'.ret ⟨0, L, ct, ⟨c, rfl⟩, hk, Nat.le_refl _, ha, rfl, h⟩
theorem t_trims {rn : Bx → Int} {st : Int → Int} {L : List Rg} {ct : Int → Int} {σ : zS} (s1 : 0 ≤ st 1) (s2 : 0 ≤ st 2) (s5 : st 5 = 0 ∨ st 5 = 1) (h : mSt σ rn st L ct) (hN : L.length ≤ 239) (hk : ∀ r ∈ L, hOk r) (ha : asc L (ct 8)) : zP' (g_m_trims σ) (fun _ s => ∃ m L' ct', TMn rn st m (L, ct) (L', ct') ∧ (∀ r ∈ L', hOk r) ∧ L'.length ≤ L.length ∧ asc L' (ct' 8) ∧ ct' 8 = ct 8 ∧ mSt s rn st L' ct') := t_trims0 s1 s2 s5 zK L ct σ h hN hk ha
end
section
/-! 8c.mquery -/
/-! THE REFERENCE'S REGIONS: merging, asking, a query -/
theorem jnS_a {σ : zS} {i j N : Nat} {a : Nat} {b : Int} (h1 : a ≠ 144 ∨ (b < 340 ∧ b ≠ 0 ∧ b ≠ 6)) (h2 : a ≠ 147 ∨ b < 121) (hjN : j < N) : jnS σ (i : Int) (j : Int) (N : Int) a b = σ a b := by
  have hH : ∀ a b, (a ≠ 144 ∨ b < 340) → jnH σ (i : Int) (j : Int) a b = σ a b := by
    intro a b h
    unfold jnH jnB
    by_cases c : σ 144 (344 + 10 * (j : Int)) < 0
    · rw [if_pos c, zu_c (by omega)]
      rcases h with h | h
      · exact zb_a h
      · exact zb_i (by omega)
    · rw [if_neg c]
      rcases h with h | h
      · rw [zb_a h, zu_a h, zb_a h]
      · rw [zb_i (by omega), zu_i (by omega), zb_i (by omega)]
  have hW : ∀ a b, (a ≠ 147 ∨ b < 121) → jnW (jnH σ (i : Int) (j : Int)) (i : Int) (j : Int) a b = jnH σ (i : Int) (j : Int) a b := by
    intro a b h
    unfold jnW
    by_cases c : jnH σ (i : Int) (j : Int) 147 (121 + (i : Int)) < jnH σ (i : Int) (j : Int) 147 (121 + (j : Int))
    · rw [if_pos c, zu_c (by omega)]
    · rw [if_neg c]
  unfold jnS
  rw [zu_c (by omega), zu_c (by omega)]
  unfold gS2
  rw [if_neg (fun e => by omega), if_neg (fun e => by omega), hW a b (by omega), hH a b (by omega)]
theorem t_jnS {σ : zS} {rn : Bx → Int} {st : Int → Int} {L : List Rg} {ct : Int → Int} {i j : Nat} (h : mSt σ rn st L ct) (hij : i < j) (hj : j < L.length) (hN : L.length ≤ 239) : mSt (jnS σ (i : Int) (j : Int) (L.length : Int)) rn st (jnL L i j (jnR L i j)) (upC ct 14 (w32 (ct 14 + 1))) := by
  obtain ⟨h1, h2, h3⟩ := h
  have hi : i < L.length := by omega
  have o : ∀ b, (b < 340 ∧ b ≠ 0 ∧ b ≠ 6) → jnS σ (i : Int) (j : Int) (L.length : Int) 144 b = σ 144 b := fun b k => jnS_a (Or.inr k) (Or.inl (by decide)) hj
  have hl := jn_len (i := i) (r := jnR L i j) hj
  refine ⟨⟨?_, fun k hk => ?_⟩, ⟨?_, ?_, fun y y1 y2 => ?_⟩, h3.mv (fun y _ _ => o y (by omega))⟩
  · rw [(jnS_fr hij hj hN).2, hl]
  · have hk' : k < L.length - 1 := by omega
    rw [jn_get hij hj hk, rgA_jnS (by omega) (by omega) (by omega) (by omega) (by omega) (by omega)]
    by_cases c : k < j
    · have c' : (k : Int) < (j : Int) := by omega
      simp only [if_pos c']
      by_cases ci : k = i
      · subst ci
        rw [if_pos rfl, if_pos rfl, jnR_eq hi hj, h1.2 k hi, h1.2 j hj]
      · rw [if_neg (by omega), if_neg ci, h1.2 k (by omega)]
        simp only [c, if_true]
    · have c' : ¬ (k : Int) < (j : Int) := by omega
      simp only [if_neg c']
      rw [if_neg (by omega), if_neg (by omega), show (k : Int) + 1 = ((k + 1 : Nat) : Int) by omega, h1.2 (k + 1) (by omega)]
      simp only [c, if_false]
  · rw [o 1 (by decide), h2.1]
    rfl
  · rw [jnS_a (Or.inl (by decide)) (Or.inr (by decide)) hj, h2.2.1]
    rfl
  · unfold upC
    by_cases c : y = 14
    · subst c
      rw [if_pos rfl]
      unfold jnS
      rw [zu_e (by decide)]
      have e : σ 144 6 = ct 14 := h2.2.2 14 (by decide) (by decide)
      rw [e]
    · rw [if_neg c, o _ (by omega)]
      exact h2.2.2 y y1 y2
theorem jn_ok {L : List Rg} {i j : Nat} (hi : i < L.length) (hj : j < L.length) (hk : ∀ r ∈ L, hOk r) : ∀ r ∈ jnL L i j (jnR L i j), hOk r := fun r hr => by
  unfold jnL at hr
  rcases List.mem_or_eq_of_mem_set (List.mem_of_mem_eraseIdx hr) with h | h
  · exact hk r h
  · rw [h, jnR_eq hi hj]
    exact mJoinH (hk _ (List.getElem_mem hi)) (hk _ (List.getElem_mem hj))
theorem jn_asc {L : List Rg} {i j : Nat} {m : Int} (hi : i < L.length) (hj : j < L.length) (ha : asc L m) : asc (jnL L i j (jnR L i j)) m := by
  unfold jnL
  refine asc.er (asc.set ha hi ?_) j
  rw [jnR_eq hi hj]
  rfl
theorem up0 (ct : Int → Int) : upC ct 14 (bmp 0 (ct 14)) = ct := by
  funext x
  unfold upC bmp
  by_cases c : x = 14
  · rw [if_pos c, c]
  · rw [if_neg c]
theorem up1 (ct : Int → Int) (m : Nat) : upC (upC ct 14 (w32 (ct 14 + 1))) 14 (bmp m (upC ct 14 (w32 (ct 14 + 1)) 14)) = upC ct 14 (bmp (m + 1) (ct 14)) := by
  funext x
  unfold upC
  by_cases c : x = 14
  · rw [if_pos c, if_pos c, if_pos rfl]
    rfl
  · rw [if_neg c, if_neg c, if_neg c]
/-- what the end of a query makes of regions and counters -/
def endR (rn : Bx → Int) (st : Int → Int) (L : List Rg) (ct : Int → Int) (L' : List Rg) (ct' : Int → Int) : Prop := ∃ m2, TMn rn st m2 (L, ct) (L', ct')
theorem t_stop {rn : Bx → Int} {st : Int → Int} (s1 : 0 ≤ st 1) (s2 : 0 ≤ st 2) (s5 : st 5 = 0 ∨ st 5 = 1) {L : List Rg} {ct : Int → Int} {σ : zS} (h : mSt σ rn st L ct) (hN : L.length ≤ 239) (hk : ∀ r ∈ L, hOk r) (ha : asc L (ct 8)) : ∀ n : Nat, zP' (g_m_queries_L189 n 0 σ) (fun _ s => ∃ m L' ct', TMn rn st m (L, ct) (L', ct') ∧ (∀ r ∈ L', hOk r) ∧ L'.length ≤ L.length ∧ asc L' (ct' 8) ∧ ct' 8 = ct 8 ∧ mSt s rn st L' ct')
  | 0 => zP'.no
  | n + 1 => by
    unfold g_m_queries_L189
    rw [if_pos rfl]
    exact zP'.bind (t_trims s1 s2 s5 h hN hk ha) (fun _ s p => zP'.ret p)
theorem t_merges {rn : Bx → Int} {st : Int → Int} (s1 : 0 ≤ st 1) (s2 : 0 ≤ st 2) (s5 : st 5 = 0 ∨ st 5 = 1) : ∀ (n : Nat) (L : List Rg) (ct : Int → Int) (σ : zS), RI σ L.length → mSt σ rn st L ct → L.length ≤ 239 → (∀ r ∈ L, hOk r) → asc L (ct 8) → zP' (g_m_queries_L189 n 1 σ) (fun _ s => ∃ m1 L2 m2 L' ct', MGn m1 L L2 ∧ TMn rn st m2 (L2, upC ct 14 (bmp m1 (ct 14))) (L', ct') ∧ (∀ r ∈ L', hOk r) ∧ asc L' (ct' 8) ∧ ct' 8 = ct 8 ∧ mSt s rn st L' ct')
  | 0, _, _, _, _, _, _, _, _ => zP'.no
  | n + 1, L, ct, σ, hR, h, hN2, hk, ha => by
    have step : g_m_queries_L189 (n + 1) 1 σ = (g_m_isMerged σ).bind (fun o => g_m_queries_L189 n o.1 o.2) := by
      conv => lhs; unfold g_m_queries_L189
      rw [if_neg (by decide)]
    rw [step]
    have hb : ∀ (k : Nat) (hk : k < L.length), (rgA σ (k : Int)).1 = L[k].1 := fun k hk => by rw [h.1.2 k hk]
    rcases s_isMerged hR h.1.1 hN2 with ⟨i, j, k1, k2, k3, k4, k5⟩ | ⟨k1, k2⟩
    · rw [k5]
      rw [Option.bind_some]
      try dsimp only
      have hi : i < L.length := by omega
      have first : isF L i j := by
        refine ⟨⟨hi, k2, k1, ?_⟩, fun a b hp => ?_⟩
        · rw [hb i hi, hb j k2] at k3
          exact k3
        · obtain ⟨ha1, hb1, hab, ho⟩ := hp
          exact k4 a b hab hb1 (by rw [hb a ha1, hb b hb1]; exact ho)
      have hl := jn_len (i := i) (r := jnR L i j) k2
      have RJ := RI_join hR k1 k2 hN2 k3
      rw [← hl] at RJ
      refine (t_merges s1 s2 s5 n _ _ _ RJ (t_jnS h k1 k2 hN2) (by omega) (jn_ok hi k2 hk) (jn_asc hi k2 ha)).imp (fun _ s p => ?_)
      obtain ⟨m1, L2, m2, L', ct', p1, p2, p3, p4, p5, p6⟩ := p
      rw [up1] at p2
      exact ⟨m1 + 1, L2, m2, L', ct', ⟨i, j, first, p1⟩, p2, p3, p4, p5, p6⟩
    · rw [k2]
      rw [Option.bind_some]
      try dsimp only
      refine (t_stop s1 s2 s5 h hN2 hk ha n).imp (fun _ s p => ?_)
      obtain ⟨m, L', ct', p1, p2, p3, p4, p5, p6⟩ := p
      refine ⟨0, L, m, L', ct', ⟨fun a b hp => ?_, rfl⟩, by rw [up0]; exact p1, p2, p4, p5, p6⟩
      obtain ⟨ha1, hb1, hab, ho⟩ := hp
      exact k1 a b hab hb1 (by rw [hb a ha1, hb b hb1]; exact ho)
theorem t_cost {s : zS} {rn : Bx → Int} {st : Int → Int} {b : Bx} (h : mKp s rn st) : costN s b = csP rn st b := by
  unfold csP costN
  have e : s 144 11 = st 0 := h.1 0 (by decide) (by decide)
  rw [h.2 b, e]
theorem t_ask {σ : zS} {rn : Bx → Int} {st : Int → Int} {L : List Rg} {ct : Int → Int} {p : Bx} (h : mSt σ rn st L ct) (hN : L.length ≤ 240) : mSt (askS σ (costN σ p)) rn st L (askP rn st ct p) := by
  obtain ⟨h1, h2, h3⟩ := h
  refine ⟨h1.mv (fun j _ => askS_a (by omega)) (fun j _ _ => askS_a (by omega)) hN, ?_, h3.mv (fun j _ _ => askS_a (by omega))⟩
  have a1 := mCt.up (i := 10) (j := 2) (v := w32 (σ 144 2 + 1)) h2 (by decide) (by decide)
  have a2 := mCt.up (i := 11) (j := 3) (v := w32 (σ 144 3 + costN σ p)) a1 (by decide) (by decide)
  have e2 : σ 144 2 = ct 10 := h2.2.2 10 (by decide) (by decide)
  have e3 : σ 144 3 = ct 11 := h2.2.2 11 (by decide) (by decide)
  rw [e2, e3, t_cost h3] at a2
  unfold askS askP
  rw [e2, e3, t_cost h3]
  exact a2
theorem t_adds {σ : zS} {rn : Bx → Int} {st : Int → Int} {L : List Rg} {ct : Int → Int} {p : Bx} (h : mSt σ rn st L ct) (hN : L.length ≤ 239) : mRs (addsS σ (L.length : Int) p) (L ++ [(p, vdB, ct 8, 0, σ 147 (121 + (L.length : Int)))]) ∧ mCt (addsS σ (L.length : Int) p) (upC ct 8 (w32 (ct 8 + 1))) ∧ mKp (addsS σ (L.length : Int) p) rn st := by
  obtain ⟨h1, h2, h3⟩ := h
  refine ⟨⟨?_, fun k hk => ?_⟩, ⟨?_, ?_, fun i i1 i2 => ?_⟩, h3.mv (fun j _ _ => addsS_a (by omega))⟩
  · rw [addsS_N (by omega) (by omega), List.length_append]
    show (L.length : Int) + 1 = ((L.length + 1 : Nat) : Int)
    omega
  · rw [List.length_append] at hk
    have hk : k < L.length + 1 := hk
    by_cases c : k < L.length
    · rw [List.getElem_append_left c, rgA_addo (by omega) (by omega) (by omega)]
      exact h1.2 k c
    · have ek : k = L.length := by omega
      subst ek
      rw [List.getElem_append_right (Nat.le_refl _), rgA_adds (by omega), h2.1]
      simp
      rfl
  · unfold addsS
    rw [zu_i (by decide), zu_e rfl, h2.1]
    rfl
  · rw [addsS_a (by omega), h2.2.1]
    rfl
  · rw [addsS_a (by omega), h2.2.2 i i1 i2]
    unfold upC
    rw [if_neg (by omega)]
theorem t_trW {s : zS} {rn : Bx → Int} {st : Int → Int} {L : List Rg} {ct : Int → Int} {k : Nat} (h : mSt s rn st L ct) (hk : k < L.length) (hN : L.length ≤ 240) : mSt (trW s (k : Int)) rn st (L.set k (reW rn st (ct 9) (rgD L k))) ct := by
  obtain ⟨h1, h2, h3⟩ := h
  have g := h1.2 k hk
  rw [← rgD_eq hk] at g
  have o : ∀ a j, (a ≠ 147 ∨ j ≠ 121 + (k : Int)) → trW s (k : Int) a j = s a j := fun a j c => zu_c c
  refine ⟨mRs.set h1 (o 144 0 (Or.inl (by decide))) ?_ (fun t ht hne => rgA_mv (fun j _ _ => o 144 j (Or.inl (by decide))) (o 147 _ (by omega))), h2.mv (fun j _ _ => o 144 j (Or.inl (by decide))) (o 147 0 (by omega)), h3.mv (fun j _ _ => o 144 j (Or.inl (by decide)))⟩
  have gb : bxA s 144 (340 + 10 * (k : Int)) = (rgD L k).1 := by rw [← g]; rfl
  have gt : s 144 (349 + 10 * (k : Int)) = (rgD L k).2.2.2.1 := by rw [← g]; rfl
  have w1 : trW s (k : Int) 147 (121 + (k : Int)) = wtP rn st (ct 9) (rgD L k).1 (rgD L k).2.2.2.1 := by
    unfold trW
    rw [zu_e rfl, gb, gt, t_wgt h3, h2.2.1]
  have b : ∀ j, bxA (trW s (k : Int)) 144 j = bxA s 144 j := fun j => by
    unfold bxA
    rw [o 144 _ (Or.inl (by decide)), o 144 _ (Or.inl (by decide)), o 144 _ (Or.inl (by decide)), o 144 _ (Or.inl (by decide))]
  have e : rgA (trW s (k : Int)) (k : Int) = ((rgA s (k : Int)).1, (rgA s (k : Int)).2.1, (rgA s (k : Int)).2.2.1, (rgA s (k : Int)).2.2.2.1, trW s (k : Int) 147 (121 + (k : Int))) := by
    unfold rgA
    rw [b, b, o 144 _ (Or.inl (by decide)), o 144 _ (Or.inl (by decide))]
  rw [e, w1, g]
  rfl
theorem t_add {σ : zS} {rn : Bx → Int} {st : Int → Int} {L : List Rg} {ct : Int → Int} {p : Bx} (h : mSt σ rn st L ct) (hN : L.length ≤ 239) : mSt (trW (addsS σ (L.length : Int) p) (L.length : Int)) rn st (L ++ [newR rn st ct p]) (upC ct 8 (w32 (ct 8 + 1))) := by
  have h1 := t_adds (p := p) h hN
  have hl : (L ++ [((p, vdB, ct 8, 0, σ 147 (121 + (L.length : Int))) : Rg)]).length = L.length + 1 := by
    rw [List.length_append]
    rfl
  have h2 := t_trW (k := L.length) h1 (by rw [hl]; omega) (by rw [hl]; omega)
  have eq : (L ++ [((p, vdB, ct 8, 0, σ 147 (121 + (L.length : Int))) : Rg)]).set L.length (reW rn st (upC ct 8 (w32 (ct 8 + 1)) 9) (rgD (L ++ [((p, vdB, ct 8, 0, σ 147 (121 + (L.length : Int))) : Rg)]) L.length)) = L ++ [newR rn st ct p] := by
    have erg : rgD (L ++ [((p, vdB, ct 8, 0, σ 147 (121 + (L.length : Int))) : Rg)]) L.length = (p, vdB, ct 8, 0, σ 147 (121 + (L.length : Int))) := by
      rw [rgD_eq (by rw [hl]; omega), List.getElem_append_right (Nat.le_refl _)]
      simp
    rw [erg, List.set_append_right _ _ (Nat.le_refl _), Nat.sub_self]
    rfl
  rw [eq] at h2
  exact h2
theorem new_ok {rn : Bx → Int} {st : Int → Int} {ct : Int → Int} {p : Bx} (h : bOk p) : hOk (newR rn st ct p) := ⟨h, Or.inl (show vdB.1 < 0 by decide)⟩
theorem t_pieces {P : List Bx} {σ0 : zS} {rn : Bx → Int} {st : Int → Int} (okP : ∀ p ∈ P, bOk p) (hPP : P.Pairwise (fun a b => ¬ bMt a b)) (hlP : P.length ≤ 200) : ∀ (suf pre : List Bx) (n : Nat) (X : List Rg × (Int → Int)) (σ : zS), P = pre ++ suf → suf.length < n → frA σ0 σ → σ 143 10 = (P.length : Int) → lstA σ 150 P.length = P → RI σ X.1.length → mSt σ rn st X.1 X.2 → X.1.length ≤ 20 + pre.length → asc X.1 (X.2 8) → (∀ r ∈ X.1, hOk r) → (0 ≤ X.2 8 ∧ X.2 8 + (suf.length : Int) < 2147483648) → (∀ k : Nat, k < X.1.length → ∀ p ∈ suf, ¬ bMt (rgA σ (k : Int)).1 p) → ∃ s, g_m_queries_L112 n (pre.length : Int) σ = g_m_queries_L188 (if σ 144 15 = 1 then 1 else 0) s ∧ RI s (suf.foldl (pcP rn st) X).1.length ∧ mSt s rn st (suf.foldl (pcP rn st) X).1 (suf.foldl (pcP rn st) X).2 ∧ (suf.foldl (pcP rn st) X).1.length ≤ 20 + P.length ∧ asc (suf.foldl (pcP rn st) X).1 ((suf.foldl (pcP rn st) X).2 8) ∧ (∀ r ∈ (suf.foldl (pcP rn st) X).1, hOk r) ∧ (X.2 8 ≤ (suf.foldl (pcP rn st) X).2 8 ∧ (suf.foldl (pcP rn st) X).2 8 ≤ X.2 8 + (suf.length : Int))
  | _, _, 0, _, _, _, h, _, _, _, _, _, _, _, _, _, _ => absurd h (Nat.not_lt_zero _)
  | [], pre, n + 1, X, σ, h, _, hf, hM, _, hR, hS, hNp, ha, hk, _, _ => by
    rw [List.append_nil] at h
    subst h
    refine ⟨σ, ?_, hR, hS, hNp, ha, hk, Int.le_refl _, by rw [List.length_nil]; exact Int.le_add_of_nonneg_right (Int.le_refl _)⟩
    unfold g_m_queries_L112
    simp only [hM]
    rw [if_pos (by omega)]
    show (if σ 144 15 ≠ 1 then _ else _) = _
    by_cases c : σ 144 15 = 1
    · rw [if_neg (fun e => e c), if_pos c]
    · rw [if_pos c, if_neg c]
  | p :: suf, pre, n + 1, X, σ, h, hn, hf, hM, hP, hR, hS, hNp, ha, hk, h8, hd => by
    have hlen : P.length = pre.length + (suf.length + 1) := by rw [h, List.length_append, List.length_cons]
    have hp : bxA σ 150 (4 * (pre.length : Int)) = p := by
      have e1 := lstA_get (σ := σ) (a := 150) (n := P.length) (k := pre.length) (by omega)
      rw [hP] at e1
      have e2 : P[pre.length]? = some p := by rw [h, List.getElem?_append_right (Nat.le_refl _), Nat.sub_self]; rfl
      rw [e2] at e1
      exact (Option.some.inj e1).symm
    have okp : bOk p := okP p (by rw [h]; exact List.mem_append_right _ List.mem_cons_self)
    have hps : ∀ x ∈ suf, ¬ bMt p x := by
      rw [h] at hPP
      exact (List.pairwise_cons.mp (List.pairwise_append.mp hPP).2.1).1
    have hN := hS.1.1
    rw [List.length_cons] at h8
    rw [s_piece hM (by omega) (by omega) hN (by omega) hp n]
    have h' : P = (pre ++ [p]) ++ suf := by rw [h, List.append_assoc]; rfl
    have hn' : suf.length < n := by rw [List.length_cons] at hn; omega
    have ek : (pre ++ [p]).length = pre.length + 1 := by rw [List.length_append, List.length_singleton]
    have e17 : σ 144 17 = st 6 := hS.2.2.1 6 (by decide) (by decide)
    have sA := t_ask (p := p) hS (by omega)
    have a8 : askP rn st X.2 p 8 = X.2 8 := rfl
    have lc : (p :: suf).foldl (pcP rn st) X = suf.foldl (pcP rn st) (pcP rn st X p) := rfl
    rw [lc, List.length_cons]
    by_cases c : σ 144 17 < bArea p
    · rw [if_pos c]
      have ep : pcP rn st X p = (X.1, askP rn st X.2 p) := if_pos (by rw [← e17]; exact c)
      rw [ep]
      have := t_pieces (rn := rn) (st := st) okP hPP hlP suf (pre ++ [p]) n (X.1, askP rn st X.2 p) (askS σ (costN σ p)) h' hn' (hf.trans (fun a j k1 k2 => askS_a (by omega))) (by rw [askS_a (Or.inl (by decide))]; exact hM) (by
        rw [← hP, lstA_len]
        unfold lstA
        congr 1) (RI_of hR (fun k hk => by rw [rgA_ask (by omega)]; exact ⟨rfl, rfl⟩)) sA (by show X.1.length ≤ _; omega) ha hk (by show 0 ≤ X.2 8 ∧ X.2 8 + (suf.length : Int) < _; omega) (fun k hk x hx => by rw [rgA_ask (by omega)]; exact hd k hk x (List.mem_cons_of_mem _ hx))
      rw [ek, askS_a (by omega)] at this
      obtain ⟨s, q1, q2, q3, q4, q5, q6, q7, q8⟩ := this
      have q7 : X.2 8 ≤ _ := q7
      have q8 : _ ≤ X.2 8 + (suf.length : Int) := q8
      exact ⟨s, q1, q2, q3, q4, q5, q6, q7, by omega⟩
    · rw [if_neg c]
      have ep : pcP rn st X p = (X.1 ++ [newR rn st (askP rn st X.2 p) p], upC (askP rn st X.2 p) 8 (w32 (askP rn st X.2 p 8 + 1))) := if_neg (by rw [← e17]; exact c)
      rw [ep]
      have hR1 : RI (askS σ (costN σ p)) X.1.length := RI_of hR (fun k hk => by rw [rgA_ask (by omega)]; exact ⟨rfl, rfl⟩)
      have hR2 : RI (addsS (askS σ (costN σ p)) (X.1.length : Int) p) (X.1.length + 1) := RI_adds hR1 okp (fun k hk => by rw [rgA_ask (by omega)]; exact hd k hk p List.mem_cons_self)
      have wa : ∀ a j, (a ≠ 147 ∨ j ≠ 121 + (X.1.length : Int)) → trW (addsS (askS σ (costN σ p)) (X.1.length : Int) p) (X.1.length : Int) a j = addsS (askS σ (costN σ p)) (X.1.length : Int) p a j := fun a j h => zu_c h
      have fin : ∀ a j, (a ≠ 144 ∨ (4 ≤ j ∧ j < 340)) → (a ≠ 147 ∨ j < 121) → trW (addsS (askS σ (costN σ p)) (X.1.length : Int) p) (X.1.length : Int) a j = σ a j := fun a j k1 k2 => by
        rw [wa a j (by omega), addsS_a (by omega), askS_a (by omega)]
      have hl : (X.1 ++ [newR rn st (askP rn st X.2 p) p]).length = X.1.length + 1 := by
        rw [List.length_append]
        rfl
      have w8 : w32 (askP rn st X.2 p 8 + 1) = X.2 8 + 1 := by
        rw [a8]
        exact w32_id (by omega) (by omega)
      have u8 : upC (askP rn st X.2 p) 8 (w32 (askP rn st X.2 p 8 + 1)) 8 = X.2 8 + 1 := w8
      have := t_pieces (rn := rn) (st := st) okP hPP hlP suf (pre ++ [p]) n (X.1 ++ [newR rn st (askP rn st X.2 p) p], upC (askP rn st X.2 p) 8 (w32 (askP rn st X.2 p 8 + 1))) (trW (addsS (askS σ (costN σ p)) (X.1.length : Int) p) (X.1.length : Int)) h' hn' (hf.trans fin) (by rw [fin 143 10 (Or.inl (by decide)) (Or.inl (by decide))]; exact hM) (by
        rw [← hP, lstA_len]
        unfold lstA
        congr 1) (by
        show RI _ (X.1 ++ [newR rn st (askP rn st X.2 p) p]).length
        rw [hl]
        exact RI_of hR2 (fun k hk => rgA_w)) (t_add sA (by omega)) (by
        show (X.1 ++ [newR rn st (askP rn st X.2 p) p]).length ≤ _
        rw [hl]
        omega) (by
        show asc (X.1 ++ [newR rn st (askP rn st X.2 p) p]) (upC (askP rn st X.2 p) 8 (w32 (askP rn st X.2 p 8 + 1)) 8)
        rw [u8]
        exact asc.add ha rfl) (fun r hr => by
        rcases List.mem_append.mp hr with hr | hr
        · exact hk r hr
        · rw [List.mem_singleton] at hr
          rw [hr]
          exact new_ok okp) (by
        show 0 ≤ upC (askP rn st X.2 p) 8 (w32 (askP rn st X.2 p 8 + 1)) 8 ∧ upC (askP rn st X.2 p) 8 (w32 (askP rn st X.2 p 8 + 1)) 8 + (suf.length : Int) < _
        rw [u8]
        omega) (fun k hk x hx => by
        have hk : k < (X.1 ++ [newR rn st (askP rn st X.2 p) p]).length := hk
        rw [hl] at hk
        rw [rgA_w.1]
        by_cases ckN : k = X.1.length
        · subst ckN
          rw [rgA_adds (by omega)]
          exact hps x hx
        · rw [rgA_addo (by omega) (by omega) (by omega), rgA_ask (by omega)]
          exact hd k (by omega) x (List.mem_cons_of_mem _ hx))
      rw [ek, fin 144 15 (by omega) (Or.inl (by decide))] at this
      obtain ⟨s, q1, q2, q3, q4, q5, q6, q7, q8⟩ := this
      have q7 : upC (askP rn st X.2 p) 8 (w32 (askP rn st X.2 p 8 + 1)) 8 ≤ _ := q7
      have q8 : _ ≤ upC (askP rn st X.2 p) 8 (w32 (askP rn st X.2 p 8 + 1)) 8 + (suf.length : Int) := q8
      rw [u8] at q7 q8
      exact ⟨s, q1, q2, q3, q4, q5, q6, by omega, by omega⟩
theorem mHit_eq {σ : zS} {rn : Bx → Int} {st : Int → Int} {q : Bx} {r : Rg} (h : mKp σ rn st) : mHit σ q r = hitR rn st (σ 147 0) (bCom r.1 q) r := by
  unfold mHit
  rw [t_wgt h]
  rfl
theorem hit1_num {rn : Bx → Int} {st : Int → Int} {lev : Int} {q : Bx} (r : Rg) : (hit1 rn st lev q r).2.2.1 = r.2.2.1 := by
  unfold hit1
  by_cases c : bMt r.1 q
  · rw [if_pos c]
    rfl
  · rw [if_neg c]
/-- A QUERY of the reference, but for its answer -/
theorem t_queries {σ : zS} {rn : Bx → Int} {st : Int → Int} {L : List Rg} {ct : Int → Int} {q : Bx} (s1 : 0 ≤ st 1) (s2 : 0 ≤ st 2) (s4 : st 4 = 0 ∨ st 4 = 1) (s5 : st 5 = 0 ∨ st 5 = 1) (hR : RI σ L.length) (h : mSt σ rn st L ct) (hN2 : L.length ≤ 12) (hq : bOk q) (hb : bxA σ 152 0 = q) (ha : asc L (ct 8)) (h8 : 0 ≤ ct 8 ∧ ct 8 + 169 < 2147483648) : zP' (g_m_queries σ) (fun _ s => ∃ L' ct', srvR rn st q L ct L' ct' ∧ (∀ r ∈ L', hOk r) ∧ asc L' (ct' 8) ∧ (ct 8 ≤ ct' 8 ∧ ct' 8 ≤ ct 8 + 169) ∧ mSt s rn st L' ct') := by
  have hN := h.1.1
  obtain ⟨r1, r2⟩ := RI_rbx hR
  have hk : ∀ r ∈ L, hOk r := fun r hr => by
    obtain ⟨k, hk, rfl⟩ := List.getElem_of_mem hr
    have g := hR.1 k hk
    rw [h.1.2 k hk] at g
    exact ⟨g.1, g.2.imp id (fun x => x.1)⟩
  have erb : rbx σ L.length = L.map (fun r => r.1) := by
    refine List.ext_getElem (by rw [rbx_len, List.length_map]) (fun i h1 h2 => ?_)
    rw [rbx_len] at h1
    have e := rbx_get (σ := σ) (n := L.length) (k := i) h1
    rw [List.getElem?_eq_getElem (by rw [rbx_len]; exact h1)] at e
    rw [Option.some.inj e, List.getElem_map, ← h.1.2 i h1]
    rfl
  obtain ⟨s1', m1, m2, m3, m4⟩ := s_misses (σ := σ) (q := q) (rs := rbx σ L.length) hq hb r1 r2 (by rw [rbx_len]; exact hN2) (by rw [rbx_len]; exact hN) (by rw [rbx_len])
  have hinv := (bMissAll_inv hq (rbx σ L.length) r1 r2).1
  have h169 := bMissAll_169 hq r1 r2 (by rw [rbx_len]; exact hN2)
  generalize hP : bMissAll q (rbx σ L.length) = P at m3 m4 hinv h169
  have a1 : ∀ a j, a ≠ 150 → a ≠ 151 → (a ≠ 143 ∨ j ≠ 10) → s1' a j = σ a j := m2
  have e144 : ∀ j, s1' 144 j = σ 144 j := fun j => a1 144 j (by decide) (by decide) (Or.inl (by decide))
  have e147 : ∀ j, s1' 147 j = σ 147 j := fun j => a1 147 j (by decide) (by decide) (Or.inl (by decide))
  have hrg : ∀ k : Int, rgA s1' k = rgA σ k := fun k => rgA_mv (fun j _ _ => e144 j) (e147 _)
  have hN1 : s1' 144 0 = (L.length : Int) := (e144 0).trans hN
  have hb1 : bxA s1' 152 0 = q := (frM_bx m2 (by decide) (by decide) (by decide)).trans hb
  have k1 : mKp s1' rn st := h.2.2.mv (fun j _ _ => e144 j)
  have l1 : s1' 147 0 = ct 9 := (e147 0).trans h.2.1.2.1
  obtain ⟨s2', n1, n2, n3⟩ := s_hits hN1 (by omega) hb1 L.length 0 zK s1' (by omega) (by show _ < 1000000; omega) (fun _ _ _ _ _ => rfl) (fun t ht => by rw [if_neg (by omega)])
  have n2a : ∀ a j, a ≠ 153 → (a ≠ 144 ∨ j < 340) → (a ≠ 147 ∨ j < 121) → s2' a j = s1' a j := n2
  have hl2 : lstA s2' 150 P.length = P := by
    rw [← m4, lstA_len]
    unfold lstA
    congr 1
    funext k
    exact n2.bx (by decide) (by decide) (by decide)
  have hbx2 : ∀ k : Nat, k < L.length → (rgA s2' (k : Int)).1 = (rgA σ (k : Int)).1 := by
    intro k hk
    rw [n3 k hk, hrg]
    split <;> rfl
  have hR2 : RI s2' L.length := by
    refine ⟨fun k hk => ?_, fun k1 k2 h1 h2 => ?_⟩
    · rw [n3 k hk, hrg]
      by_cases c : bMt (rgA σ (k : Int)).1 q
      · rw [if_pos c]; exact mHit_ok (hR.1 k hk) hq c
      · rw [if_neg c]; exact hR.1 k hk
    · rw [hbx2 k1 (by omega), hbx2 k2 h2]
      exact hR.2 k1 k2 h1 h2
  have hlm : (L.map (hit1 rn st (ct 9) q)).length = L.length := List.length_map _
  have hS2 : mSt s2' rn st (L.map (hit1 rn st (ct 9) q)) ct := by
    refine ⟨⟨?_, fun k hk => ?_⟩, ⟨?_, ?_, fun i i1 i2 => ?_⟩, k1.mv (fun j _ _ => n2a 144 j (by decide) (by omega) (Or.inl (by decide)))⟩
    · rw [hlm, n2a 144 0 (by decide) (by omega) (Or.inl (by decide))]
      exact hN1
    · rw [hlm] at hk
      rw [List.getElem_map, n3 k hk, hrg, h.1.2 k hk, mHit_eq k1, l1]
      rfl
    · rw [n2a 144 1 (by decide) (by omega) (Or.inl (by decide)), e144]
      exact h.2.1.1
    · rw [n2a 147 0 (by decide) (by omega) (by omega)]
      exact l1
    · rw [n2a 144 _ (by decide) (by omega) (Or.inl (by decide)), e144]
      exact h.2.1.2.2 i i1 i2
  have hk2 : ∀ r ∈ L.map (hit1 rn st (ct 9) q), hOk r := fun r hr => by
    obtain ⟨x, hx, rfl⟩ := List.mem_map.mp hr
    exact hit1_ok hq (hk x hx)
  obtain ⟨s3', p1, p2, p3, p4, p5, p6, p7, p8⟩ := t_pieces (P := P) (σ0 := s2') (rn := rn) (st := st) (fun p hp => (hinv.1 p hp).1) (List.Pairwise.imp_of_mem (fun {a b} ha hb' hab => bSep_not (hinv.1 a ha).1 (hinv.1 b hb').1 hab) hinv.2) (by omega) P [] zK (L.map (hit1 rn st (ct 9) q), ct) s2' rfl (by show _ < 1000000; omega) (fun _ _ _ _ => rfl) ((n2 143 10 (by decide) (Or.inl (by decide)) (Or.inl (by decide))).trans m3) hl2 (by
    show RI s2' (L.map (hit1 rn st (ct 9) q)).length
    rw [hlm]
    exact hR2) hS2 (by
    show (L.map (hit1 rn st (ct 9) q)).length ≤ _
    rw [hlm]
    omega) (asc.map ha (fun r => hit1_num r)) hk2 (by
    show 0 ≤ ct 8 ∧ ct 8 + (P.length : Int) < _
    omega) (fun k hk p hp hm => by
    have hk : k < (L.map (hit1 rn st (ct 9) q)).length := hk
    rw [hlm] at hk
    rw [hbx2 k hk] at hm
    have hmem : (rgA σ (k : Int)).1 ∈ rbx σ L.length := List.mem_of_getElem? (rbx_get (σ := σ) hk)
    exact (hinv.1 p hp).2.2.2 _ hmem (bMt_comm hm))
  have eY : P.foldl (pcP rn st) (L.map (hit1 rn st (ct 9) q), ct) = srv1 rn st q L ct := by
    unfold srv1
    rw [← erb, hP]
  rw [eY] at p2 p3 p4 p5 p6 p7 p8
  have p7 : ct 8 ≤ (srv1 rn st q L ct).2 8 := p7
  have p8 : (srv1 rn st q L ct).2 8 ≤ ct 8 + (P.length : Int) := p8
  have e1 : g_m_queries σ = g_m_queries_L188 (if s2' 144 15 = 1 then 1 else 0) s3' := by
    unfold g_m_queries
    rw [m1]
    rw [Option.bind_some]
    try dsimp only
    exact n1.trans p1
  have e15 : s2' 144 15 = st 4 := hS2.2.2.1 4 (by decide) (by decide)
  rw [e1, e15]
  unfold g_m_queries_L188
  by_cases c : st 4 = 1
  · rw [if_pos c]
    refine (t_merges s1 s2 s5 zK _ _ s3' p2 p3 (by omega) p6 p5).imp (fun _ s p => ?_)
    obtain ⟨m1, L2, m2, L', ct', q1, q2, q3, q4, q5, q6⟩ := p
    refine ⟨L', ct', ⟨m1, m2, L2, ?_, q2⟩, q3, q4, by omega, q6⟩
    rw [if_neg (by omega)]
    exact q1
  · rw [if_neg c]
    refine (t_stop s1 s2 s5 p3 (by omega) p6 p5 zK).imp (fun _ s p => ?_)
    obtain ⟨m, L', ct', q1, q2, q3, q4, q5, q6⟩ := p
    refine ⟨L', ct', ⟨0, m, (srv1 rn st q L ct).1, ?_, ?_⟩, q2, q4, by omega, q6⟩
    · rw [if_pos (s4.resolve_right c)]
      exact ⟨rfl, rfl⟩
    · rw [up0]
      exact q1
end
section
/-! 8d.mwrite -/
/-! THE REFERENCE'S REGIONS: a write at a place -/
theorem mRs.last {σ s : zS} {L : List Rg} {r : Rg} (h : mRs σ L) (e0 : s 144 0 = (L.length : Int) + 1) (e1 : rgA s (L.length : Int) = r) (e2 : ∀ k : Nat, k < L.length → rgA s (k : Int) = rgA σ (k : Int)) : mRs s (L ++ [r]) := by
  refine ⟨?_, fun k hk => ?_⟩
  · rw [e0, List.length_append]
    show (L.length : Int) + 1 = ((L.length + 1 : Nat) : Int)
    omega
  · rw [List.length_append] at hk
    have hk : k < L.length + 1 := hk
    by_cases c : k < L.length
    · rw [List.getElem_append_left c, e2 k c]
      exact h.2 k c
    · have ek : k = L.length := by omega
      subst ek
      rw [List.getElem_append_right (Nat.le_refl _), e1]
      simp
theorem t_goes {σ : zS} {rn : Bx → Int} {st : Int → Int} {L : List Rg} {ct : Int → Int} {f : Nat} (h : mSt σ rn st L ct) (hf : f < L.length) (hN : L.length ≤ 239) : mSt (zu (gS2 σ (f : Int) (L.length : Int) 0) 144 0 ((L.length : Int) - 1)) rn st (L.eraseIdx f) ct ∧ (∀ a j, (a ≠ 144 ∨ (j ≠ 0 ∧ j < 340)) → (a ≠ 147 ∨ j < 121) → zu (gS2 σ (f : Int) (L.length : Int) 0) 144 0 ((L.length : Int) - 1) a j = σ a j) := by
  obtain ⟨h1, h2, h3⟩ := h
  have o : ∀ a j, (a ≠ 144 ∨ (j ≠ 0 ∧ j < 340)) → (a ≠ 147 ∨ j < 121) → zu (gS2 σ (f : Int) (L.length : Int) 0) 144 0 ((L.length : Int) - 1) a j = σ a j := fun a j k1 k2 => by
    rw [zu_c (by omega)]
    unfold gS2
    rw [if_neg (fun e => by omega), if_neg (fun e => by omega)]
  exact ⟨⟨mRs.er h1 hf (zu_e rfl) (fun k hk => rgA_gS2 (by omega) (by omega) (by omega) (by omega)), h2.mv (fun j j1 j2 => o 144 j (by omega) (Or.inl (by decide))) (o 147 0 (Or.inl (by decide)) (by omega)), h3.mv (fun j j1 j2 => o 144 j (by omega) (Or.inl (by decide)))⟩, o⟩
theorem t_cutS {s : zS} {rn : Bx → Int} {st : Int → Int} {L : List Rg} {ct : Int → Int} {p : Bx} {w : Int} (h : mSt s rn st L ct) (hN : L.length ≤ 239) : mSt (cutS s (L.length : Int) p w) rn st (L ++ [(p, vdB, ct 8, s 156 9, w)]) (upC ct 8 (w32 (ct 8 + 1))) := by
  obtain ⟨-, a2, a3⟩ := t_adds (p := p) h hN
  obtain ⟨h1, h2, h3⟩ := h
  have o : ∀ a j, (a ≠ 144 ∨ j ≠ 349 + 10 * (L.length : Int)) → (a ≠ 147 ∨ j ≠ 121 + (L.length : Int)) → cutS s (L.length : Int) p w a j = addsS s (L.length : Int) p a j := fun a j k1 k2 => by
    unfold cutS
    rw [zu_c k2, zu_c k1]
  have g := rgA_adds (σ := s) (k := (L.length : Int)) (b := p) (by omega)
  refine ⟨mRs.last h1 ?_ ?_ (fun k hk => ?_), a2.mv (fun j j1 j2 => o 144 j (by omega) (Or.inl (by decide))) (o 147 0 (Or.inl (by decide)) (by omega)), a3.mv (fun j j1 j2 => o 144 j (by omega) (Or.inl (by decide)))⟩
  · rw [o 144 0 (by omega) (Or.inl (by decide)), addsS_N (by omega) (by omega)]
  · have b : ∀ j, j + 4 ≤ 349 + 10 * (L.length : Int) → bxA (cutS s (L.length : Int) p w) 144 j = bxA (addsS s (L.length : Int) p) 144 j := fun j hj => by
      unfold bxA
      rw [o 144 _ (by omega) (Or.inl (by decide)), o 144 _ (by omega) (Or.inl (by decide)), o 144 _ (by omega) (Or.inl (by decide)), o 144 _ (by omega) (Or.inl (by decide))]
    have e : rgA (cutS s (L.length : Int) p w) (L.length : Int) = ((rgA (addsS s (L.length : Int) p) (L.length : Int)).1, (rgA (addsS s (L.length : Int) p) (L.length : Int)).2.1, (rgA (addsS s (L.length : Int) p) (L.length : Int)).2.2.1, s 156 9, w) := by
      unfold rgA
      rw [b _ (by omega), b _ (by omega), o 144 (348 + 10 * (L.length : Int)) (by omega) (Or.inl (by decide))]
      unfold cutS
      rw [zu_a (a := 147) (b := 144) (by decide), zu_e rfl, zu_e rfl]
    rw [e, g, h2.1]
    rfl
  · rw [rgA_mv (σ := addsS s (L.length : Int) p) (fun j j1 j2 => o 144 j (by omega) (Or.inl (by decide))) (o 147 _ (Or.inl (by decide)) (by omega))]
    exact rgA_addo (by omega) (by omega) (by omega)
theorem t_cutH {s : zS} {rn : Bx → Int} {st : Int → Int} {L : List Rg} {ct : Int → Int} {p g hb : Bx} {n t w : Int} (h : mSt s rn st (L ++ [(p, g, n, t, w)]) ct) (hN : L.length ≤ 239) : mSt (zb s 144 (344 + 10 * (L.length : Int)) hb) rn st (L ++ [(p, hb, n, t, w)]) ct := by
  obtain ⟨h1, h2, h3⟩ := h
  have hl : (L ++ [((p, g, n, t, w) : Rg)]).length = L.length + 1 := by
    rw [List.length_append]
    rfl
  have hl2 : (L ++ [((p, hb, n, t, w) : Rg)]).length = L.length + 1 := by
    rw [List.length_append]
    rfl
  refine ⟨⟨?_, fun k hk => ?_⟩, h2.mv (fun j j1 j2 => zb_i (by omega)) (zb_a (by decide)), h3.mv (fun j j1 j2 => zb_i (by omega))⟩
  · rw [zb_i (by omega), h1.1, hl, hl2]
  · rw [hl2] at hk
    have q := h1.2 k (by rw [hl]; exact hk)
    by_cases c : k < L.length
    · rw [List.getElem_append_left c] at q ⊢
      rw [rgA_mv (σ := s) (fun j j1 j2 => zb_i (by omega)) (zb_a (by decide))]
      exact q
    · have ek : k = L.length := by omega
      subst ek
      rw [List.getElem_append_right (Nat.le_refl _)] at q ⊢
      have e0 : ([((p, g, n, t, w) : Rg)])[L.length - L.length]'(by rw [Nat.sub_self]; exact Nat.one_pos) = (p, g, n, t, w) := by simp
      have e1 : ([((p, hb, n, t, w) : Rg)])[L.length - L.length]'(by rw [Nat.sub_self]; exact Nat.one_pos) = (p, hb, n, t, w) := by simp
      rw [e0] at q
      rw [e1]
      have q1 : bxA s 144 (340 + 10 * (L.length : Int)) = p := congrArg (fun r : Rg => r.1) q
      have q3 : s 144 (348 + 10 * (L.length : Int)) = n := congrArg (fun r : Rg => r.2.2.1) q
      have q4 : s 144 (349 + 10 * (L.length : Int)) = t := congrArg (fun r : Rg => r.2.2.2.1) q
      have q5 : s 147 (121 + (L.length : Int)) = w := congrArg (fun r : Rg => r.2.2.2.2) q
      unfold rgA
      rw [zb_bxi (by omega), zb_bx rfl, zb_i (by omega), zb_i (by omega), zb_a (by decide), q1, q3, q4, q5]
theorem t_cut86 {C : List Bx} {r : Rg} {rn : Bx → Int} {st : Int → Int} {X0 : List Rg × (Int → Int)} (hr : hOk r) (okC : ∀ p ∈ C, bOk p) (hlC : C.length ≤ 4) : ∀ (n k : Nat) (s : zS), k ≤ C.length → mSt s rn st ((C.take k).foldl (cutF r) X0).1 ((C.take k).foldl (cutF r) X0).2 → ((C.take k).foldl (cutF r) X0).1.length ≤ 100 + k → bxA s 156 4 = r.2.1 → s 156 9 = r.2.2.2.1 → (∀ (k : Nat) (hk : k < C.length), bxA s 151 (4 * (k : Int)) = C[k]) → zP' (g_m_cuts_L86 n r.2.2.2.2 (C.length : Int) (k : Int) s) (fun _ s' => mSt s' rn st (C.foldl (cutF r) X0).1 (C.foldl (cutF r) X0).2)
  | 0, _, _, _, _, _, _, _, _ => zP'.no
  | n + 1, k, s, hk, h, hl, hg, ht, hP => by
    have l151 : zLI 151 = 2400 := rfl
    have l156 : zLI 156 = 10 := rfl
    have l := l144
    unfold g_m_cuts_L86
    by_cases ck : (C.length : Int) ≤ (k : Int)
    · rw [if_pos ck]
      rw [List.take_of_length_le (by omega)] at h
      exact zP'.ret h
    · have hk' : k < C.length := by omega
      have okp := okC _ (List.getElem_mem hk')
      have hp := hP k hk'
      have et : (C.take (k + 1)).foldl (cutF r) X0 = cutF r ((C.take k).foldl (cutF r) X0) C[k] := by
        rw [List.take_succ_eq_append_getElem hk', List.foldl_append]
        rfl
      generalize hX : (C.take k).foldl (cutF r) X0 = X at h hl et
      generalize C[k] = p at okp hp et
      have hN := h.1.1
      have h1 := t_cutS (p := p) (w := r.2.2.2.2) h (by omega)
      rw [ht] at h1
      have hlA : (X.1 ++ [((p, cutH r.2.1 p, X.2 8, r.2.2.2.1, r.2.2.2.2) : Rg)]).length = X.1.length + 1 := by
        rw [List.length_append]
        rfl
      have go : ∀ s2 : zS, mSt s2 rn st (X.1 ++ [(p, cutH r.2.1 p, X.2 8, r.2.2.2.1, r.2.2.2.2)]) (upC X.2 8 (w32 (X.2 8 + 1))) → (∀ a j, a ≠ 144 → s2 a j = cutS s (X.1.length : Int) p r.2.2.2.2 a j) → zP' (g_m_cuts_L194 (g_m_cuts_L86 n) r.2.2.2.2 (C.length : Int) (k : Int) s2) (fun _ s' => mSt s' rn st (C.foldl (cutF r) X0).1 (C.foldl (cutF r) X0).2) := by
        intro s2 m2 f2
        have f3 : ∀ a j, a ≠ 144 → a ≠ 147 → s2 a j = s a j := fun a j k1 k2 => by
          rw [f2 a j k1, cutS_a (by omega) ⟨Or.inl k1, Or.inl k2⟩]
        have bx2 : ∀ (a : Nat) (j : Int), a ≠ 144 → a ≠ 147 → bxA s2 a j = bxA s a j := fun a j h1 h2 => by
          unfold bxA
          rw [f3 a _ h1 h2, f3 a _ h1 h2, f3 a _ h1 h2, f3 a _ h1 h2]
        unfold g_m_cuts_L194
        rw [w32_id (x := (k : Int) + 1) (by omega) (by omega), show (k : Int) + 1 = ((k + 1 : Nat) : Int) by omega]
        refine t_cut86 hr okC hlC n (k + 1) s2 (by omega) ?_ ?_ (by rw [bx2 156 4 (by decide) (by decide)]; exact hg) (by rw [f3 156 9 (by decide) (by decide)]; exact ht) (fun t ht => by rw [bx2 151 _ (by decide) (by decide)]; exact hP t ht)
        · rw [et]
          exact m2
        · rw [et]
          show (X.1 ++ [_]).length ≤ 100 + (k + 1)
          rw [List.length_append]
          show _ + 1 ≤ _
          omega
      rw [if_neg ck, w32_id (x := 4 * (k : Int)) (by omega) (by omega), s_adds (k := (X.1.length : Int)) hN (by omega) (by omega) (by omega) (by omega) (by omega), hp]
      rw [Option.bind_some]
      try dsimp only
      rw [s_region (by omega) (by omega)]
      rw [Option.bind_some]
      try dsimp only
      rw [w32_id (x := 340 + 10 * (X.1.length : Int) + 9) (by omega) (by omega), if_pos (by omega), w32_id (x := 121 + (X.1.length : Int)) (by omega) (by omega), if_pos (by omega), show 340 + 10 * (X.1.length : Int) + 9 = 349 + 10 * (X.1.length : Int) by omega]
      have e156 : addsS s (X.1.length : Int) p 156 9 = s 156 9 := addsS_a (Or.inl (by decide))
      rw [e156]
      show zP' (if cutS s (X.1.length : Int) p r.2.2.2.2 156 4 < 0 then g_m_cuts_L194 (g_m_cuts_L86 n) r.2.2.2.2 (C.length : Int) (k : Int) (cutS s (X.1.length : Int) p r.2.2.2.2) else (g_m_doMeet 156 151 4 (4 * (k : Int)) (cutS s (X.1.length : Int) p r.2.2.2.2)).bind _) _
      have e4 : cutS s (X.1.length : Int) p r.2.2.2.2 156 4 = r.2.1.1 := by
        rw [cutS_a (by omega) ⟨Or.inl (by decide), Or.inl (by decide)⟩, ← hg]
        rfl
      by_cases c1 : r.2.1.1 < 0
      · rw [if_pos (by rw [e4]; exact c1)]
        refine go _ ?_ (fun _ _ _ => rfl)
        unfold cutH
        rw [if_neg (fun hh => by omega)]
        exact h1
      · rw [if_neg (by rw [e4]; exact c1), s_doMeet (by omega) (by omega) (by omega) (by omega) (by omega) (by omega), cutS_bx (by decide) (by decide), cutS_bx (by decide) (by decide), hg, hp]
        rw [Option.bind_some]
        try dsimp only
        by_cases c2 : bMt r.2.1 p
        · rw [if_pos c2, if_neg (by decide), s_region (by omega) (by omega)]
          rw [Option.bind_some]
          try dsimp only
          rw [w32_id (x := 340 + 10 * (X.1.length : Int) + 4) (by omega) (by omega), s_commons (by omega) (by omega) (by omega) (by omega) (by omega) (by omega) (by omega) (by omega) (by omega), cutS_bx (by decide) (by decide), cutS_bx (by decide) (by decide), hg, hp, show 340 + 10 * (X.1.length : Int) + 4 = 344 + 10 * (X.1.length : Int) by omega]
          rw [Option.bind_some]
          try dsimp only
          refine go _ ?_ (fun a j hh => zb_a hh)
          unfold cutH
          rw [if_pos ⟨by omega, c2⟩]
          exact t_cutH h1 (by omega)
        · rw [if_neg c2, if_pos rfl]
          refine go _ ?_ (fun _ _ _ => rfl)
          unfold cutH
          rw [if_neg (fun hh => c2 hh.2)]
          exact h1
theorem rest_ok {r : Rg} {p : Bx} (hp : bOk p) (hr : hOk r) : (bRest r.1 p).length ≤ 4 ∧ ∀ c ∈ bRest r.1 p, bOk c := by
  refine ⟨?_, fun c hc => (bRest_sub hr.1 hp hc).1⟩
  have := bRest_len r.1 p
  refine Nat.le_trans this ?_
  split <;> split <;> split <;> omega
theorem t_cuts {σ : zS} {rn : Bx → Int} {st : Int → Int} {L : List Rg} {ct : Int → Int} {i : Nat} {x y : Int} (h : mSt σ rn st L ct) (hk : ∀ r ∈ L, hOk r) (hi : i < L.length) (hN2 : L.length ≤ 100) (hx : 0 ≤ x ∧ x ≤ 31) (hy : 0 ≤ y ∧ y ≤ 31) : zP' (g_m_cuts (i : Int) x y σ) (fun _ s => mSt s rn st ((bRest (rgD L i).1 (x, x, y, y)).foldl (cutF (rgD L i)) (L.eraseIdx i, ct)).1 ((bRest (rgD L i).1 (x, x, y, y)).foldl (cutF (rgD L i)) (L.eraseIdx i, ct)).2) := by
  have l156 : zLI 156 = 10 := rfl
  have l157 : zLI 157 = 4 := rfl
  have l151 : zLI 151 = 2400 := rfl
  have ok : hOk (rgD L i) := by
    rw [rgD_eq hi]
    exact hk _ (List.getElem_mem hi)
  have gr : rgA σ (i : Int) = rgD L i := by rw [h.1.2 i hi, rgD_eq hi]
  generalize rgD L i = r at ok gr
  obtain ⟨s1, e1, e2, e3⟩ := s_cut3 (σ := σ) (x := x) (y := y) hi hN2 10 0 zK σ (by omega) (by show _ < 1000000; omega) (fun _ _ _ => rfl) (fun t ht => absurd ht (Nat.not_lt_zero _))
  have h1 : mSt s1 rn st L ct := ⟨h.1.mv (fun j _ => e2 144 j (by decide)) (fun j _ _ => e2 147 j (by decide)) (by omega), h.2.1.mv (fun j _ _ => e2 144 j (by decide)) (e2 147 0 (by decide)), h.2.2.mv (fun j _ _ => e2 144 j (by decide))⟩
  obtain ⟨g1, g2⟩ := t_goes h1 hi (by omega)
  generalize hs2 : zu (gS2 s1 (i : Int) (L.length : Int) 0) 144 0 ((L.length : Int) - 1) = s2 at g1 g2
  have gb : bxA s1 156 0 = (rgA σ (i : Int)).1 := by
    have q := fun (t : Nat) (ht : t < 10) => e3 t ht
    show (s1 156 0, s1 156 (0 + 1), s1 156 (0 + 2), s1 156 (0 + 3)) = (σ 144 (340 + 10 * (i : Int)), σ 144 (340 + 10 * (i : Int) + 1), σ 144 (340 + 10 * (i : Int) + 2), σ 144 (340 + 10 * (i : Int) + 3))
    have q0 := q 0 (by decide)
    have q1 := q 1 (by decide)
    have q2 := q 2 (by decide)
    have q3 := q 3 (by decide)
    rw [show ((0 : Nat) : Int) = 0 from rfl, Int.add_zero] at q0
    rw [q0, show (0 : Int) + 1 = ((1 : Nat) : Int) from rfl, show (0 : Int) + 2 = ((2 : Nat) : Int) from rfl, show (0 : Int) + 3 = ((3 : Nat) : Int) from rfl, q1, q2, q3]
    rfl
  have gh : bxA s1 156 4 = (rgA σ (i : Int)).2.1 := by
    have q := fun (t : Nat) (ht : t < 10) => e3 t ht
    have q4 := q 4 (by decide)
    have q5 := q 5 (by decide)
    have q6 := q 6 (by decide)
    have q7 := q 7 (by decide)
    show (s1 156 4, s1 156 (4 + 1), s1 156 (4 + 2), s1 156 (4 + 3)) = (σ 144 (344 + 10 * (i : Int)), σ 144 (344 + 10 * (i : Int) + 1), σ 144 (344 + 10 * (i : Int) + 2), σ 144 (344 + 10 * (i : Int) + 3))
    rw [show (4 : Int) + 1 = ((5 : Nat) : Int) from rfl, show (4 : Int) + 2 = ((6 : Nat) : Int) from rfl, show (4 : Int) + 3 = ((7 : Nat) : Int) from rfl, show s1 156 4 = s1 156 ((4 : Nat) : Int) from rfl, q4, q5, q6, q7]
    rw [show 340 + 10 * (i : Int) + ((4 : Nat) : Int) = 344 + 10 * (i : Int) by omega, show 340 + 10 * (i : Int) + ((5 : Nat) : Int) = 344 + 10 * (i : Int) + 1 by omega, show 340 + 10 * (i : Int) + ((6 : Nat) : Int) = 344 + 10 * (i : Int) + 2 by omega, show 340 + 10 * (i : Int) + ((7 : Nat) : Int) = 344 + 10 * (i : Int) + 3 by omega]
  have gt : s1 156 9 = r.2.2.2.1 := by
    have q9 := e3 9 (by decide)
    rw [show s1 156 9 = s1 156 ((9 : Nat) : Int) from rfl, q9, ← gr, show 340 + 10 * (i : Int) + ((9 : Nat) : Int) = 349 + 10 * (i : Int) by omega]
    rfl
  have gw : s1 147 (121 + (i : Int)) = r.2.2.2.2 := by
    rw [e2 147 _ (by decide), ← gr]
    rfl
  rw [gr] at gb gh
  have okp : bOk (x, x, y, y) := ⟨hx.1, Int.le_refl _, hx.2, hy.1, Int.le_refl _, hy.2⟩
  have s2b : ∀ a j, a ≠ 144 → a ≠ 147 → bxA s2 a j = bxA s1 a j := fun a j h1 h2 => by
    unfold bxA
    rw [g2 a _ (Or.inl h1) (Or.inl h2), g2 a _ (Or.inl h1) (Or.inl h2), g2 a _ (Or.inl h1) (Or.inl h2), g2 a _ (Or.inl h1) (Or.inl h2)]
  generalize hs3 : zb s2 157 0 (x, x, y, y) = s3
  have b3 : bxA s3 156 0 = r.1 := by rw [← hs3, zb_bxa (by decide), s2b _ _ (by decide) (by decide)]; exact gb
  have p3 : bxA s3 157 0 = (x, x, y, y) := by rw [← hs3]; exact zb_bx rfl
  have h3' : bxA s3 156 4 = r.2.1 := by rw [← hs3, zb_bxa (by decide), s2b _ _ (by decide) (by decide)]; exact gh
  have t3 : s3 156 9 = r.2.2.2.1 := by rw [← hs3, zb_a (by decide), g2 156 9 (Or.inl (by decide)) (Or.inl (by decide))]; exact gt
  obtain ⟨hlC, okC⟩ := rest_ok (r := r) okp ok
  generalize hC : bRest r.1 (x, x, y, y) = C at hlC okC
  have hl : (L.eraseIdx i).length = L.length - 1 := List.length_eraseIdx_of_lt hi
  have e1' : g_m_cuts (i : Int) x y σ = g_m_cuts_L3 1 (i : Int) x y 10 s1 := e1
  rw [e1']
  unfold g_m_cuts_L3
  rw [if_pos (by decide), w32_id (x := 121 + (i : Int)) (by omega) (by omega), if_pos (by omega), s_goes hi h1.1.1 (by omega), hs2, gw]
  rw [Option.bind_some]
  try dsimp only
  rw [s_sets (by omega) (by omega) (by omega), hs3]
  rw [Option.bind_some]
  try dsimp only
  rw [s_rests (by rw [b3]; exact ok.1) (by rw [p3]; exact okp) (by decide) (by decide) (by omega) (by omega) (by omega) (by omega) (by omega) (by omega) (by omega) (by omega) (by omega), b3, p3, hC]
  rw [Option.bind_some]
  try dsimp only
  have z : ∀ j, zbs 151 s3 0 C 144 j = s2 144 j := fun j => by rw [zbs_fr _ _ _ _ _ (Or.inl (by decide)), ← hs3, zb_a (by decide)]
  have z7 : ∀ j, zbs 151 s3 0 C 147 j = s2 147 j := fun j => by rw [zbs_fr _ _ _ _ _ (Or.inl (by decide)), ← hs3, zb_a (by decide)]
  have W := t_cut86 (C := C) (r := r) (rn := rn) (st := st) (X0 := (L.eraseIdx i, ct)) ok okC hlC zK 0 (zbs 151 s3 0 C) (Nat.zero_le _) ⟨g1.1.mv (fun j _ => z j) (fun j _ _ => z7 j) (by omega), g1.2.1.mv (fun j _ _ => z j) (z7 0), g1.2.2.mv (fun j _ _ => z j)⟩ (by show (L.eraseIdx i).length ≤ 100 + 0; omega) (by rw [zbs_bx (Or.inl (by decide))]; exact h3') (by rw [zbs_fr _ _ _ _ _ (Or.inl (by decide))]; exact t3) (fun k hk => by
      have := zbs_get (t := 151) C s3 0 k hk
      rw [Int.zero_add] at this
      exact this)
  exact W
theorem t_writes2 {σ : zS} {rn : Bx → Int} {st : Int → Int} {L : List Rg} {ct : Int → Int} {x y : Int} (h : mSt σ rn st L ct) (hk : ∀ r ∈ L, hOk r) (hN2 : L.length ≤ 100) (hx : 0 ≤ x ∧ x ≤ 31) (hy : 0 ≤ y ∧ y ≤ 31) (s3 : 0 ≤ st 3 ∧ st 3 ≤ 2) : ∀ (n k : Nat), k ≤ L.length → (∀ j (hj : j < L.length), j < k → ¬ bMt L[j].1 (x, x, y, y)) → zP' (g_m_writes_L2 n x y (k : Int) σ) (fun _ s => ∃ X, wrR st L ct (x, x, y, y) X ∧ mSt s rn st X.1 X.2)
  | 0, _, _, _ => zP'.no
  | n + 1, k, hkl, hno => by
    have l := l144
    have hN := h.1.1
    unfold g_m_writes_L2
    simp only [hN]
    by_cases ck : (L.length : Int) ≤ (k : Int)
    · rw [if_pos ck]
      exact zP'.ret ⟨(L, ct), Or.inl ⟨fun i hi => by
        obtain ⟨a, b, -⟩ := hi
        exact hno i a (by omega) b, rfl⟩, h⟩
    · have hkN : k < L.length := by omega
      have gb : bxA σ 144 (340 + 10 * (k : Int)) = L[k].1 := by rw [← h.1.2 k hkN]; rfl
      rw [if_neg ck, s_region (by omega) (by omega)]
      rw [Option.bind_some]
      try dsimp only
      rw [s_has (by omega) (by omega) (by omega), gb]
      rw [Option.bind_some]
      try dsimp only
      by_cases c : bIn L[k].1 x y
      · rw [if_pos c, if_pos (by decide)]
        have hF : mtF L (x, x, y, y) k := ⟨hkN, c, fun j hj hjk => hno j hj hjk⟩
        have e7 : σ 144 7 = ct 15 := h.2.1.2.2 15 (by decide) (by decide)
        have h1 : mSt (zu σ 144 7 (w32 (σ 144 7 + 1))) rn st L (upC ct 15 (w32 (ct 15 + 1))) := by
          rw [e7]
          exact ⟨h.1.mv (fun j _ => zu_i (by omega)) (fun j _ _ => zu_a (by decide)) (by omega), h.2.1.up (by decide) (by decide), h.2.2.mv (fun j _ _ => zu_i (by omega))⟩
        generalize hs1 : zu σ 144 7 (w32 (σ 144 7 + 1)) = s1
        rw [hs1] at h1
        have e14 : s1 144 14 = st 3 := h1.2.2.1 3 (by decide) (by decide)
        show zP' (if s1 144 14 ≠ 1 then g_m_writes_L62 x y (k : Int) s1 else (g_m_goes (k : Int) s1).bind _) _
        rw [e14]
        by_cases c1 : st 3 = 1
        · obtain ⟨g1, g2⟩ := t_goes h1 hkN (by omega)
          rw [if_neg (fun e => e c1), s_goes hkN h1.1.1 (by omega)]
          rw [Option.bind_some]
          try dsimp only
          unfold g_m_writes_L62
          have e14 : zu (gS2 s1 (k : Int) (L.length : Int) 0) 144 0 ((L.length : Int) - 1) 144 14 = 1 := by rw [g2 144 14 (by omega) (Or.inl (by decide)), e14]; exact c1
          simp only [e14]
          rw [if_pos (by decide)]
          refine zP'.ret ⟨_, Or.inr ⟨k, hF, rfl⟩, ?_⟩
          unfold wrI
          rw [if_neg (by omega), if_pos c1]
          exact g1
        · rw [if_pos c1]
          unfold g_m_writes_L62
          show zP' (if s1 144 14 ≠ 2 then _ else _) _
          rw [e14]
          by_cases c2 : st 3 = 2
          · rw [if_neg (fun e => e c2)]
            refine zP'.bind (t_cuts h1 hk hkN hN2 hx hy) (fun _ s p => ?_)
            refine zP'.ret ⟨_, Or.inr ⟨k, hF, rfl⟩, ?_⟩
            unfold wrI
            rw [if_neg (by omega), if_neg c1]
            exact p
          · rw [if_pos c2]
            refine zP'.ret ⟨_, Or.inr ⟨k, hF, rfl⟩, ?_⟩
            unfold wrI
            rw [if_pos (by omega)]
            exact h1
      · rw [if_neg c, if_neg (by decide), w32_id (x := (k : Int) + 1) (by omega) (by omega), show (k : Int) + 1 = ((k + 1 : Nat) : Int) by omega]
        refine t_writes2 h hk hN2 hx hy s3 n (k + 1) (by omega) (fun j hj hjk => ?_)
        by_cases cj : j = k
        · subst cj
          exact c
        · exact hno j hj (by omega)
theorem t_writes {σ : zS} {rn : Bx → Int} {st : Int → Int} {L : List Rg} {ct : Int → Int} {x y : Int} (h : mSt σ rn st L ct) (hk : ∀ r ∈ L, hOk r) (hN2 : L.length ≤ 100) (hx : 0 ≤ x ∧ x ≤ 31) (hy : 0 ≤ y ∧ y ≤ 31) (s3 : 0 ≤ st 3 ∧ st 3 ≤ 2) : zP' (g_m_writes x y σ) (fun _ s => ∃ X, wrR st L ct (x, x, y, y) X ∧ mSt s rn st X.1 X.2) := t_writes2 h hk hN2 hx hy s3 zK 0 (Nat.zero_le _) (fun _ _ h => absurd h (Nat.not_lt_zero _))
/-- what cutting leaves of order and boxes -/
theorem cut_all {r : Rg} (hr : hOk r) : ∀ (C : List Bx) (X : List Rg × (Int → Int)), (∀ p ∈ C, bOk p) → asc X.1 (X.2 8) → (∀ q ∈ X.1, hOk q) → (0 ≤ X.2 8 ∧ X.2 8 + (C.length : Int) < 2147483648) → asc (C.foldl (cutF r) X).1 ((C.foldl (cutF r) X).2 8) ∧ (∀ q ∈ (C.foldl (cutF r) X).1, hOk q) ∧ (C.foldl (cutF r) X).1.length = X.1.length + C.length ∧ X.2 8 ≤ (C.foldl (cutF r) X).2 8 ∧ (C.foldl (cutF r) X).2 8 ≤ X.2 8 + (C.length : Int)
  | [], X, _, ha, hk, _ => ⟨ha, hk, rfl, Int.le_refl _, by rw [List.length_nil]; exact Int.le_add_of_nonneg_right (Int.le_refl _)⟩
  | p :: C, X, okC, ha, hk, h8 => by
    rw [List.length_cons] at h8 ⊢
    have w8 : w32 (X.2 8 + 1) = X.2 8 + 1 := w32_id (by omega) (by omega)
    have u8 : (cutF r X p).2 8 = X.2 8 + 1 := w8
    have okp := okC p List.mem_cons_self
    have hl : (cutF r X p).1.length = X.1.length + 1 := by
      show (X.1 ++ [_]).length = _
      rw [List.length_append]
      rfl
    obtain ⟨a1, a2, a3, a4, a5⟩ := cut_all hr C (cutF r X p) (fun q hq => okC q (List.mem_cons_of_mem _ hq)) (by
      rw [u8]
      exact asc.add ha rfl) (fun q hq => by
      rcases List.mem_append.mp (show q ∈ X.1 ++ [_] from hq) with hq | hq
      · exact hk q hq
      · rw [List.mem_singleton] at hq
        rw [hq]
        refine ⟨okp, ?_⟩
        show (cutH r.2.1 p).1 < 0 ∨ bOk (cutH r.2.1 p)
        unfold cutH
        by_cases c : 0 ≤ r.2.1.1 ∧ bMt r.2.1 p
        · rw [if_pos c]
          exact Or.inr (bCom_ok (hr.2.resolve_left (by omega)) okp c.2).1
        · rw [if_neg c]
          exact Or.inl (show vdB.1 < 0 by decide)) (by rw [u8]; omega)
    rw [u8] at a4 a5
    rw [hl] at a3
    have e : (p :: C).foldl (cutF r) X = C.foldl (cutF r) (cutF r X p) := rfl
    rw [e]
    exact ⟨a1, a2, by omega, by omega, by omega⟩
theorem wr_all {st : Int → Int} {L : List Rg} {ct : Int → Int} {p : Bx} {X : List Rg × (Int → Int)} (hp : bOk p) (hk : ∀ r ∈ L, hOk r) (ha : asc L (ct 8)) (h8 : 0 ≤ ct 8 ∧ ct 8 + 4 < 2147483648) (h : wrR st L ct p X) : asc X.1 (X.2 8) ∧ (∀ q ∈ X.1, hOk q) ∧ X.1.length ≤ L.length + 3 ∧ ct 8 ≤ X.2 8 ∧ X.2 8 ≤ ct 8 + 4 := by
  rcases h with ⟨-, rfl⟩ | ⟨i, hF, rfl⟩
  · exact ⟨ha, hk, Nat.le_add_right _ _, Int.le_refl _, by show ct 8 ≤ _; omega⟩
  · have hi := hF.1
    have hl : (L.eraseIdx i).length = L.length - 1 := List.length_eraseIdx_of_lt hi
    unfold wrI
    by_cases c0 : st 3 = 0
    · rw [if_pos c0]
      exact ⟨ha, hk, Nat.le_add_right _ _, Int.le_refl _, by show ct 8 ≤ _; omega⟩
    · rw [if_neg c0]
      by_cases c1 : st 3 = 1
      · rw [if_pos c1]
        exact ⟨asc.er ha i, fun q hq => hk q (List.mem_of_mem_eraseIdx hq), by show (L.eraseIdx i).length ≤ _; omega, Int.le_refl _, by show ct 8 ≤ _; omega⟩
      · rw [if_neg c1]
        have ok : hOk (rgD L i) := by
          rw [rgD_eq hi]
          exact hk _ (List.getElem_mem hi)
        obtain ⟨r1, r2⟩ := rest_ok hp ok
        have c := cut_all ok (bRest (rgD L i).1 p) (L.eraseIdx i, upC ct 15 (w32 (ct 15 + 1))) r2 (asc.er ha i) (fun q hq => hk q (List.mem_of_mem_eraseIdx hq)) (by show 0 ≤ ct 8 ∧ ct 8 + _ < _; omega)
        obtain ⟨a1, a2, a3, a4, a5⟩ := c
        have a3 : _ = (L.eraseIdx i).length + _ := a3
        have a4 : ct 8 ≤ _ := a4
        have a5 : _ ≤ ct 8 + _ := a5
        exact ⟨a1, a2, by omega, a4, by omega⟩
end
section
/-! 8da.gok -/
/-! THE REGIONS alike: a HOT that is none is the void box, hits stay small, numbers are none below 0 -/
def gk (r : Rg) : Prop := (r.2.1 = vdB ∨ 0 ≤ r.2.1.1) ∧ (0 ≤ r.2.2.2.1 ∧ r.2.2.2.1 ≤ 9999) ∧ 0 ≤ r.2.2.1
def gL (L : List Rg) : Prop := ∀ r ∈ L, gk r
theorem gL.nil : gL [] := fun r h => absurd h List.not_mem_nil
theorem gL.del {L : List Rg} {i : Nat} (h : gL L) : gL (L.eraseIdx i) := fun r k => h r (List.mem_of_mem_eraseIdx k)
theorem gL.set {L : List Rg} {i : Nat} {x : Rg} (h : gL L) (hx : gk x) : gL (L.set i x) := fun r k => by
  rcases List.mem_or_eq_of_mem_set k with k | rfl
  · exact h r k
  · exact hx
theorem gL.app {L : List Rg} {x : Rg} (h : gL L) (hx : gk x) : gL (L ++ [x]) := fun r k => by
  rcases List.mem_append.mp k with k | k
  · exact h r k
  · rw [List.mem_singleton.mp k]
    exact hx
theorem gk_0 : gk (vdB, vdB, 0, 0, 0) := ⟨Or.inl rfl, by decide, by decide⟩
theorem vd1 : vdB.1 < 0 := by decide
theorem zmn_h {x : Int} (h : 0 ≤ x ∧ x < 100000) : 0 ≤ zmn 9999 (w32 x) ∧ zmn 9999 (w32 x) ≤ 9999 := by
  rw [w32_id (by omega) (by omega)]
  unfold zmn
  split <;> omega
theorem bAro_1 {a b : Bx} (h : 0 ≤ b.1) : 0 ≤ (bAro a b).1 := by
  by_cases c : 0 ≤ a.1
  · rw [bAro_pos c]
    have := @zmn_le a.1 b.1
    show 0 ≤ zmn a.1 b.1
    omega
  · rw [bAro_neg c]
    exact h
theorem gk_hit {rn : Bx → Int} {st : Int → Int} {lev : Int} {q : Bx} {r : Rg} (hq : 0 ≤ q.1) (h : gk r) : gk (hit1 rn st lev q r) := by
  unfold hit1
  by_cases c : bMt r.1 q
  · rw [if_pos c]
    refine ⟨Or.inr (bAro_1 ?_), zmn_h (x := r.2.2.2.1 + 1) ⟨by have := h.2.1.1; omega, by have := h.2.1.2; omega⟩, h.2.2⟩
    have := @zmx_le r.1.1 q.1
    show 0 ≤ zmx r.1.1 q.1
    omega
  · rw [if_neg c]
    exact h
theorem gk_join {r s : Rg} (h1 : gk r) (h2 : gk s) : gk (mJoin r s) := by
  refine ⟨?_, zmn_h (x := r.2.2.2.1 + s.2.2.2.1) ⟨by have := h1.2.1.1; have := h2.2.1.1; omega, by have := h1.2.1.2; have := h2.2.1.2; omega⟩, h1.2.2⟩
  show (if s.2.1.1 < 0 then r.2.1 else bAro r.2.1 s.2.1) = vdB ∨ 0 ≤ (if s.2.1.1 < 0 then r.2.1 else bAro r.2.1 s.2.1).1
  by_cases c : s.2.1.1 < 0
  · rw [if_pos c]
    exact h1.1
  · rw [if_neg c]
    exact Or.inr (bAro_1 (by omega))
theorem gk_new {rn : Bx → Int} {st : Int → Int} {ct : Int → Int} {b : Bx} (h : 0 ≤ ct 8) : gk (newR rn st ct b) := ⟨Or.inl rfl, ⟨Int.le_refl 0, by show (0 : Int) ≤ 9999; decide⟩, h⟩
theorem gk_sh {rn : Bx → Int} {st : Int → Int} {lev : Int} {r : Rg} (h : gk r) : gk (shR rn st lev r) := by
  have a := h.2.1.1
  have b := h.2.1.2
  have e : w32 (Int.tdiv r.2.2.2.1 2) = r.2.2.2.1 / 2 := by
    rw [Int.tdiv_eq_ediv_of_nonneg a, w32_id (by omega) (by omega)]
  refine ⟨Or.inl rfl, ⟨?_, ?_⟩, h.2.2⟩
  · show 0 ≤ w32 (Int.tdiv r.2.2.2.1 2)
    rw [e]
    omega
  · show w32 (Int.tdiv r.2.2.2.1 2) ≤ 9999
    rw [e]
    omega
theorem gL_D {L : List Rg} {i : Nat} (h : gL L) : gk (rgD L i) := by
  by_cases c : i < L.length
  · rw [rgD_eq c]
    exact h _ (List.getElem_mem c)
  · unfold rgD
    rw [List.getElem?_eq_none (by omega)]
    exact gk_0
theorem gL_jnR {L : List Rg} {i j : Nat} (h : gL L) : gk (jnR L i j) := by
  by_cases c : i < L.length ∧ j < L.length
  · rw [jnR_eq c.1 c.2]
    exact gk_join (h _ (List.getElem_mem c.1)) (h _ (List.getElem_mem c.2))
  · unfold jnR
    by_cases d : i < L.length
    · rw [List.getElem?_eq_none (l := L) (i := j) (by omega), List.getElem?_eq_getElem d]
      exact gk_0
    · rw [List.getElem?_eq_none (l := L) (i := i) (by omega)]
      exact gk_0
theorem gL_MGn : ∀ (m : Nat) {L L' : List Rg}, MGn m L L' → gL L → gL L'
  | 0, _, _, h, g => by
    rw [h.2]
    exact g
  | m + 1, L, L', h, g => by
    obtain ⟨i, j, -, h⟩ := h
    exact gL_MGn m h ((g.set (gL_jnR g)).del)
theorem upC_8 {ct : Int → Int} {i v : Int} (h : i ≠ 8) : upC ct i v 8 = ct 8 := if_neg (fun e => h e.symm)
theorem upC_e {ct : Int → Int} {i v : Int} : upC ct i v i = v := if_pos rfl
theorem lv_8 {ct : Int → Int} {w : Int} : lvP ct w 8 = ct 8 := upC_8 (by decide)
theorem ask_8 {rn : Bx → Int} {st : Int → Int} {ct : Int → Int} {b : Bx} : askP rn st ct b 8 = ct 8 := (upC_8 (by decide)).trans (upC_8 (by decide))
theorem gL_gv {rn : Bx → Int} {st : Int → Int} {X : List Rg × (Int → Int)} {l : Nat} (g : gL X.1) : gL (gvP rn st X l).1 ∧ (gvP rn st X l).2 8 = X.2 8 := by
  unfold gvP
  by_cases c : canS st (rgD X.1 l)
  · rw [if_pos c]
    refine ⟨g.set (gk_sh (gL_D g)), ?_⟩
    show upC (lvP X.2 (rgD X.1 l).2.2.2.2) 13 (w32 (X.2 13 + 1)) 8 = X.2 8
    rw [upC_8 (by decide), lv_8]
  · rw [if_neg c]
    refine ⟨g.del, ?_⟩
    show upC (lvP X.2 (rgD X.1 l).2.2.2.2) 12 (w32 (X.2 12 + 1)) 8 = X.2 8
    rw [upC_8 (by decide), lv_8]
theorem gL_TMn {rn : Bx → Int} {st : Int → Int} : ∀ (m : Nat) {X Y : List Rg × (Int → Int)}, TMn rn st m X Y → gL X.1 → gL Y.1 ∧ Y.2 8 = X.2 8 ∧ (Y.1.length : Int) ≤ st 2
  | 0, _, _, h, g => by
    obtain ⟨h1, rfl⟩ := h
    exact ⟨g, rfl, by unfold tooM at h1; omega⟩
  | m + 1, X, Y, h, g => by
    obtain ⟨-, l, -, h⟩ := h
    obtain ⟨a, b⟩ := gL_gv (rn := rn) (st := st) (l := l) g
    obtain ⟨c, d, e⟩ := gL_TMn m h a
    exact ⟨c, d.trans b, e⟩
theorem gL_pc {rn : Bx → Int} {st : Int → Int} : ∀ (l : List Bx) {X : List Rg × (Int → Int)}, gL X.1 → 0 ≤ X.2 8 → X.2 8 + (l.length : Int) < 2147483648 → gL (l.foldl (pcP rn st) X).1 ∧ X.2 8 ≤ (l.foldl (pcP rn st) X).2 8 ∧ (l.foldl (pcP rn st) X).2 8 ≤ X.2 8 + (l.length : Int)
  | [], X, g, h0, _ => ⟨g, Int.le_refl _, by show X.2 8 ≤ X.2 8 + 0; omega⟩
  | p :: l, X, g, h0, hl => by
    rw [List.length_cons] at hl ⊢
    have key : gL (pcP rn st X p).1 ∧ X.2 8 ≤ (pcP rn st X p).2 8 ∧ (pcP rn st X p).2 8 ≤ X.2 8 + 1 := by
      unfold pcP
      by_cases c : st 6 < bArea p
      · rw [if_pos c]
        refine ⟨g, ?_⟩
        show X.2 8 ≤ askP rn st X.2 p 8 ∧ askP rn st X.2 p 8 ≤ X.2 8 + 1
        rw [ask_8]
        omega
      · rw [if_neg c]
        refine ⟨g.app (gk_new (by rw [ask_8]; exact h0)), ?_⟩
        show X.2 8 ≤ upC (askP rn st X.2 p) 8 (w32 (askP rn st X.2 p 8 + 1)) 8 ∧ upC (askP rn st X.2 p) 8 (w32 (askP rn st X.2 p 8 + 1)) 8 ≤ X.2 8 + 1
        rw [upC_e, ask_8, w32_id (by omega) (by omega)]
        omega
    obtain ⟨k1, k2, k3⟩ := key
    obtain ⟨r1, r2, r3⟩ := gL_pc l (X := pcP rn st X p) k1 (by omega) (by omega)
    exact ⟨r1, Int.le_trans k2 r2, by show _ ≤ _; have r3' : (List.foldl (pcP rn st) (pcP rn st X p) l).2 8 ≤ (pcP rn st X p).2 8 + (l.length : Int) := r3; exact Int.le_trans r3' (by omega)⟩
theorem rest_4 (a b : Bx) : (bRest a b).length ≤ 4 := by
  have h := bRest_len a b
  refine Nat.le_trans h ?_
  split <;> split <;> split <;> omega
theorem miss_4 (r : Bx) : ∀ ps : List Bx, (bMiss ps r).length ≤ 4 * ps.length
  | [] => Nat.le_refl 0
  | p :: ps => by
    have h := miss_4 r ps
    have h4 := rest_4 p r
    have e : bMiss (p :: ps) r = bRest p r ++ bMiss ps r := rfl
    rw [e, List.length_append, List.length_cons]
    omega
theorem missAll_4 : ∀ (rs ps : List Bx), (rs.foldl bMiss ps).length ≤ 4 ^ rs.length * ps.length
  | [], ps => by
    show ps.length ≤ 1 * ps.length
    omega
  | r :: rs, ps => by
    have h := missAll_4 rs (bMiss ps r)
    have h4 := miss_4 r ps
    have e : (r :: rs).foldl bMiss ps = rs.foldl bMiss (bMiss ps r) := rfl
    rw [e, List.length_cons, Nat.pow_succ, Nat.mul_assoc]
    exact Nat.le_trans h (Nat.mul_le_mul_left _ h4)
theorem missAll_24 {q : Bx} {rs : List Bx} (h : rs.length ≤ 12) : (bMissAll q rs).length ≤ 16777216 := by
  have h1 := missAll_4 rs [q]
  have h2 : 4 ^ rs.length ≤ 4 ^ 12 := Nat.pow_le_pow_right (by decide) h
  have h3 : (4 : Nat) ^ 12 = 16777216 := by decide
  have h4 : ([q] : List Bx).length = 1 := rfl
  rw [h4, Nat.mul_one] at h1
  unfold bMissAll
  omega
theorem gL_srv {rn : Bx → Int} {st : Int → Int} {q : Bx} {L L' : List Rg} {ct ct' : Int → Int} (h : srvR rn st q L ct L' ct') (hq : 0 ≤ q.1) (s2 : st 2 ≤ 12) (hL : L.length ≤ 12) (h8 : 0 ≤ ct 8 ∧ ct 8 + 16777216 < 2147483648) (g : gL L) : gL L' ∧ L'.length ≤ 12 ∧ ct 8 ≤ ct' 8 ∧ ct' 8 ≤ ct 8 + 16777216 := by
  obtain ⟨m1, m2, L2, h1, h2⟩ := h
  have hb := missAll_24 (q := q) (rs := L.map (fun r => r.1)) (by rw [List.length_map]; exact hL)
  have g1 : gL (srv1 rn st q L ct).1 ∧ ct 8 ≤ (srv1 rn st q L ct).2 8 ∧ (srv1 rn st q L ct).2 8 ≤ ct 8 + ((bMissAll q (L.map (fun r => r.1))).length : Int) := by
    refine gL_pc (rn := rn) (st := st) (bMissAll q (L.map (fun r => r.1))) (X := (L.map (hit1 rn st (ct 9) q), ct)) (fun r k => ?_) h8.1 (by show ct 8 + _ < _; omega)
    obtain ⟨r0, k0, rfl⟩ := List.mem_map.mp k
    exact gk_hit hq (g r0 k0)
  have g2 : gL L2 := by
    by_cases c : st 4 = 0
    · rw [if_pos c] at h1
      rw [h1.2]
      exact g1.1
    · rw [if_neg c] at h1
      exact gL_MGn m1 h1 g1.1
  obtain ⟨a, b, c⟩ := gL_TMn m2 h2 g2
  have b : ct' 8 = upC (srv1 rn st q L ct).2 14 (bmp m1 ((srv1 rn st q L ct).2 14)) 8 := b
  rw [upC_8 (by decide)] at b
  have c : (L'.length : Int) ≤ st 2 := c
  exact ⟨a, by omega, by omega, by omega⟩
theorem gk_cut {r : Rg} {c : Bx} {n : Int} (h : gk r) (hn : 0 ≤ n) : gk (c, cutH r.2.1 c, n, r.2.2.2.1, r.2.2.2.2) := by
  refine ⟨?_, h.2.1, hn⟩
  show cutH r.2.1 c = vdB ∨ 0 ≤ (cutH r.2.1 c).1
  unfold cutH
  by_cases d : 0 ≤ r.2.1.1 ∧ bMt r.2.1 c
  · rw [if_pos d]
    refine Or.inr ?_
    have := @zmx_le r.2.1.1 c.1
    show 0 ≤ zmx r.2.1.1 c.1
    omega
  · rw [if_neg d]
    exact Or.inl rfl
theorem gL_cut {r : Rg} (h : gk r) : ∀ (l : List Bx) {X : List Rg × (Int → Int)}, gL X.1 → 0 ≤ X.2 8 → X.2 8 + (l.length : Int) < 2147483648 → gL (l.foldl (cutF r) X).1 ∧ X.2 8 ≤ (l.foldl (cutF r) X).2 8 ∧ (l.foldl (cutF r) X).2 8 ≤ X.2 8 + (l.length : Int)
  | [], X, g, _, _ => ⟨g, Int.le_refl _, by show X.2 8 ≤ X.2 8 + 0; omega⟩
  | p :: l, X, g, h0, hl => by
    rw [List.length_cons] at hl ⊢
    have e : (cutF r X p).2 8 = X.2 8 + 1 := by
      show upC X.2 8 (w32 (X.2 8 + 1)) 8 = _
      rw [upC_e, w32_id (by omega) (by omega)]
    obtain ⟨r1, r2, r3⟩ := gL_cut h l (X := cutF r X p) (g.app (gk_cut h h0)) (by omega) (by omega)
    rw [e] at r2 r3
    exact ⟨r1, Int.le_trans (by omega) r2, Int.le_trans r3 (by omega)⟩
theorem gL_wr {st : Int → Int} {L : List Rg} {ct : Int → Int} {p : Bx} {X : List Rg × (Int → Int)} (h : wrR st L ct p X) (h8 : 0 ≤ ct 8 ∧ ct 8 ≤ 2100000000) (g : gL L) : gL X.1 ∧ ct 8 ≤ X.2 8 ∧ X.2 8 ≤ ct 8 + 4 := by
  rcases h with ⟨-, rfl⟩ | ⟨i, -, rfl⟩
  · exact ⟨g, Int.le_refl _, by show ct 8 ≤ ct 8 + 4; omega⟩
  · unfold wrI
    have e : upC ct 15 (w32 (ct 15 + 1)) 8 = ct 8 := upC_8 (by decide)
    by_cases c : st 3 = 0
    · rw [if_pos c]
      refine ⟨g, ?_⟩
      show ct 8 ≤ upC ct 15 (w32 (ct 15 + 1)) 8 ∧ upC ct 15 (w32 (ct 15 + 1)) 8 ≤ ct 8 + 4
      rw [e]
      omega
    · rw [if_neg c]
      by_cases d : st 3 = 1
      · rw [if_pos d]
        refine ⟨g.del, ?_⟩
        show ct 8 ≤ upC ct 15 (w32 (ct 15 + 1)) 8 ∧ upC ct 15 (w32 (ct 15 + 1)) 8 ≤ ct 8 + 4
        rw [e]
        omega
      · rw [if_neg d]
        have h4 := rest_4 (rgD L i).1 p
        obtain ⟨a, b, c⟩ := gL_cut (gL_D g (i := i)) (bRest (rgD L i).1 p) (X := (L.eraseIdx i, upC ct 15 (w32 (ct 15 + 1)))) g.del (by show 0 ≤ upC ct 15 (w32 (ct 15 + 1)) 8; rw [e]; exact h8.1) (by show upC ct 15 (w32 (ct 15 + 1)) 8 + _ < _; rw [e]; omega)
        have b : upC ct 15 (w32 (ct 15 + 1)) 8 ≤ _ := b
        have c : _ ≤ upC ct 15 (w32 (ct 15 + 1)) 8 + _ := c
        rw [e] at b c
        exact ⟨a, b, Int.le_trans c (by omega)⟩
end
section
/-! 8e.rgc -/
/-! THE REGIONS alike: what stands between the calls -/
def stB (σ : zS) (a : Nat) : Prop := ((0 ≤ σ a 3 ∧ σ a 3 ≤ 2) ∧ (σ a 4 = 0 ∨ σ a 4 = 1) ∧ (σ a 5 = 0 ∨ σ a 5 = 1)) ∧ (0 ≤ σ a 0 ∧ σ a 0 ≤ 99)
def RG1 (K : Int) (σ s : zS) (c : Nat) : Prop := ∃ (L : List Rg) (ct : Int → Int), cRs σ c L ∧ (∀ i : Int, 8 ≤ i → i ≤ 15 → σ c i = ct i) ∧ mRs s L ∧ mCt s ct ∧ asc L (ct 8) ∧ (0 ≤ ct 8 ∧ ct 8 ≤ K) ∧ L.length ≤ 12 ∧ gL L
def RGp (K : Int) (σ : zS) : Prop := RG1 K σ σ 48 ∧ stB σ 50 ∧ (σ 143 6 ≠ 0 → RG1 K σ (imgS σ) 81 ∧ stB σ 83)
theorem RG1.mono {K K' : Int} {σ s : zS} {c : Nat} (h : RG1 K σ s c) (e : K ≤ K') : RG1 K' σ s c := by
  obtain ⟨L, ct, h1, h2, h3, h4, h5, h6, h7⟩ := h
  exact ⟨L, ct, h1, h2, h3, h4, h5, ⟨h6.1, by omega⟩, h7⟩
theorem RGp.mono {K K' : Int} {σ : zS} (h : RGp K σ) (e : K ≤ K') : RGp K' σ := ⟨h.1.mono e, h.2.1, fun k => ⟨(h.2.2 k).1.mono e, (h.2.2 k).2⟩⟩
theorem RG1.cp {K : Int} {σ s σ' s' : zS} {c c' : Nat} (h : RG1 K σ s c) (e2 : σ' c' 2 = σ c 2) (e8 : ∀ i : Int, 8 ≤ i → i ≤ 15 → σ' c' i = σ c i) (e : ∀ f : Nat, 3 ≤ f → f ≤ 7 → ∀ j : Int, 0 ≤ j → j < 181 → σ' (c' + f) j = σ (c + f) j) (em : ∀ j : Int, (0 ≤ j ∧ j < 8) ∨ (340 ≤ j ∧ j < 2740) → s' 144 j = s 144 j) (ew : ∀ j : Int, j = 0 ∨ (121 ≤ j ∧ j < 361) → s' 147 j = s 147 j) : RG1 K σ' s' c' := by
  obtain ⟨L, ct, h1, h2, h3, h4, h5, h6, h7⟩ := h
  refine ⟨L, ct, ⟨e2.trans h1.1, fun k hk => ?_⟩, fun i i1 i2 => (e8 i i1 i2).trans (h2 i i1 i2), h3.mv (fun j k => em j (by omega)) (fun j j1 j2 => ew j (by omega)) (by omega), h4.mv (fun j j1 j2 => em j (by omega)) (ew 0 (by omega)), h5, h6, h7⟩
  have g := h1.2 k hk
  unfold cRg at *
  rw [e 4 (by decide) (by decide) _ (by omega) (by omega), e 6 (by decide) (by decide) _ (by omega) (by omega), e 3 (by decide) (by decide) _ (by omega) (by omega), e 5 (by decide) (by decide) _ (by omega) (by omega), e 7 (by decide) (by decide) _ (by omega) (by omega)]
  exact g
theorem stB.mv {σ s : zS} {a b : Nat} (h : stB σ a) (e : ∀ j : Int, 0 ≤ j → j < 7 → s b j = σ a j) : stB s b := by
  unfold stB at *
  rw [e 3 (by decide) (by decide), e 4 (by decide) (by decide), e 5 (by decide) (by decide), e 0 (by decide) (by decide)]
  exact h
theorem imgS_a (σ : zS) (j : Int) : imgS σ 144 j = σ 145 j := rfl
theorem imgS_w (σ : zS) (j : Int) : imgS σ 147 j = σ 148 j := rfl
theorem RGp_keep {K : Int} {σ s : zS} (h : RGp K σ) (e : ∀ a j, ((a = 48 ∨ (50 ≤ a ∧ a ≤ 55) ∨ a = 81 ∨ (83 ≤ a ∧ a ≤ 88)) ∨ (a = 144 ∧ ((0 ≤ j ∧ j < 8) ∨ (340 ≤ j ∧ j < 2740))) ∨ (a = 147 ∧ (j = 0 ∨ (121 ≤ j ∧ j < 361))) ∨ a = 145 ∨ a = 148 ∨ (a = 143 ∧ j = 6)) → s a j = σ a j) : RGp K s := by
  have e8 : ∀ i : Int, 8 ≤ i → i ≤ 15 → s 48 i = σ 48 i := fun i i1 i2 => e 48 i (Or.inl (by decide))
  have e81 : ∀ i : Int, 8 ≤ i → i ≤ 15 → s 81 i = σ 81 i := fun i i1 i2 => e 81 i (Or.inl (by decide))
  refine ⟨h.1.cp (e 48 2 (Or.inl (by decide))) e8 (fun f f1 f2 j j1 j2 => e (48 + f) j (Or.inl (by omega))) (fun j k => e 144 j (Or.inr (by omega))) (fun j k => e 147 j (Or.inr (by omega))), h.2.1.mv (fun j _ _ => e 50 j (Or.inl (by decide))), fun k => ?_⟩
  rw [e 143 6 (Or.inr (by omega))] at k
  obtain ⟨h1, h2⟩ := h.2.2 k
  exact ⟨h1.cp (e 81 2 (Or.inl (by decide))) e81 (fun f f1 f2 j j1 j2 => e (81 + f) j (Or.inl (by omega))) (fun j k => e 145 j (Or.inr (by omega))) (fun j k => e 148 j (Or.inr (by omega))), h2.mv (fun j _ _ => e 83 j (Or.inl (by decide)))⟩
end
section
/-! 8f.rgF -/
/-! COMPONENT Rg: RGp is kept by every call that does not touch it (printed by wip/zc.py) -/
def KRg (a : Nat) (j : Int) : Prop := (a = 48 ∨ (50 ≤ a ∧ a ≤ 55) ∨ a = 81 ∨ (83 ≤ a ∧ a ≤ 88)) ∨ (a = 144 ∧ ((0 ≤ j ∧ j < 8) ∨ (340 ≤ j ∧ j < 2740))) ∨ (a = 147 ∧ (j = 0 ∨ (121 ≤ j ∧ j < 361))) ∨ a = 145 ∨ a = 148 ∨ (a = 143 ∧ j = 6)
def cFRg (F : Nat → Int → Bool) : Prop := ∀ j : Int, F 48 j = false ∧ F 50 j = false ∧ F 51 j = false ∧ F 52 j = false ∧ F 53 j = false ∧ F 54 j = false ∧ F 55 j = false ∧ F 81 j = false ∧ F 83 j = false ∧ F 84 j = false ∧ F 85 j = false ∧ F 86 j = false ∧ F 87 j = false ∧ F 88 j = false
theorem hcRg {F : Nat → Int → Bool} {σ : zS} {c : Option (Int × zS)} {P : Int → zS → Prop} (hc : zO c (fun v s => CI s ∧ fr F σ s ∧ P v s)) (f : cFRg F) : zP' c (fun _ s1 => ∀ a j, (KRg a j ∨ (143 ≤ a ∧ a < 168)) → s1 a j = σ a j) := (zP'.of hc).imp (fun v s p a j k => by
  have G := p.2.1
  rcases k with k | k
  · unfold KRg at k
    obtain ⟨h0, h1, h2, h3, h4, h5, h6, h7, h8, h9, h10, h11, h12, h13⟩ := f j
    by_cases ca : 143 ≤ a
    · exact G _ _ (Or.inl (by omega))
    · have cs : a = 48 ∨ a = 50 ∨ a = 51 ∨ a = 52 ∨ a = 53 ∨ a = 54 ∨ a = 55 ∨ a = 81 ∨ a = 83 ∨ a = 84 ∨ a = 85 ∨ a = 86 ∨ a = 87 ∨ a = 88 := by omega
      rcases cs with rfl | rfl | rfl | rfl | rfl | rfl | rfl | rfl | rfl | rfl | rfl | rfl | rfl | rfl
      · exact G _ _ (Or.inr h0)
      · exact G _ _ (Or.inr h1)
      · exact G _ _ (Or.inr h2)
      · exact G _ _ (Or.inr h3)
      · exact G _ _ (Or.inr h4)
      · exact G _ _ (Or.inr h5)
      · exact G _ _ (Or.inr h6)
      · exact G _ _ (Or.inr h7)
      · exact G _ _ (Or.inr h8)
      · exact G _ _ (Or.inr h9)
      · exact G _ _ (Or.inr h10)
      · exact G _ _ (Or.inr h11)
      · exact G _ _ (Or.inr h12)
      · exact G _ _ (Or.inr h13)
  · exact G _ _ (Or.inl k))
theorem hpRg {σ : zS} {c : Option (Int × zS)} {P : Int → Prop} (hc : zOp c σ P) : zP' c (fun _ s1 => ∀ a j, (KRg a j ∨ (143 ≤ a ∧ a < 168)) → s1 a j = σ a j) := fun v s e => by
  obtain ⟨v0, e0, -⟩ := hc
  rw [e0] at e
  cases e
  exact fun _ _ _ => rfl
theorem hmRg {m : zS → Option (Int × zS)} (h : ∀ s, MI s → ∃ w, m s = some (w, s)) : ∀ s, MI s → zP' (m s) (fun _ s2 => ∀ a j, KRg a j → s2 a j = s a j) := fun s hs v t e => by
  obtain ⟨w, e0⟩ := h s hs
  rw [e0] at e
  cases e
  exact fun _ _ _ => rfl
def InvR (K : Int) (σ : zS) : Prop := InvS σ ∧ RGp K σ
theorem liftRg {K : Int} {σ : zS} {c : Option (Int × zS)} {m : zS → Option (Int × zS)} {Q : Int → Int → zS → Prop} (I : InvR K σ) (o : two c m (fun v w s => InvS s ∧ Q v w s)) (hc : zP' c (fun _ s1 => ∀ a j, (KRg a j ∨ (143 ≤ a ∧ a < 168)) → s1 a j = σ a j)) (hm : ∀ s, MI s → zP' (m s) (fun _ s2 => ∀ a j, KRg a j → s2 a j = s a j)) : two c m (fun v w s => InvR K s ∧ Q v w s) := by
  obtain ⟨v, s1, e1, w, s2, e2, J, q⟩ := o
  have h1 := hc v s1 e1
  have M1 : MI s1 := MI_cls ((fun (s : zS) (h : InvS s) => h.1.1) σ I.1).1.2.1 (fun a j k1 k2 => h1 a j (Or.inr ⟨k1, k2⟩))
  have h2 := hm s1 M1 w s2 e2
  exact ⟨v, s1, e1, w, s2, e2, ⟨J, RGp_keep I.2 (fun a j k => (h2 a j k).trans (h1 a j (Or.inl k)))⟩, q⟩
theorem qr_row {K : Int} {a b : Int} {σ : zS} (I : InvR K σ) : two (g_c_row a b σ) (g_m_row a b) (fun v w s => InvR K s ∧ v = w) := liftRg I (qs_row I.1) (hpRg (g_c_row_sp ((fun (s : zS) (h : InvS s) => h.1.1) σ I.1).1.1)) (hmRg (fun _ _ => m_row))
theorem qr_worth {K : Int} {a : Int} {σ : zS} (I : InvR K σ) : two (g_c_worth a σ) (g_m_worth a) (fun v w s => InvR K s ∧ v = w) := liftRg I (qs_worth I.1) (hpRg (g_c_worth_sp ((fun (s : zS) (h : InvS s) => h.1.1) σ I.1).1.1)) (hmRg (fun _ _ => m_worth))
theorem qr_feed {K : Int} {a : Int} {σ : zS} (I : InvR K σ) : two (g_c_feed a σ) (g_m_feed a) (fun v w s => InvR K s ∧ v = w) := liftRg I (qs_feed I.1) (hcRg (g_c_feed_sp ((fun (s : zS) (h : InvS s) => h.1.1) σ I.1).1.1) (fun _ => ⟨rfl, rfl, rfl, rfl, rfl, rfl, rfl, rfl, rfl, rfl, rfl, rfl, rfl, rfl⟩)) (fun s h => (f_feed h).imp (fun _ t g a j k => g a j (by unfold KRg at k; omega) (by unfold KRg at k; omega)))
theorem qr_clear {K : Int} {σ : zS} (I : InvR K σ) : two (g_c_clear σ) g_m_clear (fun v w s => InvR K s ∧ v = w) := liftRg I (qs_clear I.1) (hcRg (g_c_clear_sp ((fun (s : zS) (h : InvS s) => h.1.1) σ I.1).1.1) (fun _ => ⟨rfl, rfl, rfl, rfl, rfl, rfl, rfl, rfl, rfl, rfl, rfl, rfl, rfl, rfl⟩)) (fun s h => (f_clear h).imp (fun _ t g a j k => g a j (by unfold KRg at k; omega)))
theorem qr_setting {K : Int} {a : Int} {σ : zS} (I : InvR K σ) : two (g_c_setting a σ) (g_m_setting a) (fun v w s => InvR K s ∧ v = w) := liftRg I (qs_setting I.1) (hpRg (g_c_setting_sp ((fun (s : zS) (h : InvS s) => h.1.1) σ I.1).1.1)) (hmRg (fun _ _ => m_setting))
theorem qr_answer {K : Int} {a : Int} {σ : zS} (I : InvR K σ) : two (g_c_answer a σ) (g_m_answer a) (fun _ _ s => InvR K s) := ft2 (liftRg I (tt2 (qs_answer I.1)) (hpRg (g_c_answer_sp ((fun (s : zS) (h : InvS s) => h.1.1) σ I.1).1.1)) (hmRg (fun _ h => m_answer h)))
theorem qr_spell {K : Int} {σ : zS} (I : InvR K σ) : two (g_c_spell σ) g_m_spell (fun _ _ s => InvR K s) := ft2 (liftRg I (tt2 (qs_spell I.1)) (hcRg (g_c_spell_sp ((fun (s : zS) (h : InvS s) => h.1.1) σ I.1).1.1) (fun _ => ⟨rfl, rfl, rfl, rfl, rfl, rfl, rfl, rfl, rfl, rfl, rfl, rfl, rfl, rfl⟩)) (fun s h => (f_spell h).imp (fun _ t g a j k => g a j (by unfold KRg at k; omega) (by unfold KRg at k; omega))))
theorem qr_explain {K : Int} {a b c d : Int} {σ : zS} (I : InvR K σ) : two (g_c_explain a b c d σ) (g_m_explain a b c d) (fun _ _ s => InvR K s) := ft2 (liftRg I (tt2 (qs_explain I.1)) (hcRg (g_c_explain_sp ((fun (s : zS) (h : InvS s) => h.1.1) σ I.1).1.1) (fun _ => ⟨rfl, rfl, rfl, rfl, rfl, rfl, rfl, rfl, rfl, rfl, rfl, rfl, rfl, rfl⟩)) (fun s h => (f_explain h).imp (fun _ t g a j k => g a j (by unfold KRg at k; omega) (by unfold KRg at k; omega) (by unfold KRg at k; omega) (by unfold KRg at k; omega) (by unfold KRg at k; omega) (by unfold KRg at k; omega))))
theorem qr_paper {K : Int} {a : Int} {σ : zS} (I : InvR K σ) : two (g_c_paper a σ) (g_m_paper a) (fun _ _ s => InvR K s) := ft2 (liftRg I (tt2 (qs_paper I.1)) (hpRg (g_c_paper_sp ((fun (s : zS) (h : InvS s) => h.1.1) σ I.1).1.1)) (hmRg (fun _ h => m_paper h)))
theorem qr_find {K : Int} {a : Int} {σ : zS} (I : InvR K σ) : two (g_c_find a σ) (g_m_find a) (fun _ _ s => InvR K s) := ft2 (liftRg I (tt2 (qs_find I.1)) (hpRg (g_c_find_sp ((fun (s : zS) (h : InvS s) => h.1.1) σ I.1).1.1)) (hmRg (fun _ h => m_find h)))
theorem qr_probe {K : Int} {a b c d : Int} {σ : zS} (I : InvR K σ) : two (g_c_probe a b c d σ) (g_m_probe a b c d) (fun _ _ s => InvR K s) := ft2 (liftRg I (tt2 (qs_probe I.1)) (hcRg (g_c_probe_sp ((fun (s : zS) (h : InvS s) => h.1.1) σ I.1).1.1) (fun _ => ⟨rfl, rfl, rfl, rfl, rfl, rfl, rfl, rfl, rfl, rfl, rfl, rfl, rfl, rfl⟩)) (fun s h => (f_probe h).imp (fun _ t g a j k => g a j (by unfold KRg at k; omega) (by unfold KRg at k; omega) (by unfold KRg at k; omega) (by unfold KRg at k; omega) (by unfold KRg at k; omega))))
theorem qr_piece {K : Int} {a b : Int} {σ : zS} (I : InvR K σ) : two (g_c_piece a b σ) (g_m_piece a b) (fun _ _ s => InvR K s) := ft2 (liftRg I (tt2 (qs_piece I.1)) (hpRg (g_c_piece_sp ((fun (s : zS) (h : InvS s) => h.1.1) σ I.1).1.1)) (hmRg (fun _ h => m_piece h)))
theorem qr_region {K : Int} {a b : Int} {σ : zS} (I : InvR K σ) : two (g_c_region a b σ) (g_m_region_248 a b) (fun _ _ s => InvR K s) := ft2 (liftRg I (tt2 (qs_region I.1)) (hpRg (g_c_region_sp ((fun (s : zS) (h : InvS s) => h.1.1) σ I.1).1.1)) (hmRg (fun _ h => m_region h)))
theorem qr_weight {K : Int} {a : Int} {σ : zS} (I : InvR K σ) : two (g_c_weight a σ) (g_m_weight a) (fun _ _ s => InvR K s) := ft2 (liftRg I (tt2 (qs_weight I.1)) (hpRg (g_c_weight_sp ((fun (s : zS) (h : InvS s) => h.1.1) σ I.1).1.1)) (hmRg (fun _ h => m_weight h)))
theorem qr_told {K : Int} {a : Int} {σ : zS} (I : InvR K σ) : two (g_c_told a σ) (g_m_told a) (fun _ _ s => InvR K s) := ft2 (liftRg I (tt2 (qs_told I.1)) (hpRg (g_c_told_sp ((fun (s : zS) (h : InvS s) => h.1.1) σ I.1).1.1)) (hmRg (fun _ h => m_told h)))
theorem qr_keep {K : Int} {a : Int} {σ : zS} (I : InvR K σ) : two (g_c_keep a σ) (g_m_keep a) (fun _ _ s => InvR K s) := ft2 (liftRg I (tt2 (qs_keep I.1)) (hpRg (g_c_keep_sp ((fun (s : zS) (h : InvS s) => h.1.1) σ I.1).1.1)) (hmRg (fun _ h => m_keep h)))
theorem qr_trace {K : Int} {a b c d : Int} {σ : zS} (I : InvR K σ) : two (g_c_trace a b c d σ) (g_m_trace a b c d) (fun v w s => InvR K s ∧ v = w) := liftRg I (qs_trace I.1) (hcRg (g_c_trace_sp ((fun (s : zS) (h : InvS s) => h.1.1) σ I.1).1.1) (fun _ => ⟨rfl, rfl, rfl, rfl, rfl, rfl, rfl, rfl, rfl, rfl, rfl, rfl, rfl, rfl⟩)) (fun s h => (f_trace h).imp (fun _ t g a j k => g a j (by unfold KRg at k; omega)))
theorem qr_again {K : Int} {a b : Int} {σ : zS} (I : InvR K σ) : two (g_c_again a b σ) (g_m_again a b) (fun _ _ s => InvR K s) := ft2 (liftRg I (tt2 (qs_again I.1)) (hcRg (g_c_again_sp ((fun (s : zS) (h : InvS s) => h.1.1) σ I.1).1.1) (fun _ => ⟨rfl, rfl, rfl, rfl, rfl, rfl, rfl, rfl, rfl, rfl, rfl, rfl, rfl, rfl⟩)) (fun s h => (f_again h).imp (fun _ t g a j k => g a j (by unfold KRg at k; omega) (by unfold KRg at k; omega) (by unfold KRg at k; omega) (by unfold KRg at k; omega) (by unfold KRg at k; omega) (by unfold KRg at k; omega) (by unfold KRg at k; omega) (by unfold KRg at k; omega) (by unfold KRg at k; omega))))
theorem qr_least {K : Int} {a : Int} {σ : zS} (I : InvR K σ) : two (g_c_least a σ) (g_m_least a) (fun _ _ s => InvR K s) := ft2 (liftRg I (tt2 (qs_least I.1)) (hcRg (g_c_least_sp ((fun (s : zS) (h : InvS s) => h.1.1) σ I.1).1.1) (fun _ => ⟨rfl, rfl, rfl, rfl, rfl, rfl, rfl, rfl, rfl, rfl, rfl, rfl, rfl, rfl⟩)) (fun s h => (f_least h).imp (fun _ t g a j k => g a j (by unfold KRg at k; omega) (by unfold KRg at k; omega) (by unfold KRg at k; omega) (by unfold KRg at k; omega) (by unfold KRg at k; omega) (by unfold KRg at k; omega) (by unfold KRg at k; omega) (by unfold KRg at k; omega) (by unfold KRg at k; omega))))
theorem qr_watch {K : Int} {a b c d e : Int} {σ : zS} (I : InvR K σ) : two (g_c_watch a b c d e σ) (g_m_watch a b c d e) (fun v w s => InvR K s ∧ v = w) := liftRg I (qs_watch I.1) (hcRg (g_c_watch_sp ((fun (s : zS) (h : InvS s) => h.1.1) σ I.1).1.1) (fun _ => ⟨rfl, rfl, rfl, rfl, rfl, rfl, rfl, rfl, rfl, rfl, rfl, rfl, rfl, rfl⟩)) (fun s h => (f_watch h).imp (fun _ t g a j k => g a j (by unfold KRg at k; omega)))
theorem qr_value {K : Int} {a : Int} {σ : zS} (I : InvR K σ) : two (g_c_value a σ) (g_m_value a) (fun v w s => InvR K s ∧ v = w) := liftRg I (qs_value I.1) (hcRg (g_c_value_sp ((fun (s : zS) (h : InvS s) => h.1.1) σ I.1).1.1) (fun _ => ⟨rfl, rfl, rfl, rfl, rfl, rfl, rfl, rfl, rfl, rfl, rfl, rfl, rfl, rfl⟩)) (fun s h => (f_value h).imp (fun _ t g a j k => g a j (by unfold KRg at k; omega) (by unfold KRg at k; omega) (by unfold KRg at k; omega)))
theorem qr_changes {K : Int} {a : Int} {σ : zS} (I : InvR K σ) : two (g_c_changes a σ) (g_m_changes a) (fun v w s => InvR K s ∧ v = w) := liftRg I (qs_changes I.1) (hpRg (g_c_changes_sp ((fun (s : zS) (h : InvS s) => h.1.1) σ I.1).1.1)) (hmRg (fun _ h => m_changes h))
theorem qr_list {K : Int} {a b : Int} {σ : zS} (I : InvR K σ) : two (g_c_list a b σ) (g_m_list a b) (fun v w s => InvR K s ∧ v = w) := liftRg I (qs_list I.1) (hcRg (g_c_list_sp ((fun (s : zS) (h : InvS s) => h.1.1) σ I.1).1.1) (fun _ => ⟨rfl, rfl, rfl, rfl, rfl, rfl, rfl, rfl, rfl, rfl, rfl, rfl, rfl, rfl⟩)) (fun s h => (f_list h).imp (fun _ t g a j k => g a j (by unfold KRg at k; omega) (by unfold KRg at k; omega)))
theorem qr_set {K : Int} {a b c : Int} {σ : zS} (I : InvR K σ) : two (g_c_set a b c σ) (g_m_set a b c) (fun v w s => InvR K s ∧ v = w) := liftRg I (qs_set I.1) (hcRg (g_c_set_sp ((fun (s : zS) (h : InvS s) => h.1.1) σ I.1).1.1) (fun _ => ⟨rfl, rfl, rfl, rfl, rfl, rfl, rfl, rfl, rfl, rfl, rfl, rfl, rfl, rfl⟩)) (fun s h => (f_set h).imp (fun _ t g a j k => g a j (by unfold KRg at k; omega)))
theorem qr_get {K : Int} {a b : Int} {σ : zS} (I : InvR K σ) : two (g_c_get a b σ) (g_m_get a b) (fun _ _ s => InvR K s) := ft2 (liftRg I (tt2 (qs_get I.1)) (hpRg (g_c_get_sp ((fun (s : zS) (h : InvS s) => h.1.1) σ I.1).1.1)) (hmRg (fun _ h => m_get h)))
theorem qr_move {K : Int} {a b c d e : Int} {σ : zS} (hb : b < 2147483648) (hd : d < 2147483648) (I : InvR K σ) : two (g_c_move a b c d e σ) (g_m_move a b c d e) (fun v w s => InvR K s ∧ v = w) := liftRg I (qs_move hb hd I.1) (hcRg (g_c_move_sp ((fun (s : zS) (h : InvS s) => h.1.1) σ I.1).1.1) (fun _ => ⟨rfl, rfl, rfl, rfl, rfl, rfl, rfl, rfl, rfl, rfl, rfl, rfl, rfl, rfl⟩)) (fun s h => (f_move hb hd h).imp (fun _ t g a j k => g a j (by unfold KRg at k; omega)))
theorem qr_lay {K : Int} {a b : Int} {σ : zS} (hb : -2147483648 ≤ b ∧ b < 2147483648) (I : InvR K σ) : two (g_c_lay a b σ) (g_m_lay a b) (fun _ _ s => InvR K s) := ft2 (liftRg I (tt2 (qs_lay hb I.1)) (hcRg (g_c_lay_sp ((fun (s : zS) (h : InvS s) => h.1.1) σ I.1).1.1) (fun _ => ⟨rfl, rfl, rfl, rfl, rfl, rfl, rfl, rfl, rfl, rfl, rfl, rfl, rfl, rfl⟩)) (fun s h => (f_lay hb h).imp (fun _ t g a j k => g a j (by unfold KRg at k; omega))))
theorem qr_judge {K : Int} {a b : Int} {σ : zS} (hb : -2147483648 ≤ b ∧ b < 2147483648) (I : InvR K σ) : two (g_c_judge a b σ) (g_m_judge a b) (fun _ _ s => InvR K s) := ft2 (liftRg I (tt2 (qs_judge hb I.1)) (hpRg (g_c_judge_sp ((fun (s : zS) (h : InvS s) => h.1.1) σ I.1).1.1)) (hmRg (fun _ h => m_judge h hb)))
end
section
/-! 8g.rg1 -/
/-! THE REGIONS alike: opening and closing what stands between the calls; a query -/
theorem InvR.mono {K K' : Int} {σ : zS} (I : InvR K σ) (e : K ≤ K') : InvR K' σ := ⟨I.1, I.2.mono e⟩
theorem InvS.ci {σ : zS} (J : InvS σ) : CI σ := J.1.1.1.1
theorem InvS.mi {σ : zS} (J : InvS σ) : MI σ := J.1.1.1.2.1
theorem InvS.rw {σ : zS} (J : InvS σ) : RW σ 41 144 147 := J.1.1.2.1.1
/-- settings of the class: bounds -/
def stO1 (st : Int → Int) : Prop := (1 ≤ st 1 ∧ st 1 ≤ 99) ∧ (1 ≤ st 2 ∧ st 2 ≤ 12) ∧ (0 ≤ st 3 ∧ st 3 ≤ 2) ∧ (st 4 = 0 ∨ st 4 = 1) ∧ (st 5 = 0 ∨ st 5 = 1)
theorem R_st {K : Int} {σ : zS} (I : InvR K σ) : stO1 (σ 50) := by
  have h := I.1.mi.2.1
  have e1 : σ 50 1 = σ 144 12 := I.1.2.1 1 (by decide) (by decide)
  have e2 : σ 50 2 = σ 144 13 := I.1.2.1 2 (by decide) (by decide)
  refine ⟨?_, ?_, I.2.2.1.1⟩
  · rw [e1]
    exact h.1
  · rw [e2]
    exact h.2.1
theorem R_st0 {K : Int} {σ : zS} (I : InvR K σ) : 0 ≤ σ 50 0 ∧ σ 50 0 ≤ 99 := I.2.2.1.2
theorem ok_of {σ : zS} {L : List Rg} (h : mRs σ L) (hR : RI σ L.length) : ∀ r ∈ L, hOk r := fun r hr => by
  obtain ⟨k, hk, rfl⟩ := List.getElem_of_mem hr
  have g := hR.1 k hk
  rw [h.2 k hk] at g
  exact ⟨g.1, g.2.imp id (fun x => x.1)⟩
theorem pw_of {σ : zS} {L : List Rg} (h : mRs σ L) (hR : RI σ L.length) : (L.map (fun r => r.1)).Pairwise (fun a b => ¬ bMt a b) := by
  rw [List.pairwise_iff_getElem]
  intro i j hi hj hij
  rw [List.length_map] at hi hj
  rw [List.getElem_map, List.getElem_map, ← h.2 i hi, ← h.2 j hj]
  exact hR.2 i j hij hj
theorem RI_at {σ : zS} {L : List Rg} (h : mRs σ L) (n : NI σ) : RI σ L.length ∧ L.length ≤ 12 := by
  obtain ⟨N, n1, n2, n3⟩ := n
  have e : N = L.length := by
    have := h.1
    omega
  subst e
  exact ⟨n3, n1⟩
theorem R_open {K : Int} {σ : zS} (I : InvR K σ) : ∃ (L : List Rg) (ct : Int → Int), cSt σ 48 (inS σ 144) (rowsN σ) (σ 50) L ct ∧ mSt σ (rowsN σ) (σ 50) L ct ∧ RI σ L.length ∧ (∀ r ∈ L, hOk r) ∧ asc L (ct 8) ∧ (0 ≤ ct 8 ∧ ct 8 ≤ K) ∧ L.length ≤ 12 := by
  obtain ⟨L, ct, h1, h2, h3, h4, h5, h6, h7⟩ := I.2.1
  have R := I.1.rw
  obtain ⟨hR, -⟩ := RI_at h3 I.1.mi.1
  exact ⟨L, ct, ⟨h1, h2, fun i _ _ => rfl, R.1.2.1, R.1.1, fun b => rnC_eq R⟩, ⟨h3, h4, fun i i1 i2 => (I.1.2.1 i i1 i2).symm, fun b => rfl⟩, hR, ok_of h3 hR, h5, h6, h7.1⟩
theorem mRs.det {σ : zS} {L L' : List Rg} (h : mRs σ L) (h' : mRs σ L') : L = L' := by
  have e : L.length = L'.length := by
    have a := h.1
    have b := h'.1
    omega
  exact List.ext_getElem e (fun k h1 h2 => (h.2 k h1).symm.trans (h'.2 k h2))
theorem R_g {K : Int} {σ : zS} (I : InvR K σ) {L : List Rg} (M : mRs σ L) : gL L := by
  obtain ⟨L', ct, h1, h2, h3, h4, h5, h6, h7⟩ := I.2.1
  rw [M.det h3]
  exact h7.2
/-- the image's cells of the class -/
def imE (σ s : zS) : Prop := ∀ a j, (a = 81 ∨ (83 ≤ a ∧ a ≤ 88)) → s a j = σ a j
theorem imE.of {F : Nat → Int → Bool} {σ s : zS} (G : fr F σ s) (h : ∀ j : Int, F 81 j = false ∧ F 83 j = false ∧ F 84 j = false ∧ F 85 j = false ∧ F 86 j = false ∧ F 87 j = false ∧ F 88 j = false) : imE σ s := fun a j k => by
  obtain ⟨h1, h2, h3, h4, h5, h6, h7⟩ := h j
  have c : a = 81 ∨ a = 83 ∨ a = 84 ∨ a = 85 ∨ a = 86 ∨ a = 87 ∨ a = 88 := by omega
  rcases c with rfl | rfl | rfl | rfl | rfl | rfl | rfl
  · exact G _ _ (Or.inr h1)
  · exact G _ _ (Or.inr h2)
  · exact G _ _ (Or.inr h3)
  · exact G _ _ (Or.inr h4)
  · exact G _ _ (Or.inr h5)
  · exact G _ _ (Or.inr h6)
  · exact G _ _ (Or.inr h7)
theorem frI_of {m : Option (Int × zS)} {s s2 : zS} {w : Int} (h : ∃ w s2, m = some (w, s2) ∧ MI s2 ∧ frI s s2) (e : m = some (w, s2)) : frI s s2 := by
  obtain ⟨w', s2', e', -, f⟩ := h
  rw [e] at e'
  cases e'
  exact f
theorem zO.at {α : Type} {m : Option (α × zS)} {Q : α → zS → Prop} {w : α} {s : zS} (h : zO m Q) (e : m = some (w, s)) : Q w s := zP'.of h w s e
/-- the image's cells of the reference -/
def irE (σ s : zS) : Prop := ∀ a j, (a = 145 ∨ a = 148 ∨ (a = 143 ∧ j = 6)) → s a j = σ a j
theorem rK.ir {σ s : zS} (k : rK σ s) : irE σ s := fun a j h => by
  rcases h with rfl | rfl | ⟨rfl, rfl⟩
  · exact (k.2.2.1 j).1
  · exact (k.2.2.1 j).2
  · exact k.2.2.2
theorem R_im {K K' : Int} {σ s1 s2 : zS} (h : RGp K σ) (hK : K ≤ K') (i1 : imE σ s1) (k1 : irE σ s1) (c : ∀ a j, a < 143 → s2 a j = s1 a j) (k2 : irE s1 s2) : s2 143 6 ≠ 0 → RG1 K' s2 (imgS s2) 81 ∧ stB s2 83 := fun k => by
  have ir : ∀ a j, (a = 145 ∨ a = 148 ∨ (a = 143 ∧ j = 6)) → s2 a j = σ a j := fun a j q => (k2 a j q).trans (k1 a j q)
  rw [ir 143 6 (by omega)] at k
  obtain ⟨h1, h2⟩ := h.2.2 k
  have e : ∀ a j, (a = 81 ∨ (83 ≤ a ∧ a ≤ 88)) → s2 a j = σ a j := fun a j q => (c a j (by omega)).trans (i1 a j q)
  refine ⟨(h1.mono hK).cp (e 81 2 (by omega)) (fun i _ _ => e 81 i (by omega)) (fun f f1 f2 j _ _ => e (81 + f) j (by omega)) (fun j _ => ?_) (fun j _ => ?_), h2.mv (fun j _ _ => e 83 j (by omega))⟩
  · rw [imgS_a, imgS_a, ir 145 j (by omega)]
  · rw [imgS_w, imgS_w, ir 148 j (by omega)]
theorem R_closeP {K K' : Int} {σ s1 s2 : zS} {L : List Rg} {ct : Int → Int} {I : Nat → Bool} {rn rn' : Bx → Int} {st st' : Int → Int} (J : InvS s2) (h : RGp K σ) (hK : K ≤ K') (i1 : imE σ s1) (k1 : irE σ s1) (c : ∀ a j, a < 143 → s2 a j = s1 a j) (k2 : irE s1 s2) (C : cSt s1 48 I rn st L ct) (M : mSt s2 rn' st' L ct) (A : asc L (ct 8)) (B : 0 ≤ ct 8 ∧ ct 8 ≤ K') (sb : stB s1 50) (Gk : gL L) : InvR K' s2 := by
  refine ⟨J, ⟨L, ct, cRs_mv C.1 (fun x j k => c x j (by omega)), fun i i1 i2 => (c 48 i (by decide)).trans (C.2.1 i i1 i2), M.1, M.2.1, A, B, (RI_at M.1 J.mi.1).2, Gk⟩, sb.mv (fun j _ _ => c 50 j (by decide)), R_im h hK i1 k1 c k2⟩
theorem R_close {K K' : Int} {σ s1 s2 : zS} {L : List Rg} {ct : Int → Int} {I : Nat → Bool} {rn rn' : Bx → Int} {st st' : Int → Int} (J : InvS s2) (h : RGp K σ) (hK : K ≤ K') (i1 : imE σ s1) (k1 : rK σ s1) (c : ∀ a j, a < 143 → s2 a j = s1 a j) (k2 : rK s1 s2) (C : cSt s1 48 I rn st L ct) (M : mSt s2 rn' st' L ct) (A : asc L (ct 8)) (B : 0 ≤ ct 8 ∧ ct 8 ≤ K') (sb : stB s1 50) (Gk : gL L) : InvR K' s2 := R_closeP J h hK i1 k1.ir c k2.ir C M A B sb Gk
/-- the rows of both sides alike, behind the call -/
theorem rn_two {s1 s2 : zS} {I : Nat → Bool} {rn : Bx → Int} {st : Int → Int} {L : List Rg} {ct : Int → Int} (C : cSt s1 48 I rn st L ct) (J : InvS s2) (c : ∀ a j, a < 143 → s2 a j = s1 a j) : rn = rowsN s2 := by
  have R := J.rw
  have e42 : ∀ j, s2 42 j = s1 42 j := fun j => c 42 j (by decide)
  have e43 : ∀ j, s2 43 j = s1 43 j := fun j => c 43 j (by decide)
  have eI : ∀ q : Nat, q < 60 → I q = inS s2 144 q := fun q hq => by
    have a1 : bq (s1 46 ((32 : Nat) : Int)) q = (I q && decide (s1 42 (q : Int) < ((32 : Nat) : Int))) := (C.2.2.2.1 32 q (Nat.le_refl _) (by omega)).1
    have a2 : bq (s2 46 ((32 : Nat) : Int)) q = (inS s2 144 q && decide (s2 42 (q : Int) < ((32 : Nat) : Int))) := (R.1.2.1 32 q (Nat.le_refl _) (by omega)).1
    have hx := CI.cp (a := 42) (j := (q : Int)) J.ci (by omega)
    rw [c 46 _ (by decide), a1, e42] at a2
    rw [e42] at hx
    rw [decide_eq_true (show s1 42 (q : Int) < ((32 : Nat) : Int) by omega), Bool.and_true, Bool.and_true] at a2
    exact a2
  funext b
  rw [← C.2.2.2.2.2 b, ← rnC_eq R]
  unfold rnC
  refine cnP_ext 60 (fun q hq => ?_)
  try dsimp only
  rw [eI q hq, e42, e43]
/-- a query done, of the class: what it makes of the regions -/
theorem k_done {σ : zS} {I : Nat → Bool} {rn : Bx → Int} {st : Int → Int} {L : List Rg} {ct : Int → Int} {B : Bx} {T : Int → Bool} {m y : Int} (H : CI σ) (S : ST σ 41 I) (hb : bOk B) (hm : 0 ≤ m ∧ m ≤ 6) (ok : ok44 σ) (hy : btE I y T) (s1 : 0 ≤ st 1) (s2 : 0 ≤ st 2) (hL : L.length ≤ 12) (hk : ∀ r ∈ L, hOk r) (hp : (L.map (fun r => r.1)).Pairwise (fun a b => ¬ bMt a b)) (C : cSt σ 48 I rn st L ct) : zP' (g_c_done m (enc B) y σ) (fun _ s => ∃ L' ct', srvR rn st B L ct L' ct' ∧ cSt s 48 I rn st L' ct') := by
  unfold g_c_done
  refine zP'.bind ((k_serve (Or.inl rfl) s1 s2 hb hL hk hp C).and (zP'.of (g_ca_serve_sp (a0 := 48) (by omega) H))) (fun _ s p => ?_)
  obtain ⟨⟨L', ct', p1, p2, p3, p4⟩, H1, G1, -⟩ := p
  have e : stE σ s := stE.of G1 (fun _ => ⟨rfl, rfl, rfl, rfl, rfl, rfl, rfl⟩)
  have S1 := ST_E S e
  try dsimp +instances only
  obtain ⟨rows, e1, e2⟩ := p_rowsIn (σ := s) (b := B) S1.2.1 hb
  rw [e1]
  rw [Option.bind_some]
  try dsimp +instances only
  have e44 : s 44 = σ 44 := funext (fun j => e 44 j (by unfold stK; omega))
  refine zP'.bind (p_fiMeasT (a := 60) (by omega) (B := B) (T := T) H1 S1 hm (fun r hr => by rw [e44]; exact ok r hr) (fun q hq => by
    rw [bq_and, e2 q (by omega)]
    cases hI : I q with
    | false => rfl
    | true => rw [hy q hq hI, Bool.true_and, Bool.true_and])) (fun _ t q => ?_)
  obtain ⟨q1, -, -, -, q5⟩ := q
  try dsimp +instances only
  refine zP'.bind q5 (fun v u q => ?_)
  refine zP'.ret ⟨L', ct', p1, ?_⟩
  dsimp only
  rw [q.1]
  exact p3.mv (fun x j k => q1 x j (by omega) (by omega) (by omega))
/-- a query asked, of the reference -/
theorem t_askedR {σ : zS} {rn : Bx → Int} {st : Int → Int} {L : List Rg} {ct : Int → Int} {q : Bx} {x t : Int} (so : stO1 st) (hR : RI σ L.length) (h : mSt σ rn st L ct) (hN2 : L.length ≤ 12) (hq : bOk q) (hb : bxA σ 152 0 = q) (ha : asc L (ct 8)) (h8 : 0 ≤ ct 8 ∧ ct 8 + 169 < 2147483648) (ht : ∀ s, frQ σ s → tstOk s t) : zP' (g_m_asked x t σ) (fun _ s => ∃ L' ct', srvR rn st q L ct L' ct' ∧ asc L' (ct' 8) ∧ (ct 8 ≤ ct' 8 ∧ ct' 8 ≤ ct 8 + 169) ∧ mSt s rn st L' ct') := by
  have l152 : zLI 152 = 4 := rfl
  obtain ⟨o1, o2, o3, o4, o5⟩ := so
  have e13 : σ 144 13 = st 2 := h.2.2.1 2 (by decide) (by decide)
  have e12 : σ 144 12 = st 1 := h.2.2.1 1 (by decide) (by decide)
  obtain ⟨s1, N1, e1, e2, e3, e4, e5⟩ := s_queries hR h.1.1 hN2 hq hb (by omega) (by omega) (by omega)
  obtain ⟨L', ct', q1, q2, q3, q4, q5⟩ := t_queries (by omega) (by omega) o4 o5 hR h hN2 hq hb ha h8 _ s1 e1
  obtain ⟨s2, m, f1, f2, f3, f4, f5⟩ := s_gathers (a := 152) (i := 0) (t := t) (σ := s1) (by omega) (by omega) (by omega) (ht s1 e5)
  obtain ⟨v, s3, g1, g2⟩ := s_asked27 (x := x) f2 m 0 zK (zu s2 144 8 (m : Int)) (by omega) (by show _ < 1000000; omega) (by rw [zu_a (by decide)]; exact f4)
  have k144 : ∀ j : Int, (j < 8 ∨ (9 ≤ j ∧ j < 200) ∨ 340 ≤ j) → s3 144 j = s1 144 j := fun j h => by
    rw [g2 144 j (by omega) (Or.inl (by decide)) (Or.inl (by decide)), zu_i (by omega), f3 144 j (Or.inl (by decide)) (by decide) (by decide)]
  have k147 : ∀ j : Int, (j = 0 ∨ 121 ≤ j) → s3 147 j = s1 147 j := fun j h => by
    rw [g2 147 j (Or.inl (by decide)) (by omega) (Or.inl (by decide)), zu_a (by decide), f3 147 j (Or.inl (by decide)) (by decide) (by decide)]
  have ee : g_m_asked x t σ = some (v, s3) := by
    unfold g_m_asked
    rw [e1]
    rw [Option.bind_some]
    try dsimp only
    rw [f1]
    simp only [Option.bind_some, f4]
    exact g1
  rw [ee]
  have hl : L'.length ≤ 12 := by
    have := q5.1.1
    omega
  exact zP'.ret ⟨L', ct', q1, q3, q4, q5.1.mv (fun j k => k144 j (by omega)) (fun j j1 j2 => k147 j (by omega)) (by omega), q5.2.1.mv (fun j j1 j2 => k144 j (by omega)) (k147 0 (by omega)), q5.2.2.mv (fun j j1 j2 => k144 j (by omega))⟩
end
section
/-! 8h.rg2 -/
/-! THE REGIONS alike: query, flush, image, undo -/
theorem btE_all (I : Nat → Bool) : btE I (-1) (fun _ => true) := fun q hq _ => bq_m1 (by omega)
theorem p_queryR {σ : zS} {I : Nat → Bool} {rn : Bx → Int} {st : Int → Int} {L : List Rg} {ct : Int → Int} {m x0 x1 y0 y1 : Int} (H : CI σ) (S : ST σ 41 I) (ok : ok44 σ) (s1 : 0 ≤ st 1) (s2 : 0 ≤ st 2) (hL : L.length ≤ 12) (hk : ∀ r ∈ L, hOk r) (hp : (L.map (fun r => r.1)).Pairwise (fun a b => ¬ bMt a b)) (C : cSt σ 48 I rn st L ct) : zP' (g_c_query m x0 x1 y0 y1 σ) (fun _ s => ((0 ≤ m ∧ m ≤ 6) ∧ bOk (x0, x1, y0, y1) → ∃ L' ct', srvR rn st (x0, x1, y0, y1) L ct L' ct' ∧ cSt s 48 I rn st L' ct') ∧ (¬ ((0 ≤ m ∧ m ≤ 6) ∧ bOk (x0, x1, y0, y1)) → s = σ)) := by
  unfold g_c_query
  rw [p_isMeasure]
  rw [Option.bind_some]
  try dsimp +instances only
  by_cases c : 0 ≤ m ∧ m ≤ 6
  · rw [if_pos c, if_neg (by decide), p_isBox]
    rw [Option.bind_some]
    try dsimp +instances only
    by_cases c2 : bOk (x0, x1, y0, y1)
    · rw [if_pos c2, if_pos (by decide)]
      have hb := b_of (b := (x0, x1, y0, y1)) c2.s σ
      try dsimp only at hb
      rw [hb]
      rw [Option.bind_some]
      try dsimp +instances only
      exact zP'.bind (k_done H S c2 c ok (btE_all I) s1 s2 hL hk hp C) (fun v s p => zP'.ret ⟨fun _ => p, fun h => absurd ⟨c, c2⟩ h⟩)
    · rw [if_neg c2, if_neg (by decide)]
      exact zP'.ret ⟨fun h => absurd h.2 c2, fun _ => rfl⟩
  · rw [if_neg c, if_pos rfl]
    exact zP'.ret ⟨fun h => absurd h.1 c, fun _ => rfl⟩
theorem t_queryR {σ : zS} {rn : Bx → Int} {st : Int → Int} {L : List Rg} {ct : Int → Int} {m x0 x1 y0 y1 : Int} (so : stO1 st) (hR : RI σ L.length) (h : mSt σ rn st L ct) (hN2 : L.length ≤ 12) (ha : asc L (ct 8)) (h8 : 0 ≤ ct 8 ∧ ct 8 + 169 < 2147483648) : zP' (g_m_query m x0 x1 y0 y1 σ) (fun _ s => ((0 ≤ m ∧ m ≤ 6) ∧ bOk (x0, x1, y0, y1) → ∃ L' ct', srvR rn st (x0, x1, y0, y1) L ct L' ct' ∧ asc L' (ct' 8) ∧ (ct 8 ≤ ct' 8 ∧ ct' 8 ≤ ct 8 + 169) ∧ mSt s rn st L' ct') ∧ (¬ ((0 ≤ m ∧ m ≤ 6) ∧ bOk (x0, x1, y0, y1)) → s = σ)) := by
  have l152 : zLI 152 = 4 := rfl
  unfold g_m_query
  by_cases c : 0 ≤ m ∧ m ≤ 6
  · rw [s_isIn_t c.1 c.2]
    rw [Option.bind_some]
    try dsimp only
    rw [if_neg (by decide)]
    by_cases c2 : bOk (x0, x1, y0, y1)
    · rw [s_isBox_t c2]
      rw [Option.bind_some]
      try dsimp only
      rw [if_pos (by decide), s_sets (by omega) (by omega) (by omega)]
      rw [Option.bind_some]
      try dsimp only
      have M : mSt (zb σ 152 0 (x0, x1, y0, y1)) rn st L ct := ⟨h.1.mv (fun j _ => zb_a (by decide)) (fun j _ _ => zb_a (by decide)) (by omega), h.2.1.mv (fun j _ _ => zb_a (by decide)) (zb_a (by decide)), h.2.2.mv (fun j _ _ => zb_a (by decide))⟩
      have R : RI (zb σ 152 0 (x0, x1, y0, y1)) L.length := RI_of hR (fun k hk => ⟨zb_bxa (by decide), zb_bxa (by decide)⟩)
      exact zP'.bind (t_askedR so R M hN2 c2 (zb_bx rfl) ha h8 (fun s _ => Or.inl (by decide))) (fun v s p => zP'.ret ⟨fun _ => p, fun h => absurd ⟨c, c2⟩ h⟩)
    · rw [s_isBox_f c2]
      rw [Option.bind_some]
      try dsimp only
      rw [if_neg (by decide)]
      exact zP'.ret ⟨fun h => absurd h.2 c2, fun _ => rfl⟩
  · rw [s_isIn_f (by omega)]
    rw [Option.bind_some]
    try dsimp only
    rw [if_pos rfl]
    exact zP'.ret ⟨fun h => absurd h.1 c, fun _ => rfl⟩
theorem fr_ref {F : Nat → Int → Bool} {σ s : zS} (G : fr F σ s) : ∀ a j, 143 ≤ a → a < 168 → s a j = σ a j := fun a j h1 h2 => G a j (Or.inl ⟨h1, h2⟩)
theorem mSt.mv {σ s : zS} {rn : Bx → Int} {st : Int → Int} {L : List Rg} {ct : Int → Int} (h : mSt σ rn st L ct) (hN : L.length ≤ 240) (e : ∀ j : Int, 0 ≤ j → j < 2740 → s 144 j = σ 144 j) (ew : ∀ j : Int, 0 ≤ j → j < 361 → s 147 j = σ 147 j) : mSt s rn st L ct := ⟨h.1.mv (fun j _ => e j (by omega) (by omega)) (fun j _ _ => ew j (by omega) (by omega)) hN, h.2.1.mv (fun j _ _ => e j (by omega) (by omega)) (ew 0 (by decide) (by decide)), h.2.2.mv (fun j _ _ => e j (by omega) (by omega))⟩
theorem RI.mv {σ s : zS} {N : Nat} (h : RI σ N) (hN : N ≤ 240) (e : ∀ j : Int, 0 ≤ j → j < 2740 → s 144 j = σ 144 j) : RI s N := RI_of h (fun k hk => by
  unfold rgA bxA
  dsimp only
  rw [e _ (by omega) (by omega), e _ (by omega) (by omega), e _ (by omega) (by omega), e _ (by omega) (by omega), e _ (by omega) (by omega), e _ (by omega) (by omega), e _ (by omega) (by omega), e _ (by omega) (by omega)]
  exact ⟨rfl, rfl⟩)
theorem qr_query {K : Int} {a b c d e : Int} {σ : zS} (hK : K ≤ 2000000) (I : InvR K σ) : two (g_c_query a b c d e σ) (g_m_query a b c d e) (fun v w s => InvR (K + 2400) s ∧ v = w) := by
  obtain ⟨v, s1, e1, w, s2, e2, J, q⟩ := qs_query (a := a) (b := b) (c := c) (d := d) (e := e) I.1
  refine ⟨v, s1, e1, w, s2, e2, ?_, q⟩
  obtain ⟨L, ct, C, M, hR, hk, A, B, hL⟩ := R_open I
  have so := R_st I
  obtain ⟨H1, G1, -⟩ := zO.at (g_c_query_sp I.1.ci) e1
  have ref := fr_ref G1
  have M1 : MI s1 := MI_cls I.1.mi ref
  have F := frI_of (mC (fun _ h => m_query h) s1 M1) e2
  have cl : ∀ a j, a < 143 → s2 a j = s1 a j := fun a j h => F a j (Or.inl h)
  have k2 := zO.at (k_query M1) e2
  have i1 := imE.of G1 (fun _ => ⟨rfl, rfl, rfl, rfl, rfl, rfl, rfl⟩)
  have sb : stB s1 50 := I.2.2.1.mv (fun j _ _ => G1 50 j (Or.inr rfl))
  have Mm := M.mv (s := s1) (by omega) (fun j _ _ => ref 144 j (by decide) (by decide)) (fun j _ _ => ref 147 j (by decide) (by decide))
  have Rm := hR.mv (s := s1) (by omega) (fun j _ _ => ref 144 j (by decide) (by decide))
  obtain ⟨p1, p2⟩ := p_queryR (m := a) (x0 := b) (x1 := c) (y0 := d) (y1 := e) I.1.ci I.1.rw.1 I.1.1.1.2.1.ok (by have := so.1; omega) (by have := so.2.1; omega) hL hk (pw_of M.1 hR) C v s1 e1
  obtain ⟨r1, r2⟩ := t_queryR (m := a) (x0 := b) (x1 := c) (y0 := d) (y1 := e) so Rm Mm hL A (by omega) w s2 e2
  by_cases cc : (0 ≤ a ∧ a ≤ 6) ∧ bOk (b, c, d, e)
  · obtain ⟨L1, c1, u1, u2⟩ := p1 cc
    obtain ⟨L2, c2, v1, v2, v3, v4⟩ := r1 cc
    obtain ⟨rfl, rfl⟩ := u1.det v1
    exact R_close J I.2 (by omega) i1 (rK.cls G1) cl k2 u2 v4 v2 (by omega) sb (gL_srv u1 cc.2.1 so.2.1.2 hL (by omega) (R_g I M.1)).1
  · have x1 := p2 cc
    have x2 := r2 cc
    rw [x2] at J ⊢
    rw [x1] at J ⊢
    exact ⟨J, I.2.mono (by omega)⟩
theorem qr_flush {K : Int} {σ : zS} (I : InvR K σ) : two (g_c_flush σ) g_m_flush (fun v w s => InvR (K + 2400) s ∧ v = w) := by
  obtain ⟨v, s1, e1, w, s2, e2, J⟩ := qs_flush I.1
  refine ⟨v, s1, e1, w, s2, e2, ?_⟩
  obtain ⟨L, ct, C, M, hR, hk, A, B, hL⟩ := R_open I
  obtain ⟨H1, G1, -⟩ := zO.at (g_c_flush_sp I.1.ci) e1
  have ref := fr_ref G1
  have M1 : MI s1 := MI_cls I.1.mi ref
  have F := frI_of (mC (fun _ h => m_flush h) s1 M1) e2
  have cl : ∀ a j, a < 143 → s2 a j = s1 a j := fun a j h => F a j (Or.inl h)
  have k2 := zO.at (k_flush M1) e2
  have i1 := imE.of G1 (fun _ => ⟨rfl, rfl, rfl, rfl, rfl, rfl, rfl⟩)
  have sb : stB s1 50 := I.2.2.1.mv (fun j _ _ => G1 50 j (Or.inr rfl))
  have x1 : v = (L.length : Int) ∧ s1 = zu σ 48 2 0 := by
    have e1' := e1
    unfold g_c_flush at e1'
    try dsimp only at e1'
    rw [C.1.1] at e1'
    cases e1'
    exact ⟨rfl, rfl⟩
  have x2 : w = (L.length : Int) ∧ s2 = zu s1 144 0 0 := by
    have e2' := e2
    unfold g_m_flush at e2'
    try dsimp only at e2'
    rw [ref 144 0 (by decide) (by decide), M.1.1] at e2'
    cases e2'
    exact ⟨rfl, rfl⟩
  obtain ⟨rfl, x1⟩ := x1
  obtain ⟨rfl, x2⟩ := x2
  refine ⟨?_, rfl⟩
  have C1 : cSt s1 48 (inS σ 144) (rowsN σ) (σ 50) [] ct := by
    obtain ⟨h1, h2, h3, h4, h5, h6⟩ := C
    have o : ∀ a j, (a ≠ 48 ∨ j ≠ 2) → s1 a j = σ a j := fun a j k => by rw [x1, zu_c k]
    refine ⟨⟨by rw [x1, zu_e rfl]; rfl, fun k hk => absurd hk (Nat.not_lt_zero _)⟩, fun i i1 i2 => (o 48 i (by omega)).trans (h2 i i1 i2), fun i i1 i2 => (o (48 + 2) i (by omega)).trans (h3 i i1 i2), STb_mv h4 (fun c j k1 k2 => o c j (by omega)), h5, fun b => ?_⟩
    rw [rnC_mv (fun c j k1 k2 => o c j (by omega))]
    exact h6 b
  have Mm := M.mv (s := s1) (by omega) (fun j _ _ => ref 144 j (by decide) (by decide)) (fun j _ _ => ref 147 j (by decide) (by decide))
  have M2 : mSt s2 (rowsN σ) (σ 50) [] ct := by
    have o : ∀ a j, (a ≠ 144 ∨ j ≠ 0) → s2 a j = s1 a j := fun a j k => by rw [x2, zu_c k]
    exact ⟨⟨by rw [x2, zu_e rfl]; rfl, fun k hk => absurd hk (Nat.not_lt_zero _)⟩, Mm.2.1.mv (fun j _ _ => o 144 j (by omega)) (o 147 0 (Or.inl (by decide))), Mm.2.2.mv (fun j _ _ => o 144 j (by omega))⟩
  have A0 : asc [] (ct 8) := ⟨List.Pairwise.nil, fun r hr => absurd hr List.not_mem_nil⟩
  exact R_close J I.2 (by omega) i1 (rK.cls G1) cl k2 C1 M2 A0 (by omega) sb gL.nil
theorem qr_image {K : Int} {σ : zS} (I : InvR K σ) : two (g_c_image σ) g_m_image (fun v w s => InvR (K + 2400) s ∧ v = w) := by
  obtain ⟨v, s1, e1, w, s2, e2, J⟩ := qs_image I.1
  refine ⟨v, s1, e1, w, s2, e2, ?_⟩
  obtain ⟨L, ct, C, M, hR, hk, A, B, hL⟩ := R_open I
  have h1 := CI.c1 (a := 63) I.1.ci (by omega)
  have h9 := I.1.mi.2.1.2.2.2.1
  have R9 : σ 63 1 = σ 144 9 := I.1.1.1.2.1.2.1
  obtain ⟨H1, G1, -⟩ := zO.at (g_c_image_sp I.1.ci) e1
  have ref := fr_ref G1
  have key : zP' (g_c_image σ) (fun v s => v = (L.length : Int) ∧ (∀ j : Int, 0 ≤ j → j < 7 → s 83 j = σ 50 j) ∧ (∀ f : Nat, 3 ≤ f → f ≤ 7 → ∀ j : Int, 0 ≤ j → j < 181 → s (81 + f) j = σ (48 + f) j) ∧ s 81 2 = σ 48 2 ∧ (∀ i : Int, 8 ≤ i → i ≤ 15 → s 81 i = σ 48 i) ∧ ∀ a j, 48 ≤ a → a < 73 → s a j = σ a j) := by
    unfold g_c_image
    refine zP'.bind (p_stF_img (σ := σ) ⟨h1.1, by omega⟩) (fun _ t p => ?_)
    obtain ⟨p1, p2, p3, -, p5⟩ := p
    obtain ⟨z0, z1, z2, z3, z4, z5, z6, z7, z8⟩ := p3
    try dsimp +instances only
    have u : ∀ a j, a ≠ 39 → zu t 39 2 1 a j = t a j := fun a j k => zu_a k
    refine zP'.ret ⟨?_, fun j j1 j2 => ?_, fun f f1 f2 j j1 j2 => ?_, ?_, fun i i1 i2 => ?_, fun a j k1 k2 => ?_⟩
    · try dsimp only
      rw [u 48 2 (by decide), p5 48 2 (by omega)]
      exact C.1.1
    · try dsimp only
      rw [u 83 j (by decide)]
      exact p1 j j1 j2
    · try dsimp only
      rw [u (81 + f) j (by omega)]
      obtain ⟨q1, q2, q3, q4, q5⟩ := p2 j j1 j2
      have cs : f = 3 ∨ f = 4 ∨ f = 5 ∨ f = 6 ∨ f = 7 := by omega
      rcases cs with rfl | rfl | rfl | rfl | rfl
      · exact q1
      · exact q2
      · exact q3
      · exact q4
      · exact q5
    · try dsimp only
      rw [u 81 2 (by decide)]
      exact z0
    · try dsimp only
      rw [u 81 i (by decide)]
      have cs : i = 8 ∨ i = 9 ∨ i = 10 ∨ i = 11 ∨ i = 12 ∨ i = 13 ∨ i = 14 ∨ i = 15 := by omega
      rcases cs with rfl | rfl | rfl | rfl | rfl | rfl | rfl | rfl
      · exact z1
      · exact z2
      · exact z3
      · exact z4
      · exact z5
      · exact z6
      · exact z7
      · exact z8
    · try dsimp only
      rw [u a j (by omega)]
      exact p5 a j (by omega)
  obtain ⟨k0, k1, k2, k3, k4, k5⟩ := key v s1 e1
  obtain ⟨m1, m2, m3, -⟩ := f_image w s2 e2
  have wv : w = (L.length : Int) := by
    have e2' := e2
    unfold g_m_image at e2'
    rw [s_keeps (a := 145) (b := 148) (by decide)] at e2'
    rw [Option.bind_some] at e2'
    try dsimp only at e2'
    cases e2'
    show zu (kpS s1 145 148) 143 6 1 144 0 = _
    rw [zu_a (by decide)]
    unfold kpS
    rw [if_neg (fun e => absurd e.1 (by decide)), if_neg (fun e => absurd e.1 (by decide)), ref 144 0 (by decide) (by decide)]
    exact M.1.1
  have cl : ∀ a j, a < 143 → s2 a j = s1 a j := fun a j h => m1 a j (by omega) (by omega) (Or.inl (by omega))
  have q4 : ∀ j, s2 144 j = σ 144 j := fun j => (m1 144 j (by decide) (by decide) (Or.inl (by decide))).trans (ref 144 j (by decide) (by decide))
  have q7 : ∀ j, s2 147 j = σ 147 j := fun j => (m1 147 j (by decide) (by decide) (Or.inl (by decide))).trans (ref 147 j (by decide) (by decide))
  have N := I.2.1.mono (show K ≤ K + 2400 by omega)
  refine ⟨⟨J, ?_, ?_, fun _ => ⟨?_, ?_⟩⟩, by rw [k0, wv]⟩
  · exact N.cp ((cl 48 2 (by decide)).trans (k5 48 2 (by decide) (by decide))) (fun i _ _ => (cl 48 i (by decide)).trans (k5 48 i (by decide) (by decide))) (fun f f1 f2 j _ _ => (cl (48 + f) j (by omega)).trans (k5 (48 + f) j (by omega) (by omega))) (fun j _ => q4 j) (fun j _ => q7 j)
  · exact I.2.2.1.mv (fun j _ _ => (cl 50 j (by decide)).trans (k5 50 j (by decide) (by decide)))
  · refine N.cp ((cl 81 2 (by decide)).trans k3) (fun i i1 i2 => (cl 81 i (by decide)).trans (k4 i i1 i2)) (fun f f1 f2 j j1 j2 => (cl (81 + f) j (by omega)).trans (k2 f f1 f2 j j1 j2)) (fun j k => ?_) (fun j k => ?_)
    · rw [imgS_a, m2 j (by omega) (by omega)]
      exact ref 144 j (by decide) (by decide)
    · rw [imgS_w, m3 j (by omega) (by omega)]
      exact ref 147 j (by decide) (by decide)
  · exact I.2.2.1.mv (fun j j1 j2 => (cl 83 j (by decide)).trans (k1 j j1 j2))
theorem qr_undo {K : Int} {σ : zS} (I : InvR K σ) : two (g_c_undo σ) g_m_undo (fun v w s => InvR (K + 2400) s ∧ v = w) := by
  obtain ⟨v, s1, e1, w, s2, e2, J⟩ := qs_undo I.1
  refine ⟨v, s1, e1, w, s2, e2, ?_⟩
  obtain ⟨H1, G1, -⟩ := zO.at (g_c_undo_sp I.1.ci) e1
  have ref := fr_ref G1
  have h6 : σ 39 2 ≠ 0 ↔ σ 143 6 ≠ 0 := I.1.1.1.2.2.1
  by_cases c : σ 143 6 ≠ 0
  · obtain ⟨Ri, Si⟩ := I.2.2.2 c
    have Bi := I.1.1.1.2.2.2 c
    have R9 : σ 96 1 = σ 145 9 := Bi.2.1
    have h9 : 0 ≤ σ 145 9 ∧ σ 145 9 ≤ 10 := (I.1.mi.2.2.2 c).2.2.2.2.1
    have key : zP' (g_c_undo σ) (fun v s => v = s 48 2 ∧ (∀ j : Int, 0 ≤ j → j < 7 → s 50 j = σ 83 j) ∧ (∀ f : Nat, 3 ≤ f → f ≤ 7 → ∀ j : Int, 0 ≤ j → j < 181 → s (48 + f) j = σ (81 + f) j) ∧ s 48 2 = σ 81 2 ∧ (∀ i : Int, 8 ≤ i → i ≤ 15 → s 48 i = σ 81 i) ∧ ∀ a j, 71 ≤ a → s a j = σ a j) := by
      unfold g_c_undo
      try dsimp +instances only
      rw [if_pos (h6.mpr c)]
      refine zP'.bind (p_stF_und (σ := σ) (by omega)) (fun _ t p => ?_)
      obtain ⟨p1, p2, p3, -, p5⟩ := p
      obtain ⟨z0, z1, z2, z3, z4, z5, z6, z7, z8⟩ := p3
      try dsimp +instances only
      refine zP'.ret ⟨rfl, p1, fun f f1 f2 j j1 j2 => ?_, z0, fun i i1 i2 => ?_, fun a j k => p5 a j (by omega)⟩
      · obtain ⟨q1, q2, q3, q4, q5⟩ := p2 j j1 j2
        have cs : f = 3 ∨ f = 4 ∨ f = 5 ∨ f = 6 ∨ f = 7 := by omega
        rcases cs with rfl | rfl | rfl | rfl | rfl
        · exact q1
        · exact q2
        · exact q3
        · exact q4
        · exact q5
      · have cs : i = 8 ∨ i = 9 ∨ i = 10 ∨ i = 11 ∨ i = 12 ∨ i = 13 ∨ i = 14 ∨ i = 15 := by omega
        rcases cs with rfl | rfl | rfl | rfl | rfl | rfl | rfl | rfl
        · exact z1
        · exact z2
        · exact z3
        · exact z4
        · exact z5
        · exact z6
        · exact z7
        · exact z8
    obtain ⟨k0, k1, k2, k3, k4, k5⟩ := key v s1 e1
    obtain ⟨m1, m2, -⟩ := f_undo w s2 e2
    have r6 : s1 143 6 ≠ 0 := by rw [ref 143 6 (by decide) (by decide)]; exact c
    obtain ⟨n1, n2⟩ := m2 r6
    have cl : ∀ a j, a < 143 → s2 a j = s1 a j := fun a j h => m1 a j (by omega) (by omega)
    have wv : w = s2 144 0 := by
      have e2' := e2
      unfold g_m_undo at e2'
      try dsimp only at e2'
      rw [if_pos r6, s_back (a := 145) (b := 148) (by decide)] at e2'
      rw [Option.bind_some] at e2'
      try dsimp only at e2'
      cases e2'
      rfl
    have N := Ri.mono (show K ≤ K + 2400 by omega)
    have q4 : ∀ j : Int, 0 ≤ j → j < 2740 → s2 144 j = imgS σ 144 j := fun j j1 j2 => by rw [n1 j j1 j2, ref 145 j (by decide) (by decide)]; rfl
    have q7 : ∀ j : Int, 0 ≤ j → j < 361 → s2 147 j = imgS σ 147 j := fun j j1 j2 => by rw [n2 j j1 j2, ref 148 j (by decide) (by decide)]; rfl
    have N1 : RG1 (K + 2400) s2 s2 48 := N.cp ((cl 48 2 (by decide)).trans k3) (fun i i1 i2 => (cl 48 i (by decide)).trans (k4 i i1 i2)) (fun f f1 f2 j j1 j2 => (cl (48 + f) j (by omega)).trans (k2 f f1 f2 j j1 j2)) (fun j k => q4 j (by omega) (by omega)) (fun j k => q7 j (by omega) (by omega))
    refine ⟨⟨J, N1, Si.mv (fun j j1 j2 => (cl 50 j (by decide)).trans (k1 j j1 j2)), fun _ => ⟨?_, ?_⟩⟩, ?_⟩
    · refine N.cp ((cl 81 2 (by decide)).trans (k5 81 2 (by decide))) (fun i i1 i2 => (cl 81 i (by decide)).trans (k5 81 i (by decide))) (fun f f1 f2 j j1 j2 => (cl (81 + f) j (by omega)).trans (k5 (81 + f) j (by omega))) (fun j k => ?_) (fun j k => ?_)
      · rw [imgS_a, imgS_a, m1 145 j (by decide) (by decide)]
        exact ref 145 j (by decide) (by decide)
      · rw [imgS_w, imgS_w, m1 148 j (by decide) (by decide)]
        exact ref 148 j (by decide) (by decide)
    · exact Si.mv (fun j j1 j2 => (cl 83 j (by decide)).trans (k5 83 j (by decide)))
    · obtain ⟨L, ct, h1, -, h3, -⟩ := N1
      rw [k0, wv, ← cl 48 2 (by decide), h1.1, h3.1]
  · have c6 : σ 143 6 = 0 := Classical.byContradiction (fun h => c h)
    have key : zP' (g_c_undo σ) (fun v s => v = -3 ∧ s = σ) := by
      unfold g_c_undo
      try dsimp +instances only
      rw [if_neg (fun h => c (h6.mp h))]
      exact zP'.ret ⟨rfl, rfl⟩
    obtain ⟨rfl, rfl⟩ := key v s1 e1
    have e2' := e2
    unfold g_m_undo at e2'
    try dsimp only at e2'
    rw [if_neg c] at e2'
    cases e2'
    exact ⟨⟨J, I.2.mono (by omega)⟩, rfl⟩
end
section
/-! 8i.put -/
/-! THE REGIONS alike: put, take -/
theorem b_ofE {x y : Int} (hx : 0 ≤ x ∧ x ≤ 31) (hy : 0 ≤ y ∧ y ≤ 31) : iOr (iOr (iOr x (iShl x 5)) (iShl y 10)) (iShl y 15) = enc (x, x, y, y) := by
  have h := b_of (b := (x, x, y, y)) (bOk.s ⟨hx.1, Int.le_refl _, hx.2, hy.1, Int.le_refl _, hy.2⟩) s0
  unfold g_b_of at h
  injection h with h
  injection h with h1 _
theorem cSt.frm {F : Nat → Int → Bool} {σ s : zS} {I : Nat → Bool} {rn : Bx → Int} {st : Int → Int} {L : List Rg} {ct : Int → Int} (C : cSt σ 48 I rn st L ct) (G : fr F σ s) (h : ∀ j : Int, F 41 j = false ∧ F 42 j = false ∧ F 43 j = false ∧ F 44 j = false ∧ F 45 j = false ∧ F 46 j = false ∧ F 47 j = false ∧ F 48 j = false ∧ F 50 j = false ∧ F 51 j = false ∧ F 52 j = false ∧ F 53 j = false ∧ F 54 j = false ∧ F 55 j = false) : cSt s 48 I rn st L ct := C.mv (fun c j k => by
  obtain ⟨h1, h2, h3, h4, h5, h6, h7, h8, h9, h10, h11, h12, h13, h14⟩ := h j
  have cs : c = 41 ∨ c = 42 ∨ c = 43 ∨ c = 44 ∨ c = 45 ∨ c = 46 ∨ c = 47 ∨ c = 48 ∨ c = 50 ∨ c = 51 ∨ c = 52 ∨ c = 53 ∨ c = 54 ∨ c = 55 := by omega
  rcases cs with rfl | rfl | rfl | rfl | rfl | rfl | rfl | rfl | rfl | rfl | rfl | rfl | rfl | rfl
  · exact G _ _ (Or.inr h1)
  · exact G _ _ (Or.inr h2)
  · exact G _ _ (Or.inr h3)
  · exact G _ _ (Or.inr h4)
  · exact G _ _ (Or.inr h5)
  · exact G _ _ (Or.inr h6)
  · exact G _ _ (Or.inr h7)
  · exact G _ _ (Or.inr h8)
  · exact G _ _ (Or.inr h9)
  · exact G _ _ (Or.inr h10)
  · exact G _ _ (Or.inr h11)
  · exact G _ _ (Or.inr h12)
  · exact G _ _ (Or.inr h13)
  · exact G _ _ (Or.inr h14))
/-- other rows, the same regions -/
theorem cSt.rows {F : Nat → Int → Bool} {σ s : zS} {I I' : Nat → Bool} {rn : Bx → Int} {st : Int → Int} {L : List Rg} {ct : Int → Int} (C : cSt σ 48 I rn st L ct) (S : ST s 41 I') (G : fr F σ s) (h : ∀ j : Int, F 48 j = false ∧ F 50 j = false ∧ F 51 j = false ∧ F 52 j = false ∧ F 53 j = false ∧ F 54 j = false ∧ F 55 j = false) : cSt s 48 I' (fun b => rnC s I' b) st L ct := by
  have o : ∀ c j, (c = 48 ∨ (50 ≤ c ∧ c ≤ 55)) → s c j = σ c j := fun c j k => by
    obtain ⟨h8, h9, h10, h11, h12, h13, h14⟩ := h j
    have cs : c = 48 ∨ c = 50 ∨ c = 51 ∨ c = 52 ∨ c = 53 ∨ c = 54 ∨ c = 55 := by omega
    rcases cs with rfl | rfl | rfl | rfl | rfl | rfl | rfl
    · exact G _ _ (Or.inr h8)
    · exact G _ _ (Or.inr h9)
    · exact G _ _ (Or.inr h10)
    · exact G _ _ (Or.inr h11)
    · exact G _ _ (Or.inr h12)
    · exact G _ _ (Or.inr h13)
    · exact G _ _ (Or.inr h14)
  exact ⟨cRs_mv C.1 (fun c j k => o c j (by omega)), fun i i1 i2 => (o 48 i (by omega)).trans (C.2.1 i i1 i2), fun i i1 i2 => (o 50 i (by omega)).trans (C.2.2.1 i i1 i2), S.2.1, S.1, fun b => rfl⟩
/-- what a put or a take makes of the regions: a write at the place where the row was, one at the new place, trimming -/
def wrO (st : Int → Int) (L : List Rg) (ct : Int → Int) (p : Option Bx) (X : List Rg × (Int → Int)) : Prop := match p with
  | none => X = (L, ct)
  | some q => wrR st L ct q X
theorem wrO.det {st : Int → Int} {L : List Rg} {ct : Int → Int} {p : Option Bx} {X Y : List Rg × (Int → Int)} (h1 : wrO st L ct p X) (h2 : wrO st L ct p Y) : X = Y := by
  cases p with
  | none =>
    have h1 : X = (L, ct) := h1
    have h2 : Y = (L, ct) := h2
    rw [h1, h2]
  | some q => exact wrR.det (p := q) h1 h2
def PUr (rn : Bx → Int) (st : Int → Int) (L : List Rg) (ct : Int → Int) (o p : Option Bx) (L' : List Rg) (ct' : Int → Int) : Prop := ∃ X Y m, wrO st L ct o X ∧ wrO st X.1 X.2 p Y ∧ TMn rn st m Y (L', ct')
theorem PUr.det {rn : Bx → Int} {st : Int → Int} {L L1 L2 : List Rg} {ct c1 c2 : Int → Int} {o p : Option Bx} (h1 : PUr rn st L ct o p L1 c1) (h2 : PUr rn st L ct o p L2 c2) : L1 = L2 ∧ c1 = c2 := by
  obtain ⟨X, Y, m, a1, a2, a3⟩ := h1
  obtain ⟨X', Y', m', b1, b2, b3⟩ := h2
  obtain rfl := a1.det b1
  obtain rfl := a2.det b2
  have h := TMn.det _ _ a3 b3
  exact ⟨congrArg Prod.fst h, congrArg Prod.snd h⟩
theorem gL_wo {st : Int → Int} {L : List Rg} {ct : Int → Int} {p : Option Bx} {X : List Rg × (Int → Int)} (h : wrO st L ct p X) (h8 : 0 ≤ ct 8 ∧ ct 8 ≤ 2100000000) (g : gL L) : gL X.1 ∧ ct 8 ≤ X.2 8 ∧ X.2 8 ≤ ct 8 + 4 := by
  cases p with
  | none =>
    have h : X = (L, ct) := h
    rw [h]
    exact ⟨g, Int.le_refl _, by show ct 8 ≤ ct 8 + 4; omega⟩
  | some q => exact gL_wr (show wrR st L ct q X from h) h8 g
theorem gL_PU {rn : Bx → Int} {st : Int → Int} {L L' : List Rg} {ct ct' : Int → Int} {o p : Option Bx} (h : PUr rn st L ct o p L' ct') (h8 : 0 ≤ ct 8 ∧ ct 8 ≤ 2000000000) (g : gL L) : gL L' := by
  obtain ⟨X, Y, m, a1, a2, a3⟩ := h
  obtain ⟨g1, g2, g3⟩ := gL_wo a1 (by omega) g
  exact (gL_TMn m a3 (gL_wo a2 (by omega) g1).1).1
theorem k_after {σ : zS} {I : Nat → Bool} {rn : Bx → Int} {st : Int → Int} {L : List Rg} {ct : Int → Int} (so : stO1 st) (H : CI σ) (C : cSt σ 48 I rn st L ct) (hL : L.length ≤ 100) (hk : ∀ r ∈ L, hOk r) : zP' (g_c_afterWrites σ) (fun v s => ∃ m L' ct', TMn rn st m (L, ct) (L', ct') ∧ cSt s 48 I rn st L' ct' ∧ v = (L'.length : Int)) := by
  unfold g_c_afterWrites
  refine zP'.bind ((k_trim (Or.inl rfl) (by have := so.1; omega) (by have := so.2.1; omega) C (by omega) hk).and (zP'.of (g_ca_trim_sp (a0 := 48) (by omega) H))) (fun _ s p => ?_)
  obtain ⟨⟨m, L', ct', p1, p2, p3, p4, p5⟩, H1, -, -⟩ := p
  try dsimp +instances only
  refine zP'.bind (zP'.of (g_wa_compare_sp H1)) (fun _ t q => ?_)
  have C2 := p4.frm q.2.1 (fun _ => ⟨rfl, rfl, rfl, rfl, rfl, rfl, rfl, rfl, rfl, rfl, rfl, rfl, rfl, rfl⟩)
  try dsimp +instances only
  exact zP'.ret ⟨m, L', ct', p1, C2, C2.1.1⟩
theorem k_write48 {σ : zS} {I : Nat → Bool} {rn : Bx → Int} {st : Int → Int} {L : List Rg} {ct : Int → Int} {p : Bx} (H : CI σ) (hp : bOk p) (hL : L.length ≤ 100) (hk : ∀ r ∈ L, hOk r) (C : cSt σ 48 I rn st L ct) : zP' (g_ca_write 48 (enc p) σ) (fun _ s => CI s ∧ stE σ s ∧ ∃ X, wrR st L ct p X ∧ cSt s 48 I rn st X.1 X.2) := ((k_write (Or.inl rfl) hp hL hk C (fun r hr => rest_ok hp hr)).and (zP'.of (g_ca_write_sp (a0 := 48) (by omega) H))).imp (fun _ s q => by
  obtain ⟨⟨X, x1, x2, x3⟩, H1, G1, -⟩ := q
  exact ⟨H1, stE.of G1 (fun _ => ⟨rfl, rfl, rfl, rfl, rfl, rfl, rfl⟩), X, x1, x2⟩)
/-- put() behind the row's coming out -/
theorem k_put90 {r : Nat} {x y v : Int} {σ : zS} {I : Nat → Bool} {rn : Bx → Int} {st : Int → Int} {L : List Rg} {ct : Int → Int} (so : stO1 st) (H : CI σ) (S : ST σ 41 I) (hr : r < 60) (hI : I r = false) (hx : 0 ≤ x ∧ x ≤ 31) (hy : 0 ≤ y ∧ y ≤ 31) (C : cSt σ 48 I rn st L ct) (hL : L.length ≤ 50) (hk : ∀ r ∈ L, hOk r) (A : asc L (ct 8)) (B : 0 ≤ ct 8 ∧ ct 8 + 4 < 2147483648) : zP' (g_c_put_L90 (r : Int) x y v σ) (fun w s => ∃ I' rn' Y m L' ct', wrR st L ct (x, x, y, y) Y ∧ TMn rn' st m Y (L', ct') ∧ cSt s 48 I' rn' st L' ct' ∧ w = (L'.length : Int)) := by
  have h4 := CI.c4 (a := 41) H (by omega)
  have okp : bOk (x, x, y, y) := ⟨hx.1, Int.le_refl _, hx.2, hy.1, Int.le_refl _, hy.2⟩
  unfold g_c_put_L90
  refine zP'.bind ((p_bringIn H hr hx hy (ST_cnt S hr hI h4.1) (by rw [ST_bit H S hr]; exact hI) (ST_val S)).and (zP'.of (g_so_bringIn_sp H))) (fun _ s1 p1 => ?_)
  obtain ⟨⟨k1, k2, k3, k4⟩, H1, G1, -⟩ := p1
  have S1 := ST_in S hr hI hx hy h4.1 k1 k2 k3 k4
  have C1 := C.rows S1 G1 (fun _ => ⟨rfl, rfl, rfl, rfl, rfl, rfl, rfl⟩)
  try dsimp +instances only
  have hb := b_of (b := (x, x, y, y)) okp.s s1
  try dsimp only at hb
  rw [hb]
  rw [Option.bind_some]
  try dsimp +instances only
  refine zP'.bind (k_write48 H1 okp (by omega) hk C1) (fun _ s2 p2 => ?_)
  obtain ⟨H2, -, Y, y1, y2⟩ := p2
  obtain ⟨a1, a2, a3, a4, a5⟩ := wr_all okp hk A B y1
  try dsimp +instances only
  refine zP'.bind (k_after so H2 y2 (by omega) a2) (fun w s3 p3 => ?_)
  obtain ⟨m, L', ct', q1, q2, q3⟩ := p3
  exact zP'.ret ⟨_, _, Y, m, L', ct', y1, q1, q2, q3⟩
/-- the place where a row was -/
def oldP (σ : zS) (i : Bool) (r : Nat) : Option Bx := if i = true then some (σ 42 (r : Int), σ 42 (r : Int), σ 43 (r : Int), σ 43 (r : Int)) else none
theorem k_put {r x y v : Int} {σ : zS} {I : Nat → Bool} {rn : Bx → Int} {st : Int → Int} {L : List Rg} {ct : Int → Int} (so : stO1 st) (H : CI σ) (S : ST σ 41 I) (C : cSt σ 48 I rn st L ct) (hL : L.length ≤ 12) (hk : ∀ r ∈ L, hOk r) (A : asc L (ct 8)) (B : 0 ≤ ct 8 ∧ ct 8 + 8 < 2147483648) : zP' (g_c_put r x y v σ) (fun w s => (acc r x y v → ∃ I' rn' L' ct', PUr rn' st L ct (oldP σ (I r.toNat) r.toNat) (some (x, x, y, y)) L' ct' ∧ cSt s 48 I' rn' st L' ct' ∧ w = (L'.length : Int)) ∧ (¬ acc r x y v → s = σ ∧ w = if 0 ≤ r ∧ r < 60 then -2 else -1)) := by
  unfold g_c_put
  rw [p_isRow]
  rw [Option.bind_some]
  try dsimp +instances only
  by_cases c1 : 0 ≤ r ∧ r < 60
  · rw [if_pos c1, if_pos (by decide), p_isPlace]
    rw [Option.bind_some]
    try dsimp +instances only
    by_cases c2 : 0 ≤ x ∧ x ≤ 31 ∧ 0 ≤ y ∧ y ≤ 31
    · rw [if_pos c2, if_neg (by decide)]
      refine zP'.ite (fun c3 => zP'.ret ⟨fun h => absurd (lCmp_eq.mp c3) h.2.2.2.1, fun _ => ⟨rfl, by rw [if_pos c1]⟩⟩) (fun c3 => ?_)
      refine zP'.ite (fun c4 => ?_) (fun c4 => zP'.ret ⟨fun h => absurd (fun e => h.2.2.2.2 (lCmp_eq.mp e)) c4, fun _ => ⟨rfl, by rw [if_pos c1]⟩⟩)
      have hacc : acc r x y v := ⟨c1, ⟨c2.1, c2.2.1⟩, c2.2.2, fun h => c3 (lCmp_eq.mpr h), fun h => c4 (lCmp_eq.mpr h)⟩
      obtain ⟨k, rfl⟩ : ∃ k : Nat, r = (k : Int) := ⟨r.toNat, by omega⟩
      have hk60 : k < 60 := by omega
      have ek : ((k : Int)).toNat = k := by omega
      rw [ek]
      refine zP'.bind (zP'.of (g_wa_remember_sp H)) (fun _ s1 p1 => ?_)
      obtain ⟨H1, G1, -⟩ := p1
      have e1 : stE σ s1 := stE.of G1 (fun _ => ⟨rfl, rfl, rfl, rfl, rfl, rfl, rfl⟩)
      have S1 := ST_E S e1
      have C1 := C.frm G1 (fun _ => ⟨rfl, rfl, rfl, rfl, rfl, rfl, rfl, rfl, rfl, rfl, rfl, rfl, rfl, rfl⟩)
      try dsimp +instances only
      rw [p_isIn hk60, ST_bit H1 S1 hk60]
      rw [Option.bind_some]
      try dsimp +instances only
      by_cases c5 : I k = true
      · rw [if_pos c5, if_neg (by decide)]
        refine zP'.bind ((p_bringOut H1 hk60).and (zP'.of (g_so_bringOut_sp H1))) (fun w s2 p2 => ?_)
        obtain ⟨k2, H2, G2, -⟩ := p2
        obtain ⟨k3, k4, k5, k6⟩ := k2 (by rw [ST_bit H1 S1 hk60]; exact c5)
        have S2 := ST_out H1 S1 hk60 c5 k3 k4 k5
        have C2 := C1.rows S2 G2 (fun _ => ⟨rfl, rfl, rfl, rfl, rfl, rfl, rfl⟩)
        have gx := CI.cp (a := 42) (j := (k : Int)) H1 (by omega)
        have gy := CI.cp (a := 43) (j := (k : Int)) H1 (by omega)
        have ew : w = enc (s1 42 (k : Int), s1 42 (k : Int), s1 43 (k : Int), s1 43 (k : Int)) := k6.trans (b_ofE gx gy)
        have okq : bOk (s1 42 (k : Int), s1 42 (k : Int), s1 43 (k : Int), s1 43 (k : Int)) := ⟨gx.1, Int.le_refl _, gx.2, gy.1, Int.le_refl _, gy.2⟩
        have eo : oldP σ (I k) k = some (s1 42 (k : Int), s1 42 (k : Int), s1 43 (k : Int), s1 43 (k : Int)) := by
          unfold oldP
          rw [if_pos c5, e1 42 _ (by unfold stK; omega), e1 43 _ (by unfold stK; omega)]
        try dsimp +instances only
        rw [ew]
        refine zP'.bind (k_write48 H2 okq (by omega) hk C2) (fun _ s3 p3 => ?_)
        obtain ⟨H3, e3, X, x1, x2⟩ := p3
        have S3 := ST_E S2 e3
        obtain ⟨a1, a2, a3, a4, a5⟩ := wr_all okq hk A (by omega) x1
        try dsimp +instances only
        refine (k_put90 (x := x) (y := y) (v := v) so H3 S3 hk60 (by simp) ⟨c2.1, c2.2.1⟩ c2.2.2 x2 (by omega) a2 a1 (by omega)).imp (fun w s h => ⟨fun _ => ?_, fun hn => absurd hacc hn⟩)
        obtain ⟨I', rn', Y, m, L', ct', q1, q2, q3, q4⟩ := h
        exact ⟨I', rn', L', ct', ⟨X, Y, m, by rw [eo]; exact x1, q1, q2⟩, q3, q4⟩
      · have c6 : I k = false := by
          cases hb : I k with
          | true => exact absurd hb c5
          | false => rfl
        rw [if_neg c5, if_pos rfl]
        refine (k_put90 (x := x) (y := y) (v := v) so H1 S1 hk60 c6 ⟨c2.1, c2.2.1⟩ c2.2.2 C1 (by omega) hk A (by omega)).imp (fun w s h => ⟨fun _ => ?_, fun hn => absurd hacc hn⟩)
        obtain ⟨I', rn', Y, m, L', ct', q1, q2, q3, q4⟩ := h
        refine ⟨I', rn', L', ct', ⟨(L, ct), Y, m, ?_, q1, q2⟩, q3, q4⟩
        unfold oldP
        rw [if_neg c5]
        rfl
    · rw [if_neg c2, if_pos rfl]
      exact zP'.ret ⟨fun h => absurd ⟨h.2.1.1, h.2.1.2, h.2.2.1.1, h.2.2.1.2⟩ c2, fun _ => ⟨rfl, by rw [if_pos c1]⟩⟩
  · rw [if_neg c1, if_neg (by decide)]
    exact zP'.ret ⟨fun h => absurd h.1 c1, fun _ => ⟨rfl, by rw [if_neg c1]⟩⟩
theorem k_take {r : Int} {σ : zS} {I : Nat → Bool} {rn : Bx → Int} {st : Int → Int} {L : List Rg} {ct : Int → Int} (so : stO1 st) (H : CI σ) (S : ST σ 41 I) (C : cSt σ 48 I rn st L ct) (hL : L.length ≤ 12) (hk : ∀ r ∈ L, hOk r) (A : asc L (ct 8)) (B : 0 ≤ ct 8 ∧ ct 8 + 8 < 2147483648) : zP' (g_c_take r σ) (fun w s => ((0 ≤ r ∧ r < 60) ∧ I r.toNat = true → ∃ I' rn' L' ct', PUr rn' st L ct (oldP σ (I r.toNat) r.toNat) none L' ct' ∧ cSt s 48 I' rn' st L' ct' ∧ w = (L'.length : Int)) ∧ (¬ ((0 ≤ r ∧ r < 60) ∧ I r.toNat = true) → s = σ ∧ w = if 0 ≤ r ∧ r < 60 then -3 else -1)) := by
  unfold g_c_take
  rw [p_isRow]
  rw [Option.bind_some]
  try dsimp +instances only
  by_cases c1 : 0 ≤ r ∧ r < 60
  · obtain ⟨k, rfl⟩ : ∃ k : Nat, r = (k : Int) := ⟨r.toNat, by omega⟩
    have hk60 : k < 60 := by omega
    have ek : ((k : Int)).toNat = k := by omega
    rw [ek]
    rw [if_pos c1, if_pos (by decide), p_isIn hk60, ST_bit H S hk60]
    rw [Option.bind_some]
    try dsimp +instances only
    by_cases c5 : I k = true
    · rw [if_pos c5, if_pos (by decide)]
      refine zP'.bind (zP'.of (g_wa_remember_sp H)) (fun _ s1 p1 => ?_)
      obtain ⟨H1, G1, -⟩ := p1
      have e1 : stE σ s1 := stE.of G1 (fun _ => ⟨rfl, rfl, rfl, rfl, rfl, rfl, rfl⟩)
      have S1 := ST_E S e1
      have C1 := C.frm G1 (fun _ => ⟨rfl, rfl, rfl, rfl, rfl, rfl, rfl, rfl, rfl, rfl, rfl, rfl, rfl, rfl⟩)
      try dsimp +instances only
      refine zP'.bind ((p_bringOut H1 hk60).and (zP'.of (g_so_bringOut_sp H1))) (fun w s2 p2 => ?_)
      obtain ⟨k2, H2, G2, -⟩ := p2
      obtain ⟨k3, k4, k5, k6⟩ := k2 (by rw [ST_bit H1 S1 hk60]; exact c5)
      have S2 := ST_out H1 S1 hk60 c5 k3 k4 k5
      have C2 := C1.rows S2 G2 (fun _ => ⟨rfl, rfl, rfl, rfl, rfl, rfl, rfl⟩)
      have gx := CI.cp (a := 42) (j := (k : Int)) H1 (by omega)
      have gy := CI.cp (a := 43) (j := (k : Int)) H1 (by omega)
      have ew : w = enc (s1 42 (k : Int), s1 42 (k : Int), s1 43 (k : Int), s1 43 (k : Int)) := k6.trans (b_ofE gx gy)
      have okq : bOk (s1 42 (k : Int), s1 42 (k : Int), s1 43 (k : Int), s1 43 (k : Int)) := ⟨gx.1, Int.le_refl _, gx.2, gy.1, Int.le_refl _, gy.2⟩
      have eo : oldP σ (I k) k = some (s1 42 (k : Int), s1 42 (k : Int), s1 43 (k : Int), s1 43 (k : Int)) := by
        unfold oldP
        rw [if_pos c5, e1 42 _ (by unfold stK; omega), e1 43 _ (by unfold stK; omega)]
      try dsimp +instances only
      rw [ew]
      refine zP'.bind (k_write48 H2 okq (by omega) hk C2) (fun _ s3 p3 => ?_)
      obtain ⟨H3, e3, X, x1, x2⟩ := p3
      obtain ⟨a1, a2, a3, a4, a5⟩ := wr_all okq hk A (by omega) x1
      try dsimp +instances only
      refine zP'.bind (k_after so H3 x2 (by omega) a2) (fun w s4 p4 => ?_)
      obtain ⟨m, L', ct', q1, q2, q3⟩ := p4
      exact zP'.ret ⟨fun _ => ⟨_, _, L', ct', ⟨X, X, m, by rw [eo]; exact x1, rfl, q1⟩, q2, q3⟩, fun hn => absurd ⟨c1, c5⟩ hn⟩
    · rw [if_neg c5, if_neg (by decide)]
      exact zP'.ret ⟨fun h => absurd h.2 c5, fun _ => ⟨rfl, by rw [if_pos c1]⟩⟩
  · rw [if_neg c1, if_neg (by decide)]
    exact zP'.ret ⟨fun h => absurd h.1 c1, fun _ => ⟨rfl, by rw [if_neg c1]⟩⟩
end
section
/-! 8j.mput -/
/-! THE REGIONS alike: put, take of the reference, and both together -/
theorem t_behindR {σ : zS} {rn : Bx → Int} {st : Int → Int} {L : List Rg} {ct : Int → Int} (so : stO1 st) (hH : HI σ) (hR : RI σ L.length) (h : mSt σ rn st L ct) (hN2 : L.length ≤ 100) (hk : ∀ r ∈ L, hOk r) (ha : asc L (ct 8)) : zP' (g_m_behind σ) (fun v s => ∃ m L' ct', TMn rn st m (L, ct) (L', ct') ∧ asc L' (ct' 8) ∧ ct' 8 = ct 8 ∧ v = (L'.length : Int) ∧ mSt s rn st L' ct') := by
  obtain ⟨h12, h13, h8, h9, h10, -, -⟩ := hH
  obtain ⟨s1, N', e1, e2, e3, e4, e5, e6⟩ := s_trims hR h.1.1 (by omega) h13.1 h12.1
  obtain ⟨m, L', ct', p1, p2, p3, p4, p5, p6⟩ := t_trims (by have := so.1; omega) (by have := so.2.1; omega) so.2.2.2.2 h (by omega) hk ha _ s1 e1
  obtain ⟨W, hW⟩ : ∃ W : Nat, σ 144 10 = (W : Int) := ⟨(σ 144 10).toNat, by omega⟩
  obtain ⟨v, s2, f1, f2, f3⟩ := s_behind6 hW (by omega) W 0 zK s1 (by omega) (by show _ < 1000000; omega) ((e5 144 10 (by omega) (Or.inl (by decide))).trans hW)
  have o : ∀ j : Int, (j < 300 ∨ 340 ≤ j) → s2 144 j = s1 144 j := fun j k => f3 144 j (by omega) (Or.inl (by decide)) (by decide) (by decide)
  have o7 : ∀ j : Int, s2 147 j = s1 147 j := fun j => f3 147 j (Or.inl (by decide)) (Or.inl (by decide)) (by decide) (by decide)
  have ee : g_m_behind σ = some (v, s2) := by
    unfold g_m_behind
    rw [e1]
    exact f1
  rw [ee]
  refine zP'.ret ⟨m, L', ct', p1, p4, p5, f2.trans p6.1.1, p6.1.mv (fun j k => o j (by omega)) (fun j _ _ => o7 j) (by omega), p6.2.1.mv (fun j _ _ => o j (by omega)) (o7 0), p6.2.2.mv (fun j _ _ => o j (by omega))⟩
theorem t_put72R {σ : zS} {r x y v : Int} {rn : Bx → Int} {st : Int → Int} {L : List Rg} {ct : Int → Int} (so : stO1 st) (hH : HI σ) (hR : RI σ L.length) (h : mSt σ rn st L ct) (hN2 : L.length ≤ 50) (hk : ∀ r ∈ L, hOk r) (ha : asc L (ct 8)) (h8 : 0 ≤ ct 8 ∧ ct 8 + 4 < 2147483648) (hr : 0 ≤ r ∧ r < 60) (hx : 0 ≤ x ∧ x ≤ 31) (hy : 0 ≤ y ∧ y ≤ 31) : zP' (g_m_put_L72 r x y v σ) (fun c s => ∃ Y m L' ct', wrR st L ct (x, x, y, y) Y ∧ TMn (rowsN s) st m Y (L', ct') ∧ asc L' (ct' 8) ∧ (ct 8 ≤ ct' 8 ∧ ct' 8 ≤ ct 8 + 4) ∧ c = (L'.length : Int) ∧ mSt s (rowsN s) st L' ct') := by
  obtain ⟨k, rfl⟩ : ∃ k : Nat, r = (k : Int) := ⟨r.toNat, by omega⟩
  have okp : bOk (x, x, y, y) := ⟨hx.1, Int.le_refl _, hx.2, hy.1, Int.le_refl _, hy.2⟩
  generalize hs1 : zu (zu (zu (zu σ 144 (20 + 3 * (k : Int)) 1) 144 (21 + 3 * (k : Int)) x) 144 (22 + 3 * (k : Int)) y) 147 (1 + (k : Int)) v = s1
  have f1 : ∀ a j, (a ≠ 144 ∨ j < 20 + 3 * (k : Int) ∨ 23 + 3 * (k : Int) ≤ j) → (a ≠ 147 ∨ j ≠ 1 + (k : Int)) → s1 a j = σ a j := fun a j h1 h2 => by
    rw [← hs1, zu_c h2, zu_c (by omega), zu_c (by omega), zu_c (by omega)]
  have rows1 : ∀ t : Nat, t < 60 → (0 ≤ s1 144 (21 + 3 * (t : Int)) ∧ s1 144 (21 + 3 * (t : Int)) ≤ 31) ∧ (0 ≤ s1 144 (22 + 3 * (t : Int)) ∧ s1 144 (22 + 3 * (t : Int)) ≤ 31) := fun t ht => by
    by_cases c : t = k
    · subst c
      have e1 : s1 144 (21 + 3 * (t : Int)) = x := by rw [← hs1, zu_a (by decide), zu_i (by omega), zu_e rfl]
      have e2 : s1 144 (22 + 3 * (t : Int)) = y := by rw [← hs1, zu_a (by decide), zu_e rfl]
      rw [e1, e2]
      exact ⟨hx, hy⟩
    · rw [f1 144 _ (by omega) (Or.inl (by decide)), f1 144 _ (by omega) (Or.inl (by decide))]
      exact hH.2.2.2.2.2.2 t ht
  have hH1 : HI s1 := HI_P hH (fun j hj => f1 144 j (by omega) (Or.inl (by decide))) rows1
  have M1 : mSt s1 (rowsN s1) st L ct := ⟨h.1.mv (fun j _ => f1 144 j (by omega) (Or.inl (by decide))) (fun j _ _ => f1 147 j (Or.inl (by decide)) (by omega)) (by omega), h.2.1.mv (fun j _ _ => f1 144 j (by omega) (Or.inl (by decide))) (f1 147 0 (Or.inl (by decide)) (by omega)), fun i i1 i2 => (f1 144 _ (by omega) (Or.inl (by decide))).trans (h.2.2.1 i i1 i2), fun b => rfl⟩
  have hR1 : RI s1 L.length := RI_of hR (fun t ht => by
    rw [M1.1.2 t ht, h.1.2 t ht]
    exact ⟨rfl, rfl⟩)
  obtain ⟨s2, N2, g1, g2, g3, g4, g5⟩ := s_writes hR1 M1.1.1 (by omega) hx hy
  obtain ⟨Y, y1, M2⟩ := t_writes M1 hk (by omega) hx hy so.2.2.1 _ s2 g1
  obtain ⟨a1, a2, a3, a4, a5⟩ := wr_all okp hk ha h8 y1
  have hH2 : HI s2 := HI_fr8 hH1 (fun j h1 h2 => g5 144 j (Or.inr ⟨h1, h2⟩) (Or.inl (by decide)) (by decide) (by decide) (by decide))
  have eN : N2 = Y.1.length := by
    have := M2.1.1
    omega
  subst eN
  unfold g_m_put_L72
  rw [s_rowAt (by omega) (by omega)]
  rw [Option.bind_some]
  try dsimp only
  rw [if_pos (by omega), s_rowAt (by omega) (by omega)]
  rw [Option.bind_some]
  try dsimp only
  rw [w32_id (x := 20 + 3 * (k : Int) + 1) (by omega) (by omega), if_pos (by omega), s_rowAt (by omega) (by omega)]
  rw [Option.bind_some]
  try dsimp only
  rw [w32_id (x := 20 + 3 * (k : Int) + 2) (by omega) (by omega), if_pos (by omega), w32_id (x := 1 + (k : Int)) (by omega) (by omega), if_pos (by omega), show 20 + 3 * (k : Int) + 1 = 21 + 3 * (k : Int) by omega, show 20 + 3 * (k : Int) + 2 = 22 + 3 * (k : Int) by omega, hs1, g1]
  rw [Option.bind_some]
  try dsimp only
  refine zP'.bind (t_behindR so hH2 g2 M2 (by omega) a2 a1) (fun c s p => ?_)
  obtain ⟨m, L', ct', p1, p2, p3, p4, p5⟩ := p
  have er : rowsN s1 = rowsN s := funext (fun b => (p5.2.2.2 b).symm)
  rw [er] at p1 p5
  exact zP'.ret ⟨Y, m, L', ct', y1, p1, p2, by omega, p4, p5⟩
/-- the place where the reference's row was -/
def oldR (σ : zS) (r : Int) : Option Bx := if σ 144 (20 + 3 * r) = 1 then some (σ 144 (21 + 3 * r), σ 144 (21 + 3 * r), σ 144 (22 + 3 * r), σ 144 (22 + 3 * r)) else none
theorem t_outR {σ : zS} {r : Int} {rn : Bx → Int} {st : Int → Int} {L : List Rg} {ct : Int → Int} (so : stO1 st) (hH : HI σ) (h : mSt σ rn st L ct) (hN2 : L.length ≤ 12) (hk : ∀ r ∈ L, hOk r) (hr : 0 ≤ r ∧ r < 60) : zP' (g_m_out r σ) (fun _ s => ∃ X, wrR st L ct (σ 144 (21 + 3 * r), σ 144 (21 + 3 * r), σ 144 (22 + 3 * r), σ 144 (22 + 3 * r)) X ∧ mSt s (rowsN s) st X.1 X.2) := by
  obtain ⟨k, rfl⟩ : ∃ k : Nat, r = (k : Int) := ⟨r.toNat, by omega⟩
  obtain ⟨hx, hy⟩ := hH.2.2.2.2.2.2 k (by omega)
  generalize hs1 : zu σ 144 (20 + 3 * (k : Int)) 0 = s1
  have e21 : s1 144 (21 + 3 * (k : Int)) = σ 144 (21 + 3 * (k : Int)) := by rw [← hs1]; exact zu_i (by omega)
  have e22 : s1 144 (22 + 3 * (k : Int)) = σ 144 (22 + 3 * (k : Int)) := by rw [← hs1]; exact zu_i (by omega)
  have f1 : ∀ a j, (a ≠ 144 ∨ j ≠ 20 + 3 * (k : Int)) → s1 a j = σ a j := fun a j q => by rw [← hs1, zu_c q]
  have M1 : mSt s1 (rowsN s1) st L ct := ⟨h.1.mv (fun j _ => f1 144 j (by omega)) (fun j _ _ => f1 147 j (Or.inl (by decide))) (by omega), h.2.1.mv (fun j _ _ => f1 144 j (by omega)) (f1 147 0 (Or.inl (by decide))), fun i i1 i2 => (f1 144 _ (by omega)).trans (h.2.2.1 i i1 i2), fun b => rfl⟩
  unfold g_m_out
  rw [s_rowAt (by omega) (by omega)]
  rw [Option.bind_some]
  try dsimp only
  rw [if_pos (by omega), s_rowAt (by omega) (by omega)]
  rw [Option.bind_some]
  try dsimp only
  rw [w32_id (x := 20 + 3 * (k : Int) + 1) (by omega) (by omega), if_pos (by omega), s_rowAt (by omega) (by omega)]
  rw [Option.bind_some]
  try dsimp only
  rw [w32_id (x := 20 + 3 * (k : Int) + 2) (by omega) (by omega), if_pos (by omega), hs1, show 20 + 3 * (k : Int) + 1 = 21 + 3 * (k : Int) by omega, show 20 + 3 * (k : Int) + 2 = 22 + 3 * (k : Int) by omega, e21, e22]
  refine zP'.bind (t_writes M1 hk (by omega) hx hy so.2.2.1) (fun _ s p => ?_)
  obtain ⟨X, x1, x2⟩ := p
  have er : rowsN s1 = rowsN s := funext (fun b => (x2.2.2.2 b).symm)
  rw [er] at x2
  exact zP'.ret ⟨X, x1, x2⟩
theorem t_putR {σ : zS} {r x y v : Int} {rn : Bx → Int} {st : Int → Int} {L : List Rg} {ct : Int → Int} (so : stO1 st) (hH : HI σ) (hR : RI σ L.length) (h : mSt σ rn st L ct) (hN2 : L.length ≤ 12) (hk : ∀ r ∈ L, hOk r) (ha : asc L (ct 8)) (h8 : 0 ≤ ct 8 ∧ ct 8 + 8 < 2147483648) : zP' (g_m_put r x y v σ) (fun c s => (acc r x y v → ∃ L' ct', PUr (rowsN s) st L ct (oldR σ r) (some (x, x, y, y)) L' ct' ∧ asc L' (ct' 8) ∧ (ct 8 ≤ ct' 8 ∧ ct' 8 ≤ ct 8 + 8) ∧ c = (L'.length : Int) ∧ mSt s (rowsN s) st L' ct') ∧ (¬ acc r x y v → s = σ ∧ c = if 0 ≤ r ∧ r < 60 then -2 else -1)) := by
  have no : (0 ≤ r ∧ r < 60) → ¬ acc r x y v → zP' (some (((-2) : Int), σ)) (fun c s => (acc r x y v → ∃ L' ct', PUr (rowsN s) st L ct (oldR σ r) (some (x, x, y, y)) L' ct' ∧ asc L' (ct' 8) ∧ (ct 8 ≤ ct' 8 ∧ ct' 8 ≤ ct 8 + 8) ∧ c = (L'.length : Int) ∧ mSt s (rowsN s) st L' ct') ∧ (¬ acc r x y v → s = σ ∧ c = if 0 ≤ r ∧ r < 60 then -2 else -1)) := fun c1 hn => zP'.ret ⟨fun k => absurd k hn, fun _ => ⟨rfl, by rw [if_pos c1]⟩⟩
  unfold g_m_put
  rw [s_isRow]
  rw [Option.bind_some]
  try dsimp only
  by_cases c1 : 0 ≤ r ∧ r < 60
  · rw [if_pos c1, if_pos (by decide)]
    by_cases c2 : 0 ≤ x ∧ x ≤ 31
    · rw [s_isIn_t c2.1 c2.2]
      rw [Option.bind_some]
      try dsimp only
      rw [if_neg (by decide)]
      by_cases c3 : 0 ≤ y ∧ y ≤ 31
      · rw [s_isIn_t c3.1 c3.2]
        rw [Option.bind_some]
        try dsimp only
        rw [if_neg (by decide)]
        by_cases c4 : lCmp v (-9223372036854775808) = 0
        · rw [if_pos c4]
          exact no c1 (fun h => h.2.2.2.1 (lCmp_eq.mp c4))
        · rw [if_neg c4]
          by_cases c5 : lCmp v (-9223372036854775807) ≠ 0
          · rw [if_pos c5]
            have hacc : acc r x y v := ⟨c1, c2, c3, fun h => c4 (lCmp_eq.mpr h), fun h => c5 (lCmp_eq.mpr h)⟩
            obtain ⟨s1, e1, e2⟩ := s_values (σ := σ) hH.2.2.2.2.1
            rw [e1]
            rw [Option.bind_some]
            try dsimp only
            rw [s_rowAt (by omega) (by omega)]
            rw [Option.bind_some]
            try dsimp only
            rw [if_pos (by omega)]
            have hH1 := HI_V hH e2
            have e144 : ∀ j, s1 144 j = σ 144 j := fun j => e2 144 j (Or.inl (by decide)) (by decide) (by decide) (by decide)
            have e147 : ∀ j, s1 147 j = σ 147 j := fun j => e2 147 j (Or.inl (by decide)) (by decide) (by decide) (by decide)
            have M1 := h.mv (s := s1) (by omega) (fun j _ _ => e144 j) (fun j _ _ => e147 j)
            have R1 := hR.mv (s := s1) (by omega) (fun j _ _ => e144 j)
            by_cases c6 : s1 144 (20 + 3 * r) ≠ 1
            · rw [if_pos c6]
              refine (t_put72R (v := v) so hH1 R1 M1 (by omega) hk ha (by omega) c1 c2 c3).imp (fun c s p => ⟨fun _ => ?_, fun hn => absurd hacc hn⟩)
              obtain ⟨Y, m, L', ct', q1, q2, q3, q4, q5, q6⟩ := p
              refine ⟨L', ct', ⟨(L, ct), Y, m, ?_, q1, q2⟩, q3, by omega, q5, q6⟩
              unfold oldR
              rw [if_neg (fun e => c6 (by rw [e144]; exact e))]
              rfl
            · rw [if_neg c6]
              have c6 : s1 144 (20 + 3 * r) = 1 := Classical.byContradiction c6
              obtain ⟨s2, N2, g1, g2, g3, g4, g5⟩ := s_out hH1 R1 M1.1.1 (by omega) c1
              obtain ⟨X, x1, x2⟩ := t_outR so hH1 M1 hN2 hk c1 _ s2 g1
              rw [g1]
              rw [Option.bind_some]
              try dsimp only
              have z1 : HI (zu s1 144 (20 + 3 * r) 0) := HI_P hH1 (fun j hj => zu_i (by omega)) (fun t ht => by rw [zu_i (by omega), zu_i (by omega)]; exact hH1.2.2.2.2.2.2 t ht)
              have hH2 : HI s2 := HI_fr8 z1 (fun j h1 h2 => g5 144 j (Or.inr ⟨h1, h2⟩) (Or.inl (by decide)) (by decide) (by decide) (by decide))
              have eN : N2 = X.1.length := by
                have := x2.1.1
                omega
              subst eN
              obtain ⟨k, rfl⟩ : ∃ k : Nat, r = (k : Int) := ⟨r.toNat, by omega⟩
              obtain ⟨gx, gy⟩ := hH1.2.2.2.2.2.2 k (by omega)
              obtain ⟨a1, a2, a3, a4, a5⟩ := wr_all ⟨gx.1, Int.le_refl _, gx.2, gy.1, Int.le_refl _, gy.2⟩ hk ha (by omega) x1
              refine (t_put72R (v := v) so hH2 g2 x2 (by omega) a2 a1 (by omega) c1 c2 c3).imp (fun c s p => ⟨fun _ => ?_, fun hn => absurd hacc hn⟩)
              obtain ⟨Y, m, L', ct', q1, q2, q3, q4, q5, q6⟩ := p
              refine ⟨L', ct', ⟨X, Y, m, ?_, q1, q2⟩, q3, by omega, q5, q6⟩
              unfold oldR
              rw [e144] at c6
              rw [if_pos c6]
              rw [e144, e144] at x1
              exact x1
          · rw [if_neg c5]
            exact no c1 (fun h => c5 (fun e => h.2.2.2.2 (lCmp_eq.mp e)))
      · rw [s_isIn_f (by omega)]
        exact no c1 (fun h => c3 h.2.2.1)
    · rw [s_isIn_f (by omega)]
      exact no c1 (fun h => c2 h.2.1)
  · rw [if_neg c1, if_neg (by decide)]
    exact zP'.ret ⟨fun k => absurd k.1 c1, fun _ => ⟨rfl, by rw [if_neg c1]⟩⟩
theorem t_takeR {σ : zS} {r : Int} {rn : Bx → Int} {st : Int → Int} {L : List Rg} {ct : Int → Int} (so : stO1 st) (hH : HI σ) (hR : RI σ L.length) (h : mSt σ rn st L ct) (hN2 : L.length ≤ 12) (hk : ∀ r ∈ L, hOk r) (ha : asc L (ct 8)) (h8 : 0 ≤ ct 8 ∧ ct 8 + 8 < 2147483648) (h01 : (0 ≤ r ∧ r < 60) → (σ 144 (20 + 3 * r) = 0 ∨ σ 144 (20 + 3 * r) = 1)) : zP' (g_m_take r σ) (fun c s => ((0 ≤ r ∧ r < 60) ∧ σ 144 (20 + 3 * r) = 1 → ∃ L' ct', PUr (rowsN s) st L ct (oldR σ r) none L' ct' ∧ asc L' (ct' 8) ∧ (ct 8 ≤ ct' 8 ∧ ct' 8 ≤ ct 8 + 8) ∧ c = (L'.length : Int) ∧ mSt s (rowsN s) st L' ct') ∧ (¬ ((0 ≤ r ∧ r < 60) ∧ σ 144 (20 + 3 * r) = 1) → s = σ ∧ c = if 0 ≤ r ∧ r < 60 then -3 else -1)) := by
  unfold g_m_take
  rw [s_isRow]
  rw [Option.bind_some]
  try dsimp only
  by_cases c1 : 0 ≤ r ∧ r < 60
  · rw [if_pos c1, if_pos (by decide), s_rowAt (by omega) (by omega)]
    rw [Option.bind_some]
    try dsimp +instances only
    rw [if_pos (by omega)]
    by_cases c2 : σ 144 (20 + 3 * r) ≠ 0
    · rw [if_pos c2]
      have c3 : σ 144 (20 + 3 * r) = 1 := (h01 c1).resolve_left c2
      obtain ⟨s1, e1, e2⟩ := s_values (σ := σ) hH.2.2.2.2.1
      rw [e1]
      rw [Option.bind_some]
      try dsimp only
      have hH1 := HI_V hH e2
      have e144 : ∀ j, s1 144 j = σ 144 j := fun j => e2 144 j (Or.inl (by decide)) (by decide) (by decide) (by decide)
      have e147 : ∀ j, s1 147 j = σ 147 j := fun j => e2 147 j (Or.inl (by decide)) (by decide) (by decide) (by decide)
      have M1 := h.mv (s := s1) (by omega) (fun j _ _ => e144 j) (fun j _ _ => e147 j)
      have R1 := hR.mv (s := s1) (by omega) (fun j _ _ => e144 j)
      obtain ⟨s2, N2, g1, g2, g3, g4, g5⟩ := s_out hH1 R1 M1.1.1 (by omega) c1
      obtain ⟨X, x1, x2⟩ := t_outR so hH1 M1 hN2 hk c1 _ s2 g1
      rw [g1]
      rw [Option.bind_some]
      try dsimp only
      have z1 : HI (zu s1 144 (20 + 3 * r) 0) := HI_P hH1 (fun j hj => zu_i (by omega)) (fun t ht => by rw [zu_i (by omega), zu_i (by omega)]; exact hH1.2.2.2.2.2.2 t ht)
      have hH2 : HI s2 := HI_fr8 z1 (fun j h1 h2 => g5 144 j (Or.inr ⟨h1, h2⟩) (Or.inl (by decide)) (by decide) (by decide) (by decide))
      have eN : N2 = X.1.length := by
        have := x2.1.1
        omega
      subst eN
      obtain ⟨k, rfl⟩ : ∃ k : Nat, r = (k : Int) := ⟨r.toNat, by omega⟩
      obtain ⟨gx, gy⟩ := hH1.2.2.2.2.2.2 k (by omega)
      obtain ⟨a1, a2, a3, a4, a5⟩ := wr_all ⟨gx.1, Int.le_refl _, gx.2, gy.1, Int.le_refl _, gy.2⟩ hk ha (by omega) x1
      refine zP'.bind (t_behindR so hH2 g2 x2 (by omega) a2 a1) (fun c s p => ?_)
      obtain ⟨m, L', ct', p1, p2, p3, p4, p5⟩ := p
      have er : rowsN s2 = rowsN s := funext (fun b => (p5.2.2.2 b).symm)
      rw [er] at p1 p5
      refine zP'.ret ⟨fun _ => ⟨L', ct', ⟨X, X, m, ?_, rfl, p1⟩, p2, by omega, p4, p5⟩, fun hn => absurd ⟨c1, c3⟩ hn⟩
      unfold oldR
      rw [if_pos c3]
      rw [e144, e144] at x1
      exact x1
    · rw [if_neg c2]
      exact zP'.ret ⟨fun h => absurd (by rw [h.2]; decide) c2, fun _ => ⟨rfl, by rw [if_pos c1]⟩⟩
  · rw [if_neg c1, if_neg (by decide)]
    exact zP'.ret ⟨fun h => absurd h.1 c1, fun _ => ⟨rfl, by rw [if_neg c1]⟩⟩
theorem old_eq {σ s1 : zS} (R : RW σ 41 144 147) (e : ∀ j, s1 144 j = σ 144 j) {r : Int} (hr : 0 ≤ r ∧ r < 60) : oldP σ (inS σ 144 r.toNat) r.toNat = oldR s1 r := by
  obtain ⟨k, rfl⟩ : ∃ k : Nat, r = (k : Int) := ⟨r.toNat, by omega⟩
  have ek : ((k : Int)).toNat = k := by omega
  rw [ek]
  obtain ⟨-, g2, g3, -⟩ := R.2 k (by omega)
  have g2 : σ 42 (k : Int) = σ 144 (21 + 3 * (k : Int)) := g2
  have g3 : σ 43 (k : Int) = σ 144 (22 + 3 * (k : Int)) := g3
  unfold oldP oldR inS
  rw [e, e, e, g2, g3]
  by_cases c : σ 144 (20 + 3 * (k : Int)) = 1
  · rw [if_pos (decide_eq_true (show k < 60 ∧ _ from ⟨by omega, c⟩)), if_pos c]
  · rw [if_neg (by rw [decide_eq_true_iff]; exact fun h => c h.2), if_neg c]
theorem qr_put {K : Int} {a b c d : Int} {σ : zS} (hK : K ≤ 2000000) (hd : okL d) (I : InvR K σ) : two (g_c_put a b c d σ) (g_m_put a b c d) (fun v w s => InvR (K + 2400) s ∧ v = w) := by
  obtain ⟨v, s1, e1, w, s2, e2, J⟩ := qs_put (a := a) (b := b) (c := c) (d := d) hd I.1
  refine ⟨v, s1, e1, w, s2, e2, ?_⟩
  obtain ⟨L, ct, C, M, hR, hk, A, B, hL⟩ := R_open I
  have so := R_st I
  obtain ⟨H1, G1, -⟩ := zO.at (g_c_put_sp I.1.ci) e1
  have ref := fr_ref G1
  have M1 : MI s1 := MI_cls I.1.mi ref
  have F := frI_of (mC (fun _ h => m_put h) s1 M1) e2
  have cl : ∀ a j, a < 143 → s2 a j = s1 a j := fun a j h => F a j (Or.inl h)
  have i1 := imE.of G1 (fun _ => ⟨rfl, rfl, rfl, rfl, rfl, rfl, rfl⟩)
  have sb : stB s1 50 := I.2.2.1.mv (fun j _ _ => G1 50 j (Or.inr rfl))
  have Mm := M.mv (s := s1) (by omega) (fun j _ _ => ref 144 j (by decide) (by decide)) (fun j _ _ => ref 147 j (by decide) (by decide))
  have Rm := hR.mv (s := s1) (by omega) (fun j _ _ => ref 144 j (by decide) (by decide))
  obtain ⟨p1, p2⟩ := k_put (r := a) (x := b) (y := c) (v := d) so I.1.ci I.1.rw.1 C hL hk A (by omega) v s1 e1
  obtain ⟨r1, r2⟩ := t_putR (r := a) (x := b) (y := c) (v := d) so M1.2.1 Rm Mm hL hk A (by omega) w s2 e2
  by_cases cc : acc a b c d
  · obtain ⟨I', rn', L1, c1, u1, u2, u3⟩ := p1 cc
    obtain ⟨L2, c2, v1, v2, v3, v4, v5⟩ := r1 cc
    have er := rn_two u2 J cl
    rw [er, old_eq I.1.rw (fun j => ref 144 j (by decide) (by decide)) cc.1] at u1
    obtain ⟨rfl, rfl⟩ := u1.det v1
    have FP := f_put M1 w s2 e2
    have ir : irE s1 s2 := fun a j k => FP a j (by omega) (by omega) (by omega) (by omega) (by omega) (by omega) (by omega) (by omega) (by omega)
    exact ⟨R_closeP J I.2 (by omega) i1 (rK.cls G1).ir cl ir u2 v5 v2 (by omega) sb (gL_PU u1 (by omega) (R_g I M.1)), u3.trans v4.symm⟩
  · obtain ⟨x1, y1⟩ := p2 cc
    obtain ⟨x2, y2⟩ := r2 cc
    refine ⟨?_, y1.trans y2.symm⟩
    rw [x2] at J ⊢
    rw [x1] at J ⊢
    exact ⟨J, I.2.mono (by omega)⟩
theorem qr_take {K : Int} {a : Int} {σ : zS} (hK : K ≤ 2000000) (I : InvR K σ) : two (g_c_take a σ) (g_m_take a) (fun v w s => InvR (K + 2400) s ∧ v = w) := by
  obtain ⟨v, s1, e1, w, s2, e2, J⟩ := qs_take (a := a) I.1
  refine ⟨v, s1, e1, w, s2, e2, ?_⟩
  obtain ⟨L, ct, C, M, hR, hk, A, B, hL⟩ := R_open I
  have so := R_st I
  obtain ⟨H1, G1, -⟩ := zO.at (g_c_take_sp I.1.ci) e1
  have ref := fr_ref G1
  have M1 : MI s1 := MI_cls I.1.mi ref
  have F := frI_of (mC (fun _ h => m_take h) s1 M1) e2
  have cl : ∀ a j, a < 143 → s2 a j = s1 a j := fun a j h => F a j (Or.inl h)
  have i1 := imE.of G1 (fun _ => ⟨rfl, rfl, rfl, rfl, rfl, rfl, rfl⟩)
  have sb : stB s1 50 := I.2.2.1.mv (fun j _ _ => G1 50 j (Or.inr rfl))
  have e144 : ∀ j, s1 144 j = σ 144 j := fun j => ref 144 j (by decide) (by decide)
  have Mm := M.mv (s := s1) (by omega) (fun j _ _ => e144 j) (fun j _ _ => ref 147 j (by decide) (by decide))
  have Rm := hR.mv (s := s1) (by omega) (fun j _ _ => e144 j)
  have h01 : (0 ≤ a ∧ a < 60) → (s1 144 (20 + 3 * a) = 0 ∨ s1 144 (20 + 3 * a) = 1) := fun hh => by
    obtain ⟨k, rfl⟩ : ∃ k : Nat, a = (k : Int) := ⟨a.toNat, by omega⟩
    rw [e144]
    exact (I.1.rw.2 k (by omega)).1
  obtain ⟨p1, p2⟩ := k_take (r := a) so I.1.ci I.1.rw.1 C hL hk A (by omega) v s1 e1
  obtain ⟨r1, r2⟩ := t_takeR (r := a) so M1.2.1 Rm Mm hL hk A (by omega) h01 w s2 e2
  have ii : (0 ≤ a ∧ a < 60) → (inS σ 144 a.toNat = true ↔ s1 144 (20 + 3 * a) = 1) := fun hh => by
    obtain ⟨k, rfl⟩ : ∃ k : Nat, a = (k : Int) := ⟨a.toNat, by omega⟩
    have ek : ((k : Int)).toNat = k := by omega
    rw [ek, e144]
    unfold inS
    rw [decide_eq_true_iff]
    exact ⟨fun h => h.2, fun h => ⟨by omega, h⟩⟩
  by_cases cc : (0 ≤ a ∧ a < 60) ∧ inS σ 144 a.toNat = true
  · obtain ⟨I', rn', L1, c1, u1, u2, u3⟩ := p1 cc
    obtain ⟨L2, c2, v1, v2, v3, v4, v5⟩ := r1 ⟨cc.1, (ii cc.1).mp cc.2⟩
    have er := rn_two u2 J cl
    rw [er, old_eq I.1.rw e144 cc.1] at u1
    obtain ⟨rfl, rfl⟩ := u1.det v1
    have FP := f_take M1 w s2 e2
    have ir : irE s1 s2 := fun a j k => FP a j (by omega) (by omega) (by omega) (by omega) (by omega) (by omega) (by omega) (by omega) (by omega)
    exact ⟨R_closeP J I.2 (by omega) i1 (rK.cls G1).ir cl ir u2 v5 v2 (by omega) sb (gL_PU u1 (by omega) (R_g I M.1)), u3.trans v4.symm⟩
  · obtain ⟨x1, y1⟩ := p2 cc
    obtain ⟨x2, y2⟩ := r2 (fun h => cc ⟨h.1, (ii h.1).mpr h.2⟩)
    refine ⟨?_, y1.trans y2.symm⟩
    rw [x2] at J ⊢
    rw [x1] at J ⊢
    exact ⟨J, I.2.mono (by omega)⟩
end
section
/-! 8k.rset -/
/-! THE REGIONS alike: settings -/
theorem wordV2_le {f : Int → Int} {L p : Int} : wordV 2 14 f L p ≤ 2 := by
  have h := wordG_le (c := charC 2) (f := f) (b := p) (e := wend f L 160 p) 14 0 0 0 (Int.le_refl 0)
  have e : bkC (charC 2) 14 0 = 2 := by decide +kernel
  rw [e] at h
  exact h
theorem wordV3_le {f : Int → Int} {L p : Int} : wordV 3 6 f L p ≤ 1 := by
  have h := wordG_le (c := charC 3) (f := f) (b := p) (e := wend f L 160 p) 6 0 0 0 (Int.le_refl 0)
  have e : bkC (charC 3) 6 0 = 1 := by decide +kernel
  rw [e] at h
  exact h
theorem wrdR_w {a Ln : Nat} {f : Int → Int} {L p v p' : Int} (h : wrdR a Ln f L p = .inr (v, p')) : v = wordV a Ln f L p := by
  unfold wrdR at h
  by_cases c : wordV a Ln f L p = -1
  · rw [if_pos c] at h
    cases h
  · rw [if_neg c] at h
    cases h
    rfl
def stO2 (g : Int → Int) : Prop := (0 ≤ g 3 ∧ g 3 ≤ 2) ∧ (g 4 = 0 ∨ g 4 = 1) ∧ (g 5 = 0 ∨ g 5 = 1)
theorem setP_rg2 {f : Int → Int} {L : Int} : ∀ (m : Nat) (p n : Int) (g : Int → Int), stO2 g → ∀ x, setP f L m p n g = .inr x → stO2 x.2
  | 0, _, _, _, _, _, e => by cases e
  | m + 1, p, n, g, h1, x, e => by
    rw [setP_1] at e
    cases e1 : set1 f L p with
    | inl q =>
      rw [e1] at e
      cases e
    | inr y =>
      rw [e1] at e
      dsimp only at e
      have hv : (y.1.1 = 3 → 0 ≤ y.1.2 ∧ y.1.2 ≤ 2) ∧ (y.1.1 = 4 → y.1.2 = 0 ∨ y.1.2 = 1) ∧ (y.1.1 = 5 → y.1.2 = 0 ∨ y.1.2 = 1) := by
        unfold set1 at e1
        cases k1 : wrdR 1 39 f L p with
        | inl q =>
          rw [k1] at e1
          cases e1
        | inr a =>
          rw [k1] at e1
          dsimp only at e1
          cases k2 : sgnR 32 f L a.2 with
          | inl q =>
            rw [k2] at e1
            cases e1
          | inr b =>
            rw [k2] at e1
            dsimp only at e1
            cases k3 : setV a.1 f L b.2 with
            | inl q =>
              rw [k3] at e1
              dsimp only [set1v] at e1
              cases e1
            | inr z =>
              rw [k3] at e1
              dsimp only [set1v] at e1
              cases e1
              dsimp only
              unfold setV at k3
              refine ⟨fun c => ?_, fun c => ?_, fun c => ?_⟩
              · rw [if_neg (by omega), if_neg (by omega), if_neg (by omega), if_pos c] at k3
                have k := wrdR_ok (v := z.1) (p' := z.2) k3
                have k4 := wrdR_w (v := z.1) (p' := z.2) k3
                have k5 := wordV2_le (f := f) (L := L) (p := b.2)
                omega
              · rw [if_neg (by omega), if_neg (by omega), if_neg (by omega), if_neg (by omega), if_neg (by omega)] at k3
                have k := wrdR_ok (v := z.1) (p' := z.2) k3
                have k4 := wrdR_w (v := z.1) (p' := z.2) k3
                have k5 := wordV3_le (f := f) (L := L) (p := b.2)
                omega
              · rw [if_neg (by omega), if_neg (by omega), if_neg (by omega), if_neg (by omega), if_neg (by omega)] at k3
                have k := wrdR_ok (v := z.1) (p' := z.2) k3
                have k4 := wrdR_w (v := z.1) (p' := z.2) k3
                have k5 := wordV3_le (f := f) (L := L) (p := b.2)
                omega
      have u : stO2 (updS g y.1.1 y.1.2) := by
        obtain ⟨a1, a2, a3⟩ := h1
        refine ⟨?_, ?_, ?_⟩
        · unfold updS
          split
          · rename_i c
            exact hv.1 c.symm
          · exact a1
        · unfold updS
          split
          · rename_i c
            exact hv.2.1 c.symm
          · exact a2
        · unfold updS
          split
          · rename_i c
            exact hv.2.2 c.symm
          · exact a3
      split at e
      · split at e
        · exact setP_rg2 m _ _ _ u x e
        · cases e
      · cases e
        exact u
theorem setP_rg0 {f : Int → Int} {L : Int} : ∀ (m : Nat) (p n : Int) (g : Int → Int), (0 ≤ g 0 ∧ g 0 ≤ 99) → ∀ x, setP f L m p n g = .inr x → (0 ≤ x.2 0 ∧ x.2 0 ≤ 99)
  | 0, _, _, _, _, _, e => by cases e
  | m + 1, p, n, g, h1, x, e => by
    rw [setP_1] at e
    cases e1 : set1 f L p with
    | inl q =>
      rw [e1] at e
      cases e
    | inr y =>
      rw [e1] at e
      dsimp only at e
      have hv : y.1.1 = 0 → 0 ≤ y.1.2 ∧ y.1.2 ≤ 99 := by
        unfold set1 at e1
        cases k1 : wrdR 1 39 f L p with
        | inl q =>
          rw [k1] at e1
          cases e1
        | inr a =>
          rw [k1] at e1
          dsimp only at e1
          cases k2 : sgnR 32 f L a.2 with
          | inl q =>
            rw [k2] at e1
            cases e1
          | inr b =>
            rw [k2] at e1
            dsimp only at e1
            cases k3 : setV a.1 f L b.2 with
            | inl q =>
              rw [k3] at e1
              dsimp only [set1v] at e1
              cases e1
            | inr z =>
              rw [k3] at e1
              dsimp only [set1v] at e1
              cases e1
              dsimp only
              unfold setV at k3
              refine fun c => ?_
              rw [if_pos c] at k3
              have k := numR_ok (v := z.1) (p' := z.2) k3
              exact ⟨k.1, k.2.1⟩
      have u : 0 ≤ updS g y.1.1 y.1.2 0 ∧ updS g y.1.1 y.1.2 0 ≤ 99 := by
        unfold updS
        split
        · rename_i c
          exact hv c.symm
        · exact h1
      split at e
      · split at e
        · exact setP_rg0 m _ _ _ u x e
        · cases e
      · cases e
        exact u
/-- what a text of settings makes of the regions -/
def setR (rn : Bx → Int) (r : Sum Int (Int × (Int → Int))) (L : List Rg) (ct : Int → Int) (L' : List Rg) (ct' : Int → Int) : Prop := match r with
  | .inl _ => L' = L ∧ ct' = ct
  | .inr x => ∃ m, TMn rn x.2 m (L, ct) (L', ct')
def stN (st : Int → Int) (r : Sum Int (Int × (Int → Int))) : Int → Int := match r with
  | .inl _ => st
  | .inr x => x.2
theorem gL_setR {rn : Bx → Int} {r : Sum Int (Int × (Int → Int))} {L L' : List Rg} {ct ct' : Int → Int} (h : setR rn r L ct L' ct') (g : gL L) : gL L' := by
  cases r with
  | inl q =>
    rw [h.1]
    exact g
  | inr x =>
    obtain ⟨m, a⟩ := h
    exact (gL_TMn m a g).1
theorem setR.det {rn : Bx → Int} {r : Sum Int (Int × (Int → Int))} {L L1 L2 : List Rg} {ct c1 c2 : Int → Int} (h1 : setR rn r L ct L1 c1) (h2 : setR rn r L ct L2 c2) : L1 = L2 ∧ c1 = c2 := by
  cases r with
  | inl q => exact ⟨h1.1.trans h2.1.symm, h1.2.trans h2.2.symm⟩
  | inr x =>
    obtain ⟨m, a⟩ := h1
    obtain ⟨n, b⟩ := h2
    have h := TMn.det _ _ a b
    exact ⟨congrArg Prod.fst h, congrArg Prod.snd h⟩
theorem kR_settings {σ : zS} {I : Nat → Bool} {rn : Bx → Int} {L : List Rg} {ct : Int → Int} (H : CI σ) (hb : byC σ) (so : stO1 (σ 50)) (hL : L.length ≤ 12) (hk : ∀ r ∈ L, hOk r) (C : cSt σ 48 I rn (σ 50) L ct) : zP' (g_c_settings σ) (fun _ s => ∃ L' ct', setR rn (setP (cT σ) (σ 120 1) 161 0 0 (S7 (σ 50))) L ct L' ct' ∧ cSt s 48 I rn (stN (σ 50) (setP (cT σ) (σ 120 1) 161 0 0 (S7 (σ 50)))) L' ct') := by
  have ht := CI.ct H
  unfold g_c_settings
  rw [c_begin]
  rw [Option.bind_some]
  try dsimp +instances only
  rw [c_seCopy]
  rw [Option.bind_some]
  try dsimp +instances only
  have H1 : CI (zcp (zu (zu σ 120 2 0) 120 3 (-1)) (49 + 1) 0 (118 + 1) 0 7) := by
    have h1 := (zP'.of (g_ta_begin_sp H) _ _ c_begin).1
    exact (zP'.of (g_se_copyFrom_sp (a0 := 118) (a1 := 49) (by omega) (by omega) h1) _ _ c_seCopy).1
  generalize hs1 : zcp (zu (zu σ 120 2 0) 120 3 (-1)) (49 + 1) 0 (118 + 1) 0 7 = s1 at H1
  have q1 : ∀ a j, a ≠ 119 → (a ≠ 120 ∨ (j ≠ 2 ∧ j ≠ 3)) → s1 a j = σ a j := fun a j k1 k2 => by rw [← hs1, zcp_a k1, zu_c (by omega), zu_c (by omega)]
  have q2 : s1 120 2 = 0 := by rw [← hs1, zcp_a (by decide), zu_i (by decide), zu_e rfl]
  have q3 : s1 120 3 = -1 := by rw [← hs1, zcp_a (by decide), zu_e rfl]
  have q119 : ∀ j, 0 ≤ j → j < 7 → s1 119 j = σ 50 j := fun j j1 j2 => by
    rw [← hs1]
    refine (zcp_e ⟨j1, by omega⟩).trans ?_
    rw [zu_a (by decide), zu_a (by decide), show 0 + (j - 0) = j by omega]
  have qL : s1 120 1 = σ 120 1 := q1 120 1 (by decide) (Or.inr (by decide))
  have q121 : s1 121 = σ 121 := funext (fun j => q1 121 j (by decide) (Or.inl (by decide)))
  have t1 : tpL s1 := by
    unfold tpL
    rw [qL, q2, q121]
    exact ⟨ht, by omega, hb⟩
  have eT : cT s1 = cT σ := by
    funext j
    unfold cT
    rw [qL, q121]
  have C1 : cSt s1 48 I rn (σ 50) L ct := C.mv (fun c j k => q1 c j (by omega) (Or.inl (by omega)))
  have P : zP' (g_se_readParts s1) (sePo s1 (setP (cT s1) (s1 120 1) 161 (s1 120 2) 0 (S7 (σ 50)))) := c_parts zK 161 0 (S7 (σ 50)) s1 t1 q3 (by omega) (by omega) (by omega) (fun j j1 j2 => (q119 j j1 j2).trans (S7_in j1 j2).symm)
  rw [eT, qL, q2] at P
  refine zP'.bind (P.and (zP'.of (g_se_readParts_sp H1))) (fun v s2 p2 => ?_)
  obtain ⟨⟨f2, r2⟩, H2, -, -⟩ := p2
  have C2 : cSt s2 48 I rn (σ 50) L ct := C1.mv (fun c j k => f2 c j (Or.inl (by omega)) (by omega))
  try dsimp +instances only
  rw [p_isSound]
  rw [Option.bind_some]
  try dsimp +instances only
  unfold g_c_settings_L73
  cases e : setP (cT σ) (σ 120 1) 161 0 0 (S7 (σ 50)) with
  | inl q =>
    rw [e] at r2
    have r2 : s2 120 3 = q := r2
    have hq := setP_bd 161 0 0 (S7 (σ 50)) (by omega) q e
    have n3 : ¬ s2 120 3 = -1 := by omega
    rw [if_neg n3, if_pos rfl, c_end, if_neg n3]
    rw [Option.bind_some]
    exact zP'.ret ⟨L, ct, ⟨rfl, rfl⟩, C2.mv (fun c j k => zu_a (by omega))⟩
  | inr x =>
    rw [e] at r2
    obtain ⟨r1, r3, r4⟩ := r2
    obtain ⟨rg1, rg2⟩ := setP_rg 161 0 0 (S7 (σ 50)) (by rw [S7_in (by decide) (by decide)]; exact so.1) (by rw [S7_in (by decide) (by decide)]; exact so.2.1) x e
    rw [if_pos r3, if_neg (by decide), c_seCopy]
    rw [Option.bind_some]
    try dsimp +instances only
    have H3 : CI (zcp s2 (118 + 1) 0 (49 + 1) 0 7) := (zP'.of (g_se_copyFrom_sp (a0 := 49) (a1 := 118) (by omega) (by omega) H2) _ _ c_seCopy).1
    have C3 : cSt (zcp s2 (118 + 1) 0 (49 + 1) 0 7) 48 I rn x.2 L ct := by
      obtain ⟨h1, h2, h3, h4, h5, h6⟩ := C2
      refine ⟨cRs_mv h1 (fun c j k => zcp_a (by omega)), fun i i1 i2 => (zcp_a (by decide)).trans (h2 i i1 i2), fun i i1 i2 => ?_, STb_mv h4 (fun c j k1 k2 => zcp_a (by omega)), h5, fun b => ?_⟩
      · refine (zcp_e ⟨i1, by omega⟩).trans ?_
        rw [show 0 + (i - 0) = i by omega]
        exact r4 i i1 i2
      · rw [rnC_mv (fun c j k1 k2 => zcp_a (by omega))]
        exact h6 b
    generalize hs3 : zcp s2 (118 + 1) 0 (49 + 1) 0 7 = s3 at H3 C3
    refine zP'.bind ((k_trim (Or.inl rfl) (by omega) (by omega) C3 (by omega) hk).and (zP'.of (g_ca_trim_sp (a0 := 48) (by omega) H3))) (fun _ s4 p4 => ?_)
    obtain ⟨⟨m, L', ct', p1, p2, p3, p4, p5⟩, -, G4, -⟩ := p4
    have e3 : s4 120 3 = -1 := by
      rw [G4 120 3 (Or.inr rfl), ← hs3, zcp_a (by decide)]
      exact r3
    try dsimp +instances only
    rw [c_end, if_pos e3]
    rw [Option.bind_some]
    exact zP'.ret ⟨L', ct', ⟨m, p1⟩, p4.mv (fun c j k => zu_a (by omega))⟩
theorem t_set105R {σ0 : zS} {x : Int} {rn : Bx → Int} {st : Int → Int} {L : List Rg} {ct : Int → Int} {g : Int → Int} (h : mSt σ0 rn st L ct) (hL : L.length ≤ 12) (hk : ∀ r ∈ L, hOk r) (ha : asc L (ct 8)) (h1 : 1 ≤ g 1) (h2 : 1 ≤ g 2) (h5 : g 5 = 0 ∨ g 5 = 1) : ∀ (n k : Nat) (s : zS), k ≤ 7 → (∀ j, (0 ≤ j ∧ j < 11) ∨ 18 ≤ j → s 144 j = σ0 144 j) → (∀ j, s 147 j = σ0 147 j) → (∀ j, 0 ≤ j → j < 7 → s 160 j = g j) → (∀ j : Int, 0 ≤ j → j < (k : Int) → s 144 (11 + j) = g j) → zP' (g_m_settings_L105 n x (k : Int) s) (fun _ t => ∃ m L' ct', TMn rn g m (L, ct) (L', ct') ∧ asc L' (ct' 8) ∧ ct' 8 = ct 8 ∧ mSt t rn g L' ct')
  | 0, _, _, _, _, _, _, _ => zP'.no
  | n + 1, k, s, hk7, hf, hf7, hg, hv => by
    unfold g_m_settings_L105
    refine zP'.ite (fun c => ?_) (fun c => ?_)
    · have M : mSt s rn g L ct := ⟨h.1.mv (fun j k => hf j (by omega)) (fun j _ _ => hf7 j) (by omega), h.2.1.mv (fun j _ _ => hf j (by omega)) (hf7 0), fun i i1 i2 => hv i i1 (by omega), fun b => (rowsN_fr (fun j j1 j2 => hf j (by omega)) b).trans (h.2.2.2 b)⟩
      refine zP'.bind (t_trims (by omega) (by omega) h5 M (by omega) hk ha) (fun _ s' p => ?_)
      obtain ⟨m, L', ct', p1, p2, p3, p4, p5, p6⟩ := p
      exact zP'.ret ⟨m, L', ct', p1, p4, p5, p6⟩
    · rw [w32_id (x := 11 + (k : Int)) (by omega) (by omega), w32_id (x := (k : Int) + 1) (by omega) (by omega), show (k : Int) + 1 = ((k + 1 : Nat) : Int) by omega]
      refine zP'.gd (fun _ => zP'.gd (fun _ => ?_))
      try dsimp +instances only
      refine t_set105R h hL hk ha h1 h2 h5 n (k + 1) _ (by omega) (fun j hj => (zu_i (by omega)).trans (hf j hj)) (fun j => (zu_a (by decide)).trans (hf7 j)) (fun j j1 j2 => (zu_a (by decide)).trans (hg j j1 j2)) (fun j j1 j2 => ?_)
      by_cases c2 : j = (k : Int)
      · rw [zu_e (by omega), hg _ (by omega) (by omega), c2]
      · rw [zu_i (by omega)]
        exact hv j j1 (by omega)
theorem t_settingsR {σ : zS} {rn : Bx → Int} {st : Int → Int} {L : List Rg} {ct : Int → Int} (h : MI σ) (hb : tpR σ) (so : stO2 (fun j => σ 144 (11 + j))) (M : mSt σ rn st L ct) (hL : L.length ≤ 12) (hk : ∀ r ∈ L, hOk r) (ha : asc L (ct 8)) : zP' (g_m_settings σ) (fun _ s => ∃ L' ct', setR rn (setP (mT σ) (σ 143 20) 161 0 0 (S7 (fun j => σ 144 (11 + j)))) L ct L' ct' ∧ asc L' (ct' 8) ∧ ct' 8 = ct 8 ∧ mSt s rn (stN st (setP (mT σ) (σ 143 20) 161 0 0 (S7 (fun j => σ 144 (11 + j))))) L' ct') := by
  have hx := h.2.2.1.1
  obtain ⟨i1, i2, -⟩ := h.2.1
  unfold g_m_settings
  refine m_set2 (σ0 := σ) (fun s hf hv => ?_) zK 0 σ (by omega) (fun _ _ _ => rfl) (fun j j1 j2 => absurd j2 (by omega))
  unfold g_m_begins
  try dsimp only
  rw [Option.bind_some]
  try dsimp only
  generalize hs1 : zu (zu s 143 21 0) 143 22 (-1) = s1
  have q1 : ∀ a j, (a ≠ 143 ∨ (j ≠ 21 ∧ j ≠ 22)) → s1 a j = s a j := fun a j k => by rw [← hs1, zu_c (by omega), zu_c (by omega)]
  have e20 : s1 143 20 = σ 143 20 := (q1 143 20 (Or.inr (by decide))).trans (hf 143 20 (by decide))
  have e21 : s1 143 21 = 0 := by rw [← hs1, zu_i (by decide), zu_e rfl]
  have e22 : s1 143 22 = -1 := by rw [← hs1, zu_e rfl]
  have e159 : s1 159 = σ 159 := funext (fun j => (q1 159 j (Or.inl (by decide))).trans (hf 159 j (by decide)))
  have e144 : ∀ j, s1 144 j = σ 144 j := fun j => (q1 144 j (Or.inl (by decide))).trans (hf 144 j (by decide))
  have e147 : ∀ j, s1 147 j = σ 147 j := fun j => (q1 147 j (Or.inl (by decide))).trans (hf 147 j (by decide))
  have e160 : ∀ j : Int, 0 ≤ j → j < 7 → s1 160 j = S7 (fun j => σ 144 (11 + j)) j := fun j j1 j2 => by
    rw [q1 160 j (Or.inl (by decide)), hv j j1 j2, S7_in j1 j2]
  have eT : mT s1 = mT σ := by
    funext j
    unfold mT
    rw [e20, e159]
  have t1 : tpP s1 := by
    unfold tpP tpR
    rw [e20, e21, e159]
    exact ⟨hx, by omega, hb⟩
  refine m_parts (σ0 := s1) zK 161 0 (S7 (fun j => σ 144 (11 + j))) s1 t1 e22 (by omega) (by omega) (by omega) (frS.refl s1) e160 ?_
  rw [eT, e20, e21]
  intro r t f p k
  cases k with
  | zero => exact zP'.no
  | succ k =>
    unfold g_m_settings_L37
    rw [if_pos rfl]
    try dsimp +instances only
    have z22 : zu t 143 20 0 143 22 = t 143 22 := zu_i (by decide)
    rw [z22]
    have z144 : ∀ j, zu t 143 20 0 144 j = σ 144 j := fun j => by rw [zu_a (by decide), f 144 _ (by decide) (Or.inl (by decide)), e144]
    have z147 : ∀ j, zu t 143 20 0 147 j = σ 147 j := fun j => by rw [zu_a (by decide), f 147 _ (by decide) (Or.inl (by decide)), e147]
    have Mz : mSt (zu t 143 20 0) rn st L ct := M.mv (by omega) (fun j _ _ => z144 j) (fun j _ _ => z147 j)
    cases e : setP (mT σ) (σ 143 20) 161 0 0 (S7 (fun j => σ 144 (11 + j))) with
    | inl q =>
      rw [e] at p
      have p : t 143 22 = q := p
      have hq := setP_bd 161 0 0 (S7 (fun j => σ 144 (11 + j))) hx.1 q e
      rw [if_neg (by omega)]
      exact zP'.ret ⟨L, ct, ⟨rfl, rfl⟩, ha, rfl, Mz⟩
    | inr y =>
      rw [e] at p
      obtain ⟨p1, p2, p3⟩ := p
      have rg := setP_rg 161 0 0 (S7 (fun j => σ 144 (11 + j))) (by rw [S7_in (by decide) (by decide)]; exact i1) (by rw [S7_in (by decide) (by decide)]; exact i2) y e
      have rg2 := setP_rg2 161 0 0 (S7 (fun j => σ 144 (11 + j))) (by unfold stO2; rw [S7_in (by decide) (by decide), S7_in (by decide) (by decide), S7_in (by decide) (by decide)]; exact so) y e
      rw [if_pos (by omega)]
      refine (t_set105R Mz hL hk ha rg.1.1 rg.2.1 rg2.2.2 zK 0 (zu t 143 20 0) (by omega) (fun _ _ => rfl) (fun _ => rfl) (fun j j1 j2 => (zu_a (by decide)).trans (p3 j j1 j2)) (fun j j1 j2 => absurd j2 (by omega))).imp (fun v u w => ?_)
      obtain ⟨m, L', ct', w1, w2, w3, w4⟩ := w
      exact ⟨L', ct', ⟨m, w1⟩, w2, w3, w4⟩
theorem qr_settings {K : Int} {σ : zS} (I : InvR K σ) : two (g_c_settings σ) g_m_settings (fun v w s => InvR (K + 2400) s ∧ v = w) := by
  obtain ⟨v, s1, e1, w, s2, e2, J, q⟩ := qs_settings I.1
  refine ⟨v, s1, e1, w, s2, e2, ?_, q⟩
  obtain ⟨L, ct, C, M, hR, hk, A, B, hL⟩ := R_open I
  have so := R_st I
  obtain ⟨H1, G1, -⟩ := zO.at (g_c_settings_sp I.1.ci) e1
  have ref := fr_ref G1
  have M1 : MI s1 := MI_cls I.1.mi ref
  have F := f_settings5 M1 w s2 e2
  have cl : ∀ a j, a < 143 → s2 a j = s1 a j := fun a j h => F a j (Or.inl h)
  have ir : irE s1 s2 := fun a j k => F a j (by omega)
  have i1 := imE.of G1 (fun _ => ⟨rfl, rfl, rfl, rfl, rfl, rfl, rfl⟩)
  have Mm := M.mv (s := s1) (by omega) (fun j _ _ => ref 144 j (by decide) (by decide)) (fun j _ _ => ref 147 j (by decide) (by decide))
  have hL0 : σ 120 1 = σ 143 20 := I.1.1.1.1.2.2.1
  have e159 : s1 159 = σ 159 := funext (fun j => ref 159 j (by decide) (by decide))
  have e20 : s1 143 20 = σ 143 20 := ref 143 20 (by decide) (by decide)
  have e144 : ∀ j, s1 144 j = σ 144 j := fun j => ref 144 j (by decide) (by decide)
  have hTR : tpR s1 := by
    unfold tpR
    rw [e20, e159]
    exact I.1.1.2.m hL0
  have eT : mT s1 = cT σ := by
    rw [cT_mT hL0 I.1.1.2]
    unfold mT
    rw [e20, e159]
  have eS : S7 (fun j => s1 144 (11 + j)) = S7 (σ 50) := S7_ext (fun j j1 j2 => by
    rw [e144]
    exact (I.1.2.1 j j1 j2).symm)
  have so2 : stO2 (fun j => s1 144 (11 + j)) := by
    show (0 ≤ s1 144 (11 + 3) ∧ s1 144 (11 + 3) ≤ 2) ∧ (s1 144 (11 + 4) = 0 ∨ s1 144 (11 + 4) = 1) ∧ (s1 144 (11 + 5) = 0 ∨ s1 144 (11 + 5) = 1)
    rw [e144, e144, e144, ← I.1.2.1 3 (by decide) (by decide), ← I.1.2.1 4 (by decide) (by decide), ← I.1.2.1 5 (by decide) (by decide)]
    exact I.2.2.1.1
  obtain ⟨L1, c1, u1, u2⟩ := kR_settings I.1.ci I.1.1.2.c so hL hk C v s1 e1
  obtain ⟨L2, c2, v1, v2, v3, v4⟩ := t_settingsR M1 hTR so2 Mm hL hk A w s2 e2
  rw [eT, e20, eS, ← hL0] at v1 v4
  obtain ⟨rfl, rfl⟩ := u1.det v1
  have sb : stB s1 50 := by
    have g : stO2 (stN (σ 50) (setP (cT σ) (σ 120 1) 161 0 0 (S7 (σ 50)))) := by
      cases e : setP (cT σ) (σ 120 1) 161 0 0 (S7 (σ 50)) with
      | inl q => exact I.2.2.1.1
      | inr y => exact setP_rg2 161 0 0 (S7 (σ 50)) (by unfold stO2; rw [S7_in (by decide) (by decide), S7_in (by decide) (by decide), S7_in (by decide) (by decide)]; exact I.2.2.1.1) y e
    have e3 : s1 50 3 = stN (σ 50) (setP (cT σ) (σ 120 1) 161 0 0 (S7 (σ 50))) 3 := u2.2.2.1 3 (by decide) (by decide)
    have e4 : s1 50 4 = stN (σ 50) (setP (cT σ) (σ 120 1) 161 0 0 (S7 (σ 50))) 4 := u2.2.2.1 4 (by decide) (by decide)
    have e5 : s1 50 5 = stN (σ 50) (setP (cT σ) (σ 120 1) 161 0 0 (S7 (σ 50))) 5 := u2.2.2.1 5 (by decide) (by decide)
    have g0 : 0 ≤ stN (σ 50) (setP (cT σ) (σ 120 1) 161 0 0 (S7 (σ 50))) 0 ∧ stN (σ 50) (setP (cT σ) (σ 120 1) 161 0 0 (S7 (σ 50))) 0 ≤ 99 := by
      cases e : setP (cT σ) (σ 120 1) 161 0 0 (S7 (σ 50)) with
      | inl q => exact I.2.2.1.2
      | inr y => exact setP_rg0 161 0 0 (S7 (σ 50)) (by rw [S7_in (by decide) (by decide)]; exact I.2.2.1.2) y e
    have e0 : s1 50 0 = stN (σ 50) (setP (cT σ) (σ 120 1) 161 0 0 (S7 (σ 50))) 0 := u2.2.2.1 0 (by decide) (by decide)
    unfold stB
    rw [e3, e4, e5, e0]
    exact ⟨g, g0⟩
  exact R_closeP J I.2 (by omega) i1 (rK.cls G1).ir cl ir u2 v4 v2 (by omega) sb (gL_setR u1 (R_g I M.1))
end
section
/-! 8l.rrun -/
/-! THE REGIONS alike: run -/
/-- a state of the reference that tells these regions: it may be one that no call reaches -/
def VRg (rn : Bx → Int) (st : Int → Int) (L : List Rg) (ct : Int → Int) (τ : zS) : Prop := mSt τ rn st L ct ∧ RI τ L.length ∧ L.length ≤ 12 ∧ asc L (ct 8)
theorem VRg.step {rn : Bx → Int} {st : Int → Int} {L : List Rg} {ct : Int → Int} {τ : zS} {q : Bx} (so : stO1 st) (h : VRg rn st L ct τ) (h8 : 0 ≤ ct 8 ∧ ct 8 + 169 < 2147483648) (hq : bOk q) : ∃ L' ct' τ', srvR rn st q L ct L' ct' ∧ VRg rn st L' ct' τ' ∧ (ct 8 ≤ ct' 8 ∧ ct' 8 ≤ ct 8 + 169) := by
  obtain ⟨M, R, hL, A⟩ := h
  obtain ⟨o1, o2, o3, o4, o5⟩ := so
  have M1 : mSt (zb τ 152 0 q) rn st L ct := M.mv (by omega) (fun j _ _ => zb_a (by decide)) (fun j _ _ => zb_a (by decide))
  have R1 : RI (zb τ 152 0 q) L.length := R.mv (by omega) (fun j _ _ => zb_a (by decide))
  have e13 : zb τ 152 0 q 144 13 = st 2 := M1.2.2.1 2 (by decide) (by decide)
  have e12 : zb τ 152 0 q 144 12 = st 1 := M1.2.2.1 1 (by decide) (by decide)
  obtain ⟨s, N, e1, e2, e3, e4, e5⟩ := s_queries (q := q) R1 M1.1.1 hL hq (zb_bx rfl) (by omega) (by omega) (by omega)
  obtain ⟨L', ct', p1, p2, p3, p4, p5⟩ := t_queries (q := q) (by omega) (by omega) o4 o5 R1 M1 hL hq (zb_bx rfl) A h8 _ s e1
  have eN : N = L'.length := by
    have := p5.1.1
    omega
  subst eN
  exact ⟨L', ct', s, p1, ⟨p5, e2, e4, p3⟩, p4⟩
theorem VRg.ok {rn : Bx → Int} {st : Int → Int} {L : List Rg} {ct : Int → Int} {τ : zS} (h : VRg rn st L ct τ) : (∀ r ∈ L, hOk r) ∧ (L.map (fun r => r.1)).Pairwise (fun a b => ¬ bMt a b) := ⟨ok_of h.1.1 h.2.1, pw_of h.1.1 h.2.1⟩
def srvL (rn : Bx → Int) (st : Int → Int) : List Bx → List Rg → (Int → Int) → List Rg → (Int → Int) → Prop
  | [], L, ct, L', ct' => L' = L ∧ ct' = ct
  | q :: l, L, ct, L', ct' => ∃ L1 c1, srvR rn st q L ct L1 c1 ∧ srvL rn st l L1 c1 L' ct'
theorem srvL.det {rn : Bx → Int} {st : Int → Int} : ∀ (l : List Bx) {L L1 L2 : List Rg} {ct c1 c2 : Int → Int}, srvL rn st l L ct L1 c1 → srvL rn st l L ct L2 c2 → L1 = L2 ∧ c1 = c2
  | [], _, _, _, _, _, _, h1, h2 => ⟨h1.1.trans h2.1.symm, h1.2.trans h2.2.symm⟩
  | q :: l, _, _, _, _, _, _, h1, h2 => by
    obtain ⟨A, a, a1, a2⟩ := h1
    obtain ⟨B, b, b1, b2⟩ := h2
    obtain ⟨rfl, rfl⟩ := a1.det b1
    exact srvL.det l a2 b2
theorem k_run37R {I : Nat → Bool} {σ : zS} {l : List zQy} {rn : Bx → Int} {st : Int → Int} (so : stO1 st) (hl : l.length ≤ 8) (ok : ∀ Q ∈ l, (0 ≤ Q.1 ∧ Q.1 ≤ 6) ∧ bOk Q.2.1) (S : ST σ 41 I) (o4 : ok44 σ) : ∀ (n k : Nat) (s τ : zS) (L : List Rg) (ct : Int → Int), k ≤ l.length → CI s → stE σ s → s 120 3 = -1 → s 122 5 = (l.length : Int) → quH I l s → VRg rn st L ct τ → (0 ≤ ct 8 ∧ ct 8 + 169 * ((l.length : Int) - (k : Int)) < 2147483000) → cSt s 48 I rn st L ct → zP' (g_c_run_L37 n (k : Int) s) (fun _ t => ∃ L' ct', srvL rn st ((l.drop k).map (fun Q => Q.2.1)) L ct L' ct' ∧ cSt t 48 I rn st L' ct')
  | 0, _, _, _, _, _, _, _, _, _, _, _, _, _, _ => zP'.no
  | n + 1, k, s, τ, L, ct, hk, H, e, h3, h5, hq, V, h8, C => by
    unfold g_c_run_L37
    try dsimp +instances only
    rw [h5]
    by_cases c : (l.length : Int) ≤ (k : Int)
    · have ek : k = l.length := by omega
      subst ek
      rw [if_pos c]
      unfold g_c_run_L100
      try dsimp +instances only
      rw [c_end, if_pos h3]
      rw [Option.bind_some]
      rw [List.drop_length]
      exact zP'.ret ⟨L, ct, ⟨rfl, rfl⟩, C.mv (fun c j k => zu_a (by omega))⟩
    · have hk' : k < l.length := by omega
      obtain ⟨okm, okb⟩ := ok l[k] (List.getElem_mem hk')
      obtain ⟨q1, q2, q3⟩ := hq k hk'
      rw [if_neg c, if_neg (by omega), if_pos (by omega), if_pos (by omega), if_pos (by omega), q1, q2]
      have S1 := ST_E S e
      have o41 : ok44 s := fun r hr => by
        rw [e 44 _ (by unfold stK; omega)]
        exact o4 r hr
      obtain ⟨v1, v2⟩ := V.ok
      refine zP'.bind ((k_done (T := l[k].2.2.2) H S1 okb okm o41 q3 (by have := so.1; omega) (by have := so.2.1; omega) V.2.2.1 v1 v2 C).and (zP'.of (g_c_done_sp H))) (fun v t p => ?_)
      obtain ⟨⟨L1, c1, p1, p2⟩, Ht, Gt, -⟩ := p
      obtain ⟨L2, c2, τ2, w1, w2, w3⟩ := V.step so (by omega) okb
      obtain ⟨rfl, rfl⟩ := p1.det w1
      try dsimp +instances only
      rw [if_pos (by omega), w32_id (x := (k : Int) + 1) (by omega) (by omega), show (k : Int) + 1 = ((k + 1 : Nat) : Int) by omega]
      have et : stE s t := stE.of Gt (fun _ => ⟨rfl, rfl, rfl, rfl, rfl, rfl, rfl⟩)
      have z : ∀ a j, a ≠ 128 → zu t 128 (k : Int) v a j = t a j := fun a j ha => zu_a (by omega)
      have ez : stE σ (zu t 128 (k : Int) v) := (e.trans et).trans (fun a j hh => z a j (by unfold stK at hh; omega))
      refine (k_run37R so hl ok S o4 n (k + 1) _ τ2 L1 c1 (by omega) (CI_zun Ht (by decide) (by decide) rfl) ez ?_ ?_ ?_ w2 (by omega) (p2.mv (fun c j k => z c j (by omega)))).imp (fun _ u g => ?_)
      · rw [z 120 3 (by decide), Gt 120 3 (Or.inr rfl)]
        exact h3
      · rw [z 122 5 (by decide), Gt 122 5 (Or.inr rfl)]
        exact h5
      · intro i hi
        rw [z 123 _ (by decide), z 124 _ (by decide), z 125 _ (by decide), Gt 123 _ (Or.inr rfl), Gt 124 _ (Or.inr rfl), Gt 125 _ (Or.inr rfl)]
        exact hq i hi
      · obtain ⟨L', ct', g1, g2⟩ := g
        refine ⟨L', ct', ?_, g2⟩
        rw [List.drop_eq_getElem_cons hk']
        exact ⟨L1, c1, p1, g1⟩
/-- what a text of queries makes of the regions -/
def runR (rn : Bx → Int) (st : Int → Int) (r : Sum Int (List zQy)) (L : List Rg) (ct : Int → Int) (L' : List Rg) (ct' : Int → Int) : Prop := match r with
  | .inl _ => L' = L ∧ ct' = ct
  | .inr l => srvL rn st (l.map (fun Q => Q.2.1)) L ct L' ct'
theorem gL_srvL {rn : Bx → Int} {st : Int → Int} : ∀ (l : List Bx) {L L' : List Rg} {ct ct' : Int → Int}, srvL rn st l L ct L' ct' → (∀ q ∈ l, 0 ≤ q.1) → st 2 ≤ 12 → L.length ≤ 12 → 0 ≤ ct 8 → ct 8 + 16777216 * (l.length : Int) < 2147483648 → gL L → gL L'
  | [], _, _, _, _, h, _, _, _, _, _, g => by
    rw [h.1]
    exact g
  | q :: l, L, L', ct, ct', h, hq, s2, hL, h0, h8, g => by
    obtain ⟨L1, c1, h1, h2⟩ := h
    rw [List.length_cons] at h8
    obtain ⟨a, b, c, d⟩ := gL_srv h1 (hq q List.mem_cons_self) s2 hL (by omega) g
    exact gL_srvL l h2 (fun x hx => hq x (List.mem_cons_of_mem _ hx)) s2 b (by omega) (by omega) a
theorem gL_run {rn : Bx → Int} {st : Int → Int} {r : Sum Int (List zQy)} {L L' : List Rg} {ct ct' : Int → Int} (h : runR rn st r L ct L' ct') (hq : ∀ l, r = .inr l → l.length ≤ 8 ∧ ∀ Q ∈ l, 0 ≤ Q.2.1.1) (s2 : st 2 ≤ 12) (hL : L.length ≤ 12) (h8 : 0 ≤ ct 8 ∧ ct 8 ≤ 2000000000) (g : gL L) : gL L' := by
  cases r with
  | inl q =>
    rw [h.1]
    exact g
  | inr l =>
    refine gL_srvL _ (show srvL rn st (l.map (fun Q => Q.2.1)) L ct L' ct' from h) (fun q k => ?_) s2 hL h8.1 (by have := (hq l rfl).1; rw [List.length_map]; omega) g
    obtain ⟨Q, k0, rfl⟩ := List.mem_map.mp k
    exact (hq l rfl).2 Q k0
theorem runR.det {rn : Bx → Int} {st : Int → Int} {r : Sum Int (List zQy)} {L L1 L2 : List Rg} {ct c1 c2 : Int → Int} (h1 : runR rn st r L ct L1 c1) (h2 : runR rn st r L ct L2 c2) : L1 = L2 ∧ c1 = c2 := by
  cases r with
  | inl q => exact ⟨h1.1.trans h2.1.symm, h1.2.trans h2.2.symm⟩
  | inr l => exact srvL.det _ h1 h2
theorem k_runR {I : Nat → Bool} {ev : Int → Int → Int} {σ τ : zS} {rn : Bx → Int} {st : Int → Int} {L : List Rg} {ct : Int → Int} (so : stO1 st) (H : CI σ) (hb : byC σ) (S : ST σ 41 I) (o4 : ok44 σ) (hev : ∀ q : Nat, q < 60 → I q = true → ∀ l : Int, 0 ≤ l → l ≤ 3 → cev σ l (q : Int) = ev l (q : Int)) (V : VRg rn st L ct τ) (h8 : 0 ≤ ct 8 ∧ ct 8 ≤ 2000000) (C : cSt σ 48 I rn st L ct) : zP' (g_c_run σ) (fun _ t => ∃ L' ct', runR rn st (runP ev (cT σ) (σ 120 1) 8 0 []) L ct L' ct' ∧ cSt t 48 I rn st L' ct') := by
  have ht := CI.ct H
  unfold g_c_run
  rw [c_begin]
  rw [Option.bind_some]
  try dsimp +instances only
  have Hb : CI (zu (zu σ 120 2 0) 120 3 (-1)) := (zP'.of (g_ta_begin_sp H) _ _ c_begin).1
  have PP : zP' (g_qu_readParts (zu (zu σ 120 2 0) 120 3 (-1))) (fun _ s => frQu σ s ∧ quPo I (zu (zu (zu σ 120 2 0) 120 3 (-1)) 122 5 0) (runP ev (cT σ) (σ 120 1) 8 0 []) s) := by
    unfold g_qu_readParts
    try dsimp +instances only
    have f0 : frQu σ (zu (zu (zu σ 120 2 0) 120 3 (-1)) 122 5 0) := fun a j k1 k2 k3 k4 k5 => by rw [zu_c k5, zu_c (by omega), zu_c (by omega)]
    have e2 : zu (zu (zu σ 120 2 0) 120 3 (-1)) 122 5 0 120 2 = 0 := by rw [zu_a (by decide), zu_i (by decide), zu_e rfl]
    have e3 : zu (zu (zu σ 120 2 0) 120 3 (-1)) 122 5 0 120 3 = -1 := by rw [zu_a (by decide), zu_e rfl]
    have e5 : zu (zu (zu σ 120 2 0) 120 3 (-1)) 122 5 0 122 5 = 0 := zu_e rfl
    generalize zu (zu (zu σ 120 2 0) 120 3 (-1)) 122 5 0 = s1 at f0 e2 e3 e5
    have t1 : tpL s1 := by
      have e121 : s1 121 = σ 121 := funext (fun j => f0 121 j (Or.inl (by decide)) (by decide) (by decide) (by decide) (Or.inl (by decide)))
      unfold tpL
      rw [f0.L, e2, e121]
      exact ⟨ht, by omega, hb⟩
    have H1 : CI s1 := CI_Qu H f0 (by omega) (by omega)
    have O1 : exOk I ev s1 := (show exOk I ev σ from ⟨H, S, hev⟩).q f0 H1
    have P := c_runP (I := I) (ev := ev) zK 8 [] s1 t1 e3 O1 rfl (by decide) (fun i hi => absurd hi (Nat.not_lt_zero _))
    rw [f0.T, f0.L, e2] at P
    have P : zP' (g_qu_readParts_L9 zK 1 0 s1) (fun _ s => quPo I s1 (runP ev (cT σ) (σ 120 1) 8 0 []) s) := P
    exact P.imp (fun _ s p => ⟨f0.trans p.1, p⟩)
  refine zP'.bind (PP.and (zP'.of (g_qu_readParts_sp Hb))) (fun _ s2 p2 => ?_)
  obtain ⟨⟨F2, f2, p2⟩, H2, -, -⟩ := p2
  have C2 : cSt s2 48 I rn st L ct := C.mv (fun c j k => F2 c j (Or.inl (by omega)) (by omega) (by omega) (by omega) (Or.inl (by omega)))
  try dsimp +instances only
  rw [p_isSound]
  rw [Option.bind_some]
  try dsimp +instances only
  have ok := runP_ok (ev := ev) (f := cT σ) (L := σ 120 1) 8 0 [] (by decide) (by omega) rfl (fun Q hQ => absurd hQ List.not_mem_nil)
  cases e : runP ev (cT σ) (σ 120 1) 8 0 [] with
  | inl q =>
    rw [e] at p2
    have p2 : s2 120 3 = q := p2
    have hq := ok.1 q e
    have n3 : ¬ s2 120 3 = -1 := by omega
    rw [if_neg n3, if_pos rfl]
    unfold g_c_run_L100
    try dsimp +instances only
    rw [c_end, if_neg n3]
    rw [Option.bind_some]
    exact zP'.ret ⟨L, ct, ⟨rfl, rfl⟩, C2.mv (fun c j k => zu_a (by omega))⟩
  | inr l =>
    rw [e] at p2
    obtain ⟨q3, q5, q6⟩ := p2
    rw [if_pos q3, if_neg (by decide)]
    obtain ⟨l8, l0, lq⟩ := ok.2 l e
    have H3 : CI (zu s2 39 9 (s2 122 5)) := CI_zuy H2 (by decide) (by decide) (lo := 0) (hi := 8) rfl (by omega) (by omega)
    have z : ∀ a j, a ≠ 39 → zu s2 39 9 (s2 122 5) a j = s2 a j := fun a j ha => zu_a (by omega)
    have e2 : stE σ (zu s2 39 9 (s2 122 5)) := fun a j hh => by
      unfold stK at hh
      rw [z a j (by omega)]
      exact F2 a j (Or.inl (by omega)) (by omega) (by omega) (by omega) (Or.inl (by omega))
    exact k_run37R so l8 (fun Q hQ => ⟨(lq Q hQ).1, (lq Q hQ).2.1⟩) S o4 zK 0 _ τ L ct (Nat.zero_le _) H3 e2 ((z 120 3 (by decide)).trans q3) ((z 122 5 (by decide)).trans q5) (fun i hi => by
      rw [z 123 _ (by decide), z 124 _ (by decide), z 125 _ (by decide)]
      exact q6 i hi) V (by omega) (C2.mv (fun c j k => z c j (by omega)))
theorem m_run86R {σ : zS} {l : List zQy} {rn : Bx → Int} {st : Int → Int} (so : stO1 st) (hl : l.length ≤ 8) (h0 : 0 < l.length) (hL : 0 ≤ σ 143 20 ∧ σ 143 20 ≤ 160) (hb : tpR σ) (ok : ∀ Q ∈ l, qOkP (mev σ) (mT σ) (σ 143 20) Q) (o7 : ok147 σ) : ∀ (n k : Nat) (s : zS) (L : List Rg) (ct : Int → Int), k ≤ l.length → MI s → tpK σ s → s 143 22 = -1 → quR' l s → mSt s rn st L ct → asc L (ct 8) → (0 ≤ ct 8 ∧ ct 8 + 169 * ((l.length : Int) - (k : Int)) < 2147483000) → zP' (g_m_run_L86 n (l.length : Int) (k : Int) s) (fun _ t => ∃ L' ct', srvL rn st ((l.drop k).map (fun Q => Q.2.1)) L ct L' ct' ∧ asc L' (ct' 8) ∧ (ct 8 ≤ ct' 8 ∧ ct' 8 ≤ ct 8 + 169 * ((l.length : Int) - (k : Int))) ∧ mSt t rn st L' ct')
  | 0, _, _, _, _, _, _, _, _, _, _, _, _ => zP'.no
  | n + 1, k, s, L, ct, hk, h, kp, hs, hq, M, A, h8 => by
    have l161 : zLI 161 = 48 := rfl
    have l152 : zLI 152 = 4 := rfl
    obtain ⟨R0, L12⟩ := RI_at M.1 h.1
    unfold g_m_run_L86
    by_cases c : (l.length : Int) ≤ (k : Int)
    · have ek : k = l.length := by omega
      subst ek
      rw [if_pos c]
      unfold g_m_run_L145
      try dsimp +instances only
      have e22 : zu s 143 20 0 143 22 = -1 := (zu_i (by decide)).trans hs
      rw [if_neg (by rw [e22]; decide)]
      rw [List.drop_length]
      exact zP'.ret ⟨L, ct, ⟨rfl, rfl⟩, A, by omega, M.mv (by omega) (fun j _ _ => zu_a (by decide)) (fun j _ _ => zu_a (by decide))⟩
    · have hk' : k < l.length := by omega
      have okQ := ok l[k] (List.getElem_mem hk')
      obtain ⟨q1, q2, q3⟩ := hq k hk'
      rw [if_neg c, w32_id (x := 6 * (k : Int)) (by omega) (by omega), w32_id (x := 6 * (k : Int) + 1) (by omega) (by omega), s_copies (by omega) (by omega) (by omega) (by omega) (by omega) (by omega)]
      rw [Option.bind_some]
      try dsimp +instances only
      rw [if_pos (by omega), w32_id (x := 6 * (k : Int) + 5) (by omega) (by omega), if_pos (by omega)]
      generalize hs1 : zb s 152 0 (bxA s 161 (6 * (k : Int) + 1)) = s1
      have f1 : ∀ a j, a ≠ 152 → s1 a j = s a j := fun a j ha => by rw [← hs1]; exact zb_a ha
      have hb1 : bxA s1 152 0 = l[k].2.1 := by rw [← hs1, ← q2]; exact zb_bx rfl
      have h1 : MI s1 := MI_144 h (fun a j hh => f1 a j (by omega))
      have k1 : tpK σ s1 := kp.trans ⟨f1 143 20 (by decide), fun j => f1 159 j (by decide), fun j _ _ => f1 144 j (by decide), fun j _ _ => f1 147 j (by decide)⟩
      rw [f1 161 _ (by decide), f1 161 _ (by decide), q1, q3]
      obtain ⟨N, n1, n2, n3⟩ := h1.1
      have hp : plR s1 := fun r hr => h1.2.1.2.2.2.2.2.2 r hr
      have o71 : ok147 s1 := fun r hr => by
        rw [k1.2.2.2 _ (by omega) (by omega)]
        exact o7 r hr
      obtain ⟨t, N', e1, e2, e3, e4, e5, e6, e7, e8⟩ := t_askedQ hL hb k1 okQ n3 n2 n1 hb1 h1.2.1.2.1.1 h1.2.1.2.1.2 h1.2.1.1.1 hp o71
      have M1 : mSt s1 rn st L ct := M.mv (by omega) (fun j _ _ => f1 144 j (by decide)) (fun j _ _ => f1 147 j (by decide))
      have R1 : RI s1 L.length := R0.mv (by omega) (fun j _ _ => f1 144 j (by decide))
      have tso : ∀ u, frQ s1 u → tstOk u l[k].2.2.1 := fun u g => tst_ok (by rw [(k1.trans (tpK.Q g)).1]; exact hL) (by
        rcases okQ.2.2 with h | h
        · omega
        · omega)
      obtain ⟨L1, c1, w1, w2, w3, w4⟩ := t_askedR (x := l[k].1) (t := l[k].2.2.1) so R1 M1 L12 okQ.2.1 hb1 A (by omega) tso _ t e1
      rw [e1]
      rw [Option.bind_some]
      try dsimp +instances only
      rw [if_pos (by omega), w32_id (x := (k : Int) + 1) (by omega) (by omega)]
      have q : ∀ a j, (a < 143 ∨ 168 ≤ a ∨ a = 159 ∨ a = 161 ∨ a = 162 ∨ a = 166 ∨ a = 167 ∨ a = 145 ∨ a = 148 ∨ (a = 144 ∧ ((9 ≤ j ∧ j < 200) ∨ (260 ≤ j ∧ j < 340))) ∨ (a = 147 ∧ 1 ≤ j ∧ j < 61) ∨ (a = 143 ∧ (j = 6 ∨ j = 20 ∨ j = 27 ∨ j = 29 ∨ j = 32))) → t a j = s1 a j := fun a j hh => e7 a j (by omega) (by omega) (by omega) (by omega) (by omega) (by omega) (by omega) (by omega)
      have hH2 : HI t := HI_fr h1.2.1 (fun j hj => q 144 j (by omega)) e8
      have h2 : MI t := MI_q h1 ⟨N', e6, e5, e4⟩ hH2 (fun a j hh => q a j (by omega))
      generalize hv : valR (σ 144) (σ 147) l[k].2.1 l[k].2.2.2 l[k].1 = v
      have h3 : MI (zu t 162 (k : Int) v) := MI_144 h2 (fun a j hh => zu_a (by omega))
      have z : ∀ a j, a ≠ 162 → zu t 162 (k : Int) v a j = t a j := fun a j ha => zu_a (by omega)
      have L1b : L1.length ≤ 12 := by
        have := w4.1.1
        omega
      rw [show (k : Int) + 1 = ((k + 1 : Nat) : Int) by omega]
      refine (m_run86R so hl h0 hL hb ok o7 n (k + 1) _ L1 c1 (by omega) h3 (k1.trans ⟨?_, fun j => ?_, fun j j1 j2 => ?_, fun j j1 j2 => ?_⟩) ?_ ?_ (w4.mv (by omega) (fun j _ _ => z 144 j (by decide)) (fun j _ _ => z 147 j (by decide))) w2 (by omega)).imp (fun _ u g => ?_)
      · rw [z 143 20 (by decide)]
        exact q 143 20 (by omega)
      · rw [z 159 j (by decide)]
        exact q 159 j (by omega)
      · rw [z 144 j (by decide)]
        exact q 144 j (by omega)
      · rw [z 147 j (by decide)]
        exact q 147 j (by omega)
      · rw [z 143 22 (by decide), e3, f1 143 22 (by decide)]
        exact hs
      · intro i hi
        have g := hq i hi
        have e : ∀ j, zu t 162 (k : Int) v 161 j = s 161 j := fun j => (z 161 j (by decide)).trans ((q 161 j (by omega)).trans (f1 161 j (by decide)))
        have eb : bxA (zu t 162 (k : Int) v) 161 (6 * (i : Int) + 1) = bxA s 161 (6 * (i : Int) + 1) := by
          unfold bxA
          rw [e, e, e, e]
        rw [e, e, eb]
        exact g
      · obtain ⟨L', ct', g1, g2, g3, g4⟩ := g
        refine ⟨L', ct', ?_, g2, by omega, g4⟩
        rw [List.drop_eq_getElem_cons hk']
        exact ⟨L1, c1, w1, g1⟩
theorem m_runR {σ : zS} {rn : Bx → Int} {st : Int → Int} {L : List Rg} {ct : Int → Int} (so : stO1 st) (h : MI σ) (hb : tpR σ) (o7 : ok147 σ) (M : mSt σ rn st L ct) (A : asc L (ct 8)) (h8 : 0 ≤ ct 8 ∧ ct 8 ≤ 2000000) : zP' (g_m_run σ) (fun _ t => ∃ L' ct', runR rn st (runP (mev σ) (mT σ) (σ 143 20) 8 0 []) L ct L' ct' ∧ asc L' (ct' 8) ∧ (ct 8 ≤ ct' 8 ∧ ct' 8 ≤ ct 8 + 1352) ∧ mSt t rn st L' ct') := by
  have h20 := h.2.2.1.1
  obtain ⟨-, L12⟩ := RI_at M.1 h.1
  have ok := runP_ok (ev := mev σ) (f := mT σ) (L := σ 143 20) 8 0 [] (by decide) h20.1 rfl (fun Q hQ => absurd hQ List.not_mem_nil)
  unfold g_m_run g_m_begins
  rw [Option.bind_some]
  try dsimp +instances only
  have f3 : fr3 σ (zu (zu σ 143 21 0) 143 22 (-1)) := fun a j k2 => by rw [zu_c (by omega), zu_c (by omega)]
  have q21 : zu (zu σ 143 21 0) 143 22 (-1) 143 21 = 0 := by rw [zu_i (by omega), zu_e rfl]
  have q22 : zu (zu σ 143 21 0) 143 22 (-1) 143 22 = -1 := zu_e rfl
  generalize zu (zu σ 143 21 0) 143 22 (-1) = s1 at f3 q21 q22
  have e20 : s1 143 20 = σ 143 20 := f3 143 20 (by omega)
  have t1 : tpP s1 := by
    refine ⟨by rw [e20]; exact h20, by rw [e20, q21]; exact ⟨Int.le_refl 0, h20.1⟩, ?_⟩
    unfold tpR
    rw [e20]
    exact fun j j1 j2 => by rw [f3 159 j (Or.inl (by decide))]; exact hb j j1 j2
  refine m_runP (ev := mev σ) (σ0 := s1) zK 8 [] s1 t1 q22 rfl (by decide) (fun _ _ _ _ => rfl) (fun i hi => absurd hi (Nat.not_lt_zero _)) (fun r s f hr k => ?_)
  rw [mT_f f3, e20, q21] at hr
  have f : frQ2 σ s := (frQ2.of f3).trans f
  have hM := (MI_Q2 h f).1
  cases k with
  | zero => exact zP'.no
  | succ k =>
    unfold g_m_run_L8
    rw [if_pos rfl]
    cases e : runP (mev σ) (mT σ) (σ 143 20) 8 0 [] with
    | inl q =>
      rw [e] at hr
      have hr : s 143 22 = q := hr
      have bq := ok.1 q e
      try dsimp +instances only
      rw [if_pos (by omega)]
      unfold g_m_run_L145
      try dsimp +instances only
      have e22 : zu s 143 20 0 143 22 = q := (zu_i (by decide)).trans hr
      rw [e22, if_pos (by omega)]
      exact zP'.ret ⟨L, ct, ⟨rfl, rfl⟩, A, by omega, M.mv (by omega) (fun j _ _ => (zu_a (by decide)).trans (f 144 j (by decide) (by omega))) (fun j _ _ => (zu_a (by decide)).trans (f 147 j (by decide) (by omega)))⟩
    | inr l =>
      rw [e] at hr
      obtain ⟨rfl, h22, hq⟩ := hr
      obtain ⟨l8, l0, lq⟩ := ok.2 l e
      try dsimp +instances only
      rw [if_neg (by omega)]
      have z : ∀ a j, (a ≠ 143 ∨ j ≠ 27) → zu s 143 27 (l.length : Int) a j = s a j := fun a j hh => zu_c hh
      have kp : tpK σ (zu s 143 27 (l.length : Int)) := ⟨by rw [z 143 20 (by omega)]; exact f 143 20 (by decide) (by omega), fun j => by rw [z 159 j (by omega)]; exact f 159 j (by decide) (by omega), fun j _ _ => by rw [z 144 j (by omega)]; exact f 144 j (by decide) (by omega), fun j _ _ => by rw [z 147 j (by omega)]; exact f 147 j (by decide) (by omega)⟩
      have hM2 : MI (zu s 143 27 (l.length : Int)) := by
        refine ⟨NI_fr hM.1 (fun j _ => z 144 j (by omega)), HI_fr8 hM.2.1 (fun j _ _ => z 144 j (by omega)), ?_, II_fr hM.2.2.2 (z 143 6 (by omega)) (fun j => z 145 j (by omega))⟩
        obtain ⟨x1, x2, x3, x4, x5⟩ := hM.2.2.1
        refine ⟨by rw [z 143 20 (by omega)]; exact x1, by rw [zu_e rfl]; omega, by rw [z 143 29 (by omega)]; exact x3, by rw [z 143 32 (by omega)]; exact x4, fun k hk => ?_⟩
        rw [z 166 _ (by omega)]
        exact x5 k hk
      refine (m_run86R so l8 l0 h20 hb lq o7 zK 0 _ L ct (Nat.zero_le _) hM2 kp ((z 143 22 (by omega)).trans h22) (fun i hi => by
        have g := hq i hi
        have eb : bxA (zu s 143 27 (l.length : Int)) 161 (6 * (i : Int) + 1) = bxA s 161 (6 * (i : Int) + 1) := by
          unfold bxA
          rw [z 161 _ (by omega), z 161 _ (by omega), z 161 _ (by omega), z 161 _ (by omega)]
        rw [z 161 _ (by omega), z 161 _ (by omega), eb]
        exact g) (M.mv (by omega) (fun j _ _ => (z 144 j (by omega)).trans (f 144 j (by decide) (by omega))) (fun j _ _ => (z 147 j (by omega)).trans (f 147 j (by decide) (by omega)))) A (by omega)).imp (fun _ u g => ?_)
      obtain ⟨L', ct', g1, g2, g3, g4⟩ := g
      exact ⟨L', ct', g1, g2, by omega, g4⟩
theorem qr_run {K : Int} {σ : zS} (hK : K ≤ 2000000) (I : InvR K σ) : two (g_c_run σ) g_m_run (fun v w s => InvR (K + 2400) s ∧ v = w) := by
  obtain ⟨v, s1, e1, w, s2, e2, J, q⟩ := qd_run I.1
  refine ⟨v, s1, e1, w, s2, e2, ?_, q⟩
  obtain ⟨L, ct, C, M, hR, hk, A, B, hL⟩ := R_open I
  have so := R_st I
  have Bk : BK σ 41 144 147 := I.1.1.1.2.1
  obtain ⟨H1, G1, -⟩ := zO.at (g_c_run_sp I.1.ci) e1
  have ref := fr_ref G1
  have M1 : MI s1 := MI_cls I.1.mi ref
  have F := f_run M1 w s2 e2
  have cl : ∀ a j, a < 143 → s2 a j = s1 a j := fun a j h => F a j (Or.inl h)
  have ir : irE s1 s2 := fun a j k => F a j (by omega)
  have i1 := imE.of G1 (fun _ => ⟨rfl, rfl, rfl, rfl, rfl, rfl, rfl⟩)
  have sb : stB s1 50 := I.2.2.1.mv (fun j _ _ => G1 50 j (Or.inr rfl))
  have Mm := M.mv (s := s1) (by omega) (fun j _ _ => ref 144 j (by decide) (by decide)) (fun j _ _ => ref 147 j (by decide) (by decide))
  have hL0 : σ 120 1 = σ 143 20 := I.1.1.1.1.2.2.1
  have e159 : s1 159 = σ 159 := funext (fun j => ref 159 j (by decide) (by decide))
  have e144 : s1 144 = σ 144 := funext (fun j => ref 144 j (by decide) (by decide))
  have e147 : s1 147 = σ 147 := funext (fun j => ref 147 j (by decide) (by decide))
  have e20 : s1 143 20 = σ 143 20 := ref 143 20 (by decide) (by decide)
  have hTR : tpR s1 := by
    unfold tpR
    rw [e20, e159]
    exact I.1.1.2.m hL0
  have eT : mT s1 = cT σ := by
    rw [cT_mT hL0 I.1.1.2]
    unfold mT
    rw [e20, e159]
  have eE : mev s1 = mev σ := by
    funext l r
    unfold mev
    rw [e144, e147]
  obtain ⟨L1, c1, u1, u2⟩ := k_runR (I := inS σ 144) (ev := mev σ) so I.1.ci I.1.1.2.c I.1.rw.1 Bk.ok (RW_ev I.1.rw) (show VRg (rowsN σ) (σ 50) L ct σ from ⟨M, hR, hL, A⟩) (by omega) C v s1 e1
  obtain ⟨L2, c2, v1, v2, v3, v4⟩ := m_runR so M1 hTR (Bk.ok7 e147) Mm A (by omega) w s2 e2
  rw [eT, eE, e20, ← hL0] at v1
  obtain ⟨rfl, rfl⟩ := u1.det v1
  exact R_closeP J I.2 (by omega) i1 (rK.cls G1).ir cl ir u2 v4 v2 (by omega) sb (gL_run u1 (fun l el => have ok := (runP_ok (ev := mev σ) (f := cT σ) (L := σ 120 1) 8 0 [] (by decide) (by rw [hL0]; exact I.1.mi.2.2.1.1.1) rfl (fun Q hQ => absurd hQ List.not_mem_nil)).2 l el; ⟨ok.1, fun Q hQ => (ok.2.2 Q hQ).2.1.1⟩) so.2.1.2 hL (by omega) (R_g I M.1))
end
section
/-! 8m.ldC -/
/-! LOADING: a text of boxes, read by both sides -/
theorem c_stN {n : Nat} {w lo hi p0 L : Int} {f : Int → Int} {σ : zS} {β : Type} {K : Int × zS → Option (β × zS)} {R : β → zS → Prop} (h : tpL σ) (hs : σ 120 3 = -1) (eT : cT σ = f) (eL : σ 120 1 = L) (ep : σ 120 2 = p0) (hn : w.toNat = n) (hw : 0 ≤ w ∧ w ≤ 9) (bad : ∀ q v s, numR n lo hi f L p0 = .inl q → frTa σ s → s 120 3 = q → q ≠ -1 → zP' (K (v, s)) R) (good : ∀ x s, numR n lo hi f L p0 = .inr x → frTa σ s → tpL s → s 120 3 = -1 → cT s = f → s 120 1 = L → s 120 2 = x.2 → zP' (K (x.1, s)) R) : zP' ((g_ta_number w lo hi σ).bind K) R := by
  have P := c_num (w := w) (lo := lo) (hi := hi) h hs hw
  rw [hn, eT, eL, ep] at P
  have h21 := h.2.1
  have hb := numR_bd (w := n) (lo := lo) (hi := hi) (f := f) (L := L) (p := p0) (by omega)
  refine zP'.bind P (fun v s g => ?_)
  cases e : numR n lo hi f L p0 with
  | inl q =>
    obtain ⟨g1, g2⟩ := cPo.no g e
    rw [e] at hb
    have hb : p0 ≤ q ∧ q ≤ L := hb
    exact bad q v s e g1 g2 (by omega)
  | inr x =>
    obtain ⟨g1, rfl, g3, g4⟩ := cPo.ok g e
    rw [e] at hb
    have hb : p0 ≤ x.2 ∧ x.2 ≤ L := hb
    exact good x s e g1 (h.mv g1 (by omega)) g4 ((cT_f g1).trans eT) ((g1 120 1 (Or.inr (by decide))).trans eL) g3
theorem c_stS {x p0 L : Int} {f : Int → Int} {σ : zS} {β : Type} {K : Unit × zS → Option (β × zS)} {R : β → zS → Prop} (h : tpL σ) (hs : σ 120 3 = -1) (eT : cT σ = f) (eL : σ 120 1 = L) (ep : σ 120 2 = p0) (hx : 1 ≤ x) (bad : ∀ q s, sgnR x f L p0 = .inl q → frTa σ s → s 120 3 = q → q ≠ -1 → zP' (K ((), s)) R) (good : ∀ y s, sgnR x f L p0 = .inr y → frTa σ s → tpL s → s 120 3 = -1 → cT s = f → s 120 1 = L → s 120 2 = y.2 → zP' (K ((), s)) R) : zP' ((g_ta_wants x σ).bind K) R := by
  have P := c_sgn' (x := x) h hs hx
  rw [eT, eL, ep] at P
  have h21 := h.2.1
  have hb := sgnR_bd (x := x) (f := f) (L := L) (p := p0) (by omega)
  refine zP'.bind P (fun v s g => ?_)
  cases e : sgnR x f L p0 with
  | inl q =>
    obtain ⟨g1, g2⟩ := cPo.no g e
    rw [e] at hb
    have hb : p0 ≤ q ∧ q ≤ L := hb
    exact bad q s e g1 g2 (by omega)
  | inr y =>
    obtain ⟨g1, -, g3, g4⟩ := cPo.ok g e
    rw [e] at hb
    have hb : p0 ≤ y.2 ∧ y.2 ≤ L := hb
    exact good y s e g1 (h.mv g1 (by omega)) g4 ((cT_f g1).trans eT) ((g1 120 1 (Or.inr (by decide))).trans eL) g3
theorem m_stN {n : Nat} {w lo hi p0 L : Int} {f : Int → Int} {σ : zS} {β : Type} {K : Int × zS → Option (β × zS)} {R : β → zS → Prop} (h : tpP σ) (hs : σ 143 22 < 0) (eT : mT σ = f) (eL : σ 143 20 = L) (ep : σ 143 21 = p0) (hn : w.toNat = n) (hw : 1 ≤ w ∧ w ≤ 9) (bad : ∀ q s, numR n lo hi f L p0 = .inl q → fr3 σ s → s 143 22 = q → zP' (K (0, s)) R) (good : ∀ x s, numR n lo hi f L p0 = .inr x → fr3 σ s → tpP s → s 143 22 = σ 143 22 → mT s = f → s 143 20 = L → s 143 21 = x.2 → s 143 23 = x.1 → zP' (K (1, s)) R) : zP' ((g_m_isNumber w lo hi σ).bind K) R := by
  have P := m_num (w := w) (lo := lo) (hi := hi) h hs hw
  rw [hn, eT, eL, ep] at P
  have h21 := h.2.1
  have hb := numR_bd (w := n) (lo := lo) (hi := hi) (f := f) (L := L) (p := p0) (by omega)
  refine zP'.bind P (fun b s g => ?_)
  obtain ⟨g, gv⟩ := g
  cases e : numR n lo hi f L p0 with
  | inl q =>
    obtain ⟨g1, rfl, g2⟩ := mPo.no g e
    exact bad q s e g1 g2
  | inr x =>
    obtain ⟨g1, rfl, g3, g4⟩ := mPo.ok g e
    rw [e] at hb
    have hb : p0 ≤ x.2 ∧ x.2 ≤ L := hb
    exact good x s e g1 (h.mv (g1 143 20 (Or.inr (by decide))) (funext (fun j => g1 159 j (Or.inl (by decide)))) (by omega)) g4 ((mT_f g1).trans eT) ((g1 143 20 (Or.inr (by decide))).trans eL) g3 (gv x e)
theorem m_stS {x p0 L : Int} {f : Int → Int} {σ : zS} {β : Type} {K : Int × zS → Option (β × zS)} {R : β → zS → Prop} (h : tpP σ) (hs : σ 143 22 < 0) (eT : mT σ = f) (eL : σ 143 20 = L) (ep : σ 143 21 = p0) (hx : 1 ≤ x) (bad : ∀ q s, sgnR x f L p0 = .inl q → fr3 σ s → s 143 22 = q → zP' (K (0, s)) R) (good : ∀ y s, sgnR x f L p0 = .inr y → fr3 σ s → tpP s → s 143 22 = σ 143 22 → mT s = f → s 143 20 = L → s 143 21 = y.2 → zP' (K (1, s)) R) : zP' ((g_m_isSign x σ).bind K) R := by
  have P := m_sgn (x := x) h hs hx
  rw [eT, eL, ep] at P
  have h21 := h.2.1
  have hb := sgnR_bd (x := x) (f := f) (L := L) (p := p0) (by omega)
  refine zP'.bind P (fun b s g => ?_)
  cases e : sgnR x f L p0 with
  | inl q =>
    obtain ⟨g1, rfl, g2⟩ := mPo.no g e
    exact bad q s e g1 g2
  | inr y =>
    obtain ⟨g1, rfl, g3, g4⟩ := mPo.ok g e
    rw [e] at hb
    have hb : p0 ≤ y.2 ∧ y.2 ≤ L := hb
    exact good y s e g1 (h.mv (g1 143 20 (Or.inr (by decide))) (funext (fun j => g1 159 j (Or.inl (by decide)))) (by omega)) g4 ((mT_f g1).trans eT) ((g1 143 20 (Or.inr (by decide))).trans eL) g3
def sbd {β : Type} (x : zRd) (k : Int × Int → Sum Int β) : Sum Int β := match x with
  | .inl q => .inl q
  | .inr a => k a
theorem sbd_l {β : Type} {x : zRd} {q : Int} {k : Int × Int → Sum Int β} (h : x = .inl q) : sbd x k = .inl q := by
  rw [h]
  rfl
theorem sbd_r {β : Type} {x : zRd} {a : Int × Int} {k : Int × Int → Sum Int β} (h : x = .inr a) : sbd x k = k a := by
  rw [h]
  rfl
/-- a box as regions are spelled -/
def bxP (f : Int → Int) (L p : Int) : Sum Int (Bx × Int) := sbd (numR 2 0 31 f L p) fun a => sbd (sgnR 45 f L a.2) fun b => sbd (numR 2 a.1 31 f L b.2) fun c => sbd (sgnR 44 f L c.2) fun d => sbd (numR 2 0 31 f L d.2) fun e => sbd (sgnR 45 f L e.2) fun g => sbd (numR 2 e.1 31 f L g.2) fun h => .inr ((a.1, c.1, e.1, h.1), h.2)
theorem pb0_8 {x0 x1 y0 y1 : Int} {σ : zS} (hs : σ 120 3 ≠ -1) : zP' ((g_ta_isSound σ).bind fun o_56 => if o_56.1 = 0 then some (-1, o_56.2) else (g_b_of x0 x1 y0 y1 o_56.2).bind fun o_67 => some (o_67.1, o_67.2)) (fun _ s => s = σ) := by
  rw [p_isSound, if_neg hs]
  rw [Option.bind_some]
  try dsimp +instances only
  rw [if_pos rfl]
  exact zP'.ret rfl
theorem pb0_7 {x0 x1 y0 : Int} {σ : zS} (hs : σ 120 3 ≠ -1) : zP' ((g_ta_number 2 y0 31 σ).bind fun o_50 => (g_ta_isSound o_50.2).bind fun o_56 => if o_56.1 = 0 then some (-1, o_56.2) else (g_b_of x0 x1 y0 o_50.1 o_56.2).bind fun o_67 => some (o_67.1, o_67.2)) (fun _ s => s = σ) := by
  refine zP'.bind (p_number0 hs (by decide)) (fun v s p => ?_)
  try dsimp +instances only
  rw [p]
  exact pb0_8 hs
theorem pb0_6 {x0 x1 y0 : Int} {σ : zS} (hs : σ 120 3 ≠ -1) : zP' ((g_ta_wants 45 σ).bind fun o_42 => (g_ta_number 2 y0 31 o_42.2).bind fun o_50 => (g_ta_isSound o_50.2).bind fun o_56 => if o_56.1 = 0 then some (-1, o_56.2) else (g_b_of x0 x1 y0 o_50.1 o_56.2).bind fun o_67 => some (o_67.1, o_67.2)) (fun _ s => s = σ) := by
  rw [p_wants0 hs (by decide)]
  rw [Option.bind_some]
  try dsimp +instances only
  exact pb0_7 hs
theorem pb0_5 {x0 x1 : Int} {σ : zS} (hs : σ 120 3 ≠ -1) : zP' ((g_ta_number 2 0 31 σ).bind fun o_35 => (g_ta_wants 45 o_35.2).bind fun o_42 => (g_ta_number 2 o_35.1 31 o_42.2).bind fun o_50 => (g_ta_isSound o_50.2).bind fun o_56 => if o_56.1 = 0 then some (-1, o_56.2) else (g_b_of x0 x1 o_35.1 o_50.1 o_56.2).bind fun o_67 => some (o_67.1, o_67.2)) (fun _ s => s = σ) := by
  refine zP'.bind (p_number0 hs (by decide)) (fun v s p => ?_)
  try dsimp +instances only
  rw [p]
  exact pb0_6 hs
theorem pb0_4 {x0 x1 : Int} {σ : zS} (hs : σ 120 3 ≠ -1) : zP' ((g_ta_wants 44 σ).bind fun o_27 => (g_ta_number 2 0 31 o_27.2).bind fun o_35 => (g_ta_wants 45 o_35.2).bind fun o_42 => (g_ta_number 2 o_35.1 31 o_42.2).bind fun o_50 => (g_ta_isSound o_50.2).bind fun o_56 => if o_56.1 = 0 then some (-1, o_56.2) else (g_b_of x0 x1 o_35.1 o_50.1 o_56.2).bind fun o_67 => some (o_67.1, o_67.2)) (fun _ s => s = σ) := by
  rw [p_wants0 hs (by decide)]
  rw [Option.bind_some]
  try dsimp +instances only
  exact pb0_5 hs
theorem pb0_3 {x0 : Int} {σ : zS} (hs : σ 120 3 ≠ -1) : zP' ((g_ta_number 2 x0 31 σ).bind fun o_20 => (g_ta_wants 44 o_20.2).bind fun o_27 => (g_ta_number 2 0 31 o_27.2).bind fun o_35 => (g_ta_wants 45 o_35.2).bind fun o_42 => (g_ta_number 2 o_35.1 31 o_42.2).bind fun o_50 => (g_ta_isSound o_50.2).bind fun o_56 => if o_56.1 = 0 then some (-1, o_56.2) else (g_b_of x0 o_20.1 o_35.1 o_50.1 o_56.2).bind fun o_67 => some (o_67.1, o_67.2)) (fun _ s => s = σ) := by
  refine zP'.bind (p_number0 hs (by decide)) (fun v s p => ?_)
  try dsimp +instances only
  rw [p]
  exact pb0_4 hs
theorem pb0_2 {x0 : Int} {σ : zS} (hs : σ 120 3 ≠ -1) : zP' ((g_ta_wants 45 σ).bind fun o_12 => (g_ta_number 2 x0 31 o_12.2).bind fun o_20 => (g_ta_wants 44 o_20.2).bind fun o_27 => (g_ta_number 2 0 31 o_27.2).bind fun o_35 => (g_ta_wants 45 o_35.2).bind fun o_42 => (g_ta_number 2 o_35.1 31 o_42.2).bind fun o_50 => (g_ta_isSound o_50.2).bind fun o_56 => if o_56.1 = 0 then some (-1, o_56.2) else (g_b_of x0 o_20.1 o_35.1 o_50.1 o_56.2).bind fun o_67 => some (o_67.1, o_67.2)) (fun _ s => s = σ) := by
  rw [p_wants0 hs (by decide)]
  rw [Option.bind_some]
  try dsimp +instances only
  exact pb0_3 hs
theorem pb0 {σ : zS} (hs : σ 120 3 ≠ -1) : zP' (g_ta_plainBox σ) (fun _ s => s = σ) := by
  unfold g_ta_plainBox
  refine zP'.bind (p_number0 hs (by decide)) (fun v s p => ?_)
  try dsimp +instances only
  rw [p]
  exact pb0_2 hs
theorem c_plainBox {σ : zS} (h : tpL σ) (hs : σ 120 3 = -1) : zP' (g_ta_plainBox σ) (fun v s => bxPo σ (bxP (cT σ) (σ 120 1) (σ 120 2)) v s ∧ ∀ x, bxP (cT σ) (σ 120 1) (σ 120 2) = .inr x → bOk x.1 ∧ σ 120 2 ≤ x.2 ∧ x.2 ≤ σ 120 1) := by
  have bad : ∀ (q : Int) (s : zS) (v : Int), frTa σ s → s 120 3 = q → bxP (cT σ) (σ 120 1) (σ 120 2) = .inl q → bxPo σ (bxP (cT σ) (σ 120 1) (σ 120 2)) v s ∧ ∀ x, bxP (cT σ) (σ 120 1) (σ 120 2) = .inr x → bOk x.1 ∧ σ 120 2 ≤ x.2 ∧ x.2 ≤ σ 120 1 := fun q s v f e r => by
    rw [r]
    exact ⟨⟨f, e⟩, fun x k => by cases k⟩
  unfold g_ta_plainBox
  refine c_stN h hs rfl rfl rfl (n := 2) rfl (by decide) (fun q v s r1 f k n => ?_) (fun a s1 r1 f1 t1 z1 m1 l1 p1 => ?_)
  · try dsimp +instances only
    exact (pb0_2 (by rw [k]; exact n)).imp (fun v' s' e => bad q s' v' (by rw [e]; exact f) (by rw [e]; exact k) (by unfold bxP; rw [sbd_l r1]))
  try dsimp +instances only
  have F1 : frTa σ s1 := f1
  refine c_stS t1 z1 m1 l1 p1 (by decide) (fun q s r2 f k n => ?_) (fun b s2 r2 f2 t2 z2 m2 l2 p2 => ?_)
  · try dsimp +instances only
    exact (pb0_3 (by rw [k]; exact n)).imp (fun v' s' e => bad q s' v' (by rw [e]; exact F1.trans f) (by rw [e]; exact k) (by unfold bxP; rw [sbd_r r1, sbd_l r2]))
  try dsimp +instances only
  have F2 : frTa σ s2 := F1.trans f2
  refine c_stN t2 z2 m2 l2 p2 (n := 2) rfl (by decide) (fun q v s r3 f k n => ?_) (fun c s3 r3 f3 t3 z3 m3 l3 p3 => ?_)
  · try dsimp +instances only
    exact (pb0_4 (by rw [k]; exact n)).imp (fun v' s' e => bad q s' v' (by rw [e]; exact F2.trans f) (by rw [e]; exact k) (by unfold bxP; rw [sbd_r r1, sbd_r r2, sbd_l r3]))
  try dsimp +instances only
  have F3 : frTa σ s3 := F2.trans f3
  refine c_stS t3 z3 m3 l3 p3 (by decide) (fun q s r4 f k n => ?_) (fun d s4 r4 f4 t4 z4 m4 l4 p4 => ?_)
  · try dsimp +instances only
    exact (pb0_5 (by rw [k]; exact n)).imp (fun v' s' e => bad q s' v' (by rw [e]; exact F3.trans f) (by rw [e]; exact k) (by unfold bxP; rw [sbd_r r1, sbd_r r2, sbd_r r3, sbd_l r4]))
  try dsimp +instances only
  have F4 : frTa σ s4 := F3.trans f4
  refine c_stN t4 z4 m4 l4 p4 (n := 2) rfl (by decide) (fun q v s r5 f k n => ?_) (fun e s5 r5 f5 t5 z5 m5 l5 p5 => ?_)
  · try dsimp +instances only
    exact (pb0_6 (by rw [k]; exact n)).imp (fun v' s' e => bad q s' v' (by rw [e]; exact F4.trans f) (by rw [e]; exact k) (by unfold bxP; rw [sbd_r r1, sbd_r r2, sbd_r r3, sbd_r r4, sbd_l r5]))
  try dsimp +instances only
  have F5 : frTa σ s5 := F4.trans f5
  refine c_stS t5 z5 m5 l5 p5 (by decide) (fun q s r6 f k n => ?_) (fun g s6 r6 f6 t6 z6 m6 l6 p6 => ?_)
  · try dsimp +instances only
    exact (pb0_7 (by rw [k]; exact n)).imp (fun v' s' e => bad q s' v' (by rw [e]; exact F5.trans f) (by rw [e]; exact k) (by unfold bxP; rw [sbd_r r1, sbd_r r2, sbd_r r3, sbd_r r4, sbd_r r5, sbd_l r6]))
  try dsimp +instances only
  have F6 : frTa σ s6 := F5.trans f6
  refine c_stN t6 z6 m6 l6 p6 (n := 2) rfl (by decide) (fun q v s r7 f k n => ?_) (fun h7 s7 r7 f7 t7 z7 m7 l7 p7 => ?_)
  · try dsimp +instances only
    exact (pb0_8 (by rw [k]; exact n)).imp (fun v' s' e => bad q s' v' (by rw [e]; exact F6.trans f) (by rw [e]; exact k) (by unfold bxP; rw [sbd_r r1, sbd_r r2, sbd_r r3, sbd_r r4, sbd_r r5, sbd_r r6, sbd_l r7]))
  try dsimp +instances only
  have F7 : frTa σ s7 := F6.trans f7
  have rr : bxP (cT σ) (σ 120 1) (σ 120 2) = .inr ((a.1, c.1, e.1, h7.1), h7.2) := by
    unfold bxP
    rw [sbd_r r1, sbd_r r2, sbd_r r3, sbd_r r4, sbd_r r5, sbd_r r6, sbd_r r7]
  obtain ⟨a1, a2, a3⟩ := numR_ok (v := a.1) (p' := a.2) r1
  obtain ⟨b1, b2, b3⟩ := sgnR_ok (v := b.1) (p' := b.2) r2
  obtain ⟨c1, c2, c3⟩ := numR_ok (v := c.1) (p' := c.2) r3
  obtain ⟨d1, d2, d3⟩ := sgnR_ok (v := d.1) (p' := d.2) r4
  obtain ⟨e1, e2, e3⟩ := numR_ok (v := e.1) (p' := e.2) r5
  obtain ⟨g1, g2, g3⟩ := sgnR_ok (v := g.1) (p' := g.2) r6
  obtain ⟨h1, h2, h3⟩ := numR_ok (v := h7.1) (p' := h7.2) r7
  have okb : bOk (a.1, c.1, e.1, h7.1) := ⟨a1, c1, c2, e1, h1, h2⟩
  rw [p_isSound, if_pos z7]
  rw [Option.bind_some]
  try dsimp +instances only
  rw [if_neg (by decide)]
  have hb := b_of (b := (a.1, c.1, e.1, h7.1)) okb.s s7
  try dsimp only at hb
  rw [hb]
  rw [Option.bind_some]
  refine zP'.ret ⟨?_, fun x k => ?_⟩
  · rw [rr]
    exact ⟨F7, rfl, p7, z7⟩
  · rw [rr] at k
    cases k
    have bd := t7.2.1
    exact ⟨okb, by omega, by omega⟩
end
section
/-! 8n.ldL -/
/-! LOADING: the parts of a text, both sides -/
def ldP (f : Int → Int) (L : Int) : Nat → Int → List Bx → Sum Int (List Bx)
  | 0, p, _ => .inl p
  | m + 1, p, l => match bxP f L p with
    | .inl q => .inl q
    | .inr x => if x.2 < L then (if l.length + 1 < 12 ∧ f x.2 = 59 then ldP f L m (x.2 + 1) (l ++ [x.1]) else .inl x.2) else .inr (l ++ [x.1])
theorem ldP_1 {f : Int → Int} {L : Int} {m : Nat} {p : Int} {l : List Bx} : ldP f L (m + 1) p l = match bxP f L p with
    | .inl q => .inl q
    | .inr x => if x.2 < L then (if l.length + 1 < 12 ∧ f x.2 = 59 then ldP f L m (x.2 + 1) (l ++ [x.1]) else .inl x.2) else .inr (l ++ [x.1]) := rfl
theorem sbd_bd {β : Type} {p L : Int} {x : zRd} {k : Int × Int → Sum Int β} (h : rBd p L x) (g : ∀ a, x = .inr a → p ≤ a.2 → a.2 ≤ L → ∀ q, k a = .inl q → p ≤ q ∧ q ≤ L) : ∀ q, sbd x k = .inl q → p ≤ q ∧ q ≤ L := fun q e => by
  cases x with
  | inl r =>
    have e : (Sum.inl r : Sum Int β) = .inl q := e
    cases e
    exact h
  | inr a => exact g a rfl h.1 h.2 q e
theorem bxP_bd {f : Int → Int} {L p : Int} (h : p ≤ L) : ∀ q, bxP f L p = .inl q → p ≤ q ∧ q ≤ L := by
  unfold bxP
  refine sbd_bd (numR_bd h) (fun a _ a1 a2 => ?_)
  refine fun q e => ?_
  have w : ∀ {b a : Int}, b ≤ a → (∀ q, a ≤ q ∧ q ≤ L → b ≤ q ∧ q ≤ L) := fun h q k => ⟨Int.le_trans h k.1, k.2⟩
  refine w a1 q (sbd_bd (sgnR_bd a2) (fun b _ b1 b2 q e => w b1 q (sbd_bd (numR_bd b2) (fun c _ c1 c2 q e => w c1 q (sbd_bd (sgnR_bd c2) (fun d _ d1 d2 q e => w d1 q (sbd_bd (numR_bd d2) (fun e' _ e1 e2 q e => w e1 q (sbd_bd (sgnR_bd e2) (fun g _ g1 g2 q e => w g1 q (sbd_bd (numR_bd g2) (fun h' _ _ _ q e => by cases e) q e)) q e)) q e)) q e)) q e)) q e)
theorem bxP_ok {f : Int → Int} {L p : Int} {x : Bx × Int} (h : bxP f L p = .inr x) : bOk x.1 ∧ p < x.2 ∧ x.2 ≤ L := by
  unfold bxP at h
  cases r1 : numR 2 0 31 f L p with
  | inl q => rw [sbd_l r1] at h; cases h
  | inr a =>
    rw [sbd_r r1] at h
    cases r2 : sgnR 45 f L a.2 with
    | inl q => rw [sbd_l r2] at h; cases h
    | inr b =>
      rw [sbd_r r2] at h
      cases r3 : numR 2 a.1 31 f L b.2 with
      | inl q => rw [sbd_l r3] at h; cases h
      | inr c =>
        rw [sbd_r r3] at h
        cases r4 : sgnR 44 f L c.2 with
        | inl q => rw [sbd_l r4] at h; cases h
        | inr d =>
          rw [sbd_r r4] at h
          cases r5 : numR 2 0 31 f L d.2 with
          | inl q => rw [sbd_l r5] at h; cases h
          | inr e =>
            rw [sbd_r r5] at h
            cases r6 : sgnR 45 f L e.2 with
            | inl q => rw [sbd_l r6] at h; cases h
            | inr g =>
              rw [sbd_r r6] at h
              cases r7 : numR 2 e.1 31 f L g.2 with
              | inl q => rw [sbd_l r7] at h; cases h
              | inr h7 =>
                rw [sbd_r r7] at h
                cases h
                obtain ⟨a1, a2, a3⟩ := numR_ok (v := a.1) (p' := a.2) r1
                obtain ⟨b1, b2, b3⟩ := sgnR_ok (v := b.1) (p' := b.2) r2
                obtain ⟨c1, c2, c3⟩ := numR_ok (v := c.1) (p' := c.2) r3
                obtain ⟨d1, d2, d3⟩ := sgnR_ok (v := d.1) (p' := d.2) r4
                obtain ⟨e1, e2, e3⟩ := numR_ok (v := e.1) (p' := e.2) r5
                obtain ⟨g1, g2, g3⟩ := sgnR_ok (v := g.1) (p' := g.2) r6
                obtain ⟨h1, h2, h3⟩ := numR_ok (v := h7.1) (p' := h7.2) r7
                have hb := numR_bd (w := 2) (lo := e.1) (hi := 31) (f := f) (L := L) (p := g.2) (by omega)
                rw [r7] at hb
                have hb : g.2 ≤ h7.2 ∧ h7.2 ≤ L := hb
                exact ⟨⟨a1, c1, c2, e1, h1, h2⟩, by show p < h7.2; omega, hb.2⟩
theorem ldP_bd {f : Int → Int} {L : Int} : ∀ (m : Nat) (p : Int) (l : List Bx), 0 ≤ p → p ≤ L → l.length + m = 12 → (∀ b ∈ l, bOk b) → (∀ q, ldP f L m p l = .inl q → 0 ≤ q ∧ q ≤ L) ∧ ∀ B, ldP f L m p l = .inr B → B.length ≤ 12 ∧ ∀ b ∈ B, bOk b
  | 0, p, l, h0, h1, hl, hb => ⟨fun q e => by
    have e : (Sum.inl p : Sum Int (List Bx)) = .inl q := e
    cases e
    exact ⟨h0, h1⟩, fun B e => by cases e⟩
  | m + 1, p, l, h0, h1, hl, hb => by
    rw [ldP_1]
    cases e1 : bxP f L p with
    | inl q =>
      have hq := bxP_bd h1 q e1
      exact ⟨fun r e => by cases e; omega, fun B e => by cases e⟩
    | inr x =>
      obtain ⟨ok, lt⟩ := bxP_ok e1
      try dsimp only
      have hb2 : ∀ b ∈ l ++ [x.1], bOk b := fun b hm => by
        rcases List.mem_append.mp hm with g | g
        · exact hb b g
        · rw [List.mem_singleton] at g
          rw [g]
          exact ok
      have hl2 : (l ++ [x.1]).length = l.length + 1 := by
        rw [List.length_append]
        rfl
      by_cases c : x.2 < L
      · rw [if_pos c]
        by_cases c2 : l.length + 1 < 12 ∧ f x.2 = 59
        · rw [if_pos c2]
          exact ldP_bd m (x.2 + 1) (l ++ [x.1]) (by omega) (by omega) (by omega) hb2
        · rw [if_neg c2]
          exact ⟨fun r e => by cases e; omega, fun B e => by cases e⟩
      · rw [if_neg c]
        exact ⟨fun r e => (by cases e), fun B e => (by
          cases e
          exact ⟨by omega, hb2⟩)⟩
/-- all but the tape's place and fault and the boxes read -/
def frLd (σ s : zS) : Prop := ∀ a j, (a ≠ 120 ∨ (j ≠ 2 ∧ j ≠ 3)) → a ≠ 126 → a ≠ 127 → s a j = σ a j
theorem frLd.of {σ s : zS} (h : frTa σ s) : frLd σ s := fun a j k _ _ => h a j k
theorem frLd.trans {σ s t : zS} (h1 : frLd σ s) (h2 : frLd s t) : frLd σ t := fun a j k1 k2 k3 => (h2 a j k1 k2 k3).trans (h1 a j k1 k2 k3)
theorem frLd.L {σ s : zS} (f : frLd σ s) : s 120 1 = σ 120 1 := f 120 1 (Or.inr (by decide)) (by decide) (by decide)
theorem frLd.T {σ s : zS} (f : frLd σ s) : cT s = cT σ := by
  funext j
  unfold cT
  rw [f.L, f 121 j (Or.inl (by decide)) (by decide) (by decide)]
theorem frLd.t {σ s : zS} (f : frLd σ s) (h : tpL σ) (h2 : 0 ≤ s 120 2 ∧ s 120 2 ≤ σ 120 1) : tpL s := by
  have e : s 121 = σ 121 := funext (fun j => f 121 j (Or.inl (by decide)) (by decide) (by decide))
  unfold tpL
  rw [f.L, e]
  exact ⟨h.1, h2, h.2.2⟩
def ldQ (s : zS) : Sum Int (List Bx) → Prop
  | .inl q => s 120 3 = q
  | .inr B => s 120 3 = -1 ∧ bsR s 126 B
theorem ld_add {l : List Bx} {x : Int} {σ : zS} (h : σ 126 1 = (l.length : Int)) (hl : l.length < 12) : g_bs_add 126 x σ = some (1, zu (zu σ 127 (l.length : Int) x) 126 1 ((l.length : Int) + 1)) := by
  have l127 : zLI 127 = 12 := rfl
  rw [p_add (L := 12) l127 (by decide) (by omega), h, if_pos (by omega)]
theorem c_ld {Q : Int → zS → Prop} {σ0 : zS} : ∀ (n m : Nat) (l : List Bx) (σ : zS), tpL σ → σ 120 3 = -1 → l.length + m = 12 → 0 < m → bsR σ 126 l → frLd σ0 σ → (∀ s, frLd σ0 s → ldQ s (ldP (cT σ) (σ 120 1) m (σ 120 2) l) → zP' (g_c_load_L69 s) Q) → zP' (g_c_load_L19 n 1 ((l.length : Int) + 1) σ) Q
  | 0, _, _, _, _, _, _, _, _, _, _ => zP'.no
  | n + 1, 0, _, _, _, _, _, hm, _, _, _ => absurd hm (Nat.lt_irrefl _)
  | n + 1, m + 1, l, σ, h, hs, hl, _, hB, F0, hQ => by
    have h21 := h.2.1
    have stop : ∀ (k : Nat) (x : Int) (s : zS), zP' (g_c_load_L69 s) Q → zP' (g_c_load_L19 k 0 x s) Q := fun k x s g => by
      cases k with
      | zero => exact zP'.no
      | succ k =>
        unfold g_c_load_L19
        rw [if_pos rfl]
        exact g
    rw [ldP_1] at hQ
    unfold g_c_load_L19
    rw [if_neg (by decide), if_neg (by omega)]
    refine zP'.bind (c_plainBox h hs) (fun v s1 p1 => ?_)
    obtain ⟨⟨f1, r1⟩, ok1⟩ := p1
    have e126 : s1 126 1 = (l.length : Int) := (f1 126 1 (Or.inl (by decide))).trans hB.1
    try dsimp +instances only
    rw [ld_add e126 (by omega)]
    rw [Option.bind_some]
    try dsimp +instances only
    have f2 : frLd s1 (zu (zu s1 127 (l.length : Int) v) 126 1 ((l.length : Int) + 1)) := fun a j _ k2 k3 => by rw [zu_a k2, zu_a k3]
    have b2 : ∀ x : Bx, v = enc x → bsR (zu (zu s1 127 (l.length : Int) v) 126 1 ((l.length : Int) + 1)) 126 (l ++ [x]) := fun x ex => by
      refine ⟨?_, fun k hk => ?_⟩
      · rw [zu_e rfl, List.length_append]
        show (l.length : Int) + 1 = ((l.length + 1 : Nat) : Int)
        omega
      · rw [List.length_append] at hk
        have hk : k < l.length + 1 := hk
        rw [zu_a (by decide)]
        by_cases ck : k < l.length
        · rw [zu_i (by omega), List.getElem_append_left ck, f1 127 _ (Or.inl (by decide))]
          exact hB.2 k ck
        · have ek : k = l.length := by omega
          subst ek
          rw [zu_e rfl, List.getElem_append_right (Nat.le_refl _), ex]
          simp
    have e23 : zu (zu s1 127 (l.length : Int) v) 126 1 ((l.length : Int) + 1) 120 3 = s1 120 3 := by rw [zu_a (by decide), zu_a (by decide)]
    have e22 : zu (zu s1 127 (l.length : Int) v) 126 1 ((l.length : Int) + 1) 120 2 = s1 120 2 := by rw [zu_a (by decide), zu_a (by decide)]
    generalize zu (zu s1 127 (l.length : Int) v) 126 1 ((l.length : Int) + 1) = s2 at f2 b2 e23 e22
    have F2 : frLd σ s2 := (frLd.of f1).trans f2
    cases e1 : bxP (cT σ) (σ 120 1) (σ 120 2) with
    | inl q =>
      rw [e1] at r1 hQ
      have r1 : s1 120 3 = q := r1
      have hq := bxP_bd h21.2 q e1
      have n3 : s2 120 3 ≠ -1 := by omega
      have fin : zP' (g_c_load_L69 s2) Q := hQ s2 (F0.trans F2) (e23.trans r1)
      have an : ∀ x, g_ta_another x s2 = some (0, s2) := fun x => by
        have h15 : g_ta_another_L15 s2 = some (0, s2) := by
          unfold g_ta_another_L15
          rw [p_here0 n3]
          rw [Option.bind_some]
          try dsimp +instances only
          rw [if_pos rfl]
        unfold g_ta_another
        by_cases cx : x = 0
        · rw [if_pos cx]
          exact h15
        · rw [if_neg cx, p_takes0 n3 (by decide)]
          rw [Option.bind_some]
          try dsimp +instances only
          rw [if_pos rfl]
          exact h15
      unfold g_c_load_L59
      refine zP'.ite (fun _ => ?_) (fun _ => ?_)
      · rw [an]
        rw [Option.bind_some]
        exact stop n _ s2 fin
      · rw [an]
        rw [Option.bind_some]
        exact stop n _ s2 fin
    | inr x =>
      rw [e1] at r1 hQ
      obtain ⟨rv, r2, r3⟩ := r1
      obtain ⟨okb, lo, hi⟩ := ok1 x e1
      have B2 : bsR s2 126 (l ++ [x.1]) := b2 x.1 rv
      have t2 : tpL s2 := F2.t h (by rw [e22, r2]; omega)
      have p2 : s2 120 2 = x.2 := e22.trans r2
      have q2 : s2 120 3 = -1 := e23.trans r3
      have al : ((l ++ [x.1]).length : Int) = (l.length : Int) + 1 := by
        rw [List.length_append]
        show ((l.length + 1 : Nat) : Int) = _
        omega
      try dsimp only at hQ
      unfold g_c_load_L59
      refine zP'.ite (fun c12 => ?_) (fun c12 => ?_)
      · unfold g_ta_another
        rw [if_pos rfl]
        unfold g_ta_another_L15
        rw [p_here t2.i q2, tpH_cT t2, F2.T, F2.L, p2]
        rw [Option.bind_some]
        try dsimp +instances only
        by_cases cl : x.2 < σ 120 1
        · have nb := h.2.2 x.2 (by omega) cl
          rw [cT_e (p := x.2) (by omega) x.2 (Int.le_refl _) cl] at nb
          have nz : ¬ cT σ x.2 = 0 := by omega
          rw [if_pos cl] at hQ
          rw [if_pos cl, if_neg nz, p_blame, if_pos q2]
          rw [Option.bind_some]
          rw [Option.bind_some]
          try dsimp +instances only
          rw [if_neg (fun k => by omega)] at hQ
          exact stop n _ _ (hQ _ ((F0.trans F2).trans (frLd.of (frTa.u (Or.inr rfl)))) (by show zu s2 120 3 (s2 120 2) 120 3 = x.2; rw [zu_e rfl, p2]))
        · rw [if_neg cl] at hQ
          rw [if_neg cl, if_pos rfl]
          rw [Option.bind_some]
          try dsimp +instances only
          exact stop n _ s2 (hQ s2 (F0.trans F2) ⟨q2, B2⟩)
      · refine zP'.bind (c_more t2 q2) (fun a' s6 p6 => ?_)
        obtain ⟨m0, m1, m2, m3⟩ := p6
        rw [p2, F2.L] at m1 m2 m3
        rw [F2.T] at m2 m3
        try dsimp +instances only
        by_cases cl : x.2 < σ 120 1
        · rw [if_pos cl] at hQ
          by_cases c59 : cT σ x.2 = 59
          · obtain ⟨rfl, m2b, m2c⟩ := m2 ⟨cl, c59⟩
            rw [if_pos ⟨by omega, c59⟩] at hQ
            have F6 : frLd σ s6 := F2.trans (frLd.of m0)
            have t6 : tpL s6 := F6.t h (by rw [m2b]; omega)
            have B6 : bsR s6 126 (l ++ [x.1]) := ⟨(m0 126 1 (Or.inl (by decide))).trans B2.1, fun i hi => (m0 127 _ (Or.inl (by decide))).trans (B2.2 i hi)⟩
            rw [w32_id (x := (l.length : Int) + 1 + 1) (by omega) (by omega), ← al]
            exact c_ld n m (l ++ [x.1]) s6 t6 m2c (by rw [List.length_append]; show l.length + 1 + m = 12; omega) (by omega) B6 (F0.trans F6) (by rw [F6.T, F6.L, m2b]; exact hQ)
          · obtain ⟨rfl, m3b⟩ := m3 ⟨cl, c59⟩
            rw [if_neg (fun k => c59 k.2)] at hQ
            exact stop n _ s6 (hQ s6 ((F0.trans F2).trans (frLd.of m0)) m3b)
        · obtain ⟨rfl, rfl⟩ := m1 (by omega)
          rw [if_neg cl] at hQ
          exact stop n _ s6 (hQ s6 (F0.trans F2) ⟨q2, B2⟩)
end
section
/-! 8o.ldM -/
/-! LOADING: the reference reads, both let in -/
theorem mT_164 {s : zS} {i v : Int} : mT (zu s 164 i v) = mT s := by
  funext j
  unfold mT
  rw [zu_a (by decide), zu_a (by decide)]
theorem tpP_164 {s : zS} {i v : Int} (h : tpP s) : tpP (zu s 164 i v) := h.mv (zu_a (by decide)) (funext (fun j => zu_a (by decide))) (by rw [zu_a (by decide)]; exact h.2.1)
def spM (σ : zS) (k : Nat) (r : Sum Int (Bx × Int)) (b : Int) (s : zS) : Prop := (frL2 σ s ∧ ∀ j : Int, j < 4 * (k : Int) → s 164 j = σ 164 j) ∧ match r with
  | .inl q => b = 0 ∧ s 143 22 = q
  | .inr x => b = 1 ∧ s 143 21 = x.2 ∧ s 143 22 = σ 143 22 ∧ bxA s 164 (4 * (k : Int)) = x.1
theorem m_spelled {k : Nat} {σ : zS} (hk : k < 12) (h : tpP σ) (hs : σ 143 22 < 0) : zP' (g_m_isSpelled (4 * (k : Int)) σ) (spM σ k (bxP (mT σ) (σ 143 20) (σ 143 21))) := by
  have bad : ∀ (q : Int) (s : zS), frL2 σ s → (∀ j : Int, j < 4 * (k : Int) → s 164 j = σ 164 j) → s 143 22 = q → bxP (mT σ) (σ 143 20) (σ 143 21) = .inl q → spM σ k (bxP (mT σ) (σ 143 20) (σ 143 21)) 0 s := fun q s f o e r => by
    rw [r]
    exact ⟨⟨f, o⟩, rfl, e⟩
  have ex1 := w32_id (x := 4 * (k : Int) + 1) (by omega) (by omega)
  have ex2 := w32_id (x := 4 * (k : Int) + 2) (by omega) (by omega)
  have ex3 := w32_id (x := 4 * (k : Int) + 3) (by omega) (by omega)
  unfold g_m_isSpelled
  refine m_stN (n := 2) h hs rfl rfl rfl rfl (by decide) (fun q s r1 f e => ?_) (fun a s1 r1 f1 t1 z1 m1 l1 p1 v1 => ?_)
  · try dsimp +instances only
    rw [if_neg (by decide)]
    exact zP'.ret (bad q s (frL2.of f) (fun j _ => f 164 j (Or.inl (by decide))) e (by unfold bxP; rw [sbd_l r1]))
  try dsimp +instances only
  rw [if_pos (by decide), if_pos (by omega), v1]
  have F1 : frL2 σ (zu s1 164 (4 * (k : Int)) a.1) := (frL2.of f1).trans frL2.u
  have o1 : ∀ j : Int, j < 4 * (k : Int) → zu s1 164 (4 * (k : Int)) a.1 164 j = σ 164 j := fun j hj => (zu_i (by omega)).trans (f1 164 j (Or.inl (by decide)))
  have y1 : zu s1 164 (4 * (k : Int)) a.1 164 (4 * (k : Int)) = a.1 := zu_e rfl
  have u1 := tpP_164 (i := 4 * (k : Int)) (v := a.1) t1
  have n1 : zu s1 164 (4 * (k : Int)) a.1 143 22 = σ 143 22 := (zu_a (by decide)).trans z1
  have g1 : mT (zu s1 164 (4 * (k : Int)) a.1) = mT σ := mT_164.trans m1
  have h1 : zu s1 164 (4 * (k : Int)) a.1 143 20 = σ 143 20 := (zu_a (by decide)).trans l1
  have q1 : zu s1 164 (4 * (k : Int)) a.1 143 21 = a.2 := (zu_a (by decide)).trans p1
  generalize zu s1 164 (4 * (k : Int)) a.1 = w1 at F1 o1 y1 u1 n1 g1 h1 q1
  refine m_stS u1 (by omega) g1 h1 q1 (by decide) (fun q s r2 f e => ?_) (fun b s2 r2 f2 t2 z2 m2 l2 p2 => ?_)
  · try dsimp +instances only
    rw [if_pos rfl]
    exact zP'.ret (bad q s (F1.trans (frL2.of f)) (fun j hj => (f 164 j (Or.inl (by decide))).trans (o1 j hj)) e (by unfold bxP; rw [sbd_r r1, sbd_l r2]))
  try dsimp +instances only
  rw [if_neg (by decide), if_pos (by omega), f2 164 _ (Or.inl (by decide)), y1]
  refine m_stN (n := 2) t2 (by omega) m2 l2 p2 rfl (by decide) (fun q s r3 f e => ?_) (fun c s3 r3 f3 t3 z3 m3 l3 p3 v3 => ?_)
  · try dsimp +instances only
    rw [if_neg (by decide)]
    exact zP'.ret (bad q s ((F1.trans (frL2.of f2)).trans (frL2.of f)) (fun j hj => (f 164 j (Or.inl (by decide))).trans ((f2 164 j (Or.inl (by decide))).trans (o1 j hj))) e (by unfold bxP; rw [sbd_r r1, sbd_r r2, sbd_l r3]))
  try dsimp +instances only
  rw [if_pos (by decide), ex1, if_pos (by omega), v3]
  have F3 : frL2 σ (zu s3 164 (4 * (k : Int) + 1) c.1) := ((F1.trans (frL2.of f2)).trans (frL2.of f3)).trans frL2.u
  have b3 : ∀ j, s3 164 j = w1 164 j := fun j => (f3 164 j (Or.inl (by decide))).trans (f2 164 j (Or.inl (by decide)))
  have o3 : ∀ j : Int, j < 4 * (k : Int) → zu s3 164 (4 * (k : Int) + 1) c.1 164 j = σ 164 j := fun j hj => (zu_i (by omega)).trans ((b3 j).trans (o1 j hj))
  have y3 : zu s3 164 (4 * (k : Int) + 1) c.1 164 (4 * (k : Int)) = a.1 := (zu_i (by omega)).trans ((b3 _).trans y1)
  have y3b : zu s3 164 (4 * (k : Int) + 1) c.1 164 (4 * (k : Int) + 1) = c.1 := zu_e rfl
  have u3 := tpP_164 (i := 4 * (k : Int) + 1) (v := c.1) t3
  have n3 : zu s3 164 (4 * (k : Int) + 1) c.1 143 22 = σ 143 22 := (zu_a (by decide)).trans (z3.trans (z2.trans n1))
  have g3 : mT (zu s3 164 (4 * (k : Int) + 1) c.1) = mT σ := mT_164.trans m3
  have h3 : zu s3 164 (4 * (k : Int) + 1) c.1 143 20 = σ 143 20 := (zu_a (by decide)).trans l3
  have q3 : zu s3 164 (4 * (k : Int) + 1) c.1 143 21 = c.2 := (zu_a (by decide)).trans p3
  generalize zu s3 164 (4 * (k : Int) + 1) c.1 = w3 at F3 o3 y3 y3b u3 n3 g3 h3 q3
  refine m_stS u3 (by omega) g3 h3 q3 (by decide) (fun q s r4 f e => ?_) (fun d s4 r4 f4 t4 z4 m4 l4 p4 => ?_)
  · try dsimp +instances only
    rw [if_pos rfl]
    exact zP'.ret (bad q s (F3.trans (frL2.of f)) (fun j hj => (f 164 j (Or.inl (by decide))).trans (o3 j hj)) e (by unfold bxP; rw [sbd_r r1, sbd_r r2, sbd_r r3, sbd_l r4]))
  try dsimp +instances only
  rw [if_neg (by decide)]
  refine m_stN (n := 2) t4 (by omega) m4 l4 p4 rfl (by decide) (fun q s r5 f e => ?_) (fun e5 s5 r5 f5 t5 z5 m5 l5 p5 v5 => ?_)
  · try dsimp +instances only
    rw [if_neg (by decide)]
    exact zP'.ret (bad q s ((F3.trans (frL2.of f4)).trans (frL2.of f)) (fun j hj => (f 164 j (Or.inl (by decide))).trans ((f4 164 j (Or.inl (by decide))).trans (o3 j hj))) e (by unfold bxP; rw [sbd_r r1, sbd_r r2, sbd_r r3, sbd_r r4, sbd_l r5]))
  try dsimp +instances only
  rw [if_pos (by decide), ex2, if_pos (by omega), v5]
  have F5 : frL2 σ (zu s5 164 (4 * (k : Int) + 2) e5.1) := ((F3.trans (frL2.of f4)).trans (frL2.of f5)).trans frL2.u
  have b5 : ∀ j, s5 164 j = w3 164 j := fun j => (f5 164 j (Or.inl (by decide))).trans (f4 164 j (Or.inl (by decide)))
  have o5 : ∀ j : Int, j < 4 * (k : Int) → zu s5 164 (4 * (k : Int) + 2) e5.1 164 j = σ 164 j := fun j hj => (zu_i (by omega)).trans ((b5 j).trans (o3 j hj))
  have y5 : zu s5 164 (4 * (k : Int) + 2) e5.1 164 (4 * (k : Int)) = a.1 := (zu_i (by omega)).trans ((b5 _).trans y3)
  have y5b : zu s5 164 (4 * (k : Int) + 2) e5.1 164 (4 * (k : Int) + 1) = c.1 := (zu_i (by omega)).trans ((b5 _).trans y3b)
  have y5c : zu s5 164 (4 * (k : Int) + 2) e5.1 164 (4 * (k : Int) + 2) = e5.1 := zu_e rfl
  have u5 := tpP_164 (i := 4 * (k : Int) + 2) (v := e5.1) t5
  have n5 : zu s5 164 (4 * (k : Int) + 2) e5.1 143 22 = σ 143 22 := (zu_a (by decide)).trans (z5.trans (z4.trans n3))
  have g5 : mT (zu s5 164 (4 * (k : Int) + 2) e5.1) = mT σ := mT_164.trans m5
  have h5 : zu s5 164 (4 * (k : Int) + 2) e5.1 143 20 = σ 143 20 := (zu_a (by decide)).trans l5
  have q5 : zu s5 164 (4 * (k : Int) + 2) e5.1 143 21 = e5.2 := (zu_a (by decide)).trans p5
  generalize zu s5 164 (4 * (k : Int) + 2) e5.1 = w5 at F5 o5 y5 y5b y5c u5 n5 g5 h5 q5
  refine m_stS u5 (by omega) g5 h5 q5 (by decide) (fun q s r6 f e => ?_) (fun g s6 r6 f6 t6 z6 m6 l6 p6 => ?_)
  · try dsimp +instances only
    rw [if_pos rfl]
    exact zP'.ret (bad q s (F5.trans (frL2.of f)) (fun j hj => (f 164 j (Or.inl (by decide))).trans (o5 j hj)) e (by unfold bxP; rw [sbd_r r1, sbd_r r2, sbd_r r3, sbd_r r4, sbd_r r5, sbd_l r6]))
  try dsimp +instances only
  rw [if_neg (by decide), if_pos (by omega), f6 164 _ (Or.inl (by decide)), y5c]
  refine m_stN (n := 2) t6 (by omega) m6 l6 p6 rfl (by decide) (fun q s r7 f e => ?_) (fun h7 s7 r7 f7 t7 z7 m7 l7 p7 v7 => ?_)
  · try dsimp +instances only
    rw [if_neg (by decide)]
    exact zP'.ret (bad q s ((F5.trans (frL2.of f6)).trans (frL2.of f)) (fun j hj => (f 164 j (Or.inl (by decide))).trans ((f6 164 j (Or.inl (by decide))).trans (o5 j hj))) e (by unfold bxP; rw [sbd_r r1, sbd_r r2, sbd_r r3, sbd_r r4, sbd_r r5, sbd_r r6, sbd_l r7]))
  try dsimp +instances only
  rw [if_pos (by decide), ex3, if_pos (by omega), v7]
  have b7 : ∀ j, s7 164 j = w5 164 j := fun j => (f7 164 j (Or.inl (by decide))).trans (f6 164 j (Or.inl (by decide)))
  have rr : bxP (mT σ) (σ 143 20) (σ 143 21) = .inr ((a.1, c.1, e5.1, h7.1), h7.2) := by
    unfold bxP
    rw [sbd_r r1, sbd_r r2, sbd_r r3, sbd_r r4, sbd_r r5, sbd_r r6, sbd_r r7]
  refine zP'.ret ?_
  rw [rr]
  refine ⟨⟨((F5.trans (frL2.of f6)).trans (frL2.of f7)).trans frL2.u, fun j hj => (zu_i (by omega)).trans ((b7 j).trans (o5 j hj))⟩, rfl, (zu_a (by decide)).trans p7, (zu_a (by decide)).trans (z7.trans (z6.trans n5)), ?_⟩
  unfold bxA
  rw [zu_i (by omega), zu_i (by omega), zu_i (by omega), zu_e rfl, b7, b7, b7, y5, y5b, y5c]
def lmQ (r : Int) (s : zS) : Sum Int (List Bx) → Prop
  | .inl q => s 143 22 = q
  | .inr B => r = (B.length : Int) ∧ s 143 22 = -1 ∧ ∀ (i : Nat) (hi : i < B.length), bxA s 164 (4 * (i : Int)) = B[i]
theorem frL2.L {σ s : zS} (f : frL2 σ s) : s 143 20 = σ 143 20 := f 143 20 (by decide) (Or.inr (by decide))
theorem frL2.T {σ s : zS} (f : frL2 σ s) : mT s = mT σ := by
  funext j
  unfold mT
  rw [f.L, f 159 j (by decide) (Or.inl (by decide))]
theorem frL2.t {σ s : zS} (f : frL2 σ s) (h : tpP σ) (h2 : 0 ≤ s 143 21 ∧ s 143 21 ≤ σ 143 20) : tpP s := h.mv f.L (funext (fun j => f 159 j (by decide) (Or.inl (by decide)))) h2
theorem m_ld {Q : Int → zS → Prop} {σ0 : zS} : ∀ (n m : Nat) (l : List Bx) (σ : zS), tpP σ → σ 143 22 = -1 → l.length + m = 12 → 0 < m → frL2 σ0 σ → (∀ (i : Nat) (hi : i < l.length), bxA σ 164 (4 * (i : Int)) = l[i]) → (∀ r s, frL2 σ0 s → lmQ r s (ldP (mT σ) (σ 143 20) m (σ 143 21) l) → ∀ k, zP' (g_m_load_L8 k r 0 s) Q) → zP' (g_m_load_L8 n (l.length : Int) 1 σ) Q
  | 0, _, _, _, _, _, _, _, _, _, _ => zP'.no
  | n + 1, 0, _, _, _, _, _, hm, _, _, _ => absurd hm (Nat.lt_irrefl _)
  | n + 1, m + 1, l, σ, h, hs, hl, _, F0, hB, hQ => by
    have h21 := h.2.1
    rw [ldP_1] at hQ
    unfold g_m_load_L8
    rw [if_neg (by decide), w32_id (x := 4 * (l.length : Int)) (by omega) (by omega)]
    refine zP'.bind (m_spelled (k := l.length) (by omega) h (by omega)) (fun b s1 p1 => ?_)
    obtain ⟨⟨f1, o1⟩, r1⟩ := p1
    try dsimp +instances only
    rw [w32_id (x := (l.length : Int) + 1) (by omega) (by omega)]
    cases e1 : bxP (mT σ) (σ 143 20) (σ 143 21) with
    | inl q =>
      rw [e1] at r1 hQ
      obtain ⟨rfl, r2⟩ := r1
      rw [if_pos rfl]
      unfold g_m_load_L43
      rw [if_pos rfl]
      exact hQ _ s1 (F0.trans f1) r2 n
    | inr x =>
      rw [e1] at r1 hQ
      obtain ⟨rfl, r2, r3, r4⟩ := r1
      obtain ⟨okb, lt⟩ := bxP_ok e1
      have al : ((l ++ [x.1]).length : Int) = (l.length : Int) + 1 := by
        rw [List.length_append]
        show ((l.length + 1 : Nat) : Int) = _
        omega
      have nB : ∀ s : zS, (∀ j, s 164 j = s1 164 j) → ∀ (i : Nat) (hi : i < (l ++ [x.1]).length), bxA s 164 (4 * (i : Int)) = (l ++ [x.1])[i] := fun s e i hi => by
        have e2 : bxA s 164 (4 * (i : Int)) = bxA s1 164 (4 * (i : Int)) := by
          unfold bxA
          rw [e, e, e, e]
        rw [e2]
        rw [List.length_append] at hi
        have hi : i < l.length + 1 := hi
        by_cases c : i < l.length
        · rw [List.getElem_append_left c, ← hB i c]
          unfold bxA
          rw [o1 _ (by omega), o1 _ (by omega), o1 _ (by omega), o1 _ (by omega)]
        · have ei : i = l.length := by omega
          subst ei
          rw [List.getElem_append_right (Nat.le_refl _), r4]
          simp
      rw [if_neg (by decide)]
      try dsimp only at hQ
      have hi1 : x.2 ≤ σ 143 20 := lt.2
      rw [r2, f1.L]
      by_cases cl : x.2 < σ 143 20
      · rw [if_pos cl] at hQ
        rw [if_pos (by omega)]
        unfold g_m_load_L43
        rw [if_neg (by decide)]
        have t1 : tpP s1 := f1.t h (by omega)
        by_cases c12 : 12 ≤ (l.length : Int) + 1
        · rw [if_pos c12]
          rw [if_neg (fun k => by omega)] at hQ
          try dsimp +instances only
          unfold g_m_fails
          rw [r3, if_neg (by omega)]
          try rw [Option.bind_some]
          try dsimp +instances only
          unfold g_m_load_L70
          rw [r2]
          exact hQ _ _ ((F0.trans f1).trans (frL2.of (fun a j k => zu_c (by omega)))) (show zu s1 143 22 x.2 143 22 = x.2 from zu_e rfl) n
        · rw [if_neg c12]
          refine m_stS t1 (by omega) f1.T f1.L r2 (by decide) (fun q s r f e => ?_) (fun y s r f t z mm ll pp => ?_)
          · have cq : ¬ (l.length + 1 < 12 ∧ mT σ x.2 = 59) := fun k => by
              unfold sgnR at r
              rw [if_pos ⟨cl, k.2⟩] at r
              cases r
            have eq : q = x.2 := by
              unfold sgnR at r
              by_cases k : x.2 < σ 143 20 ∧ mT σ x.2 = 59
              · rw [if_pos k] at r
                cases r
              · rw [if_neg k] at r
                cases r
                rfl
            rw [if_neg cq] at hQ
            unfold g_m_load_L70
            exact hQ _ s ((F0.trans f1).trans (frL2.of f)) (show s 143 22 = x.2 by rw [e, eq]) n
          · obtain ⟨w1, w2, w3⟩ := sgnR_ok (v := y.1) (p' := y.2) r
            have c59 : mT σ x.2 = 59 := by
              unfold sgnR at r
              by_cases k : x.2 < σ 143 20 ∧ mT σ x.2 = 59
              · exact k.2
              · rw [if_neg k] at r
                cases r
            rw [if_pos ⟨by omega, c59⟩] at hQ
            unfold g_m_load_L70
            have F2 : frL2 σ s := f1.trans (frL2.of f)
            rw [← al]
            exact m_ld n m (l ++ [x.1]) s t (by omega) (by rw [List.length_append]; show l.length + 1 + m = 12; omega) (by omega) (F0.trans F2) (nB s (fun j => f 164 j (Or.inl (by decide)))) (by rw [mm, ll, pp, w2]; exact hQ)
      · rw [if_neg cl] at hQ
        rw [if_neg (by omega)]
        exact hQ _ s1 (F0.trans f1) ⟨al.symm, by omega, nB s1 (fun _ => rfl)⟩ n
end
section
/-! 8p.rload -/
/-! LOADING: boxes admitted -/
def mtA (L : List Rg) (b : Bx) : Bool := L.any (fun r => decide (bMt r.1 b))
theorem mtA_t {L : List Rg} {b : Bx} : mtA L b = true ↔ ∃ r ∈ L, bMt r.1 b := by
  unfold mtA
  rw [List.any_eq_true]
  constructor
  · rintro ⟨r, h1, h2⟩
    exact ⟨r, h1, of_decide_eq_true h2⟩
  · rintro ⟨r, h1, h2⟩
    exact ⟨r, h1, decide_eq_true h2⟩
theorem mtA_F {L : List Rg} {b : Bx} : mtA L b = true ↔ ∃ i, mtF L b i := by
  rw [mtA_t]
  constructor
  · rintro ⟨r, h1, h2⟩
    obtain ⟨k, hk, rfl⟩ := List.getElem_of_mem h1
    have key : ∀ n : Nat, ∀ k : Nat, k < n → (hk : k < L.length) → bMt L[k].1 b → ∃ i, mtF L b i := by
      intro n
      induction n with
      | zero => exact fun k h => absurd h (Nat.not_lt_zero _)
      | succ n ih =>
        intro k hkn hk h
        by_cases c : ∃ j, j < k ∧ ∃ hj : j < L.length, bMt L[j].1 b
        · obtain ⟨j, j1, j2, j3⟩ := c
          exact ih j (by omega) j2 j3
        · exact ⟨k, hk, h, fun j hj hjk hm => c ⟨j, hjk, hj, hm⟩⟩
    exact key (k + 1) k (by omega) hk h2
  · rintro ⟨i, hi, h1, -⟩
    exact ⟨_, List.getElem_mem hi, h1⟩
def adF (rn : Bx → Int) (st : Int → Int) (X : List Rg × (Int → Int) × Int) (b : Bx) : List Rg × (Int → Int) × Int := if mtA X.1 b = true then X else (X.1 ++ [newR rn st (askP rn st X.2.1 b) b], upC (askP rn st X.2.1 b) 8 (w32 (askP rn st X.2.1 b 8 + 1)), X.2.2 + 1)
/-- what loading makes of regions, and what it answers -/
def ldR (rn : Bx → Int) (st : Int → Int) (r : Sum Int (List Bx)) (L : List Rg) (ct : Int → Int) (L' : List Rg) (ct' : Int → Int) (v : Int) : Prop := match r with
  | .inl q => L' = L ∧ ct' = ct ∧ v = -100 - q
  | .inr B => (∃ m, TMn rn st m ((B.foldl (adF rn st) (L, ct, 0)).1, (B.foldl (adF rn st) (L, ct, 0)).2.1) (L', ct')) ∧ v = (B.foldl (adF rn st) (L, ct, 0)).2.2
theorem gL_ad {rn : Bx → Int} {st : Int → Int} : ∀ (l : List Bx) {X : List Rg × (Int → Int) × Int}, gL X.1 → 0 ≤ X.2.1 8 → X.2.1 8 + (l.length : Int) < 2147483648 → gL (l.foldl (adF rn st) X).1
  | [], _, g, _, _ => g
  | p :: l, X, g, h0, hl => by
    rw [List.length_cons] at hl
    have key : gL (adF rn st X p).1 ∧ X.2.1 8 ≤ (adF rn st X p).2.1 8 ∧ (adF rn st X p).2.1 8 ≤ X.2.1 8 + 1 := by
      unfold adF
      by_cases c : mtA X.1 p = true
      · rw [if_pos c]
        exact ⟨g, Int.le_refl _, by omega⟩
      · rw [if_neg c]
        refine ⟨g.app (gk_new (by rw [ask_8]; exact h0)), ?_⟩
        show X.2.1 8 ≤ upC (askP rn st X.2.1 p) 8 (w32 (askP rn st X.2.1 p 8 + 1)) 8 ∧ upC (askP rn st X.2.1 p) 8 (w32 (askP rn st X.2.1 p 8 + 1)) 8 ≤ X.2.1 8 + 1
        rw [upC_e, ask_8, w32_id (by omega) (by omega)]
        omega
    exact gL_ad l (X := adF rn st X p) key.1 (by omega) (by omega)
theorem gL_ld {rn : Bx → Int} {st : Int → Int} {r : Sum Int (List Bx)} {L L' : List Rg} {ct ct' : Int → Int} {v : Int} (h : ldR rn st r L ct L' ct' v) (hB : ∀ B, r = .inr B → B.length ≤ 100) (h8 : 0 ≤ ct 8 ∧ ct 8 ≤ 2000000000) (g : gL L) : gL L' := by
  cases r with
  | inl q =>
    rw [h.1]
    exact g
  | inr B =>
    obtain ⟨⟨m, a⟩, -⟩ := h
    have := hB B rfl
    exact (gL_TMn m a (gL_ad B (X := (L, ct, 0)) g h8.1 (by show ct 8 + _ < _; omega))).1
theorem ldR.det {rn : Bx → Int} {st : Int → Int} {r : Sum Int (List Bx)} {L L1 L2 : List Rg} {ct c1 c2 : Int → Int} {v w : Int} (h1 : ldR rn st r L ct L1 c1 v) (h2 : ldR rn st r L ct L2 c2 w) : L1 = L2 ∧ c1 = c2 ∧ v = w := by
  cases r with
  | inl q => exact ⟨h1.1.trans h2.1.symm, h1.2.1.trans h2.2.1.symm, h1.2.2.trans h2.2.2.symm⟩
  | inr B =>
    obtain ⟨⟨m, a⟩, e1⟩ := h1
    obtain ⟨⟨n, b⟩, e2⟩ := h2
    have h := TMn.det _ _ a b
    exact ⟨congrArg Prod.fst h, congrArg Prod.snd h, e1.trans e2.symm⟩
theorem ad_all {rn : Bx → Int} {st : Int → Int} : ∀ (B : List Bx) (X : List Rg × (Int → Int) × Int), (∀ b ∈ B, bOk b) → (∀ r ∈ X.1, hOk r) → asc X.1 (X.2.1 8) → (0 ≤ X.2.1 8 ∧ X.2.1 8 + (B.length : Int) < 2147483648) → (∀ r ∈ (B.foldl (adF rn st) X).1, hOk r) ∧ asc (B.foldl (adF rn st) X).1 ((B.foldl (adF rn st) X).2.1 8) ∧ (B.foldl (adF rn st) X).1.length ≤ X.1.length + B.length ∧ X.2.1 8 ≤ (B.foldl (adF rn st) X).2.1 8 ∧ (B.foldl (adF rn st) X).2.1 8 ≤ X.2.1 8 + (B.length : Int)
  | [], X, _, hk, ha, _ => ⟨hk, ha, Nat.le_refl _, Int.le_refl _, by rw [List.length_nil]; exact Int.le_add_of_nonneg_right (Int.le_refl _)⟩
  | b :: B, X, ok, hk, ha, h8 => by
    rw [List.length_cons] at h8 ⊢
    have e : (b :: B).foldl (adF rn st) X = B.foldl (adF rn st) (adF rn st X b) := rfl
    rw [e]
    by_cases c : mtA X.1 b = true
    · have ex : adF rn st X b = X := if_pos c
      rw [ex]
      obtain ⟨a1, a2, a3, a4, a5⟩ := ad_all (rn := rn) (st := st) B X (fun q hq => ok q (List.mem_cons_of_mem _ hq)) hk ha (by omega)
      exact ⟨a1, a2, by omega, a4, by omega⟩
    · have ex : adF rn st X b = (X.1 ++ [newR rn st (askP rn st X.2.1 b) b], upC (askP rn st X.2.1 b) 8 (w32 (askP rn st X.2.1 b 8 + 1)), X.2.2 + 1) := if_neg c
      rw [ex]
      have a8 : askP rn st X.2.1 b 8 = X.2.1 8 := rfl
      have w8 : w32 (askP rn st X.2.1 b 8 + 1) = X.2.1 8 + 1 := by
        rw [a8]
        exact w32_id (by omega) (by omega)
      have u8 : upC (askP rn st X.2.1 b) 8 (w32 (askP rn st X.2.1 b 8 + 1)) 8 = X.2.1 8 + 1 := w8
      have hl : (X.1 ++ [newR rn st (askP rn st X.2.1 b) b]).length = X.1.length + 1 := by
        rw [List.length_append]
        rfl
      obtain ⟨a1, a2, a3, a4, a5⟩ := ad_all (rn := rn) (st := st) B (X.1 ++ [newR rn st (askP rn st X.2.1 b) b], upC (askP rn st X.2.1 b) 8 (w32 (askP rn st X.2.1 b 8 + 1)), X.2.2 + 1) (fun q hq => ok q (List.mem_cons_of_mem _ hq)) (fun r hr => by
        rcases List.mem_append.mp hr with hr | hr
        · exact hk r hr
        · rw [List.mem_singleton] at hr
          rw [hr]
          exact new_ok (ok b List.mem_cons_self)) (by
        show asc (X.1 ++ [newR rn st (askP rn st X.2.1 b) b]) (upC (askP rn st X.2.1 b) 8 (w32 (askP rn st X.2.1 b 8 + 1)) 8)
        rw [u8]
        exact asc.add ha rfl) (by
        show 0 ≤ upC (askP rn st X.2.1 b) 8 (w32 (askP rn st X.2.1 b 8 + 1)) 8 ∧ upC (askP rn st X.2.1 b) 8 (w32 (askP rn st X.2.1 b 8 + 1)) 8 + (B.length : Int) < _
        rw [u8]
        omega)
      have a3 : _ ≤ (X.1 ++ [newR rn st (askP rn st X.2.1 b) b]).length + B.length := a3
      have a4 : upC (askP rn st X.2.1 b) 8 (w32 (askP rn st X.2.1 b 8 + 1)) 8 ≤ _ := a4
      have a5 : _ ≤ upC (askP rn st X.2.1 b) 8 (w32 (askP rn st X.2.1 b 8 + 1)) 8 + (B.length : Int) := a5
      rw [hl] at a3
      rw [u8] at a4 a5
      exact ⟨a1, a2, by omega, by omega, by omega⟩
theorem bs_at12 {L : List Bx} {k : Nat} {σ : zS} (h : bsR σ 126 L) (hL : L.length ≤ 12) (hk : k < L.length) : g_bs_at 126 (k : Int) σ = some (enc L[k], σ) := by
  have l127 : zLI (126 + 1) = 12 := rfl
  unfold g_bs_at
  try dsimp +instances only
  rw [if_neg (by omega), h.1, if_neg (by omega), l127, if_neg (by omega), if_pos (by omega), h.2 k hk]
theorem k_admit4 {I : Nat → Bool} {rn : Bx → Int} {st : Int → Int} {B : List Bx} {X0 : List Rg × (Int → Int) × Int} (s1 : 0 ≤ st 1) (s2 : 0 ≤ st 2) (okB : ∀ b ∈ B, bOk b) (hB : B.length ≤ 12) (hX : X0.1.length ≤ 12) (hk0 : ∀ r ∈ X0.1, hOk r) (hA : asc X0.1 (X0.2.1 8)) (h8 : 0 ≤ X0.2.1 8 ∧ X0.2.1 8 ≤ 2000000) (h00 : X0.2.2 = 0) : ∀ (n k : Nat) (σ : zS), k ≤ B.length → cSt σ 48 I rn st ((B.take k).foldl (adF rn st) X0).1 ((B.take k).foldl (adF rn st) X0).2.1 → bsR σ 126 B → zP' (g_ca_admit_L4 48 n ((B.take k).foldl (adF rn st) X0).2.2 (k : Int) σ) (fun v s => ∃ L' ct', (∃ m, TMn rn st m ((B.foldl (adF rn st) X0).1, (B.foldl (adF rn st) X0).2.1) (L', ct')) ∧ v = (B.foldl (adF rn st) X0).2.2 ∧ cSt s 48 I rn st L' ct' ∧ ∀ x y, (x < 48 ∨ 59 < x) → s x y = σ x y)
  | 0, _, _, _, _, _ => zP'.no
  | n + 1, k, σ, hk, C, hb => by
    have hlt : (B.take k).length = k := by rw [List.length_take]; omega
    obtain ⟨g1, g2, g3, g4, g5⟩ := ad_all (rn := rn) (st := st) (B.take k) X0 (fun b hm => okB b (List.mem_of_mem_take hm)) hk0 hA (by rw [hlt]; omega)
    rw [hlt] at g3 g5
    have cnt : ∀ (C : List Bx) (X : List Rg × (Int → Int) × Int), 0 ≤ X.2.2 → 0 ≤ (C.foldl (adF rn st) X).2.2 ∧ (C.foldl (adF rn st) X).2.2 ≤ X.2.2 + (C.length : Int) := by
      intro C
      induction C with
      | nil => exact fun X h => ⟨h, by rw [List.length_nil]; exact Int.le_add_of_nonneg_right (Int.le_refl _)⟩
      | cons b C ih =>
        intro X h
        have e : (b :: C).foldl (adF rn st) X = C.foldl (adF rn st) (adF rn st X b) := rfl
        rw [e, List.length_cons]
        by_cases c : mtA X.1 b = true
        · have ex : adF rn st X b = X := if_pos c
          rw [ex]
          have := ih X h
          omega
        · have ex : adF rn st X b = (X.1 ++ [newR rn st (askP rn st X.2.1 b) b], upC (askP rn st X.2.1 b) 8 (w32 (askP rn st X.2.1 b 8 + 1)), X.2.2 + 1) := if_neg c
          rw [ex]
          have := ih (X.1 ++ [newR rn st (askP rn st X.2.1 b) b], upC (askP rn st X.2.1 b) 8 (w32 (askP rn st X.2.1 b 8 + 1)), X.2.2 + 1) (by show 0 ≤ X.2.2 + 1; omega)
          have q : 0 ≤ (List.foldl (adF rn st) (X.1 ++ [newR rn st (askP rn st X.2.1 b) b], upC (askP rn st X.2.1 b) 8 (w32 (askP rn st X.2.1 b 8 + 1)), X.2.2 + 1) C).2.2 ∧ (List.foldl (adF rn st) (X.1 ++ [newR rn st (askP rn st X.2.1 b) b], upC (askP rn st X.2.1 b) 8 (w32 (askP rn st X.2.1 b 8 + 1)), X.2.2 + 1) C).2.2 ≤ (X.2.2 + 1) + (C.length : Int) := this
          omega
    have cb := cnt (B.take k) X0 (by omega)
    rw [hlt] at cb
    unfold g_ca_admit_L4
    try dsimp +instances only
    rw [hb.1]
    by_cases ck : (B.length : Int) ≤ (k : Int)
    · rw [if_pos ck]
      rw [List.take_of_length_le (by omega)] at C g1 g3 ⊢
      refine zP'.bind (k_trim (Or.inl rfl) s1 s2 C (by omega) g1) (fun _ s p => ?_)
      obtain ⟨m, L', ct', p1, p2, p3, p4, p5⟩ := p
      exact zP'.ret ⟨L', ct', ⟨m, p1⟩, rfl, p4, fun x y k => p5 x y (by omega)⟩
    · have hk' : k < B.length := by omega
      have okp := okB _ (List.getElem_mem hk')
      have et : (B.take (k + 1)).foldl (adF rn st) X0 = adF rn st ((B.take k).foldl (adF rn st) X0) B[k] := by
        rw [List.take_succ_eq_append_getElem hk', List.foldl_append]
        rfl
      rw [if_neg ck, bs_at12 hb hB hk']
      rw [Option.bind_some]
      try dsimp +instances only
      refine zP'.bind (k_regionAt (by omega) (fun r hr => (g1 r hr).1) okp C.1) (fun v s q => ?_)
      obtain ⟨rfl, q⟩ := q
      try dsimp +instances only
      unfold g_ca_admit_L45
      rcases q with ⟨rfl, q⟩ | ⟨i, rfl, q⟩
      · have nm : ¬ mtA ((B.take k).foldl (adF rn st) X0).1 B[k] = true := fun h => by
          obtain ⟨i, hi⟩ := mtA_F.mp h
          exact q i hi
        have ep : adF rn st ((B.take k).foldl (adF rn st) X0) B[k] = _ := if_neg nm
        rw [if_neg (by decide), bs_at12 hb hB hk']
        rw [Option.bind_some]
        try dsimp +instances only
        obtain ⟨t, e1, e2, e3⟩ := k_ask (b := B[k]) (Or.inl rfl) C okp
        rw [e1]
        rw [Option.bind_some]
        try dsimp +instances only
        have hbt : bsR t 126 B := ⟨(e3 126 1 (Or.inl (by decide))).trans hb.1, fun i hi => (e3 127 _ (Or.inl (by decide))).trans (hb.2 i hi)⟩
        rw [bs_at12 hbt hB hk']
        rw [Option.bind_some]
        try dsimp +instances only
        refine zP'.bind (k_addNew (Or.inl rfl) e2 (by omega) okp) (fun _ u p => ?_)
        obtain ⟨p1, p2⟩ := p
        try dsimp +instances only
        have hbu : bsR u 126 B := ⟨(p2 126 1 (by omega) (Or.inl (by decide))).trans hbt.1, fun i hi => (p2 127 _ (by omega) (Or.inl (by decide))).trans (hbt.2 i hi)⟩
        rw [w32_id (x := (k : Int) + 1) (by omega) (by omega), show (k : Int) + 1 = ((k + 1 : Nat) : Int) by omega, w32_id (x := ((B.take k).foldl (adF rn st) X0).2.2 + 1) (by omega) (by omega)]
        have ev : ((B.take k).foldl (adF rn st) X0).2.2 + 1 = ((B.take (k + 1)).foldl (adF rn st) X0).2.2 := by
          rw [et, ep]
        rw [ev]
        refine (k_admit4 (I := I) (rn := rn) (st := st) s1 s2 okB hB hX hk0 hA h8 h00 n (k + 1) u (by omega) ?_ hbu).imp (fun v w g => ?_)
        · rw [et, ep]
          exact p1
        · obtain ⟨L', ct', g1, g2, g3, g4⟩ := g
          exact ⟨L', ct', g1, g2, g3, fun x y k => (g4 x y k).trans ((p2 x y (by omega) (Or.inl (by omega))).trans (e3 x y (Or.inl (by omega))))⟩
      · have mm : mtA ((B.take k).foldl (adF rn st) X0).1 B[k] = true := mtA_F.mpr ⟨i, q⟩
        have ep : adF rn st ((B.take k).foldl (adF rn st) X0) B[k] = (B.take k).foldl (adF rn st) X0 := if_pos mm
        rw [if_pos (by omega), w32_id (x := (k : Int) + 1) (by omega) (by omega), show (k : Int) + 1 = ((k + 1 : Nat) : Int) by omega]
        have ev : ((B.take k).foldl (adF rn st) X0).2.2 = ((B.take (k + 1)).foldl (adF rn st) X0).2.2 := by
          rw [et, ep]
        rw [ev]
        refine k_admit4 s1 s2 okB hB hX hk0 hA h8 h00 n (k + 1) s (by omega) ?_ hb
        rw [et, ep]
        exact C
theorem kR_load {σ : zS} {I : Nat → Bool} {rn : Bx → Int} {st : Int → Int} {L : List Rg} {ct : Int → Int} (H : CI σ) (hb : byC σ) (so : stO1 st) (hL : L.length ≤ 12) (hk : ∀ r ∈ L, hOk r) (A : asc L (ct 8)) (h8 : 0 ≤ ct 8 ∧ ct 8 ≤ 2000000) (C : cSt σ 48 I rn st L ct) : zP' (g_c_load σ) (fun v s => ∃ L' ct', ldR rn st (ldP (cT σ) (σ 120 1) 12 0 []) L ct L' ct' v ∧ cSt s 48 I rn st L' ct') := by
  have ht := CI.ct H
  unfold g_c_load
  rw [c_begin]
  rw [Option.bind_some]
  try dsimp +instances only
  generalize hs1 : zu (zu (zu σ 120 2 0) 120 3 (-1)) 126 1 0 = s1
  have q1 : ∀ a j, (a ≠ 126 ∨ j ≠ 1) → (a ≠ 120 ∨ (j ≠ 2 ∧ j ≠ 3)) → s1 a j = σ a j := fun a j k1 k2 => by rw [← hs1, zu_c k1, zu_c (by omega), zu_c (by omega)]
  have q2 : s1 120 2 = 0 := by rw [← hs1, zu_a (by decide), zu_i (by decide), zu_e rfl]
  have q3 : s1 120 3 = -1 := by rw [← hs1, zu_a (by decide), zu_e rfl]
  have qL : s1 120 1 = σ 120 1 := q1 120 1 (Or.inl (by decide)) (Or.inr (by decide))
  have q121 : s1 121 = σ 121 := funext (fun j => q1 121 j (Or.inl (by decide)) (Or.inl (by decide)))
  have b1 : bsR s1 126 [] := ⟨by rw [← hs1]; exact zu_e rfl, fun k hk => absurd hk (Nat.not_lt_zero _)⟩
  have t1 : tpL s1 := by
    unfold tpL
    rw [qL, q2, q121]
    exact ⟨ht, by omega, hb⟩
  have eT : cT s1 = cT σ := by
    funext j
    unfold cT
    rw [qL, q121]
  have C1 : cSt s1 48 I rn st L ct := C.mv (fun c j k => q1 c j (by omega) (by omega))
  have bd := ldP_bd (f := cT σ) (L := σ 120 1) 12 0 [] (by decide) (by omega) rfl (fun b hm => absurd hm List.not_mem_nil)
  have P := c_ld (Q := fun v s => ∃ L' ct', ldR rn st (ldP (cT σ) (σ 120 1) 12 0 []) L ct L' ct' v ∧ cSt s 48 I rn st L' ct') (σ0 := s1) zK 12 [] s1 t1 q3 rfl (by decide) b1 (fun _ _ _ _ _ => rfl) (by
    rw [eT, qL, q2]
    intro s f r
    have C2 : cSt s 48 I rn st L ct := C1.mv (fun c j k => f c j (by omega) (by omega) (by omega))
    unfold g_c_load_L69
    rw [p_isSound]
    rw [Option.bind_some]
    try dsimp +instances only
    cases e : ldP (cT σ) (σ 120 1) 12 0 [] with
    | inl q =>
      rw [e] at r
      have r : s 120 3 = q := r
      have hq := bd.1 q e
      rw [if_neg (show ¬ s 120 3 = -1 by omega), if_pos rfl]
      unfold g_c_load_L101
      rw [c_end, if_neg (by omega), r, w32_id (x := -100 - q) (by omega) (by omega)]
      rw [Option.bind_some]
      exact zP'.ret ⟨L, ct, ⟨rfl, rfl, rfl⟩, C2.mv (fun c j k => zu_a (by omega))⟩
    | inr B =>
      rw [e] at r
      obtain ⟨r1, r2⟩ := r
      obtain ⟨B12, okB⟩ := bd.2 B e
      rw [if_pos r1, if_neg (by decide)]
      have AD := k_admit4 (X0 := (L, ct, 0)) (by have := so.1; omega) (by have := so.2.1; omega) okB B12 hL hk A h8 rfl zK 0 s (Nat.zero_le _) C2 r2
      have AD : zP' (g_ca_admit 48 s) _ := AD
      refine zP'.bind AD (fun v t p => ?_)
      obtain ⟨L', ct', p1, p2, p3, p4⟩ := p
      try dsimp +instances only
      unfold g_c_load_L101
      rw [c_end, if_pos (by rw [p4 120 3 (by omega)]; exact r1)]
      rw [Option.bind_some]
      exact zP'.ret ⟨L', ct', ⟨p1, p2⟩, p3.mv (fun c j k => zu_a (by omega))⟩)
  exact P
theorem t_meets5 {a : Nat} {i : Int} {σ : zS} {N : Nat} (hN : σ 144 0 = (N : Int)) (hN2 : N ≤ 239) (h1 : 0 ≤ i) (h2 : i + 3 < zLI a) (h3 : zLI a ≤ 100000) : ∀ (n k : Nat) (x : Int), k ≤ N → (x = 0 ∨ x = 1) → zP' (g_m_meetsNone_L5 a n i x (k : Int) σ) (fun v s => s = σ ∧ (v = 0 ∨ v = 1) ∧ (v = 1 ↔ x = 1 ∧ ∀ t : Nat, k ≤ t → t < N → ¬ bMt (bxA σ a i) (rgA σ (t : Int)).1))
  | 0, _, _, _, _ => zP'.no
  | n + 1, k, x, hk, hx => by
    have e1 : w32 ((k : Int) + 1) = ((k + 1 : Nat) : Int) := by rw [w32_id (by omega) (by omega)]; omega
    unfold g_m_meetsNone_L5
    try dsimp +instances only
    rw [hN]
    by_cases ck : (N : Int) ≤ (k : Int)
    · rw [if_pos ck, if_pos hx]
      exact zP'.ret ⟨rfl, hx, ⟨fun h => ⟨h, fun t t1 t2 => by omega⟩, fun h => h.1⟩⟩
    · rw [if_neg ck, s_region (by omega) (by omega)]
      rw [Option.bind_some]
      try dsimp +instances only
      rw [s_doMeet h1 h2 h3 (by omega) (by rw [l144]; omega) (by rw [l144]; omega)]
      rw [Option.bind_some]
      try dsimp +instances only
      unfold g_m_meetsNone_L39
      rw [e1, (iAnd_b hx).1, (iAnd_b hx).2]
      have eb : bxA σ 144 (340 + 10 * (k : Int)) = (rgA σ (k : Int)).1 := rfl
      by_cases c : bMt (bxA σ a i) (bxA σ 144 (340 + 10 * (k : Int)))
      · rw [if_pos c, if_pos (by decide)]
        refine (t_meets5 hN hN2 h1 h2 h3 n (k + 1) 0 (by omega) (Or.inl rfl)).imp (fun v s p => ⟨p.1, p.2.1, ⟨fun h => absurd (p.2.2.mp h).1 (by decide), fun h => absurd (by rw [← eb]; exact c) (h.2 k (Nat.le_refl _) (by omega))⟩⟩)
      · rw [if_neg c, if_neg (by decide)]
        refine (t_meets5 hN hN2 h1 h2 h3 n (k + 1) x (by omega) hx).imp (fun v s p => ⟨p.1, p.2.1, p.2.2.trans ⟨fun h => ⟨h.1, fun t t1 t2 => ?_⟩, fun h => ⟨h.1, fun t t1 t2 => h.2 t (by omega) t2⟩⟩⟩)
        by_cases ct : t = k
        · subst ct
          rw [← eb]
          exact c
        · exact h.2 t (by omega) t2
theorem t_load99R {rn : Bx → Int} {st : Int → Int} {B : List Bx} {X0 : List Rg × (Int → Int) × Int} (so : stO1 st) (okB : ∀ b ∈ B, bOk b) (hB : B.length ≤ 12) (hX : X0.1.length ≤ 12) (hk0 : ∀ r ∈ X0.1, hOk r) (hA : asc X0.1 (X0.2.1 8)) (h8 : 0 ≤ X0.2.1 8 ∧ X0.2.1 8 ≤ 2000000) (h00 : X0.2.2 = 0) : ∀ (n k : Nat) (s : zS) (x : Int), k ≤ B.length → x = ((B.take k).foldl (adF rn st) X0).2.2 → (0 ≤ x ∧ x ≤ (k : Int)) → mSt s rn st ((B.take k).foldl (adF rn st) X0).1 ((B.take k).foldl (adF rn st) X0).2.1 → (∀ (i : Nat) (hi : i < B.length), bxA s 164 (4 * (i : Int)) = B[i]) → zP' (g_m_load_L99 n (B.length : Int) x (k : Int) s) (fun v t => ∃ L' ct', (∃ m, TMn rn st m ((B.foldl (adF rn st) X0).1, (B.foldl (adF rn st) X0).2.1) (L', ct')) ∧ v = (B.foldl (adF rn st) X0).2.2 ∧ asc L' (ct' 8) ∧ (X0.2.1 8 ≤ ct' 8 ∧ ct' 8 ≤ X0.2.1 8 + 12) ∧ mSt t rn st L' ct')
  | 0, _, _, _, _, _, _, _, _ => zP'.no
  | n + 1, k, s, x, hk, hx, x01, M, hb => by
    have hlt : (B.take k).length = k := by rw [List.length_take]; omega
    obtain ⟨g1, g2, g3, g4, g5⟩ := ad_all (rn := rn) (st := st) (B.take k) X0 (fun b hm => okB b (List.mem_of_mem_take hm)) hk0 hA (by rw [hlt]; omega)
    rw [hlt] at g3 g5
    unfold g_m_load_L99
    by_cases ck : (B.length : Int) ≤ (k : Int)
    · rw [if_pos ck]
      rw [List.take_of_length_le (by omega)] at M g1 g2 g3 g4 g5 hx
      refine zP'.bind (t_trims (by have := so.1; omega) (by have := so.2.1; omega) so.2.2.2.2 M (by omega) g1 g2) (fun _ t p => ?_)
      obtain ⟨m, L', ct', p1, p2, p3, p4, p5, p6⟩ := p
      exact zP'.ret ⟨L', ct', ⟨m, p1⟩, hx, p4, by omega, p6⟩
    · have hk' : k < B.length := by omega
      have okp := okB _ (List.getElem_mem hk')
      have et : (B.take (k + 1)).foldl (adF rn st) X0 = adF rn st ((B.take k).foldl (adF rn st) X0) B[k] := by
        rw [List.take_succ_eq_append_getElem hk', List.foldl_append]
        rfl
      have ebk := hb k hk'
      generalize hXk : (B.take k).foldl (adF rn st) X0 = X at M g1 g2 g3 g4 g5 hx et
      generalize hp : B[k] = p at okp et ebk
      have hN := M.1.1
      rw [if_neg ck, w32_id (x := 4 * (k : Int)) (by omega) (by omega)]
      unfold g_m_meetsNone
      have MN := t_meets5 (a := 164) (i := 4 * (k : Int)) hN (by omega) (by omega) (by rw [l164]; omega) (by rw [l164]; omega) zK 0 1 (Nat.zero_le _) (Or.inr rfl)
      have MN : zP' (g_m_meetsNone_L5 164 zK (4 * (k : Int)) 1 0 s) _ := MN
      refine zP'.bind MN (fun b s' q => ?_)
      obtain ⟨rfl, b01, biff⟩ := q
      try dsimp +instances only
      unfold g_m_load_L154
      rw [ebk] at biff
      by_cases c : b ≠ 0
      · have hb1 : b = 1 := by omega
        have none : ∀ t : Nat, t < X.1.length → ¬ bMt p (rgA s' (t : Int)).1 := fun t ht => (biff.mp hb1).2 t (Nat.zero_le _) ht
        have nm : ¬ mtA X.1 p = true := fun h => by
          obtain ⟨r, h1, h2⟩ := mtA_t.mp h
          obtain ⟨t, ht, rfl⟩ := List.getElem_of_mem h1
          refine none t ht ?_
          rw [M.1.2 t ht]
          exact bMt_comm h2
        have ep : adF rn st X p = (X.1 ++ [newR rn st (askP rn st X.2.1 p) p], upC (askP rn st X.2.1 p) 8 (w32 (askP rn st X.2.1 p 8 + 1)), X.2.2 + 1) := if_neg nm
        rw [if_pos c, s_asks (by decide) (by omega) (by rw [l164]; omega) (by rw [l164]; omega), ebk]
        rw [Option.bind_some]
        try dsimp +instances only
        have MA := t_ask (p := p) M (by omega)
        have eb2 : bxA (askS s' (costN s' p)) 164 (4 * (k : Int)) = p := (askS_bx (Or.inl (by decide))).trans ebk
        rw [s_adds MA.1.1 (by omega) (by omega) (by omega) (by rw [l164]; omega) (by rw [l164]; omega), eb2]
        rw [Option.bind_some]
        try dsimp +instances only
        rw [s_weighs (by omega) (by omega)]
        rw [Option.bind_some]
        try dsimp +instances only
        have MD := t_add (p := p) MA (by omega)
        rw [w32_id (x := (k : Int) + 1) (by omega) (by omega), show (k : Int) + 1 = ((k + 1 : Nat) : Int) by omega, w32_id (x := x + 1) (by omega) (by omega)]
        refine t_load99R so okB hB hX hk0 hA h8 h00 n (k + 1) _ (x + 1) (by omega) (by rw [et, ep, hx]) (by omega) (by rw [et, ep]; exact MD) (fun i hi => ?_)
        rw [← hb i hi]
        have o : ∀ j, trW (addsS (askS s' (costN s' p)) (X.1.length : Int) p) (X.1.length : Int) 164 j = s' 164 j := fun j => by
          show zu _ 147 _ _ 164 j = _
          rw [zu_a (by decide), addsS_a (Or.inl (by decide)), askS_a (Or.inl (by decide))]
        show bxA (trW (addsS (askS s' (costN s' p)) (X.1.length : Int) p) (X.1.length : Int)) 164 _ = _
        unfold bxA
        rw [o, o, o, o]
      · have hb0 : ¬ b = 1 := by omega
        have mm : mtA X.1 p = true := by
          refine Classical.byContradiction (fun hn => hb0 (biff.mpr ⟨rfl, fun t _ ht h => hn (mtA_t.mpr ⟨X.1[t], List.getElem_mem ht, ?_⟩)⟩))
          rw [M.1.2 t ht] at h
          exact bMt_comm h
        have ep : adF rn st X p = X := if_pos mm
        rw [if_neg c, w32_id (x := (k : Int) + 1) (by omega) (by omega), show (k : Int) + 1 = ((k + 1 : Nat) : Int) by omega]
        exact t_load99R so okB hB hX hk0 hA h8 h00 n (k + 1) s' x (by omega) (by rw [et, ep, hx]) (by omega) (by rw [et, ep]; exact M) hb
theorem t_loadR {σ : zS} {rn : Bx → Int} {st : Int → Int} {L : List Rg} {ct : Int → Int} (h : MI σ) (hb : tpR σ) (so : stO1 st) (M : mSt σ rn st L ct) (hL : L.length ≤ 12) (hk : ∀ r ∈ L, hOk r) (A : asc L (ct 8)) (h8 : 0 ≤ ct 8 ∧ ct 8 ≤ 2000000) : zP' (g_m_load σ) (fun v s => ∃ L' ct', ldR rn st (ldP (mT σ) (σ 143 20) 12 0 []) L ct L' ct' v ∧ asc L' (ct' 8) ∧ (ct 8 ≤ ct' 8 ∧ ct' 8 ≤ ct 8 + 12) ∧ mSt s rn st L' ct') := by
  have h20 := h.2.2.1.1
  have bd := ldP_bd (f := mT σ) (L := σ 143 20) 12 0 [] (by decide) h20.1 rfl (fun b hm => absurd hm List.not_mem_nil)
  unfold g_m_load g_m_begins
  rw [Option.bind_some]
  try dsimp +instances only
  have f3 : fr3 σ (zu (zu σ 143 21 0) 143 22 (-1)) := fun a j k2 => by rw [zu_c (by omega), zu_c (by omega)]
  have q21 : zu (zu σ 143 21 0) 143 22 (-1) 143 21 = 0 := by rw [zu_i (by omega), zu_e rfl]
  have q22 : zu (zu σ 143 21 0) 143 22 (-1) 143 22 = -1 := zu_e rfl
  generalize zu (zu σ 143 21 0) 143 22 (-1) = s1 at f3 q21 q22
  have e20 : s1 143 20 = σ 143 20 := f3 143 20 (by omega)
  have t1 : tpP s1 := by
    refine ⟨by rw [e20]; exact h20, by rw [e20, q21]; exact ⟨Int.le_refl 0, h20.1⟩, ?_⟩
    unfold tpR
    rw [e20]
    exact fun j j1 j2 => by rw [f3 159 j (Or.inl (by decide))]; exact hb j j1 j2
  refine m_ld (σ0 := s1) zK 12 [] s1 t1 q22 rfl (by decide) (fun _ _ _ _ => rfl) (fun i hi => absurd hi (Nat.not_lt_zero _)) (fun r s f hr k => ?_)
  rw [mT_f f3, e20, q21] at hr
  have f : frL2 σ s := (frL2.of f3).trans f
  cases k with
  | zero => exact zP'.no
  | succ k =>
    unfold g_m_load_L8
    rw [if_pos rfl]
    try dsimp +instances only
    have e22 : zu s 143 20 0 143 22 = s 143 22 := zu_i (by decide)
    have Mz : mSt (zu s 143 20 0) rn st L ct := M.mv (by omega) (fun j _ _ => (zu_a (by decide)).trans (f 144 j (by decide) (Or.inl (by decide)))) (fun j _ _ => (zu_a (by decide)).trans (f 147 j (by decide) (Or.inl (by decide))))
    rw [e22]
    cases e : ldP (mT σ) (σ 143 20) 12 0 [] with
    | inl q =>
      rw [e] at hr
      have hr : s 143 22 = q := hr
      have bq := bd.1 q e
      rw [if_neg (by omega), hr, w32_id (x := -100 - q) (by omega) (by omega)]
      exact zP'.ret ⟨L, ct, ⟨rfl, rfl, rfl⟩, A, by omega, Mz⟩
    | inr B =>
      rw [e] at hr
      obtain ⟨rfl, h22, hB⟩ := hr
      obtain ⟨B12, okB⟩ := bd.2 B e
      rw [if_pos (by omega)]
      have AD := t_load99R (X0 := (L, ct, 0)) so okB B12 hL hk A h8 rfl zK 0 (zu s 143 20 0) 0 (Nat.zero_le _) rfl (by decide) Mz (fun i hi => by
        rw [← hB i hi]
        unfold bxA
        rw [zu_a (by decide), zu_a (by decide), zu_a (by decide), zu_a (by decide)])
      have AD : zP' (g_m_load_L99 zK (B.length : Int) 0 0 (zu s 143 20 0)) _ := AD
      refine AD.imp (fun v t p => ?_)
      obtain ⟨L', ct', p1, p2, p3, p4, p5⟩ := p
      exact ⟨L', ct', ⟨p1, p2⟩, p3, p4, p5⟩
theorem qr_load {K : Int} {σ : zS} (hK : K ≤ 2000000) (I : InvR K σ) : two (g_c_load σ) g_m_load (fun v w s => InvR (K + 2400) s ∧ v = w) := by
  obtain ⟨v, s1, e1, w, s2, e2, J⟩ := qs_load I.1
  refine ⟨v, s1, e1, w, s2, e2, ?_⟩
  obtain ⟨L, ct, C, M, hR, hk, A, B, hL⟩ := R_open I
  have so := R_st I
  obtain ⟨H1, G1, -⟩ := zO.at (g_c_load_sp I.1.ci) e1
  have ref := fr_ref G1
  have M1 : MI s1 := MI_cls I.1.mi ref
  have F := f_load4 M1 w s2 e2
  have cl : ∀ a j, a < 143 → s2 a j = s1 a j := fun a j h => F a j (Or.inl h)
  have ir : irE s1 s2 := fun a j k => F a j (by omega)
  have i1 := imE.of G1 (fun _ => ⟨rfl, rfl, rfl, rfl, rfl, rfl, rfl⟩)
  have sb : stB s1 50 := I.2.2.1.mv (fun j _ _ => G1 50 j (Or.inr rfl))
  have Mm := M.mv (s := s1) (by omega) (fun j _ _ => ref 144 j (by decide) (by decide)) (fun j _ _ => ref 147 j (by decide) (by decide))
  have hL0 : σ 120 1 = σ 143 20 := I.1.1.1.1.2.2.1
  have e159 : s1 159 = σ 159 := funext (fun j => ref 159 j (by decide) (by decide))
  have e20 : s1 143 20 = σ 143 20 := ref 143 20 (by decide) (by decide)
  have hTR : tpR s1 := by
    unfold tpR
    rw [e20, e159]
    exact I.1.1.2.m hL0
  have eT : mT s1 = cT σ := by
    rw [cT_mT hL0 I.1.1.2]
    unfold mT
    rw [e20, e159]
  obtain ⟨L1, c1, u1, u2⟩ := kR_load I.1.ci I.1.1.2.c so hL hk A (by omega) C v s1 e1
  obtain ⟨L2, c2, v1, v2, v3, v4⟩ := t_loadR M1 hTR so Mm hL hk A (by omega) w s2 e2
  rw [eT, e20, ← hL0] at v1
  obtain ⟨rfl, rfl, rfl⟩ := u1.det v1
  exact ⟨R_closeP J I.2 (by omega) i1 (rK.cls G1).ir cl ir u2 v4 v2 (by omega) sb (gL_ld u1 (fun B e => Nat.le_trans ((ldP_bd 12 0 [] (by decide) (by rw [hL0]; exact I.1.mi.2.2.1.1.1) rfl (fun b hb => absurd hb List.not_mem_nil)).2 B e).1 (by decide)) (by omega) (R_g I M.1)), rfl⟩
end
section
/-! 8q.rstart -/
/-! THE REGIONS alike: the start -/
theorem InvR_s0 {K : Int} (hK : 0 ≤ K) : InvR K s0 := by
  have e0 : s0 48 2 = 0 ∧ s0 144 0 = 0 ∧ s0 48 8 = 0 ∧ s0 144 1 = s0 48 8 ∧ s0 147 0 = s0 48 9 := by decide +kernel
  have e1 : ∀ n : Fin 6, s0 144 (2 + ((n.val : Nat) : Int)) = s0 48 (10 + ((n.val : Nat) : Int)) := by decide +kernel
  have e2 : stB s0 50 := by unfold stB; decide +kernel
  refine ⟨InvS_s0, ⟨[], s0 48, ⟨e0.1, fun k hk => absurd hk (Nat.not_lt_zero k)⟩, fun _ _ _ => rfl, ⟨e0.2.1, fun k hk => absurd hk (Nat.not_lt_zero k)⟩, ⟨e0.2.2.2.1, e0.2.2.2.2, fun i i1 i2 => ?_⟩, ⟨List.Pairwise.nil, fun r h => absurd h (List.not_mem_nil)⟩, by rw [e0.2.2.1]; exact ⟨by decide, hK⟩, by decide, gL.nil⟩, e2, fun h => ?_⟩
  · obtain ⟨n, rfl⟩ : ∃ n : Nat, i = 10 + (n : Int) := ⟨(i - 10).toNat, by omega⟩
    have h := e1 ⟨n, by omega⟩
    have g : (10 + (n : Int) - 8) = 2 + (n : Int) := by omega
    rw [g]
    exact h
  · exact absurd (by decide +kernel : s0 143 6 = 0) h
end
section
/-! 8r.ansR -/
/-! THE REGIONS' answers alike: region, weight -/
def bSd (b : Bx) (i : Int) : Int := if i = 0 then b.1 else if i = 1 then b.2.1 else if i = 2 then b.2.2.1 else b.2.2.2
theorem p_side {b : Bx} {i : Int} {σ : zS} (h : sOk b) (hi : 0 ≤ i ∧ i < 4) : g_b_side (enc b) i σ = some (bSd b i, σ) := by
  have hb := enc_bd h
  unfold g_b_side
  have cs : i = 0 ∨ i = 1 ∨ i = 2 ∨ i = 3 := by omega
  rcases cs with rfl | rfl | rfl | rfl
  · have e : iAnd (iShr (enc b) (w32 (5 * 0))) 31 = b.1 := by
      rw [w32_id (by decide) (by decide)]
      refine (en_side h 0 (by decide)).trans ?_
      dsimp only [sOk] at h
      unfold enc
      show _ / ((1 : Nat) : Int) % 32 = _
      omega
    rw [e]
    rfl
  · rw [w32_id (x := 5 * 1) (by decide) (by decide)]
    have e : iAnd (iShr (enc b) (5 * 1)) 31 = b.2.1 := en_5 h
    rw [e]
    rfl
  · rw [w32_id (x := 5 * 2) (by decide) (by decide)]
    have e : iAnd (iShr (enc b) (5 * 2)) 31 = b.2.2.1 := en_10 h
    rw [e]
    rfl
  · rw [w32_id (x := 5 * 3) (by decide) (by decide)]
    have e : iAnd (iShr (enc b) (5 * 3)) 31 = b.2.2.2 := en_15 h
    rw [e]
    rfl
theorem bxA_sd {σ : zS} {a : Nat} {j i : Int} (hi : 0 ≤ i ∧ i < 4) : σ a (j + i) = bSd (bxA σ a j) i := by
  have cs : i = 0 ∨ i = 1 ∨ i = 2 ∨ i = 3 := by omega
  rcases cs with rfl | rfl | rfl | rfl
  · rw [Int.add_zero]
    rfl
  · rfl
  · rfl
  · rfl
theorem bSd_vd {i : Int} : bSd vdB i = -5 := by
  unfold bSd
  split
  · rfl
  · split
    · rfl
    · split <;> rfl
def wtQ (L : List Rg) (a : Int) : Int := if 0 ≤ a ∧ a < (L.length : Int) then (rgD L a.toNat).2.2.2.2 else -9223372036854775808
theorem k_weight {σ : zS} {L : List Rg} {a : Int} (C : cRs σ 48 L) (hL : L.length ≤ 12) : zP' (g_c_weight a σ) (fun v s => s = σ ∧ v = wtQ L a) := by
  unfold g_c_weight wtQ
  try dsimp +instances only
  rw [C.1]
  by_cases c : 0 ≤ a ∧ a < (L.length : Int)
  · obtain ⟨k, rfl⟩ : ∃ k : Nat, a = (k : Int) := ⟨a.toNat, by omega⟩
    have hk : k < L.length := by omega
    rw [if_neg (by omega), if_neg (by omega), if_pos (by omega), if_pos c, Int.toNat_natCast, rgD_eq hk]
    exact zP'.ret ⟨rfl, (C.2 k hk).2.2.2.2⟩
  · rw [if_neg c]
    by_cases d : a < 0
    · rw [if_pos d]
      exact zP'.ret ⟨rfl, rfl⟩
    · rw [if_neg d, if_pos (by omega)]
      exact zP'.ret ⟨rfl, rfl⟩
theorem t_weight {σ : zS} {L : List Rg} {a : Int} (M : mRs σ L) (hL : L.length ≤ 12) : zP' (g_m_weight a σ) (fun v s => s = σ ∧ v = wtQ L a) := by
  unfold g_m_weight wtQ
  try dsimp +instances only
  rw [M.1, w32_id (x := (L.length : Int) - 1) (by omega) (by omega)]
  by_cases c : 0 ≤ a ∧ a < (L.length : Int)
  · obtain ⟨k, rfl⟩ : ∃ k : Nat, a = (k : Int) := ⟨a.toNat, by omega⟩
    have hk : k < L.length := by omega
    rw [s_isIn_t (by omega) (by omega), Option.bind_some]
    try dsimp +instances only
    rw [if_neg (by decide), w32_id (x := 121 + (k : Int)) (by omega) (by omega), if_pos (by omega), if_pos c, Int.toNat_natCast, rgD_eq hk, ← M.2 k hk]
    exact zP'.ret ⟨rfl, rfl⟩
  · rw [s_isIn_f (by omega), Option.bind_some]
    try dsimp +instances only
    rw [if_pos rfl, if_neg c]
    exact zP'.ret ⟨rfl, rfl⟩
theorem qu_weight {K : Int} {a : Int} {σ : zS} (I : InvR K σ) : two (g_c_weight a σ) (g_m_weight a) (fun v w s => InvR K s ∧ v = w) := by
  obtain ⟨v, s1, e1, w, s2, e2, J⟩ := qr_weight (a := a) I
  refine ⟨v, s1, e1, w, s2, e2, J, ?_⟩
  obtain ⟨L, ct, C, M, hR, hk, A, B, hL⟩ := R_open I
  obtain ⟨x1, h1⟩ := k_weight (a := a) C.1 hL v s1 e1
  rw [x1] at e2
  obtain ⟨-, h2⟩ := t_weight (a := a) M.1 hL w s2 e2
  rw [h1, h2]
def rgQn (rn : Bx → Int) (st : Int → Int) (r : Rg) (b : Int) : Int := if b < 4 then bSd r.1 b else if b = 4 then r.2.2.1 else if b = 5 then r.2.2.2.1 else if b < 10 then bSd r.2.1 (b - 6) else if b = 10 then 1 + rn r.1 else csP rn st r.1
def rgV (rn : Bx → Int) (st : Int → Int) (L : List Rg) (a b : Int) : Int := if (0 ≤ a ∧ a < (L.length : Int)) ∧ 0 ≤ b ∧ b ≤ 11 then rgQn rn st (rgD L a.toNat) b else -1
theorem k_region {σ : zS} {I : Nat → Bool} {rn : Bx → Int} {st : Int → Int} {L : List Rg} {ct : Int → Int} {a b : Int} (C : cSt σ 48 I rn st L ct) (hL : L.length ≤ 12) (hk : ∀ r ∈ L, hOk r) (g : gL L) : zP' (g_c_region a b σ) (fun v s => s = σ ∧ v = rgV rn st L a b) := by
  unfold g_c_region rgV
  try dsimp +instances only
  rw [C.1.1]
  by_cases c : 0 ≤ a ∧ a < (L.length : Int)
  · obtain ⟨k, rfl⟩ : ∃ k : Nat, a = (k : Int) := ⟨a.toNat, by omega⟩
    have hk' : k < L.length := by omega
    have x := C.1.2 k hk'
    have ok := hk _ (List.getElem_mem hk')
    have gg := g _ (List.getElem_mem hk')
    have k181 : 0 ≤ (k : Int) ∧ (k : Int) < 181 := by omega
    have x1 : σ 52 (k : Int) = enc L[k].1 := x.1
    have x2 : σ 54 (k : Int) = encH L[k].2.1 := x.2.1
    rw [if_neg (by omega), if_neg (by omega), Int.toNat_natCast, rgD_eq hk']
    by_cases d0 : b < 0
    · rw [if_pos d0, if_neg (by omega)]
      exact zP'.ret ⟨rfl, rfl⟩
    rw [if_neg d0]
    by_cases d1 : b ≤ 11
    case neg =>
      rw [if_neg d1, if_neg (by omega)]
      exact zP'.ret ⟨rfl, rfl⟩
    rw [if_pos d1, if_pos (show ((0 ≤ (k : Int) ∧ (k : Int) < (L.length : Int)) ∧ 0 ≤ b ∧ b ≤ 11) by omega)]
    unfold rgQn
    by_cases d2 : 4 ≤ b
    case neg =>
      rw [if_neg d2, if_pos k181, x1, p_side ok.1.s (by omega), Option.bind_some, if_pos (show b < 4 by omega)]
      exact zP'.ret ⟨rfl, rfl⟩
    rw [if_pos d2, if_neg (show ¬ b < 4 by omega)]
    by_cases d3 : b = 4
    · rw [if_neg (fun h => h d3), if_pos k181, if_pos d3]
      exact zP'.ret ⟨rfl, x.2.2.1⟩
    rw [if_pos d3, if_neg d3]
    by_cases d4 : b = 5
    · rw [if_neg (fun h => h d4), if_pos k181, if_pos d4]
      exact zP'.ret ⟨rfl, x.2.2.2.1⟩
    rw [if_pos d4, if_neg d4]
    by_cases d5 : 10 ≤ b
    · rw [if_pos d5, if_neg (show ¬ b < 10 by omega)]
      by_cases d6 : b = 10
      · rw [if_neg (fun h => h d6), if_pos k181, x1, c_sizeOf ok.1 C.2.2.2.1 C.2.2.2.2.1, Option.bind_some, if_pos d6, C.2.2.2.2.2]
        exact zP'.ret ⟨rfl, rfl⟩
      · have e0 : σ (48 + 2) 0 = st 0 := C.2.2.1 0 (by decide) (by decide)
        rw [if_pos d6, if_pos k181, x1, c_costOf ok.1 C.2.2.2.1 C.2.2.2.2.1, Option.bind_some, if_neg d6, C.2.2.2.2.2, e0]
        exact zP'.ret ⟨rfl, rfl⟩
    · rw [if_neg d5, if_pos k181, if_pos (show b < 10 by omega), x2]
      by_cases d7 : L[k].2.1.1 < 0
      · have e : L[k].2.1 = vdB := gg.1.resolve_right (by omega)
        have e1 : encH L[k].2.1 = -1 := by
          unfold encH
          rw [if_pos d7]
        rw [e1, if_neg (fun h => h rfl), e, bSd_vd]
        exact zP'.ret ⟨rfl, rfl⟩
      · have hh : bOk L[k].2.1 := ok.2.resolve_left d7
        have e1 : encH L[k].2.1 = enc L[k].2.1 := by
          unfold encH
          rw [if_neg d7]
        have e2 := enc_bd hh.s
        rw [e1, if_pos (show enc L[k].2.1 ≠ -1 by omega), if_pos k181, w32_id (x := b - 6) (by omega) (by omega), p_side hh.s (by omega), Option.bind_some]
        exact zP'.ret ⟨rfl, rfl⟩
  · rw [if_neg (show ¬ ((0 ≤ a ∧ a < (L.length : Int)) ∧ 0 ≤ b ∧ b ≤ 11) from fun h => c h.1)]
    by_cases d : a < 0
    · rw [if_pos d]
      exact zP'.ret ⟨rfl, rfl⟩
    · rw [if_neg d, if_pos (by omega)]
      exact zP'.ret ⟨rfl, rfl⟩
theorem t_region {σ : zS} {rn : Bx → Int} {st : Int → Int} {L : List Rg} {ct : Int → Int} {a b : Int} (M : mSt σ rn st L ct) (hL : L.length ≤ 12) : zP' (g_m_region_248 a b σ) (fun v s => s = σ ∧ v = rgV rn st L a b) := by
  have l144 : zLI 144 = 2740 := rfl
  unfold g_m_region_248 rgV
  try dsimp +instances only
  rw [M.1.1, w32_id (x := (L.length : Int) - 1) (by omega) (by omega)]
  by_cases c : 0 ≤ a ∧ a < (L.length : Int)
  · obtain ⟨k, rfl⟩ : ∃ k : Nat, a = (k : Int) := ⟨a.toNat, by omega⟩
    have hk' : k < L.length := by omega
    have x := M.1.2 k hk'
    rw [s_isIn_t (by omega) (by omega), Option.bind_some, Int.toNat_natCast, rgD_eq hk', ← x]
    try dsimp +instances only
    rw [if_neg (by decide)]
    by_cases d1 : 0 ≤ b ∧ b ≤ 11
    case neg =>
      rw [s_isIn_f (by omega), Option.bind_some]
      try dsimp +instances only
      rw [if_neg (by decide), if_neg (fun h => d1 h.2)]
      exact zP'.ret ⟨rfl, rfl⟩
    rw [s_isIn_t d1.1 d1.2, Option.bind_some, if_pos (show ((0 ≤ (k : Int) ∧ (k : Int) < (L.length : Int)) ∧ 0 ≤ b ∧ b ≤ 11) from ⟨c, d1⟩)]
    try dsimp +instances only
    rw [if_pos (by decide), s_region (by omega) (by omega), Option.bind_some]
    try dsimp +instances only
    unfold rgQn
    by_cases d2 : 4 ≤ b
    case neg =>
      rw [if_neg d2, w32_id (x := 340 + 10 * (k : Int) + b) (by omega) (by omega), if_pos (by omega), if_pos (show b < 4 by omega)]
      exact zP'.ret ⟨rfl, bxA_sd (by omega)⟩
    rw [if_pos d2, if_neg (show ¬ b < 4 by omega)]
    by_cases d3 : b = 4
    · rw [if_neg (fun h => h d3), w32_id (x := 340 + 10 * (k : Int) + 8) (by omega) (by omega), if_pos (by omega), if_pos d3, show 340 + 10 * (k : Int) + 8 = 348 + 10 * (k : Int) by omega]
      exact zP'.ret ⟨rfl, rfl⟩
    rw [if_pos d3, if_neg d3]
    by_cases d4 : b = 5
    · rw [if_neg (fun h => h d4), w32_id (x := 340 + 10 * (k : Int) + 9) (by omega) (by omega), if_pos (by omega), if_pos d4, show 340 + 10 * (k : Int) + 9 = 349 + 10 * (k : Int) by omega]
      exact zP'.ret ⟨rfl, rfl⟩
    rw [if_pos d4, if_neg d4]
    by_cases d5 : 10 ≤ b
    · rw [if_pos d5, if_neg (show ¬ b < 10 by omega)]
      by_cases d6 : b = 10
      · rw [if_neg (fun h => h d6), s_size (by omega) (by omega), Option.bind_some, if_pos d6, M.2.2.2]
        exact zP'.ret ⟨rfl, rfl⟩
      · rw [if_pos d6, s_cost (by omega) (by omega) (by omega), Option.bind_some, if_neg d6, t_cost M.2.2]
        exact zP'.ret ⟨rfl, rfl⟩
    · rw [if_neg d5, if_pos (show b < 10 by omega), w32_id (x := 340 + 10 * (k : Int) + 4) (by omega) (by omega), w32_id (x := 340 + 10 * (k : Int) + 4 + b) (by omega) (by omega), w32_id (x := 340 + 10 * (k : Int) + 4 + b - 6) (by omega) (by omega), if_pos (by omega), show 340 + 10 * (k : Int) + 4 + b - 6 = 344 + 10 * (k : Int) + (b - 6) by omega]
      exact zP'.ret ⟨rfl, bxA_sd (by omega)⟩
  · rw [s_isIn_f (by omega), Option.bind_some]
    try dsimp +instances only
    rw [if_pos rfl, if_neg (fun h => c h.1)]
    exact zP'.ret ⟨rfl, rfl⟩
theorem qu_region {K : Int} {a b : Int} {σ : zS} (I : InvR K σ) : two (g_c_region a b σ) (g_m_region_248 a b) (fun v w s => InvR K s ∧ v = w) := by
  obtain ⟨v, s1, e1, w, s2, e2, J⟩ := qr_region (a := a) (b := b) I
  refine ⟨v, s1, e1, w, s2, e2, J, ?_⟩
  obtain ⟨L, ct, C, M, hR, hk, A, B, hL⟩ := R_open I
  obtain ⟨x1, h1⟩ := k_region (a := a) (b := b) C hL hk (R_g I M.1) v s1 e1
  rw [x1] at e2
  obtain ⟨-, h2⟩ := t_region (a := a) (b := b) M hL w s2 e2
  rw [h1, h2]
end
