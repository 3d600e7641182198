/-! A WRITE at a place, of the class's cache -/
def mtF (L : List Rg) (p : Bx) (i : Nat) : Prop := ∃ hi : i < L.length, bMt L[i].1 p ∧ ∀ j (hj : j < L.length), j < i → ¬ bMt L[j].1 p
theorem mtF.det {L : List Rg} {p : Bx} {i j : Nat} (h1 : mtF L p i) (h2 : mtF L p j) : i = j := by
  obtain ⟨a, b, c⟩ := h1
  obtain ⟨d, e, f⟩ := h2
  by_cases c1 : i < j
  · exact absurd b (f i a c1)
  · by_cases c2 : j < i
    · exact absurd e (c j d c2)
    · omega
theorem k_at2 {a0 : Nat} {L : List Rg} {p : Bx} (hL : L.length ≤ 181) (hb : ∀ r ∈ L, bOk r.1) (hp : bOk p) : ∀ (n k : Nat) (σ : zS), cRs σ a0 L → k ≤ L.length → (∀ j (hj : j < L.length), j < k → ¬ bMt L[j].1 p) → zP' (g_ca_regionAt_L2 a0 n (enc p) (k : Int) σ) (fun v s => s = σ ∧ ((v = -1 ∧ ∀ i, ¬ mtF L p i) ∨ ∃ i : Nat, v = (i : Int) ∧ mtF L p i))
  | 0, _, _, _, _, _ => zP'.no
  | n + 1, k, σ, h, hk, hno => by
    unfold g_ca_regionAt_L2
    try dsimp +instances only
    rw [h.1]
    by_cases ck : (L.length : Int) ≤ (k : Int)
    · rw [if_pos ck]
      exact zP'.ret ⟨rfl, Or.inl ⟨rfl, fun i hi => by
        obtain ⟨a, b, -⟩ := hi
        exact hno i a (by omega) b⟩⟩
    · have hk' : k < L.length := by omega
      rw [if_neg ck, if_pos (by omega), (h.2 k hk').1, c_meet (hb _ (List.getElem_mem hk')) hp]
      rw [Option.bind_some]
      try dsimp +instances only
      by_cases cm : bMt L[k].1 p
      · rw [if_pos cm, if_neg (show ¬ (1 : Int) = 0 by decide)]
        exact zP'.ret ⟨rfl, Or.inr ⟨k, rfl, hk', cm, fun j hj a => hno j hj a⟩⟩
      · rw [if_neg cm, if_pos rfl, w32_id (x := (k : Int) + 1) (by omega) (by omega), show (k : Int) + 1 = ((k + 1 : Nat) : Int) by omega]
        refine k_at2 hL hb hp n (k + 1) σ h (by omega) (fun j hj a => ?_)
        by_cases c : j = k
        · subst c
          exact cm
        · exact hno j hj (by omega)
theorem k_regionAt {a0 : Nat} {L : List Rg} {p : Bx} {σ : zS} (hL : L.length ≤ 181) (hb : ∀ r ∈ L, bOk r.1) (hp : bOk p) (h : cRs σ a0 L) : zP' (g_ca_regionAt a0 (enc p) σ) (fun v s => s = σ ∧ ((v = -1 ∧ ∀ i, ¬ mtF L p i) ∨ ∃ i : Nat, v = (i : Int) ∧ mtF L p i)) := k_at2 hL hb hp zK 0 σ h (Nat.zero_le _) (fun j _ a => absurd a (Nat.not_lt_zero _))
def cutH (h c : Bx) : Bx := if 0 ≤ h.1 ∧ bMt h c then bCom h c else vdB
def cutF (r : Rg) (X : List Rg × (Int → Int)) (c : Bx) : List Rg × (Int → Int) := (X.1 ++ [(c, cutH r.2.1 c, X.2 8, r.2.2.2.1, r.2.2.2.2)], upC X.2 8 (w32 (X.2 8 + 1)))
def wrI (st : Int → Int) (L : List Rg) (ct : Int → Int) (p : Bx) (i : Nat) : List Rg × (Int → Int) := if st 3 = 0 then (L, upC ct 15 (w32 (ct 15 + 1))) else if st 3 = 1 then (L.eraseIdx i, upC ct 15 (w32 (ct 15 + 1))) else (bRest (rgD L i).1 p).foldl (cutF (rgD L i)) (L.eraseIdx i, upC ct 15 (w32 (ct 15 + 1)))
def wrR (st : Int → Int) (L : List Rg) (ct : Int → Int) (p : Bx) (X : List Rg × (Int → Int)) : Prop := ((∀ i, ¬ mtF L p i) ∧ X = (L, ct)) ∨ ∃ i, mtF L p i ∧ X = wrI st L ct p i
theorem wrR.det {st : Int → Int} {L : List Rg} {ct : Int → Int} {p : Bx} {X Y : List Rg × (Int → Int)} (h1 : wrR st L ct p X) (h2 : wrR st L ct p Y) : X = Y := by
  rcases h1 with ⟨a, b⟩ | ⟨i, a, b⟩
  · rcases h2 with ⟨c, d⟩ | ⟨j, c, d⟩
    · exact b.trans d.symm
    · exact absurd c (a j)
  · rcases h2 with ⟨c, d⟩ | ⟨j, c, d⟩
    · exact absurd a (c i)
    · obtain rfl := a.det c
      exact b.trans d.symm
theorem k_write99 {a0 : Nat} {I : Nat → Bool} {rn : Bx → Int} {st : Int → Int} {P : List Bx} {r : Rg} {X0 : List Rg × (Int → Int)} (ha : a0 = 48 ∨ a0 = 106) (hP : ∀ c ∈ P, bOk c) (hPl : P.length ≤ 4) (hr : hOk r) : ∀ (n k : Nat) (σ : zS), k ≤ P.length → cSt σ a0 I rn st ((P.take k).foldl (cutF r) X0).1 ((P.take k).foldl (cutF r) X0).2 → ((P.take k).foldl (cutF r) X0).1.length ≤ 100 + k → bsR σ (a0 + 10) P → zP' (g_ca_write_L99 a0 n r.2.2.2.1 (encH r.2.1) r.2.2.2.2 (k : Int) σ) (fun _ s => cSt s a0 I rn st (P.foldl (cutF r) X0).1 (P.foldl (cutF r) X0).2 ∧ frCa a0 σ s)
  | 0, _, _, _, _, _, _ => zP'.no
  | n + 1, k, σ, hk, h, hl, hb => by
    have hz : zLI (a0 + 10 + 1) = 169 := by rcases ha with rfl | rfl <;> rfl
    unfold g_ca_write_L99
    try dsimp +instances only
    rw [hb.1]
    by_cases ck : (P.length : Int) ≤ (k : Int)
    · rw [if_pos ck]
      rw [List.take_of_length_le (by omega)] at h
      exact zP'.ret ⟨h, frCa.refl a0 σ⟩
    · have hk' : k < P.length := by omega
      have okp := hP _ (List.getElem_mem hk')
      rw [if_neg ck, bs_at hz hb (by omega) hk']
      rw [Option.bind_some]
      try dsimp +instances only
      rw [bs_at hz hb (by omega) hk']
      rw [Option.bind_some]
      try dsimp +instances only
      rw [c_common hr.2 okp]
      rw [Option.bind_some]
      try dsimp +instances only
      have eh : (if 0 ≤ r.2.1.1 ∧ bMt r.2.1 P[k] then enc (bCom r.2.1 P[k]) else -1) = encH (cutH r.2.1 P[k]) := by
        unfold cutH
        by_cases c : 0 ≤ r.2.1.1 ∧ bMt r.2.1 P[k]
        · rw [if_pos c, if_pos c, encH_ok (bCom_ok (hr.2.resolve_left (by omega)) okp c.2).1]
        · rw [if_neg c, if_neg c]
          rfl
      rw [eh]
      have et : (P.take (k + 1)).foldl (cutF r) X0 = cutF r ((P.take k).foldl (cutF r) X0) P[k] := by
        rw [List.take_succ_eq_append_getElem hk', List.foldl_append]
        rfl
      generalize hX : (P.take k).foldl (cutF r) X0 = X at h hl et
      refine zP'.bind (c_addLast (b := P[k]) (h := cutH r.2.1 P[k]) (hits := r.2.2.2.1) (w := r.2.2.2.2) h.1 (by omega)) (fun v s p => ?_)
      obtain ⟨-, p1, p2, p3⟩ := p
      try dsimp +instances only
      rw [w32_id (x := (k : Int) + 1) (by omega) (by omega), show (k : Int) + 1 = ((k + 1 : Nat) : Int) by omega]
      have f : frCa a0 σ s := fun x y q => p3 x y (by omega) (by omega)
      refine (k_write99 (I := I) (rn := rn) (st := st) ha hP hPl hr n (k + 1) s (by omega) ?_ ?_ ⟨(p3 _ _ (by omega) (by omega)).trans hb.1, fun i hi => (p3 (a0 + 10 + 1) _ (by omega) (by omega)).trans (hb.2 i hi)⟩).imp (fun _ t g => ⟨g.1, f.trans g.2⟩)
      · rw [et]
        obtain ⟨-, h2, h3, h4, h5, h6⟩ := h
        have e8 := h2 8 (by decide) (by decide)
        rw [e8] at p1 p2
        refine ⟨p1, fun i i1 i2 => ?_, fun i i1 i2 => (p3 (a0 + 2) i (by omega) (by omega)).trans (h3 i i1 i2), STb_mv h4 (fun c j k1 k2 => p3 c j (by omega) (by omega)), h5, fun b => ?_⟩
        · show s a0 i = upC X.2 8 (w32 (X.2 8 + 1)) i
          unfold upC
          by_cases c8 : i = 8
          · rw [if_pos c8, c8]
            exact p2
          · rw [if_neg c8, p3 a0 i (by omega) (by omega)]
            exact h2 i i1 i2
        · rw [rnC_mv (fun c j k1 k2 => p3 c j (by omega) (by omega))]
          exact h6 b
      · rw [et]
        show (X.1 ++ [_]).length ≤ 100 + (k + 1)
        rw [List.length_append]
        show _ + 1 ≤ _
        omega
theorem k_write {a0 : Nat} {I : Nat → Bool} {rn : Bx → Int} {st : Int → Int} {L : List Rg} {ct : Int → Int} {p : Bx} {σ : zS} (ha : a0 = 48 ∨ a0 = 106) (hp : bOk p) (hL : L.length ≤ 100) (hk : ∀ r ∈ L, hOk r) (h : cSt σ a0 I rn st L ct) (h4 : ∀ r : Rg, hOk r → (bRest r.1 p).length ≤ 4 ∧ ∀ c ∈ bRest r.1 p, bOk c) : zP' (g_ca_write a0 (enc p) σ) (fun _ s => ∃ X, wrR st L ct p X ∧ cSt s a0 I rn st X.1 X.2 ∧ frCa a0 σ s) := by
  unfold g_ca_write
  refine zP'.bind (k_regionAt (by omega) (fun r hr => (hk r hr).1) hp h.1) (fun v s q => ?_)
  obtain ⟨rfl, q⟩ := q
  try dsimp +instances only
  rcases q with ⟨rfl, q⟩ | ⟨i, rfl, q⟩
  · rw [if_neg (by decide)]
    exact zP'.ret ⟨(L, ct), Or.inl ⟨q, rfl⟩, h, frCa.refl a0 s⟩
  · have hi := q.1
    have ok := hk _ (List.getElem_mem hi)
    have h1 := cSt.ct (i := 15) (v := w32 (s a0 15 + 1)) ha h (by decide)
    rw [h.2.1 15 (by decide) (by decide)] at h1 ⊢
    have f1 : frCa a0 s (zu s a0 15 (w32 (ct 15 + 1))) := fun x y k => zu_c (by omega)
    generalize zu s a0 15 (w32 (ct 15 + 1)) = s1 at h1 f1
    rw [if_pos (by omega), p_seOf (by decide)]
    rw [Option.bind_some]
    try dsimp +instances only
    have e3 : s1 (a0 + 1 + 1) 3 = st 3 := h1.2.2.1 3 (by decide) (by decide)
    rw [e3]
    by_cases c0 : st 3 = 0
    · rw [if_neg (fun k => k c0)]
      refine zP'.ret ⟨_, Or.inr ⟨i, q, rfl⟩, ?_, f1⟩
      unfold wrI
      rw [if_pos c0]
      exact h1
    · have gi : 0 ≤ (i : Int) ∧ (i : Int) < 181 := by omega
      obtain ⟨g1, g2, g3, g4, g5⟩ := h1.1.2 i hi
      rw [if_pos c0]
      rw [if_pos gi]
      rw [if_pos gi]
      rw [if_pos gi]
      rw [if_pos gi, g1, g2, g4, g5]
      refine zP'.bind (c_remove h1.1 (by omega) hi) (fun _ s2 p2 => ?_)
      try dsimp +instances only
      have h2 := cSt.rem ha h1 p2
      have f2 : frCa a0 s s2 := f1.trans (fun x y k => p2.2 x y (by omega) (by omega))
      by_cases c1 : st 3 = 1
      · rw [if_neg (fun k => k c1)]
        refine zP'.ret ⟨_, Or.inr ⟨i, q, rfl⟩, ?_, f2⟩
        unfold wrI
        rw [if_neg c0, if_pos c1]
        exact h2
      · rw [if_pos c1]
        obtain ⟨b4, bo⟩ := h4 _ ok
        have hz : zLI (a0 + 10 + 1) = 169 := by rcases ha with rfl | rfl <;> rfl
        have b0 : bsR (zu s2 (a0 + 10) 1 0) (a0 + 10) [] := ⟨zu_e rfl, fun k hk => absurd hk (Nat.not_lt_zero _)⟩
        refine zP'.bind (bs_addRest hz ok.1 hp b0 (by rw [List.nil_append]; omega)) (fun _ s3 p3 => ?_)
        obtain ⟨r1, r2⟩ := p3
        rw [List.nil_append] at r1
        try dsimp +instances only
        have f3 : ∀ x y, (x < a0 + 10 ∨ a0 + 11 < x) → s3 x y = s2 x y := fun x y k => (r2 x y (by omega) (Or.inl (by omega))).trans (zu_a (by omega))
        have h3 := h2.mv (s := s3) (fun c j k => f3 c j (by omega))
        have hl : (L.eraseIdx i).length = L.length - 1 := List.length_eraseIdx_of_lt hi
        have W := k_write99 (P := bRest L[i].1 p) (r := L[i]) (X0 := (L.eraseIdx i, upC ct 15 (w32 (ct 15 + 1)))) ha bo b4 ok zK 0 s3 (Nat.zero_le _) h3 (by show (L.eraseIdx i).length ≤ 100 + 0; omega) r1
        have W : zP' (g_ca_write_L99 a0 zK L[i].2.2.2.1 (encH L[i].2.1) L[i].2.2.2.2 0 s3) _ := W
        refine W.imp (fun _ t g => ⟨_, Or.inr ⟨i, q, rfl⟩, ?_, fun x y k => (g.2 x y k).trans ((f3 x y (by omega)).trans (f2 x y k))⟩)
        unfold wrI
        rw [if_neg c0, if_neg c1, rgD_eq hi]
        exact g.1
