/-! LOADING: boxes admitted -/
def mtA (L : List Rg) (b : Bx) : Bool := L.any (fun r => decide (bMt r.1 b))
theorem mtA_t {L : List Rg} {b : Bx} : mtA L b = true ↔ ∃ r ∈ L, bMt r.1 b := by
  unfold mtA
  rw [List.any_eq_true]
  constructor
  · rintro ⟨r, h1, h2⟩
    exact ⟨r, h1, of_decide_eq_true h2⟩
  · rintro ⟨r, h1, h2⟩
    exact ⟨r, h1, decide_eq_true h2⟩
theorem mtA_F {L : List Rg} {b : Bx} : mtA L b = true ↔ ∃ i, mtF L b i := by
  rw [mtA_t]
  constructor
  · rintro ⟨r, h1, h2⟩
    obtain ⟨k, hk, rfl⟩ := List.getElem_of_mem h1
    have key : ∀ n : Nat, ∀ k : Nat, k < n → (hk : k < L.length) → bMt L[k].1 b → ∃ i, mtF L b i := by
      intro n
      induction n with
      | zero => exact fun k h => absurd h (Nat.not_lt_zero _)
      | succ n ih =>
        intro k hkn hk h
        by_cases c : ∃ j, j < k ∧ ∃ hj : j < L.length, bMt L[j].1 b
        · obtain ⟨j, j1, j2, j3⟩ := c
          exact ih j (by omega) j2 j3
        · exact ⟨k, hk, h, fun j hj hjk hm => c ⟨j, hjk, hj, hm⟩⟩
    exact key (k + 1) k (by omega) hk h2
  · rintro ⟨i, hi, h1, -⟩
    exact ⟨_, List.getElem_mem hi, h1⟩
def adF (rn : Bx → Int) (st : Int → Int) (X : List Rg × (Int → Int) × Int) (b : Bx) : List Rg × (Int → Int) × Int := if mtA X.1 b = true then X else (X.1 ++ [newR rn st (askP rn st X.2.1 b) b], upC (askP rn st X.2.1 b) 8 (w32 (askP rn st X.2.1 b 8 + 1)), X.2.2 + 1)
/-- what loading makes of regions, and what it answers -/
def ldR (rn : Bx → Int) (st : Int → Int) (r : Sum Int (List Bx)) (L : List Rg) (ct : Int → Int) (L' : List Rg) (ct' : Int → Int) (v : Int) : Prop := match r with
  | .inl q => L' = L ∧ ct' = ct ∧ v = -100 - q
  | .inr B => (∃ m, TMn rn st m ((B.foldl (adF rn st) (L, ct, 0)).1, (B.foldl (adF rn st) (L, ct, 0)).2.1) (L', ct')) ∧ v = (B.foldl (adF rn st) (L, ct, 0)).2.2
theorem gL_ad {rn : Bx → Int} {st : Int → Int} : ∀ (l : List Bx) {X : List Rg × (Int → Int) × Int}, gL X.1 → 0 ≤ X.2.1 8 → X.2.1 8 + (l.length : Int) < 2147483648 → gL (l.foldl (adF rn st) X).1
  | [], _, g, _, _ => g
  | p :: l, X, g, h0, hl => by
    rw [List.length_cons] at hl
    have key : gL (adF rn st X p).1 ∧ X.2.1 8 ≤ (adF rn st X p).2.1 8 ∧ (adF rn st X p).2.1 8 ≤ X.2.1 8 + 1 := by
      unfold adF
      by_cases c : mtA X.1 p = true
      · rw [if_pos c]
        exact ⟨g, Int.le_refl _, by omega⟩
      · rw [if_neg c]
        refine ⟨g.app (gk_new (by rw [ask_8]; exact h0)), ?_⟩
        show X.2.1 8 ≤ upC (askP rn st X.2.1 p) 8 (w32 (askP rn st X.2.1 p 8 + 1)) 8 ∧ upC (askP rn st X.2.1 p) 8 (w32 (askP rn st X.2.1 p 8 + 1)) 8 ≤ X.2.1 8 + 1
        rw [upC_e, ask_8, w32_id (by omega) (by omega)]
        omega
    exact gL_ad l (X := adF rn st X p) key.1 (by omega) (by omega)
theorem gL_ld {rn : Bx → Int} {st : Int → Int} {r : Sum Int (List Bx)} {L L' : List Rg} {ct ct' : Int → Int} {v : Int} (h : ldR rn st r L ct L' ct' v) (hB : ∀ B, r = .inr B → B.length ≤ 100) (h8 : 0 ≤ ct 8 ∧ ct 8 ≤ 2000000000) (g : gL L) : gL L' := by
  cases r with
  | inl q =>
    rw [h.1]
    exact g
  | inr B =>
    obtain ⟨⟨m, a⟩, -⟩ := h
    have := hB B rfl
    exact (gL_TMn m a (gL_ad B (X := (L, ct, 0)) g h8.1 (by show ct 8 + _ < _; omega))).1
theorem ldR.det {rn : Bx → Int} {st : Int → Int} {r : Sum Int (List Bx)} {L L1 L2 : List Rg} {ct c1 c2 : Int → Int} {v w : Int} (h1 : ldR rn st r L ct L1 c1 v) (h2 : ldR rn st r L ct L2 c2 w) : L1 = L2 ∧ c1 = c2 ∧ v = w := by
  cases r with
  | inl q => exact ⟨h1.1.trans h2.1.symm, h1.2.1.trans h2.2.1.symm, h1.2.2.trans h2.2.2.symm⟩
  | inr B =>
    obtain ⟨⟨m, a⟩, e1⟩ := h1
    obtain ⟨⟨n, b⟩, e2⟩ := h2
    have h := TMn.det _ _ a b
    exact ⟨congrArg Prod.fst h, congrArg Prod.snd h, e1.trans e2.symm⟩
theorem ad_all {rn : Bx → Int} {st : Int → Int} : ∀ (B : List Bx) (X : List Rg × (Int → Int) × Int), (∀ b ∈ B, bOk b) → (∀ r ∈ X.1, hOk r) → asc X.1 (X.2.1 8) → (0 ≤ X.2.1 8 ∧ X.2.1 8 + (B.length : Int) < 2147483648) → (∀ r ∈ (B.foldl (adF rn st) X).1, hOk r) ∧ asc (B.foldl (adF rn st) X).1 ((B.foldl (adF rn st) X).2.1 8) ∧ (B.foldl (adF rn st) X).1.length ≤ X.1.length + B.length ∧ X.2.1 8 ≤ (B.foldl (adF rn st) X).2.1 8 ∧ (B.foldl (adF rn st) X).2.1 8 ≤ X.2.1 8 + (B.length : Int)
  | [], X, _, hk, ha, _ => ⟨hk, ha, Nat.le_refl _, Int.le_refl _, by rw [List.length_nil]; exact Int.le_add_of_nonneg_right (Int.le_refl _)⟩
  | b :: B, X, ok, hk, ha, h8 => by
    rw [List.length_cons] at h8 ⊢
    have e : (b :: B).foldl (adF rn st) X = B.foldl (adF rn st) (adF rn st X b) := rfl
    rw [e]
    by_cases c : mtA X.1 b = true
    · have ex : adF rn st X b = X := if_pos c
      rw [ex]
      obtain ⟨a1, a2, a3, a4, a5⟩ := ad_all (rn := rn) (st := st) B X (fun q hq => ok q (List.mem_cons_of_mem _ hq)) hk ha (by omega)
      exact ⟨a1, a2, by omega, a4, by omega⟩
    · have ex : adF rn st X b = (X.1 ++ [newR rn st (askP rn st X.2.1 b) b], upC (askP rn st X.2.1 b) 8 (w32 (askP rn st X.2.1 b 8 + 1)), X.2.2 + 1) := if_neg c
      rw [ex]
      have a8 : askP rn st X.2.1 b 8 = X.2.1 8 := rfl
      have w8 : w32 (askP rn st X.2.1 b 8 + 1) = X.2.1 8 + 1 := by
        rw [a8]
        exact w32_id (by omega) (by omega)
      have u8 : upC (askP rn st X.2.1 b) 8 (w32 (askP rn st X.2.1 b 8 + 1)) 8 = X.2.1 8 + 1 := w8
      have hl : (X.1 ++ [newR rn st (askP rn st X.2.1 b) b]).length = X.1.length + 1 := by
        rw [List.length_append]
        rfl
      obtain ⟨a1, a2, a3, a4, a5⟩ := ad_all (rn := rn) (st := st) B (X.1 ++ [newR rn st (askP rn st X.2.1 b) b], upC (askP rn st X.2.1 b) 8 (w32 (askP rn st X.2.1 b 8 + 1)), X.2.2 + 1) (fun q hq => ok q (List.mem_cons_of_mem _ hq)) (fun r hr => by
        rcases List.mem_append.mp hr with hr | hr
        · exact hk r hr
        · rw [List.mem_singleton] at hr
          rw [hr]
          exact new_ok (ok b List.mem_cons_self)) (by
        show asc (X.1 ++ [newR rn st (askP rn st X.2.1 b) b]) (upC (askP rn st X.2.1 b) 8 (w32 (askP rn st X.2.1 b 8 + 1)) 8)
        rw [u8]
        exact asc.add ha rfl) (by
        show 0 ≤ upC (askP rn st X.2.1 b) 8 (w32 (askP rn st X.2.1 b 8 + 1)) 8 ∧ upC (askP rn st X.2.1 b) 8 (w32 (askP rn st X.2.1 b 8 + 1)) 8 + (B.length : Int) < _
        rw [u8]
        omega)
      have a3 : _ ≤ (X.1 ++ [newR rn st (askP rn st X.2.1 b) b]).length + B.length := a3
      have a4 : upC (askP rn st X.2.1 b) 8 (w32 (askP rn st X.2.1 b 8 + 1)) 8 ≤ _ := a4
      have a5 : _ ≤ upC (askP rn st X.2.1 b) 8 (w32 (askP rn st X.2.1 b 8 + 1)) 8 + (B.length : Int) := a5
      rw [hl] at a3
      rw [u8] at a4 a5
      exact ⟨a1, a2, by omega, by omega, by omega⟩
theorem bs_at12 {L : List Bx} {k : Nat} {σ : zS} (h : bsR σ 126 L) (hL : L.length ≤ 12) (hk : k < L.length) : g_bs_at 126 (k : Int) σ = some (enc L[k], σ) := by
  have l127 : zLI (126 + 1) = 12 := rfl
  unfold g_bs_at
  try dsimp +instances only
  rw [if_neg (by omega), h.1, if_neg (by omega), l127, if_neg (by omega), if_pos (by omega), h.2 k hk]
theorem k_admit4 {I : Nat → Bool} {rn : Bx → Int} {st : Int → Int} {B : List Bx} {X0 : List Rg × (Int → Int) × Int} (s1 : 0 ≤ st 1) (s2 : 0 ≤ st 2) (okB : ∀ b ∈ B, bOk b) (hB : B.length ≤ 12) (hX : X0.1.length ≤ 12) (hk0 : ∀ r ∈ X0.1, hOk r) (hA : asc X0.1 (X0.2.1 8)) (h8 : 0 ≤ X0.2.1 8 ∧ X0.2.1 8 ≤ 2000000) (h00 : X0.2.2 = 0) : ∀ (n k : Nat) (σ : zS), k ≤ B.length → cSt σ 48 I rn st ((B.take k).foldl (adF rn st) X0).1 ((B.take k).foldl (adF rn st) X0).2.1 → bsR σ 126 B → zP' (g_ca_admit_L4 48 n ((B.take k).foldl (adF rn st) X0).2.2 (k : Int) σ) (fun v s => ∃ L' ct', (∃ m, TMn rn st m ((B.foldl (adF rn st) X0).1, (B.foldl (adF rn st) X0).2.1) (L', ct')) ∧ v = (B.foldl (adF rn st) X0).2.2 ∧ cSt s 48 I rn st L' ct' ∧ ∀ x y, (x < 48 ∨ 59 < x) → s x y = σ x y)
  | 0, _, _, _, _, _ => zP'.no
  | n + 1, k, σ, hk, C, hb => by
    have hlt : (B.take k).length = k := by rw [List.length_take]; omega
    obtain ⟨g1, g2, g3, g4, g5⟩ := ad_all (rn := rn) (st := st) (B.take k) X0 (fun b hm => okB b (List.mem_of_mem_take hm)) hk0 hA (by rw [hlt]; omega)
    rw [hlt] at g3 g5
    have cnt : ∀ (C : List Bx) (X : List Rg × (Int → Int) × Int), 0 ≤ X.2.2 → 0 ≤ (C.foldl (adF rn st) X).2.2 ∧ (C.foldl (adF rn st) X).2.2 ≤ X.2.2 + (C.length : Int) := by
      intro C
      induction C with
      | nil => exact fun X h => ⟨h, by rw [List.length_nil]; exact Int.le_add_of_nonneg_right (Int.le_refl _)⟩
      | cons b C ih =>
        intro X h
        have e : (b :: C).foldl (adF rn st) X = C.foldl (adF rn st) (adF rn st X b) := rfl
        rw [e, List.length_cons]
        by_cases c : mtA X.1 b = true
        · have ex : adF rn st X b = X := if_pos c
          rw [ex]
          have := ih X h
          omega
        · have ex : adF rn st X b = (X.1 ++ [newR rn st (askP rn st X.2.1 b) b], upC (askP rn st X.2.1 b) 8 (w32 (askP rn st X.2.1 b 8 + 1)), X.2.2 + 1) := if_neg c
          rw [ex]
          have := ih (X.1 ++ [newR rn st (askP rn st X.2.1 b) b], upC (askP rn st X.2.1 b) 8 (w32 (askP rn st X.2.1 b 8 + 1)), X.2.2 + 1) (by show 0 ≤ X.2.2 + 1; omega)
          have q : 0 ≤ (List.foldl (adF rn st) (X.1 ++ [newR rn st (askP rn st X.2.1 b) b], upC (askP rn st X.2.1 b) 8 (w32 (askP rn st X.2.1 b 8 + 1)), X.2.2 + 1) C).2.2 ∧ (List.foldl (adF rn st) (X.1 ++ [newR rn st (askP rn st X.2.1 b) b], upC (askP rn st X.2.1 b) 8 (w32 (askP rn st X.2.1 b 8 + 1)), X.2.2 + 1) C).2.2 ≤ (X.2.2 + 1) + (C.length : Int) := this
          omega
    have cb := cnt (B.take k) X0 (by omega)
    rw [hlt] at cb
    unfold g_ca_admit_L4
    try dsimp +instances only
    rw [hb.1]
    by_cases ck : (B.length : Int) ≤ (k : Int)
    · rw [if_pos ck]
      rw [List.take_of_length_le (by omega)] at C g1 g3 ⊢
      refine zP'.bind (k_trim (Or.inl rfl) s1 s2 C (by omega) g1) (fun _ s p => ?_)
      obtain ⟨m, L', ct', p1, p2, p3, p4, p5⟩ := p
      exact zP'.ret ⟨L', ct', ⟨m, p1⟩, rfl, p4, fun x y k => p5 x y (by omega)⟩
    · have hk' : k < B.length := by omega
      have okp := okB _ (List.getElem_mem hk')
      have et : (B.take (k + 1)).foldl (adF rn st) X0 = adF rn st ((B.take k).foldl (adF rn st) X0) B[k] := by
        rw [List.take_succ_eq_append_getElem hk', List.foldl_append]
        rfl
      rw [if_neg ck, bs_at12 hb hB hk']
      rw [Option.bind_some]
      try dsimp +instances only
      refine zP'.bind (k_regionAt (by omega) (fun r hr => (g1 r hr).1) okp C.1) (fun v s q => ?_)
      obtain ⟨rfl, q⟩ := q
      try dsimp +instances only
      unfold g_ca_admit_L45
      rcases q with ⟨rfl, q⟩ | ⟨i, rfl, q⟩
      · have nm : ¬ mtA ((B.take k).foldl (adF rn st) X0).1 B[k] = true := fun h => by
          obtain ⟨i, hi⟩ := mtA_F.mp h
          exact q i hi
        have ep : adF rn st ((B.take k).foldl (adF rn st) X0) B[k] = _ := if_neg nm
        rw [if_neg (by decide), bs_at12 hb hB hk']
        rw [Option.bind_some]
        try dsimp +instances only
        obtain ⟨t, e1, e2, e3⟩ := k_ask (b := B[k]) (Or.inl rfl) C okp
        rw [e1]
        rw [Option.bind_some]
        try dsimp +instances only
        have hbt : bsR t 126 B := ⟨(e3 126 1 (Or.inl (by decide))).trans hb.1, fun i hi => (e3 127 _ (Or.inl (by decide))).trans (hb.2 i hi)⟩
        rw [bs_at12 hbt hB hk']
        rw [Option.bind_some]
        try dsimp +instances only
        refine zP'.bind (k_addNew (Or.inl rfl) e2 (by omega) okp) (fun _ u p => ?_)
        obtain ⟨p1, p2⟩ := p
        try dsimp +instances only
        have hbu : bsR u 126 B := ⟨(p2 126 1 (by omega) (Or.inl (by decide))).trans hbt.1, fun i hi => (p2 127 _ (by omega) (Or.inl (by decide))).trans (hbt.2 i hi)⟩
        rw [w32_id (x := (k : Int) + 1) (by omega) (by omega), show (k : Int) + 1 = ((k + 1 : Nat) : Int) by omega, w32_id (x := ((B.take k).foldl (adF rn st) X0).2.2 + 1) (by omega) (by omega)]
        have ev : ((B.take k).foldl (adF rn st) X0).2.2 + 1 = ((B.take (k + 1)).foldl (adF rn st) X0).2.2 := by
          rw [et, ep]
        rw [ev]
        refine (k_admit4 (I := I) (rn := rn) (st := st) s1 s2 okB hB hX hk0 hA h8 h00 n (k + 1) u (by omega) ?_ hbu).imp (fun v w g => ?_)
        · rw [et, ep]
          exact p1
        · obtain ⟨L', ct', g1, g2, g3, g4⟩ := g
          exact ⟨L', ct', g1, g2, g3, fun x y k => (g4 x y k).trans ((p2 x y (by omega) (Or.inl (by omega))).trans (e3 x y (Or.inl (by omega))))⟩
      · have mm : mtA ((B.take k).foldl (adF rn st) X0).1 B[k] = true := mtA_F.mpr ⟨i, q⟩
        have ep : adF rn st ((B.take k).foldl (adF rn st) X0) B[k] = (B.take k).foldl (adF rn st) X0 := if_pos mm
        rw [if_pos (by omega), w32_id (x := (k : Int) + 1) (by omega) (by omega), show (k : Int) + 1 = ((k + 1 : Nat) : Int) by omega]
        have ev : ((B.take k).foldl (adF rn st) X0).2.2 = ((B.take (k + 1)).foldl (adF rn st) X0).2.2 := by
          rw [et, ep]
        rw [ev]
        refine k_admit4 s1 s2 okB hB hX hk0 hA h8 h00 n (k + 1) s (by omega) ?_ hb
        rw [et, ep]
        exact C
theorem kR_load {σ : zS} {I : Nat → Bool} {rn : Bx → Int} {st : Int → Int} {L : List Rg} {ct : Int → Int} (H : CI σ) (hb : byC σ) (so : stO1 st) (hL : L.length ≤ 12) (hk : ∀ r ∈ L, hOk r) (A : asc L (ct 8)) (h8 : 0 ≤ ct 8 ∧ ct 8 ≤ 2000000) (C : cSt σ 48 I rn st L ct) : zP' (g_c_load σ) (fun v s => ∃ L' ct', ldR rn st (ldP (cT σ) (σ 120 1) 12 0 []) L ct L' ct' v ∧ cSt s 48 I rn st L' ct') := by
  have ht := CI.ct H
  unfold g_c_load
  rw [c_begin]
  rw [Option.bind_some]
  try dsimp +instances only
  generalize hs1 : zu (zu (zu σ 120 2 0) 120 3 (-1)) 126 1 0 = s1
  have q1 : ∀ a j, (a ≠ 126 ∨ j ≠ 1) → (a ≠ 120 ∨ (j ≠ 2 ∧ j ≠ 3)) → s1 a j = σ a j := fun a j k1 k2 => by rw [← hs1, zu_c k1, zu_c (by omega), zu_c (by omega)]
  have q2 : s1 120 2 = 0 := by rw [← hs1, zu_a (by decide), zu_i (by decide), zu_e rfl]
  have q3 : s1 120 3 = -1 := by rw [← hs1, zu_a (by decide), zu_e rfl]
  have qL : s1 120 1 = σ 120 1 := q1 120 1 (Or.inl (by decide)) (Or.inr (by decide))
  have q121 : s1 121 = σ 121 := funext (fun j => q1 121 j (Or.inl (by decide)) (Or.inl (by decide)))
  have b1 : bsR s1 126 [] := ⟨by rw [← hs1]; exact zu_e rfl, fun k hk => absurd hk (Nat.not_lt_zero _)⟩
  have t1 : tpL s1 := by
    unfold tpL
    rw [qL, q2, q121]
    exact ⟨ht, by omega, hb⟩
  have eT : cT s1 = cT σ := by
    funext j
    unfold cT
    rw [qL, q121]
  have C1 : cSt s1 48 I rn st L ct := C.mv (fun c j k => q1 c j (by omega) (by omega))
  have bd := ldP_bd (f := cT σ) (L := σ 120 1) 12 0 [] (by decide) (by omega) rfl (fun b hm => absurd hm List.not_mem_nil)
  have P := c_ld (Q := fun v s => ∃ L' ct', ldR rn st (ldP (cT σ) (σ 120 1) 12 0 []) L ct L' ct' v ∧ cSt s 48 I rn st L' ct') (σ0 := s1) zK 12 [] s1 t1 q3 rfl (by decide) b1 (fun _ _ _ _ _ => rfl) (by
    rw [eT, qL, q2]
    intro s f r
    have C2 : cSt s 48 I rn st L ct := C1.mv (fun c j k => f c j (by omega) (by omega) (by omega))
    unfold g_c_load_L69
    rw [p_isSound]
    rw [Option.bind_some]
    try dsimp +instances only
    cases e : ldP (cT σ) (σ 120 1) 12 0 [] with
    | inl q =>
      rw [e] at r
      have r : s 120 3 = q := r
      have hq := bd.1 q e
      rw [if_neg (show ¬ s 120 3 = -1 by omega), if_pos rfl]
      unfold g_c_load_L101
      rw [c_end, if_neg (by omega), r, w32_id (x := -100 - q) (by omega) (by omega)]
      rw [Option.bind_some]
      exact zP'.ret ⟨L, ct, ⟨rfl, rfl, rfl⟩, C2.mv (fun c j k => zu_a (by omega))⟩
    | inr B =>
      rw [e] at r
      obtain ⟨r1, r2⟩ := r
      obtain ⟨B12, okB⟩ := bd.2 B e
      rw [if_pos r1, if_neg (by decide)]
      have AD := k_admit4 (X0 := (L, ct, 0)) (by have := so.1; omega) (by have := so.2.1; omega) okB B12 hL hk A h8 rfl zK 0 s (Nat.zero_le _) C2 r2
      have AD : zP' (g_ca_admit 48 s) _ := AD
      refine zP'.bind AD (fun v t p => ?_)
      obtain ⟨L', ct', p1, p2, p3, p4⟩ := p
      try dsimp +instances only
      unfold g_c_load_L101
      rw [c_end, if_pos (by rw [p4 120 3 (by omega)]; exact r1)]
      rw [Option.bind_some]
      exact zP'.ret ⟨L', ct', ⟨p1, p2⟩, p3.mv (fun c j k => zu_a (by omega))⟩)
  exact P
theorem t_meets5 {a : Nat} {i : Int} {σ : zS} {N : Nat} (hN : σ 144 0 = (N : Int)) (hN2 : N ≤ 239) (h1 : 0 ≤ i) (h2 : i + 3 < zLI a) (h3 : zLI a ≤ 100000) : ∀ (n k : Nat) (x : Int), k ≤ N → (x = 0 ∨ x = 1) → zP' (g_m_meetsNone_L5 a n i x (k : Int) σ) (fun v s => s = σ ∧ (v = 0 ∨ v = 1) ∧ (v = 1 ↔ x = 1 ∧ ∀ t : Nat, k ≤ t → t < N → ¬ bMt (bxA σ a i) (rgA σ (t : Int)).1))
  | 0, _, _, _, _ => zP'.no
  | n + 1, k, x, hk, hx => by
    have e1 : w32 ((k : Int) + 1) = ((k + 1 : Nat) : Int) := by rw [w32_id (by omega) (by omega)]; omega
    unfold g_m_meetsNone_L5
    try dsimp +instances only
    rw [hN]
    by_cases ck : (N : Int) ≤ (k : Int)
    · rw [if_pos ck, if_pos hx]
      exact zP'.ret ⟨rfl, hx, ⟨fun h => ⟨h, fun t t1 t2 => by omega⟩, fun h => h.1⟩⟩
    · rw [if_neg ck, s_region (by omega) (by omega)]
      rw [Option.bind_some]
      try dsimp +instances only
      rw [s_doMeet h1 h2 h3 (by omega) (by rw [l144]; omega) (by rw [l144]; omega)]
      rw [Option.bind_some]
      try dsimp +instances only
      unfold g_m_meetsNone_L39
      rw [e1, (iAnd_b hx).1, (iAnd_b hx).2]
      have eb : bxA σ 144 (340 + 10 * (k : Int)) = (rgA σ (k : Int)).1 := rfl
      by_cases c : bMt (bxA σ a i) (bxA σ 144 (340 + 10 * (k : Int)))
      · rw [if_pos c, if_pos (by decide)]
        refine (t_meets5 hN hN2 h1 h2 h3 n (k + 1) 0 (by omega) (Or.inl rfl)).imp (fun v s p => ⟨p.1, p.2.1, ⟨fun h => absurd (p.2.2.mp h).1 (by decide), fun h => absurd (by rw [← eb]; exact c) (h.2 k (Nat.le_refl _) (by omega))⟩⟩)
      · rw [if_neg c, if_neg (by decide)]
        refine (t_meets5 hN hN2 h1 h2 h3 n (k + 1) x (by omega) hx).imp (fun v s p => ⟨p.1, p.2.1, p.2.2.trans ⟨fun h => ⟨h.1, fun t t1 t2 => ?_⟩, fun h => ⟨h.1, fun t t1 t2 => h.2 t (by omega) t2⟩⟩⟩)
        by_cases ct : t = k
        · subst ct
          rw [← eb]
          exact c
        · exact h.2 t (by omega) t2
theorem t_load99R {rn : Bx → Int} {st : Int → Int} {B : List Bx} {X0 : List Rg × (Int → Int) × Int} (so : stO1 st) (okB : ∀ b ∈ B, bOk b) (hB : B.length ≤ 12) (hX : X0.1.length ≤ 12) (hk0 : ∀ r ∈ X0.1, hOk r) (hA : asc X0.1 (X0.2.1 8)) (h8 : 0 ≤ X0.2.1 8 ∧ X0.2.1 8 ≤ 2000000) (h00 : X0.2.2 = 0) : ∀ (n k : Nat) (s : zS) (x : Int), k ≤ B.length → x = ((B.take k).foldl (adF rn st) X0).2.2 → (0 ≤ x ∧ x ≤ (k : Int)) → mSt s rn st ((B.take k).foldl (adF rn st) X0).1 ((B.take k).foldl (adF rn st) X0).2.1 → (∀ (i : Nat) (hi : i < B.length), bxA s 164 (4 * (i : Int)) = B[i]) → zP' (g_m_load_L99 n (B.length : Int) x (k : Int) s) (fun v t => ∃ L' ct', (∃ m, TMn rn st m ((B.foldl (adF rn st) X0).1, (B.foldl (adF rn st) X0).2.1) (L', ct')) ∧ v = (B.foldl (adF rn st) X0).2.2 ∧ asc L' (ct' 8) ∧ (X0.2.1 8 ≤ ct' 8 ∧ ct' 8 ≤ X0.2.1 8 + 12) ∧ mSt t rn st L' ct')
  | 0, _, _, _, _, _, _, _, _ => zP'.no
  | n + 1, k, s, x, hk, hx, x01, M, hb => by
    have hlt : (B.take k).length = k := by rw [List.length_take]; omega
    obtain ⟨g1, g2, g3, g4, g5⟩ := ad_all (rn := rn) (st := st) (B.take k) X0 (fun b hm => okB b (List.mem_of_mem_take hm)) hk0 hA (by rw [hlt]; omega)
    rw [hlt] at g3 g5
    unfold g_m_load_L99
    by_cases ck : (B.length : Int) ≤ (k : Int)
    · rw [if_pos ck]
      rw [List.take_of_length_le (by omega)] at M g1 g2 g3 g4 g5 hx
      refine zP'.bind (t_trims (by have := so.1; omega) (by have := so.2.1; omega) so.2.2.2.2 M (by omega) g1 g2) (fun _ t p => ?_)
      obtain ⟨m, L', ct', p1, p2, p3, p4, p5, p6⟩ := p
      exact zP'.ret ⟨L', ct', ⟨m, p1⟩, hx, p4, by omega, p6⟩
    · have hk' : k < B.length := by omega
      have okp := okB _ (List.getElem_mem hk')
      have et : (B.take (k + 1)).foldl (adF rn st) X0 = adF rn st ((B.take k).foldl (adF rn st) X0) B[k] := by
        rw [List.take_succ_eq_append_getElem hk', List.foldl_append]
        rfl
      have ebk := hb k hk'
      generalize hXk : (B.take k).foldl (adF rn st) X0 = X at M g1 g2 g3 g4 g5 hx et
      generalize hp : B[k] = p at okp et ebk
      have hN := M.1.1
      rw [if_neg ck, w32_id (x := 4 * (k : Int)) (by omega) (by omega)]
      unfold g_m_meetsNone
      have MN := t_meets5 (a := 164) (i := 4 * (k : Int)) hN (by omega) (by omega) (by rw [l164]; omega) (by rw [l164]; omega) zK 0 1 (Nat.zero_le _) (Or.inr rfl)
      have MN : zP' (g_m_meetsNone_L5 164 zK (4 * (k : Int)) 1 0 s) _ := MN
      refine zP'.bind MN (fun b s' q => ?_)
      obtain ⟨rfl, b01, biff⟩ := q
      try dsimp +instances only
      unfold g_m_load_L154
      rw [ebk] at biff
      by_cases c : b ≠ 0
      · have hb1 : b = 1 := by omega
        have none : ∀ t : Nat, t < X.1.length → ¬ bMt p (rgA s' (t : Int)).1 := fun t ht => (biff.mp hb1).2 t (Nat.zero_le _) ht
        have nm : ¬ mtA X.1 p = true := fun h => by
          obtain ⟨r, h1, h2⟩ := mtA_t.mp h
          obtain ⟨t, ht, rfl⟩ := List.getElem_of_mem h1
          refine none t ht ?_
          rw [M.1.2 t ht]
          exact bMt_comm h2
        have ep : adF rn st X p = (X.1 ++ [newR rn st (askP rn st X.2.1 p) p], upC (askP rn st X.2.1 p) 8 (w32 (askP rn st X.2.1 p 8 + 1)), X.2.2 + 1) := if_neg nm
        rw [if_pos c, s_asks (by decide) (by omega) (by rw [l164]; omega) (by rw [l164]; omega), ebk]
        rw [Option.bind_some]
        try dsimp +instances only
        have MA := t_ask (p := p) M (by omega)
        have eb2 : bxA (askS s' (costN s' p)) 164 (4 * (k : Int)) = p := (askS_bx (Or.inl (by decide))).trans ebk
        rw [s_adds MA.1.1 (by omega) (by omega) (by omega) (by rw [l164]; omega) (by rw [l164]; omega), eb2]
        rw [Option.bind_some]
        try dsimp +instances only
        rw [s_weighs (by omega) (by omega)]
        rw [Option.bind_some]
        try dsimp +instances only
        have MD := t_add (p := p) MA (by omega)
        rw [w32_id (x := (k : Int) + 1) (by omega) (by omega), show (k : Int) + 1 = ((k + 1 : Nat) : Int) by omega, w32_id (x := x + 1) (by omega) (by omega)]
        refine t_load99R so okB hB hX hk0 hA h8 h00 n (k + 1) _ (x + 1) (by omega) (by rw [et, ep, hx]) (by omega) (by rw [et, ep]; exact MD) (fun i hi => ?_)
        rw [← hb i hi]
        have o : ∀ j, trW (addsS (askS s' (costN s' p)) (X.1.length : Int) p) (X.1.length : Int) 164 j = s' 164 j := fun j => by
          show zu _ 147 _ _ 164 j = _
          rw [zu_a (by decide), addsS_a (Or.inl (by decide)), askS_a (Or.inl (by decide))]
        show bxA (trW (addsS (askS s' (costN s' p)) (X.1.length : Int) p) (X.1.length : Int)) 164 _ = _
        unfold bxA
        rw [o, o, o, o]
      · have hb0 : ¬ b = 1 := by omega
        have mm : mtA X.1 p = true := by
          refine Classical.byContradiction (fun hn => hb0 (biff.mpr ⟨rfl, fun t _ ht h => hn (mtA_t.mpr ⟨X.1[t], List.getElem_mem ht, ?_⟩)⟩))
          rw [M.1.2 t ht] at h
          exact bMt_comm h
        have ep : adF rn st X p = X := if_pos mm
        rw [if_neg c, w32_id (x := (k : Int) + 1) (by omega) (by omega), show (k : Int) + 1 = ((k + 1 : Nat) : Int) by omega]
        exact t_load99R so okB hB hX hk0 hA h8 h00 n (k + 1) s' x (by omega) (by rw [et, ep, hx]) (by omega) (by rw [et, ep]; exact M) hb
theorem t_loadR {σ : zS} {rn : Bx → Int} {st : Int → Int} {L : List Rg} {ct : Int → Int} (h : MI σ) (hb : tpR σ) (so : stO1 st) (M : mSt σ rn st L ct) (hL : L.length ≤ 12) (hk : ∀ r ∈ L, hOk r) (A : asc L (ct 8)) (h8 : 0 ≤ ct 8 ∧ ct 8 ≤ 2000000) : zP' (g_m_load σ) (fun v s => ∃ L' ct', ldR rn st (ldP (mT σ) (σ 143 20) 12 0 []) L ct L' ct' v ∧ asc L' (ct' 8) ∧ (ct 8 ≤ ct' 8 ∧ ct' 8 ≤ ct 8 + 12) ∧ mSt s rn st L' ct') := by
  have h20 := h.2.2.1.1
  have bd := ldP_bd (f := mT σ) (L := σ 143 20) 12 0 [] (by decide) h20.1 rfl (fun b hm => absurd hm List.not_mem_nil)
  unfold g_m_load g_m_begins
  rw [Option.bind_some]
  try dsimp +instances only
  have f3 : fr3 σ (zu (zu σ 143 21 0) 143 22 (-1)) := fun a j k2 => by rw [zu_c (by omega), zu_c (by omega)]
  have q21 : zu (zu σ 143 21 0) 143 22 (-1) 143 21 = 0 := by rw [zu_i (by omega), zu_e rfl]
  have q22 : zu (zu σ 143 21 0) 143 22 (-1) 143 22 = -1 := zu_e rfl
  generalize zu (zu σ 143 21 0) 143 22 (-1) = s1 at f3 q21 q22
  have e20 : s1 143 20 = σ 143 20 := f3 143 20 (by omega)
  have t1 : tpP s1 := by
    refine ⟨by rw [e20]; exact h20, by rw [e20, q21]; exact ⟨Int.le_refl 0, h20.1⟩, ?_⟩
    unfold tpR
    rw [e20]
    exact fun j j1 j2 => by rw [f3 159 j (Or.inl (by decide))]; exact hb j j1 j2
  refine m_ld (σ0 := s1) zK 12 [] s1 t1 q22 rfl (by decide) (fun _ _ _ _ => rfl) (fun i hi => absurd hi (Nat.not_lt_zero _)) (fun r s f hr k => ?_)
  rw [mT_f f3, e20, q21] at hr
  have f : frL2 σ s := (frL2.of f3).trans f
  cases k with
  | zero => exact zP'.no
  | succ k =>
    unfold g_m_load_L8
    rw [if_pos rfl]
    try dsimp +instances only
    have e22 : zu s 143 20 0 143 22 = s 143 22 := zu_i (by decide)
    have Mz : mSt (zu s 143 20 0) rn st L ct := M.mv (by omega) (fun j _ _ => (zu_a (by decide)).trans (f 144 j (by decide) (Or.inl (by decide)))) (fun j _ _ => (zu_a (by decide)).trans (f 147 j (by decide) (Or.inl (by decide))))
    rw [e22]
    cases e : ldP (mT σ) (σ 143 20) 12 0 [] with
    | inl q =>
      rw [e] at hr
      have hr : s 143 22 = q := hr
      have bq := bd.1 q e
      rw [if_neg (by omega), hr, w32_id (x := -100 - q) (by omega) (by omega)]
      exact zP'.ret ⟨L, ct, ⟨rfl, rfl, rfl⟩, A, by omega, Mz⟩
    | inr B =>
      rw [e] at hr
      obtain ⟨rfl, h22, hB⟩ := hr
      obtain ⟨B12, okB⟩ := bd.2 B e
      rw [if_pos (by omega)]
      have AD := t_load99R (X0 := (L, ct, 0)) so okB B12 hL hk A h8 rfl zK 0 (zu s 143 20 0) 0 (Nat.zero_le _) rfl (by decide) Mz (fun i hi => by
        rw [← hB i hi]
        unfold bxA
        rw [zu_a (by decide), zu_a (by decide), zu_a (by decide), zu_a (by decide)])
      have AD : zP' (g_m_load_L99 zK (B.length : Int) 0 0 (zu s 143 20 0)) _ := AD
      refine AD.imp (fun v t p => ?_)
      obtain ⟨L', ct', p1, p2, p3, p4, p5⟩ := p
      exact ⟨L', ct', ⟨p1, p2⟩, p3, p4, p5⟩
theorem qr_load {K : Int} {σ : zS} (hK : K ≤ 2000000) (I : InvR K σ) : two (g_c_load σ) g_m_load (fun v w s => InvR (K + 2400) s ∧ v = w) := by
  obtain ⟨v, s1, e1, w, s2, e2, J⟩ := qs_load I.1
  refine ⟨v, s1, e1, w, s2, e2, ?_⟩
  obtain ⟨L, ct, C, M, hR, hk, A, B, hL⟩ := R_open I
  have so := R_st I
  obtain ⟨H1, G1, -⟩ := zO.at (g_c_load_sp I.1.ci) e1
  have ref := fr_ref G1
  have M1 : MI s1 := MI_cls I.1.mi ref
  have F := f_load4 M1 w s2 e2
  have cl : ∀ a j, a < 143 → s2 a j = s1 a j := fun a j h => F a j (Or.inl h)
  have ir : irE s1 s2 := fun a j k => F a j (by omega)
  have i1 := imE.of G1 (fun _ => ⟨rfl, rfl, rfl, rfl, rfl, rfl, rfl⟩)
  have sb : stB s1 50 := I.2.2.1.mv (fun j _ _ => G1 50 j (Or.inr rfl))
  have Mm := M.mv (s := s1) (by omega) (fun j _ _ => ref 144 j (by decide) (by decide)) (fun j _ _ => ref 147 j (by decide) (by decide))
  have hL0 : σ 120 1 = σ 143 20 := I.1.1.1.1.2.2.1
  have e159 : s1 159 = σ 159 := funext (fun j => ref 159 j (by decide) (by decide))
  have e20 : s1 143 20 = σ 143 20 := ref 143 20 (by decide) (by decide)
  have hTR : tpR s1 := by
    unfold tpR
    rw [e20, e159]
    exact I.1.1.2.m hL0
  have eT : mT s1 = cT σ := by
    rw [cT_mT hL0 I.1.1.2]
    unfold mT
    rw [e20, e159]
  obtain ⟨L1, c1, u1, u2⟩ := kR_load I.1.ci I.1.1.2.c so hL hk A (by omega) C v s1 e1
  obtain ⟨L2, c2, v1, v2, v3, v4⟩ := t_loadR M1 hTR so Mm hL hk A (by omega) w s2 e2
  rw [eT, e20, ← hL0] at v1
  obtain ⟨rfl, rfl, rfl⟩ := u1.det v1
  exact ⟨R_closeP J I.2 (by omega) i1 (rK.cls G1).ir cl ir u2 v4 v2 (by omega) sb (gL_ld u1 (fun B e => Nat.le_trans ((ldP_bd 12 0 [] (by decide) (by rw [hL0]; exact I.1.mi.2.2.1.1.1) rfl (fun b hb => absurd hb List.not_mem_nil)).2 B e).1 (by decide)) (by omega) (R_g I M.1)), rfl⟩
