/-! THE REGIONS alike: put, take -/
theorem b_ofE {x y : Int} (hx : 0 ≤ x ∧ x ≤ 31) (hy : 0 ≤ y ∧ y ≤ 31) : iOr (iOr (iOr x (iShl x 5)) (iShl y 10)) (iShl y 15) = enc (x, x, y, y) := by
  have h := b_of (b := (x, x, y, y)) (bOk.s ⟨hx.1, Int.le_refl _, hx.2, hy.1, Int.le_refl _, hy.2⟩) s0
  unfold g_b_of at h
  injection h with h
  injection h with h1 _
theorem cSt.frm {F : Nat → Int → Bool} {σ s : zS} {I : Nat → Bool} {rn : Bx → Int} {st : Int → Int} {L : List Rg} {ct : Int → Int} (C : cSt σ 48 I rn st L ct) (G : fr F σ s) (h : ∀ j : Int, F 41 j = false ∧ F 42 j = false ∧ F 43 j = false ∧ F 44 j = false ∧ F 45 j = false ∧ F 46 j = false ∧ F 47 j = false ∧ F 48 j = false ∧ F 50 j = false ∧ F 51 j = false ∧ F 52 j = false ∧ F 53 j = false ∧ F 54 j = false ∧ F 55 j = false) : cSt s 48 I rn st L ct := C.mv (fun c j k => by
  obtain ⟨h1, h2, h3, h4, h5, h6, h7, h8, h9, h10, h11, h12, h13, h14⟩ := h j
  have cs : c = 41 ∨ c = 42 ∨ c = 43 ∨ c = 44 ∨ c = 45 ∨ c = 46 ∨ c = 47 ∨ c = 48 ∨ c = 50 ∨ c = 51 ∨ c = 52 ∨ c = 53 ∨ c = 54 ∨ c = 55 := by omega
  rcases cs with rfl | rfl | rfl | rfl | rfl | rfl | rfl | rfl | rfl | rfl | rfl | rfl | rfl | rfl
  · exact G _ _ (Or.inr h1)
  · exact G _ _ (Or.inr h2)
  · exact G _ _ (Or.inr h3)
  · exact G _ _ (Or.inr h4)
  · exact G _ _ (Or.inr h5)
  · exact G _ _ (Or.inr h6)
  · exact G _ _ (Or.inr h7)
  · exact G _ _ (Or.inr h8)
  · exact G _ _ (Or.inr h9)
  · exact G _ _ (Or.inr h10)
  · exact G _ _ (Or.inr h11)
  · exact G _ _ (Or.inr h12)
  · exact G _ _ (Or.inr h13)
  · exact G _ _ (Or.inr h14))
/-- other rows, the same regions -/
theorem cSt.rows {F : Nat → Int → Bool} {σ s : zS} {I I' : Nat → Bool} {rn : Bx → Int} {st : Int → Int} {L : List Rg} {ct : Int → Int} (C : cSt σ 48 I rn st L ct) (S : ST s 41 I') (G : fr F σ s) (h : ∀ j : Int, F 48 j = false ∧ F 50 j = false ∧ F 51 j = false ∧ F 52 j = false ∧ F 53 j = false ∧ F 54 j = false ∧ F 55 j = false) : cSt s 48 I' (fun b => rnC s I' b) st L ct := by
  have o : ∀ c j, (c = 48 ∨ (50 ≤ c ∧ c ≤ 55)) → s c j = σ c j := fun c j k => by
    obtain ⟨h8, h9, h10, h11, h12, h13, h14⟩ := h j
    have cs : c = 48 ∨ c = 50 ∨ c = 51 ∨ c = 52 ∨ c = 53 ∨ c = 54 ∨ c = 55 := by omega
    rcases cs with rfl | rfl | rfl | rfl | rfl | rfl | rfl
    · exact G _ _ (Or.inr h8)
    · exact G _ _ (Or.inr h9)
    · exact G _ _ (Or.inr h10)
    · exact G _ _ (Or.inr h11)
    · exact G _ _ (Or.inr h12)
    · exact G _ _ (Or.inr h13)
    · exact G _ _ (Or.inr h14)
  exact ⟨cRs_mv C.1 (fun c j k => o c j (by omega)), fun i i1 i2 => (o 48 i (by omega)).trans (C.2.1 i i1 i2), fun i i1 i2 => (o 50 i (by omega)).trans (C.2.2.1 i i1 i2), S.2.1, S.1, fun b => rfl⟩
/-- what a put or a take makes of the regions: a write at the place where the row was, one at the new place, trimming -/
def wrO (st : Int → Int) (L : List Rg) (ct : Int → Int) (p : Option Bx) (X : List Rg × (Int → Int)) : Prop := match p with
  | none => X = (L, ct)
  | some q => wrR st L ct q X
theorem wrO.det {st : Int → Int} {L : List Rg} {ct : Int → Int} {p : Option Bx} {X Y : List Rg × (Int → Int)} (h1 : wrO st L ct p X) (h2 : wrO st L ct p Y) : X = Y := by
  cases p with
  | none =>
    have h1 : X = (L, ct) := h1
    have h2 : Y = (L, ct) := h2
    rw [h1, h2]
  | some q => exact wrR.det (p := q) h1 h2
def PUr (rn : Bx → Int) (st : Int → Int) (L : List Rg) (ct : Int → Int) (o p : Option Bx) (L' : List Rg) (ct' : Int → Int) : Prop := ∃ X Y m, wrO st L ct o X ∧ wrO st X.1 X.2 p Y ∧ TMn rn st m Y (L', ct')
theorem PUr.det {rn : Bx → Int} {st : Int → Int} {L L1 L2 : List Rg} {ct c1 c2 : Int → Int} {o p : Option Bx} (h1 : PUr rn st L ct o p L1 c1) (h2 : PUr rn st L ct o p L2 c2) : L1 = L2 ∧ c1 = c2 := by
  obtain ⟨X, Y, m, a1, a2, a3⟩ := h1
  obtain ⟨X', Y', m', b1, b2, b3⟩ := h2
  obtain rfl := a1.det b1
  obtain rfl := a2.det b2
  have h := TMn.det _ _ a3 b3
  exact ⟨congrArg Prod.fst h, congrArg Prod.snd h⟩
theorem gL_wo {st : Int → Int} {L : List Rg} {ct : Int → Int} {p : Option Bx} {X : List Rg × (Int → Int)} (h : wrO st L ct p X) (h8 : 0 ≤ ct 8 ∧ ct 8 ≤ 2100000000) (g : gL L) : gL X.1 ∧ ct 8 ≤ X.2 8 ∧ X.2 8 ≤ ct 8 + 4 := by
  cases p with
  | none =>
    have h : X = (L, ct) := h
    rw [h]
    exact ⟨g, Int.le_refl _, by show ct 8 ≤ ct 8 + 4; omega⟩
  | some q => exact gL_wr (show wrR st L ct q X from h) h8 g
theorem gL_PU {rn : Bx → Int} {st : Int → Int} {L L' : List Rg} {ct ct' : Int → Int} {o p : Option Bx} (h : PUr rn st L ct o p L' ct') (h8 : 0 ≤ ct 8 ∧ ct 8 ≤ 2000000000) (g : gL L) : gL L' := by
  obtain ⟨X, Y, m, a1, a2, a3⟩ := h
  obtain ⟨g1, g2, g3⟩ := gL_wo a1 (by omega) g
  exact (gL_TMn m a3 (gL_wo a2 (by omega) g1).1).1
theorem k_after {σ : zS} {I : Nat → Bool} {rn : Bx → Int} {st : Int → Int} {L : List Rg} {ct : Int → Int} (so : stO1 st) (H : CI σ) (C : cSt σ 48 I rn st L ct) (hL : L.length ≤ 100) (hk : ∀ r ∈ L, hOk r) : zP' (g_c_afterWrites σ) (fun v s => ∃ m L' ct', TMn rn st m (L, ct) (L', ct') ∧ cSt s 48 I rn st L' ct' ∧ v = (L'.length : Int)) := by
  unfold g_c_afterWrites
  refine zP'.bind ((k_trim (Or.inl rfl) (by have := so.1; omega) (by have := so.2.1; omega) C (by omega) hk).and (zP'.of (g_ca_trim_sp (a0 := 48) (by omega) H))) (fun _ s p => ?_)
  obtain ⟨⟨m, L', ct', p1, p2, p3, p4, p5⟩, H1, -, -⟩ := p
  try dsimp +instances only
  refine zP'.bind (zP'.of (g_wa_compare_sp H1)) (fun _ t q => ?_)
  have C2 := p4.frm q.2.1 (fun _ => ⟨rfl, rfl, rfl, rfl, rfl, rfl, rfl, rfl, rfl, rfl, rfl, rfl, rfl, rfl⟩)
  try dsimp +instances only
  exact zP'.ret ⟨m, L', ct', p1, C2, C2.1.1⟩
theorem k_write48 {σ : zS} {I : Nat → Bool} {rn : Bx → Int} {st : Int → Int} {L : List Rg} {ct : Int → Int} {p : Bx} (H : CI σ) (hp : bOk p) (hL : L.length ≤ 100) (hk : ∀ r ∈ L, hOk r) (C : cSt σ 48 I rn st L ct) : zP' (g_ca_write 48 (enc p) σ) (fun _ s => CI s ∧ stE σ s ∧ ∃ X, wrR st L ct p X ∧ cSt s 48 I rn st X.1 X.2) := ((k_write (Or.inl rfl) hp hL hk C (fun r hr => rest_ok hp hr)).and (zP'.of (g_ca_write_sp (a0 := 48) (by omega) H))).imp (fun _ s q => by
  obtain ⟨⟨X, x1, x2, x3⟩, H1, G1, -⟩ := q
  exact ⟨H1, stE.of G1 (fun _ => ⟨rfl, rfl, rfl, rfl, rfl, rfl, rfl⟩), X, x1, x2⟩)
/-- put() behind the row's coming out -/
theorem k_put90 {r : Nat} {x y v : Int} {σ : zS} {I : Nat → Bool} {rn : Bx → Int} {st : Int → Int} {L : List Rg} {ct : Int → Int} (so : stO1 st) (H : CI σ) (S : ST σ 41 I) (hr : r < 60) (hI : I r = false) (hx : 0 ≤ x ∧ x ≤ 31) (hy : 0 ≤ y ∧ y ≤ 31) (C : cSt σ 48 I rn st L ct) (hL : L.length ≤ 50) (hk : ∀ r ∈ L, hOk r) (A : asc L (ct 8)) (B : 0 ≤ ct 8 ∧ ct 8 + 4 < 2147483648) : zP' (g_c_put_L90 (r : Int) x y v σ) (fun w s => ∃ I' rn' Y m L' ct', wrR st L ct (x, x, y, y) Y ∧ TMn rn' st m Y (L', ct') ∧ cSt s 48 I' rn' st L' ct' ∧ w = (L'.length : Int)) := by
  have h4 := CI.c4 (a := 41) H (by omega)
  have okp : bOk (x, x, y, y) := ⟨hx.1, Int.le_refl _, hx.2, hy.1, Int.le_refl _, hy.2⟩
  unfold g_c_put_L90
  refine zP'.bind ((p_bringIn H hr hx hy (ST_cnt S hr hI h4.1) (by rw [ST_bit H S hr]; exact hI) (ST_val S)).and (zP'.of (g_so_bringIn_sp H))) (fun _ s1 p1 => ?_)
  obtain ⟨⟨k1, k2, k3, k4⟩, H1, G1, -⟩ := p1
  have S1 := ST_in S hr hI hx hy h4.1 k1 k2 k3 k4
  have C1 := C.rows S1 G1 (fun _ => ⟨rfl, rfl, rfl, rfl, rfl, rfl, rfl⟩)
  try dsimp +instances only
  have hb := b_of (b := (x, x, y, y)) okp.s s1
  try dsimp only at hb
  rw [hb]
  rw [Option.bind_some]
  try dsimp +instances only
  refine zP'.bind (k_write48 H1 okp (by omega) hk C1) (fun _ s2 p2 => ?_)
  obtain ⟨H2, -, Y, y1, y2⟩ := p2
  obtain ⟨a1, a2, a3, a4, a5⟩ := wr_all okp hk A B y1
  try dsimp +instances only
  refine zP'.bind (k_after so H2 y2 (by omega) a2) (fun w s3 p3 => ?_)
  obtain ⟨m, L', ct', q1, q2, q3⟩ := p3
  exact zP'.ret ⟨_, _, Y, m, L', ct', y1, q1, q2, q3⟩
/-- the place where a row was -/
def oldP (σ : zS) (i : Bool) (r : Nat) : Option Bx := if i = true then some (σ 42 (r : Int), σ 42 (r : Int), σ 43 (r : Int), σ 43 (r : Int)) else none
theorem k_put {r x y v : Int} {σ : zS} {I : Nat → Bool} {rn : Bx → Int} {st : Int → Int} {L : List Rg} {ct : Int → Int} (so : stO1 st) (H : CI σ) (S : ST σ 41 I) (C : cSt σ 48 I rn st L ct) (hL : L.length ≤ 12) (hk : ∀ r ∈ L, hOk r) (A : asc L (ct 8)) (B : 0 ≤ ct 8 ∧ ct 8 + 8 < 2147483648) : zP' (g_c_put r x y v σ) (fun w s => (acc r x y v → ∃ I' rn' L' ct', PUr rn' st L ct (oldP σ (I r.toNat) r.toNat) (some (x, x, y, y)) L' ct' ∧ cSt s 48 I' rn' st L' ct' ∧ w = (L'.length : Int)) ∧ (¬ acc r x y v → s = σ ∧ w = if 0 ≤ r ∧ r < 60 then -2 else -1)) := by
  unfold g_c_put
  rw [p_isRow]
  rw [Option.bind_some]
  try dsimp +instances only
  by_cases c1 : 0 ≤ r ∧ r < 60
  · rw [if_pos c1, if_pos (by decide), p_isPlace]
    rw [Option.bind_some]
    try dsimp +instances only
    by_cases c2 : 0 ≤ x ∧ x ≤ 31 ∧ 0 ≤ y ∧ y ≤ 31
    · rw [if_pos c2, if_neg (by decide)]
      refine zP'.ite (fun c3 => zP'.ret ⟨fun h => absurd (lCmp_eq.mp c3) h.2.2.2.1, fun _ => ⟨rfl, by rw [if_pos c1]⟩⟩) (fun c3 => ?_)
      refine zP'.ite (fun c4 => ?_) (fun c4 => zP'.ret ⟨fun h => absurd (fun e => h.2.2.2.2 (lCmp_eq.mp e)) c4, fun _ => ⟨rfl, by rw [if_pos c1]⟩⟩)
      have hacc : acc r x y v := ⟨c1, ⟨c2.1, c2.2.1⟩, c2.2.2, fun h => c3 (lCmp_eq.mpr h), fun h => c4 (lCmp_eq.mpr h)⟩
      obtain ⟨k, rfl⟩ : ∃ k : Nat, r = (k : Int) := ⟨r.toNat, by omega⟩
      have hk60 : k < 60 := by omega
      have ek : ((k : Int)).toNat = k := by omega
      rw [ek]
      refine zP'.bind (zP'.of (g_wa_remember_sp H)) (fun _ s1 p1 => ?_)
      obtain ⟨H1, G1, -⟩ := p1
      have e1 : stE σ s1 := stE.of G1 (fun _ => ⟨rfl, rfl, rfl, rfl, rfl, rfl, rfl⟩)
      have S1 := ST_E S e1
      have C1 := C.frm G1 (fun _ => ⟨rfl, rfl, rfl, rfl, rfl, rfl, rfl, rfl, rfl, rfl, rfl, rfl, rfl, rfl⟩)
      try dsimp +instances only
      rw [p_isIn hk60, ST_bit H1 S1 hk60]
      rw [Option.bind_some]
      try dsimp +instances only
      by_cases c5 : I k = true
      · rw [if_pos c5, if_neg (by decide)]
        refine zP'.bind ((p_bringOut H1 hk60).and (zP'.of (g_so_bringOut_sp H1))) (fun w s2 p2 => ?_)
        obtain ⟨k2, H2, G2, -⟩ := p2
        obtain ⟨k3, k4, k5, k6⟩ := k2 (by rw [ST_bit H1 S1 hk60]; exact c5)
        have S2 := ST_out H1 S1 hk60 c5 k3 k4 k5
        have C2 := C1.rows S2 G2 (fun _ => ⟨rfl, rfl, rfl, rfl, rfl, rfl, rfl⟩)
        have gx := CI.cp (a := 42) (j := (k : Int)) H1 (by omega)
        have gy := CI.cp (a := 43) (j := (k : Int)) H1 (by omega)
        have ew : w = enc (s1 42 (k : Int), s1 42 (k : Int), s1 43 (k : Int), s1 43 (k : Int)) := k6.trans (b_ofE gx gy)
        have okq : bOk (s1 42 (k : Int), s1 42 (k : Int), s1 43 (k : Int), s1 43 (k : Int)) := ⟨gx.1, Int.le_refl _, gx.2, gy.1, Int.le_refl _, gy.2⟩
        have eo : oldP σ (I k) k = some (s1 42 (k : Int), s1 42 (k : Int), s1 43 (k : Int), s1 43 (k : Int)) := by
          unfold oldP
          rw [if_pos c5, e1 42 _ (by unfold stK; omega), e1 43 _ (by unfold stK; omega)]
        try dsimp +instances only
        rw [ew]
        refine zP'.bind (k_write48 H2 okq (by omega) hk C2) (fun _ s3 p3 => ?_)
        obtain ⟨H3, e3, X, x1, x2⟩ := p3
        have S3 := ST_E S2 e3
        obtain ⟨a1, a2, a3, a4, a5⟩ := wr_all okq hk A (by omega) x1
        try dsimp +instances only
        refine (k_put90 (x := x) (y := y) (v := v) so H3 S3 hk60 (by simp) ⟨c2.1, c2.2.1⟩ c2.2.2 x2 (by omega) a2 a1 (by omega)).imp (fun w s h => ⟨fun _ => ?_, fun hn => absurd hacc hn⟩)
        obtain ⟨I', rn', Y, m, L', ct', q1, q2, q3, q4⟩ := h
        exact ⟨I', rn', L', ct', ⟨X, Y, m, by rw [eo]; exact x1, q1, q2⟩, q3, q4⟩
      · have c6 : I k = false := by
          cases hb : I k with
          | true => exact absurd hb c5
          | false => rfl
        rw [if_neg c5, if_pos rfl]
        refine (k_put90 (x := x) (y := y) (v := v) so H1 S1 hk60 c6 ⟨c2.1, c2.2.1⟩ c2.2.2 C1 (by omega) hk A (by omega)).imp (fun w s h => ⟨fun _ => ?_, fun hn => absurd hacc hn⟩)
        obtain ⟨I', rn', Y, m, L', ct', q1, q2, q3, q4⟩ := h
        refine ⟨I', rn', L', ct', ⟨(L, ct), Y, m, ?_, q1, q2⟩, q3, q4⟩
        unfold oldP
        rw [if_neg c5]
        rfl
    · rw [if_neg c2, if_pos rfl]
      exact zP'.ret ⟨fun h => absurd ⟨h.2.1.1, h.2.1.2, h.2.2.1.1, h.2.2.1.2⟩ c2, fun _ => ⟨rfl, by rw [if_pos c1]⟩⟩
  · rw [if_neg c1, if_neg (by decide)]
    exact zP'.ret ⟨fun h => absurd h.1 c1, fun _ => ⟨rfl, by rw [if_neg c1]⟩⟩
theorem k_take {r : Int} {σ : zS} {I : Nat → Bool} {rn : Bx → Int} {st : Int → Int} {L : List Rg} {ct : Int → Int} (so : stO1 st) (H : CI σ) (S : ST σ 41 I) (C : cSt σ 48 I rn st L ct) (hL : L.length ≤ 12) (hk : ∀ r ∈ L, hOk r) (A : asc L (ct 8)) (B : 0 ≤ ct 8 ∧ ct 8 + 8 < 2147483648) : zP' (g_c_take r σ) (fun w s => ((0 ≤ r ∧ r < 60) ∧ I r.toNat = true → ∃ I' rn' L' ct', PUr rn' st L ct (oldP σ (I r.toNat) r.toNat) none L' ct' ∧ cSt s 48 I' rn' st L' ct' ∧ w = (L'.length : Int)) ∧ (¬ ((0 ≤ r ∧ r < 60) ∧ I r.toNat = true) → s = σ ∧ w = if 0 ≤ r ∧ r < 60 then -3 else -1)) := by
  unfold g_c_take
  rw [p_isRow]
  rw [Option.bind_some]
  try dsimp +instances only
  by_cases c1 : 0 ≤ r ∧ r < 60
  · obtain ⟨k, rfl⟩ : ∃ k : Nat, r = (k : Int) := ⟨r.toNat, by omega⟩
    have hk60 : k < 60 := by omega
    have ek : ((k : Int)).toNat = k := by omega
    rw [ek]
    rw [if_pos c1, if_pos (by decide), p_isIn hk60, ST_bit H S hk60]
    rw [Option.bind_some]
    try dsimp +instances only
    by_cases c5 : I k = true
    · rw [if_pos c5, if_pos (by decide)]
      refine zP'.bind (zP'.of (g_wa_remember_sp H)) (fun _ s1 p1 => ?_)
      obtain ⟨H1, G1, -⟩ := p1
      have e1 : stE σ s1 := stE.of G1 (fun _ => ⟨rfl, rfl, rfl, rfl, rfl, rfl, rfl⟩)
      have S1 := ST_E S e1
      have C1 := C.frm G1 (fun _ => ⟨rfl, rfl, rfl, rfl, rfl, rfl, rfl, rfl, rfl, rfl, rfl, rfl, rfl, rfl⟩)
      try dsimp +instances only
      refine zP'.bind ((p_bringOut H1 hk60).and (zP'.of (g_so_bringOut_sp H1))) (fun w s2 p2 => ?_)
      obtain ⟨k2, H2, G2, -⟩ := p2
      obtain ⟨k3, k4, k5, k6⟩ := k2 (by rw [ST_bit H1 S1 hk60]; exact c5)
      have S2 := ST_out H1 S1 hk60 c5 k3 k4 k5
      have C2 := C1.rows S2 G2 (fun _ => ⟨rfl, rfl, rfl, rfl, rfl, rfl, rfl⟩)
      have gx := CI.cp (a := 42) (j := (k : Int)) H1 (by omega)
      have gy := CI.cp (a := 43) (j := (k : Int)) H1 (by omega)
      have ew : w = enc (s1 42 (k : Int), s1 42 (k : Int), s1 43 (k : Int), s1 43 (k : Int)) := k6.trans (b_ofE gx gy)
      have okq : bOk (s1 42 (k : Int), s1 42 (k : Int), s1 43 (k : Int), s1 43 (k : Int)) := ⟨gx.1, Int.le_refl _, gx.2, gy.1, Int.le_refl _, gy.2⟩
      have eo : oldP σ (I k) k = some (s1 42 (k : Int), s1 42 (k : Int), s1 43 (k : Int), s1 43 (k : Int)) := by
        unfold oldP
        rw [if_pos c5, e1 42 _ (by unfold stK; omega), e1 43 _ (by unfold stK; omega)]
      try dsimp +instances only
      rw [ew]
      refine zP'.bind (k_write48 H2 okq (by omega) hk C2) (fun _ s3 p3 => ?_)
      obtain ⟨H3, e3, X, x1, x2⟩ := p3
      obtain ⟨a1, a2, a3, a4, a5⟩ := wr_all okq hk A (by omega) x1
      try dsimp +instances only
      refine zP'.bind (k_after so H3 x2 (by omega) a2) (fun w s4 p4 => ?_)
      obtain ⟨m, L', ct', q1, q2, q3⟩ := p4
      exact zP'.ret ⟨fun _ => ⟨_, _, L', ct', ⟨X, X, m, by rw [eo]; exact x1, rfl, q1⟩, q2, q3⟩, fun hn => absurd ⟨c1, c5⟩ hn⟩
    · rw [if_neg c5, if_neg (by decide)]
      exact zP'.ret ⟨fun h => absurd h.2 c5, fun _ => ⟨rfl, by rw [if_pos c1]⟩⟩
  · rw [if_neg c1, if_neg (by decide)]
    exact zP'.ret ⟨fun h => absurd h.1 c1, fun _ => ⟨rfl, by rw [if_neg c1]⟩⟩
