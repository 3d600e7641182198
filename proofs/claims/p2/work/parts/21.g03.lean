/-! THE METHODS over the typed memory, 3 (by wip/zg.py) -/
def g_jMath_min_292 (y0 : Int) (y2 : Int) (σ : zS) : Option (Int × zS) :=
  if 0 < lCmp y0 y2 then
    some (y2, σ)
  else
    some (y0, σ)
set_option maxHeartbeats 4000000 in
theorem g_jMath_min_292_ok {xl : Nat} {xs : Nat → Int32} {Y0 : Int64} {y0 : Int} (hy0 : Y0.toInt = y0) {Y2 : Int64} {y2 : Int} (hy2 : Y2.toInt = y2) {σ : zS} {p : Nat} {m : zM} {o : Int × zS} (H : zRep xl xs p m σ) (h : g_jMath_min_292 y0 y2 σ = some o) : zGo xl xs (fun p' => p = p') 1 292 0 (z_can 292 0 (lv_args 0 [.long Y0, .long Y2])) [] m (vL o.1) o.2 := by
  have hq : z_mth 292 = some z_r292 := rfl
  unfold g_jMath_min_292 at h
  show zGo xl xs (fun p' => p = p') 1 292 0 [(0, .long Y0), (2, .long Y2)] [] m (vL o.1) o.2
  refine r_p hq 3 (pc' := 3) (L' := [(0, .long Y0), (2, .long Y2)]) (st' := [.int (lg_cmp Y0 Y2)]) rfl ?_
  rcases z_ite h with ⟨c_3, h⟩ | ⟨c_3, h⟩
  · refine r_t1 (pc' := 10) (L' := [(0, .long Y0), (2, .long Y2)]) hq (z_at.mk 3 rfl rfl) rfl (tx_lcmp hy0 hy2) c_3 rfl rfl ?_
    refine r_p hq 1 (pc' := 11) (L' := []) (st' := [.long Y2]) rfl ?_
    cases h
    exact r_rl hq (z_at.mk 1 rfl rfl) rfl hy2 rfl H
  · refine r_f1 (pc' := 6) (L' := [(0, .long Y0), (2, .long Y2)]) hq (z_at.mk 3 rfl rfl) rfl (tx_lcmp hy0 hy2) c_3 rfl rfl ?_
    refine r_p hq 2 (pc' := 11) (L' := []) (st' := [.long Y0]) rfl ?_
    cases h
    exact r_rl hq (z_at.mk 1 rfl rfl) rfl hy0 rfl H
def g_fi_leastWorth_L9 (a0 : Nat) : Nat → Int → Int → zS → Option (Int × zS)
  | 0, _, _, _ => none
  | n + 1, y1, x3, σ =>
    let v_11 := σ a0 2
    if v_11 ≤ x3 then
      some (y1, σ)
    else
      if 0 ≤ x3 ∧ x3 < 60 then
      let v_23 := σ (a0 + 2) x3
      (g_jMath_min_292 y1 v_23 σ).bind fun o_24 =>
      (g_fi_leastWorth_L9 a0 n) o_24.1 (w32 (x3 + 1)) o_24.2
      else none
set_option maxHeartbeats 4000000 in
theorem g_fi_leastWorth_L9_ok {xl : Nat} {xs : Nat → Int32} {a0 : Nat} (ha0 : zIn [60, 70] a0 = true) : ∀ (n : Nat) {Y1 : Int64} {y1 : Int} {X3 : Int32} {x3 : Int} {σ : zS} {p : Nat} {m : zM} {o : Int × zS}, Y1.toInt = y1 → X3.toInt = x3 → zRep xl xs p m σ → g_fi_leastWorth_L9 a0 n y1 x3 σ = some o → zGo xl xs (fun p' => p = p') 2 52 9 [(0, .ref a0), (1, .long Y1), (3, .int X3)] [] m (vL o.1) o.2
  | 0, _, _, _, _, _, _, _, _, _, _, _, h => by cases h
  | n + 1, Y1, y1, X3, x3, σ, p, m, o, hy1, hx3, H, h => by
    have hq : z_mth 52 = some z_r52 := rfl
    have ih := fun {Y1 : Int64} {y1 : Int} {X3 : Int32} {x3 : Int} {σ : zS} {p : Nat} {m : zM} {o : Int × zS} => g_fi_leastWorth_L9_ok (xl := xl) (xs := xs) ha0 n (Y1 := Y1) (y1 := y1) (X3 := X3) (x3 := x3) (σ := σ) (p := p) (m := m) (o := o)
    unfold g_fi_leastWorth_L9 at h
    refine r_p hq 2 (pc' := 11) (L' := [(0, .ref a0), (1, .long Y1), (3, .int X3)]) (st' := [.ref a0, .int X3]) rfl ?_
    refine r_gI (pc' := 14) (L' := [(0, .ref a0), (1, .long Y1), (3, .int X3)]) H hq (z_at.mk 3 rfl rfl) rfl (zIn_all (l := [60, 70]) (p := fun a => zQ a 13 2 0) rfl ha0) rfl rfl ?_
    intro V_11 hV_11
    rcases z_ite h with ⟨c_14, h⟩ | ⟨c_14, h⟩
    · refine r_t2 (pc' := 34) (L' := [(0, .ref a0), (1, .long Y1), (3, .int X3)]) hq (z_at.mk 3 rfl rfl) rfl hx3 hV_11 c_14 rfl rfl ?_
      refine r_p hq 1 (pc' := 35) (L' := [(0, .ref a0), (1, .long Y1), (3, .int X3)]) (st' := [.long Y1]) rfl ?_
      cases h
      exact r_rl hq (z_at.mk 1 rfl rfl) rfl hy1 rfl H
    · refine r_f2 (pc' := 17) (L' := [(0, .ref a0), (1, .long Y1), (3, .int X3)]) hq (z_at.mk 3 rfl rfl) rfl hx3 hV_11 c_14 rfl rfl ?_
      refine r_p hq 2 (pc' := 19) (L' := [(0, .ref a0), (1, .long Y1), (3, .int X3)]) (st' := [.ref a0, .long Y1]) rfl ?_
      refine r_gR (b := a0 + 2) (pc' := 22) (L' := [(0, .ref a0), (1, .long Y1), (3, .int X3)]) H hq (z_at.mk 3 rfl rfl) rfl (zIn_all (l := [60, 70]) (p := fun a => zQ a 13 1 (100 + a + 2)) rfl ha0) rfl rfl ?_
      refine r_p hq 1 (pc' := 23) (L' := [(0, .ref a0), (1, .long Y1), (3, .int X3)]) (st' := [.int X3, .ref (a0 + 2), .long Y1]) rfl ?_
      obtain ⟨g_23, h⟩ := z_ifo_some h
      refine r_la (pc' := 24) (L' := [(0, .ref a0), (1, .long Y1), (3, .int X3)]) H hq (z_at.mk 1 rfl rfl) (zIn_all (l := [60, 70]) (p := fun a => zAr (a + 2) 1 60) rfl ha0) hx3 g_23 rfl rfl ?_
      intro V_23 hV_23
      obtain ⟨o_24, h_24, h⟩ := Option.bind_eq_some_iff.mp h
      refine r_csL (pc' := 27) (L' := [(0, .ref a0), (1, .long Y1), (3, .int X3)]) (As := [.long Y1, .long V_23]) (rest := []) (j := 292) hq (z_at.mk 3 rfl rfl) (Or.inl ⟨rfl, rfl⟩) rfl rfl (by omega) (g_jMath_min_292_ok hy1 hV_23 H h_24) rfl rfl ?_
      intro R_24 m_24 p_24 e_24 hR_24 H_24
      subst e_24
      refine r_p hq 3 (pc' := 9) (L' := [(0, .ref a0), (1, .long R_24), (3, .int (X3 + (1 : Int32)))]) (st' := []) rfl ?_
      exact ih hR_24 (tx_iadd hx3 (rfl : (1 : Int32).toInt = 1)) H_24 h
def g_fi_leastWorth (a0 : Nat) (σ : zS) : Option (Int × zS) :=
  let v_5 := σ (a0 + 2) 0
  g_fi_leastWorth_L9 a0 zK v_5 1 σ
set_option maxHeartbeats 4000000 in
theorem g_fi_leastWorth_ok {xl : Nat} {xs : Nat → Int32} {a0 : Nat} (ha0 : zIn [60, 70] a0 = true) {σ : zS} {p : Nat} {m : zM} {o : Int × zS} (H : zRep xl xs p m σ) (h : g_fi_leastWorth a0 σ = some o) : zGo xl xs (fun p' => p = p') 2 52 0 (z_can 52 0 (lv_args 0 [.ref a0])) [] m (vL o.1) o.2 := by
  have hq : z_mth 52 = some z_r52 := rfl
  unfold g_fi_leastWorth at h
  show zGo xl xs (fun p' => p = p') 2 52 0 [(0, .ref a0)] [] m (vL o.1) o.2
  refine r_p hq 1 (pc' := 1) (L' := [(0, .ref a0)]) (st' := [.ref a0]) rfl ?_
  refine r_gR (b := a0 + 2) (pc' := 4) (L' := [(0, .ref a0)]) H hq (z_at.mk 3 rfl rfl) rfl (zIn_all (l := [60, 70]) (p := fun a => zQ a 13 1 (100 + a + 2)) rfl ha0) rfl rfl ?_
  refine r_p hq 1 (pc' := 5) (L' := [(0, .ref a0)]) (st' := [.int ((0 : Int32)), .ref (a0 + 2)]) rfl ?_
  refine r_la (pc' := 6) (L' := [(0, .ref a0)]) H hq (z_at.mk 1 rfl rfl) (zIn_all (l := [60, 70]) (p := fun a => zAr (a + 2) 1 60) rfl ha0) (rfl : (0 : Int32).toInt = 0) ⟨by decide, by decide⟩ rfl rfl ?_
  intro V_5 hV_5
  refine r_p hq 3 (pc' := 9) (L' := [(0, .ref a0), (1, .long V_5), (3, .int ((1 : Int32)))]) (st' := []) rfl ?_
  exact g_fi_leastWorth_L9_ok ha0 zK hV_5 (rfl : (1 : Int32).toInt = 1) H h
def g_fi_mostWorth_L9 (a0 : Nat) : Nat → Int → Int → zS → Option (Int × zS)
  | 0, _, _, _ => none
  | n + 1, y1, x3, σ =>
    let v_11 := σ a0 2
    if v_11 ≤ x3 then
      some (y1, σ)
    else
      if 0 ≤ x3 ∧ x3 < 60 then
      let v_23 := σ (a0 + 2) x3
      (g_jMath_max_290 y1 v_23 σ).bind fun o_24 =>
      (g_fi_mostWorth_L9 a0 n) o_24.1 (w32 (x3 + 1)) o_24.2
      else none
set_option maxHeartbeats 4000000 in
theorem g_fi_mostWorth_L9_ok {xl : Nat} {xs : Nat → Int32} {a0 : Nat} (ha0 : zIn [60, 70] a0 = true) : ∀ (n : Nat) {Y1 : Int64} {y1 : Int} {X3 : Int32} {x3 : Int} {σ : zS} {p : Nat} {m : zM} {o : Int × zS}, Y1.toInt = y1 → X3.toInt = x3 → zRep xl xs p m σ → g_fi_mostWorth_L9 a0 n y1 x3 σ = some o → zGo xl xs (fun p' => p = p') 2 53 9 [(0, .ref a0), (1, .long Y1), (3, .int X3)] [] m (vL o.1) o.2
  | 0, _, _, _, _, _, _, _, _, _, _, _, h => by cases h
  | n + 1, Y1, y1, X3, x3, σ, p, m, o, hy1, hx3, H, h => by
    have hq : z_mth 53 = some z_r53 := rfl
    have ih := fun {Y1 : Int64} {y1 : Int} {X3 : Int32} {x3 : Int} {σ : zS} {p : Nat} {m : zM} {o : Int × zS} => g_fi_mostWorth_L9_ok (xl := xl) (xs := xs) ha0 n (Y1 := Y1) (y1 := y1) (X3 := X3) (x3 := x3) (σ := σ) (p := p) (m := m) (o := o)
    unfold g_fi_mostWorth_L9 at h
    refine r_p hq 2 (pc' := 11) (L' := [(0, .ref a0), (1, .long Y1), (3, .int X3)]) (st' := [.ref a0, .int X3]) rfl ?_
    refine r_gI (pc' := 14) (L' := [(0, .ref a0), (1, .long Y1), (3, .int X3)]) H hq (z_at.mk 3 rfl rfl) rfl (zIn_all (l := [60, 70]) (p := fun a => zQ a 13 2 0) rfl ha0) rfl rfl ?_
    intro V_11 hV_11
    rcases z_ite h with ⟨c_14, h⟩ | ⟨c_14, h⟩
    · refine r_t2 (pc' := 34) (L' := [(0, .ref a0), (1, .long Y1), (3, .int X3)]) hq (z_at.mk 3 rfl rfl) rfl hx3 hV_11 c_14 rfl rfl ?_
      refine r_p hq 1 (pc' := 35) (L' := [(0, .ref a0), (1, .long Y1), (3, .int X3)]) (st' := [.long Y1]) rfl ?_
      cases h
      exact r_rl hq (z_at.mk 1 rfl rfl) rfl hy1 rfl H
    · refine r_f2 (pc' := 17) (L' := [(0, .ref a0), (1, .long Y1), (3, .int X3)]) hq (z_at.mk 3 rfl rfl) rfl hx3 hV_11 c_14 rfl rfl ?_
      refine r_p hq 2 (pc' := 19) (L' := [(0, .ref a0), (1, .long Y1), (3, .int X3)]) (st' := [.ref a0, .long Y1]) rfl ?_
      refine r_gR (b := a0 + 2) (pc' := 22) (L' := [(0, .ref a0), (1, .long Y1), (3, .int X3)]) H hq (z_at.mk 3 rfl rfl) rfl (zIn_all (l := [60, 70]) (p := fun a => zQ a 13 1 (100 + a + 2)) rfl ha0) rfl rfl ?_
      refine r_p hq 1 (pc' := 23) (L' := [(0, .ref a0), (1, .long Y1), (3, .int X3)]) (st' := [.int X3, .ref (a0 + 2), .long Y1]) rfl ?_
      obtain ⟨g_23, h⟩ := z_ifo_some h
      refine r_la (pc' := 24) (L' := [(0, .ref a0), (1, .long Y1), (3, .int X3)]) H hq (z_at.mk 1 rfl rfl) (zIn_all (l := [60, 70]) (p := fun a => zAr (a + 2) 1 60) rfl ha0) hx3 g_23 rfl rfl ?_
      intro V_23 hV_23
      obtain ⟨o_24, h_24, h⟩ := Option.bind_eq_some_iff.mp h
      refine r_csL (pc' := 27) (L' := [(0, .ref a0), (1, .long Y1), (3, .int X3)]) (As := [.long Y1, .long V_23]) (rest := []) (j := 290) hq (z_at.mk 3 rfl rfl) (Or.inl ⟨rfl, rfl⟩) rfl rfl (by omega) (g_jMath_max_290_ok hy1 hV_23 H h_24) rfl rfl ?_
      intro R_24 m_24 p_24 e_24 hR_24 H_24
      subst e_24
      refine r_p hq 3 (pc' := 9) (L' := [(0, .ref a0), (1, .long R_24), (3, .int (X3 + (1 : Int32)))]) (st' := []) rfl ?_
      exact ih hR_24 (tx_iadd hx3 (rfl : (1 : Int32).toInt = 1)) H_24 h
def g_fi_mostWorth (a0 : Nat) (σ : zS) : Option (Int × zS) :=
  let v_5 := σ (a0 + 2) 0
  g_fi_mostWorth_L9 a0 zK v_5 1 σ
set_option maxHeartbeats 4000000 in
theorem g_fi_mostWorth_ok {xl : Nat} {xs : Nat → Int32} {a0 : Nat} (ha0 : zIn [60, 70] a0 = true) {σ : zS} {p : Nat} {m : zM} {o : Int × zS} (H : zRep xl xs p m σ) (h : g_fi_mostWorth a0 σ = some o) : zGo xl xs (fun p' => p = p') 2 53 0 (z_can 53 0 (lv_args 0 [.ref a0])) [] m (vL o.1) o.2 := by
  have hq : z_mth 53 = some z_r53 := rfl
  unfold g_fi_mostWorth at h
  show zGo xl xs (fun p' => p = p') 2 53 0 [(0, .ref a0)] [] m (vL o.1) o.2
  refine r_p hq 1 (pc' := 1) (L' := [(0, .ref a0)]) (st' := [.ref a0]) rfl ?_
  refine r_gR (b := a0 + 2) (pc' := 4) (L' := [(0, .ref a0)]) H hq (z_at.mk 3 rfl rfl) rfl (zIn_all (l := [60, 70]) (p := fun a => zQ a 13 1 (100 + a + 2)) rfl ha0) rfl rfl ?_
  refine r_p hq 1 (pc' := 5) (L' := [(0, .ref a0)]) (st' := [.int ((0 : Int32)), .ref (a0 + 2)]) rfl ?_
  refine r_la (pc' := 6) (L' := [(0, .ref a0)]) H hq (z_at.mk 1 rfl rfl) (zIn_all (l := [60, 70]) (p := fun a => zAr (a + 2) 1 60) rfl ha0) (rfl : (0 : Int32).toInt = 0) ⟨by decide, by decide⟩ rfl rfl ?_
  intro V_5 hV_5
  refine r_p hq 3 (pc' := 9) (L' := [(0, .ref a0), (1, .long V_5), (3, .int ((1 : Int32)))]) (st' := []) rfl ?_
  exact g_fi_mostWorth_L9_ok ha0 zK hV_5 (rfl : (1 : Int32).toInt = 1) H h
def g_fi_difference (y0 : Int) (y2 : Int) (σ : zS) : Option (Int × zS) :=
  if 0 ≤ lCmp (w64 (y0 - y2)) 0 then
    some (w64 (y0 - y2), σ)
  else
    some (-9223372036854775807, σ)
set_option maxHeartbeats 4000000 in
theorem g_fi_difference_ok {xl : Nat} {xs : Nat → Int32} {Y0 : Int64} {y0 : Int} (hy0 : Y0.toInt = y0) {Y2 : Int64} {y2 : Int} (hy2 : Y2.toInt = y2) {σ : zS} {p : Nat} {m : zM} {o : Int × zS} (H : zRep xl xs p m σ) (h : g_fi_difference y0 y2 σ = some o) : zGo xl xs (fun p' => p = p') 1 54 0 (z_can 54 0 (lv_args 0 [.long Y0, .long Y2])) [] m (vL o.1) o.2 := by
  have hq : z_mth 54 = some z_r54 := rfl
  unfold g_fi_difference at h
  show zGo xl xs (fun p' => p = p') 1 54 0 [(0, .long Y0), (2, .long Y2)] [] m (vL o.1) o.2
  refine r_p hq 5 (pc' := 5) (L' := [(0, .long Y0), (2, .long Y2)]) (st' := [.int (lg_cmp (Y0 - Y2) ((0 : Int64)))]) rfl ?_
  rcases z_ite h with ⟨c_5, h⟩ | ⟨c_5, h⟩
  · refine r_t1 (pc' := 14) (L' := [(0, .long Y0), (2, .long Y2)]) hq (z_at.mk 3 rfl rfl) rfl (tx_lcmp (tx_lsub hy0 hy2) (rfl : (0 : Int64).toInt = 0)) c_5 rfl rfl ?_
    refine r_p hq 3 (pc' := 17) (L' := []) (st' := [.long (Y0 - Y2)]) rfl ?_
    cases h
    exact r_rl hq (z_at.mk 1 rfl rfl) rfl (tx_lsub hy0 hy2) rfl H
  · refine r_f1 (pc' := 8) (L' := [(0, .long Y0), (2, .long Y2)]) hq (z_at.mk 3 rfl rfl) rfl (tx_lcmp (tx_lsub hy0 hy2) (rfl : (0 : Int64).toInt = 0)) c_5 rfl rfl ?_
    refine r_p hq 2 (pc' := 17) (L' := []) (st' := [.long ((-9223372036854775807 : Int64))]) rfl ?_
    cases h
    exact r_rl hq (z_at.mk 1 rfl rfl) rfl (rfl : (-9223372036854775807 : Int64).toInt = -9223372036854775807) rfl H
def g_fi_kinds_L63 (a0 : Nat) (g4 : Int → Int → zS → Option (Int × zS)) (x1 : Int) (x2 : Int) (σ : zS) : Option (Int × zS) :=
  g4 x1 (w32 (x2 + 1)) σ
set_option maxHeartbeats 4000000 in
theorem g_fi_kinds_L63_ok {xl : Nat} {xs : Nat → Int32} {a0 : Nat} (ha0 : zIn [60, 70] a0 = true) {g4 : Int → Int → zS → Option (Int × zS)} (hg4 : ∀ {X1 : Int32} {x1 : Int} {X2 : Int32} {x2 : Int} {σ : zS} {p : Nat} {m : zM} {o : Int × zS}, X1.toInt = x1 → X2.toInt = x2 → zRep xl xs p m σ → g4 x1 x2 σ = some o → zGo xl xs (fun p' => p = p') 1 55 4 [(0, .ref a0), (1, .int X1), (2, .int X2)] [] m (vI o.1) o.2) {X1 : Int32} {x1 : Int} (hx1 : X1.toInt = x1) {X2 : Int32} {x2 : Int} (hx2 : X2.toInt = x2) {σ : zS} {p : Nat} {m : zM} {o : Int × zS} (H : zRep xl xs p m σ) (h : g_fi_kinds_L63 a0 g4 x1 x2 σ = some o) : zGo xl xs (fun p' => p = p') 1 55 63 [(0, .ref a0), (1, .int X1), (2, .int X2)] [] m (vI o.1) o.2 := by
  have hq : z_mth 55 = some z_r55 := rfl
  unfold g_fi_kinds_L63 at h
  refine r_p hq 2 (pc' := 4) (L' := [(0, .ref a0), (1, .int X1), (2, .int (X2 + (1 : Int32)))]) (st' := []) rfl ?_
  exact hg4 hx1 (tx_iadd hx2 (rfl : (1 : Int32).toInt = 1)) H h
def g_fi_kinds_L56 (a0 : Nat) (g4 : Int → Int → zS → Option (Int × zS)) (x1 : Int) (x2 : Int) (x3 : Int) (σ : zS) : Option (Int × zS) :=
  if x3 = 0 then
    g_fi_kinds_L63 a0 g4 x1 x2 σ
  else
    g_fi_kinds_L63 a0 g4 (w32 (x1 + 1)) x2 σ
set_option maxHeartbeats 4000000 in
theorem g_fi_kinds_L56_ok {xl : Nat} {xs : Nat → Int32} {a0 : Nat} (ha0 : zIn [60, 70] a0 = true) {g4 : Int → Int → zS → Option (Int × zS)} (hg4 : ∀ {X1 : Int32} {x1 : Int} {X2 : Int32} {x2 : Int} {σ : zS} {p : Nat} {m : zM} {o : Int × zS}, X1.toInt = x1 → X2.toInt = x2 → zRep xl xs p m σ → g4 x1 x2 σ = some o → zGo xl xs (fun p' => p = p') 1 55 4 [(0, .ref a0), (1, .int X1), (2, .int X2)] [] m (vI o.1) o.2) {X1 : Int32} {x1 : Int} (hx1 : X1.toInt = x1) {X2 : Int32} {x2 : Int} (hx2 : X2.toInt = x2) {X3 : Int32} {x3 : Int} (hx3 : X3.toInt = x3) {σ : zS} {p : Nat} {m : zM} {o : Int × zS} (H : zRep xl xs p m σ) (h : g_fi_kinds_L56 a0 g4 x1 x2 x3 σ = some o) : zGo xl xs (fun p' => p = p') 1 55 56 [(0, .ref a0), (1, .int X1), (2, .int X2), (3, .int X3)] [] m (vI o.1) o.2 := by
  have hq : z_mth 55 = some z_r55 := rfl
  unfold g_fi_kinds_L56 at h
  refine r_p hq 1 (pc' := 57) (L' := [(0, .ref a0), (1, .int X1), (2, .int X2), (3, .int X3)]) (st' := [.int X3]) rfl ?_
  rcases z_ite h with ⟨c_57, h⟩ | ⟨c_57, h⟩
  · refine r_t1 (pc' := 63) (L' := [(0, .ref a0), (1, .int X1), (2, .int X2)]) hq (z_at.mk 3 rfl rfl) rfl hx3 c_57 rfl rfl ?_
    exact g_fi_kinds_L63_ok ha0 hg4 hx1 hx2 H h
  · refine r_f1 (pc' := 60) (L' := [(0, .ref a0), (1, .int X1), (2, .int X2), (3, .int X3)]) hq (z_at.mk 3 rfl rfl) rfl hx3 c_57 rfl rfl ?_
    refine r_p hq 1 (pc' := 63) (L' := [(0, .ref a0), (1, .int (X1 + (1 : Int32))), (2, .int X2)]) (st' := []) rfl ?_
    exact g_fi_kinds_L63_ok ha0 hg4 (tx_iadd hx1 (rfl : (1 : Int32).toInt = 1)) hx2 H h
def g_fi_kinds_L49 (a0 : Nat) (g17 : Int → Int → Int → Int → zS → Option (Int × zS)) (x1 : Int) (x2 : Int) (x4 : Int) (xs0 : Int) (σ : zS) : Option (Int × zS) :=
  g17 x1 x2 xs0 (w32 (x4 + 1)) σ
set_option maxHeartbeats 4000000 in
theorem g_fi_kinds_L49_ok {xl : Nat} {xs : Nat → Int32} {a0 : Nat} (ha0 : zIn [60, 70] a0 = true) {g17 : Int → Int → Int → Int → zS → Option (Int × zS)} (hg17 : ∀ {X1 : Int32} {x1 : Int} {X2 : Int32} {x2 : Int} {X3 : Int32} {x3 : Int} {X4 : Int32} {x4 : Int} {σ : zS} {p : Nat} {m : zM} {o : Int × zS}, X1.toInt = x1 → X2.toInt = x2 → X3.toInt = x3 → X4.toInt = x4 → zRep xl xs p m σ → g17 x1 x2 x3 x4 σ = some o → zGo xl xs (fun p' => p = p') 1 55 17 [(0, .ref a0), (1, .int X1), (2, .int X2), (3, .int X3), (4, .int X4)] [] m (vI o.1) o.2) {X1 : Int32} {x1 : Int} (hx1 : X1.toInt = x1) {X2 : Int32} {x2 : Int} (hx2 : X2.toInt = x2) {X4 : Int32} {x4 : Int} (hx4 : X4.toInt = x4) {Xs0 : Int32} {xs0 : Int} (hxs0 : Xs0.toInt = xs0) {σ : zS} {p : Nat} {m : zM} {o : Int × zS} (H : zRep xl xs p m σ) (h : g_fi_kinds_L49 a0 g17 x1 x2 x4 xs0 σ = some o) : zGo xl xs (fun p' => p = p') 1 55 49 [(0, .ref a0), (1, .int X1), (2, .int X2), (4, .int X4)] [.int Xs0] m (vI o.1) o.2 := by
  have hq : z_mth 55 = some z_r55 := rfl
  unfold g_fi_kinds_L49 at h
  refine r_p hq 3 (pc' := 17) (L' := [(0, .ref a0), (1, .int X1), (2, .int X2), (3, .int Xs0), (4, .int (X4 + (1 : Int32)))]) (st' := []) rfl ?_
  exact hg17 hx1 hx2 hxs0 (tx_iadd hx4 (rfl : (1 : Int32).toInt = 1)) H h
def g_fi_kinds_L17 (a0 : Nat) (g4 : Int → Int → zS → Option (Int × zS)) : Nat → Int → Int → Int → Int → zS → Option (Int × zS)
  | 0, _, _, _, _, _ => none
  | n + 1, x1, x2, x3, x4, σ =>
    if x2 ≤ x4 then
      g_fi_kinds_L56 a0 g4 x1 x2 x3 σ
    else
      if x3 = 0 then
        g_fi_kinds_L56 a0 g4 x1 x2 x3 σ
      else
        if 0 ≤ x4 ∧ x4 < 60 then
        let v_33 := σ (a0 + 2) x4
        if 0 ≤ x2 ∧ x2 < 60 then
        let v_39 := σ (a0 + 2) x2
        if lCmp v_33 v_39 = 0 then
          g_fi_kinds_L49 a0 ((g_fi_kinds_L17 a0 g4 n)) x1 x2 x4 0 σ
        else
          g_fi_kinds_L49 a0 ((g_fi_kinds_L17 a0 g4 n)) x1 x2 x4 1 σ
        else none
        else none
set_option maxHeartbeats 4000000 in
theorem g_fi_kinds_L17_ok {xl : Nat} {xs : Nat → Int32} {a0 : Nat} (ha0 : zIn [60, 70] a0 = true) {g4 : Int → Int → zS → Option (Int × zS)} (hg4 : ∀ {X1 : Int32} {x1 : Int} {X2 : Int32} {x2 : Int} {σ : zS} {p : Nat} {m : zM} {o : Int × zS}, X1.toInt = x1 → X2.toInt = x2 → zRep xl xs p m σ → g4 x1 x2 σ = some o → zGo xl xs (fun p' => p = p') 1 55 4 [(0, .ref a0), (1, .int X1), (2, .int X2)] [] m (vI o.1) o.2) : ∀ (n : Nat) {X1 : Int32} {x1 : Int} {X2 : Int32} {x2 : Int} {X3 : Int32} {x3 : Int} {X4 : Int32} {x4 : Int} {σ : zS} {p : Nat} {m : zM} {o : Int × zS}, X1.toInt = x1 → X2.toInt = x2 → X3.toInt = x3 → X4.toInt = x4 → zRep xl xs p m σ → g_fi_kinds_L17 a0 g4 n x1 x2 x3 x4 σ = some o → zGo xl xs (fun p' => p = p') 1 55 17 [(0, .ref a0), (1, .int X1), (2, .int X2), (3, .int X3), (4, .int X4)] [] m (vI o.1) o.2
  | 0, _, _, _, _, _, _, _, _, _, _, _, _, _, _, _, _, _, h => by cases h
  | n + 1, X1, x1, X2, x2, X3, x3, X4, x4, σ, p, m, o, hx1, hx2, hx3, hx4, H, h => by
    have hq : z_mth 55 = some z_r55 := rfl
    have ih := fun {X1 : Int32} {x1 : Int} {X2 : Int32} {x2 : Int} {X3 : Int32} {x3 : Int} {X4 : Int32} {x4 : Int} {σ : zS} {p : Nat} {m : zM} {o : Int × zS} => g_fi_kinds_L17_ok (xl := xl) (xs := xs) ha0 hg4 n (X1 := X1) (x1 := x1) (X2 := X2) (x2 := x2) (X3 := X3) (x3 := x3) (X4 := X4) (x4 := x4) (σ := σ) (p := p) (m := m) (o := o)
    unfold g_fi_kinds_L17 at h
    refine r_p hq 2 (pc' := 20) (L' := [(0, .ref a0), (1, .int X1), (2, .int X2), (3, .int X3), (4, .int X4)]) (st' := [.int X2, .int X4]) rfl ?_
    rcases z_ite h with ⟨c_20, h⟩ | ⟨c_20, h⟩
    · refine r_t2 (pc' := 56) (L' := [(0, .ref a0), (1, .int X1), (2, .int X2), (3, .int X3)]) hq (z_at.mk 3 rfl rfl) rfl hx4 hx2 c_20 rfl rfl ?_
      exact g_fi_kinds_L56_ok ha0 hg4 hx1 hx2 hx3 H h
    · refine r_f2 (pc' := 23) (L' := [(0, .ref a0), (1, .int X1), (2, .int X2), (3, .int X3), (4, .int X4)]) hq (z_at.mk 3 rfl rfl) rfl hx4 hx2 c_20 rfl rfl ?_
      refine r_p hq 1 (pc' := 24) (L' := [(0, .ref a0), (1, .int X1), (2, .int X2), (3, .int X3), (4, .int X4)]) (st' := [.int X3]) rfl ?_
      rcases z_ite h with ⟨c_24, h⟩ | ⟨c_24, h⟩
      · refine r_t1 (pc' := 56) (L' := [(0, .ref a0), (1, .int X1), (2, .int X2), (3, .int X3)]) hq (z_at.mk 3 rfl rfl) rfl hx3 c_24 rfl rfl ?_
        exact g_fi_kinds_L56_ok ha0 hg4 hx1 hx2 hx3 H h
      · refine r_f1 (pc' := 27) (L' := [(0, .ref a0), (1, .int X1), (2, .int X2), (3, .int X3), (4, .int X4)]) hq (z_at.mk 3 rfl rfl) rfl hx3 c_24 rfl rfl ?_
        refine r_p hq 1 (pc' := 28) (L' := [(0, .ref a0), (1, .int X1), (2, .int X2), (3, .int X3), (4, .int X4)]) (st' := [.ref a0]) rfl ?_
        refine r_gR (b := a0 + 2) (pc' := 31) (L' := [(0, .ref a0), (1, .int X1), (2, .int X2), (3, .int X3), (4, .int X4)]) H hq (z_at.mk 3 rfl rfl) rfl (zIn_all (l := [60, 70]) (p := fun a => zQ a 13 1 (100 + a + 2)) rfl ha0) rfl rfl ?_
        refine r_p hq 1 (pc' := 33) (L' := [(0, .ref a0), (1, .int X1), (2, .int X2), (3, .int X3), (4, .int X4)]) (st' := [.int X4, .ref (a0 + 2)]) rfl ?_
        obtain ⟨g_33, h⟩ := z_ifo_some h
        refine r_la (pc' := 34) (L' := [(0, .ref a0), (1, .int X1), (2, .int X2), (3, .int X3), (4, .int X4)]) H hq (z_at.mk 1 rfl rfl) (zIn_all (l := [60, 70]) (p := fun a => zAr (a + 2) 1 60) rfl ha0) hx4 g_33 rfl rfl ?_
        intro V_33 hV_33
        refine r_p hq 1 (pc' := 35) (L' := [(0, .ref a0), (1, .int X1), (2, .int X2), (3, .int X3), (4, .int X4)]) (st' := [.ref a0, .long V_33]) rfl ?_
        refine r_gR (b := a0 + 2) (pc' := 38) (L' := [(0, .ref a0), (1, .int X1), (2, .int X2), (3, .int X3), (4, .int X4)]) H hq (z_at.mk 3 rfl rfl) rfl (zIn_all (l := [60, 70]) (p := fun a => zQ a 13 1 (100 + a + 2)) rfl ha0) rfl rfl ?_
        refine r_p hq 1 (pc' := 39) (L' := [(0, .ref a0), (1, .int X1), (2, .int X2), (3, .int X3), (4, .int X4)]) (st' := [.int X2, .ref (a0 + 2), .long V_33]) rfl ?_
        obtain ⟨g_39, h⟩ := z_ifo_some h
        refine r_la (pc' := 40) (L' := [(0, .ref a0), (1, .int X1), (2, .int X2), (3, .int X3), (4, .int X4)]) H hq (z_at.mk 1 rfl rfl) (zIn_all (l := [60, 70]) (p := fun a => zAr (a + 2) 1 60) rfl ha0) hx2 g_39 rfl rfl ?_
        intro V_39 hV_39
        refine r_p hq 1 (pc' := 41) (L' := [(0, .ref a0), (1, .int X1), (2, .int X2), (3, .int X3), (4, .int X4)]) (st' := [.int (lg_cmp V_33 V_39)]) rfl ?_
        rcases z_ite h with ⟨c_41, h⟩ | ⟨c_41, h⟩
        · refine r_t1 (pc' := 48) (L' := [(0, .ref a0), (1, .int X1), (2, .int X2), (3, .int X3), (4, .int X4)]) hq (z_at.mk 3 rfl rfl) rfl (tx_lcmp hV_33 hV_39) c_41 rfl rfl ?_
          refine r_p hq 1 (pc' := 49) (L' := [(0, .ref a0), (1, .int X1), (2, .int X2), (4, .int X4)]) (st' := [.int ((0 : Int32))]) rfl ?_
          exact g_fi_kinds_L49_ok ha0 ih hx1 hx2 hx4 (rfl : (0 : Int32).toInt = 0) H h
        · refine r_f1 (pc' := 44) (L' := [(0, .ref a0), (1, .int X1), (2, .int X2), (3, .int X3), (4, .int X4)]) hq (z_at.mk 3 rfl rfl) rfl (tx_lcmp hV_33 hV_39) c_41 rfl rfl ?_
          refine r_p hq 2 (pc' := 49) (L' := [(0, .ref a0), (1, .int X1), (2, .int X2), (4, .int X4)]) (st' := [.int ((1 : Int32))]) rfl ?_
          exact g_fi_kinds_L49_ok ha0 ih hx1 hx2 hx4 (rfl : (1 : Int32).toInt = 1) H h
def g_fi_kinds_L4 (a0 : Nat) : Nat → Int → Int → zS → Option (Int × zS)
  | 0, _, _, _ => none
  | n + 1, x1, x2, σ =>
    let v_6 := σ a0 2
    if v_6 ≤ x2 then
      some (x1, σ)
    else
      g_fi_kinds_L17 a0 ((g_fi_kinds_L4 a0 n)) zK x1 x2 1 0 σ
set_option maxHeartbeats 4000000 in
theorem g_fi_kinds_L4_ok {xl : Nat} {xs : Nat → Int32} {a0 : Nat} (ha0 : zIn [60, 70] a0 = true) : ∀ (n : Nat) {X1 : Int32} {x1 : Int} {X2 : Int32} {x2 : Int} {σ : zS} {p : Nat} {m : zM} {o : Int × zS}, X1.toInt = x1 → X2.toInt = x2 → zRep xl xs p m σ → g_fi_kinds_L4 a0 n x1 x2 σ = some o → zGo xl xs (fun p' => p = p') 1 55 4 [(0, .ref a0), (1, .int X1), (2, .int X2)] [] m (vI o.1) o.2
  | 0, _, _, _, _, _, _, _, _, _, _, _, h => by cases h
  | n + 1, X1, x1, X2, x2, σ, p, m, o, hx1, hx2, H, h => by
    have hq : z_mth 55 = some z_r55 := rfl
    have ih := fun {X1 : Int32} {x1 : Int} {X2 : Int32} {x2 : Int} {σ : zS} {p : Nat} {m : zM} {o : Int × zS} => g_fi_kinds_L4_ok (xl := xl) (xs := xs) ha0 n (X1 := X1) (x1 := x1) (X2 := X2) (x2 := x2) (σ := σ) (p := p) (m := m) (o := o)
    unfold g_fi_kinds_L4 at h
    refine r_p hq 2 (pc' := 6) (L' := [(0, .ref a0), (1, .int X1), (2, .int X2)]) (st' := [.ref a0, .int X2]) rfl ?_
    refine r_gI (pc' := 9) (L' := [(0, .ref a0), (1, .int X1), (2, .int X2)]) H hq (z_at.mk 3 rfl rfl) rfl (zIn_all (l := [60, 70]) (p := fun a => zQ a 13 2 0) rfl ha0) rfl rfl ?_
    intro V_6 hV_6
    rcases z_ite h with ⟨c_9, h⟩ | ⟨c_9, h⟩
    · refine r_t2 (pc' := 69) (L' := [(0, .ref a0), (1, .int X1), (2, .int X2)]) hq (z_at.mk 3 rfl rfl) rfl hx2 hV_6 c_9 rfl rfl ?_
      refine r_p hq 1 (pc' := 70) (L' := [(0, .ref a0), (1, .int X1), (2, .int X2)]) (st' := [.int X1]) rfl ?_
      cases h
      exact r_ri hq (z_at.mk 1 rfl rfl) rfl rfl hx1 rfl H
    · refine r_f2 (pc' := 12) (L' := [(0, .ref a0), (1, .int X1), (2, .int X2)]) hq (z_at.mk 3 rfl rfl) rfl hx2 hV_6 c_9 rfl rfl ?_
      refine r_p hq 4 (pc' := 17) (L' := [(0, .ref a0), (1, .int X1), (2, .int X2), (3, .int ((1 : Int32))), (4, .int ((0 : Int32)))]) (st' := []) rfl ?_
      exact g_fi_kinds_L17_ok ha0 ih zK hx1 hx2 (rfl : (1 : Int32).toInt = 1) (rfl : (0 : Int32).toInt = 0) H h
def g_fi_kinds (a0 : Nat) (σ : zS) : Option (Int × zS) :=
  g_fi_kinds_L4 a0 zK 0 0 σ
set_option maxHeartbeats 4000000 in
theorem g_fi_kinds_ok {xl : Nat} {xs : Nat → Int32} {a0 : Nat} (ha0 : zIn [60, 70] a0 = true) {σ : zS} {p : Nat} {m : zM} {o : Int × zS} (H : zRep xl xs p m σ) (h : g_fi_kinds a0 σ = some o) : zGo xl xs (fun p' => p = p') 1 55 0 (z_can 55 0 (lv_args 0 [.ref a0])) [] m (vI o.1) o.2 := by
  have hq : z_mth 55 = some z_r55 := rfl
  unfold g_fi_kinds at h
  show zGo xl xs (fun p' => p = p') 1 55 0 [(0, .ref a0)] [] m (vI o.1) o.2
  refine r_p hq 4 (pc' := 4) (L' := [(0, .ref a0), (1, .int ((0 : Int32))), (2, .int ((0 : Int32)))]) (st' := []) rfl ?_
  exact g_fi_kinds_L4_ok ha0 zK (rfl : (0 : Int32).toInt = 0) (rfl : (0 : Int32).toInt = 0) H h
def g_fi_measured_L21 (a0 : Nat) (x1 : Int) (σ : zS) : Option (Int × zS) :=
  if x1 = 0 then
    let v_65 := σ a0 2
    some (v_65, σ)
  else
  if x1 = 1 then
    (g_fi_sum a0 σ).bind fun o_71 =>
    some (o_71.1, o_71.2)
  else
  if x1 = 2 then
    (g_fi_leastWorth a0 σ).bind fun o_76 =>
    some (o_76.1, o_76.2)
  else
  if x1 = 3 then
    (g_fi_mostWorth a0 σ).bind fun o_81 =>
    some (o_81.1, o_81.2)
  else
  if x1 = 4 then
    (g_fi_mean a0 σ).bind fun o_86 =>
    some (o_86.1, o_86.2)
  else
  if x1 = 5 then
    (g_fi_mostWorth a0 σ).bind fun o_91 =>
    (g_fi_leastWorth a0 o_91.2).bind fun o_95 =>
    (g_fi_difference o_91.1 o_95.1 o_95.2).bind fun o_98 =>
    some (o_98.1, o_98.2)
  else
  if x1 = 6 then
    (g_fi_kinds a0 σ).bind fun o_103 =>
    some (o_103.1, o_103.2)
  else
  some (-9223372036854775808, σ)
set_option maxHeartbeats 4000000 in
theorem g_fi_measured_L21_ok {xl : Nat} {xs : Nat → Int32} {a0 : Nat} (ha0 : zIn [60, 70] a0 = true) {X1 : Int32} {x1 : Int} (hx1 : X1.toInt = x1) {σ : zS} {p : Nat} {m : zM} {o : Int × zS} (H : zRep xl xs p m σ) (h : g_fi_measured_L21 a0 x1 σ = some o) : zGo xl xs (fun p' => p = p') 4 48 21 [(0, .ref a0), (1, .int X1)] [] m (vL o.1) o.2 := by
  have hq : z_mth 48 = some z_r48 := rfl
  unfold g_fi_measured_L21 at h
  refine r_p hq 1 (pc' := 22) (L' := [(0, .ref a0), (1, .int X1)]) (st' := [.int X1]) rfl ?_
  rcases z_ite h with ⟨c_22_0, h⟩ | ⟨c_22_0, h⟩
  · refine r_sw (off := 42) (pc' := 64) (L' := [(0, .ref a0), (1, .int X1)]) hq (z_at.mk 42 rfl rfl) (z_off_v (hx1.trans c_22_0) rfl) rfl rfl rfl ?_
    refine r_p hq 1 (pc' := 65) (L' := [(0, .ref a0), (1, .int X1)]) (st' := [.ref a0]) rfl ?_
    refine r_gI (pc' := 68) (L' := [(0, .ref a0), (1, .int X1)]) H hq (z_at.mk 3 rfl rfl) rfl (zIn_all (l := [60, 70]) (p := fun a => zQ a 13 2 0) rfl ha0) rfl rfl ?_
    intro V_65 hV_65
    refine r_p hq 1 (pc' := 69) (L' := [(0, .ref a0), (1, .int X1)]) (st' := [.long V_65.toInt64]) rfl ?_
    cases h
    exact r_rl hq (z_at.mk 1 rfl rfl) rfl (tx_i2l hV_65) rfl H
  rcases z_ite h with ⟨c_22_1, h⟩ | ⟨c_22_1, h⟩
  · refine r_sw (off := 48) (pc' := 70) (L' := [(0, .ref a0), (1, .int X1)]) hq (z_at.mk 42 rfl rfl) (z_off_v (hx1.trans c_22_1) rfl) rfl rfl rfl ?_
    refine r_p hq 1 (pc' := 71) (L' := [(0, .ref a0), (1, .int X1)]) (st' := [.ref a0]) rfl ?_
    obtain ⟨o_71, h_71, h⟩ := Option.bind_eq_some_iff.mp h
    refine r_cvL (pc' := 74) (L' := [(0, .ref a0), (1, .int X1)]) (Ps := []) (rest := []) hq (z_at.mk 3 rfl rfl) (Or.inl ⟨rfl, rfl⟩) rfl rfl (by decide) (by decide) rfl (Nat.not_lt.mpr (Nat.le_of_ble_eq_true rfl)) rfl rfl (z_cat_le 0 rfl (by decide)) (z_lgl_le 1 rfl (by decide)) (by decide) (H.tg (zIn_all (l := [60, 70]) (p := fun a => zT a 13) rfl ha0)) (by omega) (g_fi_sum_ok (zIn_all (l := [60, 70]) (p := fun a => zIn [60, 70] a) rfl ha0) H h_71) rfl rfl ?_
    intro R_71 m_71 p_71 e_71 hR_71 H_71
    subst e_71
    cases h
    exact r_rl hq (z_at.mk 1 rfl rfl) rfl hR_71 rfl H_71
  rcases z_ite h with ⟨c_22_2, h⟩ | ⟨c_22_2, h⟩
  · refine r_sw (off := 53) (pc' := 75) (L' := [(0, .ref a0), (1, .int X1)]) hq (z_at.mk 42 rfl rfl) (z_off_v (hx1.trans c_22_2) rfl) rfl rfl rfl ?_
    refine r_p hq 1 (pc' := 76) (L' := [(0, .ref a0), (1, .int X1)]) (st' := [.ref a0]) rfl ?_
    obtain ⟨o_76, h_76, h⟩ := Option.bind_eq_some_iff.mp h
    refine r_cvL (pc' := 79) (L' := [(0, .ref a0), (1, .int X1)]) (Ps := []) (rest := []) hq (z_at.mk 3 rfl rfl) (Or.inl ⟨rfl, rfl⟩) rfl rfl (by decide) (by decide) rfl (Nat.not_lt.mpr (Nat.le_of_ble_eq_true rfl)) rfl rfl (z_cat_le 0 rfl (by decide)) (z_lgl_le 1 rfl (by decide)) (by decide) (H.tg (zIn_all (l := [60, 70]) (p := fun a => zT a 13) rfl ha0)) (by omega) (g_fi_leastWorth_ok (zIn_all (l := [60, 70]) (p := fun a => zIn [60, 70] a) rfl ha0) H h_76) rfl rfl ?_
    intro R_76 m_76 p_76 e_76 hR_76 H_76
    subst e_76
    cases h
    exact r_rl hq (z_at.mk 1 rfl rfl) rfl hR_76 rfl H_76
  rcases z_ite h with ⟨c_22_3, h⟩ | ⟨c_22_3, h⟩
  · refine r_sw (off := 58) (pc' := 80) (L' := [(0, .ref a0), (1, .int X1)]) hq (z_at.mk 42 rfl rfl) (z_off_v (hx1.trans c_22_3) rfl) rfl rfl rfl ?_
    refine r_p hq 1 (pc' := 81) (L' := [(0, .ref a0), (1, .int X1)]) (st' := [.ref a0]) rfl ?_
    obtain ⟨o_81, h_81, h⟩ := Option.bind_eq_some_iff.mp h
    refine r_cvL (pc' := 84) (L' := [(0, .ref a0), (1, .int X1)]) (Ps := []) (rest := []) hq (z_at.mk 3 rfl rfl) (Or.inl ⟨rfl, rfl⟩) rfl rfl (by decide) (by decide) rfl (Nat.not_lt.mpr (Nat.le_of_ble_eq_true rfl)) rfl rfl (z_cat_le 0 rfl (by decide)) (z_lgl_le 1 rfl (by decide)) (by decide) (H.tg (zIn_all (l := [60, 70]) (p := fun a => zT a 13) rfl ha0)) (by omega) (g_fi_mostWorth_ok (zIn_all (l := [60, 70]) (p := fun a => zIn [60, 70] a) rfl ha0) H h_81) rfl rfl ?_
    intro R_81 m_81 p_81 e_81 hR_81 H_81
    subst e_81
    cases h
    exact r_rl hq (z_at.mk 1 rfl rfl) rfl hR_81 rfl H_81
  rcases z_ite h with ⟨c_22_4, h⟩ | ⟨c_22_4, h⟩
  · refine r_sw (off := 63) (pc' := 85) (L' := [(0, .ref a0), (1, .int X1)]) hq (z_at.mk 42 rfl rfl) (z_off_v (hx1.trans c_22_4) rfl) rfl rfl rfl ?_
    refine r_p hq 1 (pc' := 86) (L' := [(0, .ref a0), (1, .int X1)]) (st' := [.ref a0]) rfl ?_
    obtain ⟨o_86, h_86, h⟩ := Option.bind_eq_some_iff.mp h
    refine r_cvL (pc' := 89) (L' := [(0, .ref a0), (1, .int X1)]) (Ps := []) (rest := []) hq (z_at.mk 3 rfl rfl) (Or.inl ⟨rfl, rfl⟩) rfl rfl (by decide) (by decide) rfl (Nat.not_lt.mpr (Nat.le_of_ble_eq_true rfl)) rfl rfl (z_cat_le 0 rfl (by decide)) (z_lgl_le 1 rfl (by decide)) (by decide) (H.tg (zIn_all (l := [60, 70]) (p := fun a => zT a 13) rfl ha0)) (by omega) (g_fi_mean_ok (zIn_all (l := [60, 70]) (p := fun a => zIn [60, 70] a) rfl ha0) H h_86) rfl rfl ?_
    intro R_86 m_86 p_86 e_86 hR_86 H_86
    subst e_86
    cases h
    exact r_rl hq (z_at.mk 1 rfl rfl) rfl hR_86 rfl H_86
  rcases z_ite h with ⟨c_22_5, h⟩ | ⟨c_22_5, h⟩
  · refine r_sw (off := 68) (pc' := 90) (L' := [(0, .ref a0), (1, .int X1)]) hq (z_at.mk 42 rfl rfl) (z_off_v (hx1.trans c_22_5) rfl) rfl rfl rfl ?_
    refine r_p hq 1 (pc' := 91) (L' := [(0, .ref a0), (1, .int X1)]) (st' := [.ref a0]) rfl ?_
    obtain ⟨o_91, h_91, h⟩ := Option.bind_eq_some_iff.mp h
    refine r_cvL (pc' := 94) (L' := [(0, .ref a0), (1, .int X1)]) (Ps := []) (rest := []) hq (z_at.mk 3 rfl rfl) (Or.inl ⟨rfl, rfl⟩) rfl rfl (by decide) (by decide) rfl (Nat.not_lt.mpr (Nat.le_of_ble_eq_true rfl)) rfl rfl (z_cat_le 0 rfl (by decide)) (z_lgl_le 1 rfl (by decide)) (by decide) (H.tg (zIn_all (l := [60, 70]) (p := fun a => zT a 13) rfl ha0)) (by omega) (g_fi_mostWorth_ok (zIn_all (l := [60, 70]) (p := fun a => zIn [60, 70] a) rfl ha0) H h_91) rfl rfl ?_
    intro R_91 m_91 p_91 e_91 hR_91 H_91
    subst e_91
    refine r_p hq 1 (pc' := 95) (L' := [(0, .ref a0), (1, .int X1)]) (st' := [.ref a0, .long R_91]) rfl ?_
    obtain ⟨o_95, h_95, h⟩ := Option.bind_eq_some_iff.mp h
    refine r_cvL (pc' := 98) (L' := [(0, .ref a0), (1, .int X1)]) (Ps := []) (rest := [.long R_91]) hq (z_at.mk 3 rfl rfl) (Or.inl ⟨rfl, rfl⟩) rfl rfl (by decide) (by decide) rfl (Nat.not_lt.mpr (Nat.le_of_ble_eq_true rfl)) rfl rfl (z_cat_le 2 rfl (by decide)) (z_lgl_le 1 rfl (by decide)) (by decide) (H_91.tg (zIn_all (l := [60, 70]) (p := fun a => zT a 13) rfl ha0)) (by omega) (g_fi_leastWorth_ok (zIn_all (l := [60, 70]) (p := fun a => zIn [60, 70] a) rfl ha0) H_91 h_95) rfl rfl ?_
    intro R_95 m_95 p_95 e_95 hR_95 H_95
    subst e_95
    obtain ⟨o_98, h_98, h⟩ := Option.bind_eq_some_iff.mp h
    refine r_csL (pc' := 101) (L' := [(0, .ref a0), (1, .int X1)]) (As := [.long R_91, .long R_95]) (rest := []) (j := 54) hq (z_at.mk 3 rfl rfl) (Or.inl ⟨rfl, rfl⟩) rfl rfl (by omega) (g_fi_difference_ok hR_91 hR_95 H_95 h_98) rfl rfl ?_
    intro R_98 m_98 p_98 e_98 hR_98 H_98
    subst e_98
    cases h
    exact r_rl hq (z_at.mk 1 rfl rfl) rfl hR_98 rfl H_98
  rcases z_ite h with ⟨c_22_6, h⟩ | ⟨c_22_6, h⟩
  · refine r_sw (off := 80) (pc' := 102) (L' := [(0, .ref a0), (1, .int X1)]) hq (z_at.mk 42 rfl rfl) (z_off_v (hx1.trans c_22_6) rfl) rfl rfl rfl ?_
    refine r_p hq 1 (pc' := 103) (L' := [(0, .ref a0), (1, .int X1)]) (st' := [.ref a0]) rfl ?_
    obtain ⟨o_103, h_103, h⟩ := Option.bind_eq_some_iff.mp h
    refine r_cvI (pc' := 106) (L' := [(0, .ref a0), (1, .int X1)]) (Ps := []) (rest := []) hq (z_at.mk 3 rfl rfl) (Or.inl ⟨rfl, rfl⟩) rfl rfl (by decide) (by decide) rfl (Nat.not_lt.mpr (Nat.le_of_ble_eq_true rfl)) rfl rfl (z_cat_le 0 rfl (by decide)) (z_lgl_le 1 rfl (by decide)) (by decide) (H.tg (zIn_all (l := [60, 70]) (p := fun a => zT a 13) rfl ha0)) (by omega) (g_fi_kinds_ok (zIn_all (l := [60, 70]) (p := fun a => zIn [60, 70] a) rfl ha0) H h_103) rfl rfl ?_
    intro R_103 m_103 p_103 e_103 hR_103 H_103
    subst e_103
    refine r_p hq 1 (pc' := 107) (L' := [(0, .ref a0), (1, .int X1)]) (st' := [.long R_103.toInt64]) rfl ?_
    cases h
    exact r_rl hq (z_at.mk 1 rfl rfl) rfl (tx_i2l hR_103) rfl H_103
  have hx_22 : X1.toInt = x1 := hx1
  refine r_sw (off := 86) (pc' := 108) (L' := [(0, .ref a0), (1, .int X1)]) hq (z_at.mk 42 rfl rfl) (z_off_out (by omega)) rfl rfl rfl ?_
  refine r_p hq 1 (pc' := 111) (L' := [(0, .ref a0), (1, .int X1)]) (st' := [.long ((-9223372036854775808 : Int64))]) rfl ?_
  cases h
  exact r_rl hq (z_at.mk 1 rfl rfl) rfl (rfl : (-9223372036854775808 : Int64).toInt = -9223372036854775808) rfl H
def g_fi_measured (a0 : Nat) (x1 : Int) (σ : zS) : Option (Int × zS) :=
  let v_1 := σ a0 2
  if v_1 ≠ 0 then
    g_fi_measured_L21 a0 x1 σ
  else
    if x1 < 2 then
      g_fi_measured_L21 a0 x1 σ
    else
      if 5 < x1 then
        g_fi_measured_L21 a0 x1 σ
      else
        some (-9223372036854775808, σ)
set_option maxHeartbeats 4000000 in
theorem g_fi_measured_ok {xl : Nat} {xs : Nat → Int32} {a0 : Nat} (ha0 : zIn [60, 70] a0 = true) {X1 : Int32} {x1 : Int} (hx1 : X1.toInt = x1) {σ : zS} {p : Nat} {m : zM} {o : Int × zS} (H : zRep xl xs p m σ) (h : g_fi_measured a0 x1 σ = some o) : zGo xl xs (fun p' => p = p') 4 48 0 (z_can 48 0 (lv_args 0 [.ref a0, .int X1])) [] m (vL o.1) o.2 := by
  have hq : z_mth 48 = some z_r48 := rfl
  unfold g_fi_measured at h
  show zGo xl xs (fun p' => p = p') 4 48 0 [(0, .ref a0), (1, .int X1)] [] m (vL o.1) o.2
  refine r_p hq 1 (pc' := 1) (L' := [(0, .ref a0), (1, .int X1)]) (st' := [.ref a0]) rfl ?_
  refine r_gI (pc' := 4) (L' := [(0, .ref a0), (1, .int X1)]) H hq (z_at.mk 3 rfl rfl) rfl (zIn_all (l := [60, 70]) (p := fun a => zQ a 13 2 0) rfl ha0) rfl rfl ?_
  intro V_1 hV_1
  rcases z_ite h with ⟨c_4, h⟩ | ⟨c_4, h⟩
  · refine r_t1 (pc' := 21) (L' := [(0, .ref a0), (1, .int X1)]) hq (z_at.mk 3 rfl rfl) rfl hV_1 c_4 rfl rfl ?_
    exact g_fi_measured_L21_ok ha0 hx1 H h
  · refine r_f1 (pc' := 7) (L' := [(0, .ref a0), (1, .int X1)]) hq (z_at.mk 3 rfl rfl) rfl hV_1 c_4 rfl rfl ?_
    refine r_p hq 2 (pc' := 9) (L' := [(0, .ref a0), (1, .int X1)]) (st' := [.int ((2 : Int32)), .int X1]) rfl ?_
    rcases z_ite h with ⟨c_9, h⟩ | ⟨c_9, h⟩
    · refine r_t2 (pc' := 21) (L' := [(0, .ref a0), (1, .int X1)]) hq (z_at.mk 3 rfl rfl) rfl hx1 (rfl : (2 : Int32).toInt = 2) c_9 rfl rfl ?_
      exact g_fi_measured_L21_ok ha0 hx1 H h
    · refine r_f2 (pc' := 12) (L' := [(0, .ref a0), (1, .int X1)]) hq (z_at.mk 3 rfl rfl) rfl hx1 (rfl : (2 : Int32).toInt = 2) c_9 rfl rfl ?_
      refine r_p hq 2 (pc' := 14) (L' := [(0, .ref a0), (1, .int X1)]) (st' := [.int ((5 : Int32)), .int X1]) rfl ?_
      rcases z_ite h with ⟨c_14, h⟩ | ⟨c_14, h⟩
      · refine r_t2 (pc' := 21) (L' := [(0, .ref a0), (1, .int X1)]) hq (z_at.mk 3 rfl rfl) rfl hx1 (rfl : (5 : Int32).toInt = 5) c_14 rfl rfl ?_
        exact g_fi_measured_L21_ok ha0 hx1 H h
      · refine r_f2 (pc' := 17) (L' := [(0, .ref a0), (1, .int X1)]) hq (z_at.mk 3 rfl rfl) rfl hx1 (rfl : (5 : Int32).toInt = 5) c_14 rfl rfl ?_
        refine r_p hq 1 (pc' := 20) (L' := [(0, .ref a0), (1, .int X1)]) (st' := [.long ((-9223372036854775808 : Int64))]) rfl ?_
        cases h
        exact r_rl hq (z_at.mk 1 rfl rfl) rfl (rfl : (-9223372036854775808 : Int64).toInt = -9223372036854775808) rfl H
def g_fi_copyFrom (a0 : Nat) (a1 : Nat) (σ : zS) : Option (Unit × zS) :=
  let s_12 := zcp σ (a1 + 1) 0 (a0 + 1) 0 60
  let s_27 := zcp s_12 (a1 + 2) 0 (a0 + 2) 0 60
  let v_32 := s_27 a1 2
  let s_35 := zu s_27 a0 2 v_32
  some ((), s_35)
set_option maxHeartbeats 4000000 in
theorem g_fi_copyFrom_ok {xl : Nat} {xs : Nat → Int32} {a0 : Nat} (ha0 : zIn [60, 93] a0 = true) {a1 : Nat} (ha1 : zIn [60, 93] a1 = true) {σ : zS} {p : Nat} {m : zM} {o : Unit × zS} (H : zRep xl xs p m σ) (h : g_fi_copyFrom a0 a1 σ = some o) : zGo xl xs (fun p' => p = p') 1 56 0 (z_can 56 0 (lv_args 0 [.ref a0, .ref a1])) [] m vV o.2 := by
  have hq : z_mth 56 = some z_r56 := rfl
  unfold g_fi_copyFrom at h
  show zGo xl xs (fun p' => p = p') 1 56 0 [(0, .ref a0), (1, .ref a1)] [] m vV o.2
  refine r_p hq 1 (pc' := 1) (L' := [(0, .ref a0), (1, .ref a1)]) (st' := [.ref a1]) rfl ?_
  refine r_gR (b := a1 + 1) (pc' := 4) (L' := [(0, .ref a0), (1, .ref a1)]) H hq (z_at.mk 3 rfl rfl) rfl (zIn_all (l := [60, 93]) (p := fun a => zQ a 13 0 (100 + a + 1)) rfl ha1) rfl rfl ?_
  refine r_p hq 2 (pc' := 6) (L' := [(0, .ref a0), (1, .ref a1)]) (st' := [.ref a0, .int ((0 : Int32)), .ref (a1 + 1)]) rfl ?_
  refine r_gR (b := a0 + 1) (pc' := 9) (L' := [(0, .ref a0), (1, .ref a1)]) H hq (z_at.mk 3 rfl rfl) rfl (zIn_all (l := [60, 93]) (p := fun a => zQ a 13 0 (100 + a + 1)) rfl ha0) rfl rfl ?_
  refine r_p hq 2 (pc' := 12) (L' := [(0, .ref a0), (1, .ref a1)]) (st' := [.int ((60 : Int32)), .int ((0 : Int32)), .ref (a0 + 1), .int ((0 : Int32)), .ref (a1 + 1)]) rfl ?_
  refine r_cp (t := 0) (pc' := 15) (L' := [(0, .ref a0), (1, .ref a1)]) H hq (z_at.mk 3 rfl rfl) rfl (by decide) (by decide) (zIn_all (l := [60, 93]) (p := fun a => zAr (a + 1) 0 60) rfl ha1) (zIn_all (l := [60, 93]) (p := fun a => zAr (a + 1) 0 60) rfl ha0) (rfl : (0 : Int32).toInt = 0) (rfl : (0 : Int32).toInt = 0) (rfl : (60 : Int32).toInt = 60) (by decide) rfl rfl ?_
  intro m_12 H_12
  refine r_p hq 1 (pc' := 16) (L' := [(0, .ref a0), (1, .ref a1)]) (st' := [.ref a1]) rfl ?_
  refine r_gR (b := a1 + 2) (pc' := 19) (L' := [(0, .ref a0), (1, .ref a1)]) H_12 hq (z_at.mk 3 rfl rfl) rfl (zIn_all (l := [60, 93]) (p := fun a => zQ a 13 1 (100 + a + 2)) rfl ha1) rfl rfl ?_
  refine r_p hq 2 (pc' := 21) (L' := [(0, .ref a0), (1, .ref a1)]) (st' := [.ref a0, .int ((0 : Int32)), .ref (a1 + 2)]) rfl ?_
  refine r_gR (b := a0 + 2) (pc' := 24) (L' := [(0, .ref a0), (1, .ref a1)]) H_12 hq (z_at.mk 3 rfl rfl) rfl (zIn_all (l := [60, 93]) (p := fun a => zQ a 13 1 (100 + a + 2)) rfl ha0) rfl rfl ?_
  refine r_p hq 2 (pc' := 27) (L' := [(0, .ref a0), (1, .ref a1)]) (st' := [.int ((60 : Int32)), .int ((0 : Int32)), .ref (a0 + 2), .int ((0 : Int32)), .ref (a1 + 2)]) rfl ?_
  refine r_cp (t := 1) (pc' := 30) (L' := [(0, .ref a0), (1, .ref a1)]) H_12 hq (z_at.mk 3 rfl rfl) rfl (by decide) (by decide) (zIn_all (l := [60, 93]) (p := fun a => zAr (a + 2) 1 60) rfl ha1) (zIn_all (l := [60, 93]) (p := fun a => zAr (a + 2) 1 60) rfl ha0) (rfl : (0 : Int32).toInt = 0) (rfl : (0 : Int32).toInt = 0) (rfl : (60 : Int32).toInt = 60) (by decide) rfl rfl ?_
  intro m_27 H_27
  refine r_p hq 2 (pc' := 32) (L' := [(0, .ref a0), (1, .ref a1)]) (st' := [.ref a1, .ref a0]) rfl ?_
  refine r_gI (pc' := 35) (L' := [(0, .ref a0), (1, .ref a1)]) H_27 hq (z_at.mk 3 rfl rfl) rfl (zIn_all (l := [60, 93]) (p := fun a => zQ a 13 2 0) rfl ha1) rfl rfl ?_
  intro V_32 hV_32
  refine r_pI (X := V_32) (pc' := 38) (L' := [(0, .ref a0), (1, .ref a1)]) H_27 hq (z_at.mk 3 rfl rfl) rfl (zIn_all (l := [60, 93]) (p := fun a => zQ a 13 2 0) rfl ha0) hV_32 (by decide) rfl rfl rfl rfl ?_
  intro m_35 H_35
  cases h
  exact r_rv hq (z_at.mk 1 rfl rfl) rfl rfl H_35
def g_li_isList (x0 : Int) (σ : zS) : Option (Int × zS) :=
  if x0 < 0 then
    some (0, σ)
  else
    if 6 ≤ x0 then
      some (0, σ)
    else
      some (1, σ)
set_option maxHeartbeats 4000000 in
theorem g_li_isList_ok {xl : Nat} {xs : Nat → Int32} {X0 : Int32} {x0 : Int} (hx0 : X0.toInt = x0) {σ : zS} {p : Nat} {m : zM} {o : Int × zS} (H : zRep xl xs p m σ) (h : g_li_isList x0 σ = some o) : zGo xl xs (fun p' => p = p') 1 58 0 (z_can 58 0 (lv_args 0 [.int X0])) [] m (vI o.1) o.2 := by
  have hq : z_mth 58 = some z_r58 := rfl
  unfold g_li_isList at h
  show zGo xl xs (fun p' => p = p') 1 58 0 [(0, .int X0)] [] m (vI o.1) o.2
  refine r_p hq 1 (pc' := 1) (L' := [(0, .int X0)]) (st' := [.int X0]) rfl ?_
  rcases z_ite h with ⟨c_1, h⟩ | ⟨c_1, h⟩
  · refine r_t1 (pc' := 14) (L' := []) hq (z_at.mk 3 rfl rfl) rfl hx0 c_1 rfl rfl ?_
    refine r_p hq 1 (pc' := 15) (L' := []) (st' := [.int ((0 : Int32))]) rfl ?_
    cases h
    exact r_ri hq (z_at.mk 1 rfl rfl) rfl rfl (rfl : (0 : Int32).toInt = 0) rfl H
  · refine r_f1 (pc' := 4) (L' := [(0, .int X0)]) hq (z_at.mk 3 rfl rfl) rfl hx0 c_1 rfl rfl ?_
    refine r_p hq 2 (pc' := 7) (L' := [(0, .int X0)]) (st' := [.int ((6 : Int32)), .int X0]) rfl ?_
    rcases z_ite h with ⟨c_7, h⟩ | ⟨c_7, h⟩
    · refine r_t2 (pc' := 14) (L' := []) hq (z_at.mk 3 rfl rfl) rfl hx0 (rfl : (6 : Int32).toInt = 6) c_7 rfl rfl ?_
      refine r_p hq 1 (pc' := 15) (L' := []) (st' := [.int ((0 : Int32))]) rfl ?_
      cases h
      exact r_ri hq (z_at.mk 1 rfl rfl) rfl rfl (rfl : (0 : Int32).toInt = 0) rfl H
    · refine r_f2 (pc' := 10) (L' := [(0, .int X0)]) hq (z_at.mk 3 rfl rfl) rfl hx0 (rfl : (6 : Int32).toInt = 6) c_7 rfl rfl ?_
      refine r_p hq 2 (pc' := 15) (L' := []) (st' := [.int ((1 : Int32))]) rfl ?_
      cases h
      exact r_ri hq (z_at.mk 1 rfl rfl) rfl rfl (rfl : (1 : Int32).toInt = 1) rfl H
def g_li_refusal (x1 : Int) (σ : zS) : Option (Int × zS) :=
  (g_li_isList x1 σ).bind fun o_1 =>
  if o_1.1 ≠ 0 then
    if 0 ≤ x1 ∧ x1 < 6 then
    let v_14 := o_1.2 142 x1
    if 0 ≤ v_14 then
      some (0, o_1.2)
    else
      some (-11, o_1.2)
    else none
  else
    some (-1, o_1.2)
set_option maxHeartbeats 4000000 in
theorem g_li_refusal_ok {xl : Nat} {xs : Nat → Int32} {X1 : Int32} {x1 : Int} (hx1 : X1.toInt = x1) {σ : zS} {p : Nat} {m : zM} {o : Int × zS} (H : zRep xl xs p m σ) (h : g_li_refusal x1 σ = some o) : zGo xl xs (fun p' => p = p') 2 59 0 (z_can 59 0 (lv_args 0 [.ref 134, .int X1])) [] m (vI o.1) o.2 := by
  have hq : z_mth 59 = some z_r59 := rfl
  unfold g_li_refusal at h
  show zGo xl xs (fun p' => p = p') 2 59 0 [(0, .ref 134), (1, .int X1)] [] m (vI o.1) o.2
  refine r_p hq 1 (pc' := 1) (L' := [(0, .ref 134), (1, .int X1)]) (st' := [.int X1]) rfl ?_
  obtain ⟨o_1, h_1, h⟩ := Option.bind_eq_some_iff.mp h
  refine r_csI (pc' := 4) (L' := [(0, .ref 134), (1, .int X1)]) (As := [.int X1]) (rest := []) (j := 58) hq (z_at.mk 3 rfl rfl) (Or.inl ⟨rfl, rfl⟩) rfl rfl (by omega) (g_li_isList_ok hx1 H h_1) rfl rfl ?_
  intro R_1 m_1 p_1 e_1 hR_1 H_1
  subst e_1
  rcases z_ite h with ⟨c_4, h⟩ | ⟨c_4, h⟩
  · refine r_t1 (pc' := 9) (L' := [(0, .ref 134), (1, .int X1)]) hq (z_at.mk 3 rfl rfl) rfl hR_1 c_4 rfl rfl ?_
    refine r_p hq 1 (pc' := 10) (L' := [(0, .ref 134), (1, .int X1)]) (st' := [.ref 134]) rfl ?_
    refine r_gR (b := 142) (pc' := 13) (L' := [(0, .ref 134), (1, .int X1)]) H_1 hq (z_at.mk 3 rfl rfl) rfl rfl rfl rfl ?_
    refine r_p hq 1 (pc' := 14) (L' := [(0, .ref 134), (1, .int X1)]) (st' := [.int X1, .ref 142]) rfl ?_
    obtain ⟨g_14, h⟩ := z_ifo_some h
    refine r_ia (pc' := 15) (L' := [(0, .ref 134), (1, .int X1)]) H_1 hq (z_at.mk 1 rfl rfl) (show zAr 142 0 6 = true from rfl) hx1 g_14 rfl rfl ?_
    intro V_14 hV_14
    rcases z_ite h with ⟨c_15, h⟩ | ⟨c_15, h⟩
    · refine r_t1 (pc' := 23) (L' := [(0, .ref 134), (1, .int X1)]) hq (z_at.mk 3 rfl rfl) rfl hV_14 c_15 rfl rfl ?_
      refine r_p hq 1 (pc' := 24) (L' := []) (st' := [.int ((0 : Int32))]) rfl ?_
      cases h
      exact r_ri hq (z_at.mk 1 rfl rfl) rfl rfl (rfl : (0 : Int32).toInt = 0) rfl H_1
    · refine r_f1 (pc' := 18) (L' := [(0, .ref 134), (1, .int X1)]) hq (z_at.mk 3 rfl rfl) rfl hV_14 c_15 rfl rfl ?_
      refine r_p hq 2 (pc' := 24) (L' := []) (st' := [.int ((-11 : Int32))]) rfl ?_
      cases h
      exact r_ri hq (z_at.mk 1 rfl rfl) rfl rfl (rfl : (-11 : Int32).toInt = -11) rfl H_1
  · refine r_f1 (pc' := 7) (L' := [(0, .ref 134), (1, .int X1)]) hq (z_at.mk 3 rfl rfl) rfl hR_1 c_4 rfl rfl ?_
    refine r_p hq 1 (pc' := 8) (L' := [(0, .ref 134), (1, .int X1)]) (st' := [.int ((-1 : Int32))]) rfl ?_
    cases h
    exact r_ri hq (z_at.mk 1 rfl rfl) rfl rfl (rfl : (-1 : Int32).toInt = -1) rfl H_1
def g_li_make_L27 : Nat → Int → Int → Int → zS → Option (Unit × zS)
  | 0, _, _, _, _ => none
  | n + 1, x1, x2, x3, σ =>
    if x2 ≤ x3 then
      some ((), σ)
    else
      if 0 ≤ x1 ∧ x1 < 6 then
      let A_37 := 136 + (x1).toNat
      if 0 ≤ x3 ∧ x3 < 60 then
      let s_40 := zu σ A_37 x3 0
      (g_li_make_L27 n) x1 x2 (w32 (x3 + 1)) s_40
      else none
      else none
set_option maxHeartbeats 4000000 in
theorem g_li_make_L27_ok {xl : Nat} {xs : Nat → Int32} : ∀ (n : Nat) {X1 : Int32} {x1 : Int} {X2 : Int32} {x2 : Int} {X3 : Int32} {x3 : Int} {σ : zS} {p : Nat} {m : zM} {o : Unit × zS}, X1.toInt = x1 → X2.toInt = x2 → X3.toInt = x3 → zRep xl xs p m σ → g_li_make_L27 n x1 x2 x3 σ = some o → zGo xl xs (fun p' => p = p') 2 60 27 [(0, .ref 134), (1, .int X1), (2, .int X2), (3, .int X3)] [] m vV o.2
  | 0, _, _, _, _, _, _, _, _, _, _, _, _, _, _, h => by cases h
  | n + 1, X1, x1, X2, x2, X3, x3, σ, p, m, o, hx1, hx2, hx3, H, h => by
    have hq : z_mth 60 = some z_r60 := rfl
    have ih := fun {X1 : Int32} {x1 : Int} {X2 : Int32} {x2 : Int} {X3 : Int32} {x3 : Int} {σ : zS} {p : Nat} {m : zM} {o : Unit × zS} => g_li_make_L27_ok (xl := xl) (xs := xs) n (X1 := X1) (x1 := x1) (X2 := X2) (x2 := x2) (X3 := X3) (x3 := x3) (σ := σ) (p := p) (m := m) (o := o)
    unfold g_li_make_L27 at h
    refine r_p hq 2 (pc' := 29) (L' := [(0, .ref 134), (1, .int X1), (2, .int X2), (3, .int X3)]) (st' := [.int X2, .int X3]) rfl ?_
    rcases z_ite h with ⟨c_29, h⟩ | ⟨c_29, h⟩
    · refine r_t2 (pc' := 47) (L' := [(0, .ref 134), (1, .int X1), (2, .int X2), (3, .int X3)]) hq (z_at.mk 3 rfl rfl) rfl hx3 hx2 c_29 rfl rfl ?_
      cases h
      exact r_rv hq (z_at.mk 1 rfl rfl) rfl rfl H
    · refine r_f2 (pc' := 32) (L' := [(0, .ref 134), (1, .int X1), (2, .int X2), (3, .int X3)]) hq (z_at.mk 3 rfl rfl) rfl hx3 hx2 c_29 rfl rfl ?_
      refine r_p hq 1 (pc' := 33) (L' := [(0, .ref 134), (1, .int X1), (2, .int X2), (3, .int X3)]) (st' := [.ref 134]) rfl ?_
      refine r_gR (b := 135) (pc' := 36) (L' := [(0, .ref 134), (1, .int X1), (2, .int X2), (3, .int X3)]) H hq (z_at.mk 3 rfl rfl) rfl rfl rfl rfl ?_
      refine r_p hq 1 (pc' := 37) (L' := [(0, .ref 134), (1, .int X1), (2, .int X2), (3, .int X3)]) (st' := [.int X1, .ref 135]) rfl ?_
      obtain ⟨g_37, h⟩ := z_ifo_some h
      refine r_aa (pc' := 38) (L' := [(0, .ref 134), (1, .int X1), (2, .int X2), (3, .int X3)]) H hq (z_at.mk 1 rfl rfl) hx1 g_37 rfl rfl ?_
      intro A_37 hE_37 hA_37
      rw [← hE_37] at h
      refine r_p hq 2 (pc' := 40) (L' := [(0, .ref 134), (1, .int X1), (2, .int X2), (3, .int X3)]) (st' := [.long ((0 : Int64)), .int X3, .ref A_37]) rfl ?_
      obtain ⟨g_40, h⟩ := z_ifo_some h
      refine r_ls (pc' := 41) (L' := [(0, .ref 134), (1, .int X1), (2, .int X2), (3, .int X3)]) H hq (z_at.mk 1 rfl rfl) (zIn_all (l := [136, 137, 138, 139, 140, 141]) (p := fun a => zAr a 1 60) rfl hA_37) hx3 g_40 (rfl : (0 : Int64).toInt = 0) rfl rfl ?_
      intro m_40 H_40
      refine r_p hq 2 (pc' := 27) (L' := [(0, .ref 134), (1, .int X1), (2, .int X2), (3, .int (X3 + (1 : Int32)))]) (st' := []) rfl ?_
      exact ih hx1 hx2 (tx_iadd hx3 (rfl : (1 : Int32).toInt = 1)) H_40 h
def g_li_make (x1 : Int) (x2 : Int) (σ : zS) : Option (Unit × zS) :=
  (g_li_isList x1 σ).bind fun o_1 =>
  if o_1.1 = 0 then
    some ((), o_1.2)
  else
    if x2 < 0 then
      some ((), o_1.2)
    else
      if x2 ≤ 60 then
        if 0 ≤ x1 ∧ x1 < 6 then
        let s_24 := zu o_1.2 142 x1 x2
        g_li_make_L27 zK x1 x2 0 s_24
        else none
      else
        some ((), o_1.2)
set_option maxHeartbeats 4000000 in
theorem g_li_make_ok {xl : Nat} {xs : Nat → Int32} {X1 : Int32} {x1 : Int} (hx1 : X1.toInt = x1) {X2 : Int32} {x2 : Int} (hx2 : X2.toInt = x2) {σ : zS} {p : Nat} {m : zM} {o : Unit × zS} (H : zRep xl xs p m σ) (h : g_li_make x1 x2 σ = some o) : zGo xl xs (fun p' => p = p') 2 60 0 (z_can 60 0 (lv_args 0 [.ref 134, .int X1, .int X2])) [] m vV o.2 := by
  have hq : z_mth 60 = some z_r60 := rfl
  unfold g_li_make at h
  show zGo xl xs (fun p' => p = p') 2 60 0 [(0, .ref 134), (1, .int X1), (2, .int X2)] [] m vV o.2
  refine r_p hq 1 (pc' := 1) (L' := [(0, .ref 134), (1, .int X1), (2, .int X2)]) (st' := [.int X1]) rfl ?_
  obtain ⟨o_1, h_1, h⟩ := Option.bind_eq_some_iff.mp h
  refine r_csI (pc' := 4) (L' := [(0, .ref 134), (1, .int X1), (2, .int X2)]) (As := [.int X1]) (rest := []) (j := 58) hq (z_at.mk 3 rfl rfl) (Or.inl ⟨rfl, rfl⟩) rfl rfl (by omega) (g_li_isList_ok hx1 H h_1) rfl rfl ?_
  intro R_1 m_1 p_1 e_1 hR_1 H_1
  subst e_1
  rcases z_ite h with ⟨c_4, h⟩ | ⟨c_4, h⟩
  · refine r_t1 (pc' := 17) (L' := []) hq (z_at.mk 3 rfl rfl) rfl hR_1 c_4 rfl rfl ?_
    cases h
    exact r_rv hq (z_at.mk 1 rfl rfl) rfl rfl H_1
  · refine r_f1 (pc' := 7) (L' := [(0, .ref 134), (1, .int X1), (2, .int X2)]) hq (z_at.mk 3 rfl rfl) rfl hR_1 c_4 rfl rfl ?_
    refine r_p hq 1 (pc' := 8) (L' := [(0, .ref 134), (1, .int X1), (2, .int X2)]) (st' := [.int X2]) rfl ?_
    rcases z_ite h with ⟨c_8, h⟩ | ⟨c_8, h⟩
    · refine r_t1 (pc' := 17) (L' := []) hq (z_at.mk 3 rfl rfl) rfl hx2 c_8 rfl rfl ?_
      cases h
      exact r_rv hq (z_at.mk 1 rfl rfl) rfl rfl H_1
    · refine r_f1 (pc' := 11) (L' := [(0, .ref 134), (1, .int X1), (2, .int X2)]) hq (z_at.mk 3 rfl rfl) rfl hx2 c_8 rfl rfl ?_
      refine r_p hq 2 (pc' := 14) (L' := [(0, .ref 134), (1, .int X1), (2, .int X2)]) (st' := [.int ((60 : Int32)), .int X2]) rfl ?_
      rcases z_ite h with ⟨c_14, h⟩ | ⟨c_14, h⟩
      · refine r_t2 (pc' := 18) (L' := [(0, .ref 134), (1, .int X1), (2, .int X2)]) hq (z_at.mk 3 rfl rfl) rfl hx2 (rfl : (60 : Int32).toInt = 60) c_14 rfl rfl ?_
        refine r_p hq 1 (pc' := 19) (L' := [(0, .ref 134), (1, .int X1), (2, .int X2)]) (st' := [.ref 134]) rfl ?_
        refine r_gR (b := 142) (pc' := 22) (L' := [(0, .ref 134), (1, .int X1), (2, .int X2)]) H_1 hq (z_at.mk 3 rfl rfl) rfl rfl rfl rfl ?_
        refine r_p hq 2 (pc' := 24) (L' := [(0, .ref 134), (1, .int X1), (2, .int X2)]) (st' := [.int X2, .int X1, .ref 142]) rfl ?_
        obtain ⟨g_24, h⟩ := z_ifo_some h
        refine r_is (pc' := 25) (L' := [(0, .ref 134), (1, .int X1), (2, .int X2)]) H_1 hq (z_at.mk 1 rfl rfl) (show zAr 142 0 6 = true from rfl) hx1 g_24 hx2 rfl rfl ?_
        intro m_24 H_24
        refine r_p hq 2 (pc' := 27) (L' := [(0, .ref 134), (1, .int X1), (2, .int X2), (3, .int ((0 : Int32)))]) (st' := []) rfl ?_
        exact g_li_make_L27_ok zK hx1 hx2 (rfl : (0 : Int32).toInt = 0) H_24 h
      · refine r_f2 (pc' := 17) (L' := []) hq (z_at.mk 3 rfl rfl) rfl hx2 (rfl : (60 : Int32).toInt = 60) c_14 rfl rfl ?_
        cases h
        exact r_rv hq (z_at.mk 1 rfl rfl) rfl rfl H_1
def g_li_hasPlace (x1 : Int) (x2 : Int) (σ : zS) : Option (Int × zS) :=
  (g_li_isList x1 σ).bind fun o_1 =>
  if o_1.1 = 0 then
    some (0, o_1.2)
  else
    if x2 < 0 then
      some (0, o_1.2)
    else
      if 0 ≤ x1 ∧ x1 < 6 then
      let v_17 := o_1.2 142 x1
      if v_17 ≤ x2 then
        some (0, o_1.2)
      else
        if 60 ≤ x2 then
          some (0, o_1.2)
        else
          some (1, o_1.2)
      else none
set_option maxHeartbeats 4000000 in
theorem g_li_hasPlace_ok {xl : Nat} {xs : Nat → Int32} {X1 : Int32} {x1 : Int} (hx1 : X1.toInt = x1) {X2 : Int32} {x2 : Int} (hx2 : X2.toInt = x2) {σ : zS} {p : Nat} {m : zM} {o : Int × zS} (H : zRep xl xs p m σ) (h : g_li_hasPlace x1 x2 σ = some o) : zGo xl xs (fun p' => p = p') 2 61 0 (z_can 61 0 (lv_args 0 [.ref 134, .int X1, .int X2])) [] m (vI o.1) o.2 := by
  have hq : z_mth 61 = some z_r61 := rfl
  unfold g_li_hasPlace at h
  show zGo xl xs (fun p' => p = p') 2 61 0 [(0, .ref 134), (1, .int X1), (2, .int X2)] [] m (vI o.1) o.2
  refine r_p hq 1 (pc' := 1) (L' := [(0, .ref 134), (1, .int X1), (2, .int X2)]) (st' := [.int X1]) rfl ?_
  obtain ⟨o_1, h_1, h⟩ := Option.bind_eq_some_iff.mp h
  refine r_csI (pc' := 4) (L' := [(0, .ref 134), (1, .int X1), (2, .int X2)]) (As := [.int X1]) (rest := []) (j := 58) hq (z_at.mk 3 rfl rfl) (Or.inl ⟨rfl, rfl⟩) rfl rfl (by omega) (g_li_isList_ok hx1 H h_1) rfl rfl ?_
  intro R_1 m_1 p_1 e_1 hR_1 H_1
  subst e_1
  rcases z_ite h with ⟨c_4, h⟩ | ⟨c_4, h⟩
  · refine r_t1 (pc' := 31) (L' := []) hq (z_at.mk 3 rfl rfl) rfl hR_1 c_4 rfl rfl ?_
    refine r_p hq 1 (pc' := 32) (L' := []) (st' := [.int ((0 : Int32))]) rfl ?_
    cases h
    exact r_ri hq (z_at.mk 1 rfl rfl) rfl rfl (rfl : (0 : Int32).toInt = 0) rfl H_1
  · refine r_f1 (pc' := 7) (L' := [(0, .ref 134), (1, .int X1), (2, .int X2)]) hq (z_at.mk 3 rfl rfl) rfl hR_1 c_4 rfl rfl ?_
    refine r_p hq 1 (pc' := 8) (L' := [(0, .ref 134), (1, .int X1), (2, .int X2)]) (st' := [.int X2]) rfl ?_
    rcases z_ite h with ⟨c_8, h⟩ | ⟨c_8, h⟩
    · refine r_t1 (pc' := 31) (L' := []) hq (z_at.mk 3 rfl rfl) rfl hx2 c_8 rfl rfl ?_
      refine r_p hq 1 (pc' := 32) (L' := []) (st' := [.int ((0 : Int32))]) rfl ?_
      cases h
      exact r_ri hq (z_at.mk 1 rfl rfl) rfl rfl (rfl : (0 : Int32).toInt = 0) rfl H_1
    · refine r_f1 (pc' := 11) (L' := [(0, .ref 134), (1, .int X1), (2, .int X2)]) hq (z_at.mk 3 rfl rfl) rfl hx2 c_8 rfl rfl ?_
      refine r_p hq 2 (pc' := 13) (L' := [(0, .ref 134), (1, .int X1), (2, .int X2)]) (st' := [.ref 134, .int X2]) rfl ?_
      refine r_gR (b := 142) (pc' := 16) (L' := [(0, .ref 134), (1, .int X1), (2, .int X2)]) H_1 hq (z_at.mk 3 rfl rfl) rfl rfl rfl rfl ?_
      refine r_p hq 1 (pc' := 17) (L' := [(0, .ref 134), (1, .int X1), (2, .int X2)]) (st' := [.int X1, .ref 142, .int X2]) rfl ?_
      obtain ⟨g_17, h⟩ := z_ifo_some h
      refine r_ia (pc' := 18) (L' := [(0, .ref 134), (1, .int X1), (2, .int X2)]) H_1 hq (z_at.mk 1 rfl rfl) (show zAr 142 0 6 = true from rfl) hx1 g_17 rfl rfl ?_
      intro V_17 hV_17
      rcases z_ite h with ⟨c_18, h⟩ | ⟨c_18, h⟩
      · refine r_t2 (pc' := 31) (L' := []) hq (z_at.mk 3 rfl rfl) rfl hx2 hV_17 c_18 rfl rfl ?_
        refine r_p hq 1 (pc' := 32) (L' := []) (st' := [.int ((0 : Int32))]) rfl ?_
        cases h
        exact r_ri hq (z_at.mk 1 rfl rfl) rfl rfl (rfl : (0 : Int32).toInt = 0) rfl H_1
      · refine r_f2 (pc' := 21) (L' := [(0, .ref 134), (1, .int X1), (2, .int X2)]) hq (z_at.mk 3 rfl rfl) rfl hx2 hV_17 c_18 rfl rfl ?_
        refine r_p hq 2 (pc' := 24) (L' := [(0, .ref 134), (1, .int X1), (2, .int X2)]) (st' := [.int ((60 : Int32)), .int X2]) rfl ?_
        rcases z_ite h with ⟨c_24, h⟩ | ⟨c_24, h⟩
        · refine r_t2 (pc' := 31) (L' := []) hq (z_at.mk 3 rfl rfl) rfl hx2 (rfl : (60 : Int32).toInt = 60) c_24 rfl rfl ?_
          refine r_p hq 1 (pc' := 32) (L' := []) (st' := [.int ((0 : Int32))]) rfl ?_
          cases h
          exact r_ri hq (z_at.mk 1 rfl rfl) rfl rfl (rfl : (0 : Int32).toInt = 0) rfl H_1
        · refine r_f2 (pc' := 27) (L' := [(0, .ref 134), (1, .int X1), (2, .int X2)]) hq (z_at.mk 3 rfl rfl) rfl hx2 (rfl : (60 : Int32).toInt = 60) c_24 rfl rfl ?_
          refine r_p hq 2 (pc' := 32) (L' := []) (st' := [.int ((1 : Int32))]) rfl ?_
          cases h
          exact r_ri hq (z_at.mk 1 rfl rfl) rfl rfl (rfl : (1 : Int32).toInt = 1) rfl H_1
def g_li_hasSpan (x1 : Int) (x2 : Int) (x3 : Int) (σ : zS) : Option (Int × zS) :=
  (g_li_isList x1 σ).bind fun o_1 =>
  if o_1.1 = 0 then
    some (0, o_1.2)
  else
    if x2 < 0 then
      some (0, o_1.2)
    else
      if x3 < 0 then
        some (0, o_1.2)
      else
        if 0 ≤ x1 ∧ x1 < 6 then
        let v_21 := o_1.2 142 x1
        if v_21 < x2 then
          some (0, o_1.2)
        else
          if 0 ≤ x1 ∧ x1 < 6 then
          let v_31 := o_1.2 142 x1
          if w32 (v_31 - x2) < x3 then
            some (0, o_1.2)
          else
            some (1, o_1.2)
          else none
        else none
set_option maxHeartbeats 4000000 in
theorem g_li_hasSpan_ok {xl : Nat} {xs : Nat → Int32} {X1 : Int32} {x1 : Int} (hx1 : X1.toInt = x1) {X2 : Int32} {x2 : Int} (hx2 : X2.toInt = x2) {X3 : Int32} {x3 : Int} (hx3 : X3.toInt = x3) {σ : zS} {p : Nat} {m : zM} {o : Int × zS} (H : zRep xl xs p m σ) (h : g_li_hasSpan x1 x2 x3 σ = some o) : zGo xl xs (fun p' => p = p') 2 62 0 (z_can 62 0 (lv_args 0 [.ref 134, .int X1, .int X2, .int X3])) [] m (vI o.1) o.2 := by
  have hq : z_mth 62 = some z_r62 := rfl
  unfold g_li_hasSpan at h
  show zGo xl xs (fun p' => p = p') 2 62 0 [(0, .ref 134), (1, .int X1), (2, .int X2), (3, .int X3)] [] m (vI o.1) o.2
  refine r_p hq 1 (pc' := 1) (L' := [(0, .ref 134), (1, .int X1), (2, .int X2), (3, .int X3)]) (st' := [.int X1]) rfl ?_
  obtain ⟨o_1, h_1, h⟩ := Option.bind_eq_some_iff.mp h
  refine r_csI (pc' := 4) (L' := [(0, .ref 134), (1, .int X1), (2, .int X2), (3, .int X3)]) (As := [.int X1]) (rest := []) (j := 58) hq (z_at.mk 3 rfl rfl) (Or.inl ⟨rfl, rfl⟩) rfl rfl (by omega) (g_li_isList_ok hx1 H h_1) rfl rfl ?_
  intro R_1 m_1 p_1 e_1 hR_1 H_1
  subst e_1
  rcases z_ite h with ⟨c_4, h⟩ | ⟨c_4, h⟩
  · refine r_t1 (pc' := 41) (L' := []) hq (z_at.mk 3 rfl rfl) rfl hR_1 c_4 rfl rfl ?_
    refine r_p hq 1 (pc' := 42) (L' := []) (st' := [.int ((0 : Int32))]) rfl ?_
    cases h
    exact r_ri hq (z_at.mk 1 rfl rfl) rfl rfl (rfl : (0 : Int32).toInt = 0) rfl H_1
  · refine r_f1 (pc' := 7) (L' := [(0, .ref 134), (1, .int X1), (2, .int X2), (3, .int X3)]) hq (z_at.mk 3 rfl rfl) rfl hR_1 c_4 rfl rfl ?_
    refine r_p hq 1 (pc' := 8) (L' := [(0, .ref 134), (1, .int X1), (2, .int X2), (3, .int X3)]) (st' := [.int X2]) rfl ?_
    rcases z_ite h with ⟨c_8, h⟩ | ⟨c_8, h⟩
    · refine r_t1 (pc' := 41) (L' := []) hq (z_at.mk 3 rfl rfl) rfl hx2 c_8 rfl rfl ?_
      refine r_p hq 1 (pc' := 42) (L' := []) (st' := [.int ((0 : Int32))]) rfl ?_
      cases h
      exact r_ri hq (z_at.mk 1 rfl rfl) rfl rfl (rfl : (0 : Int32).toInt = 0) rfl H_1
    · refine r_f1 (pc' := 11) (L' := [(0, .ref 134), (1, .int X1), (2, .int X2), (3, .int X3)]) hq (z_at.mk 3 rfl rfl) rfl hx2 c_8 rfl rfl ?_
      refine r_p hq 1 (pc' := 12) (L' := [(0, .ref 134), (1, .int X1), (2, .int X2), (3, .int X3)]) (st' := [.int X3]) rfl ?_
      rcases z_ite h with ⟨c_12, h⟩ | ⟨c_12, h⟩
      · refine r_t1 (pc' := 41) (L' := []) hq (z_at.mk 3 rfl rfl) rfl hx3 c_12 rfl rfl ?_
        refine r_p hq 1 (pc' := 42) (L' := []) (st' := [.int ((0 : Int32))]) rfl ?_
        cases h
        exact r_ri hq (z_at.mk 1 rfl rfl) rfl rfl (rfl : (0 : Int32).toInt = 0) rfl H_1
      · refine r_f1 (pc' := 15) (L' := [(0, .ref 134), (1, .int X1), (2, .int X2), (3, .int X3)]) hq (z_at.mk 3 rfl rfl) rfl hx3 c_12 rfl rfl ?_
        refine r_p hq 2 (pc' := 17) (L' := [(0, .ref 134), (1, .int X1), (2, .int X2), (3, .int X3)]) (st' := [.ref 134, .int X2]) rfl ?_
        refine r_gR (b := 142) (pc' := 20) (L' := [(0, .ref 134), (1, .int X1), (2, .int X2), (3, .int X3)]) H_1 hq (z_at.mk 3 rfl rfl) rfl rfl rfl rfl ?_
        refine r_p hq 1 (pc' := 21) (L' := [(0, .ref 134), (1, .int X1), (2, .int X2), (3, .int X3)]) (st' := [.int X1, .ref 142, .int X2]) rfl ?_
        obtain ⟨g_21, h⟩ := z_ifo_some h
        refine r_ia (pc' := 22) (L' := [(0, .ref 134), (1, .int X1), (2, .int X2), (3, .int X3)]) H_1 hq (z_at.mk 1 rfl rfl) (show zAr 142 0 6 = true from rfl) hx1 g_21 rfl rfl ?_
        intro V_21 hV_21
        rcases z_ite h with ⟨c_22, h⟩ | ⟨c_22, h⟩
        · refine r_t2 (pc' := 41) (L' := []) hq (z_at.mk 3 rfl rfl) rfl hx2 hV_21 c_22 rfl rfl ?_
          refine r_p hq 1 (pc' := 42) (L' := []) (st' := [.int ((0 : Int32))]) rfl ?_
          cases h
          exact r_ri hq (z_at.mk 1 rfl rfl) rfl rfl (rfl : (0 : Int32).toInt = 0) rfl H_1
        · refine r_f2 (pc' := 25) (L' := [(0, .ref 134), (1, .int X1), (2, .int X2), (3, .int X3)]) hq (z_at.mk 3 rfl rfl) rfl hx2 hV_21 c_22 rfl rfl ?_
          refine r_p hq 2 (pc' := 27) (L' := [(0, .ref 134), (1, .int X1), (2, .int X2), (3, .int X3)]) (st' := [.ref 134, .int X3]) rfl ?_
          refine r_gR (b := 142) (pc' := 30) (L' := [(0, .ref 134), (1, .int X1), (2, .int X2), (3, .int X3)]) H_1 hq (z_at.mk 3 rfl rfl) rfl rfl rfl rfl ?_
          refine r_p hq 1 (pc' := 31) (L' := [(0, .ref 134), (1, .int X1), (2, .int X2), (3, .int X3)]) (st' := [.int X1, .ref 142, .int X3]) rfl ?_
          obtain ⟨g_31, h⟩ := z_ifo_some h
          refine r_ia (pc' := 32) (L' := [(0, .ref 134), (1, .int X1), (2, .int X2), (3, .int X3)]) H_1 hq (z_at.mk 1 rfl rfl) (show zAr 142 0 6 = true from rfl) hx1 g_31 rfl rfl ?_
          intro V_31 hV_31
          refine r_p hq 2 (pc' := 34) (L' := [(0, .ref 134), (1, .int X1), (2, .int X2), (3, .int X3)]) (st' := [.int (V_31 - X2), .int X3]) rfl ?_
          rcases z_ite h with ⟨c_34, h⟩ | ⟨c_34, h⟩
          · refine r_t2 (pc' := 41) (L' := []) hq (z_at.mk 3 rfl rfl) rfl hx3 (tx_isub hV_31 hx2) c_34 rfl rfl ?_
            refine r_p hq 1 (pc' := 42) (L' := []) (st' := [.int ((0 : Int32))]) rfl ?_
            cases h
            exact r_ri hq (z_at.mk 1 rfl rfl) rfl rfl (rfl : (0 : Int32).toInt = 0) rfl H_1
          · refine r_f2 (pc' := 37) (L' := [(0, .ref 134), (1, .int X1), (2, .int X2), (3, .int X3)]) hq (z_at.mk 3 rfl rfl) rfl hx3 (tx_isub hV_31 hx2) c_34 rfl rfl ?_
            refine r_p hq 2 (pc' := 42) (L' := []) (st' := [.int ((1 : Int32))]) rfl ?_
            cases h
            exact r_ri hq (z_at.mk 1 rfl rfl) rfl rfl (rfl : (1 : Int32).toInt = 1) rfl H_1
def g_li_layFrom_L62 (σ : zS) : Option (Int × zS) :=
  let v_63 := σ 60 2
  some (v_63, σ)
set_option maxHeartbeats 4000000 in
theorem g_li_layFrom_L62_ok {xl : Nat} {xs : Nat → Int32} {σ : zS} {p : Nat} {m : zM} {o : Int × zS} (H : zRep xl xs p m σ) (h : g_li_layFrom_L62 σ = some o) : zGo xl xs (fun p' => p = p') 3 63 62 [(3, .ref 60)] [] m (vI o.1) o.2 := by
  have hq : z_mth 63 = some z_r63 := rfl
  unfold g_li_layFrom_L62 at h
  refine r_p hq 1 (pc' := 63) (L' := [(3, .ref 60)]) (st' := [.ref 60]) rfl ?_
  refine r_gI (pc' := 66) (L' := [(3, .ref 60)]) H hq (z_at.mk 3 rfl rfl) rfl rfl rfl rfl ?_
  intro V_63 hV_63
  cases h
  exact r_ri hq (z_at.mk 1 rfl rfl) rfl rfl hV_63 rfl H
def g_li_layFrom_L3 : Nat → Int → Int → Int → zS → Option (Int × zS)
  | 0, _, _, _, _ => none
  | n + 1, x1, x2, x4, σ =>
    let v_6 := σ 60 2
    if v_6 ≤ x4 then
      g_li_layFrom_L62 σ
    else
      if 60 ≤ x4 then
        g_li_layFrom_L62 σ
      else
        if x2 < 0 then
          some (-13, σ)
        else
          (g_li_hasPlace x1 (w32 (x2 + x4)) σ).bind fun o_29 =>
          if o_29.1 ≠ 0 then
            if 0 ≤ x1 ∧ x1 < 6 then
            let A_43 := 136 + (x1).toNat
            if 0 ≤ x4 ∧ x4 < 60 then
            let v_54 := o_29.2 62 x4
            if 0 ≤ w32 (x2 + x4) ∧ w32 (x2 + x4) < 60 then
            let s_55 := zu o_29.2 A_43 (w32 (x2 + x4)) v_54
            (g_li_layFrom_L3 n) x1 x2 (w32 (x4 + 1)) s_55
            else none
            else none
            else none
          else
            some (-13, o_29.2)
set_option maxHeartbeats 4000000 in
theorem g_li_layFrom_L3_ok {xl : Nat} {xs : Nat → Int32} : ∀ (n : Nat) {X1 : Int32} {x1 : Int} {X2 : Int32} {x2 : Int} {X4 : Int32} {x4 : Int} {σ : zS} {p : Nat} {m : zM} {o : Int × zS}, X1.toInt = x1 → X2.toInt = x2 → X4.toInt = x4 → zRep xl xs p m σ → g_li_layFrom_L3 n x1 x2 x4 σ = some o → zGo xl xs (fun p' => p = p') 3 63 3 [(0, .ref 134), (1, .int X1), (2, .int X2), (3, .ref 60), (4, .int X4)] [] m (vI o.1) o.2
  | 0, _, _, _, _, _, _, _, _, _, _, _, _, _, _, h => by cases h
  | n + 1, X1, x1, X2, x2, X4, x4, σ, p, m, o, hx1, hx2, hx4, H, h => by
    have hq : z_mth 63 = some z_r63 := rfl
    have ih := fun {X1 : Int32} {x1 : Int} {X2 : Int32} {x2 : Int} {X4 : Int32} {x4 : Int} {σ : zS} {p : Nat} {m : zM} {o : Int × zS} => g_li_layFrom_L3_ok (xl := xl) (xs := xs) n (X1 := X1) (x1 := x1) (X2 := X2) (x2 := x2) (X4 := X4) (x4 := x4) (σ := σ) (p := p) (m := m) (o := o)
    unfold g_li_layFrom_L3 at h
    refine r_p hq 2 (pc' := 6) (L' := [(0, .ref 134), (1, .int X1), (2, .int X2), (3, .ref 60), (4, .int X4)]) (st' := [.ref 60, .int X4]) rfl ?_
    refine r_gI (pc' := 9) (L' := [(0, .ref 134), (1, .int X1), (2, .int X2), (3, .ref 60), (4, .int X4)]) H hq (z_at.mk 3 rfl rfl) rfl rfl rfl rfl ?_
    intro V_6 hV_6
    rcases z_ite h with ⟨c_9, h⟩ | ⟨c_9, h⟩
    · refine r_t2 (pc' := 62) (L' := [(3, .ref 60)]) hq (z_at.mk 3 rfl rfl) rfl hx4 hV_6 c_9 rfl rfl ?_
      exact g_li_layFrom_L62_ok  H h
    · refine r_f2 (pc' := 12) (L' := [(0, .ref 134), (1, .int X1), (2, .int X2), (3, .ref 60), (4, .int X4)]) hq (z_at.mk 3 rfl rfl) rfl hx4 hV_6 c_9 rfl rfl ?_
      refine r_p hq 2 (pc' := 16) (L' := [(0, .ref 134), (1, .int X1), (2, .int X2), (3, .ref 60), (4, .int X4)]) (st' := [.int ((60 : Int32)), .int X4]) rfl ?_
      rcases z_ite h with ⟨c_16, h⟩ | ⟨c_16, h⟩
      · refine r_t2 (pc' := 62) (L' := [(3, .ref 60)]) hq (z_at.mk 3 rfl rfl) rfl hx4 (rfl : (60 : Int32).toInt = 60) c_16 rfl rfl ?_
        exact g_li_layFrom_L62_ok  H h
      · refine r_f2 (pc' := 19) (L' := [(0, .ref 134), (1, .int X1), (2, .int X2), (3, .ref 60), (4, .int X4)]) hq (z_at.mk 3 rfl rfl) rfl hx4 (rfl : (60 : Int32).toInt = 60) c_16 rfl rfl ?_
        refine r_p hq 1 (pc' := 20) (L' := [(0, .ref 134), (1, .int X1), (2, .int X2), (3, .ref 60), (4, .int X4)]) (st' := [.int X2]) rfl ?_
        rcases z_ite h with ⟨c_20, h⟩ | ⟨c_20, h⟩
        · refine r_t1 (pc' := 35) (L' := []) hq (z_at.mk 3 rfl rfl) rfl hx2 c_20 rfl rfl ?_
          refine r_p hq 1 (pc' := 37) (L' := []) (st' := [.int ((-13 : Int32))]) rfl ?_
          cases h
          exact r_ri hq (z_at.mk 1 rfl rfl) rfl rfl (rfl : (-13 : Int32).toInt = -13) rfl H
        · refine r_f1 (pc' := 23) (L' := [(0, .ref 134), (1, .int X1), (2, .int X2), (3, .ref 60), (4, .int X4)]) hq (z_at.mk 3 rfl rfl) rfl hx2 c_20 rfl rfl ?_
          refine r_p hq 5 (pc' := 29) (L' := [(0, .ref 134), (1, .int X1), (2, .int X2), (3, .ref 60), (4, .int X4)]) (st' := [.int (X2 + X4), .int X1, .ref 134]) rfl ?_
          obtain ⟨o_29, h_29, h⟩ := Option.bind_eq_some_iff.mp h
          refine r_cvI (pc' := 32) (L' := [(0, .ref 134), (1, .int X1), (2, .int X2), (3, .ref 60), (4, .int X4)]) (Ps := [.int X1, .int (X2 + X4)]) (rest := []) hq (z_at.mk 3 rfl rfl) (Or.inl ⟨rfl, rfl⟩) rfl rfl (by decide) (by decide) rfl (Nat.not_lt.mpr (Nat.le_of_ble_eq_true rfl)) rfl rfl (z_cat_le 0 rfl (by decide)) (z_lgl_le 3 rfl (by decide)) (by decide) (H.tg rfl) (by omega) (g_li_hasPlace_ok hx1 (tx_iadd hx2 hx4) H h_29) rfl rfl ?_
          intro R_29 m_29 p_29 e_29 hR_29 H_29
          subst e_29
          rcases z_ite h with ⟨c_32, h⟩ | ⟨c_32, h⟩
          · refine r_t1 (pc' := 38) (L' := [(0, .ref 134), (1, .int X1), (2, .int X2), (3, .ref 60), (4, .int X4)]) hq (z_at.mk 3 rfl rfl) rfl hR_29 c_32 rfl rfl ?_
            refine r_p hq 1 (pc' := 39) (L' := [(0, .ref 134), (1, .int X1), (2, .int X2), (3, .ref 60), (4, .int X4)]) (st' := [.ref 134]) rfl ?_
            refine r_gR (b := 135) (pc' := 42) (L' := [(0, .ref 134), (1, .int X1), (2, .int X2), (3, .ref 60), (4, .int X4)]) H_29 hq (z_at.mk 3 rfl rfl) rfl rfl rfl rfl ?_
            refine r_p hq 1 (pc' := 43) (L' := [(0, .ref 134), (1, .int X1), (2, .int X2), (3, .ref 60), (4, .int X4)]) (st' := [.int X1, .ref 135]) rfl ?_
            obtain ⟨g_43, h⟩ := z_ifo_some h
            refine r_aa (pc' := 44) (L' := [(0, .ref 134), (1, .int X1), (2, .int X2), (3, .ref 60), (4, .int X4)]) H_29 hq (z_at.mk 1 rfl rfl) hx1 g_43 rfl rfl ?_
            intro A_43 hE_43 hA_43
            rw [← hE_43] at h
            refine r_p hq 4 (pc' := 49) (L' := [(0, .ref 134), (1, .int X1), (2, .int X2), (3, .ref 60), (4, .int X4)]) (st' := [.ref 60, .int (X2 + X4), .ref A_43]) rfl ?_
            refine r_gR (b := 62) (pc' := 52) (L' := [(0, .ref 134), (1, .int X1), (2, .int X2), (3, .ref 60), (4, .int X4)]) H_29 hq (z_at.mk 3 rfl rfl) rfl rfl rfl rfl ?_
            refine r_p hq 1 (pc' := 54) (L' := [(0, .ref 134), (1, .int X1), (2, .int X2), (3, .ref 60), (4, .int X4)]) (st' := [.int X4, .ref 62, .int (X2 + X4), .ref A_43]) rfl ?_
            obtain ⟨g_54, h⟩ := z_ifo_some h
            refine r_la (pc' := 55) (L' := [(0, .ref 134), (1, .int X1), (2, .int X2), (3, .ref 60), (4, .int X4)]) H_29 hq (z_at.mk 1 rfl rfl) (show zAr 62 1 60 = true from rfl) hx4 g_54 rfl rfl ?_
            intro V_54 hV_54
            obtain ⟨g_55, h⟩ := z_ifo_some h
            refine r_ls (pc' := 56) (L' := [(0, .ref 134), (1, .int X1), (2, .int X2), (3, .ref 60), (4, .int X4)]) H_29 hq (z_at.mk 1 rfl rfl) (zIn_all (l := [136, 137, 138, 139, 140, 141]) (p := fun a => zAr a 1 60) rfl hA_43) (tx_iadd hx2 hx4) g_55 hV_54 rfl rfl ?_
            intro m_55 H_55
            refine r_p hq 2 (pc' := 3) (L' := [(0, .ref 134), (1, .int X1), (2, .int X2), (3, .ref 60), (4, .int (X4 + (1 : Int32)))]) (st' := []) rfl ?_
            exact ih hx1 hx2 (tx_iadd hx4 (rfl : (1 : Int32).toInt = 1)) H_55 h
          · refine r_f1 (pc' := 35) (L' := []) hq (z_at.mk 3 rfl rfl) rfl hR_29 c_32 rfl rfl ?_
            refine r_p hq 1 (pc' := 37) (L' := []) (st' := [.int ((-13 : Int32))]) rfl ?_
            cases h
            exact r_ri hq (z_at.mk 1 rfl rfl) rfl rfl (rfl : (-13 : Int32).toInt = -13) rfl H_29
def g_li_layFrom (x1 : Int) (x2 : Int) (σ : zS) : Option (Int × zS) :=
  g_li_layFrom_L3 zK x1 x2 0 σ
set_option maxHeartbeats 4000000 in
theorem g_li_layFrom_ok {xl : Nat} {xs : Nat → Int32} {X1 : Int32} {x1 : Int} (hx1 : X1.toInt = x1) {X2 : Int32} {x2 : Int} (hx2 : X2.toInt = x2) {σ : zS} {p : Nat} {m : zM} {o : Int × zS} (H : zRep xl xs p m σ) (h : g_li_layFrom x1 x2 σ = some o) : zGo xl xs (fun p' => p = p') 3 63 0 (z_can 63 0 (lv_args 0 [.ref 134, .int X1, .int X2, .ref 60])) [] m (vI o.1) o.2 := by
  have hq : z_mth 63 = some z_r63 := rfl
  unfold g_li_layFrom at h
  show zGo xl xs (fun p' => p = p') 3 63 0 [(0, .ref 134), (1, .int X1), (2, .int X2), (3, .ref 60)] [] m (vI o.1) o.2
  refine r_p hq 2 (pc' := 3) (L' := [(0, .ref 134), (1, .int X1), (2, .int X2), (3, .ref 60), (4, .int ((0 : Int32)))]) (st' := []) rfl ?_
  exact g_li_layFrom_L3_ok zK hx1 hx2 (rfl : (0 : Int32).toInt = 0) H h
def g_li_judgeFrom_L10 : Nat → Int → Int → Int → zS → Option (Int × zS)
  | 0, _, _, _, _ => none
  | n + 1, x1, x2, x4, σ =>
    let v_13 := σ 60 2
    if v_13 ≤ x4 then
      some (-5, σ)
    else
      if 60 ≤ x4 then
        some (-5, σ)
      else
        (g_li_hasPlace x1 (w32 (x2 + x4)) σ).bind fun o_32 =>
        if o_32.1 ≠ 0 then
          if 0 ≤ x1 ∧ x1 < 6 then
          let A_49 := 136 + (x1).toNat
          if 0 ≤ w32 (x2 + x4) ∧ w32 (x2 + x4) < 60 then
          let v_54 := o_32.2 A_49 (w32 (x2 + x4))
          if 0 ≤ x4 ∧ x4 < 60 then
          let v_61 := o_32.2 62 x4
          if lCmp v_54 v_61 = 0 then
            (g_li_judgeFrom_L10 n) x1 x2 (w32 (x4 + 1)) o_32.2
          else
            some (x4, o_32.2)
          else none
          else none
          else none
        else
          some (w32 (100 + x4), o_32.2)
set_option maxHeartbeats 4000000 in
theorem g_li_judgeFrom_L10_ok {xl : Nat} {xs : Nat → Int32} : ∀ (n : Nat) {X1 : Int32} {x1 : Int} {X2 : Int32} {x2 : Int} {X4 : Int32} {x4 : Int} {σ : zS} {p : Nat} {m : zM} {o : Int × zS}, X1.toInt = x1 → X2.toInt = x2 → X4.toInt = x4 → zRep xl xs p m σ → g_li_judgeFrom_L10 n x1 x2 x4 σ = some o → zGo xl xs (fun p' => p = p') 3 64 10 [(0, .ref 134), (1, .int X1), (2, .int X2), (3, .ref 60), (4, .int X4)] [] m (vI o.1) o.2
  | 0, _, _, _, _, _, _, _, _, _, _, _, _, _, _, h => by cases h
  | n + 1, X1, x1, X2, x2, X4, x4, σ, p, m, o, hx1, hx2, hx4, H, h => by
    have hq : z_mth 64 = some z_r64 := rfl
    have ih := fun {X1 : Int32} {x1 : Int} {X2 : Int32} {x2 : Int} {X4 : Int32} {x4 : Int} {σ : zS} {p : Nat} {m : zM} {o : Int × zS} => g_li_judgeFrom_L10_ok (xl := xl) (xs := xs) n (X1 := X1) (x1 := x1) (X2 := X2) (x2 := x2) (X4 := X4) (x4 := x4) (σ := σ) (p := p) (m := m) (o := o)
    unfold g_li_judgeFrom_L10 at h
    refine r_p hq 2 (pc' := 13) (L' := [(0, .ref 134), (1, .int X1), (2, .int X2), (3, .ref 60), (4, .int X4)]) (st' := [.ref 60, .int X4]) rfl ?_
    refine r_gI (pc' := 16) (L' := [(0, .ref 134), (1, .int X1), (2, .int X2), (3, .ref 60), (4, .int X4)]) H hq (z_at.mk 3 rfl rfl) rfl rfl rfl rfl ?_
    intro V_13 hV_13
    rcases z_ite h with ⟨c_16, h⟩ | ⟨c_16, h⟩
    · refine r_t2 (pc' := 75) (L' := []) hq (z_at.mk 3 rfl rfl) rfl hx4 hV_13 c_16 rfl rfl ?_
      refine r_p hq 1 (pc' := 77) (L' := []) (st' := [.int ((-5 : Int32))]) rfl ?_
      cases h
      exact r_ri hq (z_at.mk 1 rfl rfl) rfl rfl (rfl : (-5 : Int32).toInt = -5) rfl H
    · refine r_f2 (pc' := 19) (L' := [(0, .ref 134), (1, .int X1), (2, .int X2), (3, .ref 60), (4, .int X4)]) hq (z_at.mk 3 rfl rfl) rfl hx4 hV_13 c_16 rfl rfl ?_
      refine r_p hq 2 (pc' := 23) (L' := [(0, .ref 134), (1, .int X1), (2, .int X2), (3, .ref 60), (4, .int X4)]) (st' := [.int ((60 : Int32)), .int X4]) rfl ?_
      rcases z_ite h with ⟨c_23, h⟩ | ⟨c_23, h⟩
      · refine r_t2 (pc' := 75) (L' := []) hq (z_at.mk 3 rfl rfl) rfl hx4 (rfl : (60 : Int32).toInt = 60) c_23 rfl rfl ?_
        refine r_p hq 1 (pc' := 77) (L' := []) (st' := [.int ((-5 : Int32))]) rfl ?_
        cases h
        exact r_ri hq (z_at.mk 1 rfl rfl) rfl rfl (rfl : (-5 : Int32).toInt = -5) rfl H
      · refine r_f2 (pc' := 26) (L' := [(0, .ref 134), (1, .int X1), (2, .int X2), (3, .ref 60), (4, .int X4)]) hq (z_at.mk 3 rfl rfl) rfl hx4 (rfl : (60 : Int32).toInt = 60) c_23 rfl rfl ?_
        refine r_p hq 5 (pc' := 32) (L' := [(0, .ref 134), (1, .int X1), (2, .int X2), (3, .ref 60), (4, .int X4)]) (st' := [.int (X2 + X4), .int X1, .ref 134]) rfl ?_
        obtain ⟨o_32, h_32, h⟩ := Option.bind_eq_some_iff.mp h
        refine r_cvI (pc' := 35) (L' := [(0, .ref 134), (1, .int X1), (2, .int X2), (3, .ref 60), (4, .int X4)]) (Ps := [.int X1, .int (X2 + X4)]) (rest := []) hq (z_at.mk 3 rfl rfl) (Or.inl ⟨rfl, rfl⟩) rfl rfl (by decide) (by decide) rfl (Nat.not_lt.mpr (Nat.le_of_ble_eq_true rfl)) rfl rfl (z_cat_le 0 rfl (by decide)) (z_lgl_le 3 rfl (by decide)) (by decide) (H.tg rfl) (by omega) (g_li_hasPlace_ok hx1 (tx_iadd hx2 hx4) H h_32) rfl rfl ?_
        intro R_32 m_32 p_32 e_32 hR_32 H_32
        subst e_32
        rcases z_ite h with ⟨c_35, h⟩ | ⟨c_35, h⟩
        · refine r_t1 (pc' := 44) (L' := [(0, .ref 134), (1, .int X1), (2, .int X2), (3, .ref 60), (4, .int X4)]) hq (z_at.mk 3 rfl rfl) rfl hR_32 c_35 rfl rfl ?_
          refine r_p hq 1 (pc' := 45) (L' := [(0, .ref 134), (1, .int X1), (2, .int X2), (3, .ref 60), (4, .int X4)]) (st' := [.ref 134]) rfl ?_
          refine r_gR (b := 135) (pc' := 48) (L' := [(0, .ref 134), (1, .int X1), (2, .int X2), (3, .ref 60), (4, .int X4)]) H_32 hq (z_at.mk 3 rfl rfl) rfl rfl rfl rfl ?_
          refine r_p hq 1 (pc' := 49) (L' := [(0, .ref 134), (1, .int X1), (2, .int X2), (3, .ref 60), (4, .int X4)]) (st' := [.int X1, .ref 135]) rfl ?_
          obtain ⟨g_49, h⟩ := z_ifo_some h
          refine r_aa (pc' := 50) (L' := [(0, .ref 134), (1, .int X1), (2, .int X2), (3, .ref 60), (4, .int X4)]) H_32 hq (z_at.mk 1 rfl rfl) hx1 g_49 rfl rfl ?_
          intro A_49 hE_49 hA_49
          rw [← hE_49] at h
          refine r_p hq 3 (pc' := 54) (L' := [(0, .ref 134), (1, .int X1), (2, .int X2), (3, .ref 60), (4, .int X4)]) (st' := [.int (X2 + X4), .ref A_49]) rfl ?_
          obtain ⟨g_54, h⟩ := z_ifo_some h
          refine r_la (pc' := 55) (L' := [(0, .ref 134), (1, .int X1), (2, .int X2), (3, .ref 60), (4, .int X4)]) H_32 hq (z_at.mk 1 rfl rfl) (zIn_all (l := [136, 137, 138, 139, 140, 141]) (p := fun a => zAr a 1 60) rfl hA_49) (tx_iadd hx2 hx4) g_54 rfl rfl ?_
          intro V_54 hV_54
          refine r_p hq 1 (pc' := 56) (L' := [(0, .ref 134), (1, .int X1), (2, .int X2), (3, .ref 60), (4, .int X4)]) (st' := [.ref 60, .long V_54]) rfl ?_
          refine r_gR (b := 62) (pc' := 59) (L' := [(0, .ref 134), (1, .int X1), (2, .int X2), (3, .ref 60), (4, .int X4)]) H_32 hq (z_at.mk 3 rfl rfl) rfl rfl rfl rfl ?_
          refine r_p hq 1 (pc' := 61) (L' := [(0, .ref 134), (1, .int X1), (2, .int X2), (3, .ref 60), (4, .int X4)]) (st' := [.int X4, .ref 62, .long V_54]) rfl ?_
          obtain ⟨g_61, h⟩ := z_ifo_some h
          refine r_la (pc' := 62) (L' := [(0, .ref 134), (1, .int X1), (2, .int X2), (3, .ref 60), (4, .int X4)]) H_32 hq (z_at.mk 1 rfl rfl) (show zAr 62 1 60 = true from rfl) hx4 g_61 rfl rfl ?_
          intro V_61 hV_61
          refine r_p hq 1 (pc' := 63) (L' := [(0, .ref 134), (1, .int X1), (2, .int X2), (3, .ref 60), (4, .int X4)]) (st' := [.int (lg_cmp V_54 V_61)]) rfl ?_
          rcases z_ite h with ⟨c_63, h⟩ | ⟨c_63, h⟩
          · refine r_t1 (pc' := 69) (L' := [(0, .ref 134), (1, .int X1), (2, .int X2), (3, .ref 60), (4, .int X4)]) hq (z_at.mk 3 rfl rfl) rfl (tx_lcmp hV_54 hV_61) c_63 rfl rfl ?_
            refine r_p hq 2 (pc' := 10) (L' := [(0, .ref 134), (1, .int X1), (2, .int X2), (3, .ref 60), (4, .int (X4 + (1 : Int32)))]) (st' := []) rfl ?_
            exact ih hx1 hx2 (tx_iadd hx4 (rfl : (1 : Int32).toInt = 1)) H_32 h
          · refine r_f1 (pc' := 66) (L' := [(0, .ref 134), (1, .int X1), (2, .int X2), (3, .ref 60), (4, .int X4)]) hq (z_at.mk 3 rfl rfl) rfl (tx_lcmp hV_54 hV_61) c_63 rfl rfl ?_
            refine r_p hq 1 (pc' := 68) (L' := [(0, .ref 134), (1, .int X1), (2, .int X2), (3, .ref 60), (4, .int X4)]) (st' := [.int X4]) rfl ?_
            cases h
            exact r_ri hq (z_at.mk 1 rfl rfl) rfl rfl hx4 rfl H_32
        · refine r_f1 (pc' := 38) (L' := [(0, .ref 134), (1, .int X1), (2, .int X2), (3, .ref 60), (4, .int X4)]) hq (z_at.mk 3 rfl rfl) rfl hR_32 c_35 rfl rfl ?_
          refine r_p hq 3 (pc' := 43) (L' := [(0, .ref 134), (1, .int X1), (2, .int X2), (3, .ref 60), (4, .int X4)]) (st' := [.int (((100 : Int32)) + X4)]) rfl ?_
          cases h
          exact r_ri hq (z_at.mk 1 rfl rfl) rfl rfl (tx_iadd (rfl : (100 : Int32).toInt = 100) hx4) rfl H_32
def g_li_judgeFrom (x1 : Int) (x2 : Int) (σ : zS) : Option (Int × zS) :=
  if 0 ≤ x2 then
    g_li_judgeFrom_L10 zK x1 x2 0 σ
  else
    some (100, σ)
set_option maxHeartbeats 4000000 in
theorem g_li_judgeFrom_ok {xl : Nat} {xs : Nat → Int32} {X1 : Int32} {x1 : Int} (hx1 : X1.toInt = x1) {X2 : Int32} {x2 : Int} (hx2 : X2.toInt = x2) {σ : zS} {p : Nat} {m : zM} {o : Int × zS} (H : zRep xl xs p m σ) (h : g_li_judgeFrom x1 x2 σ = some o) : zGo xl xs (fun p' => p = p') 3 64 0 (z_can 64 0 (lv_args 0 [.ref 134, .int X1, .int X2, .ref 60])) [] m (vI o.1) o.2 := by
  have hq : z_mth 64 = some z_r64 := rfl
  unfold g_li_judgeFrom at h
  show zGo xl xs (fun p' => p = p') 3 64 0 [(0, .ref 134), (1, .int X1), (2, .int X2), (3, .ref 60)] [] m (vI o.1) o.2
  refine r_p hq 1 (pc' := 1) (L' := [(0, .ref 134), (1, .int X1), (2, .int X2), (3, .ref 60)]) (st' := [.int X2]) rfl ?_
  rcases z_ite h with ⟨c_1, h⟩ | ⟨c_1, h⟩
  · refine r_t1 (pc' := 7) (L' := [(0, .ref 134), (1, .int X1), (2, .int X2), (3, .ref 60)]) hq (z_at.mk 3 rfl rfl) rfl hx2 c_1 rfl rfl ?_
    refine r_p hq 2 (pc' := 10) (L' := [(0, .ref 134), (1, .int X1), (2, .int X2), (3, .ref 60), (4, .int ((0 : Int32)))]) (st' := []) rfl ?_
    exact g_li_judgeFrom_L10_ok zK hx1 hx2 (rfl : (0 : Int32).toInt = 0) H h
  · refine r_f1 (pc' := 4) (L' := [(0, .ref 134), (1, .int X1), (2, .int X2), (3, .ref 60)]) hq (z_at.mk 3 rfl rfl) rfl hx2 c_1 rfl rfl ?_
    refine r_p hq 1 (pc' := 6) (L' := [(0, .ref 134), (1, .int X1), (2, .int X2), (3, .ref 60)]) (st' := [.int ((100 : Int32))]) rfl ?_
    cases h
    exact r_ri hq (z_at.mk 1 rfl rfl) rfl rfl (rfl : (100 : Int32).toInt = 100) rfl H
def g_ta_here (σ : zS) : Option (Int × zS) :=
  let v_1 := σ 120 3
  if v_1 ≠ -1 then
    some (0, σ)
  else
    let v_9 := σ 120 2
    if v_9 < 0 then
      some (0, σ)
    else
      let v_16 := σ 120 2
      let v_20 := σ 120 1
      if v_20 ≤ v_16 then
        some (0, σ)
      else
        let v_27 := σ 120 2
        if 160 ≤ v_27 then
          some (0, σ)
        else
          let v_41 := σ 120 2
          if 0 ≤ v_41 ∧ v_41 < 160 then
          let v_44 := σ 121 v_41
          some (v_44, σ)
          else none
set_option maxHeartbeats 4000000 in
theorem g_ta_here_ok {xl : Nat} {xs : Nat → Int32} {σ : zS} {p : Nat} {m : zM} {o : Int × zS} (H : zRep xl xs p m σ) (h : g_ta_here σ = some o) : zGo xl xs (fun p' => p = p') 1 96 0 (z_can 96 0 (lv_args 0 [.ref 120])) [] m (vI o.1) o.2 := by
  have hq : z_mth 96 = some z_r96 := rfl
  unfold g_ta_here at h
  show zGo xl xs (fun p' => p = p') 1 96 0 [(0, .ref 120)] [] m (vI o.1) o.2
  refine r_p hq 1 (pc' := 1) (L' := [(0, .ref 120)]) (st' := [.ref 120]) rfl ?_
  refine r_gI (pc' := 4) (L' := [(0, .ref 120)]) H hq (z_at.mk 3 rfl rfl) rfl rfl rfl rfl ?_
  intro V_1 hV_1
  refine r_p hq 1 (pc' := 5) (L' := [(0, .ref 120)]) (st' := [.int ((-1 : Int32)), .int V_1]) rfl ?_
  rcases z_ite h with ⟨c_5, h⟩ | ⟨c_5, h⟩
  · refine r_t2 (pc' := 48) (L' := []) hq (z_at.mk 3 rfl rfl) rfl hV_1 (rfl : (-1 : Int32).toInt = -1) c_5 rfl rfl ?_
    refine r_p hq 1 (pc' := 49) (L' := []) (st' := [.int ((0 : Int32))]) rfl ?_
    cases h
    exact r_ri hq (z_at.mk 1 rfl rfl) rfl rfl (rfl : (0 : Int32).toInt = 0) rfl H
  · refine r_f2 (pc' := 8) (L' := [(0, .ref 120)]) hq (z_at.mk 3 rfl rfl) rfl hV_1 (rfl : (-1 : Int32).toInt = -1) c_5 rfl rfl ?_
    refine r_p hq 1 (pc' := 9) (L' := [(0, .ref 120)]) (st' := [.ref 120]) rfl ?_
    refine r_gI (pc' := 12) (L' := [(0, .ref 120)]) H hq (z_at.mk 3 rfl rfl) rfl rfl rfl rfl ?_
    intro V_9 hV_9
    rcases z_ite h with ⟨c_12, h⟩ | ⟨c_12, h⟩
    · refine r_t1 (pc' := 48) (L' := []) hq (z_at.mk 3 rfl rfl) rfl hV_9 c_12 rfl rfl ?_
      refine r_p hq 1 (pc' := 49) (L' := []) (st' := [.int ((0 : Int32))]) rfl ?_
      cases h
      exact r_ri hq (z_at.mk 1 rfl rfl) rfl rfl (rfl : (0 : Int32).toInt = 0) rfl H
    · refine r_f1 (pc' := 15) (L' := [(0, .ref 120)]) hq (z_at.mk 3 rfl rfl) rfl hV_9 c_12 rfl rfl ?_
      refine r_p hq 1 (pc' := 16) (L' := [(0, .ref 120)]) (st' := [.ref 120]) rfl ?_
      refine r_gI (pc' := 19) (L' := [(0, .ref 120)]) H hq (z_at.mk 3 rfl rfl) rfl rfl rfl rfl ?_
      intro V_16 hV_16
      refine r_p hq 1 (pc' := 20) (L' := [(0, .ref 120)]) (st' := [.ref 120, .int V_16]) rfl ?_
      refine r_gI (pc' := 23) (L' := [(0, .ref 120)]) H hq (z_at.mk 3 rfl rfl) rfl rfl rfl rfl ?_
      intro V_20 hV_20
      rcases z_ite h with ⟨c_23, h⟩ | ⟨c_23, h⟩
      · refine r_t2 (pc' := 48) (L' := []) hq (z_at.mk 3 rfl rfl) rfl hV_16 hV_20 c_23 rfl rfl ?_
        refine r_p hq 1 (pc' := 49) (L' := []) (st' := [.int ((0 : Int32))]) rfl ?_
        cases h
        exact r_ri hq (z_at.mk 1 rfl rfl) rfl rfl (rfl : (0 : Int32).toInt = 0) rfl H
      · refine r_f2 (pc' := 26) (L' := [(0, .ref 120)]) hq (z_at.mk 3 rfl rfl) rfl hV_16 hV_20 c_23 rfl rfl ?_
        refine r_p hq 1 (pc' := 27) (L' := [(0, .ref 120)]) (st' := [.ref 120]) rfl ?_
        refine r_gI (pc' := 30) (L' := [(0, .ref 120)]) H hq (z_at.mk 3 rfl rfl) rfl rfl rfl rfl ?_
        intro V_27 hV_27
        refine r_p hq 1 (pc' := 33) (L' := [(0, .ref 120)]) (st' := [.int ((160 : Int32)), .int V_27]) rfl ?_
        rcases z_ite h with ⟨c_33, h⟩ | ⟨c_33, h⟩
        · refine r_t2 (pc' := 48) (L' := []) hq (z_at.mk 3 rfl rfl) rfl hV_27 (rfl : (160 : Int32).toInt = 160) c_33 rfl rfl ?_
          refine r_p hq 1 (pc' := 49) (L' := []) (st' := [.int ((0 : Int32))]) rfl ?_
          cases h
          exact r_ri hq (z_at.mk 1 rfl rfl) rfl rfl (rfl : (0 : Int32).toInt = 0) rfl H
        · refine r_f2 (pc' := 36) (L' := [(0, .ref 120)]) hq (z_at.mk 3 rfl rfl) rfl hV_27 (rfl : (160 : Int32).toInt = 160) c_33 rfl rfl ?_
          refine r_p hq 1 (pc' := 37) (L' := [(0, .ref 120)]) (st' := [.ref 120]) rfl ?_
          refine r_gR (b := 121) (pc' := 40) (L' := [(0, .ref 120)]) H hq (z_at.mk 3 rfl rfl) rfl rfl rfl rfl ?_
          refine r_p hq 1 (pc' := 41) (L' := [(0, .ref 120)]) (st' := [.ref 120, .ref 121]) rfl ?_
          refine r_gI (pc' := 44) (L' := [(0, .ref 120)]) H hq (z_at.mk 3 rfl rfl) rfl rfl rfl rfl ?_
          intro V_41 hV_41
          obtain ⟨g_44, h⟩ := z_ifo_some h
          refine r_ba (pc' := 45) (L' := [(0, .ref 120)]) H hq (z_at.mk 1 rfl rfl) (show zAr 121 2 160 = true from rfl) hV_41 g_44 rfl rfl ?_
          intro V_44 hV_44
          refine r_p hq 1 (pc' := 49) (L' := []) (st' := [.int V_44]) rfl ?_
          cases h
          exact r_ri hq (z_at.mk 1 rfl rfl) rfl rfl hV_44 rfl H
def g_ta_blame (x1 : Int) (σ : zS) : Option (Unit × zS) :=
  let v_1 := σ 120 3
  if v_1 ≠ -1 then
    some ((), σ)
  else
    let s_10 := zu σ 120 3 x1
    some ((), s_10)
set_option maxHeartbeats 4000000 in
theorem g_ta_blame_ok {xl : Nat} {xs : Nat → Int32} {X1 : Int32} {x1 : Int} (hx1 : X1.toInt = x1) {σ : zS} {p : Nat} {m : zM} {o : Unit × zS} (H : zRep xl xs p m σ) (h : g_ta_blame x1 σ = some o) : zGo xl xs (fun p' => p = p') 1 95 0 (z_can 95 0 (lv_args 0 [.ref 120, .int X1])) [] m vV o.2 := by
  have hq : z_mth 95 = some z_r95 := rfl
  unfold g_ta_blame at h
  show zGo xl xs (fun p' => p = p') 1 95 0 [(0, .ref 120), (1, .int X1)] [] m vV o.2
  refine r_p hq 1 (pc' := 1) (L' := [(0, .ref 120), (1, .int X1)]) (st' := [.ref 120]) rfl ?_
  refine r_gI (pc' := 4) (L' := [(0, .ref 120), (1, .int X1)]) H hq (z_at.mk 3 rfl rfl) rfl rfl rfl rfl ?_
  intro V_1 hV_1
  refine r_p hq 1 (pc' := 5) (L' := [(0, .ref 120), (1, .int X1)]) (st' := [.int ((-1 : Int32)), .int V_1]) rfl ?_
  rcases z_ite h with ⟨c_5, h⟩ | ⟨c_5, h⟩
  · refine r_t2 (pc' := 13) (L' := []) hq (z_at.mk 3 rfl rfl) rfl hV_1 (rfl : (-1 : Int32).toInt = -1) c_5 rfl rfl ?_
    cases h
    exact r_rv hq (z_at.mk 1 rfl rfl) rfl rfl H
  · refine r_f2 (pc' := 8) (L' := [(0, .ref 120), (1, .int X1)]) hq (z_at.mk 3 rfl rfl) rfl hV_1 (rfl : (-1 : Int32).toInt = -1) c_5 rfl rfl ?_
    refine r_p hq 2 (pc' := 10) (L' := [(0, .ref 120), (1, .int X1)]) (st' := [.int X1, .ref 120]) rfl ?_
    refine r_pI (X := X1) (pc' := 13) (L' := []) H hq (z_at.mk 3 rfl rfl) rfl rfl hx1 (by decide) rfl rfl rfl rfl ?_
    intro m_10 H_10
    cases h
    exact r_rv hq (z_at.mk 1 rfl rfl) rfl rfl H_10
def g_ta_wants (x1 : Int) (σ : zS) : Option (Unit × zS) :=
  (g_ta_here σ).bind fun o_1 =>
  if o_1.1 ≠ x1 then
    let v_23 := o_1.2 120 2
    (g_ta_blame v_23 o_1.2).bind fun o_26 =>
    some ((), o_26.2)
  else
    let v_10 := o_1.2 120 2
    let s_15 := zu o_1.2 120 2 (w32 (v_10 + 1))
    some ((), s_15)
set_option maxHeartbeats 4000000 in
theorem g_ta_wants_ok {xl : Nat} {xs : Nat → Int32} {X1 : Int32} {x1 : Int} (hx1 : X1.toInt = x1) {σ : zS} {p : Nat} {m : zM} {o : Unit × zS} (H : zRep xl xs p m σ) (h : g_ta_wants x1 σ = some o) : zGo xl xs (fun p' => p = p') 2 98 0 (z_can 98 0 (lv_args 0 [.ref 120, .int X1])) [] m vV o.2 := by
  have hq : z_mth 98 = some z_r98 := rfl
  unfold g_ta_wants at h
  show zGo xl xs (fun p' => p = p') 2 98 0 [(0, .ref 120), (1, .int X1)] [] m vV o.2
  refine r_p hq 1 (pc' := 1) (L' := [(0, .ref 120), (1, .int X1)]) (st' := [.ref 120]) rfl ?_
  obtain ⟨o_1, h_1, h⟩ := Option.bind_eq_some_iff.mp h
  refine r_cvI (pc' := 4) (L' := [(0, .ref 120), (1, .int X1)]) (Ps := []) (rest := []) hq (z_at.mk 3 rfl rfl) (Or.inl ⟨rfl, rfl⟩) rfl rfl (by decide) (by decide) rfl (Nat.not_lt.mpr (Nat.le_of_ble_eq_true rfl)) rfl rfl (z_cat_le 0 rfl (by decide)) (z_lgl_le 1 rfl (by decide)) (by decide) (H.tg rfl) (by omega) (g_ta_here_ok H h_1) rfl rfl ?_
  intro R_1 m_1 p_1 e_1 hR_1 H_1
  subst e_1
  refine r_p hq 1 (pc' := 5) (L' := [(0, .ref 120), (1, .int X1)]) (st' := [.int X1, .int R_1]) rfl ?_
  rcases z_ite h with ⟨c_5, h⟩ | ⟨c_5, h⟩
  · refine r_t2 (pc' := 21) (L' := [(0, .ref 120), (1, .int X1)]) hq (z_at.mk 3 rfl rfl) rfl hR_1 hx1 c_5 rfl rfl ?_
    refine r_p hq 2 (pc' := 23) (L' := [(0, .ref 120), (1, .int X1)]) (st' := [.ref 120, .ref 120]) rfl ?_
    refine r_gI (pc' := 26) (L' := [(0, .ref 120), (1, .int X1)]) H_1 hq (z_at.mk 3 rfl rfl) rfl rfl rfl rfl ?_
    intro V_23 hV_23
    obtain ⟨o_26, h_26, h⟩ := Option.bind_eq_some_iff.mp h
    refine r_cvV (pc' := 29) (L' := []) (Ps := [.int V_23]) (rest := []) hq (z_at.mk 3 rfl rfl) (Or.inl ⟨rfl, rfl⟩) rfl rfl (by decide) (by decide) rfl (Nat.not_lt.mpr (Nat.le_of_ble_eq_true rfl)) rfl rfl (z_cat_le 0 rfl (by decide)) (z_lgl_le 2 rfl (by decide)) (by decide) (H_1.tg rfl) (by omega) (g_ta_blame_ok hV_23 H_1 h_26) rfl rfl ?_
    intro m_26 p_26 e_26 H_26
    subst e_26
    cases h
    exact r_rv hq (z_at.mk 1 rfl rfl) rfl rfl H_26
  · refine r_f2 (pc' := 8) (L' := [(0, .ref 120), (1, .int X1)]) hq (z_at.mk 3 rfl rfl) rfl hR_1 hx1 c_5 rfl rfl ?_
    refine r_p hq 2 (pc' := 10) (L' := [(0, .ref 120), (1, .int X1)]) (st' := [.ref 120, .ref 120]) rfl ?_
    refine r_gI (pc' := 13) (L' := [(0, .ref 120), (1, .int X1)]) H_1 hq (z_at.mk 3 rfl rfl) rfl rfl rfl rfl ?_
    intro V_10 hV_10
    refine r_p hq 2 (pc' := 15) (L' := [(0, .ref 120), (1, .int X1)]) (st' := [.int (V_10 + ((1 : Int32))), .ref 120]) rfl ?_
    refine r_pI (X := V_10 + ((1 : Int32))) (pc' := 18) (L' := [(0, .ref 120), (1, .int X1)]) H_1 hq (z_at.mk 3 rfl rfl) rfl rfl (tx_iadd hV_10 (rfl : (1 : Int32).toInt = 1)) (by decide) rfl rfl rfl rfl ?_
    intro m_15 H_15
    refine r_p hq 1 (pc' := 29) (L' := []) (st' := []) rfl ?_
    cases h
    exact r_rv hq (z_at.mk 1 rfl rfl) rfl rfl H_15
def g_ta_takes (x1 : Int) (σ : zS) : Option (Int × zS) :=
  (g_ta_here σ).bind fun o_1 =>
  if o_1.1 = x1 then
    let v_12 := o_1.2 120 2
    let s_17 := zu o_1.2 120 2 (w32 (v_12 + 1))
    some (1, s_17)
  else
    some (0, o_1.2)
set_option maxHeartbeats 4000000 in
theorem g_ta_takes_ok {xl : Nat} {xs : Nat → Int32} {X1 : Int32} {x1 : Int} (hx1 : X1.toInt = x1) {σ : zS} {p : Nat} {m : zM} {o : Int × zS} (H : zRep xl xs p m σ) (h : g_ta_takes x1 σ = some o) : zGo xl xs (fun p' => p = p') 2 97 0 (z_can 97 0 (lv_args 0 [.ref 120, .int X1])) [] m (vI o.1) o.2 := by
  have hq : z_mth 97 = some z_r97 := rfl
  unfold g_ta_takes at h
  show zGo xl xs (fun p' => p = p') 2 97 0 [(0, .ref 120), (1, .int X1)] [] m (vI o.1) o.2
  refine r_p hq 1 (pc' := 1) (L' := [(0, .ref 120), (1, .int X1)]) (st' := [.ref 120]) rfl ?_
  obtain ⟨o_1, h_1, h⟩ := Option.bind_eq_some_iff.mp h
  refine r_cvI (pc' := 4) (L' := [(0, .ref 120), (1, .int X1)]) (Ps := []) (rest := []) hq (z_at.mk 3 rfl rfl) (Or.inl ⟨rfl, rfl⟩) rfl rfl (by decide) (by decide) rfl (Nat.not_lt.mpr (Nat.le_of_ble_eq_true rfl)) rfl rfl (z_cat_le 0 rfl (by decide)) (z_lgl_le 1 rfl (by decide)) (by decide) (H.tg rfl) (by omega) (g_ta_here_ok H h_1) rfl rfl ?_
  intro R_1 m_1 p_1 e_1 hR_1 H_1
  subst e_1
  refine r_p hq 1 (pc' := 5) (L' := [(0, .ref 120), (1, .int X1)]) (st' := [.int X1, .int R_1]) rfl ?_
  rcases z_ite h with ⟨c_5, h⟩ | ⟨c_5, h⟩
  · refine r_t2 (pc' := 10) (L' := [(0, .ref 120), (1, .int X1)]) hq (z_at.mk 3 rfl rfl) rfl hR_1 hx1 c_5 rfl rfl ?_
    refine r_p hq 2 (pc' := 12) (L' := [(0, .ref 120), (1, .int X1)]) (st' := [.ref 120, .ref 120]) rfl ?_
    refine r_gI (pc' := 15) (L' := [(0, .ref 120), (1, .int X1)]) H_1 hq (z_at.mk 3 rfl rfl) rfl rfl rfl rfl ?_
    intro V_12 hV_12
    refine r_p hq 2 (pc' := 17) (L' := [(0, .ref 120), (1, .int X1)]) (st' := [.int (V_12 + ((1 : Int32))), .ref 120]) rfl ?_
    refine r_pI (X := V_12 + ((1 : Int32))) (pc' := 20) (L' := [(0, .ref 120), (1, .int X1)]) H_1 hq (z_at.mk 3 rfl rfl) rfl rfl (tx_iadd hV_12 (rfl : (1 : Int32).toInt = 1)) (by decide) rfl rfl rfl rfl ?_
    intro m_17 H_17
    refine r_p hq 1 (pc' := 21) (L' := [(0, .ref 120), (1, .int X1)]) (st' := [.int ((1 : Int32))]) rfl ?_
    cases h
    exact r_ri hq (z_at.mk 1 rfl rfl) rfl rfl (rfl : (1 : Int32).toInt = 1) rfl H_17
  · refine r_f2 (pc' := 8) (L' := [(0, .ref 120), (1, .int X1)]) hq (z_at.mk 3 rfl rfl) rfl hR_1 hx1 c_5 rfl rfl ?_
    refine r_p hq 1 (pc' := 9) (L' := [(0, .ref 120), (1, .int X1)]) (st' := [.int ((0 : Int32))]) rfl ?_
    cases h
    exact r_ri hq (z_at.mk 1 rfl rfl) rfl rfl (rfl : (0 : Int32).toInt = 0) rfl H_1
def g_jString_isLatin1 (a0 : Nat) (σ : zS) : Option (Int × zS) :=
  if (1 : Int) = 0 then
    some (0, σ)
  else
    if (0 : Int) ≠ 0 then
      some (0, σ)
    else
      some (1, σ)
set_option maxHeartbeats 4000000 in
theorem g_jString_isLatin1_ok {xl : Nat} {xs : Nat → Int32} {a0 : Nat} (ha0 : zIn [1, 2, 3, 4, 5, 6, 7, 8, 9, 10, 11, 12, 13, 14, 15, 16, 17, 18] a0 = true) {σ : zS} {p : Nat} {m : zM} {o : Int × zS} (H : zRep xl xs p m σ) (h : g_jString_isLatin1 a0 σ = some o) : zGo xl xs (fun p' => p = p') 1 299 0 (z_can 299 0 (lv_args 0 [.ref a0])) [] m (vI o.1) o.2 := by
  have hq : z_mth 299 = some z_r299 := rfl
  unfold g_jString_isLatin1 at h
  show zGo xl xs (fun p' => p = p') 1 299 0 [(0, .ref a0)] [] m (vI o.1) o.2
  refine r_p hq 1 (pc' := 3) (L' := [(0, .ref a0)]) (st' := [.int ((1 : Int32))]) rfl ?_
  rcases z_ite h with ⟨c_3, h⟩ | ⟨c_3, h⟩
  · refine r_t1 (pc' := 17) (L' := []) hq (z_at.mk 3 rfl rfl) rfl (show (1 : Int32).toInt = 1 from rfl) c_3 rfl rfl ?_
    refine r_p hq 1 (pc' := 18) (L' := []) (st' := [.int ((0 : Int32))]) rfl ?_
    cases h
    exact r_ri hq (z_at.mk 1 rfl rfl) rfl rfl (rfl : (0 : Int32).toInt = 0) rfl H
  · refine r_f1 (pc' := 6) (L' := [(0, .ref a0)]) hq (z_at.mk 3 rfl rfl) rfl (show (1 : Int32).toInt = 1 from rfl) c_3 rfl rfl ?_
    refine r_p hq 1 (pc' := 7) (L' := [(0, .ref a0)]) (st' := [.ref a0]) rfl ?_
    refine r_gsI (pc' := 10) (L' := [(0, .ref a0)]) H hq (z_at.mk 3 rfl rfl) rfl (zIn_all (l := [1, 2, 3, 4, 5, 6, 7, 8, 9, 10, 11, 12, 13, 14, 15, 16, 17, 18]) (p := fun a => zIn [1, 2, 3, 4, 5, 6, 7, 8, 9, 10, 11, 12, 13, 14, 15, 16, 17, 18] a) rfl ha0) rfl rfl ?_
    rcases z_ite h with ⟨c_10, h⟩ | ⟨c_10, h⟩
    · refine r_t1 (pc' := 17) (L' := []) hq (z_at.mk 3 rfl rfl) rfl (show (0 : Int32).toInt = 0 from rfl) c_10 rfl rfl ?_
      refine r_p hq 1 (pc' := 18) (L' := []) (st' := [.int ((0 : Int32))]) rfl ?_
      cases h
      exact r_ri hq (z_at.mk 1 rfl rfl) rfl rfl (rfl : (0 : Int32).toInt = 0) rfl H
    · refine r_f1 (pc' := 13) (L' := [(0, .ref a0)]) hq (z_at.mk 3 rfl rfl) rfl (show (0 : Int32).toInt = 0 from rfl) c_10 rfl rfl ?_
      refine r_p hq 2 (pc' := 18) (L' := []) (st' := [.int ((1 : Int32))]) rfl ?_
      cases h
      exact r_ri hq (z_at.mk 1 rfl rfl) rfl rfl (rfl : (1 : Int32).toInt = 1) rfl H
def g_jString_coder (a0 : Nat) (σ : zS) : Option (Int × zS) :=
  if (1 : Int) = 0 then
    some (1, σ)
  else
    some (0, σ)
set_option maxHeartbeats 4000000 in
theorem g_jString_coder_ok {xl : Nat} {xs : Nat → Int32} {a0 : Nat} (ha0 : zIn [1, 2, 3, 4, 5, 6, 7, 8, 9, 10, 11, 12, 13, 14, 15, 16, 17, 18] a0 = true) {σ : zS} {p : Nat} {m : zM} {o : Int × zS} (H : zRep xl xs p m σ) (h : g_jString_coder a0 σ = some o) : zGo xl xs (fun p' => p = p') 1 298 0 (z_can 298 0 (lv_args 0 [.ref a0])) [] m (vI o.1) o.2 := by
  have hq : z_mth 298 = some z_r298 := rfl
  unfold g_jString_coder at h
  show zGo xl xs (fun p' => p = p') 1 298 0 [(0, .ref a0)] [] m (vI o.1) o.2
  refine r_p hq 1 (pc' := 3) (L' := [(0, .ref a0)]) (st' := [.int ((1 : Int32))]) rfl ?_
  rcases z_ite h with ⟨c_3, h⟩ | ⟨c_3, h⟩
  · refine r_t1 (pc' := 13) (L' := [(0, .ref a0)]) hq (z_at.mk 3 rfl rfl) rfl (show (1 : Int32).toInt = 1 from rfl) c_3 rfl rfl ?_
    refine r_p hq 1 (pc' := 14) (L' := []) (st' := [.int ((1 : Int32))]) rfl ?_
    cases h
    exact r_ri hq (z_at.mk 1 rfl rfl) rfl rfl (rfl : (1 : Int32).toInt = 1) rfl H
  · refine r_f1 (pc' := 6) (L' := [(0, .ref a0)]) hq (z_at.mk 3 rfl rfl) rfl (show (1 : Int32).toInt = 1 from rfl) c_3 rfl rfl ?_
    refine r_p hq 1 (pc' := 7) (L' := [(0, .ref a0)]) (st' := [.ref a0]) rfl ?_
    refine r_gsI (pc' := 10) (L' := [(0, .ref a0)]) H hq (z_at.mk 3 rfl rfl) rfl (zIn_all (l := [1, 2, 3, 4, 5, 6, 7, 8, 9, 10, 11, 12, 13, 14, 15, 16, 17, 18]) (p := fun a => zIn [1, 2, 3, 4, 5, 6, 7, 8, 9, 10, 11, 12, 13, 14, 15, 16, 17, 18] a) rfl ha0) rfl rfl ?_
    refine r_p hq 1 (pc' := 14) (L' := []) (st' := [.int ((0 : Int32))]) rfl ?_
    cases h
    exact r_ri hq (z_at.mk 1 rfl rfl) rfl rfl (rfl : (0 : Int32).toInt = 0) rfl H
def g_jString_length (a0 : Nat) (σ : zS) : Option (Int × zS) :=
  (g_jString_coder a0 σ).bind fun o_6 =>
  some (iShr (zLI (a0 + 18)) o_6.1, o_6.2)
set_option maxHeartbeats 4000000 in
theorem g_jString_length_ok {xl : Nat} {xs : Nat → Int32} {a0 : Nat} (ha0 : zIn [1, 2, 3, 4, 5, 6, 7, 8, 9, 10, 11, 12, 13, 14, 15, 16, 17, 18] a0 = true) {σ : zS} {p : Nat} {m : zM} {o : Int × zS} (H : zRep xl xs p m σ) (h : g_jString_length a0 σ = some o) : zGo xl xs (fun p' => p = p') 2 293 0 (z_can 293 0 (lv_args 0 [.ref a0])) [] m (vI o.1) o.2 := by
  have hq : z_mth 293 = some z_r293 := rfl
  unfold g_jString_length at h
  show zGo xl xs (fun p' => p = p') 2 293 0 [(0, .ref a0)] [] m (vI o.1) o.2
  refine r_p hq 1 (pc' := 1) (L' := [(0, .ref a0)]) (st' := [.ref a0]) rfl ?_
  refine r_gsR (pc' := 4) (L' := [(0, .ref a0)]) H hq (z_at.mk 3 rfl rfl) rfl (zIn_all (l := [1, 2, 3, 4, 5, 6, 7, 8, 9, 10, 11, 12, 13, 14, 15, 16, 17, 18]) (p := fun a => zIn [1, 2, 3, 4, 5, 6, 7, 8, 9, 10, 11, 12, 13, 14, 15, 16, 17, 18] a) rfl ha0) rfl rfl ?_
  refine r_le0 (pc' := 5) (L' := [(0, .ref a0)]) H hq (z_at.mk 1 rfl rfl) (zIn_all (l := [1, 2, 3, 4, 5, 6, 7, 8, 9, 10, 11, 12, 13, 14, 15, 16, 17, 18]) (p := fun a => zAz (a + 18) 2 (zLI (a + 18))) rfl ha0) rfl rfl rfl ?_
  intro V_4 hV_4
  refine r_p hq 1 (pc' := 6) (L' := [(0, .ref a0)]) (st' := [.ref a0, .int V_4]) rfl ?_
  obtain ⟨o_6, h_6, h⟩ := Option.bind_eq_some_iff.mp h
  refine r_cvI (pc' := 9) (L' := [(0, .ref a0)]) (Ps := []) (rest := [.int V_4]) hq (z_at.mk 3 rfl rfl) (Or.inl ⟨rfl, rfl⟩) rfl rfl (by decide) (by decide) rfl (Nat.not_lt.mpr (Nat.le_of_ble_eq_true rfl)) rfl rfl (z_cat_le 1 rfl (by decide)) (z_lgl_le 1 rfl (by decide)) (by decide) (H.tg9 (zIn_all (l := [1, 2, 3, 4, 5, 6, 7, 8, 9, 10, 11, 12, 13, 14, 15, 16, 17, 18]) (p := fun a => zIn [1, 2, 3, 4, 5, 6, 7, 8, 9, 10, 11, 12, 13, 14, 15, 16, 17, 18] a) rfl ha0)) (by omega) (g_jString_coder_ok (zIn_all (l := [1, 2, 3, 4, 5, 6, 7, 8, 9, 10, 11, 12, 13, 14, 15, 16, 17, 18]) (p := fun a => zIn [1, 2, 3, 4, 5, 6, 7, 8, 9, 10, 11, 12, 13, 14, 15, 16, 17, 18] a) rfl ha0) H h_6) rfl rfl ?_
  intro R_6 m_6 p_6 e_6 hR_6 H_6
  subst e_6
  refine r_p hq 1 (pc' := 10) (L' := [(0, .ref a0)]) (st' := [.int (V_4 >>> (R_6 &&& 31))]) rfl ?_
  cases h
  exact r_ri hq (z_at.mk 1 rfl rfl) rfl rfl (tx_ishr hV_4 hR_6) rfl H_6
def g_jStringLatin1_indexOfChar_L7 (a0 : Nat) : Nat → Int → Int → Int → zS → Option (Int × zS)
  | 0, _, _, _, _ => none
  | n + 1, x3, x4, x5, σ =>
    if x3 ≤ x5 then
      some (-1, σ)
    else
      if 0 ≤ x5 ∧ x5 < zLI a0 then
      let v_16 := zs0 a0 x5
      if v_16 ≠ x4 then
        (g_jStringLatin1_indexOfChar_L7 a0 n) x3 x4 (w32 (x5 + 1)) σ
      else
        some (x5, σ)
      else none
set_option maxHeartbeats 4000000 in
theorem g_jStringLatin1_indexOfChar_L7_ok {xl : Nat} {xs : Nat → Int32} {a0 : Nat} (ha0 : zIn [19, 20, 21, 22, 23, 24, 25, 26, 27, 28, 29, 30, 31, 32, 33, 34, 35, 36] a0 = true) : ∀ (n : Nat) {X3 : Int32} {x3 : Int} {X4 : Int32} {x4 : Int} {X5 : Int32} {x5 : Int} {σ : zS} {p : Nat} {m : zM} {o : Int × zS}, X3.toInt = x3 → X4.toInt = x4 → X5.toInt = x5 → zRep xl xs p m σ → g_jStringLatin1_indexOfChar_L7 a0 n x3 x4 x5 σ = some o → zGo xl xs (fun p' => p = p') 1 312 7 [(0, .ref a0), (3, .int X3), (4, .int X4), (5, .int X5)] [] m (vI o.1) o.2
  | 0, _, _, _, _, _, _, _, _, _, _, _, _, _, _, h => by cases h
  | n + 1, X3, x3, X4, x4, X5, x5, σ, p, m, o, hx3, hx4, hx5, H, h => by
    have hq : z_mth 312 = some z_r312 := rfl
    have ih := fun {X3 : Int32} {x3 : Int} {X4 : Int32} {x4 : Int} {X5 : Int32} {x5 : Int} {σ : zS} {p : Nat} {m : zM} {o : Int × zS} => g_jStringLatin1_indexOfChar_L7_ok (xl := xl) (xs := xs) ha0 n (X3 := X3) (x3 := x3) (X4 := X4) (x4 := x4) (X5 := X5) (x5 := x5) (σ := σ) (p := p) (m := m) (o := o)
    unfold g_jStringLatin1_indexOfChar_L7 at h
    refine r_p hq 2 (pc' := 10) (L' := [(0, .ref a0), (3, .int X3), (4, .int X4), (5, .int X5)]) (st' := [.int X3, .int X5]) rfl ?_
    rcases z_ite h with ⟨c_10, h⟩ | ⟨c_10, h⟩
    · refine r_t2 (pc' := 31) (L' := [(0, .ref a0), (3, .int X3), (4, .int X4), (5, .int X5)]) hq (z_at.mk 3 rfl rfl) rfl hx5 hx3 c_10 rfl rfl ?_
      refine r_p hq 1 (pc' := 32) (L' := [(0, .ref a0), (3, .int X3), (4, .int X4), (5, .int X5)]) (st' := [.int ((-1 : Int32))]) rfl ?_
      cases h
      exact r_ri hq (z_at.mk 1 rfl rfl) rfl rfl (rfl : (-1 : Int32).toInt = -1) rfl H
    · refine r_f2 (pc' := 13) (L' := [(0, .ref a0), (3, .int X3), (4, .int X4), (5, .int X5)]) hq (z_at.mk 3 rfl rfl) rfl hx5 hx3 c_10 rfl rfl ?_
      refine r_p hq 2 (pc' := 16) (L' := [(0, .ref a0), (3, .int X3), (4, .int X4), (5, .int X5)]) (st' := [.int X5, .ref a0]) rfl ?_
      obtain ⟨g_16, h⟩ := z_ifo_some h
      refine r_ba0 (pc' := 17) (L' := [(0, .ref a0), (3, .int X3), (4, .int X4), (5, .int X5)]) H hq (z_at.mk 1 rfl rfl) (zIn_all (l := [19, 20, 21, 22, 23, 24, 25, 26, 27, 28, 29, 30, 31, 32, 33, 34, 35, 36]) (p := fun a => zAz a 2 (zLI a)) rfl ha0) hx5 g_16 rfl rfl ?_
      intro V_16 hV_16
      refine r_p hq 1 (pc' := 19) (L' := [(0, .ref a0), (3, .int X3), (4, .int X4), (5, .int X5)]) (st' := [.int X4, .int V_16]) rfl ?_
      rcases z_ite h with ⟨c_19, h⟩ | ⟨c_19, h⟩
      · refine r_t2 (pc' := 25) (L' := [(0, .ref a0), (3, .int X3), (4, .int X4), (5, .int X5)]) hq (z_at.mk 3 rfl rfl) rfl hV_16 hx4 c_19 rfl rfl ?_
        refine r_p hq 2 (pc' := 7) (L' := [(0, .ref a0), (3, .int X3), (4, .int X4), (5, .int (X5 + (1 : Int32)))]) (st' := []) rfl ?_
        exact ih hx3 hx4 (tx_iadd hx5 (rfl : (1 : Int32).toInt = 1)) H h
      · refine r_f2 (pc' := 22) (L' := [(0, .ref a0), (3, .int X3), (4, .int X4), (5, .int X5)]) hq (z_at.mk 3 rfl rfl) rfl hV_16 hx4 c_19 rfl rfl ?_
        refine r_p hq 1 (pc' := 24) (L' := [(0, .ref a0), (3, .int X3), (4, .int X4), (5, .int X5)]) (st' := [.int X5]) rfl ?_
        cases h
        exact r_ri hq (z_at.mk 1 rfl rfl) rfl rfl hx5 rfl H
def g_jStringLatin1_indexOfChar (a0 : Nat) (x1 : Int) (x2 : Int) (x3 : Int) (σ : zS) : Option (Int × zS) :=
  g_jStringLatin1_indexOfChar_L7 a0 zK x3 (w8 x1) x2 σ
set_option maxHeartbeats 4000000 in
theorem g_jStringLatin1_indexOfChar_ok {xl : Nat} {xs : Nat → Int32} {a0 : Nat} (ha0 : zIn [19, 20, 21, 22, 23, 24, 25, 26, 27, 28, 29, 30, 31, 32, 33, 34, 35, 36] a0 = true) {X1 : Int32} {x1 : Int} (hx1 : X1.toInt = x1) {X2 : Int32} {x2 : Int} (hx2 : X2.toInt = x2) {X3 : Int32} {x3 : Int} (hx3 : X3.toInt = x3) {σ : zS} {p : Nat} {m : zM} {o : Int × zS} (H : zRep xl xs p m σ) (h : g_jStringLatin1_indexOfChar a0 x1 x2 x3 σ = some o) : zGo xl xs (fun p' => p = p') 1 312 0 (z_can 312 0 (lv_args 0 [.ref a0, .int X1, .int X2, .int X3])) [] m (vI o.1) o.2 := by
  have hq : z_mth 312 = some z_r312 := rfl
  unfold g_jStringLatin1_indexOfChar at h
  show zGo xl xs (fun p' => p = p') 1 312 0 [(0, .ref a0), (1, .int X1), (2, .int X2), (3, .int X3)] [] m (vI o.1) o.2
  refine r_p hq 5 (pc' := 7) (L' := [(0, .ref a0), (3, .int X3), (4, .int X1.toInt8.toInt32), (5, .int X2)]) (st' := []) rfl ?_
  exact g_jStringLatin1_indexOfChar_L7_ok ha0 zK hx3 (tx_i2b hx1) hx2 H h
def g_jStringLatin1_canEncode_310 (x0 : Int) (σ : zS) : Option (Int × zS) :=
  if x0 < 0 then
    some (0, σ)
  else
    if 255 < x0 then
      some (0, σ)
    else
      some (1, σ)
set_option maxHeartbeats 4000000 in
theorem g_jStringLatin1_canEncode_310_ok {xl : Nat} {xs : Nat → Int32} {X0 : Int32} {x0 : Int} (hx0 : X0.toInt = x0) {σ : zS} {p : Nat} {m : zM} {o : Int × zS} (H : zRep xl xs p m σ) (h : g_jStringLatin1_canEncode_310 x0 σ = some o) : zGo xl xs (fun p' => p = p') 1 310 0 (z_can 310 0 (lv_args 0 [.int X0])) [] m (vI o.1) o.2 := by
  have hq : z_mth 310 = some z_r310 := rfl
  unfold g_jStringLatin1_canEncode_310 at h
  show zGo xl xs (fun p' => p = p') 1 310 0 [(0, .int X0)] [] m (vI o.1) o.2
  refine r_p hq 1 (pc' := 1) (L' := [(0, .int X0)]) (st' := [.int X0]) rfl ?_
  rcases z_ite h with ⟨c_1, h⟩ | ⟨c_1, h⟩
  · refine r_t1 (pc' := 15) (L' := []) hq (z_at.mk 3 rfl rfl) rfl hx0 c_1 rfl rfl ?_
    refine r_p hq 1 (pc' := 16) (L' := []) (st' := [.int ((0 : Int32))]) rfl ?_
    cases h
    exact r_ri hq (z_at.mk 1 rfl rfl) rfl rfl (rfl : (0 : Int32).toInt = 0) rfl H
  · refine r_f1 (pc' := 4) (L' := [(0, .int X0)]) hq (z_at.mk 3 rfl rfl) rfl hx0 c_1 rfl rfl ?_
    refine r_p hq 2 (pc' := 8) (L' := [(0, .int X0)]) (st' := [.int ((255 : Int32)), .int X0]) rfl ?_
    rcases z_ite h with ⟨c_8, h⟩ | ⟨c_8, h⟩
    · refine r_t2 (pc' := 15) (L' := []) hq (z_at.mk 3 rfl rfl) rfl hx0 (rfl : (255 : Int32).toInt = 255) c_8 rfl rfl ?_
      refine r_p hq 1 (pc' := 16) (L' := []) (st' := [.int ((0 : Int32))]) rfl ?_
      cases h
      exact r_ri hq (z_at.mk 1 rfl rfl) rfl rfl (rfl : (0 : Int32).toInt = 0) rfl H
    · refine r_f2 (pc' := 11) (L' := [(0, .int X0)]) hq (z_at.mk 3 rfl rfl) rfl hx0 (rfl : (255 : Int32).toInt = 255) c_8 rfl rfl ?_
      refine r_p hq 2 (pc' := 16) (L' := []) (st' := [.int ((1 : Int32))]) rfl ?_
      cases h
      exact r_ri hq (z_at.mk 1 rfl rfl) rfl rfl (rfl : (1 : Int32).toInt = 1) rfl H
