/-! THE METHODS over the typed memory, 13 (by wip/zg.py) -/
def g_m_take (x1 : Int) (σ : zS) : Option (Int × zS) :=
  (g_m_isRow x1 σ).bind fun o_1 =>
  if o_1.1 ≠ 0 then
    (g_m_rowAt x1 o_1.2).bind fun o_14 =>
    if 0 ≤ o_14.1 ∧ o_14.1 < 2740 then
    let v_17 := o_14.2 144 o_14.1
    if v_17 ≠ 0 then
      (g_m_values o_14.2).bind fun o_25 =>
      (g_m_out x1 o_25.2).bind fun o_30 =>
      (g_m_behind o_30.2).bind fun o_34 =>
      some (o_34.1, o_34.2)
    else
      some (-3, o_14.2)
    else none
  else
    some (-1, o_1.2)
set_option maxHeartbeats 4000000 in
theorem g_m_take_ok {xl : Nat} {xs : Nat → Int32} {X1 : Int32} {x1 : Int} (hx1 : X1.toInt = x1) {σ : zS} {p : Nat} {m : zM} {o : Int × zS} (H : zRep xl xs p m σ) (h : g_m_take x1 σ = some o) : zGo xl xs (fun p' => p = p') 508 207 0 (z_can 207 0 (lv_args 0 [.ref 143, .int X1])) [] m (vI o.1) o.2 := by
  have hq : z_mth 207 = some z_r207 := rfl
  unfold g_m_take at h
  show zGo xl xs (fun p' => p = p') 508 207 0 [(0, .ref 143), (1, .int X1)] [] m (vI o.1) o.2
  refine r_p hq 1 (pc' := 1) (L' := [(0, .ref 143), (1, .int X1)]) (st' := [.int X1]) rfl ?_
  obtain ⟨o_1, h_1, h⟩ := Option.bind_eq_some_iff.mp h
  refine r_csI (pc' := 4) (L' := [(0, .ref 143), (1, .int X1)]) (As := [.int X1]) (rest := []) (j := 204) hq (z_at.mk 3 rfl rfl) (Or.inl ⟨rfl, rfl⟩) rfl rfl (by omega) (g_m_isRow_ok hx1 H h_1) rfl rfl ?_
  intro R_1 m_1 p_1 e_1 hR_1 H_1
  subst e_1
  rcases z_ite h with ⟨c_4, h⟩ | ⟨c_4, h⟩
  · refine r_t1 (pc' := 9) (L' := [(0, .ref 143), (1, .int X1)]) hq (z_at.mk 3 rfl rfl) rfl hR_1 c_4 rfl rfl ?_
    refine r_p hq 1 (pc' := 10) (L' := [(0, .ref 143), (1, .int X1)]) (st' := [.ref 143]) rfl ?_
    refine r_gR (b := 144) (pc' := 13) (L' := [(0, .ref 143), (1, .int X1)]) H_1 hq (z_at.mk 3 rfl rfl) rfl rfl rfl rfl ?_
    refine r_p hq 1 (pc' := 14) (L' := [(0, .ref 143), (1, .int X1)]) (st' := [.int X1, .ref 144]) rfl ?_
    obtain ⟨o_14, h_14, h⟩ := Option.bind_eq_some_iff.mp h
    refine r_csI (pc' := 17) (L' := [(0, .ref 143), (1, .int X1)]) (As := [.int X1]) (rest := [.ref 144]) (j := 174) hq (z_at.mk 3 rfl rfl) (Or.inl ⟨rfl, rfl⟩) rfl rfl (by omega) (g_m_rowAt_ok hx1 H_1 h_14) rfl rfl ?_
    intro R_14 m_14 p_14 e_14 hR_14 H_14
    subst e_14
    obtain ⟨g_17, h⟩ := z_ifo_some h
    refine r_ia (pc' := 18) (L' := [(0, .ref 143), (1, .int X1)]) H_14 hq (z_at.mk 1 rfl rfl) (show zAr 144 0 2740 = true from rfl) hR_14 g_17 rfl rfl ?_
    intro V_17 hV_17
    rcases z_ite h with ⟨c_18, h⟩ | ⟨c_18, h⟩
    · refine r_t1 (pc' := 24) (L' := [(0, .ref 143), (1, .int X1)]) hq (z_at.mk 3 rfl rfl) rfl hV_17 c_18 rfl rfl ?_
      refine r_p hq 1 (pc' := 25) (L' := [(0, .ref 143), (1, .int X1)]) (st' := [.ref 143]) rfl ?_
      obtain ⟨o_25, h_25, h⟩ := Option.bind_eq_some_iff.mp h
      refine r_cvV (pc' := 28) (L' := [(0, .ref 143), (1, .int X1)]) (Ps := []) (rest := []) hq (z_at.mk 3 rfl rfl) (Or.inl ⟨rfl, rfl⟩) rfl rfl (by decide) (by decide) rfl (Nat.not_lt.mpr (Nat.le_of_ble_eq_true rfl)) rfl rfl (z_cat_le 0 rfl (by decide)) (z_lgl_le 1 rfl (by decide)) (by decide) (H_14.tg rfl) (by omega) (g_m_values_ok H_14 h_25) rfl rfl ?_
      intro m_25 p_25 e_25 H_25
      subst e_25
      refine r_p hq 2 (pc' := 30) (L' := [(0, .ref 143), (1, .int X1)]) (st' := [.int X1, .ref 143]) rfl ?_
      obtain ⟨o_30, h_30, h⟩ := Option.bind_eq_some_iff.mp h
      refine r_cvV (pc' := 33) (L' := [(0, .ref 143), (1, .int X1)]) (Ps := [.int X1]) (rest := []) hq (z_at.mk 3 rfl rfl) (Or.inl ⟨rfl, rfl⟩) rfl rfl (by decide) (by decide) rfl (Nat.not_lt.mpr (Nat.le_of_ble_eq_true rfl)) rfl rfl (z_cat_le 0 rfl (by decide)) (z_lgl_le 2 rfl (by decide)) (by decide) (H_25.tg rfl) (by omega) (g_m_out_ok hx1 H_25 h_30) rfl rfl ?_
      intro m_30 p_30 e_30 H_30
      subst e_30
      refine r_p hq 1 (pc' := 34) (L' := [(0, .ref 143), (1, .int X1)]) (st' := [.ref 143]) rfl ?_
      obtain ⟨o_34, h_34, h⟩ := Option.bind_eq_some_iff.mp h
      refine r_cvI (pc' := 37) (L' := [(0, .ref 143), (1, .int X1)]) (Ps := []) (rest := []) hq (z_at.mk 3 rfl rfl) (Or.inl ⟨rfl, rfl⟩) rfl rfl (by decide) (by decide) rfl (Nat.not_lt.mpr (Nat.le_of_ble_eq_true rfl)) rfl rfl (z_cat_le 0 rfl (by decide)) (z_lgl_le 1 rfl (by decide)) (by decide) (H_30.tg rfl) (by omega) (g_m_behind_ok H_30 h_34) rfl rfl ?_
      intro R_34 m_34 p_34 e_34 hR_34 H_34
      subst e_34
      cases h
      exact r_ri hq (z_at.mk 1 rfl rfl) rfl rfl hR_34 rfl H_34
    · refine r_f1 (pc' := 21) (L' := [(0, .ref 143), (1, .int X1)]) hq (z_at.mk 3 rfl rfl) rfl hV_17 c_18 rfl rfl ?_
      refine r_p hq 1 (pc' := 23) (L' := [(0, .ref 143), (1, .int X1)]) (st' := [.int ((-3 : Int32))]) rfl ?_
      cases h
      exact r_ri hq (z_at.mk 1 rfl rfl) rfl rfl (rfl : (-3 : Int32).toInt = -3) rfl H_14
  · refine r_f1 (pc' := 7) (L' := [(0, .ref 143), (1, .int X1)]) hq (z_at.mk 3 rfl rfl) rfl hR_1 c_4 rfl rfl ?_
    refine r_p hq 1 (pc' := 8) (L' := [(0, .ref 143), (1, .int X1)]) (st' := [.int ((-1 : Int32))]) rfl ?_
    cases h
    exact r_ri hq (z_at.mk 1 rfl rfl) rfl rfl (rfl : (-1 : Int32).toInt = -1) rfl H_1
def g_m_row (x1 : Int) (x2 : Int) (σ : zS) : Option (Int × zS) :=
  (g_m_isRow x1 σ).bind fun o_1 =>
  if o_1.1 = 0 then
    some (-1, o_1.2)
  else
    (g_m_isIn x2 0 1 o_1.2).bind fun o_10 =>
    if o_10.1 ≠ 0 then
      (g_m_rowAt x1 o_10.2).bind fun o_25 =>
      if 0 ≤ o_25.1 ∧ o_25.1 < 2740 then
      let v_28 := o_25.2 144 o_25.1
      if v_28 ≠ 0 then
        (g_m_rowAt x1 o_25.2).bind fun o_42 =>
        if 0 ≤ w32 ((w32 (o_42.1 + 1)) + x2) ∧ w32 ((w32 (o_42.1 + 1)) + x2) < 2740 then
        let v_49 := o_42.2 144 (w32 ((w32 (o_42.1 + 1)) + x2))
        some (v_49, o_42.2)
        else none
      else
        some (-3, o_25.2)
      else none
    else
      some (-1, o_10.2)
set_option maxHeartbeats 4000000 in
theorem g_m_row_ok {xl : Nat} {xs : Nat → Int32} {X1 : Int32} {x1 : Int} (hx1 : X1.toInt = x1) {X2 : Int32} {x2 : Int} (hx2 : X2.toInt = x2) {σ : zS} {p : Nat} {m : zM} {o : Int × zS} (H : zRep xl xs p m σ) (h : g_m_row x1 x2 σ = some o) : zGo xl xs (fun p' => p = p') 3 208 0 (z_can 208 0 (lv_args 0 [.ref 143, .int X1, .int X2])) [] m (vI o.1) o.2 := by
  have hq : z_mth 208 = some z_r208 := rfl
  unfold g_m_row at h
  show zGo xl xs (fun p' => p = p') 3 208 0 [(0, .ref 143), (1, .int X1), (2, .int X2)] [] m (vI o.1) o.2
  refine r_p hq 1 (pc' := 1) (L' := [(0, .ref 143), (1, .int X1), (2, .int X2)]) (st' := [.int X1]) rfl ?_
  obtain ⟨o_1, h_1, h⟩ := Option.bind_eq_some_iff.mp h
  refine r_csI (pc' := 4) (L' := [(0, .ref 143), (1, .int X1), (2, .int X2)]) (As := [.int X1]) (rest := []) (j := 204) hq (z_at.mk 3 rfl rfl) (Or.inl ⟨rfl, rfl⟩) rfl rfl (by omega) (g_m_isRow_ok hx1 H h_1) rfl rfl ?_
  intro R_1 m_1 p_1 e_1 hR_1 H_1
  subst e_1
  rcases z_ite h with ⟨c_4, h⟩ | ⟨c_4, h⟩
  · refine r_t1 (pc' := 16) (L' := []) hq (z_at.mk 3 rfl rfl) rfl hR_1 c_4 rfl rfl ?_
    refine r_p hq 2 (pc' := 50) (L' := []) (st' := [.int ((-1 : Int32))]) rfl ?_
    cases h
    exact r_ri hq (z_at.mk 1 rfl rfl) rfl rfl (rfl : (-1 : Int32).toInt = -1) rfl H_1
  · refine r_f1 (pc' := 7) (L' := [(0, .ref 143), (1, .int X1), (2, .int X2)]) hq (z_at.mk 3 rfl rfl) rfl hR_1 c_4 rfl rfl ?_
    refine r_p hq 3 (pc' := 10) (L' := [(0, .ref 143), (1, .int X1), (2, .int X2)]) (st' := [.int ((1 : Int32)), .int ((0 : Int32)), .int X2]) rfl ?_
    obtain ⟨o_10, h_10, h⟩ := Option.bind_eq_some_iff.mp h
    refine r_csI (pc' := 13) (L' := [(0, .ref 143), (1, .int X1), (2, .int X2)]) (As := [.int X2, .int ((0 : Int32)), .int ((1 : Int32))]) (rest := []) (j := 159) hq (z_at.mk 3 rfl rfl) (Or.inl ⟨rfl, rfl⟩) rfl rfl (by omega) (g_m_isIn_ok hx2 (rfl : (0 : Int32).toInt = 0) (rfl : (1 : Int32).toInt = 1) H_1 h_10) rfl rfl ?_
    intro R_10 m_10 p_10 e_10 hR_10 H_10
    subst e_10
    rcases z_ite h with ⟨c_13, h⟩ | ⟨c_13, h⟩
    · refine r_t1 (pc' := 20) (L' := [(0, .ref 143), (1, .int X1), (2, .int X2)]) hq (z_at.mk 3 rfl rfl) rfl hR_10 c_13 rfl rfl ?_
      refine r_p hq 1 (pc' := 21) (L' := [(0, .ref 143), (1, .int X1), (2, .int X2)]) (st' := [.ref 143]) rfl ?_
      refine r_gR (b := 144) (pc' := 24) (L' := [(0, .ref 143), (1, .int X1), (2, .int X2)]) H_10 hq (z_at.mk 3 rfl rfl) rfl rfl rfl rfl ?_
      refine r_p hq 1 (pc' := 25) (L' := [(0, .ref 143), (1, .int X1), (2, .int X2)]) (st' := [.int X1, .ref 144]) rfl ?_
      obtain ⟨o_25, h_25, h⟩ := Option.bind_eq_some_iff.mp h
      refine r_csI (pc' := 28) (L' := [(0, .ref 143), (1, .int X1), (2, .int X2)]) (As := [.int X1]) (rest := [.ref 144]) (j := 174) hq (z_at.mk 3 rfl rfl) (Or.inl ⟨rfl, rfl⟩) rfl rfl (by omega) (g_m_rowAt_ok hx1 H_10 h_25) rfl rfl ?_
      intro R_25 m_25 p_25 e_25 hR_25 H_25
      subst e_25
      obtain ⟨g_28, h⟩ := z_ifo_some h
      refine r_ia (pc' := 29) (L' := [(0, .ref 143), (1, .int X1), (2, .int X2)]) H_25 hq (z_at.mk 1 rfl rfl) (show zAr 144 0 2740 = true from rfl) hR_25 g_28 rfl rfl ?_
      intro V_28 hV_28
      rcases z_ite h with ⟨c_29, h⟩ | ⟨c_29, h⟩
      · refine r_t1 (pc' := 37) (L' := [(0, .ref 143), (1, .int X1), (2, .int X2)]) hq (z_at.mk 3 rfl rfl) rfl hV_28 c_29 rfl rfl ?_
        refine r_p hq 1 (pc' := 38) (L' := [(0, .ref 143), (1, .int X1), (2, .int X2)]) (st' := [.ref 143]) rfl ?_
        refine r_gR (b := 144) (pc' := 41) (L' := [(0, .ref 143), (1, .int X1), (2, .int X2)]) H_25 hq (z_at.mk 3 rfl rfl) rfl rfl rfl rfl ?_
        refine r_p hq 1 (pc' := 42) (L' := [(0, .ref 143), (1, .int X1), (2, .int X2)]) (st' := [.int X1, .ref 144]) rfl ?_
        obtain ⟨o_42, h_42, h⟩ := Option.bind_eq_some_iff.mp h
        refine r_csI (pc' := 45) (L' := [(0, .ref 143), (1, .int X1), (2, .int X2)]) (As := [.int X1]) (rest := [.ref 144]) (j := 174) hq (z_at.mk 3 rfl rfl) (Or.inl ⟨rfl, rfl⟩) rfl rfl (by omega) (g_m_rowAt_ok hx1 H_25 h_42) rfl rfl ?_
        intro R_42 m_42 p_42 e_42 hR_42 H_42
        subst e_42
        refine r_p hq 4 (pc' := 49) (L' := [(0, .ref 143), (1, .int X1), (2, .int X2)]) (st' := [.int ((R_42 + ((1 : Int32))) + X2), .ref 144]) rfl ?_
        obtain ⟨g_49, h⟩ := z_ifo_some h
        refine r_ia (pc' := 50) (L' := []) H_42 hq (z_at.mk 1 rfl rfl) (show zAr 144 0 2740 = true from rfl) (tx_iadd (tx_iadd hR_42 (rfl : (1 : Int32).toInt = 1)) hx2) g_49 rfl rfl ?_
        intro V_49 hV_49
        cases h
        exact r_ri hq (z_at.mk 1 rfl rfl) rfl rfl hV_49 rfl H_42
      · refine r_f1 (pc' := 32) (L' := [(0, .ref 143), (1, .int X1), (2, .int X2)]) hq (z_at.mk 3 rfl rfl) rfl hV_28 c_29 rfl rfl ?_
        refine r_p hq 2 (pc' := 50) (L' := []) (st' := [.int ((-3 : Int32))]) rfl ?_
        cases h
        exact r_ri hq (z_at.mk 1 rfl rfl) rfl rfl (rfl : (-3 : Int32).toInt = -3) rfl H_25
    · refine r_f1 (pc' := 16) (L' := []) hq (z_at.mk 3 rfl rfl) rfl hR_10 c_13 rfl rfl ?_
      refine r_p hq 2 (pc' := 50) (L' := []) (st' := [.int ((-1 : Int32))]) rfl ?_
      cases h
      exact r_ri hq (z_at.mk 1 rfl rfl) rfl rfl (rfl : (-1 : Int32).toInt = -1) rfl H_10
def g_m_worth (x1 : Int) (σ : zS) : Option (Int × zS) :=
  (g_m_isRow x1 σ).bind fun o_1 =>
  if o_1.1 = 0 then
    some (-9223372036854775808, o_1.2)
  else
    (g_m_rowAt x1 o_1.2).bind fun o_12 =>
    if 0 ≤ o_12.1 ∧ o_12.1 < 2740 then
    let v_15 := o_12.2 144 o_12.1
    if v_15 ≠ 1 then
      some (-9223372036854775808, o_12.2)
    else
      if 0 ≤ w32 (1 + x1) ∧ w32 (1 + x1) < 361 then
      let v_27 := o_12.2 147 (w32 (1 + x1))
      some (v_27, o_12.2)
      else none
    else none
set_option maxHeartbeats 4000000 in
theorem g_m_worth_ok {xl : Nat} {xs : Nat → Int32} {X1 : Int32} {x1 : Int} (hx1 : X1.toInt = x1) {σ : zS} {p : Nat} {m : zM} {o : Int × zS} (H : zRep xl xs p m σ) (h : g_m_worth x1 σ = some o) : zGo xl xs (fun p' => p = p') 3 209 0 (z_can 209 0 (lv_args 0 [.ref 143, .int X1])) [] m (vL o.1) o.2 := by
  have hq : z_mth 209 = some z_r209 := rfl
  unfold g_m_worth at h
  show zGo xl xs (fun p' => p = p') 3 209 0 [(0, .ref 143), (1, .int X1)] [] m (vL o.1) o.2
  refine r_p hq 1 (pc' := 1) (L' := [(0, .ref 143), (1, .int X1)]) (st' := [.int X1]) rfl ?_
  obtain ⟨o_1, h_1, h⟩ := Option.bind_eq_some_iff.mp h
  refine r_csI (pc' := 4) (L' := [(0, .ref 143), (1, .int X1)]) (As := [.int X1]) (rest := []) (j := 204) hq (z_at.mk 3 rfl rfl) (Or.inl ⟨rfl, rfl⟩) rfl rfl (by omega) (g_m_isRow_ok hx1 H h_1) rfl rfl ?_
  intro R_1 m_1 p_1 e_1 hR_1 H_1
  subst e_1
  rcases z_ite h with ⟨c_4, h⟩ | ⟨c_4, h⟩
  · refine r_t1 (pc' := 31) (L' := []) hq (z_at.mk 3 rfl rfl) rfl hR_1 c_4 rfl rfl ?_
    refine r_p hq 1 (pc' := 34) (L' := []) (st' := [.long ((-9223372036854775808 : Int64))]) rfl ?_
    cases h
    exact r_rl hq (z_at.mk 1 rfl rfl) rfl (rfl : (-9223372036854775808 : Int64).toInt = -9223372036854775808) rfl H_1
  · refine r_f1 (pc' := 7) (L' := [(0, .ref 143), (1, .int X1)]) hq (z_at.mk 3 rfl rfl) rfl hR_1 c_4 rfl rfl ?_
    refine r_p hq 1 (pc' := 8) (L' := [(0, .ref 143), (1, .int X1)]) (st' := [.ref 143]) rfl ?_
    refine r_gR (b := 144) (pc' := 11) (L' := [(0, .ref 143), (1, .int X1)]) H_1 hq (z_at.mk 3 rfl rfl) rfl rfl rfl rfl ?_
    refine r_p hq 1 (pc' := 12) (L' := [(0, .ref 143), (1, .int X1)]) (st' := [.int X1, .ref 144]) rfl ?_
    obtain ⟨o_12, h_12, h⟩ := Option.bind_eq_some_iff.mp h
    refine r_csI (pc' := 15) (L' := [(0, .ref 143), (1, .int X1)]) (As := [.int X1]) (rest := [.ref 144]) (j := 174) hq (z_at.mk 3 rfl rfl) (Or.inl ⟨rfl, rfl⟩) rfl rfl (by omega) (g_m_rowAt_ok hx1 H_1 h_12) rfl rfl ?_
    intro R_12 m_12 p_12 e_12 hR_12 H_12
    subst e_12
    obtain ⟨g_15, h⟩ := z_ifo_some h
    refine r_ia (pc' := 16) (L' := [(0, .ref 143), (1, .int X1)]) H_12 hq (z_at.mk 1 rfl rfl) (show zAr 144 0 2740 = true from rfl) hR_12 g_15 rfl rfl ?_
    intro V_15 hV_15
    refine r_p hq 1 (pc' := 17) (L' := [(0, .ref 143), (1, .int X1)]) (st' := [.int ((1 : Int32)), .int V_15]) rfl ?_
    rcases z_ite h with ⟨c_17, h⟩ | ⟨c_17, h⟩
    · refine r_t2 (pc' := 31) (L' := []) hq (z_at.mk 3 rfl rfl) rfl hV_15 (rfl : (1 : Int32).toInt = 1) c_17 rfl rfl ?_
      refine r_p hq 1 (pc' := 34) (L' := []) (st' := [.long ((-9223372036854775808 : Int64))]) rfl ?_
      cases h
      exact r_rl hq (z_at.mk 1 rfl rfl) rfl (rfl : (-9223372036854775808 : Int64).toInt = -9223372036854775808) rfl H_12
    · refine r_f2 (pc' := 20) (L' := [(0, .ref 143), (1, .int X1)]) hq (z_at.mk 3 rfl rfl) rfl hV_15 (rfl : (1 : Int32).toInt = 1) c_17 rfl rfl ?_
      refine r_p hq 1 (pc' := 21) (L' := [(0, .ref 143), (1, .int X1)]) (st' := [.ref 143]) rfl ?_
      refine r_gR (b := 147) (pc' := 24) (L' := [(0, .ref 143), (1, .int X1)]) H_12 hq (z_at.mk 3 rfl rfl) rfl rfl rfl rfl ?_
      refine r_p hq 3 (pc' := 27) (L' := [(0, .ref 143), (1, .int X1)]) (st' := [.int (((1 : Int32)) + X1), .ref 147]) rfl ?_
      obtain ⟨g_27, h⟩ := z_ifo_some h
      refine r_la (pc' := 28) (L' := [(0, .ref 143), (1, .int X1)]) H_12 hq (z_at.mk 1 rfl rfl) (show zAr 147 1 361 = true from rfl) (tx_iadd (rfl : (1 : Int32).toInt = 1) hx1) g_27 rfl rfl ?_
      intro V_27 hV_27
      refine r_p hq 1 (pc' := 34) (L' := []) (st' := [.long V_27]) rfl ?_
      cases h
      exact r_rl hq (z_at.mk 1 rfl rfl) rfl hV_27 rfl H_12
def g_m_feed (x1 : Int) (σ : zS) : Option (Int × zS) :=
  (g_m_isIn x1 1 127 σ).bind fun o_4 =>
  if o_4.1 ≠ 0 then
    let v_14 := o_4.2 143 20
    if v_14 ≠ 160 then
      let v_31 := o_4.2 143 20
      if 0 ≤ v_31 ∧ v_31 < 160 then
      let s_35 := zu o_4.2 159 v_31 x1
      let v_38 := s_35 143 20
      let s_43 := zu s_35 143 20 (w32 (v_38 + 1))
      let v_47 := s_43 143 20
      some (v_47, s_43)
      else none
    else
      some (-4, o_4.2)
  else
    some (-2, o_4.2)
set_option maxHeartbeats 4000000 in
theorem g_m_feed_ok {xl : Nat} {xs : Nat → Int32} {X1 : Int32} {x1 : Int} (hx1 : X1.toInt = x1) {σ : zS} {p : Nat} {m : zM} {o : Int × zS} (H : zRep xl xs p m σ) (h : g_m_feed x1 σ = some o) : zGo xl xs (fun p' => p = p') 2 210 0 (z_can 210 0 (lv_args 0 [.ref 143, .int X1])) [] m (vI o.1) o.2 := by
  have hq : z_mth 210 = some z_r210 := rfl
  unfold g_m_feed at h
  show zGo xl xs (fun p' => p = p') 2 210 0 [(0, .ref 143), (1, .int X1)] [] m (vI o.1) o.2
  refine r_p hq 3 (pc' := 4) (L' := [(0, .ref 143), (1, .int X1)]) (st' := [.int ((127 : Int32)), .int ((1 : Int32)), .int X1]) rfl ?_
  obtain ⟨o_4, h_4, h⟩ := Option.bind_eq_some_iff.mp h
  refine r_csI (pc' := 7) (L' := [(0, .ref 143), (1, .int X1)]) (As := [.int X1, .int ((1 : Int32)), .int ((127 : Int32))]) (rest := []) (j := 159) hq (z_at.mk 3 rfl rfl) (Or.inl ⟨rfl, rfl⟩) rfl rfl (by omega) (g_m_isIn_ok hx1 (rfl : (1 : Int32).toInt = 1) (rfl : (127 : Int32).toInt = 127) H h_4) rfl rfl ?_
  intro R_4 m_4 p_4 e_4 hR_4 H_4
  subst e_4
  rcases z_ite h with ⟨c_7, h⟩ | ⟨c_7, h⟩
  · refine r_t1 (pc' := 13) (L' := [(0, .ref 143), (1, .int X1)]) hq (z_at.mk 3 rfl rfl) rfl hR_4 c_7 rfl rfl ?_
    refine r_p hq 1 (pc' := 14) (L' := [(0, .ref 143), (1, .int X1)]) (st' := [.ref 143]) rfl ?_
    refine r_gI (pc' := 17) (L' := [(0, .ref 143), (1, .int X1)]) H_4 hq (z_at.mk 3 rfl rfl) rfl rfl rfl rfl ?_
    intro V_14 hV_14
    refine r_p hq 1 (pc' := 20) (L' := [(0, .ref 143), (1, .int X1)]) (st' := [.int ((160 : Int32)), .int V_14]) rfl ?_
    rcases z_ite h with ⟨c_20, h⟩ | ⟨c_20, h⟩
    · refine r_t2 (pc' := 26) (L' := [(0, .ref 143), (1, .int X1)]) hq (z_at.mk 3 rfl rfl) rfl hV_14 (rfl : (160 : Int32).toInt = 160) c_20 rfl rfl ?_
      refine r_p hq 1 (pc' := 27) (L' := [(0, .ref 143), (1, .int X1)]) (st' := [.ref 143]) rfl ?_
      refine r_gR (b := 159) (pc' := 30) (L' := [(0, .ref 143), (1, .int X1)]) H_4 hq (z_at.mk 3 rfl rfl) rfl rfl rfl rfl ?_
      refine r_p hq 1 (pc' := 31) (L' := [(0, .ref 143), (1, .int X1)]) (st' := [.ref 143, .ref 159]) rfl ?_
      refine r_gI (pc' := 34) (L' := [(0, .ref 143), (1, .int X1)]) H_4 hq (z_at.mk 3 rfl rfl) rfl rfl rfl rfl ?_
      intro V_31 hV_31
      refine r_p hq 1 (pc' := 35) (L' := [(0, .ref 143), (1, .int X1)]) (st' := [.int X1, .int V_31, .ref 159]) rfl ?_
      obtain ⟨g_35, h⟩ := z_ifo_some h
      refine r_is (pc' := 36) (L' := [(0, .ref 143), (1, .int X1)]) H_4 hq (z_at.mk 1 rfl rfl) (show zAr 159 0 160 = true from rfl) hV_31 g_35 hx1 rfl rfl ?_
      intro m_35 H_35
      refine r_p hq 2 (pc' := 38) (L' := [(0, .ref 143), (1, .int X1)]) (st' := [.ref 143, .ref 143]) rfl ?_
      refine r_gI (pc' := 41) (L' := [(0, .ref 143), (1, .int X1)]) H_35 hq (z_at.mk 3 rfl rfl) rfl rfl rfl rfl ?_
      intro V_38 hV_38
      refine r_p hq 2 (pc' := 43) (L' := [(0, .ref 143), (1, .int X1)]) (st' := [.int (V_38 + ((1 : Int32))), .ref 143]) rfl ?_
      refine r_pI (X := V_38 + ((1 : Int32))) (pc' := 46) (L' := [(0, .ref 143), (1, .int X1)]) H_35 hq (z_at.mk 3 rfl rfl) rfl rfl (tx_iadd hV_38 (rfl : (1 : Int32).toInt = 1)) (by decide) rfl rfl rfl rfl ?_
      intro m_43 H_43
      refine r_p hq 1 (pc' := 47) (L' := [(0, .ref 143), (1, .int X1)]) (st' := [.ref 143]) rfl ?_
      refine r_gI (pc' := 50) (L' := [(0, .ref 143), (1, .int X1)]) H_43 hq (z_at.mk 3 rfl rfl) rfl rfl rfl rfl ?_
      intro V_47 hV_47
      cases h
      exact r_ri hq (z_at.mk 1 rfl rfl) rfl rfl hV_47 rfl H_43
    · refine r_f2 (pc' := 23) (L' := [(0, .ref 143), (1, .int X1)]) hq (z_at.mk 3 rfl rfl) rfl hV_14 (rfl : (160 : Int32).toInt = 160) c_20 rfl rfl ?_
      refine r_p hq 1 (pc' := 25) (L' := [(0, .ref 143), (1, .int X1)]) (st' := [.int ((-4 : Int32))]) rfl ?_
      cases h
      exact r_ri hq (z_at.mk 1 rfl rfl) rfl rfl (rfl : (-4 : Int32).toInt = -4) rfl H_4
  · refine r_f1 (pc' := 10) (L' := [(0, .ref 143), (1, .int X1)]) hq (z_at.mk 3 rfl rfl) rfl hR_4 c_7 rfl rfl ?_
    refine r_p hq 1 (pc' := 12) (L' := [(0, .ref 143), (1, .int X1)]) (st' := [.int ((-2 : Int32))]) rfl ?_
    cases h
    exact r_ri hq (z_at.mk 1 rfl rfl) rfl rfl (rfl : (-2 : Int32).toInt = -2) rfl H_4
def g_m_clear (σ : zS) : Option (Int × zS) :=
  let v_1 := σ 143 20
  let s_7 := zu σ 143 20 0
  some (v_1, s_7)
set_option maxHeartbeats 4000000 in
theorem g_m_clear_ok {xl : Nat} {xs : Nat → Int32} {σ : zS} {p : Nat} {m : zM} {o : Int × zS} (H : zRep xl xs p m σ) (h : g_m_clear σ = some o) : zGo xl xs (fun p' => p = p') 1 211 0 (z_can 211 0 (lv_args 0 [.ref 143])) [] m (vI o.1) o.2 := by
  have hq : z_mth 211 = some z_r211 := rfl
  unfold g_m_clear at h
  show zGo xl xs (fun p' => p = p') 1 211 0 [(0, .ref 143)] [] m (vI o.1) o.2
  refine r_p hq 1 (pc' := 1) (L' := [(0, .ref 143)]) (st' := [.ref 143]) rfl ?_
  refine r_gI (pc' := 4) (L' := [(0, .ref 143)]) H hq (z_at.mk 3 rfl rfl) rfl rfl rfl rfl ?_
  intro V_1 hV_1
  refine r_p hq 3 (pc' := 7) (L' := [(1, .int V_1), (0, .ref 143)]) (st' := [.int ((0 : Int32)), .ref 143]) rfl ?_
  refine r_pI (X := (0 : Int32)) (pc' := 10) (L' := [(1, .int V_1), (0, .ref 143)]) H hq (z_at.mk 3 rfl rfl) rfl rfl (rfl : (0 : Int32).toInt = 0) (by decide) rfl rfl rfl rfl ?_
  intro m_7 H_7
  refine r_p hq 1 (pc' := 11) (L' := [(1, .int V_1), (0, .ref 143)]) (st' := [.int V_1]) rfl ?_
  cases h
  exact r_ri hq (z_at.mk 1 rfl rfl) rfl rfl hV_1 rfl H_7
def g_m_isSign (x1 : Int) (σ : zS) : Option (Int × zS) :=
  (g_m_here σ).bind fun o_1 =>
  if o_1.1 = x1 then
    let v_19 := o_1.2 143 21
    let s_24 := zu o_1.2 143 21 (w32 (v_19 + 1))
    some (1, s_24)
  else
    let v_10 := o_1.2 143 21
    (g_m_fails v_10 o_1.2).bind fun o_13 =>
    if o_13.1 = 0 ∨ o_13.1 = 1 then some (o_13.1, o_13.2) else none
set_option maxHeartbeats 4000000 in
theorem g_m_isSign_ok {xl : Nat} {xs : Nat → Int32} {X1 : Int32} {x1 : Int} (hx1 : X1.toInt = x1) {σ : zS} {p : Nat} {m : zM} {o : Int × zS} (H : zRep xl xs p m σ) (h : g_m_isSign x1 σ = some o) : zGo xl xs (fun p' => p = p') 2 214 0 (z_can 214 0 (lv_args 0 [.ref 143, .int X1])) [] m (vI o.1) o.2 := by
  have hq : z_mth 214 = some z_r214 := rfl
  unfold g_m_isSign at h
  show zGo xl xs (fun p' => p = p') 2 214 0 [(0, .ref 143), (1, .int X1)] [] m (vI o.1) o.2
  refine r_p hq 1 (pc' := 1) (L' := [(0, .ref 143), (1, .int X1)]) (st' := [.ref 143]) rfl ?_
  obtain ⟨o_1, h_1, h⟩ := Option.bind_eq_some_iff.mp h
  refine r_cvI (pc' := 4) (L' := [(0, .ref 143), (1, .int X1)]) (Ps := []) (rest := []) hq (z_at.mk 3 rfl rfl) (Or.inl ⟨rfl, rfl⟩) rfl rfl (by decide) (by decide) rfl (Nat.not_lt.mpr (Nat.le_of_ble_eq_true rfl)) rfl rfl (z_cat_le 0 rfl (by decide)) (z_lgl_le 1 rfl (by decide)) (by decide) (H.tg rfl) (by omega) (g_m_here_ok H h_1) rfl rfl ?_
  intro R_1 m_1 p_1 e_1 hR_1 H_1
  subst e_1
  refine r_p hq 1 (pc' := 5) (L' := [(0, .ref 143), (1, .int X1)]) (st' := [.int X1, .int R_1]) rfl ?_
  rcases z_ite h with ⟨c_5, h⟩ | ⟨c_5, h⟩
  · refine r_t2 (pc' := 17) (L' := [(0, .ref 143), (1, .int X1)]) hq (z_at.mk 3 rfl rfl) rfl hR_1 hx1 c_5 rfl rfl ?_
    refine r_p hq 2 (pc' := 19) (L' := [(0, .ref 143), (1, .int X1)]) (st' := [.ref 143, .ref 143]) rfl ?_
    refine r_gI (pc' := 22) (L' := [(0, .ref 143), (1, .int X1)]) H_1 hq (z_at.mk 3 rfl rfl) rfl rfl rfl rfl ?_
    intro V_19 hV_19
    refine r_p hq 2 (pc' := 24) (L' := [(0, .ref 143), (1, .int X1)]) (st' := [.int (V_19 + ((1 : Int32))), .ref 143]) rfl ?_
    refine r_pI (X := V_19 + ((1 : Int32))) (pc' := 27) (L' := [(0, .ref 143), (1, .int X1)]) H_1 hq (z_at.mk 3 rfl rfl) rfl rfl (tx_iadd hV_19 (rfl : (1 : Int32).toInt = 1)) (by decide) rfl rfl rfl rfl ?_
    intro m_24 H_24
    refine r_p hq 1 (pc' := 28) (L' := [(0, .ref 143), (1, .int X1)]) (st' := [.int ((1 : Int32))]) rfl ?_
    cases h
    exact r_ri hq (z_at.mk 1 rfl rfl) rfl rfl (rfl : (1 : Int32).toInt = 1) rfl H_24
  · refine r_f2 (pc' := 8) (L' := [(0, .ref 143), (1, .int X1)]) hq (z_at.mk 3 rfl rfl) rfl hR_1 hx1 c_5 rfl rfl ?_
    refine r_p hq 2 (pc' := 10) (L' := [(0, .ref 143), (1, .int X1)]) (st' := [.ref 143, .ref 143]) rfl ?_
    refine r_gI (pc' := 13) (L' := [(0, .ref 143), (1, .int X1)]) H_1 hq (z_at.mk 3 rfl rfl) rfl rfl rfl rfl ?_
    intro V_10 hV_10
    obtain ⟨o_13, h_13, h⟩ := Option.bind_eq_some_iff.mp h
    refine r_cvI (pc' := 16) (L' := [(0, .ref 143), (1, .int X1)]) (Ps := [.int V_10]) (rest := []) hq (z_at.mk 3 rfl rfl) (Or.inl ⟨rfl, rfl⟩) rfl rfl (by decide) (by decide) rfl (Nat.not_lt.mpr (Nat.le_of_ble_eq_true rfl)) rfl rfl (z_cat_le 0 rfl (by decide)) (z_lgl_le 2 rfl (by decide)) (by decide) (H_1.tg rfl) (by omega) (g_m_fails_ok hV_10 H_1 h_13) rfl rfl ?_
    intro R_13 m_13 p_13 e_13 hR_13 H_13
    subst e_13
    obtain ⟨g_16, h⟩ := z_if_some h
    cases h
    exact r_ri hq (z_at.mk 1 rfl rfl) rfl (z_rty_bo hR_13 g_16) hR_13 rfl H_13
def g_m_wordEnd_L5 : Nat → Int → zS → Option (Int × zS)
  | 0, _, _ => none
  | n + 1, x1, σ =>
    let v_7 := σ 143 20
    if v_7 ≤ x1 then
      some (x1, σ)
    else
      if 0 ≤ x1 ∧ x1 < 160 then
      let v_18 := σ 159 x1
      (g_m_isIn v_18 97 122 σ).bind fun o_23 =>
      if o_23.1 = 0 then
        some (x1, o_23.2)
      else
        (g_m_wordEnd_L5 n) (w32 (x1 + 1)) o_23.2
      else none
set_option maxHeartbeats 4000000 in
theorem g_m_wordEnd_L5_ok {xl : Nat} {xs : Nat → Int32} : ∀ (n : Nat) {X1 : Int32} {x1 : Int} {σ : zS} {p : Nat} {m : zM} {o : Int × zS}, X1.toInt = x1 → zRep xl xs p m σ → g_m_wordEnd_L5 n x1 σ = some o → zGo xl xs (fun p' => p = p') 2 217 5 [(0, .ref 143), (1, .int X1)] [] m (vI o.1) o.2
  | 0, _, _, _, _, _, _, _, _, h => by cases h
  | n + 1, X1, x1, σ, p, m, o, hx1, H, h => by
    have hq : z_mth 217 = some z_r217 := rfl
    have ih := fun {X1 : Int32} {x1 : Int} {σ : zS} {p : Nat} {m : zM} {o : Int × zS} => g_m_wordEnd_L5_ok (xl := xl) (xs := xs) n (X1 := X1) (x1 := x1) (σ := σ) (p := p) (m := m) (o := o)
    unfold g_m_wordEnd_L5 at h
    refine r_p hq 2 (pc' := 7) (L' := [(0, .ref 143), (1, .int X1)]) (st' := [.ref 143, .int X1]) rfl ?_
    refine r_gI (pc' := 10) (L' := [(0, .ref 143), (1, .int X1)]) H hq (z_at.mk 3 rfl rfl) rfl rfl rfl rfl ?_
    intro V_7 hV_7
    rcases z_ite h with ⟨c_10, h⟩ | ⟨c_10, h⟩
    · refine r_t2 (pc' := 35) (L' := [(1, .int X1)]) hq (z_at.mk 3 rfl rfl) rfl hx1 hV_7 c_10 rfl rfl ?_
      refine r_p hq 1 (pc' := 36) (L' := [(1, .int X1)]) (st' := [.int X1]) rfl ?_
      cases h
      exact r_ri hq (z_at.mk 1 rfl rfl) rfl rfl hx1 rfl H
    · refine r_f2 (pc' := 13) (L' := [(0, .ref 143), (1, .int X1)]) hq (z_at.mk 3 rfl rfl) rfl hx1 hV_7 c_10 rfl rfl ?_
      refine r_p hq 1 (pc' := 14) (L' := [(0, .ref 143), (1, .int X1)]) (st' := [.ref 143]) rfl ?_
      refine r_gR (b := 159) (pc' := 17) (L' := [(0, .ref 143), (1, .int X1)]) H hq (z_at.mk 3 rfl rfl) rfl rfl rfl rfl ?_
      refine r_p hq 1 (pc' := 18) (L' := [(0, .ref 143), (1, .int X1)]) (st' := [.int X1, .ref 159]) rfl ?_
      obtain ⟨g_18, h⟩ := z_ifo_some h
      refine r_ia (pc' := 19) (L' := [(0, .ref 143), (1, .int X1)]) H hq (z_at.mk 1 rfl rfl) (show zAr 159 0 160 = true from rfl) hx1 g_18 rfl rfl ?_
      intro V_18 hV_18
      refine r_p hq 2 (pc' := 23) (L' := [(0, .ref 143), (1, .int X1)]) (st' := [.int ((122 : Int32)), .int ((97 : Int32)), .int V_18]) rfl ?_
      obtain ⟨o_23, h_23, h⟩ := Option.bind_eq_some_iff.mp h
      refine r_csI (pc' := 26) (L' := [(0, .ref 143), (1, .int X1)]) (As := [.int V_18, .int ((97 : Int32)), .int ((122 : Int32))]) (rest := []) (j := 159) hq (z_at.mk 3 rfl rfl) (Or.inl ⟨rfl, rfl⟩) rfl rfl (by omega) (g_m_isIn_ok hV_18 (rfl : (97 : Int32).toInt = 97) (rfl : (122 : Int32).toInt = 122) H h_23) rfl rfl ?_
      intro R_23 m_23 p_23 e_23 hR_23 H_23
      subst e_23
      rcases z_ite h with ⟨c_26, h⟩ | ⟨c_26, h⟩
      · refine r_t1 (pc' := 35) (L' := [(1, .int X1)]) hq (z_at.mk 3 rfl rfl) rfl hR_23 c_26 rfl rfl ?_
        refine r_p hq 1 (pc' := 36) (L' := [(1, .int X1)]) (st' := [.int X1]) rfl ?_
        cases h
        exact r_ri hq (z_at.mk 1 rfl rfl) rfl rfl hx1 rfl H_23
      · refine r_f1 (pc' := 29) (L' := [(0, .ref 143), (1, .int X1)]) hq (z_at.mk 3 rfl rfl) rfl hR_23 c_26 rfl rfl ?_
        refine r_p hq 2 (pc' := 5) (L' := [(0, .ref 143), (1, .int (X1 + (1 : Int32)))]) (st' := []) rfl ?_
        exact ih (tx_iadd hx1 (rfl : (1 : Int32).toInt = 1)) H_23 h
def g_m_wordEnd (σ : zS) : Option (Int × zS) :=
  let v_1 := σ 143 21
  g_m_wordEnd_L5 zK v_1 σ
set_option maxHeartbeats 4000000 in
theorem g_m_wordEnd_ok {xl : Nat} {xs : Nat → Int32} {σ : zS} {p : Nat} {m : zM} {o : Int × zS} (H : zRep xl xs p m σ) (h : g_m_wordEnd σ = some o) : zGo xl xs (fun p' => p = p') 2 217 0 (z_can 217 0 (lv_args 0 [.ref 143])) [] m (vI o.1) o.2 := by
  have hq : z_mth 217 = some z_r217 := rfl
  unfold g_m_wordEnd at h
  show zGo xl xs (fun p' => p = p') 2 217 0 [(0, .ref 143)] [] m (vI o.1) o.2
  refine r_p hq 1 (pc' := 1) (L' := [(0, .ref 143)]) (st' := [.ref 143]) rfl ?_
  refine r_gI (pc' := 4) (L' := [(0, .ref 143)]) H hq (z_at.mk 3 rfl rfl) rfl rfl rfl rfl ?_
  intro V_1 hV_1
  refine r_p hq 1 (pc' := 5) (L' := [(0, .ref 143), (1, .int V_1)]) (st' := []) rfl ?_
  exact g_m_wordEnd_L5_ok zK hV_1 H h
def g_m_word_L116 (a1 : Nat) (g75 : Int → Int → Int → Int → Int → Int → zS → Option (Int × zS)) (x2 : Int) (x3 : Int) (x4 : Int) (x5 : Int) (x7 : Int) (xs0 : Int) (σ : zS) : Option (Int × zS) :=
  g75 x2 x3 x4 x5 xs0 (w32 (x7 + 1)) σ
set_option maxHeartbeats 4000000 in
theorem g_m_word_L116_ok {xl : Nat} {xs : Nat → Int32} {a1 : Nat} (ha1 : zIn [1, 2, 3, 4, 5, 6, 7, 8, 9, 10, 11, 12, 13, 14, 15, 16, 17, 18] a1 = true) {g75 : Int → Int → Int → Int → Int → Int → zS → Option (Int × zS)} (hg75 : ∀ {X2 : Int32} {x2 : Int} {X3 : Int32} {x3 : Int} {X4 : Int32} {x4 : Int} {X5 : Int32} {x5 : Int} {X6 : Int32} {x6 : Int} {X7 : Int32} {x7 : Int} {σ : zS} {p : Nat} {m : zM} {o : Int × zS}, X2.toInt = x2 → X3.toInt = x3 → X4.toInt = x4 → X5.toInt = x5 → X6.toInt = x6 → X7.toInt = x7 → zRep xl xs p m σ → g75 x2 x3 x4 x5 x6 x7 σ = some o → zGo xl xs (fun p' => p = p') 3 218 75 [(0, .ref 143), (1, .ref a1), (2, .int X2), (3, .int X3), (4, .int X4), (5, .int X5), (6, .int X6), (7, .int X7)] [] m (vI o.1) o.2) {X2 : Int32} {x2 : Int} (hx2 : X2.toInt = x2) {X3 : Int32} {x3 : Int} (hx3 : X3.toInt = x3) {X4 : Int32} {x4 : Int} (hx4 : X4.toInt = x4) {X5 : Int32} {x5 : Int} (hx5 : X5.toInt = x5) {X7 : Int32} {x7 : Int} (hx7 : X7.toInt = x7) {Xs0 : Int32} {xs0 : Int} (hxs0 : Xs0.toInt = xs0) {σ : zS} {p : Nat} {m : zM} {o : Int × zS} (H : zRep xl xs p m σ) (h : g_m_word_L116 a1 g75 x2 x3 x4 x5 x7 xs0 σ = some o) : zGo xl xs (fun p' => p = p') 3 218 116 [(0, .ref 143), (1, .ref a1), (2, .int X2), (3, .int X3), (4, .int X4), (5, .int X5), (7, .int X7)] [.int Xs0] m (vI o.1) o.2 := by
  have hq : z_mth 218 = some z_r218 := rfl
  unfold g_m_word_L116 at h
  refine r_p hq 3 (pc' := 75) (L' := [(0, .ref 143), (1, .ref a1), (2, .int X2), (3, .int X3), (4, .int X4), (5, .int X5), (6, .int Xs0), (7, .int (X7 + (1 : Int32)))]) (st' := []) rfl ?_
  exact hg75 hx2 hx3 hx4 hx5 hxs0 (tx_iadd hx7 (rfl : (1 : Int32).toInt = 1)) H h
def g_m_word_L124 (a1 : Nat) (g10 : Int → Int → Int → zS → Option (Int × zS)) (x2 : Int) (x3 : Int) (x4 : Int) (x5 : Int) (x6 : Int) (σ : zS) : Option (Int × zS) :=
  if x6 = 0 then
    g10 x2 (w32 (x3 + 1)) (w32 (x4 + (w32 (x5 + 1)))) σ
  else
    let s_131 := zu σ 143 21 x2
    some (x3, s_131)
set_option maxHeartbeats 4000000 in
theorem g_m_word_L124_ok {xl : Nat} {xs : Nat → Int32} {a1 : Nat} (ha1 : zIn [1, 2, 3, 4, 5, 6, 7, 8, 9, 10, 11, 12, 13, 14, 15, 16, 17, 18] a1 = true) {g10 : Int → Int → Int → zS → Option (Int × zS)} (hg10 : ∀ {X2 : Int32} {x2 : Int} {X3 : Int32} {x3 : Int} {X4 : Int32} {x4 : Int} {σ : zS} {p : Nat} {m : zM} {o : Int × zS}, X2.toInt = x2 → X3.toInt = x3 → X4.toInt = x4 → zRep xl xs p m σ → g10 x2 x3 x4 σ = some o → zGo xl xs (fun p' => p = p') 3 218 10 [(0, .ref 143), (1, .ref a1), (2, .int X2), (3, .int X3), (4, .int X4)] [] m (vI o.1) o.2) {X2 : Int32} {x2 : Int} (hx2 : X2.toInt = x2) {X3 : Int32} {x3 : Int} (hx3 : X3.toInt = x3) {X4 : Int32} {x4 : Int} (hx4 : X4.toInt = x4) {X5 : Int32} {x5 : Int} (hx5 : X5.toInt = x5) {X6 : Int32} {x6 : Int} (hx6 : X6.toInt = x6) {σ : zS} {p : Nat} {m : zM} {o : Int × zS} (H : zRep xl xs p m σ) (h : g_m_word_L124 a1 g10 x2 x3 x4 x5 x6 σ = some o) : zGo xl xs (fun p' => p = p') 3 218 124 [(0, .ref 143), (1, .ref a1), (2, .int X2), (3, .int X3), (4, .int X4), (5, .int X5), (6, .int X6)] [] m (vI o.1) o.2 := by
  have hq : z_mth 218 = some z_r218 := rfl
  unfold g_m_word_L124 at h
  refine r_p hq 1 (pc' := 126) (L' := [(0, .ref 143), (1, .ref a1), (2, .int X2), (3, .int X3), (4, .int X4), (5, .int X5), (6, .int X6)]) (st' := [.int X6]) rfl ?_
  rcases z_ite h with ⟨c_126, h⟩ | ⟨c_126, h⟩
  · refine r_t1 (pc' := 136) (L' := [(0, .ref 143), (1, .ref a1), (2, .int X2), (3, .int X3), (4, .int X4), (5, .int X5), (6, .int X6)]) hq (z_at.mk 3 rfl rfl) rfl hx6 c_126 rfl rfl ?_
    refine r_p hq 8 (pc' := 10) (L' := [(0, .ref 143), (1, .ref a1), (2, .int X2), (3, .int (X3 + (1 : Int32))), (4, .int (X4 + (X5 + ((1 : Int32)))))]) (st' := []) rfl ?_
    exact hg10 hx2 (tx_iadd hx3 (rfl : (1 : Int32).toInt = 1)) (tx_iadd hx4 (tx_iadd hx5 (rfl : (1 : Int32).toInt = 1))) H h
  · refine r_f1 (pc' := 129) (L' := [(0, .ref 143), (1, .ref a1), (2, .int X2), (3, .int X3), (4, .int X4), (5, .int X5), (6, .int X6)]) hq (z_at.mk 3 rfl rfl) rfl hx6 c_126 rfl rfl ?_
    refine r_p hq 2 (pc' := 131) (L' := [(0, .ref 143), (1, .ref a1), (2, .int X2), (3, .int X3), (4, .int X4), (5, .int X5), (6, .int X6)]) (st' := [.int X2, .ref 143]) rfl ?_
    refine r_pI (X := X2) (pc' := 134) (L' := [(0, .ref 143), (1, .ref a1), (2, .int X2), (3, .int X3), (4, .int X4), (5, .int X5), (6, .int X6)]) H hq (z_at.mk 3 rfl rfl) rfl rfl hx2 (by decide) rfl rfl rfl rfl ?_
    intro m_131 H_131
    refine r_p hq 1 (pc' := 135) (L' := [(0, .ref 143), (1, .ref a1), (2, .int X2), (3, .int X3), (4, .int X4), (5, .int X5), (6, .int X6)]) (st' := [.int X3]) rfl ?_
    cases h
    exact r_ri hq (z_at.mk 1 rfl rfl) rfl rfl hx3 rfl H_131
def g_m_word_L75 (a1 : Nat) (g10 : Int → Int → Int → zS → Option (Int × zS)) : Nat → Int → Int → Int → Int → Int → Int → zS → Option (Int × zS)
  | 0, _, _, _, _, _, _, _ => none
  | n + 1, x2, x3, x4, x5, x6, x7, σ =>
    if x5 ≤ x7 then
      g_m_word_L124 a1 g10 x2 x3 x4 x5 x6 σ
    else
      if x6 = 0 then
        g_m_word_L124 a1 g10 x2 x3 x4 x5 x6 σ
      else
        (g_jString_charAt a1 (w32 (x4 + x7)) σ).bind fun o_93 =>
        let v_101 := o_93.2 143 21
        if 0 ≤ w32 (v_101 + x7) ∧ w32 (v_101 + x7) < 160 then
        let v_107 := o_93.2 159 (w32 (v_101 + x7))
        if o_93.1 ≠ v_107 then
          g_m_word_L116 a1 ((g_m_word_L75 a1 g10 n)) x2 x3 x4 x5 x7 0 o_93.2
        else
          g_m_word_L116 a1 ((g_m_word_L75 a1 g10 n)) x2 x3 x4 x5 x7 1 o_93.2
        else none
set_option maxHeartbeats 4000000 in
theorem g_m_word_L75_ok {xl : Nat} {xs : Nat → Int32} {a1 : Nat} (ha1 : zIn [1, 2, 3, 4, 5, 6, 7, 8, 9, 10, 11, 12, 13, 14, 15, 16, 17, 18] a1 = true) {g10 : Int → Int → Int → zS → Option (Int × zS)} (hg10 : ∀ {X2 : Int32} {x2 : Int} {X3 : Int32} {x3 : Int} {X4 : Int32} {x4 : Int} {σ : zS} {p : Nat} {m : zM} {o : Int × zS}, X2.toInt = x2 → X3.toInt = x3 → X4.toInt = x4 → zRep xl xs p m σ → g10 x2 x3 x4 σ = some o → zGo xl xs (fun p' => p = p') 3 218 10 [(0, .ref 143), (1, .ref a1), (2, .int X2), (3, .int X3), (4, .int X4)] [] m (vI o.1) o.2) : ∀ (n : Nat) {X2 : Int32} {x2 : Int} {X3 : Int32} {x3 : Int} {X4 : Int32} {x4 : Int} {X5 : Int32} {x5 : Int} {X6 : Int32} {x6 : Int} {X7 : Int32} {x7 : Int} {σ : zS} {p : Nat} {m : zM} {o : Int × zS}, X2.toInt = x2 → X3.toInt = x3 → X4.toInt = x4 → X5.toInt = x5 → X6.toInt = x6 → X7.toInt = x7 → zRep xl xs p m σ → g_m_word_L75 a1 g10 n x2 x3 x4 x5 x6 x7 σ = some o → zGo xl xs (fun p' => p = p') 3 218 75 [(0, .ref 143), (1, .ref a1), (2, .int X2), (3, .int X3), (4, .int X4), (5, .int X5), (6, .int X6), (7, .int X7)] [] m (vI o.1) o.2
  | 0, _, _, _, _, _, _, _, _, _, _, _, _, _, _, _, _, _, _, _, _, _, _, _, h => by cases h
  | n + 1, X2, x2, X3, x3, X4, x4, X5, x5, X6, x6, X7, x7, σ, p, m, o, hx2, hx3, hx4, hx5, hx6, hx7, H, h => by
    have hq : z_mth 218 = some z_r218 := rfl
    have ih := fun {X2 : Int32} {x2 : Int} {X3 : Int32} {x3 : Int} {X4 : Int32} {x4 : Int} {X5 : Int32} {x5 : Int} {X6 : Int32} {x6 : Int} {X7 : Int32} {x7 : Int} {σ : zS} {p : Nat} {m : zM} {o : Int × zS} => g_m_word_L75_ok (xl := xl) (xs := xs) ha1 hg10 n (X2 := X2) (x2 := x2) (X3 := X3) (x3 := x3) (X4 := X4) (x4 := x4) (X5 := X5) (x5 := x5) (X6 := X6) (x6 := x6) (X7 := X7) (x7 := x7) (σ := σ) (p := p) (m := m) (o := o)
    unfold g_m_word_L75 at h
    refine r_p hq 2 (pc' := 79) (L' := [(0, .ref 143), (1, .ref a1), (2, .int X2), (3, .int X3), (4, .int X4), (5, .int X5), (6, .int X6), (7, .int X7)]) (st' := [.int X5, .int X7]) rfl ?_
    rcases z_ite h with ⟨c_79, h⟩ | ⟨c_79, h⟩
    · refine r_t2 (pc' := 124) (L' := [(0, .ref 143), (1, .ref a1), (2, .int X2), (3, .int X3), (4, .int X4), (5, .int X5), (6, .int X6)]) hq (z_at.mk 3 rfl rfl) rfl hx7 hx5 c_79 rfl rfl ?_
      exact g_m_word_L124_ok ha1 hg10 hx2 hx3 hx4 hx5 hx6 H h
    · refine r_f2 (pc' := 82) (L' := [(0, .ref 143), (1, .ref a1), (2, .int X2), (3, .int X3), (4, .int X4), (5, .int X5), (6, .int X6), (7, .int X7)]) hq (z_at.mk 3 rfl rfl) rfl hx7 hx5 c_79 rfl rfl ?_
      refine r_p hq 1 (pc' := 84) (L' := [(0, .ref 143), (1, .ref a1), (2, .int X2), (3, .int X3), (4, .int X4), (5, .int X5), (6, .int X6), (7, .int X7)]) (st' := [.int X6]) rfl ?_
      rcases z_ite h with ⟨c_84, h⟩ | ⟨c_84, h⟩
      · refine r_t1 (pc' := 124) (L' := [(0, .ref 143), (1, .ref a1), (2, .int X2), (3, .int X3), (4, .int X4), (5, .int X5), (6, .int X6)]) hq (z_at.mk 3 rfl rfl) rfl hx6 c_84 rfl rfl ?_
        exact g_m_word_L124_ok ha1 hg10 hx2 hx3 hx4 hx5 hx6 H h
      · refine r_f1 (pc' := 87) (L' := [(0, .ref 143), (1, .ref a1), (2, .int X2), (3, .int X3), (4, .int X4), (5, .int X5), (6, .int X6), (7, .int X7)]) hq (z_at.mk 3 rfl rfl) rfl hx6 c_84 rfl rfl ?_
        refine r_p hq 4 (pc' := 93) (L' := [(0, .ref 143), (1, .ref a1), (2, .int X2), (3, .int X3), (4, .int X4), (5, .int X5), (6, .int X6), (7, .int X7)]) (st' := [.int (X4 + X7), .ref a1]) rfl ?_
        obtain ⟨o_93, h_93, h⟩ := Option.bind_eq_some_iff.mp h
        refine r_cvI (pc' := 96) (L' := [(0, .ref 143), (1, .ref a1), (2, .int X2), (3, .int X3), (4, .int X4), (5, .int X5), (6, .int X6), (7, .int X7)]) (Ps := [.int (X4 + X7)]) (rest := []) hq (z_at.mk 3 rfl rfl) (Or.inl ⟨rfl, rfl⟩) rfl rfl (by decide) (by decide) rfl (Nat.not_lt.mpr (Nat.le_of_ble_eq_true rfl)) rfl rfl (z_cat_le 0 rfl (by decide)) (z_lgl_le 2 rfl (by decide)) (by decide) (H.tg9 (zIn_all (l := [1, 2, 3, 4, 5, 6, 7, 8, 9, 10, 11, 12, 13, 14, 15, 16, 17, 18]) (p := fun a => zIn [1, 2, 3, 4, 5, 6, 7, 8, 9, 10, 11, 12, 13, 14, 15, 16, 17, 18] a) rfl ha1)) (by omega) (g_jString_charAt_ok (zIn_all (l := [1, 2, 3, 4, 5, 6, 7, 8, 9, 10, 11, 12, 13, 14, 15, 16, 17, 18]) (p := fun a => zIn [1, 2, 3, 4, 5, 6, 7, 8, 9, 10, 11, 12, 13, 14, 15, 16, 17, 18] a) rfl ha1) (tx_iadd hx4 hx7) H h_93) rfl rfl ?_
        intro R_93 m_93 p_93 e_93 hR_93 H_93
        subst e_93
        refine r_p hq 1 (pc' := 97) (L' := [(0, .ref 143), (1, .ref a1), (2, .int X2), (3, .int X3), (4, .int X4), (5, .int X5), (6, .int X6), (7, .int X7)]) (st' := [.ref 143, .int R_93]) rfl ?_
        refine r_gR (b := 159) (pc' := 100) (L' := [(0, .ref 143), (1, .ref a1), (2, .int X2), (3, .int X3), (4, .int X4), (5, .int X5), (6, .int X6), (7, .int X7)]) H_93 hq (z_at.mk 3 rfl rfl) rfl rfl rfl rfl ?_
        refine r_p hq 1 (pc' := 101) (L' := [(0, .ref 143), (1, .ref a1), (2, .int X2), (3, .int X3), (4, .int X4), (5, .int X5), (6, .int X6), (7, .int X7)]) (st' := [.ref 143, .ref 159, .int R_93]) rfl ?_
        refine r_gI (pc' := 104) (L' := [(0, .ref 143), (1, .ref a1), (2, .int X2), (3, .int X3), (4, .int X4), (5, .int X5), (6, .int X6), (7, .int X7)]) H_93 hq (z_at.mk 3 rfl rfl) rfl rfl rfl rfl ?_
        intro V_101 hV_101
        refine r_p hq 2 (pc' := 107) (L' := [(0, .ref 143), (1, .ref a1), (2, .int X2), (3, .int X3), (4, .int X4), (5, .int X5), (6, .int X6), (7, .int X7)]) (st' := [.int (V_101 + X7), .ref 159, .int R_93]) rfl ?_
        obtain ⟨g_107, h⟩ := z_ifo_some h
        refine r_ia (pc' := 108) (L' := [(0, .ref 143), (1, .ref a1), (2, .int X2), (3, .int X3), (4, .int X4), (5, .int X5), (6, .int X6), (7, .int X7)]) H_93 hq (z_at.mk 1 rfl rfl) (show zAr 159 0 160 = true from rfl) (tx_iadd hV_101 hx7) g_107 rfl rfl ?_
        intro V_107 hV_107
        rcases z_ite h with ⟨c_108, h⟩ | ⟨c_108, h⟩
        · refine r_t2 (pc' := 115) (L' := [(0, .ref 143), (1, .ref a1), (2, .int X2), (3, .int X3), (4, .int X4), (5, .int X5), (6, .int X6), (7, .int X7)]) hq (z_at.mk 3 rfl rfl) rfl hR_93 hV_107 c_108 rfl rfl ?_
          refine r_p hq 1 (pc' := 116) (L' := [(0, .ref 143), (1, .ref a1), (2, .int X2), (3, .int X3), (4, .int X4), (5, .int X5), (7, .int X7)]) (st' := [.int ((0 : Int32))]) rfl ?_
          exact g_m_word_L116_ok ha1 ih hx2 hx3 hx4 hx5 hx7 (rfl : (0 : Int32).toInt = 0) H_93 h
        · refine r_f2 (pc' := 111) (L' := [(0, .ref 143), (1, .ref a1), (2, .int X2), (3, .int X3), (4, .int X4), (5, .int X5), (6, .int X6), (7, .int X7)]) hq (z_at.mk 3 rfl rfl) rfl hR_93 hV_107 c_108 rfl rfl ?_
          refine r_p hq 2 (pc' := 116) (L' := [(0, .ref 143), (1, .ref a1), (2, .int X2), (3, .int X3), (4, .int X4), (5, .int X5), (7, .int X7)]) (st' := [.int ((1 : Int32))]) rfl ?_
          exact g_m_word_L116_ok ha1 ih hx2 hx3 hx4 hx5 hx7 (rfl : (1 : Int32).toInt = 1) H_93 h
def g_m_word_L70 (a1 : Nat) (g10 : Int → Int → Int → zS → Option (Int × zS)) (x2 : Int) (x3 : Int) (x4 : Int) (x5 : Int) (xs0 : Int) (σ : zS) : Option (Int × zS) :=
  g_m_word_L75 a1 g10 zK x2 x3 x4 x5 xs0 0 σ
set_option maxHeartbeats 4000000 in
theorem g_m_word_L70_ok {xl : Nat} {xs : Nat → Int32} {a1 : Nat} (ha1 : zIn [1, 2, 3, 4, 5, 6, 7, 8, 9, 10, 11, 12, 13, 14, 15, 16, 17, 18] a1 = true) {g10 : Int → Int → Int → zS → Option (Int × zS)} (hg10 : ∀ {X2 : Int32} {x2 : Int} {X3 : Int32} {x3 : Int} {X4 : Int32} {x4 : Int} {σ : zS} {p : Nat} {m : zM} {o : Int × zS}, X2.toInt = x2 → X3.toInt = x3 → X4.toInt = x4 → zRep xl xs p m σ → g10 x2 x3 x4 σ = some o → zGo xl xs (fun p' => p = p') 3 218 10 [(0, .ref 143), (1, .ref a1), (2, .int X2), (3, .int X3), (4, .int X4)] [] m (vI o.1) o.2) {X2 : Int32} {x2 : Int} (hx2 : X2.toInt = x2) {X3 : Int32} {x3 : Int} (hx3 : X3.toInt = x3) {X4 : Int32} {x4 : Int} (hx4 : X4.toInt = x4) {X5 : Int32} {x5 : Int} (hx5 : X5.toInt = x5) {Xs0 : Int32} {xs0 : Int} (hxs0 : Xs0.toInt = xs0) {σ : zS} {p : Nat} {m : zM} {o : Int × zS} (H : zRep xl xs p m σ) (h : g_m_word_L70 a1 g10 x2 x3 x4 x5 xs0 σ = some o) : zGo xl xs (fun p' => p = p') 3 218 70 [(0, .ref 143), (1, .ref a1), (2, .int X2), (3, .int X3), (4, .int X4), (5, .int X5)] [.int Xs0] m (vI o.1) o.2 := by
  have hq : z_mth 218 = some z_r218 := rfl
  unfold g_m_word_L70 at h
  refine r_p hq 3 (pc' := 75) (L' := [(0, .ref 143), (1, .ref a1), (2, .int X2), (3, .int X3), (4, .int X4), (5, .int X5), (6, .int Xs0), (7, .int ((0 : Int32)))]) (st' := []) rfl ?_
  exact g_m_word_L75_ok ha1 hg10 zK hx2 hx3 hx4 hx5 hxs0 (rfl : (0 : Int32).toInt = 0) H h
def g_m_word_L54 (a1 : Nat) (g10 : Int → Int → Int → zS → Option (Int × zS)) (x2 : Int) (x3 : Int) (x4 : Int) (x5 : Int) (σ : zS) : Option (Int × zS) :=
  let v_58 := σ 143 21
  if x5 ≠ w32 (x2 - v_58) then
    g_m_word_L70 a1 g10 x2 x3 x4 x5 0 σ
  else
    g_m_word_L70 a1 g10 x2 x3 x4 x5 1 σ
set_option maxHeartbeats 4000000 in
theorem g_m_word_L54_ok {xl : Nat} {xs : Nat → Int32} {a1 : Nat} (ha1 : zIn [1, 2, 3, 4, 5, 6, 7, 8, 9, 10, 11, 12, 13, 14, 15, 16, 17, 18] a1 = true) {g10 : Int → Int → Int → zS → Option (Int × zS)} (hg10 : ∀ {X2 : Int32} {x2 : Int} {X3 : Int32} {x3 : Int} {X4 : Int32} {x4 : Int} {σ : zS} {p : Nat} {m : zM} {o : Int × zS}, X2.toInt = x2 → X3.toInt = x3 → X4.toInt = x4 → zRep xl xs p m σ → g10 x2 x3 x4 σ = some o → zGo xl xs (fun p' => p = p') 3 218 10 [(0, .ref 143), (1, .ref a1), (2, .int X2), (3, .int X3), (4, .int X4)] [] m (vI o.1) o.2) {X2 : Int32} {x2 : Int} (hx2 : X2.toInt = x2) {X3 : Int32} {x3 : Int} (hx3 : X3.toInt = x3) {X4 : Int32} {x4 : Int} (hx4 : X4.toInt = x4) {X5 : Int32} {x5 : Int} (hx5 : X5.toInt = x5) {σ : zS} {p : Nat} {m : zM} {o : Int × zS} (H : zRep xl xs p m σ) (h : g_m_word_L54 a1 g10 x2 x3 x4 x5 σ = some o) : zGo xl xs (fun p' => p = p') 3 218 54 [(0, .ref 143), (1, .ref a1), (2, .int X2), (3, .int X3), (4, .int X4), (5, .int X5)] [] m (vI o.1) o.2 := by
  have hq : z_mth 218 = some z_r218 := rfl
  unfold g_m_word_L54 at h
  refine r_p hq 3 (pc' := 58) (L' := [(0, .ref 143), (1, .ref a1), (2, .int X2), (3, .int X3), (4, .int X4), (5, .int X5)]) (st' := [.ref 143, .int X2, .int X5]) rfl ?_
  refine r_gI (pc' := 61) (L' := [(0, .ref 143), (1, .ref a1), (2, .int X2), (3, .int X3), (4, .int X4), (5, .int X5)]) H hq (z_at.mk 3 rfl rfl) rfl rfl rfl rfl ?_
  intro V_58 hV_58
  refine r_p hq 1 (pc' := 62) (L' := [(0, .ref 143), (1, .ref a1), (2, .int X2), (3, .int X3), (4, .int X4), (5, .int X5)]) (st' := [.int (X2 - V_58), .int X5]) rfl ?_
  rcases z_ite h with ⟨c_62, h⟩ | ⟨c_62, h⟩
  · refine r_t2 (pc' := 69) (L' := [(0, .ref 143), (1, .ref a1), (2, .int X2), (3, .int X3), (4, .int X4), (5, .int X5)]) hq (z_at.mk 3 rfl rfl) rfl hx5 (tx_isub hx2 hV_58) c_62 rfl rfl ?_
    refine r_p hq 1 (pc' := 70) (L' := [(0, .ref 143), (1, .ref a1), (2, .int X2), (3, .int X3), (4, .int X4), (5, .int X5)]) (st' := [.int ((0 : Int32))]) rfl ?_
    exact g_m_word_L70_ok ha1 hg10 hx2 hx3 hx4 hx5 (rfl : (0 : Int32).toInt = 0) H h
  · refine r_f2 (pc' := 65) (L' := [(0, .ref 143), (1, .ref a1), (2, .int X2), (3, .int X3), (4, .int X4), (5, .int X5)]) hq (z_at.mk 3 rfl rfl) rfl hx5 (tx_isub hx2 hV_58) c_62 rfl rfl ?_
    refine r_p hq 2 (pc' := 70) (L' := [(0, .ref 143), (1, .ref a1), (2, .int X2), (3, .int X3), (4, .int X4), (5, .int X5)]) (st' := [.int ((1 : Int32))]) rfl ?_
    exact g_m_word_L70_ok ha1 hg10 hx2 hx3 hx4 hx5 (rfl : (1 : Int32).toInt = 1) H h
def g_m_word_L22 (a1 : Nat) (g10 : Int → Int → Int → zS → Option (Int × zS)) : Nat → Int → Int → Int → Int → zS → Option (Int × zS)
  | 0, _, _, _, _, _ => none
  | n + 1, x2, x3, x4, x5, σ =>
    (g_jString_length a1 σ).bind fun o_28 =>
    if o_28.1 ≤ w32 (x4 + x5) then
      g_m_word_L54 a1 g10 x2 x3 x4 x5 o_28.2
    else
      (g_jString_charAt a1 (w32 (x4 + x5)) o_28.2).bind fun o_40 =>
      if o_40.1 = 32 then
        g_m_word_L54 a1 g10 x2 x3 x4 x5 o_40.2
      else
        (g_m_word_L22 a1 g10 n) x2 x3 x4 (w32 (x5 + 1)) o_40.2
set_option maxHeartbeats 4000000 in
theorem g_m_word_L22_ok {xl : Nat} {xs : Nat → Int32} {a1 : Nat} (ha1 : zIn [1, 2, 3, 4, 5, 6, 7, 8, 9, 10, 11, 12, 13, 14, 15, 16, 17, 18] a1 = true) {g10 : Int → Int → Int → zS → Option (Int × zS)} (hg10 : ∀ {X2 : Int32} {x2 : Int} {X3 : Int32} {x3 : Int} {X4 : Int32} {x4 : Int} {σ : zS} {p : Nat} {m : zM} {o : Int × zS}, X2.toInt = x2 → X3.toInt = x3 → X4.toInt = x4 → zRep xl xs p m σ → g10 x2 x3 x4 σ = some o → zGo xl xs (fun p' => p = p') 3 218 10 [(0, .ref 143), (1, .ref a1), (2, .int X2), (3, .int X3), (4, .int X4)] [] m (vI o.1) o.2) : ∀ (n : Nat) {X2 : Int32} {x2 : Int} {X3 : Int32} {x3 : Int} {X4 : Int32} {x4 : Int} {X5 : Int32} {x5 : Int} {σ : zS} {p : Nat} {m : zM} {o : Int × zS}, X2.toInt = x2 → X3.toInt = x3 → X4.toInt = x4 → X5.toInt = x5 → zRep xl xs p m σ → g_m_word_L22 a1 g10 n x2 x3 x4 x5 σ = some o → zGo xl xs (fun p' => p = p') 3 218 22 [(0, .ref 143), (1, .ref a1), (2, .int X2), (3, .int X3), (4, .int X4), (5, .int X5)] [] m (vI o.1) o.2
  | 0, _, _, _, _, _, _, _, _, _, _, _, _, _, _, _, _, _, h => by cases h
  | n + 1, X2, x2, X3, x3, X4, x4, X5, x5, σ, p, m, o, hx2, hx3, hx4, hx5, H, h => by
    have hq : z_mth 218 = some z_r218 := rfl
    have ih := fun {X2 : Int32} {x2 : Int} {X3 : Int32} {x3 : Int} {X4 : Int32} {x4 : Int} {X5 : Int32} {x5 : Int} {σ : zS} {p : Nat} {m : zM} {o : Int × zS} => g_m_word_L22_ok (xl := xl) (xs := xs) ha1 hg10 n (X2 := X2) (x2 := x2) (X3 := X3) (x3 := x3) (X4 := X4) (x4 := x4) (X5 := X5) (x5 := x5) (σ := σ) (p := p) (m := m) (o := o)
    unfold g_m_word_L22 at h
    refine r_p hq 4 (pc' := 28) (L' := [(0, .ref 143), (1, .ref a1), (2, .int X2), (3, .int X3), (4, .int X4), (5, .int X5)]) (st' := [.ref a1, .int (X4 + X5)]) rfl ?_
    obtain ⟨o_28, h_28, h⟩ := Option.bind_eq_some_iff.mp h
    refine r_cvI (pc' := 31) (L' := [(0, .ref 143), (1, .ref a1), (2, .int X2), (3, .int X3), (4, .int X4), (5, .int X5)]) (Ps := []) (rest := [.int (X4 + X5)]) hq (z_at.mk 3 rfl rfl) (Or.inl ⟨rfl, rfl⟩) rfl rfl (by decide) (by decide) rfl (Nat.not_lt.mpr (Nat.le_of_ble_eq_true rfl)) rfl rfl (z_cat_le 1 rfl (by decide)) (z_lgl_le 1 rfl (by decide)) (by decide) (H.tg9 (zIn_all (l := [1, 2, 3, 4, 5, 6, 7, 8, 9, 10, 11, 12, 13, 14, 15, 16, 17, 18]) (p := fun a => zIn [1, 2, 3, 4, 5, 6, 7, 8, 9, 10, 11, 12, 13, 14, 15, 16, 17, 18] a) rfl ha1)) (by omega) (g_jString_length_ok (zIn_all (l := [1, 2, 3, 4, 5, 6, 7, 8, 9, 10, 11, 12, 13, 14, 15, 16, 17, 18]) (p := fun a => zIn [1, 2, 3, 4, 5, 6, 7, 8, 9, 10, 11, 12, 13, 14, 15, 16, 17, 18] a) rfl ha1) H h_28) rfl rfl ?_
    intro R_28 m_28 p_28 e_28 hR_28 H_28
    subst e_28
    rcases z_ite h with ⟨c_31, h⟩ | ⟨c_31, h⟩
    · refine r_t2 (pc' := 54) (L' := [(0, .ref 143), (1, .ref a1), (2, .int X2), (3, .int X3), (4, .int X4), (5, .int X5)]) hq (z_at.mk 3 rfl rfl) rfl (tx_iadd hx4 hx5) hR_28 c_31 rfl rfl ?_
      exact g_m_word_L54_ok ha1 hg10 hx2 hx3 hx4 hx5 H_28 h
    · refine r_f2 (pc' := 34) (L' := [(0, .ref 143), (1, .ref a1), (2, .int X2), (3, .int X3), (4, .int X4), (5, .int X5)]) hq (z_at.mk 3 rfl rfl) rfl (tx_iadd hx4 hx5) hR_28 c_31 rfl rfl ?_
      refine r_p hq 4 (pc' := 40) (L' := [(0, .ref 143), (1, .ref a1), (2, .int X2), (3, .int X3), (4, .int X4), (5, .int X5)]) (st' := [.int (X4 + X5), .ref a1]) rfl ?_
      obtain ⟨o_40, h_40, h⟩ := Option.bind_eq_some_iff.mp h
      refine r_cvI (pc' := 43) (L' := [(0, .ref 143), (1, .ref a1), (2, .int X2), (3, .int X3), (4, .int X4), (5, .int X5)]) (Ps := [.int (X4 + X5)]) (rest := []) hq (z_at.mk 3 rfl rfl) (Or.inl ⟨rfl, rfl⟩) rfl rfl (by decide) (by decide) rfl (Nat.not_lt.mpr (Nat.le_of_ble_eq_true rfl)) rfl rfl (z_cat_le 0 rfl (by decide)) (z_lgl_le 2 rfl (by decide)) (by decide) (H_28.tg9 (zIn_all (l := [1, 2, 3, 4, 5, 6, 7, 8, 9, 10, 11, 12, 13, 14, 15, 16, 17, 18]) (p := fun a => zIn [1, 2, 3, 4, 5, 6, 7, 8, 9, 10, 11, 12, 13, 14, 15, 16, 17, 18] a) rfl ha1)) (by omega) (g_jString_charAt_ok (zIn_all (l := [1, 2, 3, 4, 5, 6, 7, 8, 9, 10, 11, 12, 13, 14, 15, 16, 17, 18]) (p := fun a => zIn [1, 2, 3, 4, 5, 6, 7, 8, 9, 10, 11, 12, 13, 14, 15, 16, 17, 18] a) rfl ha1) (tx_iadd hx4 hx5) H_28 h_40) rfl rfl ?_
      intro R_40 m_40 p_40 e_40 hR_40 H_40
      subst e_40
      refine r_p hq 1 (pc' := 45) (L' := [(0, .ref 143), (1, .ref a1), (2, .int X2), (3, .int X3), (4, .int X4), (5, .int X5)]) (st' := [.int ((32 : Int32)), .int R_40]) rfl ?_
      rcases z_ite h with ⟨c_45, h⟩ | ⟨c_45, h⟩
      · refine r_t2 (pc' := 54) (L' := [(0, .ref 143), (1, .ref a1), (2, .int X2), (3, .int X3), (4, .int X4), (5, .int X5)]) hq (z_at.mk 3 rfl rfl) rfl hR_40 (rfl : (32 : Int32).toInt = 32) c_45 rfl rfl ?_
        exact g_m_word_L54_ok ha1 hg10 hx2 hx3 hx4 hx5 H_40 h
      · refine r_f2 (pc' := 48) (L' := [(0, .ref 143), (1, .ref a1), (2, .int X2), (3, .int X3), (4, .int X4), (5, .int X5)]) hq (z_at.mk 3 rfl rfl) rfl hR_40 (rfl : (32 : Int32).toInt = 32) c_45 rfl rfl ?_
        refine r_p hq 2 (pc' := 22) (L' := [(0, .ref 143), (1, .ref a1), (2, .int X2), (3, .int X3), (4, .int X4), (5, .int (X5 + (1 : Int32)))]) (st' := []) rfl ?_
        exact ih hx2 hx3 hx4 (tx_iadd hx5 (rfl : (1 : Int32).toInt = 1)) H_40 h
def g_m_word_L10 (a1 : Nat) : Nat → Int → Int → Int → zS → Option (Int × zS)
  | 0, _, _, _, _ => none
  | n + 1, x2, x3, x4, σ =>
    (g_jString_length a1 σ).bind fun o_13 =>
    if o_13.1 ≤ x4 then
      let v_153 := o_13.2 143 21
      (g_m_fails v_153 o_13.2).bind fun o_156 =>
      some (-1, o_156.2)
    else
      g_m_word_L22 a1 ((g_m_word_L10 a1 n)) zK x2 x3 x4 0 o_13.2
set_option maxHeartbeats 4000000 in
theorem g_m_word_L10_ok {xl : Nat} {xs : Nat → Int32} {a1 : Nat} (ha1 : zIn [1, 2, 3, 4, 5, 6, 7, 8, 9, 10, 11, 12, 13, 14, 15, 16, 17, 18] a1 = true) : ∀ (n : Nat) {X2 : Int32} {x2 : Int} {X3 : Int32} {x3 : Int} {X4 : Int32} {x4 : Int} {σ : zS} {p : Nat} {m : zM} {o : Int × zS}, X2.toInt = x2 → X3.toInt = x3 → X4.toInt = x4 → zRep xl xs p m σ → g_m_word_L10 a1 n x2 x3 x4 σ = some o → zGo xl xs (fun p' => p = p') 3 218 10 [(0, .ref 143), (1, .ref a1), (2, .int X2), (3, .int X3), (4, .int X4)] [] m (vI o.1) o.2
  | 0, _, _, _, _, _, _, _, _, _, _, _, _, _, _, h => by cases h
  | n + 1, X2, x2, X3, x3, X4, x4, σ, p, m, o, hx2, hx3, hx4, H, h => by
    have hq : z_mth 218 = some z_r218 := rfl
    have ih := fun {X2 : Int32} {x2 : Int} {X3 : Int32} {x3 : Int} {X4 : Int32} {x4 : Int} {σ : zS} {p : Nat} {m : zM} {o : Int × zS} => g_m_word_L10_ok (xl := xl) (xs := xs) ha1 n (X2 := X2) (x2 := x2) (X3 := X3) (x3 := x3) (X4 := X4) (x4 := x4) (σ := σ) (p := p) (m := m) (o := o)
    unfold g_m_word_L10 at h
    refine r_p hq 2 (pc' := 13) (L' := [(0, .ref 143), (1, .ref a1), (2, .int X2), (3, .int X3), (4, .int X4)]) (st' := [.ref a1, .int X4]) rfl ?_
    obtain ⟨o_13, h_13, h⟩ := Option.bind_eq_some_iff.mp h
    refine r_cvI (pc' := 16) (L' := [(0, .ref 143), (1, .ref a1), (2, .int X2), (3, .int X3), (4, .int X4)]) (Ps := []) (rest := [.int X4]) hq (z_at.mk 3 rfl rfl) (Or.inl ⟨rfl, rfl⟩) rfl rfl (by decide) (by decide) rfl (Nat.not_lt.mpr (Nat.le_of_ble_eq_true rfl)) rfl rfl (z_cat_le 1 rfl (by decide)) (z_lgl_le 1 rfl (by decide)) (by decide) (H.tg9 (zIn_all (l := [1, 2, 3, 4, 5, 6, 7, 8, 9, 10, 11, 12, 13, 14, 15, 16, 17, 18]) (p := fun a => zIn [1, 2, 3, 4, 5, 6, 7, 8, 9, 10, 11, 12, 13, 14, 15, 16, 17, 18] a) rfl ha1)) (by omega) (g_jString_length_ok (zIn_all (l := [1, 2, 3, 4, 5, 6, 7, 8, 9, 10, 11, 12, 13, 14, 15, 16, 17, 18]) (p := fun a => zIn [1, 2, 3, 4, 5, 6, 7, 8, 9, 10, 11, 12, 13, 14, 15, 16, 17, 18] a) rfl ha1) H h_13) rfl rfl ?_
    intro R_13 m_13 p_13 e_13 hR_13 H_13
    subst e_13
    rcases z_ite h with ⟨c_16, h⟩ | ⟨c_16, h⟩
    · refine r_t2 (pc' := 151) (L' := [(0, .ref 143), (1, .ref a1), (2, .int X2), (3, .int X3), (4, .int X4)]) hq (z_at.mk 3 rfl rfl) rfl hx4 hR_13 c_16 rfl rfl ?_
      refine r_p hq 2 (pc' := 153) (L' := [(0, .ref 143), (1, .ref a1), (2, .int X2), (3, .int X3), (4, .int X4)]) (st' := [.ref 143, .ref 143]) rfl ?_
      refine r_gI (pc' := 156) (L' := [(0, .ref 143), (1, .ref a1), (2, .int X2), (3, .int X3), (4, .int X4)]) H_13 hq (z_at.mk 3 rfl rfl) rfl rfl rfl rfl ?_
      intro V_153 hV_153
      obtain ⟨o_156, h_156, h⟩ := Option.bind_eq_some_iff.mp h
      refine r_cvI (pc' := 159) (L' := [(0, .ref 143), (1, .ref a1), (2, .int X2), (3, .int X3), (4, .int X4)]) (Ps := [.int V_153]) (rest := []) hq (z_at.mk 3 rfl rfl) (Or.inl ⟨rfl, rfl⟩) rfl rfl (by decide) (by decide) rfl (Nat.not_lt.mpr (Nat.le_of_ble_eq_true rfl)) rfl rfl (z_cat_le 0 rfl (by decide)) (z_lgl_le 2 rfl (by decide)) (by decide) (H_13.tg rfl) (by omega) (g_m_fails_ok hV_153 H_13 h_156) rfl rfl ?_
      intro R_156 m_156 p_156 e_156 hR_156 H_156
      subst e_156
      refine r_p hq 2 (pc' := 161) (L' := [(0, .ref 143), (1, .ref a1), (2, .int X2), (3, .int X3), (4, .int X4)]) (st' := [.int ((-1 : Int32))]) rfl ?_
      cases h
      exact r_ri hq (z_at.mk 1 rfl rfl) rfl rfl (rfl : (-1 : Int32).toInt = -1) rfl H_156
    · refine r_f2 (pc' := 19) (L' := [(0, .ref 143), (1, .ref a1), (2, .int X2), (3, .int X3), (4, .int X4)]) hq (z_at.mk 3 rfl rfl) rfl hx4 hR_13 c_16 rfl rfl ?_
      refine r_p hq 2 (pc' := 22) (L' := [(0, .ref 143), (1, .ref a1), (2, .int X2), (3, .int X3), (4, .int X4), (5, .int ((0 : Int32)))]) (st' := []) rfl ?_
      exact g_m_word_L22_ok ha1 ih zK hx2 hx3 hx4 (rfl : (0 : Int32).toInt = 0) H_13 h
def g_m_word (a1 : Nat) (σ : zS) : Option (Int × zS) :=
  (g_m_wordEnd σ).bind fun o_1 =>
  g_m_word_L10 a1 zK o_1.1 0 0 o_1.2
set_option maxHeartbeats 4000000 in
theorem g_m_word_ok {xl : Nat} {xs : Nat → Int32} {a1 : Nat} (ha1 : zIn [1, 2, 3, 4, 5, 6, 7, 8, 9, 10, 11, 12, 13, 14, 15, 16, 17, 18] a1 = true) {σ : zS} {p : Nat} {m : zM} {o : Int × zS} (H : zRep xl xs p m σ) (h : g_m_word a1 σ = some o) : zGo xl xs (fun p' => p = p') 3 218 0 (z_can 218 0 (lv_args 0 [.ref 143, .ref a1])) [] m (vI o.1) o.2 := by
  have hq : z_mth 218 = some z_r218 := rfl
  unfold g_m_word at h
  show zGo xl xs (fun p' => p = p') 3 218 0 [(0, .ref 143), (1, .ref a1)] [] m (vI o.1) o.2
  refine r_p hq 1 (pc' := 1) (L' := [(0, .ref 143), (1, .ref a1)]) (st' := [.ref 143]) rfl ?_
  obtain ⟨o_1, h_1, h⟩ := Option.bind_eq_some_iff.mp h
  refine r_cvI (pc' := 4) (L' := [(0, .ref 143), (1, .ref a1)]) (Ps := []) (rest := []) hq (z_at.mk 3 rfl rfl) (Or.inl ⟨rfl, rfl⟩) rfl rfl (by decide) (by decide) rfl (Nat.not_lt.mpr (Nat.le_of_ble_eq_true rfl)) rfl rfl (z_cat_le 0 rfl (by decide)) (z_lgl_le 1 rfl (by decide)) (by decide) (H.tg rfl) (by omega) (g_m_wordEnd_ok H h_1) rfl rfl ?_
  intro R_1 m_1 p_1 e_1 hR_1 H_1
  subst e_1
  refine r_p hq 5 (pc' := 10) (L' := [(0, .ref 143), (1, .ref a1), (2, .int R_1), (3, .int ((0 : Int32))), (4, .int ((0 : Int32)))]) (st' := []) rfl ?_
  exact g_m_word_L10_ok ha1 zK hR_1 (rfl : (0 : Int32).toInt = 0) (rfl : (0 : Int32).toInt = 0) H_1 h
def g_m_isSetting_L119 (x1 : Int) (σ : zS) : Option (Int × zS) :=
  let v_125 := σ 143 23
  if 0 ≤ x1 ∧ x1 < 7 then
  let s_128 := zu σ 160 x1 v_125
  some (1, s_128)
  else none
set_option maxHeartbeats 4000000 in
theorem g_m_isSetting_L119_ok {xl : Nat} {xs : Nat → Int32} {X1 : Int32} {x1 : Int} (hx1 : X1.toInt = x1) {σ : zS} {p : Nat} {m : zM} {o : Int × zS} (H : zRep xl xs p m σ) (h : g_m_isSetting_L119 x1 σ = some o) : zGo xl xs (fun p' => p = p') 4 219 119 [(0, .ref 143), (1, .int X1)] [] m (vI o.1) o.2 := by
  have hq : z_mth 219 = some z_r219 := rfl
  unfold g_m_isSetting_L119 at h
  refine r_p hq 1 (pc' := 120) (L' := [(0, .ref 143), (1, .int X1)]) (st' := [.ref 143]) rfl ?_
  refine r_gR (b := 160) (pc' := 123) (L' := [(0, .ref 143), (1, .int X1)]) H hq (z_at.mk 3 rfl rfl) rfl rfl rfl rfl ?_
  refine r_p hq 2 (pc' := 125) (L' := [(0, .ref 143), (1, .int X1)]) (st' := [.ref 143, .int X1, .ref 160]) rfl ?_
  refine r_gI (pc' := 128) (L' := [(0, .ref 143), (1, .int X1)]) H hq (z_at.mk 3 rfl rfl) rfl rfl rfl rfl ?_
  intro V_125 hV_125
  obtain ⟨g_128, h⟩ := z_ifo_some h
  refine r_is (pc' := 129) (L' := [(0, .ref 143), (1, .int X1)]) H hq (z_at.mk 1 rfl rfl) (show zAr 160 0 7 = true from rfl) hx1 g_128 hV_125 rfl rfl ?_
  intro m_128 H_128
  refine r_p hq 1 (pc' := 130) (L' := [(0, .ref 143), (1, .int X1)]) (st' := [.int ((1 : Int32))]) rfl ?_
  cases h
  exact r_ri hq (z_at.mk 1 rfl rfl) rfl rfl (rfl : (1 : Int32).toInt = 1) rfl H_128
def g_m_isSetting_L48 (x1 : Int) (as0 : Nat) (σ : zS) : Option (Int × zS) :=
  (g_m_word as0 σ).bind fun o_48 =>
  let s_51 := zu o_48.2 143 23 o_48.1
  let v_55 := s_51 143 23
  if 0 ≤ v_55 then
    g_m_isSetting_L119 x1 s_51
  else
    some (0, s_51)
set_option maxHeartbeats 4000000 in
theorem g_m_isSetting_L48_ok {xl : Nat} {xs : Nat → Int32} {X1 : Int32} {x1 : Int} (hx1 : X1.toInt = x1) {as0 : Nat} (has0 : zIn [12, 13] as0 = true) {σ : zS} {p : Nat} {m : zM} {o : Int × zS} (H : zRep xl xs p m σ) (h : g_m_isSetting_L48 x1 as0 σ = some o) : zGo xl xs (fun p' => p = p') 4 219 48 [(0, .ref 143), (1, .int X1)] [.ref as0, .ref 143, .ref 143] m (vI o.1) o.2 := by
  have hq : z_mth 219 = some z_r219 := rfl
  unfold g_m_isSetting_L48 at h
  obtain ⟨o_48, h_48, h⟩ := Option.bind_eq_some_iff.mp h
  refine r_cvI (pc' := 51) (L' := [(0, .ref 143), (1, .int X1)]) (Ps := [.ref as0]) (rest := [.ref 143]) hq (z_at.mk 3 rfl rfl) (Or.inl ⟨rfl, rfl⟩) rfl rfl (by decide) (by decide) rfl (Nat.not_lt.mpr (Nat.le_of_ble_eq_true rfl)) rfl rfl (z_cat_le 1 rfl (by decide)) (z_lgl_le 2 rfl (by decide)) (by decide) (H.tg rfl) (by omega) (g_m_word_ok (zIn_all (l := [12, 13]) (p := fun a => zIn [1, 2, 3, 4, 5, 6, 7, 8, 9, 10, 11, 12, 13, 14, 15, 16, 17, 18] a) rfl has0) H h_48) rfl rfl ?_
  intro R_48 m_48 p_48 e_48 hR_48 H_48
  subst e_48
  refine r_pI (X := R_48) (pc' := 54) (L' := [(0, .ref 143), (1, .int X1)]) H_48 hq (z_at.mk 3 rfl rfl) rfl rfl hR_48 (by decide) rfl rfl rfl rfl ?_
  intro m_51 H_51
  refine r_p hq 1 (pc' := 55) (L' := [(0, .ref 143), (1, .int X1)]) (st' := [.ref 143]) rfl ?_
  refine r_gI (pc' := 58) (L' := [(0, .ref 143), (1, .int X1)]) H_51 hq (z_at.mk 3 rfl rfl) rfl rfl rfl rfl ?_
  intro V_55 hV_55
  rcases z_ite h with ⟨c_58, h⟩ | ⟨c_58, h⟩
  · refine r_t1 (pc' := 119) (L' := [(0, .ref 143), (1, .int X1)]) hq (z_at.mk 3 rfl rfl) rfl hV_55 c_58 rfl rfl ?_
    exact g_m_isSetting_L119_ok hx1 H_51 h
  · refine r_f1 (pc' := 61) (L' := [(0, .ref 143), (1, .int X1)]) hq (z_at.mk 3 rfl rfl) rfl hV_55 c_58 rfl rfl ?_
    refine r_p hq 1 (pc' := 62) (L' := [(0, .ref 143), (1, .int X1)]) (st' := [.int ((0 : Int32))]) rfl ?_
    cases h
    exact r_ri hq (z_at.mk 1 rfl rfl) rfl rfl (rfl : (0 : Int32).toInt = 0) rfl H_51
def g_m_isSetting_L111 (x1 : Int) (xs0 : Int) (xs1 : Int) (xs2 : Int) (σ : zS) : Option (Int × zS) :=
  (g_m_isNumber xs2 xs1 xs0 σ).bind fun o_111 =>
  if o_111.1 ≠ 0 then
    g_m_isSetting_L119 x1 o_111.2
  else
    some (0, o_111.2)
set_option maxHeartbeats 4000000 in
theorem g_m_isSetting_L111_ok {xl : Nat} {xs : Nat → Int32} {X1 : Int32} {x1 : Int} (hx1 : X1.toInt = x1) {Xs0 : Int32} {xs0 : Int} (hxs0 : Xs0.toInt = xs0) {Xs1 : Int32} {xs1 : Int} (hxs1 : Xs1.toInt = xs1) {Xs2 : Int32} {xs2 : Int} (hxs2 : Xs2.toInt = xs2) {σ : zS} {p : Nat} {m : zM} {o : Int × zS} (H : zRep xl xs p m σ) (h : g_m_isSetting_L111 x1 xs0 xs1 xs2 σ = some o) : zGo xl xs (fun p' => p = p') 4 219 111 [(0, .ref 143), (1, .int X1)] [.int Xs0, .int Xs1, .int Xs2, .ref 143] m (vI o.1) o.2 := by
  have hq : z_mth 219 = some z_r219 := rfl
  unfold g_m_isSetting_L111 at h
  obtain ⟨o_111, h_111, h⟩ := Option.bind_eq_some_iff.mp h
  refine r_cvI (pc' := 114) (L' := [(0, .ref 143), (1, .int X1)]) (Ps := [.int Xs2, .int Xs1, .int Xs0]) (rest := []) hq (z_at.mk 3 rfl rfl) (Or.inl ⟨rfl, rfl⟩) rfl rfl (by decide) (by decide) rfl (Nat.not_lt.mpr (Nat.le_of_ble_eq_true rfl)) rfl rfl (z_cat_le 0 rfl (by decide)) (z_lgl_le 4 rfl (by decide)) (by decide) (H.tg rfl) (by omega) (g_m_isNumber_ok hxs2 hxs1 hxs0 H h_111) rfl rfl ?_
  intro R_111 m_111 p_111 e_111 hR_111 H_111
  subst e_111
  rcases z_ite h with ⟨c_114, h⟩ | ⟨c_114, h⟩
  · refine r_t1 (pc' := 119) (L' := [(0, .ref 143), (1, .int X1)]) hq (z_at.mk 3 rfl rfl) rfl hR_111 c_114 rfl rfl ?_
    exact g_m_isSetting_L119_ok hx1 H_111 h
  · refine r_f1 (pc' := 117) (L' := [(0, .ref 143), (1, .int X1)]) hq (z_at.mk 3 rfl rfl) rfl hR_111 c_114 rfl rfl ?_
    refine r_p hq 1 (pc' := 118) (L' := [(0, .ref 143), (1, .int X1)]) (st' := [.int ((0 : Int32))]) rfl ?_
    cases h
    exact r_ri hq (z_at.mk 1 rfl rfl) rfl rfl (rfl : (0 : Int32).toInt = 0) rfl H_111
def g_m_isSetting_L93 (x1 : Int) (xs0 : Int) (xs1 : Int) (σ : zS) : Option (Int × zS) :=
  g_m_isSetting_L111 x1 99 xs0 xs1 σ
set_option maxHeartbeats 4000000 in
theorem g_m_isSetting_L93_ok {xl : Nat} {xs : Nat → Int32} {X1 : Int32} {x1 : Int} (hx1 : X1.toInt = x1) {Xs0 : Int32} {xs0 : Int} (hxs0 : Xs0.toInt = xs0) {Xs1 : Int32} {xs1 : Int} (hxs1 : Xs1.toInt = xs1) {σ : zS} {p : Nat} {m : zM} {o : Int × zS} (H : zRep xl xs p m σ) (h : g_m_isSetting_L93 x1 xs0 xs1 σ = some o) : zGo xl xs (fun p' => p = p') 4 219 93 [(0, .ref 143), (1, .int X1)] [.int Xs0, .int Xs1, .ref 143] m (vI o.1) o.2 := by
  have hq : z_mth 219 = some z_r219 := rfl
  unfold g_m_isSetting_L93 at h
  refine r_p hq 2 (pc' := 111) (L' := [(0, .ref 143), (1, .int X1)]) (st' := [.int ((99 : Int32)), .int Xs0, .int Xs1, .ref 143]) rfl ?_
  exact g_m_isSetting_L111_ok hx1 (rfl : (99 : Int32).toInt = 99) hxs0 hxs1 H h
def g_m_isSetting_L84 (x1 : Int) (xs0 : Int) (xs1 : Int) (σ : zS) : Option (Int × zS) :=
  if x1 = 0 then
    g_m_isSetting_L93 x1 xs0 xs1 σ
  else
    if x1 ≠ 1 then
      if x1 ≠ 2 then
        g_m_isSetting_L111 x1 1024 xs0 xs1 σ
      else
        g_m_isSetting_L111 x1 12 xs0 xs1 σ
    else
      g_m_isSetting_L93 x1 xs0 xs1 σ
set_option maxHeartbeats 4000000 in
theorem g_m_isSetting_L84_ok {xl : Nat} {xs : Nat → Int32} {X1 : Int32} {x1 : Int} (hx1 : X1.toInt = x1) {Xs0 : Int32} {xs0 : Int} (hxs0 : Xs0.toInt = xs0) {Xs1 : Int32} {xs1 : Int} (hxs1 : Xs1.toInt = xs1) {σ : zS} {p : Nat} {m : zM} {o : Int × zS} (H : zRep xl xs p m σ) (h : g_m_isSetting_L84 x1 xs0 xs1 σ = some o) : zGo xl xs (fun p' => p = p') 4 219 84 [(0, .ref 143), (1, .int X1)] [.int Xs0, .int Xs1, .ref 143] m (vI o.1) o.2 := by
  have hq : z_mth 219 = some z_r219 := rfl
  unfold g_m_isSetting_L84 at h
  refine r_p hq 1 (pc' := 85) (L' := [(0, .ref 143), (1, .int X1)]) (st' := [.int X1, .int Xs0, .int Xs1, .ref 143]) rfl ?_
  rcases z_ite h with ⟨c_85, h⟩ | ⟨c_85, h⟩
  · refine r_t1 (pc' := 93) (L' := [(0, .ref 143), (1, .int X1)]) hq (z_at.mk 3 rfl rfl) rfl hx1 c_85 rfl rfl ?_
    exact g_m_isSetting_L93_ok hx1 hxs0 hxs1 H h
  · refine r_f1 (pc' := 88) (L' := [(0, .ref 143), (1, .int X1)]) hq (z_at.mk 3 rfl rfl) rfl hx1 c_85 rfl rfl ?_
    refine r_p hq 2 (pc' := 90) (L' := [(0, .ref 143), (1, .int X1)]) (st' := [.int ((1 : Int32)), .int X1, .int Xs0, .int Xs1, .ref 143]) rfl ?_
    rcases z_ite h with ⟨c_90, h⟩ | ⟨c_90, h⟩
    · refine r_t2 (pc' := 98) (L' := [(0, .ref 143), (1, .int X1)]) hq (z_at.mk 3 rfl rfl) rfl hx1 (rfl : (1 : Int32).toInt = 1) c_90 rfl rfl ?_
      refine r_p hq 2 (pc' := 100) (L' := [(0, .ref 143), (1, .int X1)]) (st' := [.int ((2 : Int32)), .int X1, .int Xs0, .int Xs1, .ref 143]) rfl ?_
      rcases z_ite h with ⟨c_100, h⟩ | ⟨c_100, h⟩
      · refine r_t2 (pc' := 108) (L' := [(0, .ref 143), (1, .int X1)]) hq (z_at.mk 3 rfl rfl) rfl hx1 (rfl : (2 : Int32).toInt = 2) c_100 rfl rfl ?_
        refine r_p hq 1 (pc' := 111) (L' := [(0, .ref 143), (1, .int X1)]) (st' := [.int ((1024 : Int32)), .int Xs0, .int Xs1, .ref 143]) rfl ?_
        exact g_m_isSetting_L111_ok hx1 (rfl : (1024 : Int32).toInt = 1024) hxs0 hxs1 H h
      · refine r_f2 (pc' := 103) (L' := [(0, .ref 143), (1, .int X1)]) hq (z_at.mk 3 rfl rfl) rfl hx1 (rfl : (2 : Int32).toInt = 2) c_100 rfl rfl ?_
        refine r_p hq 2 (pc' := 111) (L' := [(0, .ref 143), (1, .int X1)]) (st' := [.int ((12 : Int32)), .int Xs0, .int Xs1, .ref 143]) rfl ?_
        exact g_m_isSetting_L111_ok hx1 (rfl : (12 : Int32).toInt = 12) hxs0 hxs1 H h
    · refine r_f2 (pc' := 93) (L' := [(0, .ref 143), (1, .int X1)]) hq (z_at.mk 3 rfl rfl) rfl hx1 (rfl : (1 : Int32).toInt = 1) c_90 rfl rfl ?_
      exact g_m_isSetting_L93_ok hx1 hxs0 hxs1 H h
def g_m_isSetting_L75 (x1 : Int) (xs0 : Int) (σ : zS) : Option (Int × zS) :=
  if x1 ≠ 0 then
    g_m_isSetting_L84 x1 1 xs0 σ
  else
    g_m_isSetting_L84 x1 0 xs0 σ
set_option maxHeartbeats 4000000 in
theorem g_m_isSetting_L75_ok {xl : Nat} {xs : Nat → Int32} {X1 : Int32} {x1 : Int} (hx1 : X1.toInt = x1) {Xs0 : Int32} {xs0 : Int} (hxs0 : Xs0.toInt = xs0) {σ : zS} {p : Nat} {m : zM} {o : Int × zS} (H : zRep xl xs p m σ) (h : g_m_isSetting_L75 x1 xs0 σ = some o) : zGo xl xs (fun p' => p = p') 4 219 75 [(0, .ref 143), (1, .int X1)] [.int Xs0, .ref 143] m (vI o.1) o.2 := by
  have hq : z_mth 219 = some z_r219 := rfl
  unfold g_m_isSetting_L75 at h
  refine r_p hq 1 (pc' := 76) (L' := [(0, .ref 143), (1, .int X1)]) (st' := [.int X1, .int Xs0, .ref 143]) rfl ?_
  rcases z_ite h with ⟨c_76, h⟩ | ⟨c_76, h⟩
  · refine r_t1 (pc' := 83) (L' := [(0, .ref 143), (1, .int X1)]) hq (z_at.mk 3 rfl rfl) rfl hx1 c_76 rfl rfl ?_
    refine r_p hq 1 (pc' := 84) (L' := [(0, .ref 143), (1, .int X1)]) (st' := [.int ((1 : Int32)), .int Xs0, .ref 143]) rfl ?_
    exact g_m_isSetting_L84_ok hx1 (rfl : (1 : Int32).toInt = 1) hxs0 H h
  · refine r_f1 (pc' := 79) (L' := [(0, .ref 143), (1, .int X1)]) hq (z_at.mk 3 rfl rfl) rfl hx1 c_76 rfl rfl ?_
    refine r_p hq 2 (pc' := 84) (L' := [(0, .ref 143), (1, .int X1)]) (st' := [.int ((0 : Int32)), .int Xs0, .ref 143]) rfl ?_
    exact g_m_isSetting_L84_ok hx1 (rfl : (0 : Int32).toInt = 0) hxs0 H h
def g_m_isSetting (σ : zS) : Option (Int × zS) :=
  (g_m_word 11 σ).bind fun o_4 =>
  if o_4.1 < 0 then
    some (0, o_4.2)
  else
    (g_m_isSign 32 o_4.2).bind fun o_15 =>
    if o_15.1 ≠ 0 then
      (g_m_isIn o_4.1 3 5 o_15.2).bind fun o_26 =>
      if o_26.1 = 0 then
        if o_4.1 ≠ 6 then
          g_m_isSetting_L75 o_4.1 2 o_26.2
        else
          g_m_isSetting_L75 o_4.1 4 o_26.2
      else
        if o_4.1 ≠ 3 then
          g_m_isSetting_L48 o_4.1 13 o_26.2
        else
          g_m_isSetting_L48 o_4.1 12 o_26.2
    else
      some (0, o_15.2)
set_option maxHeartbeats 4000000 in
theorem g_m_isSetting_ok {xl : Nat} {xs : Nat → Int32} {σ : zS} {p : Nat} {m : zM} {o : Int × zS} (H : zRep xl xs p m σ) (h : g_m_isSetting σ = some o) : zGo xl xs (fun p' => p = p') 4 219 0 (z_can 219 0 (lv_args 0 [.ref 143])) [] m (vI o.1) o.2 := by
  have hq : z_mth 219 = some z_r219 := rfl
  unfold g_m_isSetting at h
  show zGo xl xs (fun p' => p = p') 4 219 0 [(0, .ref 143)] [] m (vI o.1) o.2
  refine r_p hq 2 (pc' := 4) (L' := [(0, .ref 143)]) (st' := [.ref 11, .ref 143]) rfl ?_
  obtain ⟨o_4, h_4, h⟩ := Option.bind_eq_some_iff.mp h
  refine r_cvI (pc' := 7) (L' := [(0, .ref 143)]) (Ps := [.ref 11]) (rest := []) hq (z_at.mk 3 rfl rfl) (Or.inl ⟨rfl, rfl⟩) rfl rfl (by decide) (by decide) rfl (Nat.not_lt.mpr (Nat.le_of_ble_eq_true rfl)) rfl rfl (z_cat_le 0 rfl (by decide)) (z_lgl_le 2 rfl (by decide)) (by decide) (H.tg rfl) (by omega) (g_m_word_ok rfl H h_4) rfl rfl ?_
  intro R_4 m_4 p_4 e_4 hR_4 H_4
  subst e_4
  refine r_p hq 2 (pc' := 9) (L' := [(1, .int R_4), (0, .ref 143)]) (st' := [.int R_4]) rfl ?_
  rcases z_ite h with ⟨c_9, h⟩ | ⟨c_9, h⟩
  · refine r_t1 (pc' := 21) (L' := []) hq (z_at.mk 3 rfl rfl) rfl hR_4 c_9 rfl rfl ?_
    refine r_p hq 1 (pc' := 22) (L' := []) (st' := [.int ((0 : Int32))]) rfl ?_
    cases h
    exact r_ri hq (z_at.mk 1 rfl rfl) rfl rfl (rfl : (0 : Int32).toInt = 0) rfl H_4
  · refine r_f1 (pc' := 12) (L' := [(1, .int R_4), (0, .ref 143)]) hq (z_at.mk 3 rfl rfl) rfl hR_4 c_9 rfl rfl ?_
    refine r_p hq 2 (pc' := 15) (L' := [(1, .int R_4), (0, .ref 143)]) (st' := [.int ((32 : Int32)), .ref 143]) rfl ?_
    obtain ⟨o_15, h_15, h⟩ := Option.bind_eq_some_iff.mp h
    refine r_cvI (pc' := 18) (L' := [(1, .int R_4), (0, .ref 143)]) (Ps := [.int ((32 : Int32))]) (rest := []) hq (z_at.mk 3 rfl rfl) (Or.inl ⟨rfl, rfl⟩) rfl rfl (by decide) (by decide) rfl (Nat.not_lt.mpr (Nat.le_of_ble_eq_true rfl)) rfl rfl (z_cat_le 0 rfl (by decide)) (z_lgl_le 2 rfl (by decide)) (by decide) (H_4.tg rfl) (by omega) (g_m_isSign_ok (rfl : (32 : Int32).toInt = 32) H_4 h_15) rfl rfl ?_
    intro R_15 m_15 p_15 e_15 hR_15 H_15
    subst e_15
    rcases z_ite h with ⟨c_18, h⟩ | ⟨c_18, h⟩
    · refine r_t1 (pc' := 23) (L' := [(1, .int R_4), (0, .ref 143)]) hq (z_at.mk 3 rfl rfl) rfl hR_15 c_18 rfl rfl ?_
      refine r_p hq 3 (pc' := 26) (L' := [(1, .int R_4), (0, .ref 143)]) (st' := [.int ((5 : Int32)), .int ((3 : Int32)), .int R_4]) rfl ?_
      obtain ⟨o_26, h_26, h⟩ := Option.bind_eq_some_iff.mp h
      refine r_csI (pc' := 29) (L' := [(1, .int R_4), (0, .ref 143)]) (As := [.int R_4, .int ((3 : Int32)), .int ((5 : Int32))]) (rest := []) (j := 159) hq (z_at.mk 3 rfl rfl) (Or.inl ⟨rfl, rfl⟩) rfl rfl (by omega) (g_m_isIn_ok hR_4 (rfl : (3 : Int32).toInt = 3) (rfl : (5 : Int32).toInt = 5) H_15 h_26) rfl rfl ?_
      intro R_26 m_26 p_26 e_26 hR_26 H_26
      subst e_26
      rcases z_ite h with ⟨c_29, h⟩ | ⟨c_29, h⟩
      · refine r_t1 (pc' := 63) (L' := [(1, .int R_4), (0, .ref 143)]) hq (z_at.mk 3 rfl rfl) rfl hR_26 c_29 rfl rfl ?_
        refine r_p hq 3 (pc' := 67) (L' := [(1, .int R_4), (0, .ref 143)]) (st' := [.int ((6 : Int32)), .int R_4, .ref 143]) rfl ?_
        rcases z_ite h with ⟨c_67, h⟩ | ⟨c_67, h⟩
        · refine r_t2 (pc' := 74) (L' := [(1, .int R_4), (0, .ref 143)]) hq (z_at.mk 3 rfl rfl) rfl hR_4 (rfl : (6 : Int32).toInt = 6) c_67 rfl rfl ?_
          refine r_p hq 1 (pc' := 75) (L' := [(0, .ref 143), (1, .int R_4)]) (st' := [.int ((2 : Int32)), .ref 143]) rfl ?_
          exact g_m_isSetting_L75_ok hR_4 (rfl : (2 : Int32).toInt = 2) H_26 h
        · refine r_f2 (pc' := 70) (L' := [(1, .int R_4), (0, .ref 143)]) hq (z_at.mk 3 rfl rfl) rfl hR_4 (rfl : (6 : Int32).toInt = 6) c_67 rfl rfl ?_
          refine r_p hq 2 (pc' := 75) (L' := [(0, .ref 143), (1, .int R_4)]) (st' := [.int ((4 : Int32)), .ref 143]) rfl ?_
          exact g_m_isSetting_L75_ok hR_4 (rfl : (4 : Int32).toInt = 4) H_26 h
      · refine r_f1 (pc' := 32) (L' := [(1, .int R_4), (0, .ref 143)]) hq (z_at.mk 3 rfl rfl) rfl hR_26 c_29 rfl rfl ?_
        refine r_p hq 4 (pc' := 36) (L' := [(1, .int R_4), (0, .ref 143)]) (st' := [.int ((3 : Int32)), .int R_4, .ref 143, .ref 143]) rfl ?_
        rcases z_ite h with ⟨c_36, h⟩ | ⟨c_36, h⟩
        · refine r_t2 (pc' := 45) (L' := [(1, .int R_4), (0, .ref 143)]) hq (z_at.mk 3 rfl rfl) rfl hR_4 (rfl : (3 : Int32).toInt = 3) c_36 rfl rfl ?_
          refine r_p hq 1 (pc' := 48) (L' := [(0, .ref 143), (1, .int R_4)]) (st' := [.ref 13, .ref 143, .ref 143]) rfl ?_
          exact g_m_isSetting_L48_ok hR_4 rfl H_26 h
        · refine r_f2 (pc' := 39) (L' := [(1, .int R_4), (0, .ref 143)]) hq (z_at.mk 3 rfl rfl) rfl hR_4 (rfl : (3 : Int32).toInt = 3) c_36 rfl rfl ?_
          refine r_p hq 2 (pc' := 48) (L' := [(0, .ref 143), (1, .int R_4)]) (st' := [.ref 12, .ref 143, .ref 143]) rfl ?_
          exact g_m_isSetting_L48_ok hR_4 rfl H_26 h
    · refine r_f1 (pc' := 21) (L' := []) hq (z_at.mk 3 rfl rfl) rfl hR_15 c_18 rfl rfl ?_
      refine r_p hq 1 (pc' := 22) (L' := []) (st' := [.int ((0 : Int32))]) rfl ?_
      cases h
      exact r_ri hq (z_at.mk 1 rfl rfl) rfl rfl (rfl : (0 : Int32).toInt = 0) rfl H_15
def g_m_begins (σ : zS) : Option (Unit × zS) :=
  let s_2 := zu σ 143 21 0
  let s_7 := zu s_2 143 22 (-1)
  some ((), s_7)
set_option maxHeartbeats 4000000 in
theorem g_m_begins_ok {xl : Nat} {xs : Nat → Int32} {σ : zS} {p : Nat} {m : zM} {o : Unit × zS} (H : zRep xl xs p m σ) (h : g_m_begins σ = some o) : zGo xl xs (fun p' => p = p') 1 222 0 (z_can 222 0 (lv_args 0 [.ref 143])) [] m vV o.2 := by
  have hq : z_mth 222 = some z_r222 := rfl
  unfold g_m_begins at h
  show zGo xl xs (fun p' => p = p') 1 222 0 [(0, .ref 143)] [] m vV o.2
  refine r_p hq 2 (pc' := 2) (L' := [(0, .ref 143)]) (st' := [.int ((0 : Int32)), .ref 143]) rfl ?_
  refine r_pI (X := (0 : Int32)) (pc' := 5) (L' := [(0, .ref 143)]) H hq (z_at.mk 3 rfl rfl) rfl rfl (rfl : (0 : Int32).toInt = 0) (by decide) rfl rfl rfl rfl ?_
  intro m_2 H_2
  refine r_p hq 2 (pc' := 7) (L' := [(0, .ref 143)]) (st' := [.int ((-1 : Int32)), .ref 143]) rfl ?_
  refine r_pI (X := (-1 : Int32)) (pc' := 10) (L' := [(0, .ref 143)]) H_2 hq (z_at.mk 3 rfl rfl) rfl rfl (rfl : (-1 : Int32).toInt = -1) (by decide) rfl rfl rfl rfl ?_
  intro m_7 H_7
  cases h
  exact r_rv hq (z_at.mk 1 rfl rfl) rfl rfl H_7
def g_m_settings_L105 : Nat → Int → Int → zS → Option (Int × zS)
  | 0, _, _, _ => none
  | n + 1, x1, x3, σ =>
    if 7 ≤ x3 then
      (g_m_trims σ).bind fun o_133 =>
      some (x1, o_133.2)
    else
      if 0 ≤ x3 ∧ x3 < 7 then
      let v_124 := σ 160 x3
      if 0 ≤ w32 (11 + x3) ∧ w32 (11 + x3) < 2740 then
      let s_125 := zu σ 144 (w32 (11 + x3)) v_124
      (g_m_settings_L105 n) x1 (w32 (x3 + 1)) s_125
      else none
      else none
set_option maxHeartbeats 4000000 in
theorem g_m_settings_L105_ok {xl : Nat} {xs : Nat → Int32} : ∀ (n : Nat) {X1 : Int32} {x1 : Int} {X3 : Int32} {x3 : Int} {σ : zS} {p : Nat} {m : zM} {o : Int × zS}, X1.toInt = x1 → X3.toInt = x3 → zRep xl xs p m σ → g_m_settings_L105 n x1 x3 σ = some o → zGo xl xs (fun p' => p = p') 7 220 105 [(0, .ref 143), (1, .int X1), (3, .int X3)] [] m (vI o.1) o.2
  | 0, _, _, _, _, _, _, _, _, _, _, _, h => by cases h
  | n + 1, X1, x1, X3, x3, σ, p, m, o, hx1, hx3, H, h => by
    have hq : z_mth 220 = some z_r220 := rfl
    have ih := fun {X1 : Int32} {x1 : Int} {X3 : Int32} {x3 : Int} {σ : zS} {p : Nat} {m : zM} {o : Int × zS} => g_m_settings_L105_ok (xl := xl) (xs := xs) n (X1 := X1) (x1 := x1) (X3 := X3) (x3 := x3) (σ := σ) (p := p) (m := m) (o := o)
    unfold g_m_settings_L105 at h
    refine r_p hq 2 (pc' := 108) (L' := [(0, .ref 143), (1, .int X1), (3, .int X3)]) (st' := [.int ((7 : Int32)), .int X3]) rfl ?_
    rcases z_ite h with ⟨c_108, h⟩ | ⟨c_108, h⟩
    · refine r_t2 (pc' := 132) (L' := [(0, .ref 143), (1, .int X1), (3, .int X3)]) hq (z_at.mk 3 rfl rfl) rfl hx3 (rfl : (7 : Int32).toInt = 7) c_108 rfl rfl ?_
      refine r_p hq 1 (pc' := 133) (L' := [(0, .ref 143), (1, .int X1), (3, .int X3)]) (st' := [.ref 143]) rfl ?_
      obtain ⟨o_133, h_133, h⟩ := Option.bind_eq_some_iff.mp h
      refine r_cvV (pc' := 136) (L' := [(0, .ref 143), (1, .int X1), (3, .int X3)]) (Ps := []) (rest := []) hq (z_at.mk 3 rfl rfl) (Or.inl ⟨rfl, rfl⟩) rfl rfl (by decide) (by decide) rfl (Nat.not_lt.mpr (Nat.le_of_ble_eq_true rfl)) rfl rfl (z_cat_le 0 rfl (by decide)) (z_lgl_le 1 rfl (by decide)) (by decide) (H.tg rfl) (by omega) (g_m_trims_ok H h_133) rfl rfl ?_
      intro m_133 p_133 e_133 H_133
      subst e_133
      refine r_p hq 1 (pc' := 137) (L' := [(0, .ref 143), (1, .int X1), (3, .int X3)]) (st' := [.int X1]) rfl ?_
      cases h
      exact r_ri hq (z_at.mk 1 rfl rfl) rfl rfl hx1 rfl H_133
    · refine r_f2 (pc' := 111) (L' := [(0, .ref 143), (1, .int X1), (3, .int X3)]) hq (z_at.mk 3 rfl rfl) rfl hx3 (rfl : (7 : Int32).toInt = 7) c_108 rfl rfl ?_
      refine r_p hq 1 (pc' := 112) (L' := [(0, .ref 143), (1, .int X1), (3, .int X3)]) (st' := [.ref 143]) rfl ?_
      refine r_gR (b := 144) (pc' := 115) (L' := [(0, .ref 143), (1, .int X1), (3, .int X3)]) H hq (z_at.mk 3 rfl rfl) rfl rfl rfl rfl ?_
      refine r_p hq 4 (pc' := 120) (L' := [(0, .ref 143), (1, .int X1), (3, .int X3)]) (st' := [.ref 143, .int (((11 : Int32)) + X3), .ref 144]) rfl ?_
      refine r_gR (b := 160) (pc' := 123) (L' := [(0, .ref 143), (1, .int X1), (3, .int X3)]) H hq (z_at.mk 3 rfl rfl) rfl rfl rfl rfl ?_
      refine r_p hq 1 (pc' := 124) (L' := [(0, .ref 143), (1, .int X1), (3, .int X3)]) (st' := [.int X3, .ref 160, .int (((11 : Int32)) + X3), .ref 144]) rfl ?_
      obtain ⟨g_124, h⟩ := z_ifo_some h
      refine r_ia (pc' := 125) (L' := [(0, .ref 143), (1, .int X1), (3, .int X3)]) H hq (z_at.mk 1 rfl rfl) (show zAr 160 0 7 = true from rfl) hx3 g_124 rfl rfl ?_
      intro V_124 hV_124
      obtain ⟨g_125, h⟩ := z_ifo_some h
      refine r_is (pc' := 126) (L' := [(0, .ref 143), (1, .int X1), (3, .int X3)]) H hq (z_at.mk 1 rfl rfl) (show zAr 144 0 2740 = true from rfl) (tx_iadd (rfl : (11 : Int32).toInt = 11) hx3) g_125 hV_124 rfl rfl ?_
      intro m_125 H_125
      refine r_p hq 2 (pc' := 105) (L' := [(0, .ref 143), (1, .int X1), (3, .int (X3 + (1 : Int32)))]) (st' := []) rfl ?_
      exact ih hx1 (tx_iadd hx3 (rfl : (1 : Int32).toInt = 1)) H_125 h
def g_m_settings_L69 (g37 : Int → Int → zS → Option (Int × zS)) (x1 : Int) (x2 : Int) (σ : zS) : Option (Int × zS) :=
  if x2 = 0 then
    g37 x1 x2 σ
  else
    (g_m_isSign 59 σ).bind fun o_76 =>
    g37 x1 o_76.1 o_76.2
set_option maxHeartbeats 4000000 in
theorem g_m_settings_L69_ok {xl : Nat} {xs : Nat → Int32} {g37 : Int → Int → zS → Option (Int × zS)} (hg37 : ∀ {X1 : Int32} {x1 : Int} {X2 : Int32} {x2 : Int} {σ : zS} {p : Nat} {m : zM} {o : Int × zS}, X1.toInt = x1 → X2.toInt = x2 → zRep xl xs p m σ → g37 x1 x2 σ = some o → zGo xl xs (fun p' => p = p') 7 220 37 [(0, .ref 143), (1, .int X1), (2, .int X2)] [] m (vI o.1) o.2) {X1 : Int32} {x1 : Int} (hx1 : X1.toInt = x1) {X2 : Int32} {x2 : Int} (hx2 : X2.toInt = x2) {σ : zS} {p : Nat} {m : zM} {o : Int × zS} (H : zRep xl xs p m σ) (h : g_m_settings_L69 g37 x1 x2 σ = some o) : zGo xl xs (fun p' => p = p') 7 220 69 [(0, .ref 143), (1, .int X1), (2, .int X2)] [] m (vI o.1) o.2 := by
  have hq : z_mth 220 = some z_r220 := rfl
  unfold g_m_settings_L69 at h
  refine r_p hq 1 (pc' := 70) (L' := [(0, .ref 143), (1, .int X1), (2, .int X2)]) (st' := [.int X2]) rfl ?_
  rcases z_ite h with ⟨c_70, h⟩ | ⟨c_70, h⟩
  · refine r_t1 (pc' := 37) (L' := [(0, .ref 143), (1, .int X1), (2, .int X2)]) hq (z_at.mk 3 rfl rfl) rfl hx2 c_70 rfl rfl ?_
    exact hg37 hx1 hx2 H h
  · refine r_f1 (pc' := 73) (L' := [(0, .ref 143), (1, .int X1), (2, .int X2)]) hq (z_at.mk 3 rfl rfl) rfl hx2 c_70 rfl rfl ?_
    refine r_p hq 2 (pc' := 76) (L' := [(0, .ref 143), (1, .int X1), (2, .int X2)]) (st' := [.int ((59 : Int32)), .ref 143]) rfl ?_
    obtain ⟨o_76, h_76, h⟩ := Option.bind_eq_some_iff.mp h
    refine r_cvI (pc' := 79) (L' := [(0, .ref 143), (1, .int X1), (2, .int X2)]) (Ps := [.int ((59 : Int32))]) (rest := []) hq (z_at.mk 3 rfl rfl) (Or.inl ⟨rfl, rfl⟩) rfl rfl (by decide) (by decide) rfl (Nat.not_lt.mpr (Nat.le_of_ble_eq_true rfl)) rfl rfl (z_cat_le 0 rfl (by decide)) (z_lgl_le 2 rfl (by decide)) (by decide) (H.tg rfl) (by omega) (g_m_isSign_ok (rfl : (59 : Int32).toInt = 59) H h_76) rfl rfl ?_
    intro R_76 m_76 p_76 e_76 hR_76 H_76
    subst e_76
    refine r_p hq 2 (pc' := 37) (L' := [(0, .ref 143), (1, .int X1), (2, .int R_76)]) (st' := []) rfl ?_
    exact hg37 hx1 hR_76 H_76 h
def g_m_settings_L37 : Nat → Int → Int → zS → Option (Int × zS)
  | 0, _, _, _ => none
  | n + 1, x1, x2, σ =>
    if x2 = 0 then
      let s_85 := zu σ 143 20 0
      let v_89 := s_85 143 22
      if v_89 < 0 then
        g_m_settings_L105 zK x1 0 s_85
      else
        let v_98 := s_85 143 22
        some (w32 ((-100) - v_98), s_85)
    else
      (g_m_isSetting σ).bind fun o_42 =>
      if o_42.1 = 0 then
        g_m_settings_L69 ((g_m_settings_L37 n)) (w32 (x1 + 1)) o_42.1 o_42.2
      else
        let v_54 := o_42.2 143 21
        let v_58 := o_42.2 143 20
        if v_54 ≠ v_58 then
          g_m_settings_L69 ((g_m_settings_L37 n)) (w32 (x1 + 1)) o_42.1 o_42.2
        else
          (g_m_settings_L37 n) (w32 (x1 + 1)) 0 o_42.2
set_option maxHeartbeats 4000000 in
theorem g_m_settings_L37_ok {xl : Nat} {xs : Nat → Int32} : ∀ (n : Nat) {X1 : Int32} {x1 : Int} {X2 : Int32} {x2 : Int} {σ : zS} {p : Nat} {m : zM} {o : Int × zS}, X1.toInt = x1 → X2.toInt = x2 → zRep xl xs p m σ → g_m_settings_L37 n x1 x2 σ = some o → zGo xl xs (fun p' => p = p') 7 220 37 [(0, .ref 143), (1, .int X1), (2, .int X2)] [] m (vI o.1) o.2
  | 0, _, _, _, _, _, _, _, _, _, _, _, h => by cases h
  | n + 1, X1, x1, X2, x2, σ, p, m, o, hx1, hx2, H, h => by
    have hq : z_mth 220 = some z_r220 := rfl
    have ih := fun {X1 : Int32} {x1 : Int} {X2 : Int32} {x2 : Int} {σ : zS} {p : Nat} {m : zM} {o : Int × zS} => g_m_settings_L37_ok (xl := xl) (xs := xs) n (X1 := X1) (x1 := x1) (X2 := X2) (x2 := x2) (σ := σ) (p := p) (m := m) (o := o)
    unfold g_m_settings_L37 at h
    refine r_p hq 1 (pc' := 38) (L' := [(0, .ref 143), (1, .int X1), (2, .int X2)]) (st' := [.int X2]) rfl ?_
    rcases z_ite h with ⟨c_38, h⟩ | ⟨c_38, h⟩
    · refine r_t1 (pc' := 83) (L' := [(0, .ref 143), (1, .int X1), (2, .int X2)]) hq (z_at.mk 3 rfl rfl) rfl hx2 c_38 rfl rfl ?_
      refine r_p hq 2 (pc' := 85) (L' := [(0, .ref 143), (1, .int X1), (2, .int X2)]) (st' := [.int ((0 : Int32)), .ref 143]) rfl ?_
      refine r_pI (X := (0 : Int32)) (pc' := 88) (L' := [(0, .ref 143), (1, .int X1), (2, .int X2)]) H hq (z_at.mk 3 rfl rfl) rfl rfl (rfl : (0 : Int32).toInt = 0) (by decide) rfl rfl rfl rfl ?_
      intro m_85 H_85
      refine r_p hq 1 (pc' := 89) (L' := [(0, .ref 143), (1, .int X1), (2, .int X2)]) (st' := [.ref 143]) rfl ?_
      refine r_gI (pc' := 92) (L' := [(0, .ref 143), (1, .int X1), (2, .int X2)]) H_85 hq (z_at.mk 3 rfl rfl) rfl rfl rfl rfl ?_
      intro V_89 hV_89
      rcases z_ite h with ⟨c_92, h⟩ | ⟨c_92, h⟩
      · refine r_t1 (pc' := 103) (L' := [(0, .ref 143), (1, .int X1), (2, .int X2)]) hq (z_at.mk 3 rfl rfl) rfl hV_89 c_92 rfl rfl ?_
        refine r_p hq 2 (pc' := 105) (L' := [(0, .ref 143), (1, .int X1), (3, .int ((0 : Int32)))]) (st' := []) rfl ?_
        exact g_m_settings_L105_ok zK hx1 (rfl : (0 : Int32).toInt = 0) H_85 h
      · refine r_f1 (pc' := 95) (L' := [(0, .ref 143), (1, .int X1), (2, .int X2)]) hq (z_at.mk 3 rfl rfl) rfl hV_89 c_92 rfl rfl ?_
        refine r_p hq 2 (pc' := 98) (L' := [(0, .ref 143), (1, .int X1), (2, .int X2)]) (st' := [.ref 143, .int ((-100 : Int32))]) rfl ?_
        refine r_gI (pc' := 101) (L' := [(0, .ref 143), (1, .int X1), (2, .int X2)]) H_85 hq (z_at.mk 3 rfl rfl) rfl rfl rfl rfl ?_
        intro V_98 hV_98
        refine r_p hq 1 (pc' := 102) (L' := [(0, .ref 143), (1, .int X1), (2, .int X2)]) (st' := [.int (((-100 : Int32)) - V_98)]) rfl ?_
        cases h
        exact r_ri hq (z_at.mk 1 rfl rfl) rfl rfl (tx_isub (rfl : (-100 : Int32).toInt = -100) hV_98) rfl H_85
    · refine r_f1 (pc' := 41) (L' := [(0, .ref 143), (1, .int X1), (2, .int X2)]) hq (z_at.mk 3 rfl rfl) rfl hx2 c_38 rfl rfl ?_
      refine r_p hq 1 (pc' := 42) (L' := [(0, .ref 143), (1, .int X1), (2, .int X2)]) (st' := [.ref 143]) rfl ?_
      obtain ⟨o_42, h_42, h⟩ := Option.bind_eq_some_iff.mp h
      refine r_cvI (pc' := 45) (L' := [(0, .ref 143), (1, .int X1), (2, .int X2)]) (Ps := []) (rest := []) hq (z_at.mk 3 rfl rfl) (Or.inl ⟨rfl, rfl⟩) rfl rfl (by decide) (by decide) rfl (Nat.not_lt.mpr (Nat.le_of_ble_eq_true rfl)) rfl rfl (z_cat_le 0 rfl (by decide)) (z_lgl_le 1 rfl (by decide)) (by decide) (H.tg rfl) (by omega) (g_m_isSetting_ok H h_42) rfl rfl ?_
      intro R_42 m_42 p_42 e_42 hR_42 H_42
      subst e_42
      refine r_p hq 3 (pc' := 50) (L' := [(1, .int (X1 + (1 : Int32))), (2, .int R_42), (0, .ref 143)]) (st' := [.int R_42]) rfl ?_
      rcases z_ite h with ⟨c_50, h⟩ | ⟨c_50, h⟩
      · refine r_t1 (pc' := 69) (L' := [(0, .ref 143), (1, .int (X1 + (1 : Int32))), (2, .int R_42)]) hq (z_at.mk 3 rfl rfl) rfl hR_42 c_50 rfl rfl ?_
        exact g_m_settings_L69_ok ih (tx_iadd hx1 (rfl : (1 : Int32).toInt = 1)) hR_42 H_42 h
      · refine r_f1 (pc' := 53) (L' := [(1, .int (X1 + (1 : Int32))), (2, .int R_42), (0, .ref 143)]) hq (z_at.mk 3 rfl rfl) rfl hR_42 c_50 rfl rfl ?_
        refine r_p hq 1 (pc' := 54) (L' := [(1, .int (X1 + (1 : Int32))), (2, .int R_42), (0, .ref 143)]) (st' := [.ref 143]) rfl ?_
        refine r_gI (pc' := 57) (L' := [(1, .int (X1 + (1 : Int32))), (2, .int R_42), (0, .ref 143)]) H_42 hq (z_at.mk 3 rfl rfl) rfl rfl rfl rfl ?_
        intro V_54 hV_54
        refine r_p hq 1 (pc' := 58) (L' := [(1, .int (X1 + (1 : Int32))), (2, .int R_42), (0, .ref 143)]) (st' := [.ref 143, .int V_54]) rfl ?_
        refine r_gI (pc' := 61) (L' := [(1, .int (X1 + (1 : Int32))), (2, .int R_42), (0, .ref 143)]) H_42 hq (z_at.mk 3 rfl rfl) rfl rfl rfl rfl ?_
        intro V_58 hV_58
        rcases z_ite h with ⟨c_61, h⟩ | ⟨c_61, h⟩
        · refine r_t2 (pc' := 69) (L' := [(0, .ref 143), (1, .int (X1 + (1 : Int32))), (2, .int R_42)]) hq (z_at.mk 3 rfl rfl) rfl hV_54 hV_58 c_61 rfl rfl ?_
          exact g_m_settings_L69_ok ih (tx_iadd hx1 (rfl : (1 : Int32).toInt = 1)) hR_42 H_42 h
        · refine r_f2 (pc' := 64) (L' := [(1, .int (X1 + (1 : Int32))), (2, .int R_42), (0, .ref 143)]) hq (z_at.mk 3 rfl rfl) rfl hV_54 hV_58 c_61 rfl rfl ?_
          refine r_p hq 3 (pc' := 37) (L' := [(0, .ref 143), (1, .int (X1 + (1 : Int32))), (2, .int ((0 : Int32)))]) (st' := []) rfl ?_
          exact ih (tx_iadd hx1 (rfl : (1 : Int32).toInt = 1)) (rfl : (0 : Int32).toInt = 0) H_42 h
def g_m_settings_L2 : Nat → Int → zS → Option (Int × zS)
  | 0, _, _ => none
  | n + 1, x1, σ =>
    if 7 ≤ x1 then
      (g_m_begins σ).bind fun o_30 =>
      g_m_settings_L37 zK 0 1 o_30.2
    else
      if 0 ≤ w32 (11 + x1) ∧ w32 (11 + x1) < 2740 then
      let v_21 := σ 144 (w32 (11 + x1))
      if 0 ≤ x1 ∧ x1 < 7 then
      let s_22 := zu σ 160 x1 v_21
      (g_m_settings_L2 n) (w32 (x1 + 1)) s_22
      else none
      else none
set_option maxHeartbeats 4000000 in
theorem g_m_settings_L2_ok {xl : Nat} {xs : Nat → Int32} : ∀ (n : Nat) {X1 : Int32} {x1 : Int} {σ : zS} {p : Nat} {m : zM} {o : Int × zS}, X1.toInt = x1 → zRep xl xs p m σ → g_m_settings_L2 n x1 σ = some o → zGo xl xs (fun p' => p = p') 7 220 2 [(0, .ref 143), (1, .int X1)] [] m (vI o.1) o.2
  | 0, _, _, _, _, _, _, _, _, h => by cases h
  | n + 1, X1, x1, σ, p, m, o, hx1, H, h => by
    have hq : z_mth 220 = some z_r220 := rfl
    have ih := fun {X1 : Int32} {x1 : Int} {σ : zS} {p : Nat} {m : zM} {o : Int × zS} => g_m_settings_L2_ok (xl := xl) (xs := xs) n (X1 := X1) (x1 := x1) (σ := σ) (p := p) (m := m) (o := o)
    unfold g_m_settings_L2 at h
    refine r_p hq 2 (pc' := 5) (L' := [(0, .ref 143), (1, .int X1)]) (st' := [.int ((7 : Int32)), .int X1]) rfl ?_
    rcases z_ite h with ⟨c_5, h⟩ | ⟨c_5, h⟩
    · refine r_t2 (pc' := 29) (L' := [(0, .ref 143), (1, .int X1)]) hq (z_at.mk 3 rfl rfl) rfl hx1 (rfl : (7 : Int32).toInt = 7) c_5 rfl rfl ?_
      refine r_p hq 1 (pc' := 30) (L' := [(0, .ref 143), (1, .int X1)]) (st' := [.ref 143]) rfl ?_
      obtain ⟨o_30, h_30, h⟩ := Option.bind_eq_some_iff.mp h
      refine r_cvV (pc' := 33) (L' := [(0, .ref 143), (1, .int X1)]) (Ps := []) (rest := []) hq (z_at.mk 3 rfl rfl) (Or.inl ⟨rfl, rfl⟩) rfl rfl (by decide) (by decide) rfl (Nat.not_lt.mpr (Nat.le_of_ble_eq_true rfl)) rfl rfl (z_cat_le 0 rfl (by decide)) (z_lgl_le 1 rfl (by decide)) (by decide) (H.tg rfl) (by omega) (g_m_begins_ok H h_30) rfl rfl ?_
      intro m_30 p_30 e_30 H_30
      subst e_30
      refine r_p hq 4 (pc' := 37) (L' := [(0, .ref 143), (1, .int ((0 : Int32))), (2, .int ((1 : Int32)))]) (st' := []) rfl ?_
      exact g_m_settings_L37_ok zK (rfl : (0 : Int32).toInt = 0) (rfl : (1 : Int32).toInt = 1) H_30 h
    · refine r_f2 (pc' := 8) (L' := [(0, .ref 143), (1, .int X1)]) hq (z_at.mk 3 rfl rfl) rfl hx1 (rfl : (7 : Int32).toInt = 7) c_5 rfl rfl ?_
      refine r_p hq 1 (pc' := 9) (L' := [(0, .ref 143), (1, .int X1)]) (st' := [.ref 143]) rfl ?_
      refine r_gR (b := 160) (pc' := 12) (L' := [(0, .ref 143), (1, .int X1)]) H hq (z_at.mk 3 rfl rfl) rfl rfl rfl rfl ?_
      refine r_p hq 2 (pc' := 14) (L' := [(0, .ref 143), (1, .int X1)]) (st' := [.ref 143, .int X1, .ref 160]) rfl ?_
      refine r_gR (b := 144) (pc' := 17) (L' := [(0, .ref 143), (1, .int X1)]) H hq (z_at.mk 3 rfl rfl) rfl rfl rfl rfl ?_
      refine r_p hq 3 (pc' := 21) (L' := [(0, .ref 143), (1, .int X1)]) (st' := [.int (((11 : Int32)) + X1), .ref 144, .int X1, .ref 160]) rfl ?_
      obtain ⟨g_21, h⟩ := z_ifo_some h
      refine r_ia (pc' := 22) (L' := [(0, .ref 143), (1, .int X1)]) H hq (z_at.mk 1 rfl rfl) (show zAr 144 0 2740 = true from rfl) (tx_iadd (rfl : (11 : Int32).toInt = 11) hx1) g_21 rfl rfl ?_
      intro V_21 hV_21
      obtain ⟨g_22, h⟩ := z_ifo_some h
      refine r_is (pc' := 23) (L' := [(0, .ref 143), (1, .int X1)]) H hq (z_at.mk 1 rfl rfl) (show zAr 160 0 7 = true from rfl) hx1 g_22 hV_21 rfl rfl ?_
      intro m_22 H_22
      refine r_p hq 2 (pc' := 2) (L' := [(0, .ref 143), (1, .int (X1 + (1 : Int32)))]) (st' := []) rfl ?_
      exact ih (tx_iadd hx1 (rfl : (1 : Int32).toInt = 1)) H_22 h
def g_m_settings (σ : zS) : Option (Int × zS) :=
  g_m_settings_L2 zK 0 σ
set_option maxHeartbeats 4000000 in
theorem g_m_settings_ok {xl : Nat} {xs : Nat → Int32} {σ : zS} {p : Nat} {m : zM} {o : Int × zS} (H : zRep xl xs p m σ) (h : g_m_settings σ = some o) : zGo xl xs (fun p' => p = p') 7 220 0 (z_can 220 0 (lv_args 0 [.ref 143])) [] m (vI o.1) o.2 := by
  have hq : z_mth 220 = some z_r220 := rfl
  unfold g_m_settings at h
  show zGo xl xs (fun p' => p = p') 7 220 0 [(0, .ref 143)] [] m (vI o.1) o.2
  refine r_p hq 2 (pc' := 2) (L' := [(0, .ref 143), (1, .int ((0 : Int32)))]) (st' := []) rfl ?_
  exact g_m_settings_L2_ok zK (rfl : (0 : Int32).toInt = 0) H h
def g_m_setting (x1 : Int) (σ : zS) : Option (Int × zS) :=
  (g_m_isIn x1 0 6 σ).bind fun o_4 =>
  if o_4.1 = 0 then
    some (-1, o_4.2)
  else
    if 0 ≤ w32 (11 + x1) ∧ w32 (11 + x1) < 2740 then
    let v_18 := o_4.2 144 (w32 (11 + x1))
    some (v_18, o_4.2)
    else none
set_option maxHeartbeats 4000000 in
theorem g_m_setting_ok {xl : Nat} {xs : Nat → Int32} {X1 : Int32} {x1 : Int} (hx1 : X1.toInt = x1) {σ : zS} {p : Nat} {m : zM} {o : Int × zS} (H : zRep xl xs p m σ) (h : g_m_setting x1 σ = some o) : zGo xl xs (fun p' => p = p') 2 221 0 (z_can 221 0 (lv_args 0 [.ref 143, .int X1])) [] m (vI o.1) o.2 := by
  have hq : z_mth 221 = some z_r221 := rfl
  unfold g_m_setting at h
  show zGo xl xs (fun p' => p = p') 2 221 0 [(0, .ref 143), (1, .int X1)] [] m (vI o.1) o.2
  refine r_p hq 3 (pc' := 4) (L' := [(0, .ref 143), (1, .int X1)]) (st' := [.int ((6 : Int32)), .int ((0 : Int32)), .int X1]) rfl ?_
  obtain ⟨o_4, h_4, h⟩ := Option.bind_eq_some_iff.mp h
  refine r_csI (pc' := 7) (L' := [(0, .ref 143), (1, .int X1)]) (As := [.int X1, .int ((0 : Int32)), .int ((6 : Int32))]) (rest := []) (j := 159) hq (z_at.mk 3 rfl rfl) (Or.inl ⟨rfl, rfl⟩) rfl rfl (by omega) (g_m_isIn_ok hx1 (rfl : (0 : Int32).toInt = 0) (rfl : (6 : Int32).toInt = 6) H h_4) rfl rfl ?_
  intro R_4 m_4 p_4 e_4 hR_4 H_4
  subst e_4
  rcases z_ite h with ⟨c_7, h⟩ | ⟨c_7, h⟩
  · refine r_t1 (pc' := 22) (L' := [(0, .ref 143), (1, .int X1)]) hq (z_at.mk 3 rfl rfl) rfl hR_4 c_7 rfl rfl ?_
    refine r_p hq 1 (pc' := 23) (L' := []) (st' := [.int ((-1 : Int32))]) rfl ?_
    cases h
    exact r_ri hq (z_at.mk 1 rfl rfl) rfl rfl (rfl : (-1 : Int32).toInt = -1) rfl H_4
  · refine r_f1 (pc' := 10) (L' := [(0, .ref 143), (1, .int X1)]) hq (z_at.mk 3 rfl rfl) rfl hR_4 c_7 rfl rfl ?_
    refine r_p hq 1 (pc' := 11) (L' := [(0, .ref 143), (1, .int X1)]) (st' := [.ref 143]) rfl ?_
    refine r_gR (b := 144) (pc' := 14) (L' := [(0, .ref 143), (1, .int X1)]) H_4 hq (z_at.mk 3 rfl rfl) rfl rfl rfl rfl ?_
    refine r_p hq 3 (pc' := 18) (L' := [(0, .ref 143), (1, .int X1)]) (st' := [.int (((11 : Int32)) + X1), .ref 144]) rfl ?_
    obtain ⟨g_18, h⟩ := z_ifo_some h
    refine r_ia (pc' := 19) (L' := [(0, .ref 143), (1, .int X1)]) H_4 hq (z_at.mk 1 rfl rfl) (show zAr 144 0 2740 = true from rfl) (tx_iadd (rfl : (11 : Int32).toInt = 11) hx1) g_18 rfl rfl ?_
    intro V_18 hV_18
    refine r_p hq 1 (pc' := 23) (L' := []) (st' := [.int V_18]) rfl ?_
    cases h
    exact r_ri hq (z_at.mk 1 rfl rfl) rfl rfl hV_18 rfl H_4
def g_m_isRange (x1 : Int) (σ : zS) : Option (Int × zS) :=
  if 0 ≤ x1 ∧ x1 < 48 then
  let s_6 := zu σ 161 x1 0
  if 0 ≤ w32 (x1 + 1) ∧ w32 (x1 + 1) < 48 then
  let s_16 := zu s_6 161 (w32 (x1 + 1)) 31
  (g_m_here s_16).bind fun o_18 =>
  if o_18.1 ≠ 42 then
    (g_m_isNumber 2 0 31 o_18.2).bind fun o_43 =>
    if o_43.1 ≠ 0 then
      let v_57 := o_43.2 143 23
      if 0 ≤ x1 ∧ x1 < 48 then
      let s_60 := zu o_43.2 161 x1 v_57
      let v_69 := s_60 143 23
      if 0 ≤ w32 (x1 + 1) ∧ w32 (x1 + 1) < 48 then
      let s_72 := zu s_60 161 (w32 (x1 + 1)) v_69
      (g_m_here s_72).bind fun o_74 =>
      if o_74.1 = 45 then
        let v_86 := o_74.2 143 21
        let s_91 := zu o_74.2 143 21 (w32 (v_86 + 1))
        if 0 ≤ x1 ∧ x1 < 48 then
        let v_101 := s_91 161 x1
        (g_m_isNumber 2 v_101 31 s_91).bind fun o_104 =>
        if o_104.1 ≠ 0 then
          let v_120 := o_104.2 143 23
          if 0 ≤ w32 (x1 + 1) ∧ w32 (x1 + 1) < 48 then
          let s_123 := zu o_104.2 161 (w32 (x1 + 1)) v_120
          some (1, s_123)
          else none
        else
          some (0, o_104.2)
        else none
      else
        some (1, o_74.2)
      else none
      else none
    else
      some (0, o_43.2)
  else
    let v_28 := o_18.2 143 21
    let s_33 := zu o_18.2 143 21 (w32 (v_28 + 1))
    some (1, s_33)
  else none
  else none
set_option maxHeartbeats 4000000 in
theorem g_m_isRange_ok {xl : Nat} {xs : Nat → Int32} {X1 : Int32} {x1 : Int} (hx1 : X1.toInt = x1) {σ : zS} {p : Nat} {m : zM} {o : Int × zS} (H : zRep xl xs p m σ) (h : g_m_isRange x1 σ = some o) : zGo xl xs (fun p' => p = p') 4 223 0 (z_can 223 0 (lv_args 0 [.ref 143, .int X1])) [] m (vI o.1) o.2 := by
  have hq : z_mth 223 = some z_r223 := rfl
  unfold g_m_isRange at h
  show zGo xl xs (fun p' => p = p') 4 223 0 [(0, .ref 143), (1, .int X1)] [] m (vI o.1) o.2
  refine r_p hq 1 (pc' := 1) (L' := [(0, .ref 143), (1, .int X1)]) (st' := [.ref 143]) rfl ?_
  refine r_gR (b := 161) (pc' := 4) (L' := [(0, .ref 143), (1, .int X1)]) H hq (z_at.mk 3 rfl rfl) rfl rfl rfl rfl ?_
  refine r_p hq 2 (pc' := 6) (L' := [(0, .ref 143), (1, .int X1)]) (st' := [.int ((0 : Int32)), .int X1, .ref 161]) rfl ?_
  obtain ⟨g_6, h⟩ := z_ifo_some h
  refine r_is (pc' := 7) (L' := [(0, .ref 143), (1, .int X1)]) H hq (z_at.mk 1 rfl rfl) (show zAr 161 0 48 = true from rfl) hx1 g_6 (rfl : (0 : Int32).toInt = 0) rfl rfl ?_
  intro m_6 H_6
  refine r_p hq 1 (pc' := 8) (L' := [(0, .ref 143), (1, .int X1)]) (st' := [.ref 143]) rfl ?_
  refine r_gR (b := 161) (pc' := 11) (L' := [(0, .ref 143), (1, .int X1)]) H_6 hq (z_at.mk 3 rfl rfl) rfl rfl rfl rfl ?_
  refine r_p hq 4 (pc' := 16) (L' := [(0, .ref 143), (1, .int X1)]) (st' := [.int ((31 : Int32)), .int (X1 + ((1 : Int32))), .ref 161]) rfl ?_
  obtain ⟨g_16, h⟩ := z_ifo_some h
  refine r_is (pc' := 17) (L' := [(0, .ref 143), (1, .int X1)]) H_6 hq (z_at.mk 1 rfl rfl) (show zAr 161 0 48 = true from rfl) (tx_iadd hx1 (rfl : (1 : Int32).toInt = 1)) g_16 (rfl : (31 : Int32).toInt = 31) rfl rfl ?_
  intro m_16 H_16
  refine r_p hq 1 (pc' := 18) (L' := [(0, .ref 143), (1, .int X1)]) (st' := [.ref 143]) rfl ?_
  obtain ⟨o_18, h_18, h⟩ := Option.bind_eq_some_iff.mp h
  refine r_cvI (pc' := 21) (L' := [(0, .ref 143), (1, .int X1)]) (Ps := []) (rest := []) hq (z_at.mk 3 rfl rfl) (Or.inl ⟨rfl, rfl⟩) rfl rfl (by decide) (by decide) rfl (Nat.not_lt.mpr (Nat.le_of_ble_eq_true rfl)) rfl rfl (z_cat_le 0 rfl (by decide)) (z_lgl_le 1 rfl (by decide)) (by decide) (H_16.tg rfl) (by omega) (g_m_here_ok H_16 h_18) rfl rfl ?_
  intro R_18 m_18 p_18 e_18 hR_18 H_18
  subst e_18
  refine r_p hq 1 (pc' := 23) (L' := [(0, .ref 143), (1, .int X1)]) (st' := [.int ((42 : Int32)), .int R_18]) rfl ?_
  rcases z_ite h with ⟨c_23, h⟩ | ⟨c_23, h⟩
  · refine r_t2 (pc' := 38) (L' := [(0, .ref 143), (1, .int X1)]) hq (z_at.mk 3 rfl rfl) rfl hR_18 (rfl : (42 : Int32).toInt = 42) c_23 rfl rfl ?_
    refine r_p hq 4 (pc' := 43) (L' := [(0, .ref 143), (1, .int X1)]) (st' := [.int ((31 : Int32)), .int ((0 : Int32)), .int ((2 : Int32)), .ref 143]) rfl ?_
    obtain ⟨o_43, h_43, h⟩ := Option.bind_eq_some_iff.mp h
    refine r_cvI (pc' := 46) (L' := [(0, .ref 143), (1, .int X1)]) (Ps := [.int ((2 : Int32)), .int ((0 : Int32)), .int ((31 : Int32))]) (rest := []) hq (z_at.mk 3 rfl rfl) (Or.inl ⟨rfl, rfl⟩) rfl rfl (by decide) (by decide) rfl (Nat.not_lt.mpr (Nat.le_of_ble_eq_true rfl)) rfl rfl (z_cat_le 0 rfl (by decide)) (z_lgl_le 4 rfl (by decide)) (by decide) (H_18.tg rfl) (by omega) (g_m_isNumber_ok (rfl : (2 : Int32).toInt = 2) (rfl : (0 : Int32).toInt = 0) (rfl : (31 : Int32).toInt = 31) H_18 h_43) rfl rfl ?_
    intro R_43 m_43 p_43 e_43 hR_43 H_43
    subst e_43
    rcases z_ite h with ⟨c_46, h⟩ | ⟨c_46, h⟩
    · refine r_t1 (pc' := 51) (L' := [(0, .ref 143), (1, .int X1)]) hq (z_at.mk 3 rfl rfl) rfl hR_43 c_46 rfl rfl ?_
      refine r_p hq 1 (pc' := 52) (L' := [(0, .ref 143), (1, .int X1)]) (st' := [.ref 143]) rfl ?_
      refine r_gR (b := 161) (pc' := 55) (L' := [(0, .ref 143), (1, .int X1)]) H_43 hq (z_at.mk 3 rfl rfl) rfl rfl rfl rfl ?_
      refine r_p hq 2 (pc' := 57) (L' := [(0, .ref 143), (1, .int X1)]) (st' := [.ref 143, .int X1, .ref 161]) rfl ?_
      refine r_gI (pc' := 60) (L' := [(0, .ref 143), (1, .int X1)]) H_43 hq (z_at.mk 3 rfl rfl) rfl rfl rfl rfl ?_
      intro V_57 hV_57
      obtain ⟨g_60, h⟩ := z_ifo_some h
      refine r_is (pc' := 61) (L' := [(0, .ref 143), (1, .int X1)]) H_43 hq (z_at.mk 1 rfl rfl) (show zAr 161 0 48 = true from rfl) hx1 g_60 hV_57 rfl rfl ?_
      intro m_60 H_60
      refine r_p hq 1 (pc' := 62) (L' := [(0, .ref 143), (1, .int X1)]) (st' := [.ref 143]) rfl ?_
      refine r_gR (b := 161) (pc' := 65) (L' := [(0, .ref 143), (1, .int X1)]) H_60 hq (z_at.mk 3 rfl rfl) rfl rfl rfl rfl ?_
      refine r_p hq 4 (pc' := 69) (L' := [(0, .ref 143), (1, .int X1)]) (st' := [.ref 143, .int (X1 + ((1 : Int32))), .ref 161]) rfl ?_
      refine r_gI (pc' := 72) (L' := [(0, .ref 143), (1, .int X1)]) H_60 hq (z_at.mk 3 rfl rfl) rfl rfl rfl rfl ?_
      intro V_69 hV_69
      obtain ⟨g_72, h⟩ := z_ifo_some h
      refine r_is (pc' := 73) (L' := [(0, .ref 143), (1, .int X1)]) H_60 hq (z_at.mk 1 rfl rfl) (show zAr 161 0 48 = true from rfl) (tx_iadd hx1 (rfl : (1 : Int32).toInt = 1)) g_72 hV_69 rfl rfl ?_
      intro m_72 H_72
      refine r_p hq 1 (pc' := 74) (L' := [(0, .ref 143), (1, .int X1)]) (st' := [.ref 143]) rfl ?_
      obtain ⟨o_74, h_74, h⟩ := Option.bind_eq_some_iff.mp h
      refine r_cvI (pc' := 77) (L' := [(0, .ref 143), (1, .int X1)]) (Ps := []) (rest := []) hq (z_at.mk 3 rfl rfl) (Or.inl ⟨rfl, rfl⟩) rfl rfl (by decide) (by decide) rfl (Nat.not_lt.mpr (Nat.le_of_ble_eq_true rfl)) rfl rfl (z_cat_le 0 rfl (by decide)) (z_lgl_le 1 rfl (by decide)) (by decide) (H_72.tg rfl) (by omega) (g_m_here_ok H_72 h_74) rfl rfl ?_
      intro R_74 m_74 p_74 e_74 hR_74 H_74
      subst e_74
      refine r_p hq 1 (pc' := 79) (L' := [(0, .ref 143), (1, .int X1)]) (st' := [.int ((45 : Int32)), .int R_74]) rfl ?_
      rcases z_ite h with ⟨c_79, h⟩ | ⟨c_79, h⟩
      · refine r_t2 (pc' := 84) (L' := [(0, .ref 143), (1, .int X1)]) hq (z_at.mk 3 rfl rfl) rfl hR_74 (rfl : (45 : Int32).toInt = 45) c_79 rfl rfl ?_
        refine r_p hq 2 (pc' := 86) (L' := [(0, .ref 143), (1, .int X1)]) (st' := [.ref 143, .ref 143]) rfl ?_
        refine r_gI (pc' := 89) (L' := [(0, .ref 143), (1, .int X1)]) H_74 hq (z_at.mk 3 rfl rfl) rfl rfl rfl rfl ?_
        intro V_86 hV_86
        refine r_p hq 2 (pc' := 91) (L' := [(0, .ref 143), (1, .int X1)]) (st' := [.int (V_86 + ((1 : Int32))), .ref 143]) rfl ?_
        refine r_pI (X := V_86 + ((1 : Int32))) (pc' := 94) (L' := [(0, .ref 143), (1, .int X1)]) H_74 hq (z_at.mk 3 rfl rfl) rfl rfl (tx_iadd hV_86 (rfl : (1 : Int32).toInt = 1)) (by decide) rfl rfl rfl rfl ?_
        intro m_91 H_91
        refine r_p hq 3 (pc' := 97) (L' := [(0, .ref 143), (1, .int X1)]) (st' := [.ref 143, .int ((2 : Int32)), .ref 143]) rfl ?_
        refine r_gR (b := 161) (pc' := 100) (L' := [(0, .ref 143), (1, .int X1)]) H_91 hq (z_at.mk 3 rfl rfl) rfl rfl rfl rfl ?_
        refine r_p hq 1 (pc' := 101) (L' := [(0, .ref 143), (1, .int X1)]) (st' := [.int X1, .ref 161, .int ((2 : Int32)), .ref 143]) rfl ?_
        obtain ⟨g_101, h⟩ := z_ifo_some h
        refine r_ia (pc' := 102) (L' := [(0, .ref 143), (1, .int X1)]) H_91 hq (z_at.mk 1 rfl rfl) (show zAr 161 0 48 = true from rfl) hx1 g_101 rfl rfl ?_
        intro V_101 hV_101
        refine r_p hq 1 (pc' := 104) (L' := [(0, .ref 143), (1, .int X1)]) (st' := [.int ((31 : Int32)), .int V_101, .int ((2 : Int32)), .ref 143]) rfl ?_
        obtain ⟨o_104, h_104, h⟩ := Option.bind_eq_some_iff.mp h
        refine r_cvI (pc' := 107) (L' := [(0, .ref 143), (1, .int X1)]) (Ps := [.int ((2 : Int32)), .int V_101, .int ((31 : Int32))]) (rest := []) hq (z_at.mk 3 rfl rfl) (Or.inl ⟨rfl, rfl⟩) rfl rfl (by decide) (by decide) rfl (Nat.not_lt.mpr (Nat.le_of_ble_eq_true rfl)) rfl rfl (z_cat_le 0 rfl (by decide)) (z_lgl_le 4 rfl (by decide)) (by decide) (H_91.tg rfl) (by omega) (g_m_isNumber_ok (rfl : (2 : Int32).toInt = 2) hV_101 (rfl : (31 : Int32).toInt = 31) H_91 h_104) rfl rfl ?_
        intro R_104 m_104 p_104 e_104 hR_104 H_104
        subst e_104
        rcases z_ite h with ⟨c_107, h⟩ | ⟨c_107, h⟩
        · refine r_t1 (pc' := 112) (L' := [(0, .ref 143), (1, .int X1)]) hq (z_at.mk 3 rfl rfl) rfl hR_104 c_107 rfl rfl ?_
          refine r_p hq 1 (pc' := 113) (L' := [(0, .ref 143), (1, .int X1)]) (st' := [.ref 143]) rfl ?_
          refine r_gR (b := 161) (pc' := 116) (L' := [(0, .ref 143), (1, .int X1)]) H_104 hq (z_at.mk 3 rfl rfl) rfl rfl rfl rfl ?_
          refine r_p hq 4 (pc' := 120) (L' := [(0, .ref 143), (1, .int X1)]) (st' := [.ref 143, .int (X1 + ((1 : Int32))), .ref 161]) rfl ?_
          refine r_gI (pc' := 123) (L' := [(0, .ref 143), (1, .int X1)]) H_104 hq (z_at.mk 3 rfl rfl) rfl rfl rfl rfl ?_
          intro V_120 hV_120
          obtain ⟨g_123, h⟩ := z_ifo_some h
          refine r_is (pc' := 124) (L' := [(0, .ref 143), (1, .int X1)]) H_104 hq (z_at.mk 1 rfl rfl) (show zAr 161 0 48 = true from rfl) (tx_iadd hx1 (rfl : (1 : Int32).toInt = 1)) g_123 hV_120 rfl rfl ?_
          intro m_123 H_123
          refine r_p hq 1 (pc' := 125) (L' := [(0, .ref 143), (1, .int X1)]) (st' := [.int ((1 : Int32))]) rfl ?_
          cases h
          exact r_ri hq (z_at.mk 1 rfl rfl) rfl rfl (rfl : (1 : Int32).toInt = 1) rfl H_123
        · refine r_f1 (pc' := 110) (L' := [(0, .ref 143), (1, .int X1)]) hq (z_at.mk 3 rfl rfl) rfl hR_104 c_107 rfl rfl ?_
          refine r_p hq 1 (pc' := 111) (L' := [(0, .ref 143), (1, .int X1)]) (st' := [.int ((0 : Int32))]) rfl ?_
          cases h
          exact r_ri hq (z_at.mk 1 rfl rfl) rfl rfl (rfl : (0 : Int32).toInt = 0) rfl H_104
      · refine r_f2 (pc' := 82) (L' := [(0, .ref 143), (1, .int X1)]) hq (z_at.mk 3 rfl rfl) rfl hR_74 (rfl : (45 : Int32).toInt = 45) c_79 rfl rfl ?_
        refine r_p hq 1 (pc' := 83) (L' := [(0, .ref 143), (1, .int X1)]) (st' := [.int ((1 : Int32))]) rfl ?_
        cases h
        exact r_ri hq (z_at.mk 1 rfl rfl) rfl rfl (rfl : (1 : Int32).toInt = 1) rfl H_74
    · refine r_f1 (pc' := 49) (L' := [(0, .ref 143), (1, .int X1)]) hq (z_at.mk 3 rfl rfl) rfl hR_43 c_46 rfl rfl ?_
      refine r_p hq 1 (pc' := 50) (L' := [(0, .ref 143), (1, .int X1)]) (st' := [.int ((0 : Int32))]) rfl ?_
      cases h
      exact r_ri hq (z_at.mk 1 rfl rfl) rfl rfl (rfl : (0 : Int32).toInt = 0) rfl H_43
  · refine r_f2 (pc' := 26) (L' := [(0, .ref 143), (1, .int X1)]) hq (z_at.mk 3 rfl rfl) rfl hR_18 (rfl : (42 : Int32).toInt = 42) c_23 rfl rfl ?_
    refine r_p hq 2 (pc' := 28) (L' := [(0, .ref 143), (1, .int X1)]) (st' := [.ref 143, .ref 143]) rfl ?_
    refine r_gI (pc' := 31) (L' := [(0, .ref 143), (1, .int X1)]) H_18 hq (z_at.mk 3 rfl rfl) rfl rfl rfl rfl ?_
    intro V_28 hV_28
    refine r_p hq 2 (pc' := 33) (L' := [(0, .ref 143), (1, .int X1)]) (st' := [.int (V_28 + ((1 : Int32))), .ref 143]) rfl ?_
    refine r_pI (X := V_28 + ((1 : Int32))) (pc' := 36) (L' := [(0, .ref 143), (1, .int X1)]) H_18 hq (z_at.mk 3 rfl rfl) rfl rfl (tx_iadd hV_28 (rfl : (1 : Int32).toInt = 1)) (by decide) rfl rfl rfl rfl ?_
    intro m_33 H_33
    refine r_p hq 1 (pc' := 37) (L' := [(0, .ref 143), (1, .int X1)]) (st' := [.int ((1 : Int32))]) rfl ?_
    cases h
    exact r_ri hq (z_at.mk 1 rfl rfl) rfl rfl (rfl : (1 : Int32).toInt = 1) rfl H_33
def g_m_isTest_L109 (σ : zS) : Option (Int × zS) :=
  (g_m_isNumber 9 0 999999999 σ).bind fun o_116 =>
  if o_116.1 = 0 ∨ o_116.1 = 1 then some (o_116.1, o_116.2) else none
set_option maxHeartbeats 4000000 in
theorem g_m_isTest_L109_ok {xl : Nat} {xs : Nat → Int32} {σ : zS} {p : Nat} {m : zM} {o : Int × zS} (H : zRep xl xs p m σ) (h : g_m_isTest_L109 σ = some o) : zGo xl xs (fun p' => p = p') 4 224 109 [(0, .ref 143)] [] m (vI o.1) o.2 := by
  have hq : z_mth 224 = some z_r224 := rfl
  unfold g_m_isTest_L109 at h
  refine r_p hq 4 (pc' := 116) (L' := [(0, .ref 143)]) (st' := [.int ((999999999 : Int32)), .int ((0 : Int32)), .int ((9 : Int32)), .ref 143]) rfl ?_
  obtain ⟨o_116, h_116, h⟩ := Option.bind_eq_some_iff.mp h
  refine r_cvI (pc' := 119) (L' := [(0, .ref 143)]) (Ps := [.int ((9 : Int32)), .int ((0 : Int32)), .int ((999999999 : Int32))]) (rest := []) hq (z_at.mk 3 rfl rfl) (Or.inl ⟨rfl, rfl⟩) rfl rfl (by decide) (by decide) rfl (Nat.not_lt.mpr (Nat.le_of_ble_eq_true rfl)) rfl rfl (z_cat_le 0 rfl (by decide)) (z_lgl_le 4 rfl (by decide)) (by decide) (H.tg rfl) (by omega) (g_m_isNumber_ok (rfl : (9 : Int32).toInt = 9) (rfl : (0 : Int32).toInt = 0) (rfl : (999999999 : Int32).toInt = 999999999) H h_116) rfl rfl ?_
  intro R_116 m_116 p_116 e_116 hR_116 H_116
  subst e_116
  obtain ⟨g_119, h⟩ := z_if_some h
  cases h
  exact r_ri hq (z_at.mk 1 rfl rfl) rfl (z_rty_bo hR_116 g_119) hR_116 rfl H_116
def g_m_isTest_L80 (σ : zS) : Option (Int × zS) :=
  let v_82 := σ 143 21
  let s_87 := zu σ 143 21 (w32 (v_82 + 1))
  (g_m_here s_87).bind fun o_91 =>
  if o_91.1 ≠ 45 then
    g_m_isTest_L109 o_91.2
  else
    let v_101 := o_91.2 143 21
    let s_106 := zu o_91.2 143 21 (w32 (v_101 + 1))
    g_m_isTest_L109 s_106
set_option maxHeartbeats 4000000 in
theorem g_m_isTest_L80_ok {xl : Nat} {xs : Nat → Int32} {σ : zS} {p : Nat} {m : zM} {o : Int × zS} (H : zRep xl xs p m σ) (h : g_m_isTest_L80 σ = some o) : zGo xl xs (fun p' => p = p') 4 224 80 [(0, .ref 143)] [] m (vI o.1) o.2 := by
  have hq : z_mth 224 = some z_r224 := rfl
  unfold g_m_isTest_L80 at h
  refine r_p hq 2 (pc' := 82) (L' := [(0, .ref 143)]) (st' := [.ref 143, .ref 143]) rfl ?_
  refine r_gI (pc' := 85) (L' := [(0, .ref 143)]) H hq (z_at.mk 3 rfl rfl) rfl rfl rfl rfl ?_
  intro V_82 hV_82
  refine r_p hq 2 (pc' := 87) (L' := [(0, .ref 143)]) (st' := [.int (V_82 + ((1 : Int32))), .ref 143]) rfl ?_
  refine r_pI (X := V_82 + ((1 : Int32))) (pc' := 90) (L' := [(0, .ref 143)]) H hq (z_at.mk 3 rfl rfl) rfl rfl (tx_iadd hV_82 (rfl : (1 : Int32).toInt = 1)) (by decide) rfl rfl rfl rfl ?_
  intro m_87 H_87
  refine r_p hq 1 (pc' := 91) (L' := [(0, .ref 143)]) (st' := [.ref 143]) rfl ?_
  obtain ⟨o_91, h_91, h⟩ := Option.bind_eq_some_iff.mp h
  refine r_cvI (pc' := 94) (L' := [(0, .ref 143)]) (Ps := []) (rest := []) hq (z_at.mk 3 rfl rfl) (Or.inl ⟨rfl, rfl⟩) rfl rfl (by decide) (by decide) rfl (Nat.not_lt.mpr (Nat.le_of_ble_eq_true rfl)) rfl rfl (z_cat_le 0 rfl (by decide)) (z_lgl_le 1 rfl (by decide)) (by decide) (H_87.tg rfl) (by omega) (g_m_here_ok H_87 h_91) rfl rfl ?_
  intro R_91 m_91 p_91 e_91 hR_91 H_91
  subst e_91
  refine r_p hq 1 (pc' := 96) (L' := [(0, .ref 143)]) (st' := [.int ((45 : Int32)), .int R_91]) rfl ?_
  rcases z_ite h with ⟨c_96, h⟩ | ⟨c_96, h⟩
  · refine r_t2 (pc' := 109) (L' := [(0, .ref 143)]) hq (z_at.mk 3 rfl rfl) rfl hR_91 (rfl : (45 : Int32).toInt = 45) c_96 rfl rfl ?_
    exact g_m_isTest_L109_ok  H_91 h
  · refine r_f2 (pc' := 99) (L' := [(0, .ref 143)]) hq (z_at.mk 3 rfl rfl) rfl hR_91 (rfl : (45 : Int32).toInt = 45) c_96 rfl rfl ?_
    refine r_p hq 2 (pc' := 101) (L' := [(0, .ref 143)]) (st' := [.ref 143, .ref 143]) rfl ?_
    refine r_gI (pc' := 104) (L' := [(0, .ref 143)]) H_91 hq (z_at.mk 3 rfl rfl) rfl rfl rfl rfl ?_
    intro V_101 hV_101
    refine r_p hq 2 (pc' := 106) (L' := [(0, .ref 143)]) (st' := [.int (V_101 + ((1 : Int32))), .ref 143]) rfl ?_
    refine r_pI (X := V_101 + ((1 : Int32))) (pc' := 109) (L' := [(0, .ref 143)]) H_91 hq (z_at.mk 3 rfl rfl) rfl rfl (tx_iadd hV_101 (rfl : (1 : Int32).toInt = 1)) (by decide) rfl rfl rfl rfl ?_
    intro m_106 H_106
    exact g_m_isTest_L109_ok  H_106 h
def g_m_isTest_L38 (σ : zS) : Option (Int × zS) :=
  let v_40 := σ 143 21
  let s_45 := zu σ 143 21 (w32 (v_40 + 1))
  (g_m_here s_45).bind fun o_49 =>
  if o_49.1 = 60 then
    g_m_isTest_L80 o_49.2
  else
    if o_49.1 = 61 then
      g_m_isTest_L80 o_49.2
    else
      if o_49.1 = 62 then
        g_m_isTest_L80 o_49.2
      else
        let v_73 := o_49.2 143 21
        (g_m_fails v_73 o_49.2).bind fun o_76 =>
        if o_76.1 = 0 ∨ o_76.1 = 1 then some (o_76.1, o_76.2) else none
set_option maxHeartbeats 4000000 in
theorem g_m_isTest_L38_ok {xl : Nat} {xs : Nat → Int32} {σ : zS} {p : Nat} {m : zM} {o : Int × zS} (H : zRep xl xs p m σ) (h : g_m_isTest_L38 σ = some o) : zGo xl xs (fun p' => p = p') 4 224 38 [(0, .ref 143)] [] m (vI o.1) o.2 := by
  have hq : z_mth 224 = some z_r224 := rfl
  unfold g_m_isTest_L38 at h
  refine r_p hq 2 (pc' := 40) (L' := [(0, .ref 143)]) (st' := [.ref 143, .ref 143]) rfl ?_
  refine r_gI (pc' := 43) (L' := [(0, .ref 143)]) H hq (z_at.mk 3 rfl rfl) rfl rfl rfl rfl ?_
  intro V_40 hV_40
  refine r_p hq 2 (pc' := 45) (L' := [(0, .ref 143)]) (st' := [.int (V_40 + ((1 : Int32))), .ref 143]) rfl ?_
  refine r_pI (X := V_40 + ((1 : Int32))) (pc' := 48) (L' := [(0, .ref 143)]) H hq (z_at.mk 3 rfl rfl) rfl rfl (tx_iadd hV_40 (rfl : (1 : Int32).toInt = 1)) (by decide) rfl rfl rfl rfl ?_
  intro m_45 H_45
  refine r_p hq 1 (pc' := 49) (L' := [(0, .ref 143)]) (st' := [.ref 143]) rfl ?_
  obtain ⟨o_49, h_49, h⟩ := Option.bind_eq_some_iff.mp h
  refine r_cvI (pc' := 52) (L' := [(0, .ref 143)]) (Ps := []) (rest := []) hq (z_at.mk 3 rfl rfl) (Or.inl ⟨rfl, rfl⟩) rfl rfl (by decide) (by decide) rfl (Nat.not_lt.mpr (Nat.le_of_ble_eq_true rfl)) rfl rfl (z_cat_le 0 rfl (by decide)) (z_lgl_le 1 rfl (by decide)) (by decide) (H_45.tg rfl) (by omega) (g_m_here_ok H_45 h_49) rfl rfl ?_
  intro R_49 m_49 p_49 e_49 hR_49 H_49
  subst e_49
  refine r_p hq 3 (pc' := 56) (L' := [(1, .int R_49), (0, .ref 143)]) (st' := [.int ((60 : Int32)), .int R_49]) rfl ?_
  rcases z_ite h with ⟨c_56, h⟩ | ⟨c_56, h⟩
  · refine r_t2 (pc' := 80) (L' := [(0, .ref 143)]) hq (z_at.mk 3 rfl rfl) rfl hR_49 (rfl : (60 : Int32).toInt = 60) c_56 rfl rfl ?_
    exact g_m_isTest_L80_ok  H_49 h
  · refine r_f2 (pc' := 59) (L' := [(1, .int R_49), (0, .ref 143)]) hq (z_at.mk 3 rfl rfl) rfl hR_49 (rfl : (60 : Int32).toInt = 60) c_56 rfl rfl ?_
    refine r_p hq 2 (pc' := 62) (L' := [(1, .int R_49), (0, .ref 143)]) (st' := [.int ((61 : Int32)), .int R_49]) rfl ?_
    rcases z_ite h with ⟨c_62, h⟩ | ⟨c_62, h⟩
    · refine r_t2 (pc' := 80) (L' := [(0, .ref 143)]) hq (z_at.mk 3 rfl rfl) rfl hR_49 (rfl : (61 : Int32).toInt = 61) c_62 rfl rfl ?_
      exact g_m_isTest_L80_ok  H_49 h
    · refine r_f2 (pc' := 65) (L' := [(1, .int R_49), (0, .ref 143)]) hq (z_at.mk 3 rfl rfl) rfl hR_49 (rfl : (61 : Int32).toInt = 61) c_62 rfl rfl ?_
      refine r_p hq 2 (pc' := 68) (L' := [(1, .int R_49), (0, .ref 143)]) (st' := [.int ((62 : Int32)), .int R_49]) rfl ?_
      rcases z_ite h with ⟨c_68, h⟩ | ⟨c_68, h⟩
      · refine r_t2 (pc' := 80) (L' := [(0, .ref 143)]) hq (z_at.mk 3 rfl rfl) rfl hR_49 (rfl : (62 : Int32).toInt = 62) c_68 rfl rfl ?_
        exact g_m_isTest_L80_ok  H_49 h
      · refine r_f2 (pc' := 71) (L' := [(1, .int R_49), (0, .ref 143)]) hq (z_at.mk 3 rfl rfl) rfl hR_49 (rfl : (62 : Int32).toInt = 62) c_68 rfl rfl ?_
        refine r_p hq 2 (pc' := 73) (L' := [(1, .int R_49), (0, .ref 143)]) (st' := [.ref 143, .ref 143]) rfl ?_
        refine r_gI (pc' := 76) (L' := [(1, .int R_49), (0, .ref 143)]) H_49 hq (z_at.mk 3 rfl rfl) rfl rfl rfl rfl ?_
        intro V_73 hV_73
        obtain ⟨o_76, h_76, h⟩ := Option.bind_eq_some_iff.mp h
        refine r_cvI (pc' := 79) (L' := [(1, .int R_49), (0, .ref 143)]) (Ps := [.int V_73]) (rest := []) hq (z_at.mk 3 rfl rfl) (Or.inl ⟨rfl, rfl⟩) rfl rfl (by decide) (by decide) rfl (Nat.not_lt.mpr (Nat.le_of_ble_eq_true rfl)) rfl rfl (z_cat_le 0 rfl (by decide)) (z_lgl_le 2 rfl (by decide)) (by decide) (H_49.tg rfl) (by omega) (g_m_fails_ok hV_73 H_49 h_76) rfl rfl ?_
        intro R_76 m_76 p_76 e_76 hR_76 H_76
        subst e_76
        obtain ⟨g_79, h⟩ := z_if_some h
        cases h
        exact r_ri hq (z_at.mk 1 rfl rfl) rfl (z_rty_bo hR_76 g_79) hR_76 rfl H_76
def g_m_isTest (σ : zS) : Option (Int × zS) :=
  (g_m_here σ).bind fun o_1 =>
  if o_1.1 = 119 then
    g_m_isTest_L38 o_1.2
  else
    if o_1.1 = 120 then
      g_m_isTest_L38 o_1.2
    else
      if o_1.1 = 121 then
        g_m_isTest_L38 o_1.2
      else
        if o_1.1 = 114 then
          g_m_isTest_L38 o_1.2
        else
          let v_31 := o_1.2 143 21
          (g_m_fails v_31 o_1.2).bind fun o_34 =>
          if o_34.1 = 0 ∨ o_34.1 = 1 then some (o_34.1, o_34.2) else none
set_option maxHeartbeats 4000000 in
theorem g_m_isTest_ok {xl : Nat} {xs : Nat → Int32} {σ : zS} {p : Nat} {m : zM} {o : Int × zS} (H : zRep xl xs p m σ) (h : g_m_isTest σ = some o) : zGo xl xs (fun p' => p = p') 4 224 0 (z_can 224 0 (lv_args 0 [.ref 143])) [] m (vI o.1) o.2 := by
  have hq : z_mth 224 = some z_r224 := rfl
  unfold g_m_isTest at h
  show zGo xl xs (fun p' => p = p') 4 224 0 [(0, .ref 143)] [] m (vI o.1) o.2
  refine r_p hq 1 (pc' := 1) (L' := [(0, .ref 143)]) (st' := [.ref 143]) rfl ?_
  obtain ⟨o_1, h_1, h⟩ := Option.bind_eq_some_iff.mp h
  refine r_cvI (pc' := 4) (L' := [(0, .ref 143)]) (Ps := []) (rest := []) hq (z_at.mk 3 rfl rfl) (Or.inl ⟨rfl, rfl⟩) rfl rfl (by decide) (by decide) rfl (Nat.not_lt.mpr (Nat.le_of_ble_eq_true rfl)) rfl rfl (z_cat_le 0 rfl (by decide)) (z_lgl_le 1 rfl (by decide)) (by decide) (H.tg rfl) (by omega) (g_m_here_ok H h_1) rfl rfl ?_
  intro R_1 m_1 p_1 e_1 hR_1 H_1
  subst e_1
  refine r_p hq 3 (pc' := 8) (L' := [(1, .int R_1), (0, .ref 143)]) (st' := [.int ((119 : Int32)), .int R_1]) rfl ?_
  rcases z_ite h with ⟨c_8, h⟩ | ⟨c_8, h⟩
  · refine r_t2 (pc' := 38) (L' := [(0, .ref 143)]) hq (z_at.mk 3 rfl rfl) rfl hR_1 (rfl : (119 : Int32).toInt = 119) c_8 rfl rfl ?_
    exact g_m_isTest_L38_ok  H_1 h
  · refine r_f2 (pc' := 11) (L' := [(1, .int R_1), (0, .ref 143)]) hq (z_at.mk 3 rfl rfl) rfl hR_1 (rfl : (119 : Int32).toInt = 119) c_8 rfl rfl ?_
    refine r_p hq 2 (pc' := 14) (L' := [(1, .int R_1), (0, .ref 143)]) (st' := [.int ((120 : Int32)), .int R_1]) rfl ?_
    rcases z_ite h with ⟨c_14, h⟩ | ⟨c_14, h⟩
    · refine r_t2 (pc' := 38) (L' := [(0, .ref 143)]) hq (z_at.mk 3 rfl rfl) rfl hR_1 (rfl : (120 : Int32).toInt = 120) c_14 rfl rfl ?_
      exact g_m_isTest_L38_ok  H_1 h
    · refine r_f2 (pc' := 17) (L' := [(1, .int R_1), (0, .ref 143)]) hq (z_at.mk 3 rfl rfl) rfl hR_1 (rfl : (120 : Int32).toInt = 120) c_14 rfl rfl ?_
      refine r_p hq 2 (pc' := 20) (L' := [(1, .int R_1), (0, .ref 143)]) (st' := [.int ((121 : Int32)), .int R_1]) rfl ?_
      rcases z_ite h with ⟨c_20, h⟩ | ⟨c_20, h⟩
      · refine r_t2 (pc' := 38) (L' := [(0, .ref 143)]) hq (z_at.mk 3 rfl rfl) rfl hR_1 (rfl : (121 : Int32).toInt = 121) c_20 rfl rfl ?_
        exact g_m_isTest_L38_ok  H_1 h
      · refine r_f2 (pc' := 23) (L' := [(1, .int R_1), (0, .ref 143)]) hq (z_at.mk 3 rfl rfl) rfl hR_1 (rfl : (121 : Int32).toInt = 121) c_20 rfl rfl ?_
        refine r_p hq 2 (pc' := 26) (L' := [(1, .int R_1), (0, .ref 143)]) (st' := [.int ((114 : Int32)), .int R_1]) rfl ?_
        rcases z_ite h with ⟨c_26, h⟩ | ⟨c_26, h⟩
        · refine r_t2 (pc' := 38) (L' := [(0, .ref 143)]) hq (z_at.mk 3 rfl rfl) rfl hR_1 (rfl : (114 : Int32).toInt = 114) c_26 rfl rfl ?_
          exact g_m_isTest_L38_ok  H_1 h
        · refine r_f2 (pc' := 29) (L' := [(1, .int R_1), (0, .ref 143)]) hq (z_at.mk 3 rfl rfl) rfl hR_1 (rfl : (114 : Int32).toInt = 114) c_26 rfl rfl ?_
          refine r_p hq 2 (pc' := 31) (L' := [(1, .int R_1), (0, .ref 143)]) (st' := [.ref 143, .ref 143]) rfl ?_
          refine r_gI (pc' := 34) (L' := [(1, .int R_1), (0, .ref 143)]) H_1 hq (z_at.mk 3 rfl rfl) rfl rfl rfl rfl ?_
          intro V_31 hV_31
          obtain ⟨o_34, h_34, h⟩ := Option.bind_eq_some_iff.mp h
          refine r_cvI (pc' := 37) (L' := [(1, .int R_1), (0, .ref 143)]) (Ps := [.int V_31]) (rest := []) hq (z_at.mk 3 rfl rfl) (Or.inl ⟨rfl, rfl⟩) rfl rfl (by decide) (by decide) rfl (Nat.not_lt.mpr (Nat.le_of_ble_eq_true rfl)) rfl rfl (z_cat_le 0 rfl (by decide)) (z_lgl_le 2 rfl (by decide)) (by decide) (H_1.tg rfl) (by omega) (g_m_fails_ok hV_31 H_1 h_34) rfl rfl ?_
          intro R_34 m_34 p_34 e_34 hR_34 H_34
          subst e_34
          obtain ⟨g_37, h⟩ := z_if_some h
          cases h
          exact r_ri hq (z_at.mk 1 rfl rfl) rfl (z_rty_bo hR_34 g_37) hR_34 rfl H_34
