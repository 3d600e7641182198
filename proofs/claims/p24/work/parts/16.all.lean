section
/-! 21.g13 -/
/-! THE METHODS over the typed memory, 13 (by wip/zg.py) -/
def g_m_take (x1 : Int) (σ : zS) : Option (Int × zS) :=
  (g_m_isRow x1 σ).bind fun o_1 =>
  if o_1.1 ≠ 0 then
    (g_m_rowAt x1 o_1.2).bind fun o_14 =>
    if 0 ≤ o_14.1 ∧ o_14.1 < 2740 then
    let v_17 := o_14.2 144 o_14.1
    if v_17 ≠ 0 then
      (g_m_values o_14.2).bind fun o_25 =>
      (g_m_out x1 o_25.2).bind fun o_30 =>
      (g_m_behind o_30.2).bind fun o_34 =>
      some (o_34.1, o_34.2)
    else
      some (-3, o_14.2)
    else none
  else
    some (-1, o_1.2)
set_option maxHeartbeats 4000000 in
theorem g_m_take_ok {xl : Nat} {xs : Nat → Int32} {X1 : Int32} {x1 : Int} (hx1 : X1.toInt = x1) {σ : zS} {p : Nat} {m : zM} {o : Int × zS} (H : zRep xl xs p m σ) (h : g_m_take x1 σ = some o) : zGo xl xs (fun p' => p = p') 508 207 0 (z_can 207 0 (lv_args 0 [.ref 143, .int X1])) [] m (vI o.1) o.2 := by
  have hq : z_mth 207 = some z_r207 := rfl
  unfold g_m_take at h
  show zGo xl xs (fun p' => p = p') 508 207 0 [(0, .ref 143), (1, .int X1)] [] m (vI o.1) o.2
  refine r_p hq 1 (pc' := 1) (L' := [(0, .ref 143), (1, .int X1)]) (st' := [.int X1]) rfl ?_
  obtain ⟨o_1, h_1, h⟩ := Option.bind_eq_some_iff.mp h
  refine r_csI (pc' := 4) (L' := [(0, .ref 143), (1, .int X1)]) (As := [.int X1]) (rest := []) (j := 204) hq (z_at.mk 3 rfl rfl) (Or.inl ⟨rfl, rfl⟩) rfl rfl (by omega) (g_m_isRow_ok hx1 H h_1) rfl rfl ?_
  intro R_1 m_1 p_1 e_1 hR_1 H_1
  subst e_1
  rcases z_ite h with ⟨c_4, h⟩ | ⟨c_4, h⟩
  · refine r_t1 (pc' := 9) (L' := [(0, .ref 143), (1, .int X1)]) hq (z_at.mk 3 rfl rfl) rfl hR_1 c_4 rfl rfl ?_
    refine r_p hq 1 (pc' := 10) (L' := [(0, .ref 143), (1, .int X1)]) (st' := [.ref 143]) rfl ?_
    refine r_gR (b := 144) (pc' := 13) (L' := [(0, .ref 143), (1, .int X1)]) H_1 hq (z_at.mk 3 rfl rfl) rfl rfl rfl rfl ?_
    refine r_p hq 1 (pc' := 14) (L' := [(0, .ref 143), (1, .int X1)]) (st' := [.int X1, .ref 144]) rfl ?_
    obtain ⟨o_14, h_14, h⟩ := Option.bind_eq_some_iff.mp h
    refine r_csI (pc' := 17) (L' := [(0, .ref 143), (1, .int X1)]) (As := [.int X1]) (rest := [.ref 144]) (j := 174) hq (z_at.mk 3 rfl rfl) (Or.inl ⟨rfl, rfl⟩) rfl rfl (by omega) (g_m_rowAt_ok hx1 H_1 h_14) rfl rfl ?_
    intro R_14 m_14 p_14 e_14 hR_14 H_14
    subst e_14
    obtain ⟨g_17, h⟩ := z_ifo_some h
    refine r_ia (pc' := 18) (L' := [(0, .ref 143), (1, .int X1)]) H_14 hq (z_at.mk 1 rfl rfl) (show zAr 144 0 2740 = true from rfl) hR_14 g_17 rfl rfl ?_
    intro V_17 hV_17
    rcases z_ite h with ⟨c_18, h⟩ | ⟨c_18, h⟩
    · refine r_t1 (pc' := 24) (L' := [(0, .ref 143), (1, .int X1)]) hq (z_at.mk 3 rfl rfl) rfl hV_17 c_18 rfl rfl ?_
      refine r_p hq 1 (pc' := 25) (L' := [(0, .ref 143), (1, .int X1)]) (st' := [.ref 143]) rfl ?_
      obtain ⟨o_25, h_25, h⟩ := Option.bind_eq_some_iff.mp h
      refine r_cvV (pc' := 28) (L' := [(0, .ref 143), (1, .int X1)]) (Ps := []) (rest := []) hq (z_at.mk 3 rfl rfl) (Or.inl ⟨rfl, rfl⟩) rfl rfl (by decide) (by decide) rfl (Nat.not_lt.mpr (Nat.le_of_ble_eq_true rfl)) rfl rfl (z_cat_le 0 rfl (by decide)) (z_lgl_le 1 rfl (by decide)) (by decide) (H_14.tg rfl) (by omega) (g_m_values_ok H_14 h_25) rfl rfl ?_
      intro m_25 p_25 e_25 H_25
      subst e_25
      refine r_p hq 2 (pc' := 30) (L' := [(0, .ref 143), (1, .int X1)]) (st' := [.int X1, .ref 143]) rfl ?_
      obtain ⟨o_30, h_30, h⟩ := Option.bind_eq_some_iff.mp h
      refine r_cvV (pc' := 33) (L' := [(0, .ref 143), (1, .int X1)]) (Ps := [.int X1]) (rest := []) hq (z_at.mk 3 rfl rfl) (Or.inl ⟨rfl, rfl⟩) rfl rfl (by decide) (by decide) rfl (Nat.not_lt.mpr (Nat.le_of_ble_eq_true rfl)) rfl rfl (z_cat_le 0 rfl (by decide)) (z_lgl_le 2 rfl (by decide)) (by decide) (H_25.tg rfl) (by omega) (g_m_out_ok hx1 H_25 h_30) rfl rfl ?_
      intro m_30 p_30 e_30 H_30
      subst e_30
      refine r_p hq 1 (pc' := 34) (L' := [(0, .ref 143), (1, .int X1)]) (st' := [.ref 143]) rfl ?_
      obtain ⟨o_34, h_34, h⟩ := Option.bind_eq_some_iff.mp h
      refine r_cvI (pc' := 37) (L' := [(0, .ref 143), (1, .int X1)]) (Ps := []) (rest := []) hq (z_at.mk 3 rfl rfl) (Or.inl ⟨rfl, rfl⟩) rfl rfl (by decide) (by decide) rfl (Nat.not_lt.mpr (Nat.le_of_ble_eq_true rfl)) rfl rfl (z_cat_le 0 rfl (by decide)) (z_lgl_le 1 rfl (by decide)) (by decide) (H_30.tg rfl) (by omega) (g_m_behind_ok H_30 h_34) rfl rfl ?_
      intro R_34 m_34 p_34 e_34 hR_34 H_34
      subst e_34
      cases h
      exact r_ri hq (z_at.mk 1 rfl rfl) rfl rfl hR_34 rfl H_34
    · refine r_f1 (pc' := 21) (L' := [(0, .ref 143), (1, .int X1)]) hq (z_at.mk 3 rfl rfl) rfl hV_17 c_18 rfl rfl ?_
      refine r_p hq 1 (pc' := 23) (L' := [(0, .ref 143), (1, .int X1)]) (st' := [.int ((-3 : Int32))]) rfl ?_
      cases h
      exact r_ri hq (z_at.mk 1 rfl rfl) rfl rfl (rfl : (-3 : Int32).toInt = -3) rfl H_14
  · refine r_f1 (pc' := 7) (L' := [(0, .ref 143), (1, .int X1)]) hq (z_at.mk 3 rfl rfl) rfl hR_1 c_4 rfl rfl ?_
    refine r_p hq 1 (pc' := 8) (L' := [(0, .ref 143), (1, .int X1)]) (st' := [.int ((-1 : Int32))]) rfl ?_
    cases h
    exact r_ri hq (z_at.mk 1 rfl rfl) rfl rfl (rfl : (-1 : Int32).toInt = -1) rfl H_1
def g_m_row (x1 : Int) (x2 : Int) (σ : zS) : Option (Int × zS) :=
  (g_m_isRow x1 σ).bind fun o_1 =>
  if o_1.1 = 0 then
    some (-1, o_1.2)
  else
    (g_m_isIn x2 0 1 o_1.2).bind fun o_10 =>
    if o_10.1 ≠ 0 then
      (g_m_rowAt x1 o_10.2).bind fun o_25 =>
      if 0 ≤ o_25.1 ∧ o_25.1 < 2740 then
      let v_28 := o_25.2 144 o_25.1
      if v_28 ≠ 0 then
        (g_m_rowAt x1 o_25.2).bind fun o_42 =>
        if 0 ≤ w32 ((w32 (o_42.1 + 1)) + x2) ∧ w32 ((w32 (o_42.1 + 1)) + x2) < 2740 then
        let v_49 := o_42.2 144 (w32 ((w32 (o_42.1 + 1)) + x2))
        some (v_49, o_42.2)
        else none
      else
        some (-3, o_25.2)
      else none
    else
      some (-1, o_10.2)
set_option maxHeartbeats 4000000 in
theorem g_m_row_ok {xl : Nat} {xs : Nat → Int32} {X1 : Int32} {x1 : Int} (hx1 : X1.toInt = x1) {X2 : Int32} {x2 : Int} (hx2 : X2.toInt = x2) {σ : zS} {p : Nat} {m : zM} {o : Int × zS} (H : zRep xl xs p m σ) (h : g_m_row x1 x2 σ = some o) : zGo xl xs (fun p' => p = p') 3 208 0 (z_can 208 0 (lv_args 0 [.ref 143, .int X1, .int X2])) [] m (vI o.1) o.2 := by
  have hq : z_mth 208 = some z_r208 := rfl
  unfold g_m_row at h
  show zGo xl xs (fun p' => p = p') 3 208 0 [(0, .ref 143), (1, .int X1), (2, .int X2)] [] m (vI o.1) o.2
  refine r_p hq 1 (pc' := 1) (L' := [(0, .ref 143), (1, .int X1), (2, .int X2)]) (st' := [.int X1]) rfl ?_
  obtain ⟨o_1, h_1, h⟩ := Option.bind_eq_some_iff.mp h
  refine r_csI (pc' := 4) (L' := [(0, .ref 143), (1, .int X1), (2, .int X2)]) (As := [.int X1]) (rest := []) (j := 204) hq (z_at.mk 3 rfl rfl) (Or.inl ⟨rfl, rfl⟩) rfl rfl (by omega) (g_m_isRow_ok hx1 H h_1) rfl rfl ?_
  intro R_1 m_1 p_1 e_1 hR_1 H_1
  subst e_1
  rcases z_ite h with ⟨c_4, h⟩ | ⟨c_4, h⟩
  · refine r_t1 (pc' := 16) (L' := []) hq (z_at.mk 3 rfl rfl) rfl hR_1 c_4 rfl rfl ?_
    refine r_p hq 2 (pc' := 50) (L' := []) (st' := [.int ((-1 : Int32))]) rfl ?_
    cases h
    exact r_ri hq (z_at.mk 1 rfl rfl) rfl rfl (rfl : (-1 : Int32).toInt = -1) rfl H_1
  · refine r_f1 (pc' := 7) (L' := [(0, .ref 143), (1, .int X1), (2, .int X2)]) hq (z_at.mk 3 rfl rfl) rfl hR_1 c_4 rfl rfl ?_
    refine r_p hq 3 (pc' := 10) (L' := [(0, .ref 143), (1, .int X1), (2, .int X2)]) (st' := [.int ((1 : Int32)), .int ((0 : Int32)), .int X2]) rfl ?_
    obtain ⟨o_10, h_10, h⟩ := Option.bind_eq_some_iff.mp h
    refine r_csI (pc' := 13) (L' := [(0, .ref 143), (1, .int X1), (2, .int X2)]) (As := [.int X2, .int ((0 : Int32)), .int ((1 : Int32))]) (rest := []) (j := 159) hq (z_at.mk 3 rfl rfl) (Or.inl ⟨rfl, rfl⟩) rfl rfl (by omega) (g_m_isIn_ok hx2 (rfl : (0 : Int32).toInt = 0) (rfl : (1 : Int32).toInt = 1) H_1 h_10) rfl rfl ?_
    intro R_10 m_10 p_10 e_10 hR_10 H_10
    subst e_10
    rcases z_ite h with ⟨c_13, h⟩ | ⟨c_13, h⟩
    · refine r_t1 (pc' := 20) (L' := [(0, .ref 143), (1, .int X1), (2, .int X2)]) hq (z_at.mk 3 rfl rfl) rfl hR_10 c_13 rfl rfl ?_
      refine r_p hq 1 (pc' := 21) (L' := [(0, .ref 143), (1, .int X1), (2, .int X2)]) (st' := [.ref 143]) rfl ?_
      refine r_gR (b := 144) (pc' := 24) (L' := [(0, .ref 143), (1, .int X1), (2, .int X2)]) H_10 hq (z_at.mk 3 rfl rfl) rfl rfl rfl rfl ?_
      refine r_p hq 1 (pc' := 25) (L' := [(0, .ref 143), (1, .int X1), (2, .int X2)]) (st' := [.int X1, .ref 144]) rfl ?_
      obtain ⟨o_25, h_25, h⟩ := Option.bind_eq_some_iff.mp h
      refine r_csI (pc' := 28) (L' := [(0, .ref 143), (1, .int X1), (2, .int X2)]) (As := [.int X1]) (rest := [.ref 144]) (j := 174) hq (z_at.mk 3 rfl rfl) (Or.inl ⟨rfl, rfl⟩) rfl rfl (by omega) (g_m_rowAt_ok hx1 H_10 h_25) rfl rfl ?_
      intro R_25 m_25 p_25 e_25 hR_25 H_25
      subst e_25
      obtain ⟨g_28, h⟩ := z_ifo_some h
      refine r_ia (pc' := 29) (L' := [(0, .ref 143), (1, .int X1), (2, .int X2)]) H_25 hq (z_at.mk 1 rfl rfl) (show zAr 144 0 2740 = true from rfl) hR_25 g_28 rfl rfl ?_
      intro V_28 hV_28
      rcases z_ite h with ⟨c_29, h⟩ | ⟨c_29, h⟩
      · refine r_t1 (pc' := 37) (L' := [(0, .ref 143), (1, .int X1), (2, .int X2)]) hq (z_at.mk 3 rfl rfl) rfl hV_28 c_29 rfl rfl ?_
        refine r_p hq 1 (pc' := 38) (L' := [(0, .ref 143), (1, .int X1), (2, .int X2)]) (st' := [.ref 143]) rfl ?_
        refine r_gR (b := 144) (pc' := 41) (L' := [(0, .ref 143), (1, .int X1), (2, .int X2)]) H_25 hq (z_at.mk 3 rfl rfl) rfl rfl rfl rfl ?_
        refine r_p hq 1 (pc' := 42) (L' := [(0, .ref 143), (1, .int X1), (2, .int X2)]) (st' := [.int X1, .ref 144]) rfl ?_
        obtain ⟨o_42, h_42, h⟩ := Option.bind_eq_some_iff.mp h
        refine r_csI (pc' := 45) (L' := [(0, .ref 143), (1, .int X1), (2, .int X2)]) (As := [.int X1]) (rest := [.ref 144]) (j := 174) hq (z_at.mk 3 rfl rfl) (Or.inl ⟨rfl, rfl⟩) rfl rfl (by omega) (g_m_rowAt_ok hx1 H_25 h_42) rfl rfl ?_
        intro R_42 m_42 p_42 e_42 hR_42 H_42
        subst e_42
        refine r_p hq 4 (pc' := 49) (L' := [(0, .ref 143), (1, .int X1), (2, .int X2)]) (st' := [.int ((R_42 + ((1 : Int32))) + X2), .ref 144]) rfl ?_
        obtain ⟨g_49, h⟩ := z_ifo_some h
        refine r_ia (pc' := 50) (L' := []) H_42 hq (z_at.mk 1 rfl rfl) (show zAr 144 0 2740 = true from rfl) (tx_iadd (tx_iadd hR_42 (rfl : (1 : Int32).toInt = 1)) hx2) g_49 rfl rfl ?_
        intro V_49 hV_49
        cases h
        exact r_ri hq (z_at.mk 1 rfl rfl) rfl rfl hV_49 rfl H_42
      · refine r_f1 (pc' := 32) (L' := [(0, .ref 143), (1, .int X1), (2, .int X2)]) hq (z_at.mk 3 rfl rfl) rfl hV_28 c_29 rfl rfl ?_
        refine r_p hq 2 (pc' := 50) (L' := []) (st' := [.int ((-3 : Int32))]) rfl ?_
        cases h
        exact r_ri hq (z_at.mk 1 rfl rfl) rfl rfl (rfl : (-3 : Int32).toInt = -3) rfl H_25
    · refine r_f1 (pc' := 16) (L' := []) hq (z_at.mk 3 rfl rfl) rfl hR_10 c_13 rfl rfl ?_
      refine r_p hq 2 (pc' := 50) (L' := []) (st' := [.int ((-1 : Int32))]) rfl ?_
      cases h
      exact r_ri hq (z_at.mk 1 rfl rfl) rfl rfl (rfl : (-1 : Int32).toInt = -1) rfl H_10
def g_m_worth (x1 : Int) (σ : zS) : Option (Int × zS) :=
  (g_m_isRow x1 σ).bind fun o_1 =>
  if o_1.1 = 0 then
    some (-9223372036854775808, o_1.2)
  else
    (g_m_rowAt x1 o_1.2).bind fun o_12 =>
    if 0 ≤ o_12.1 ∧ o_12.1 < 2740 then
    let v_15 := o_12.2 144 o_12.1
    if v_15 ≠ 1 then
      some (-9223372036854775808, o_12.2)
    else
      if 0 ≤ w32 (1 + x1) ∧ w32 (1 + x1) < 361 then
      let v_27 := o_12.2 147 (w32 (1 + x1))
      some (v_27, o_12.2)
      else none
    else none
set_option maxHeartbeats 4000000 in
theorem g_m_worth_ok {xl : Nat} {xs : Nat → Int32} {X1 : Int32} {x1 : Int} (hx1 : X1.toInt = x1) {σ : zS} {p : Nat} {m : zM} {o : Int × zS} (H : zRep xl xs p m σ) (h : g_m_worth x1 σ = some o) : zGo xl xs (fun p' => p = p') 3 209 0 (z_can 209 0 (lv_args 0 [.ref 143, .int X1])) [] m (vL o.1) o.2 := by
  have hq : z_mth 209 = some z_r209 := rfl
  unfold g_m_worth at h
  show zGo xl xs (fun p' => p = p') 3 209 0 [(0, .ref 143), (1, .int X1)] [] m (vL o.1) o.2
  refine r_p hq 1 (pc' := 1) (L' := [(0, .ref 143), (1, .int X1)]) (st' := [.int X1]) rfl ?_
  obtain ⟨o_1, h_1, h⟩ := Option.bind_eq_some_iff.mp h
  refine r_csI (pc' := 4) (L' := [(0, .ref 143), (1, .int X1)]) (As := [.int X1]) (rest := []) (j := 204) hq (z_at.mk 3 rfl rfl) (Or.inl ⟨rfl, rfl⟩) rfl rfl (by omega) (g_m_isRow_ok hx1 H h_1) rfl rfl ?_
  intro R_1 m_1 p_1 e_1 hR_1 H_1
  subst e_1
  rcases z_ite h with ⟨c_4, h⟩ | ⟨c_4, h⟩
  · refine r_t1 (pc' := 31) (L' := []) hq (z_at.mk 3 rfl rfl) rfl hR_1 c_4 rfl rfl ?_
    refine r_p hq 1 (pc' := 34) (L' := []) (st' := [.long ((-9223372036854775808 : Int64))]) rfl ?_
    cases h
    exact r_rl hq (z_at.mk 1 rfl rfl) rfl (rfl : (-9223372036854775808 : Int64).toInt = -9223372036854775808) rfl H_1
  · refine r_f1 (pc' := 7) (L' := [(0, .ref 143), (1, .int X1)]) hq (z_at.mk 3 rfl rfl) rfl hR_1 c_4 rfl rfl ?_
    refine r_p hq 1 (pc' := 8) (L' := [(0, .ref 143), (1, .int X1)]) (st' := [.ref 143]) rfl ?_
    refine r_gR (b := 144) (pc' := 11) (L' := [(0, .ref 143), (1, .int X1)]) H_1 hq (z_at.mk 3 rfl rfl) rfl rfl rfl rfl ?_
    refine r_p hq 1 (pc' := 12) (L' := [(0, .ref 143), (1, .int X1)]) (st' := [.int X1, .ref 144]) rfl ?_
    obtain ⟨o_12, h_12, h⟩ := Option.bind_eq_some_iff.mp h
    refine r_csI (pc' := 15) (L' := [(0, .ref 143), (1, .int X1)]) (As := [.int X1]) (rest := [.ref 144]) (j := 174) hq (z_at.mk 3 rfl rfl) (Or.inl ⟨rfl, rfl⟩) rfl rfl (by omega) (g_m_rowAt_ok hx1 H_1 h_12) rfl rfl ?_
    intro R_12 m_12 p_12 e_12 hR_12 H_12
    subst e_12
    obtain ⟨g_15, h⟩ := z_ifo_some h
    refine r_ia (pc' := 16) (L' := [(0, .ref 143), (1, .int X1)]) H_12 hq (z_at.mk 1 rfl rfl) (show zAr 144 0 2740 = true from rfl) hR_12 g_15 rfl rfl ?_
    intro V_15 hV_15
    refine r_p hq 1 (pc' := 17) (L' := [(0, .ref 143), (1, .int X1)]) (st' := [.int ((1 : Int32)), .int V_15]) rfl ?_
    rcases z_ite h with ⟨c_17, h⟩ | ⟨c_17, h⟩
    · refine r_t2 (pc' := 31) (L' := []) hq (z_at.mk 3 rfl rfl) rfl hV_15 (rfl : (1 : Int32).toInt = 1) c_17 rfl rfl ?_
      refine r_p hq 1 (pc' := 34) (L' := []) (st' := [.long ((-9223372036854775808 : Int64))]) rfl ?_
      cases h
      exact r_rl hq (z_at.mk 1 rfl rfl) rfl (rfl : (-9223372036854775808 : Int64).toInt = -9223372036854775808) rfl H_12
    · refine r_f2 (pc' := 20) (L' := [(0, .ref 143), (1, .int X1)]) hq (z_at.mk 3 rfl rfl) rfl hV_15 (rfl : (1 : Int32).toInt = 1) c_17 rfl rfl ?_
      refine r_p hq 1 (pc' := 21) (L' := [(0, .ref 143), (1, .int X1)]) (st' := [.ref 143]) rfl ?_
      refine r_gR (b := 147) (pc' := 24) (L' := [(0, .ref 143), (1, .int X1)]) H_12 hq (z_at.mk 3 rfl rfl) rfl rfl rfl rfl ?_
      refine r_p hq 3 (pc' := 27) (L' := [(0, .ref 143), (1, .int X1)]) (st' := [.int (((1 : Int32)) + X1), .ref 147]) rfl ?_
      obtain ⟨g_27, h⟩ := z_ifo_some h
      refine r_la (pc' := 28) (L' := [(0, .ref 143), (1, .int X1)]) H_12 hq (z_at.mk 1 rfl rfl) (show zAr 147 1 361 = true from rfl) (tx_iadd (rfl : (1 : Int32).toInt = 1) hx1) g_27 rfl rfl ?_
      intro V_27 hV_27
      refine r_p hq 1 (pc' := 34) (L' := []) (st' := [.long V_27]) rfl ?_
      cases h
      exact r_rl hq (z_at.mk 1 rfl rfl) rfl hV_27 rfl H_12
def g_m_feed (x1 : Int) (σ : zS) : Option (Int × zS) :=
  (g_m_isIn x1 1 127 σ).bind fun o_4 =>
  if o_4.1 ≠ 0 then
    let v_14 := o_4.2 143 20
    if v_14 ≠ 160 then
      let v_31 := o_4.2 143 20
      if 0 ≤ v_31 ∧ v_31 < 160 then
      let s_35 := zu o_4.2 159 v_31 x1
      let v_38 := s_35 143 20
      let s_43 := zu s_35 143 20 (w32 (v_38 + 1))
      let v_47 := s_43 143 20
      some (v_47, s_43)
      else none
    else
      some (-4, o_4.2)
  else
    some (-2, o_4.2)
set_option maxHeartbeats 4000000 in
theorem g_m_feed_ok {xl : Nat} {xs : Nat → Int32} {X1 : Int32} {x1 : Int} (hx1 : X1.toInt = x1) {σ : zS} {p : Nat} {m : zM} {o : Int × zS} (H : zRep xl xs p m σ) (h : g_m_feed x1 σ = some o) : zGo xl xs (fun p' => p = p') 2 210 0 (z_can 210 0 (lv_args 0 [.ref 143, .int X1])) [] m (vI o.1) o.2 := by
  have hq : z_mth 210 = some z_r210 := rfl
  unfold g_m_feed at h
  show zGo xl xs (fun p' => p = p') 2 210 0 [(0, .ref 143), (1, .int X1)] [] m (vI o.1) o.2
  refine r_p hq 3 (pc' := 4) (L' := [(0, .ref 143), (1, .int X1)]) (st' := [.int ((127 : Int32)), .int ((1 : Int32)), .int X1]) rfl ?_
  obtain ⟨o_4, h_4, h⟩ := Option.bind_eq_some_iff.mp h
  refine r_csI (pc' := 7) (L' := [(0, .ref 143), (1, .int X1)]) (As := [.int X1, .int ((1 : Int32)), .int ((127 : Int32))]) (rest := []) (j := 159) hq (z_at.mk 3 rfl rfl) (Or.inl ⟨rfl, rfl⟩) rfl rfl (by omega) (g_m_isIn_ok hx1 (rfl : (1 : Int32).toInt = 1) (rfl : (127 : Int32).toInt = 127) H h_4) rfl rfl ?_
  intro R_4 m_4 p_4 e_4 hR_4 H_4
  subst e_4
  rcases z_ite h with ⟨c_7, h⟩ | ⟨c_7, h⟩
  · refine r_t1 (pc' := 13) (L' := [(0, .ref 143), (1, .int X1)]) hq (z_at.mk 3 rfl rfl) rfl hR_4 c_7 rfl rfl ?_
    refine r_p hq 1 (pc' := 14) (L' := [(0, .ref 143), (1, .int X1)]) (st' := [.ref 143]) rfl ?_
    refine r_gI (pc' := 17) (L' := [(0, .ref 143), (1, .int X1)]) H_4 hq (z_at.mk 3 rfl rfl) rfl rfl rfl rfl ?_
    intro V_14 hV_14
    refine r_p hq 1 (pc' := 20) (L' := [(0, .ref 143), (1, .int X1)]) (st' := [.int ((160 : Int32)), .int V_14]) rfl ?_
    rcases z_ite h with ⟨c_20, h⟩ | ⟨c_20, h⟩
    · refine r_t2 (pc' := 26) (L' := [(0, .ref 143), (1, .int X1)]) hq (z_at.mk 3 rfl rfl) rfl hV_14 (rfl : (160 : Int32).toInt = 160) c_20 rfl rfl ?_
      refine r_p hq 1 (pc' := 27) (L' := [(0, .ref 143), (1, .int X1)]) (st' := [.ref 143]) rfl ?_
      refine r_gR (b := 159) (pc' := 30) (L' := [(0, .ref 143), (1, .int X1)]) H_4 hq (z_at.mk 3 rfl rfl) rfl rfl rfl rfl ?_
      refine r_p hq 1 (pc' := 31) (L' := [(0, .ref 143), (1, .int X1)]) (st' := [.ref 143, .ref 159]) rfl ?_
      refine r_gI (pc' := 34) (L' := [(0, .ref 143), (1, .int X1)]) H_4 hq (z_at.mk 3 rfl rfl) rfl rfl rfl rfl ?_
      intro V_31 hV_31
      refine r_p hq 1 (pc' := 35) (L' := [(0, .ref 143), (1, .int X1)]) (st' := [.int X1, .int V_31, .ref 159]) rfl ?_
      obtain ⟨g_35, h⟩ := z_ifo_some h
      refine r_is (pc' := 36) (L' := [(0, .ref 143), (1, .int X1)]) H_4 hq (z_at.mk 1 rfl rfl) (show zAr 159 0 160 = true from rfl) hV_31 g_35 hx1 rfl rfl ?_
      intro m_35 H_35
      refine r_p hq 2 (pc' := 38) (L' := [(0, .ref 143), (1, .int X1)]) (st' := [.ref 143, .ref 143]) rfl ?_
      refine r_gI (pc' := 41) (L' := [(0, .ref 143), (1, .int X1)]) H_35 hq (z_at.mk 3 rfl rfl) rfl rfl rfl rfl ?_
      intro V_38 hV_38
      refine r_p hq 2 (pc' := 43) (L' := [(0, .ref 143), (1, .int X1)]) (st' := [.int (V_38 + ((1 : Int32))), .ref 143]) rfl ?_
      refine r_pI (X := V_38 + ((1 : Int32))) (pc' := 46) (L' := [(0, .ref 143), (1, .int X1)]) H_35 hq (z_at.mk 3 rfl rfl) rfl rfl (tx_iadd hV_38 (rfl : (1 : Int32).toInt = 1)) (by decide) rfl rfl rfl rfl ?_
      intro m_43 H_43
      refine r_p hq 1 (pc' := 47) (L' := [(0, .ref 143), (1, .int X1)]) (st' := [.ref 143]) rfl ?_
      refine r_gI (pc' := 50) (L' := [(0, .ref 143), (1, .int X1)]) H_43 hq (z_at.mk 3 rfl rfl) rfl rfl rfl rfl ?_
      intro V_47 hV_47
      cases h
      exact r_ri hq (z_at.mk 1 rfl rfl) rfl rfl hV_47 rfl H_43
    · refine r_f2 (pc' := 23) (L' := [(0, .ref 143), (1, .int X1)]) hq (z_at.mk 3 rfl rfl) rfl hV_14 (rfl : (160 : Int32).toInt = 160) c_20 rfl rfl ?_
      refine r_p hq 1 (pc' := 25) (L' := [(0, .ref 143), (1, .int X1)]) (st' := [.int ((-4 : Int32))]) rfl ?_
      cases h
      exact r_ri hq (z_at.mk 1 rfl rfl) rfl rfl (rfl : (-4 : Int32).toInt = -4) rfl H_4
  · refine r_f1 (pc' := 10) (L' := [(0, .ref 143), (1, .int X1)]) hq (z_at.mk 3 rfl rfl) rfl hR_4 c_7 rfl rfl ?_
    refine r_p hq 1 (pc' := 12) (L' := [(0, .ref 143), (1, .int X1)]) (st' := [.int ((-2 : Int32))]) rfl ?_
    cases h
    exact r_ri hq (z_at.mk 1 rfl rfl) rfl rfl (rfl : (-2 : Int32).toInt = -2) rfl H_4
def g_m_clear (σ : zS) : Option (Int × zS) :=
  let v_1 := σ 143 20
  let s_7 := zu σ 143 20 0
  some (v_1, s_7)
set_option maxHeartbeats 4000000 in
theorem g_m_clear_ok {xl : Nat} {xs : Nat → Int32} {σ : zS} {p : Nat} {m : zM} {o : Int × zS} (H : zRep xl xs p m σ) (h : g_m_clear σ = some o) : zGo xl xs (fun p' => p = p') 1 211 0 (z_can 211 0 (lv_args 0 [.ref 143])) [] m (vI o.1) o.2 := by
  have hq : z_mth 211 = some z_r211 := rfl
  unfold g_m_clear at h
  show zGo xl xs (fun p' => p = p') 1 211 0 [(0, .ref 143)] [] m (vI o.1) o.2
  refine r_p hq 1 (pc' := 1) (L' := [(0, .ref 143)]) (st' := [.ref 143]) rfl ?_
  refine r_gI (pc' := 4) (L' := [(0, .ref 143)]) H hq (z_at.mk 3 rfl rfl) rfl rfl rfl rfl ?_
  intro V_1 hV_1
  refine r_p hq 3 (pc' := 7) (L' := [(1, .int V_1), (0, .ref 143)]) (st' := [.int ((0 : Int32)), .ref 143]) rfl ?_
  refine r_pI (X := (0 : Int32)) (pc' := 10) (L' := [(1, .int V_1), (0, .ref 143)]) H hq (z_at.mk 3 rfl rfl) rfl rfl (rfl : (0 : Int32).toInt = 0) (by decide) rfl rfl rfl rfl ?_
  intro m_7 H_7
  refine r_p hq 1 (pc' := 11) (L' := [(1, .int V_1), (0, .ref 143)]) (st' := [.int V_1]) rfl ?_
  cases h
  exact r_ri hq (z_at.mk 1 rfl rfl) rfl rfl hV_1 rfl H_7
def g_m_isSign (x1 : Int) (σ : zS) : Option (Int × zS) :=
  (g_m_here σ).bind fun o_1 =>
  if o_1.1 = x1 then
    let v_19 := o_1.2 143 21
    let s_24 := zu o_1.2 143 21 (w32 (v_19 + 1))
    some (1, s_24)
  else
    let v_10 := o_1.2 143 21
    (g_m_fails v_10 o_1.2).bind fun o_13 =>
    if o_13.1 = 0 ∨ o_13.1 = 1 then some (o_13.1, o_13.2) else none
set_option maxHeartbeats 4000000 in
theorem g_m_isSign_ok {xl : Nat} {xs : Nat → Int32} {X1 : Int32} {x1 : Int} (hx1 : X1.toInt = x1) {σ : zS} {p : Nat} {m : zM} {o : Int × zS} (H : zRep xl xs p m σ) (h : g_m_isSign x1 σ = some o) : zGo xl xs (fun p' => p = p') 2 214 0 (z_can 214 0 (lv_args 0 [.ref 143, .int X1])) [] m (vI o.1) o.2 := by
  have hq : z_mth 214 = some z_r214 := rfl
  unfold g_m_isSign at h
  show zGo xl xs (fun p' => p = p') 2 214 0 [(0, .ref 143), (1, .int X1)] [] m (vI o.1) o.2
  refine r_p hq 1 (pc' := 1) (L' := [(0, .ref 143), (1, .int X1)]) (st' := [.ref 143]) rfl ?_
  obtain ⟨o_1, h_1, h⟩ := Option.bind_eq_some_iff.mp h
  refine r_cvI (pc' := 4) (L' := [(0, .ref 143), (1, .int X1)]) (Ps := []) (rest := []) hq (z_at.mk 3 rfl rfl) (Or.inl ⟨rfl, rfl⟩) rfl rfl (by decide) (by decide) rfl (Nat.not_lt.mpr (Nat.le_of_ble_eq_true rfl)) rfl rfl (z_cat_le 0 rfl (by decide)) (z_lgl_le 1 rfl (by decide)) (by decide) (H.tg rfl) (by omega) (g_m_here_ok H h_1) rfl rfl ?_
  intro R_1 m_1 p_1 e_1 hR_1 H_1
  subst e_1
  refine r_p hq 1 (pc' := 5) (L' := [(0, .ref 143), (1, .int X1)]) (st' := [.int X1, .int R_1]) rfl ?_
  rcases z_ite h with ⟨c_5, h⟩ | ⟨c_5, h⟩
  · refine r_t2 (pc' := 17) (L' := [(0, .ref 143), (1, .int X1)]) hq (z_at.mk 3 rfl rfl) rfl hR_1 hx1 c_5 rfl rfl ?_
    refine r_p hq 2 (pc' := 19) (L' := [(0, .ref 143), (1, .int X1)]) (st' := [.ref 143, .ref 143]) rfl ?_
    refine r_gI (pc' := 22) (L' := [(0, .ref 143), (1, .int X1)]) H_1 hq (z_at.mk 3 rfl rfl) rfl rfl rfl rfl ?_
    intro V_19 hV_19
    refine r_p hq 2 (pc' := 24) (L' := [(0, .ref 143), (1, .int X1)]) (st' := [.int (V_19 + ((1 : Int32))), .ref 143]) rfl ?_
    refine r_pI (X := V_19 + ((1 : Int32))) (pc' := 27) (L' := [(0, .ref 143), (1, .int X1)]) H_1 hq (z_at.mk 3 rfl rfl) rfl rfl (tx_iadd hV_19 (rfl : (1 : Int32).toInt = 1)) (by decide) rfl rfl rfl rfl ?_
    intro m_24 H_24
    refine r_p hq 1 (pc' := 28) (L' := [(0, .ref 143), (1, .int X1)]) (st' := [.int ((1 : Int32))]) rfl ?_
    cases h
    exact r_ri hq (z_at.mk 1 rfl rfl) rfl rfl (rfl : (1 : Int32).toInt = 1) rfl H_24
  · refine r_f2 (pc' := 8) (L' := [(0, .ref 143), (1, .int X1)]) hq (z_at.mk 3 rfl rfl) rfl hR_1 hx1 c_5 rfl rfl ?_
    refine r_p hq 2 (pc' := 10) (L' := [(0, .ref 143), (1, .int X1)]) (st' := [.ref 143, .ref 143]) rfl ?_
    refine r_gI (pc' := 13) (L' := [(0, .ref 143), (1, .int X1)]) H_1 hq (z_at.mk 3 rfl rfl) rfl rfl rfl rfl ?_
    intro V_10 hV_10
    obtain ⟨o_13, h_13, h⟩ := Option.bind_eq_some_iff.mp h
    refine r_cvI (pc' := 16) (L' := [(0, .ref 143), (1, .int X1)]) (Ps := [.int V_10]) (rest := []) hq (z_at.mk 3 rfl rfl) (Or.inl ⟨rfl, rfl⟩) rfl rfl (by decide) (by decide) rfl (Nat.not_lt.mpr (Nat.le_of_ble_eq_true rfl)) rfl rfl (z_cat_le 0 rfl (by decide)) (z_lgl_le 2 rfl (by decide)) (by decide) (H_1.tg rfl) (by omega) (g_m_fails_ok hV_10 H_1 h_13) rfl rfl ?_
    intro R_13 m_13 p_13 e_13 hR_13 H_13
    subst e_13
    obtain ⟨g_16, h⟩ := z_if_some h
    cases h
    exact r_ri hq (z_at.mk 1 rfl rfl) rfl (z_rty_bo hR_13 g_16) hR_13 rfl H_13
def g_m_wordEnd_L5 : Nat → Int → zS → Option (Int × zS)
  | 0, _, _ => none
  | n + 1, x1, σ =>
    let v_7 := σ 143 20
    if v_7 ≤ x1 then
      some (x1, σ)
    else
      if 0 ≤ x1 ∧ x1 < 160 then
      let v_18 := σ 159 x1
      (g_m_isIn v_18 97 122 σ).bind fun o_23 =>
      if o_23.1 = 0 then
        some (x1, o_23.2)
      else
        (g_m_wordEnd_L5 n) (w32 (x1 + 1)) o_23.2
      else none
set_option maxHeartbeats 4000000 in
theorem g_m_wordEnd_L5_ok {xl : Nat} {xs : Nat → Int32} : ∀ (n : Nat) {X1 : Int32} {x1 : Int} {σ : zS} {p : Nat} {m : zM} {o : Int × zS}, X1.toInt = x1 → zRep xl xs p m σ → g_m_wordEnd_L5 n x1 σ = some o → zGo xl xs (fun p' => p = p') 2 217 5 [(0, .ref 143), (1, .int X1)] [] m (vI o.1) o.2
  | 0, _, _, _, _, _, _, _, _, h => by cases h
  | n + 1, X1, x1, σ, p, m, o, hx1, H, h => by
    have hq : z_mth 217 = some z_r217 := rfl
    have ih := fun {X1 : Int32} {x1 : Int} {σ : zS} {p : Nat} {m : zM} {o : Int × zS} => g_m_wordEnd_L5_ok (xl := xl) (xs := xs) n (X1 := X1) (x1 := x1) (σ := σ) (p := p) (m := m) (o := o)
    unfold g_m_wordEnd_L5 at h
    refine r_p hq 2 (pc' := 7) (L' := [(0, .ref 143), (1, .int X1)]) (st' := [.ref 143, .int X1]) rfl ?_
    refine r_gI (pc' := 10) (L' := [(0, .ref 143), (1, .int X1)]) H hq (z_at.mk 3 rfl rfl) rfl rfl rfl rfl ?_
    intro V_7 hV_7
    rcases z_ite h with ⟨c_10, h⟩ | ⟨c_10, h⟩
    · refine r_t2 (pc' := 35) (L' := [(1, .int X1)]) hq (z_at.mk 3 rfl rfl) rfl hx1 hV_7 c_10 rfl rfl ?_
      refine r_p hq 1 (pc' := 36) (L' := [(1, .int X1)]) (st' := [.int X1]) rfl ?_
      cases h
      exact r_ri hq (z_at.mk 1 rfl rfl) rfl rfl hx1 rfl H
    · refine r_f2 (pc' := 13) (L' := [(0, .ref 143), (1, .int X1)]) hq (z_at.mk 3 rfl rfl) rfl hx1 hV_7 c_10 rfl rfl ?_
      refine r_p hq 1 (pc' := 14) (L' := [(0, .ref 143), (1, .int X1)]) (st' := [.ref 143]) rfl ?_
      refine r_gR (b := 159) (pc' := 17) (L' := [(0, .ref 143), (1, .int X1)]) H hq (z_at.mk 3 rfl rfl) rfl rfl rfl rfl ?_
      refine r_p hq 1 (pc' := 18) (L' := [(0, .ref 143), (1, .int X1)]) (st' := [.int X1, .ref 159]) rfl ?_
      obtain ⟨g_18, h⟩ := z_ifo_some h
      refine r_ia (pc' := 19) (L' := [(0, .ref 143), (1, .int X1)]) H hq (z_at.mk 1 rfl rfl) (show zAr 159 0 160 = true from rfl) hx1 g_18 rfl rfl ?_
      intro V_18 hV_18
      refine r_p hq 2 (pc' := 23) (L' := [(0, .ref 143), (1, .int X1)]) (st' := [.int ((122 : Int32)), .int ((97 : Int32)), .int V_18]) rfl ?_
      obtain ⟨o_23, h_23, h⟩ := Option.bind_eq_some_iff.mp h
      refine r_csI (pc' := 26) (L' := [(0, .ref 143), (1, .int X1)]) (As := [.int V_18, .int ((97 : Int32)), .int ((122 : Int32))]) (rest := []) (j := 159) hq (z_at.mk 3 rfl rfl) (Or.inl ⟨rfl, rfl⟩) rfl rfl (by omega) (g_m_isIn_ok hV_18 (rfl : (97 : Int32).toInt = 97) (rfl : (122 : Int32).toInt = 122) H h_23) rfl rfl ?_
      intro R_23 m_23 p_23 e_23 hR_23 H_23
      subst e_23
      rcases z_ite h with ⟨c_26, h⟩ | ⟨c_26, h⟩
      · refine r_t1 (pc' := 35) (L' := [(1, .int X1)]) hq (z_at.mk 3 rfl rfl) rfl hR_23 c_26 rfl rfl ?_
        refine r_p hq 1 (pc' := 36) (L' := [(1, .int X1)]) (st' := [.int X1]) rfl ?_
        cases h
        exact r_ri hq (z_at.mk 1 rfl rfl) rfl rfl hx1 rfl H_23
      · refine r_f1 (pc' := 29) (L' := [(0, .ref 143), (1, .int X1)]) hq (z_at.mk 3 rfl rfl) rfl hR_23 c_26 rfl rfl ?_
        refine r_p hq 2 (pc' := 5) (L' := [(0, .ref 143), (1, .int (X1 + (1 : Int32)))]) (st' := []) rfl ?_
        exact ih (tx_iadd hx1 (rfl : (1 : Int32).toInt = 1)) H_23 h
def g_m_wordEnd (σ : zS) : Option (Int × zS) :=
  let v_1 := σ 143 21
  g_m_wordEnd_L5 zK v_1 σ
set_option maxHeartbeats 4000000 in
theorem g_m_wordEnd_ok {xl : Nat} {xs : Nat → Int32} {σ : zS} {p : Nat} {m : zM} {o : Int × zS} (H : zRep xl xs p m σ) (h : g_m_wordEnd σ = some o) : zGo xl xs (fun p' => p = p') 2 217 0 (z_can 217 0 (lv_args 0 [.ref 143])) [] m (vI o.1) o.2 := by
  have hq : z_mth 217 = some z_r217 := rfl
  unfold g_m_wordEnd at h
  show zGo xl xs (fun p' => p = p') 2 217 0 [(0, .ref 143)] [] m (vI o.1) o.2
  refine r_p hq 1 (pc' := 1) (L' := [(0, .ref 143)]) (st' := [.ref 143]) rfl ?_
  refine r_gI (pc' := 4) (L' := [(0, .ref 143)]) H hq (z_at.mk 3 rfl rfl) rfl rfl rfl rfl ?_
  intro V_1 hV_1
  refine r_p hq 1 (pc' := 5) (L' := [(0, .ref 143), (1, .int V_1)]) (st' := []) rfl ?_
  exact g_m_wordEnd_L5_ok zK hV_1 H h
def g_m_word_L116 (a1 : Nat) (g75 : Int → Int → Int → Int → Int → Int → zS → Option (Int × zS)) (x2 : Int) (x3 : Int) (x4 : Int) (x5 : Int) (x7 : Int) (xs0 : Int) (σ : zS) : Option (Int × zS) :=
  g75 x2 x3 x4 x5 xs0 (w32 (x7 + 1)) σ
set_option maxHeartbeats 4000000 in
theorem g_m_word_L116_ok {xl : Nat} {xs : Nat → Int32} {a1 : Nat} (ha1 : zIn [1, 2, 3, 4, 5, 6, 7, 8, 9, 10, 11, 12, 13, 14, 15, 16, 17, 18] a1 = true) {g75 : Int → Int → Int → Int → Int → Int → zS → Option (Int × zS)} (hg75 : ∀ {X2 : Int32} {x2 : Int} {X3 : Int32} {x3 : Int} {X4 : Int32} {x4 : Int} {X5 : Int32} {x5 : Int} {X6 : Int32} {x6 : Int} {X7 : Int32} {x7 : Int} {σ : zS} {p : Nat} {m : zM} {o : Int × zS}, X2.toInt = x2 → X3.toInt = x3 → X4.toInt = x4 → X5.toInt = x5 → X6.toInt = x6 → X7.toInt = x7 → zRep xl xs p m σ → g75 x2 x3 x4 x5 x6 x7 σ = some o → zGo xl xs (fun p' => p = p') 3 218 75 [(0, .ref 143), (1, .ref a1), (2, .int X2), (3, .int X3), (4, .int X4), (5, .int X5), (6, .int X6), (7, .int X7)] [] m (vI o.1) o.2) {X2 : Int32} {x2 : Int} (hx2 : X2.toInt = x2) {X3 : Int32} {x3 : Int} (hx3 : X3.toInt = x3) {X4 : Int32} {x4 : Int} (hx4 : X4.toInt = x4) {X5 : Int32} {x5 : Int} (hx5 : X5.toInt = x5) {X7 : Int32} {x7 : Int} (hx7 : X7.toInt = x7) {Xs0 : Int32} {xs0 : Int} (hxs0 : Xs0.toInt = xs0) {σ : zS} {p : Nat} {m : zM} {o : Int × zS} (H : zRep xl xs p m σ) (h : g_m_word_L116 a1 g75 x2 x3 x4 x5 x7 xs0 σ = some o) : zGo xl xs (fun p' => p = p') 3 218 116 [(0, .ref 143), (1, .ref a1), (2, .int X2), (3, .int X3), (4, .int X4), (5, .int X5), (7, .int X7)] [.int Xs0] m (vI o.1) o.2 := by
  have hq : z_mth 218 = some z_r218 := rfl
  unfold g_m_word_L116 at h
  refine r_p hq 3 (pc' := 75) (L' := [(0, .ref 143), (1, .ref a1), (2, .int X2), (3, .int X3), (4, .int X4), (5, .int X5), (6, .int Xs0), (7, .int (X7 + (1 : Int32)))]) (st' := []) rfl ?_
  exact hg75 hx2 hx3 hx4 hx5 hxs0 (tx_iadd hx7 (rfl : (1 : Int32).toInt = 1)) H h
def g_m_word_L124 (a1 : Nat) (g10 : Int → Int → Int → zS → Option (Int × zS)) (x2 : Int) (x3 : Int) (x4 : Int) (x5 : Int) (x6 : Int) (σ : zS) : Option (Int × zS) :=
  if x6 = 0 then
    g10 x2 (w32 (x3 + 1)) (w32 (x4 + (w32 (x5 + 1)))) σ
  else
    let s_131 := zu σ 143 21 x2
    some (x3, s_131)
set_option maxHeartbeats 4000000 in
theorem g_m_word_L124_ok {xl : Nat} {xs : Nat → Int32} {a1 : Nat} (ha1 : zIn [1, 2, 3, 4, 5, 6, 7, 8, 9, 10, 11, 12, 13, 14, 15, 16, 17, 18] a1 = true) {g10 : Int → Int → Int → zS → Option (Int × zS)} (hg10 : ∀ {X2 : Int32} {x2 : Int} {X3 : Int32} {x3 : Int} {X4 : Int32} {x4 : Int} {σ : zS} {p : Nat} {m : zM} {o : Int × zS}, X2.toInt = x2 → X3.toInt = x3 → X4.toInt = x4 → zRep xl xs p m σ → g10 x2 x3 x4 σ = some o → zGo xl xs (fun p' => p = p') 3 218 10 [(0, .ref 143), (1, .ref a1), (2, .int X2), (3, .int X3), (4, .int X4)] [] m (vI o.1) o.2) {X2 : Int32} {x2 : Int} (hx2 : X2.toInt = x2) {X3 : Int32} {x3 : Int} (hx3 : X3.toInt = x3) {X4 : Int32} {x4 : Int} (hx4 : X4.toInt = x4) {X5 : Int32} {x5 : Int} (hx5 : X5.toInt = x5) {X6 : Int32} {x6 : Int} (hx6 : X6.toInt = x6) {σ : zS} {p : Nat} {m : zM} {o : Int × zS} (H : zRep xl xs p m σ) (h : g_m_word_L124 a1 g10 x2 x3 x4 x5 x6 σ = some o) : zGo xl xs (fun p' => p = p') 3 218 124 [(0, .ref 143), (1, .ref a1), (2, .int X2), (3, .int X3), (4, .int X4), (5, .int X5), (6, .int X6)] [] m (vI o.1) o.2 := by
  have hq : z_mth 218 = some z_r218 := rfl
  unfold g_m_word_L124 at h
  refine r_p hq 1 (pc' := 126) (L' := [(0, .ref 143), (1, .ref a1), (2, .int X2), (3, .int X3), (4, .int X4), (5, .int X5), (6, .int X6)]) (st' := [.int X6]) rfl ?_
  rcases z_ite h with ⟨c_126, h⟩ | ⟨c_126, h⟩
  · refine r_t1 (pc' := 136) (L' := [(0, .ref 143), (1, .ref a1), (2, .int X2), (3, .int X3), (4, .int X4), (5, .int X5), (6, .int X6)]) hq (z_at.mk 3 rfl rfl) rfl hx6 c_126 rfl rfl ?_
    refine r_p hq 8 (pc' := 10) (L' := [(0, .ref 143), (1, .ref a1), (2, .int X2), (3, .int (X3 + (1 : Int32))), (4, .int (X4 + (X5 + ((1 : Int32)))))]) (st' := []) rfl ?_
    exact hg10 hx2 (tx_iadd hx3 (rfl : (1 : Int32).toInt = 1)) (tx_iadd hx4 (tx_iadd hx5 (rfl : (1 : Int32).toInt = 1))) H h
  · refine r_f1 (pc' := 129) (L' := [(0, .ref 143), (1, .ref a1), (2, .int X2), (3, .int X3), (4, .int X4), (5, .int X5), (6, .int X6)]) hq (z_at.mk 3 rfl rfl) rfl hx6 c_126 rfl rfl ?_
    refine r_p hq 2 (pc' := 131) (L' := [(0, .ref 143), (1, .ref a1), (2, .int X2), (3, .int X3), (4, .int X4), (5, .int X5), (6, .int X6)]) (st' := [.int X2, .ref 143]) rfl ?_
    refine r_pI (X := X2) (pc' := 134) (L' := [(0, .ref 143), (1, .ref a1), (2, .int X2), (3, .int X3), (4, .int X4), (5, .int X5), (6, .int X6)]) H hq (z_at.mk 3 rfl rfl) rfl rfl hx2 (by decide) rfl rfl rfl rfl ?_
    intro m_131 H_131
    refine r_p hq 1 (pc' := 135) (L' := [(0, .ref 143), (1, .ref a1), (2, .int X2), (3, .int X3), (4, .int X4), (5, .int X5), (6, .int X6)]) (st' := [.int X3]) rfl ?_
    cases h
    exact r_ri hq (z_at.mk 1 rfl rfl) rfl rfl hx3 rfl H_131
def g_m_word_L75 (a1 : Nat) (g10 : Int → Int → Int → zS → Option (Int × zS)) : Nat → Int → Int → Int → Int → Int → Int → zS → Option (Int × zS)
  | 0, _, _, _, _, _, _, _ => none
  | n + 1, x2, x3, x4, x5, x6, x7, σ =>
    if x5 ≤ x7 then
      g_m_word_L124 a1 g10 x2 x3 x4 x5 x6 σ
    else
      if x6 = 0 then
        g_m_word_L124 a1 g10 x2 x3 x4 x5 x6 σ
      else
        (g_jString_charAt a1 (w32 (x4 + x7)) σ).bind fun o_93 =>
        let v_101 := o_93.2 143 21
        if 0 ≤ w32 (v_101 + x7) ∧ w32 (v_101 + x7) < 160 then
        let v_107 := o_93.2 159 (w32 (v_101 + x7))
        if o_93.1 ≠ v_107 then
          g_m_word_L116 a1 ((g_m_word_L75 a1 g10 n)) x2 x3 x4 x5 x7 0 o_93.2
        else
          g_m_word_L116 a1 ((g_m_word_L75 a1 g10 n)) x2 x3 x4 x5 x7 1 o_93.2
        else none
set_option maxHeartbeats 4000000 in
theorem g_m_word_L75_ok {xl : Nat} {xs : Nat → Int32} {a1 : Nat} (ha1 : zIn [1, 2, 3, 4, 5, 6, 7, 8, 9, 10, 11, 12, 13, 14, 15, 16, 17, 18] a1 = true) {g10 : Int → Int → Int → zS → Option (Int × zS)} (hg10 : ∀ {X2 : Int32} {x2 : Int} {X3 : Int32} {x3 : Int} {X4 : Int32} {x4 : Int} {σ : zS} {p : Nat} {m : zM} {o : Int × zS}, X2.toInt = x2 → X3.toInt = x3 → X4.toInt = x4 → zRep xl xs p m σ → g10 x2 x3 x4 σ = some o → zGo xl xs (fun p' => p = p') 3 218 10 [(0, .ref 143), (1, .ref a1), (2, .int X2), (3, .int X3), (4, .int X4)] [] m (vI o.1) o.2) : ∀ (n : Nat) {X2 : Int32} {x2 : Int} {X3 : Int32} {x3 : Int} {X4 : Int32} {x4 : Int} {X5 : Int32} {x5 : Int} {X6 : Int32} {x6 : Int} {X7 : Int32} {x7 : Int} {σ : zS} {p : Nat} {m : zM} {o : Int × zS}, X2.toInt = x2 → X3.toInt = x3 → X4.toInt = x4 → X5.toInt = x5 → X6.toInt = x6 → X7.toInt = x7 → zRep xl xs p m σ → g_m_word_L75 a1 g10 n x2 x3 x4 x5 x6 x7 σ = some o → zGo xl xs (fun p' => p = p') 3 218 75 [(0, .ref 143), (1, .ref a1), (2, .int X2), (3, .int X3), (4, .int X4), (5, .int X5), (6, .int X6), (7, .int X7)] [] m (vI o.1) o.2
  | 0, _, _, _, _, _, _, _, _, _, _, _, _, _, _, _, _, _, _, _, _, _, _, _, h => by cases h
  | n + 1, X2, x2, X3, x3, X4, x4, X5, x5, X6, x6, X7, x7, σ, p, m, o, hx2, hx3, hx4, hx5, hx6, hx7, H, h => by
    have hq : z_mth 218 = some z_r218 := rfl
    have ih := fun {X2 : Int32} {x2 : Int} {X3 : Int32} {x3 : Int} {X4 : Int32} {x4 : Int} {X5 : Int32} {x5 : Int} {X6 : Int32} {x6 : Int} {X7 : Int32} {x7 : Int} {σ : zS} {p : Nat} {m : zM} {o : Int × zS} => g_m_word_L75_ok (xl := xl) (xs := xs) ha1 hg10 n (X2 := X2) (x2 := x2) (X3 := X3) (x3 := x3) (X4 := X4) (x4 := x4) (X5 := X5) (x5 := x5) (X6 := X6) (x6 := x6) (X7 := X7) (x7 := x7) (σ := σ) (p := p) (m := m) (o := o)
    unfold g_m_word_L75 at h
    refine r_p hq 2 (pc' := 79) (L' := [(0, .ref 143), (1, .ref a1), (2, .int X2), (3, .int X3), (4, .int X4), (5, .int X5), (6, .int X6), (7, .int X7)]) (st' := [.int X5, .int X7]) rfl ?_
    rcases z_ite h with ⟨c_79, h⟩ | ⟨c_79, h⟩
    · refine r_t2 (pc' := 124) (L' := [(0, .ref 143), (1, .ref a1), (2, .int X2), (3, .int X3), (4, .int X4), (5, .int X5), (6, .int X6)]) hq (z_at.mk 3 rfl rfl) rfl hx7 hx5 c_79 rfl rfl ?_
      exact g_m_word_L124_ok ha1 hg10 hx2 hx3 hx4 hx5 hx6 H h
    · refine r_f2 (pc' := 82) (L' := [(0, .ref 143), (1, .ref a1), (2, .int X2), (3, .int X3), (4, .int X4), (5, .int X5), (6, .int X6), (7, .int X7)]) hq (z_at.mk 3 rfl rfl) rfl hx7 hx5 c_79 rfl rfl ?_
      refine r_p hq 1 (pc' := 84) (L' := [(0, .ref 143), (1, .ref a1), (2, .int X2), (3, .int X3), (4, .int X4), (5, .int X5), (6, .int X6), (7, .int X7)]) (st' := [.int X6]) rfl ?_
      rcases z_ite h with ⟨c_84, h⟩ | ⟨c_84, h⟩
      · refine r_t1 (pc' := 124) (L' := [(0, .ref 143), (1, .ref a1), (2, .int X2), (3, .int X3), (4, .int X4), (5, .int X5), (6, .int X6)]) hq (z_at.mk 3 rfl rfl) rfl hx6 c_84 rfl rfl ?_
        exact g_m_word_L124_ok ha1 hg10 hx2 hx3 hx4 hx5 hx6 H h
      · refine r_f1 (pc' := 87) (L' := [(0, .ref 143), (1, .ref a1), (2, .int X2), (3, .int X3), (4, .int X4), (5, .int X5), (6, .int X6), (7, .int X7)]) hq (z_at.mk 3 rfl rfl) rfl hx6 c_84 rfl rfl ?_
        refine r_p hq 4 (pc' := 93) (L' := [(0, .ref 143), (1, .ref a1), (2, .int X2), (3, .int X3), (4, .int X4), (5, .int X5), (6, .int X6), (7, .int X7)]) (st' := [.int (X4 + X7), .ref a1]) rfl ?_
        obtain ⟨o_93, h_93, h⟩ := Option.bind_eq_some_iff.mp h
        refine r_cvI (pc' := 96) (L' := [(0, .ref 143), (1, .ref a1), (2, .int X2), (3, .int X3), (4, .int X4), (5, .int X5), (6, .int X6), (7, .int X7)]) (Ps := [.int (X4 + X7)]) (rest := []) hq (z_at.mk 3 rfl rfl) (Or.inl ⟨rfl, rfl⟩) rfl rfl (by decide) (by decide) rfl (Nat.not_lt.mpr (Nat.le_of_ble_eq_true rfl)) rfl rfl (z_cat_le 0 rfl (by decide)) (z_lgl_le 2 rfl (by decide)) (by decide) (H.tg9 (zIn_all (l := [1, 2, 3, 4, 5, 6, 7, 8, 9, 10, 11, 12, 13, 14, 15, 16, 17, 18]) (p := fun a => zIn [1, 2, 3, 4, 5, 6, 7, 8, 9, 10, 11, 12, 13, 14, 15, 16, 17, 18] a) rfl ha1)) (by omega) (g_jString_charAt_ok (zIn_all (l := [1, 2, 3, 4, 5, 6, 7, 8, 9, 10, 11, 12, 13, 14, 15, 16, 17, 18]) (p := fun a => zIn [1, 2, 3, 4, 5, 6, 7, 8, 9, 10, 11, 12, 13, 14, 15, 16, 17, 18] a) rfl ha1) (tx_iadd hx4 hx7) H h_93) rfl rfl ?_
        intro R_93 m_93 p_93 e_93 hR_93 H_93
        subst e_93
        refine r_p hq 1 (pc' := 97) (L' := [(0, .ref 143), (1, .ref a1), (2, .int X2), (3, .int X3), (4, .int X4), (5, .int X5), (6, .int X6), (7, .int X7)]) (st' := [.ref 143, .int R_93]) rfl ?_
        refine r_gR (b := 159) (pc' := 100) (L' := [(0, .ref 143), (1, .ref a1), (2, .int X2), (3, .int X3), (4, .int X4), (5, .int X5), (6, .int X6), (7, .int X7)]) H_93 hq (z_at.mk 3 rfl rfl) rfl rfl rfl rfl ?_
        refine r_p hq 1 (pc' := 101) (L' := [(0, .ref 143), (1, .ref a1), (2, .int X2), (3, .int X3), (4, .int X4), (5, .int X5), (6, .int X6), (7, .int X7)]) (st' := [.ref 143, .ref 159, .int R_93]) rfl ?_
        refine r_gI (pc' := 104) (L' := [(0, .ref 143), (1, .ref a1), (2, .int X2), (3, .int X3), (4, .int X4), (5, .int X5), (6, .int X6), (7, .int X7)]) H_93 hq (z_at.mk 3 rfl rfl) rfl rfl rfl rfl ?_
        intro V_101 hV_101
        refine r_p hq 2 (pc' := 107) (L' := [(0, .ref 143), (1, .ref a1), (2, .int X2), (3, .int X3), (4, .int X4), (5, .int X5), (6, .int X6), (7, .int X7)]) (st' := [.int (V_101 + X7), .ref 159, .int R_93]) rfl ?_
        obtain ⟨g_107, h⟩ := z_ifo_some h
        refine r_ia (pc' := 108) (L' := [(0, .ref 143), (1, .ref a1), (2, .int X2), (3, .int X3), (4, .int X4), (5, .int X5), (6, .int X6), (7, .int X7)]) H_93 hq (z_at.mk 1 rfl rfl) (show zAr 159 0 160 = true from rfl) (tx_iadd hV_101 hx7) g_107 rfl rfl ?_
        intro V_107 hV_107
        rcases z_ite h with ⟨c_108, h⟩ | ⟨c_108, h⟩
        · refine r_t2 (pc' := 115) (L' := [(0, .ref 143), (1, .ref a1), (2, .int X2), (3, .int X3), (4, .int X4), (5, .int X5), (6, .int X6), (7, .int X7)]) hq (z_at.mk 3 rfl rfl) rfl hR_93 hV_107 c_108 rfl rfl ?_
          refine r_p hq 1 (pc' := 116) (L' := [(0, .ref 143), (1, .ref a1), (2, .int X2), (3, .int X3), (4, .int X4), (5, .int X5), (7, .int X7)]) (st' := [.int ((0 : Int32))]) rfl ?_
          exact g_m_word_L116_ok ha1 ih hx2 hx3 hx4 hx5 hx7 (rfl : (0 : Int32).toInt = 0) H_93 h
        · refine r_f2 (pc' := 111) (L' := [(0, .ref 143), (1, .ref a1), (2, .int X2), (3, .int X3), (4, .int X4), (5, .int X5), (6, .int X6), (7, .int X7)]) hq (z_at.mk 3 rfl rfl) rfl hR_93 hV_107 c_108 rfl rfl ?_
          refine r_p hq 2 (pc' := 116) (L' := [(0, .ref 143), (1, .ref a1), (2, .int X2), (3, .int X3), (4, .int X4), (5, .int X5), (7, .int X7)]) (st' := [.int ((1 : Int32))]) rfl ?_
          exact g_m_word_L116_ok ha1 ih hx2 hx3 hx4 hx5 hx7 (rfl : (1 : Int32).toInt = 1) H_93 h
def g_m_word_L70 (a1 : Nat) (g10 : Int → Int → Int → zS → Option (Int × zS)) (x2 : Int) (x3 : Int) (x4 : Int) (x5 : Int) (xs0 : Int) (σ : zS) : Option (Int × zS) :=
  g_m_word_L75 a1 g10 zK x2 x3 x4 x5 xs0 0 σ
set_option maxHeartbeats 4000000 in
theorem g_m_word_L70_ok {xl : Nat} {xs : Nat → Int32} {a1 : Nat} (ha1 : zIn [1, 2, 3, 4, 5, 6, 7, 8, 9, 10, 11, 12, 13, 14, 15, 16, 17, 18] a1 = true) {g10 : Int → Int → Int → zS → Option (Int × zS)} (hg10 : ∀ {X2 : Int32} {x2 : Int} {X3 : Int32} {x3 : Int} {X4 : Int32} {x4 : Int} {σ : zS} {p : Nat} {m : zM} {o : Int × zS}, X2.toInt = x2 → X3.toInt = x3 → X4.toInt = x4 → zRep xl xs p m σ → g10 x2 x3 x4 σ = some o → zGo xl xs (fun p' => p = p') 3 218 10 [(0, .ref 143), (1, .ref a1), (2, .int X2), (3, .int X3), (4, .int X4)] [] m (vI o.1) o.2) {X2 : Int32} {x2 : Int} (hx2 : X2.toInt = x2) {X3 : Int32} {x3 : Int} (hx3 : X3.toInt = x3) {X4 : Int32} {x4 : Int} (hx4 : X4.toInt = x4) {X5 : Int32} {x5 : Int} (hx5 : X5.toInt = x5) {Xs0 : Int32} {xs0 : Int} (hxs0 : Xs0.toInt = xs0) {σ : zS} {p : Nat} {m : zM} {o : Int × zS} (H : zRep xl xs p m σ) (h : g_m_word_L70 a1 g10 x2 x3 x4 x5 xs0 σ = some o) : zGo xl xs (fun p' => p = p') 3 218 70 [(0, .ref 143), (1, .ref a1), (2, .int X2), (3, .int X3), (4, .int X4), (5, .int X5)] [.int Xs0] m (vI o.1) o.2 := by
  have hq : z_mth 218 = some z_r218 := rfl
  unfold g_m_word_L70 at h
  refine r_p hq 3 (pc' := 75) (L' := [(0, .ref 143), (1, .ref a1), (2, .int X2), (3, .int X3), (4, .int X4), (5, .int X5), (6, .int Xs0), (7, .int ((0 : Int32)))]) (st' := []) rfl ?_
  exact g_m_word_L75_ok ha1 hg10 zK hx2 hx3 hx4 hx5 hxs0 (rfl : (0 : Int32).toInt = 0) H h
def g_m_word_L54 (a1 : Nat) (g10 : Int → Int → Int → zS → Option (Int × zS)) (x2 : Int) (x3 : Int) (x4 : Int) (x5 : Int) (σ : zS) : Option (Int × zS) :=
  let v_58 := σ 143 21
  if x5 ≠ w32 (x2 - v_58) then
    g_m_word_L70 a1 g10 x2 x3 x4 x5 0 σ
  else
    g_m_word_L70 a1 g10 x2 x3 x4 x5 1 σ
set_option maxHeartbeats 4000000 in
theorem g_m_word_L54_ok {xl : Nat} {xs : Nat → Int32} {a1 : Nat} (ha1 : zIn [1, 2, 3, 4, 5, 6, 7, 8, 9, 10, 11, 12, 13, 14, 15, 16, 17, 18] a1 = true) {g10 : Int → Int → Int → zS → Option (Int × zS)} (hg10 : ∀ {X2 : Int32} {x2 : Int} {X3 : Int32} {x3 : Int} {X4 : Int32} {x4 : Int} {σ : zS} {p : Nat} {m : zM} {o : Int × zS}, X2.toInt = x2 → X3.toInt = x3 → X4.toInt = x4 → zRep xl xs p m σ → g10 x2 x3 x4 σ = some o → zGo xl xs (fun p' => p = p') 3 218 10 [(0, .ref 143), (1, .ref a1), (2, .int X2), (3, .int X3), (4, .int X4)] [] m (vI o.1) o.2) {X2 : Int32} {x2 : Int} (hx2 : X2.toInt = x2) {X3 : Int32} {x3 : Int} (hx3 : X3.toInt = x3) {X4 : Int32} {x4 : Int} (hx4 : X4.toInt = x4) {X5 : Int32} {x5 : Int} (hx5 : X5.toInt = x5) {σ : zS} {p : Nat} {m : zM} {o : Int × zS} (H : zRep xl xs p m σ) (h : g_m_word_L54 a1 g10 x2 x3 x4 x5 σ = some o) : zGo xl xs (fun p' => p = p') 3 218 54 [(0, .ref 143), (1, .ref a1), (2, .int X2), (3, .int X3), (4, .int X4), (5, .int X5)] [] m (vI o.1) o.2 := by
  have hq : z_mth 218 = some z_r218 := rfl
  unfold g_m_word_L54 at h
  refine r_p hq 3 (pc' := 58) (L' := [(0, .ref 143), (1, .ref a1), (2, .int X2), (3, .int X3), (4, .int X4), (5, .int X5)]) (st' := [.ref 143, .int X2, .int X5]) rfl ?_
  refine r_gI (pc' := 61) (L' := [(0, .ref 143), (1, .ref a1), (2, .int X2), (3, .int X3), (4, .int X4), (5, .int X5)]) H hq (z_at.mk 3 rfl rfl) rfl rfl rfl rfl ?_
  intro V_58 hV_58
  refine r_p hq 1 (pc' := 62) (L' := [(0, .ref 143), (1, .ref a1), (2, .int X2), (3, .int X3), (4, .int X4), (5, .int X5)]) (st' := [.int (X2 - V_58), .int X5]) rfl ?_
  rcases z_ite h with ⟨c_62, h⟩ | ⟨c_62, h⟩
  · refine r_t2 (pc' := 69) (L' := [(0, .ref 143), (1, .ref a1), (2, .int X2), (3, .int X3), (4, .int X4), (5, .int X5)]) hq (z_at.mk 3 rfl rfl) rfl hx5 (tx_isub hx2 hV_58) c_62 rfl rfl ?_
    refine r_p hq 1 (pc' := 70) (L' := [(0, .ref 143), (1, .ref a1), (2, .int X2), (3, .int X3), (4, .int X4), (5, .int X5)]) (st' := [.int ((0 : Int32))]) rfl ?_
    exact g_m_word_L70_ok ha1 hg10 hx2 hx3 hx4 hx5 (rfl : (0 : Int32).toInt = 0) H h
  · refine r_f2 (pc' := 65) (L' := [(0, .ref 143), (1, .ref a1), (2, .int X2), (3, .int X3), (4, .int X4), (5, .int X5)]) hq (z_at.mk 3 rfl rfl) rfl hx5 (tx_isub hx2 hV_58) c_62 rfl rfl ?_
    refine r_p hq 2 (pc' := 70) (L' := [(0, .ref 143), (1, .ref a1), (2, .int X2), (3, .int X3), (4, .int X4), (5, .int X5)]) (st' := [.int ((1 : Int32))]) rfl ?_
    exact g_m_word_L70_ok ha1 hg10 hx2 hx3 hx4 hx5 (rfl : (1 : Int32).toInt = 1) H h
def g_m_word_L22 (a1 : Nat) (g10 : Int → Int → Int → zS → Option (Int × zS)) : Nat → Int → Int → Int → Int → zS → Option (Int × zS)
  | 0, _, _, _, _, _ => none
  | n + 1, x2, x3, x4, x5, σ =>
    (g_jString_length a1 σ).bind fun o_28 =>
    if o_28.1 ≤ w32 (x4 + x5) then
      g_m_word_L54 a1 g10 x2 x3 x4 x5 o_28.2
    else
      (g_jString_charAt a1 (w32 (x4 + x5)) o_28.2).bind fun o_40 =>
      if o_40.1 = 32 then
        g_m_word_L54 a1 g10 x2 x3 x4 x5 o_40.2
      else
        (g_m_word_L22 a1 g10 n) x2 x3 x4 (w32 (x5 + 1)) o_40.2
set_option maxHeartbeats 4000000 in
theorem g_m_word_L22_ok {xl : Nat} {xs : Nat → Int32} {a1 : Nat} (ha1 : zIn [1, 2, 3, 4, 5, 6, 7, 8, 9, 10, 11, 12, 13, 14, 15, 16, 17, 18] a1 = true) {g10 : Int → Int → Int → zS → Option (Int × zS)} (hg10 : ∀ {X2 : Int32} {x2 : Int} {X3 : Int32} {x3 : Int} {X4 : Int32} {x4 : Int} {σ : zS} {p : Nat} {m : zM} {o : Int × zS}, X2.toInt = x2 → X3.toInt = x3 → X4.toInt = x4 → zRep xl xs p m σ → g10 x2 x3 x4 σ = some o → zGo xl xs (fun p' => p = p') 3 218 10 [(0, .ref 143), (1, .ref a1), (2, .int X2), (3, .int X3), (4, .int X4)] [] m (vI o.1) o.2) : ∀ (n : Nat) {X2 : Int32} {x2 : Int} {X3 : Int32} {x3 : Int} {X4 : Int32} {x4 : Int} {X5 : Int32} {x5 : Int} {σ : zS} {p : Nat} {m : zM} {o : Int × zS}, X2.toInt = x2 → X3.toInt = x3 → X4.toInt = x4 → X5.toInt = x5 → zRep xl xs p m σ → g_m_word_L22 a1 g10 n x2 x3 x4 x5 σ = some o → zGo xl xs (fun p' => p = p') 3 218 22 [(0, .ref 143), (1, .ref a1), (2, .int X2), (3, .int X3), (4, .int X4), (5, .int X5)] [] m (vI o.1) o.2
  | 0, _, _, _, _, _, _, _, _, _, _, _, _, _, _, _, _, _, h => by cases h
  | n + 1, X2, x2, X3, x3, X4, x4, X5, x5, σ, p, m, o, hx2, hx3, hx4, hx5, H, h => by
    have hq : z_mth 218 = some z_r218 := rfl
    have ih := fun {X2 : Int32} {x2 : Int} {X3 : Int32} {x3 : Int} {X4 : Int32} {x4 : Int} {X5 : Int32} {x5 : Int} {σ : zS} {p : Nat} {m : zM} {o : Int × zS} => g_m_word_L22_ok (xl := xl) (xs := xs) ha1 hg10 n (X2 := X2) (x2 := x2) (X3 := X3) (x3 := x3) (X4 := X4) (x4 := x4) (X5 := X5) (x5 := x5) (σ := σ) (p := p) (m := m) (o := o)
    unfold g_m_word_L22 at h
    refine r_p hq 4 (pc' := 28) (L' := [(0, .ref 143), (1, .ref a1), (2, .int X2), (3, .int X3), (4, .int X4), (5, .int X5)]) (st' := [.ref a1, .int (X4 + X5)]) rfl ?_
    obtain ⟨o_28, h_28, h⟩ := Option.bind_eq_some_iff.mp h
    refine r_cvI (pc' := 31) (L' := [(0, .ref 143), (1, .ref a1), (2, .int X2), (3, .int X3), (4, .int X4), (5, .int X5)]) (Ps := []) (rest := [.int (X4 + X5)]) hq (z_at.mk 3 rfl rfl) (Or.inl ⟨rfl, rfl⟩) rfl rfl (by decide) (by decide) rfl (Nat.not_lt.mpr (Nat.le_of_ble_eq_true rfl)) rfl rfl (z_cat_le 1 rfl (by decide)) (z_lgl_le 1 rfl (by decide)) (by decide) (H.tg9 (zIn_all (l := [1, 2, 3, 4, 5, 6, 7, 8, 9, 10, 11, 12, 13, 14, 15, 16, 17, 18]) (p := fun a => zIn [1, 2, 3, 4, 5, 6, 7, 8, 9, 10, 11, 12, 13, 14, 15, 16, 17, 18] a) rfl ha1)) (by omega) (g_jString_length_ok (zIn_all (l := [1, 2, 3, 4, 5, 6, 7, 8, 9, 10, 11, 12, 13, 14, 15, 16, 17, 18]) (p := fun a => zIn [1, 2, 3, 4, 5, 6, 7, 8, 9, 10, 11, 12, 13, 14, 15, 16, 17, 18] a) rfl ha1) H h_28) rfl rfl ?_
    intro R_28 m_28 p_28 e_28 hR_28 H_28
    subst e_28
    rcases z_ite h with ⟨c_31, h⟩ | ⟨c_31, h⟩
    · refine r_t2 (pc' := 54) (L' := [(0, .ref 143), (1, .ref a1), (2, .int X2), (3, .int X3), (4, .int X4), (5, .int X5)]) hq (z_at.mk 3 rfl rfl) rfl (tx_iadd hx4 hx5) hR_28 c_31 rfl rfl ?_
      exact g_m_word_L54_ok ha1 hg10 hx2 hx3 hx4 hx5 H_28 h
    · refine r_f2 (pc' := 34) (L' := [(0, .ref 143), (1, .ref a1), (2, .int X2), (3, .int X3), (4, .int X4), (5, .int X5)]) hq (z_at.mk 3 rfl rfl) rfl (tx_iadd hx4 hx5) hR_28 c_31 rfl rfl ?_
      refine r_p hq 4 (pc' := 40) (L' := [(0, .ref 143), (1, .ref a1), (2, .int X2), (3, .int X3), (4, .int X4), (5, .int X5)]) (st' := [.int (X4 + X5), .ref a1]) rfl ?_
      obtain ⟨o_40, h_40, h⟩ := Option.bind_eq_some_iff.mp h
      refine r_cvI (pc' := 43) (L' := [(0, .ref 143), (1, .ref a1), (2, .int X2), (3, .int X3), (4, .int X4), (5, .int X5)]) (Ps := [.int (X4 + X5)]) (rest := []) hq (z_at.mk 3 rfl rfl) (Or.inl ⟨rfl, rfl⟩) rfl rfl (by decide) (by decide) rfl (Nat.not_lt.mpr (Nat.le_of_ble_eq_true rfl)) rfl rfl (z_cat_le 0 rfl (by decide)) (z_lgl_le 2 rfl (by decide)) (by decide) (H_28.tg9 (zIn_all (l := [1, 2, 3, 4, 5, 6, 7, 8, 9, 10, 11, 12, 13, 14, 15, 16, 17, 18]) (p := fun a => zIn [1, 2, 3, 4, 5, 6, 7, 8, 9, 10, 11, 12, 13, 14, 15, 16, 17, 18] a) rfl ha1)) (by omega) (g_jString_charAt_ok (zIn_all (l := [1, 2, 3, 4, 5, 6, 7, 8, 9, 10, 11, 12, 13, 14, 15, 16, 17, 18]) (p := fun a => zIn [1, 2, 3, 4, 5, 6, 7, 8, 9, 10, 11, 12, 13, 14, 15, 16, 17, 18] a) rfl ha1) (tx_iadd hx4 hx5) H_28 h_40) rfl rfl ?_
      intro R_40 m_40 p_40 e_40 hR_40 H_40
      subst e_40
      refine r_p hq 1 (pc' := 45) (L' := [(0, .ref 143), (1, .ref a1), (2, .int X2), (3, .int X3), (4, .int X4), (5, .int X5)]) (st' := [.int ((32 : Int32)), .int R_40]) rfl ?_
      rcases z_ite h with ⟨c_45, h⟩ | ⟨c_45, h⟩
      · refine r_t2 (pc' := 54) (L' := [(0, .ref 143), (1, .ref a1), (2, .int X2), (3, .int X3), (4, .int X4), (5, .int X5)]) hq (z_at.mk 3 rfl rfl) rfl hR_40 (rfl : (32 : Int32).toInt = 32) c_45 rfl rfl ?_
        exact g_m_word_L54_ok ha1 hg10 hx2 hx3 hx4 hx5 H_40 h
      · refine r_f2 (pc' := 48) (L' := [(0, .ref 143), (1, .ref a1), (2, .int X2), (3, .int X3), (4, .int X4), (5, .int X5)]) hq (z_at.mk 3 rfl rfl) rfl hR_40 (rfl : (32 : Int32).toInt = 32) c_45 rfl rfl ?_
        refine r_p hq 2 (pc' := 22) (L' := [(0, .ref 143), (1, .ref a1), (2, .int X2), (3, .int X3), (4, .int X4), (5, .int (X5 + (1 : Int32)))]) (st' := []) rfl ?_
        exact ih hx2 hx3 hx4 (tx_iadd hx5 (rfl : (1 : Int32).toInt = 1)) H_40 h
def g_m_word_L10 (a1 : Nat) : Nat → Int → Int → Int → zS → Option (Int × zS)
  | 0, _, _, _, _ => none
  | n + 1, x2, x3, x4, σ =>
    (g_jString_length a1 σ).bind fun o_13 =>
    if o_13.1 ≤ x4 then
      let v_153 := o_13.2 143 21
      (g_m_fails v_153 o_13.2).bind fun o_156 =>
      some (-1, o_156.2)
    else
      g_m_word_L22 a1 ((g_m_word_L10 a1 n)) zK x2 x3 x4 0 o_13.2
set_option maxHeartbeats 4000000 in
theorem g_m_word_L10_ok {xl : Nat} {xs : Nat → Int32} {a1 : Nat} (ha1 : zIn [1, 2, 3, 4, 5, 6, 7, 8, 9, 10, 11, 12, 13, 14, 15, 16, 17, 18] a1 = true) : ∀ (n : Nat) {X2 : Int32} {x2 : Int} {X3 : Int32} {x3 : Int} {X4 : Int32} {x4 : Int} {σ : zS} {p : Nat} {m : zM} {o : Int × zS}, X2.toInt = x2 → X3.toInt = x3 → X4.toInt = x4 → zRep xl xs p m σ → g_m_word_L10 a1 n x2 x3 x4 σ = some o → zGo xl xs (fun p' => p = p') 3 218 10 [(0, .ref 143), (1, .ref a1), (2, .int X2), (3, .int X3), (4, .int X4)] [] m (vI o.1) o.2
  | 0, _, _, _, _, _, _, _, _, _, _, _, _, _, _, h => by cases h
  | n + 1, X2, x2, X3, x3, X4, x4, σ, p, m, o, hx2, hx3, hx4, H, h => by
    have hq : z_mth 218 = some z_r218 := rfl
    have ih := fun {X2 : Int32} {x2 : Int} {X3 : Int32} {x3 : Int} {X4 : Int32} {x4 : Int} {σ : zS} {p : Nat} {m : zM} {o : Int × zS} => g_m_word_L10_ok (xl := xl) (xs := xs) ha1 n (X2 := X2) (x2 := x2) (X3 := X3) (x3 := x3) (X4 := X4) (x4 := x4) (σ := σ) (p := p) (m := m) (o := o)
    unfold g_m_word_L10 at h
    refine r_p hq 2 (pc' := 13) (L' := [(0, .ref 143), (1, .ref a1), (2, .int X2), (3, .int X3), (4, .int X4)]) (st' := [.ref a1, .int X4]) rfl ?_
    obtain ⟨o_13, h_13, h⟩ := Option.bind_eq_some_iff.mp h
    refine r_cvI (pc' := 16) (L' := [(0, .ref 143), (1, .ref a1), (2, .int X2), (3, .int X3), (4, .int X4)]) (Ps := []) (rest := [.int X4]) hq (z_at.mk 3 rfl rfl) (Or.inl ⟨rfl, rfl⟩) rfl rfl (by decide) (by decide) rfl (Nat.not_lt.mpr (Nat.le_of_ble_eq_true rfl)) rfl rfl (z_cat_le 1 rfl (by decide)) (z_lgl_le 1 rfl (by decide)) (by decide) (H.tg9 (zIn_all (l := [1, 2, 3, 4, 5, 6, 7, 8, 9, 10, 11, 12, 13, 14, 15, 16, 17, 18]) (p := fun a => zIn [1, 2, 3, 4, 5, 6, 7, 8, 9, 10, 11, 12, 13, 14, 15, 16, 17, 18] a) rfl ha1)) (by omega) (g_jString_length_ok (zIn_all (l := [1, 2, 3, 4, 5, 6, 7, 8, 9, 10, 11, 12, 13, 14, 15, 16, 17, 18]) (p := fun a => zIn [1, 2, 3, 4, 5, 6, 7, 8, 9, 10, 11, 12, 13, 14, 15, 16, 17, 18] a) rfl ha1) H h_13) rfl rfl ?_
    intro R_13 m_13 p_13 e_13 hR_13 H_13
    subst e_13
    rcases z_ite h with ⟨c_16, h⟩ | ⟨c_16, h⟩
    · refine r_t2 (pc' := 151) (L' := [(0, .ref 143), (1, .ref a1), (2, .int X2), (3, .int X3), (4, .int X4)]) hq (z_at.mk 3 rfl rfl) rfl hx4 hR_13 c_16 rfl rfl ?_
      refine r_p hq 2 (pc' := 153) (L' := [(0, .ref 143), (1, .ref a1), (2, .int X2), (3, .int X3), (4, .int X4)]) (st' := [.ref 143, .ref 143]) rfl ?_
      refine r_gI (pc' := 156) (L' := [(0, .ref 143), (1, .ref a1), (2, .int X2), (3, .int X3), (4, .int X4)]) H_13 hq (z_at.mk 3 rfl rfl) rfl rfl rfl rfl ?_
      intro V_153 hV_153
      obtain ⟨o_156, h_156, h⟩ := Option.bind_eq_some_iff.mp h
      refine r_cvI (pc' := 159) (L' := [(0, .ref 143), (1, .ref a1), (2, .int X2), (3, .int X3), (4, .int X4)]) (Ps := [.int V_153]) (rest := []) hq (z_at.mk 3 rfl rfl) (Or.inl ⟨rfl, rfl⟩) rfl rfl (by decide) (by decide) rfl (Nat.not_lt.mpr (Nat.le_of_ble_eq_true rfl)) rfl rfl (z_cat_le 0 rfl (by decide)) (z_lgl_le 2 rfl (by decide)) (by decide) (H_13.tg rfl) (by omega) (g_m_fails_ok hV_153 H_13 h_156) rfl rfl ?_
      intro R_156 m_156 p_156 e_156 hR_156 H_156
      subst e_156
      refine r_p hq 2 (pc' := 161) (L' := [(0, .ref 143), (1, .ref a1), (2, .int X2), (3, .int X3), (4, .int X4)]) (st' := [.int ((-1 : Int32))]) rfl ?_
      cases h
      exact r_ri hq (z_at.mk 1 rfl rfl) rfl rfl (rfl : (-1 : Int32).toInt = -1) rfl H_156
    · refine r_f2 (pc' := 19) (L' := [(0, .ref 143), (1, .ref a1), (2, .int X2), (3, .int X3), (4, .int X4)]) hq (z_at.mk 3 rfl rfl) rfl hx4 hR_13 c_16 rfl rfl ?_
      refine r_p hq 2 (pc' := 22) (L' := [(0, .ref 143), (1, .ref a1), (2, .int X2), (3, .int X3), (4, .int X4), (5, .int ((0 : Int32)))]) (st' := []) rfl ?_
      exact g_m_word_L22_ok ha1 ih zK hx2 hx3 hx4 (rfl : (0 : Int32).toInt = 0) H_13 h
def g_m_word (a1 : Nat) (σ : zS) : Option (Int × zS) :=
  (g_m_wordEnd σ).bind fun o_1 =>
  g_m_word_L10 a1 zK o_1.1 0 0 o_1.2
set_option maxHeartbeats 4000000 in
theorem g_m_word_ok {xl : Nat} {xs : Nat → Int32} {a1 : Nat} (ha1 : zIn [1, 2, 3, 4, 5, 6, 7, 8, 9, 10, 11, 12, 13, 14, 15, 16, 17, 18] a1 = true) {σ : zS} {p : Nat} {m : zM} {o : Int × zS} (H : zRep xl xs p m σ) (h : g_m_word a1 σ = some o) : zGo xl xs (fun p' => p = p') 3 218 0 (z_can 218 0 (lv_args 0 [.ref 143, .ref a1])) [] m (vI o.1) o.2 := by
  have hq : z_mth 218 = some z_r218 := rfl
  unfold g_m_word at h
  show zGo xl xs (fun p' => p = p') 3 218 0 [(0, .ref 143), (1, .ref a1)] [] m (vI o.1) o.2
  refine r_p hq 1 (pc' := 1) (L' := [(0, .ref 143), (1, .ref a1)]) (st' := [.ref 143]) rfl ?_
  obtain ⟨o_1, h_1, h⟩ := Option.bind_eq_some_iff.mp h
  refine r_cvI (pc' := 4) (L' := [(0, .ref 143), (1, .ref a1)]) (Ps := []) (rest := []) hq (z_at.mk 3 rfl rfl) (Or.inl ⟨rfl, rfl⟩) rfl rfl (by decide) (by decide) rfl (Nat.not_lt.mpr (Nat.le_of_ble_eq_true rfl)) rfl rfl (z_cat_le 0 rfl (by decide)) (z_lgl_le 1 rfl (by decide)) (by decide) (H.tg rfl) (by omega) (g_m_wordEnd_ok H h_1) rfl rfl ?_
  intro R_1 m_1 p_1 e_1 hR_1 H_1
  subst e_1
  refine r_p hq 5 (pc' := 10) (L' := [(0, .ref 143), (1, .ref a1), (2, .int R_1), (3, .int ((0 : Int32))), (4, .int ((0 : Int32)))]) (st' := []) rfl ?_
  exact g_m_word_L10_ok ha1 zK hR_1 (rfl : (0 : Int32).toInt = 0) (rfl : (0 : Int32).toInt = 0) H_1 h
def g_m_isSetting_L119 (x1 : Int) (σ : zS) : Option (Int × zS) :=
  let v_125 := σ 143 23
  if 0 ≤ x1 ∧ x1 < 7 then
  let s_128 := zu σ 160 x1 v_125
  some (1, s_128)
  else none
set_option maxHeartbeats 4000000 in
theorem g_m_isSetting_L119_ok {xl : Nat} {xs : Nat → Int32} {X1 : Int32} {x1 : Int} (hx1 : X1.toInt = x1) {σ : zS} {p : Nat} {m : zM} {o : Int × zS} (H : zRep xl xs p m σ) (h : g_m_isSetting_L119 x1 σ = some o) : zGo xl xs (fun p' => p = p') 4 219 119 [(0, .ref 143), (1, .int X1)] [] m (vI o.1) o.2 := by
  have hq : z_mth 219 = some z_r219 := rfl
  unfold g_m_isSetting_L119 at h
  refine r_p hq 1 (pc' := 120) (L' := [(0, .ref 143), (1, .int X1)]) (st' := [.ref 143]) rfl ?_
  refine r_gR (b := 160) (pc' := 123) (L' := [(0, .ref 143), (1, .int X1)]) H hq (z_at.mk 3 rfl rfl) rfl rfl rfl rfl ?_
  refine r_p hq 2 (pc' := 125) (L' := [(0, .ref 143), (1, .int X1)]) (st' := [.ref 143, .int X1, .ref 160]) rfl ?_
  refine r_gI (pc' := 128) (L' := [(0, .ref 143), (1, .int X1)]) H hq (z_at.mk 3 rfl rfl) rfl rfl rfl rfl ?_
  intro V_125 hV_125
  obtain ⟨g_128, h⟩ := z_ifo_some h
  refine r_is (pc' := 129) (L' := [(0, .ref 143), (1, .int X1)]) H hq (z_at.mk 1 rfl rfl) (show zAr 160 0 7 = true from rfl) hx1 g_128 hV_125 rfl rfl ?_
  intro m_128 H_128
  refine r_p hq 1 (pc' := 130) (L' := [(0, .ref 143), (1, .int X1)]) (st' := [.int ((1 : Int32))]) rfl ?_
  cases h
  exact r_ri hq (z_at.mk 1 rfl rfl) rfl rfl (rfl : (1 : Int32).toInt = 1) rfl H_128
def g_m_isSetting_L48 (x1 : Int) (as0 : Nat) (σ : zS) : Option (Int × zS) :=
  (g_m_word as0 σ).bind fun o_48 =>
  let s_51 := zu o_48.2 143 23 o_48.1
  let v_55 := s_51 143 23
  if 0 ≤ v_55 then
    g_m_isSetting_L119 x1 s_51
  else
    some (0, s_51)
set_option maxHeartbeats 4000000 in
theorem g_m_isSetting_L48_ok {xl : Nat} {xs : Nat → Int32} {X1 : Int32} {x1 : Int} (hx1 : X1.toInt = x1) {as0 : Nat} (has0 : zIn [12, 13] as0 = true) {σ : zS} {p : Nat} {m : zM} {o : Int × zS} (H : zRep xl xs p m σ) (h : g_m_isSetting_L48 x1 as0 σ = some o) : zGo xl xs (fun p' => p = p') 4 219 48 [(0, .ref 143), (1, .int X1)] [.ref as0, .ref 143, .ref 143] m (vI o.1) o.2 := by
  have hq : z_mth 219 = some z_r219 := rfl
  unfold g_m_isSetting_L48 at h
  obtain ⟨o_48, h_48, h⟩ := Option.bind_eq_some_iff.mp h
  refine r_cvI (pc' := 51) (L' := [(0, .ref 143), (1, .int X1)]) (Ps := [.ref as0]) (rest := [.ref 143]) hq (z_at.mk 3 rfl rfl) (Or.inl ⟨rfl, rfl⟩) rfl rfl (by decide) (by decide) rfl (Nat.not_lt.mpr (Nat.le_of_ble_eq_true rfl)) rfl rfl (z_cat_le 1 rfl (by decide)) (z_lgl_le 2 rfl (by decide)) (by decide) (H.tg rfl) (by omega) (g_m_word_ok (zIn_all (l := [12, 13]) (p := fun a => zIn [1, 2, 3, 4, 5, 6, 7, 8, 9, 10, 11, 12, 13, 14, 15, 16, 17, 18] a) rfl has0) H h_48) rfl rfl ?_
  intro R_48 m_48 p_48 e_48 hR_48 H_48
  subst e_48
  refine r_pI (X := R_48) (pc' := 54) (L' := [(0, .ref 143), (1, .int X1)]) H_48 hq (z_at.mk 3 rfl rfl) rfl rfl hR_48 (by decide) rfl rfl rfl rfl ?_
  intro m_51 H_51
  refine r_p hq 1 (pc' := 55) (L' := [(0, .ref 143), (1, .int X1)]) (st' := [.ref 143]) rfl ?_
  refine r_gI (pc' := 58) (L' := [(0, .ref 143), (1, .int X1)]) H_51 hq (z_at.mk 3 rfl rfl) rfl rfl rfl rfl ?_
  intro V_55 hV_55
  rcases z_ite h with ⟨c_58, h⟩ | ⟨c_58, h⟩
  · refine r_t1 (pc' := 119) (L' := [(0, .ref 143), (1, .int X1)]) hq (z_at.mk 3 rfl rfl) rfl hV_55 c_58 rfl rfl ?_
    exact g_m_isSetting_L119_ok hx1 H_51 h
  · refine r_f1 (pc' := 61) (L' := [(0, .ref 143), (1, .int X1)]) hq (z_at.mk 3 rfl rfl) rfl hV_55 c_58 rfl rfl ?_
    refine r_p hq 1 (pc' := 62) (L' := [(0, .ref 143), (1, .int X1)]) (st' := [.int ((0 : Int32))]) rfl ?_
    cases h
    exact r_ri hq (z_at.mk 1 rfl rfl) rfl rfl (rfl : (0 : Int32).toInt = 0) rfl H_51
def g_m_isSetting_L111 (x1 : Int) (xs0 : Int) (xs1 : Int) (xs2 : Int) (σ : zS) : Option (Int × zS) :=
  (g_m_isNumber xs2 xs1 xs0 σ).bind fun o_111 =>
  if o_111.1 ≠ 0 then
    g_m_isSetting_L119 x1 o_111.2
  else
    some (0, o_111.2)
set_option maxHeartbeats 4000000 in
theorem g_m_isSetting_L111_ok {xl : Nat} {xs : Nat → Int32} {X1 : Int32} {x1 : Int} (hx1 : X1.toInt = x1) {Xs0 : Int32} {xs0 : Int} (hxs0 : Xs0.toInt = xs0) {Xs1 : Int32} {xs1 : Int} (hxs1 : Xs1.toInt = xs1) {Xs2 : Int32} {xs2 : Int} (hxs2 : Xs2.toInt = xs2) {σ : zS} {p : Nat} {m : zM} {o : Int × zS} (H : zRep xl xs p m σ) (h : g_m_isSetting_L111 x1 xs0 xs1 xs2 σ = some o) : zGo xl xs (fun p' => p = p') 4 219 111 [(0, .ref 143), (1, .int X1)] [.int Xs0, .int Xs1, .int Xs2, .ref 143] m (vI o.1) o.2 := by
  have hq : z_mth 219 = some z_r219 := rfl
  unfold g_m_isSetting_L111 at h
  obtain ⟨o_111, h_111, h⟩ := Option.bind_eq_some_iff.mp h
  refine r_cvI (pc' := 114) (L' := [(0, .ref 143), (1, .int X1)]) (Ps := [.int Xs2, .int Xs1, .int Xs0]) (rest := []) hq (z_at.mk 3 rfl rfl) (Or.inl ⟨rfl, rfl⟩) rfl rfl (by decide) (by decide) rfl (Nat.not_lt.mpr (Nat.le_of_ble_eq_true rfl)) rfl rfl (z_cat_le 0 rfl (by decide)) (z_lgl_le 4 rfl (by decide)) (by decide) (H.tg rfl) (by omega) (g_m_isNumber_ok hxs2 hxs1 hxs0 H h_111) rfl rfl ?_
  intro R_111 m_111 p_111 e_111 hR_111 H_111
  subst e_111
  rcases z_ite h with ⟨c_114, h⟩ | ⟨c_114, h⟩
  · refine r_t1 (pc' := 119) (L' := [(0, .ref 143), (1, .int X1)]) hq (z_at.mk 3 rfl rfl) rfl hR_111 c_114 rfl rfl ?_
    exact g_m_isSetting_L119_ok hx1 H_111 h
  · refine r_f1 (pc' := 117) (L' := [(0, .ref 143), (1, .int X1)]) hq (z_at.mk 3 rfl rfl) rfl hR_111 c_114 rfl rfl ?_
    refine r_p hq 1 (pc' := 118) (L' := [(0, .ref 143), (1, .int X1)]) (st' := [.int ((0 : Int32))]) rfl ?_
    cases h
    exact r_ri hq (z_at.mk 1 rfl rfl) rfl rfl (rfl : (0 : Int32).toInt = 0) rfl H_111
def g_m_isSetting_L93 (x1 : Int) (xs0 : Int) (xs1 : Int) (σ : zS) : Option (Int × zS) :=
  g_m_isSetting_L111 x1 99 xs0 xs1 σ
set_option maxHeartbeats 4000000 in
theorem g_m_isSetting_L93_ok {xl : Nat} {xs : Nat → Int32} {X1 : Int32} {x1 : Int} (hx1 : X1.toInt = x1) {Xs0 : Int32} {xs0 : Int} (hxs0 : Xs0.toInt = xs0) {Xs1 : Int32} {xs1 : Int} (hxs1 : Xs1.toInt = xs1) {σ : zS} {p : Nat} {m : zM} {o : Int × zS} (H : zRep xl xs p m σ) (h : g_m_isSetting_L93 x1 xs0 xs1 σ = some o) : zGo xl xs (fun p' => p = p') 4 219 93 [(0, .ref 143), (1, .int X1)] [.int Xs0, .int Xs1, .ref 143] m (vI o.1) o.2 := by
  have hq : z_mth 219 = some z_r219 := rfl
  unfold g_m_isSetting_L93 at h
  refine r_p hq 2 (pc' := 111) (L' := [(0, .ref 143), (1, .int X1)]) (st' := [.int ((99 : Int32)), .int Xs0, .int Xs1, .ref 143]) rfl ?_
  exact g_m_isSetting_L111_ok hx1 (rfl : (99 : Int32).toInt = 99) hxs0 hxs1 H h
def g_m_isSetting_L84 (x1 : Int) (xs0 : Int) (xs1 : Int) (σ : zS) : Option (Int × zS) :=
  if x1 = 0 then
    g_m_isSetting_L93 x1 xs0 xs1 σ
  else
    if x1 ≠ 1 then
      if x1 ≠ 2 then
        g_m_isSetting_L111 x1 1024 xs0 xs1 σ
      else
        g_m_isSetting_L111 x1 12 xs0 xs1 σ
    else
      g_m_isSetting_L93 x1 xs0 xs1 σ
set_option maxHeartbeats 4000000 in
theorem g_m_isSetting_L84_ok {xl : Nat} {xs : Nat → Int32} {X1 : Int32} {x1 : Int} (hx1 : X1.toInt = x1) {Xs0 : Int32} {xs0 : Int} (hxs0 : Xs0.toInt = xs0) {Xs1 : Int32} {xs1 : Int} (hxs1 : Xs1.toInt = xs1) {σ : zS} {p : Nat} {m : zM} {o : Int × zS} (H : zRep xl xs p m σ) (h : g_m_isSetting_L84 x1 xs0 xs1 σ = some o) : zGo xl xs (fun p' => p = p') 4 219 84 [(0, .ref 143), (1, .int X1)] [.int Xs0, .int Xs1, .ref 143] m (vI o.1) o.2 := by
  have hq : z_mth 219 = some z_r219 := rfl
  unfold g_m_isSetting_L84 at h
  refine r_p hq 1 (pc' := 85) (L' := [(0, .ref 143), (1, .int X1)]) (st' := [.int X1, .int Xs0, .int Xs1, .ref 143]) rfl ?_
  rcases z_ite h with ⟨c_85, h⟩ | ⟨c_85, h⟩
  · refine r_t1 (pc' := 93) (L' := [(0, .ref 143), (1, .int X1)]) hq (z_at.mk 3 rfl rfl) rfl hx1 c_85 rfl rfl ?_
    exact g_m_isSetting_L93_ok hx1 hxs0 hxs1 H h
  · refine r_f1 (pc' := 88) (L' := [(0, .ref 143), (1, .int X1)]) hq (z_at.mk 3 rfl rfl) rfl hx1 c_85 rfl rfl ?_
    refine r_p hq 2 (pc' := 90) (L' := [(0, .ref 143), (1, .int X1)]) (st' := [.int ((1 : Int32)), .int X1, .int Xs0, .int Xs1, .ref 143]) rfl ?_
    rcases z_ite h with ⟨c_90, h⟩ | ⟨c_90, h⟩
    · refine r_t2 (pc' := 98) (L' := [(0, .ref 143), (1, .int X1)]) hq (z_at.mk 3 rfl rfl) rfl hx1 (rfl : (1 : Int32).toInt = 1) c_90 rfl rfl ?_
      refine r_p hq 2 (pc' := 100) (L' := [(0, .ref 143), (1, .int X1)]) (st' := [.int ((2 : Int32)), .int X1, .int Xs0, .int Xs1, .ref 143]) rfl ?_
      rcases z_ite h with ⟨c_100, h⟩ | ⟨c_100, h⟩
      · refine r_t2 (pc' := 108) (L' := [(0, .ref 143), (1, .int X1)]) hq (z_at.mk 3 rfl rfl) rfl hx1 (rfl : (2 : Int32).toInt = 2) c_100 rfl rfl ?_
        refine r_p hq 1 (pc' := 111) (L' := [(0, .ref 143), (1, .int X1)]) (st' := [.int ((1024 : Int32)), .int Xs0, .int Xs1, .ref 143]) rfl ?_
        exact g_m_isSetting_L111_ok hx1 (rfl : (1024 : Int32).toInt = 1024) hxs0 hxs1 H h
      · refine r_f2 (pc' := 103) (L' := [(0, .ref 143), (1, .int X1)]) hq (z_at.mk 3 rfl rfl) rfl hx1 (rfl : (2 : Int32).toInt = 2) c_100 rfl rfl ?_
        refine r_p hq 2 (pc' := 111) (L' := [(0, .ref 143), (1, .int X1)]) (st' := [.int ((12 : Int32)), .int Xs0, .int Xs1, .ref 143]) rfl ?_
        exact g_m_isSetting_L111_ok hx1 (rfl : (12 : Int32).toInt = 12) hxs0 hxs1 H h
    · refine r_f2 (pc' := 93) (L' := [(0, .ref 143), (1, .int X1)]) hq (z_at.mk 3 rfl rfl) rfl hx1 (rfl : (1 : Int32).toInt = 1) c_90 rfl rfl ?_
      exact g_m_isSetting_L93_ok hx1 hxs0 hxs1 H h
def g_m_isSetting_L75 (x1 : Int) (xs0 : Int) (σ : zS) : Option (Int × zS) :=
  if x1 ≠ 0 then
    g_m_isSetting_L84 x1 1 xs0 σ
  else
    g_m_isSetting_L84 x1 0 xs0 σ
set_option maxHeartbeats 4000000 in
theorem g_m_isSetting_L75_ok {xl : Nat} {xs : Nat → Int32} {X1 : Int32} {x1 : Int} (hx1 : X1.toInt = x1) {Xs0 : Int32} {xs0 : Int} (hxs0 : Xs0.toInt = xs0) {σ : zS} {p : Nat} {m : zM} {o : Int × zS} (H : zRep xl xs p m σ) (h : g_m_isSetting_L75 x1 xs0 σ = some o) : zGo xl xs (fun p' => p = p') 4 219 75 [(0, .ref 143), (1, .int X1)] [.int Xs0, .ref 143] m (vI o.1) o.2 := by
  have hq : z_mth 219 = some z_r219 := rfl
  unfold g_m_isSetting_L75 at h
  refine r_p hq 1 (pc' := 76) (L' := [(0, .ref 143), (1, .int X1)]) (st' := [.int X1, .int Xs0, .ref 143]) rfl ?_
  rcases z_ite h with ⟨c_76, h⟩ | ⟨c_76, h⟩
  · refine r_t1 (pc' := 83) (L' := [(0, .ref 143), (1, .int X1)]) hq (z_at.mk 3 rfl rfl) rfl hx1 c_76 rfl rfl ?_
    refine r_p hq 1 (pc' := 84) (L' := [(0, .ref 143), (1, .int X1)]) (st' := [.int ((1 : Int32)), .int Xs0, .ref 143]) rfl ?_
    exact g_m_isSetting_L84_ok hx1 (rfl : (1 : Int32).toInt = 1) hxs0 H h
  · refine r_f1 (pc' := 79) (L' := [(0, .ref 143), (1, .int X1)]) hq (z_at.mk 3 rfl rfl) rfl hx1 c_76 rfl rfl ?_
    refine r_p hq 2 (pc' := 84) (L' := [(0, .ref 143), (1, .int X1)]) (st' := [.int ((0 : Int32)), .int Xs0, .ref 143]) rfl ?_
    exact g_m_isSetting_L84_ok hx1 (rfl : (0 : Int32).toInt = 0) hxs0 H h
def g_m_isSetting (σ : zS) : Option (Int × zS) :=
  (g_m_word 11 σ).bind fun o_4 =>
  if o_4.1 < 0 then
    some (0, o_4.2)
  else
    (g_m_isSign 32 o_4.2).bind fun o_15 =>
    if o_15.1 ≠ 0 then
      (g_m_isIn o_4.1 3 5 o_15.2).bind fun o_26 =>
      if o_26.1 = 0 then
        if o_4.1 ≠ 6 then
          g_m_isSetting_L75 o_4.1 2 o_26.2
        else
          g_m_isSetting_L75 o_4.1 4 o_26.2
      else
        if o_4.1 ≠ 3 then
          g_m_isSetting_L48 o_4.1 13 o_26.2
        else
          g_m_isSetting_L48 o_4.1 12 o_26.2
    else
      some (0, o_15.2)
set_option maxHeartbeats 4000000 in
theorem g_m_isSetting_ok {xl : Nat} {xs : Nat → Int32} {σ : zS} {p : Nat} {m : zM} {o : Int × zS} (H : zRep xl xs p m σ) (h : g_m_isSetting σ = some o) : zGo xl xs (fun p' => p = p') 4 219 0 (z_can 219 0 (lv_args 0 [.ref 143])) [] m (vI o.1) o.2 := by
  have hq : z_mth 219 = some z_r219 := rfl
  unfold g_m_isSetting at h
  show zGo xl xs (fun p' => p = p') 4 219 0 [(0, .ref 143)] [] m (vI o.1) o.2
  refine r_p hq 2 (pc' := 4) (L' := [(0, .ref 143)]) (st' := [.ref 11, .ref 143]) rfl ?_
  obtain ⟨o_4, h_4, h⟩ := Option.bind_eq_some_iff.mp h
  refine r_cvI (pc' := 7) (L' := [(0, .ref 143)]) (Ps := [.ref 11]) (rest := []) hq (z_at.mk 3 rfl rfl) (Or.inl ⟨rfl, rfl⟩) rfl rfl (by decide) (by decide) rfl (Nat.not_lt.mpr (Nat.le_of_ble_eq_true rfl)) rfl rfl (z_cat_le 0 rfl (by decide)) (z_lgl_le 2 rfl (by decide)) (by decide) (H.tg rfl) (by omega) (g_m_word_ok rfl H h_4) rfl rfl ?_
  intro R_4 m_4 p_4 e_4 hR_4 H_4
  subst e_4
  refine r_p hq 2 (pc' := 9) (L' := [(1, .int R_4), (0, .ref 143)]) (st' := [.int R_4]) rfl ?_
  rcases z_ite h with ⟨c_9, h⟩ | ⟨c_9, h⟩
  · refine r_t1 (pc' := 21) (L' := []) hq (z_at.mk 3 rfl rfl) rfl hR_4 c_9 rfl rfl ?_
    refine r_p hq 1 (pc' := 22) (L' := []) (st' := [.int ((0 : Int32))]) rfl ?_
    cases h
    exact r_ri hq (z_at.mk 1 rfl rfl) rfl rfl (rfl : (0 : Int32).toInt = 0) rfl H_4
  · refine r_f1 (pc' := 12) (L' := [(1, .int R_4), (0, .ref 143)]) hq (z_at.mk 3 rfl rfl) rfl hR_4 c_9 rfl rfl ?_
    refine r_p hq 2 (pc' := 15) (L' := [(1, .int R_4), (0, .ref 143)]) (st' := [.int ((32 : Int32)), .ref 143]) rfl ?_
    obtain ⟨o_15, h_15, h⟩ := Option.bind_eq_some_iff.mp h
    refine r_cvI (pc' := 18) (L' := [(1, .int R_4), (0, .ref 143)]) (Ps := [.int ((32 : Int32))]) (rest := []) hq (z_at.mk 3 rfl rfl) (Or.inl ⟨rfl, rfl⟩) rfl rfl (by decide) (by decide) rfl (Nat.not_lt.mpr (Nat.le_of_ble_eq_true rfl)) rfl rfl (z_cat_le 0 rfl (by decide)) (z_lgl_le 2 rfl (by decide)) (by decide) (H_4.tg rfl) (by omega) (g_m_isSign_ok (rfl : (32 : Int32).toInt = 32) H_4 h_15) rfl rfl ?_
    intro R_15 m_15 p_15 e_15 hR_15 H_15
    subst e_15
    rcases z_ite h with ⟨c_18, h⟩ | ⟨c_18, h⟩
    · refine r_t1 (pc' := 23) (L' := [(1, .int R_4), (0, .ref 143)]) hq (z_at.mk 3 rfl rfl) rfl hR_15 c_18 rfl rfl ?_
      refine r_p hq 3 (pc' := 26) (L' := [(1, .int R_4), (0, .ref 143)]) (st' := [.int ((5 : Int32)), .int ((3 : Int32)), .int R_4]) rfl ?_
      obtain ⟨o_26, h_26, h⟩ := Option.bind_eq_some_iff.mp h
      refine r_csI (pc' := 29) (L' := [(1, .int R_4), (0, .ref 143)]) (As := [.int R_4, .int ((3 : Int32)), .int ((5 : Int32))]) (rest := []) (j := 159) hq (z_at.mk 3 rfl rfl) (Or.inl ⟨rfl, rfl⟩) rfl rfl (by omega) (g_m_isIn_ok hR_4 (rfl : (3 : Int32).toInt = 3) (rfl : (5 : Int32).toInt = 5) H_15 h_26) rfl rfl ?_
      intro R_26 m_26 p_26 e_26 hR_26 H_26
      subst e_26
      rcases z_ite h with ⟨c_29, h⟩ | ⟨c_29, h⟩
      · refine r_t1 (pc' := 63) (L' := [(1, .int R_4), (0, .ref 143)]) hq (z_at.mk 3 rfl rfl) rfl hR_26 c_29 rfl rfl ?_
        refine r_p hq 3 (pc' := 67) (L' := [(1, .int R_4), (0, .ref 143)]) (st' := [.int ((6 : Int32)), .int R_4, .ref 143]) rfl ?_
        rcases z_ite h with ⟨c_67, h⟩ | ⟨c_67, h⟩
        · refine r_t2 (pc' := 74) (L' := [(1, .int R_4), (0, .ref 143)]) hq (z_at.mk 3 rfl rfl) rfl hR_4 (rfl : (6 : Int32).toInt = 6) c_67 rfl rfl ?_
          refine r_p hq 1 (pc' := 75) (L' := [(0, .ref 143), (1, .int R_4)]) (st' := [.int ((2 : Int32)), .ref 143]) rfl ?_
          exact g_m_isSetting_L75_ok hR_4 (rfl : (2 : Int32).toInt = 2) H_26 h
        · refine r_f2 (pc' := 70) (L' := [(1, .int R_4), (0, .ref 143)]) hq (z_at.mk 3 rfl rfl) rfl hR_4 (rfl : (6 : Int32).toInt = 6) c_67 rfl rfl ?_
          refine r_p hq 2 (pc' := 75) (L' := [(0, .ref 143), (1, .int R_4)]) (st' := [.int ((4 : Int32)), .ref 143]) rfl ?_
          exact g_m_isSetting_L75_ok hR_4 (rfl : (4 : Int32).toInt = 4) H_26 h
      · refine r_f1 (pc' := 32) (L' := [(1, .int R_4), (0, .ref 143)]) hq (z_at.mk 3 rfl rfl) rfl hR_26 c_29 rfl rfl ?_
        refine r_p hq 4 (pc' := 36) (L' := [(1, .int R_4), (0, .ref 143)]) (st' := [.int ((3 : Int32)), .int R_4, .ref 143, .ref 143]) rfl ?_
        rcases z_ite h with ⟨c_36, h⟩ | ⟨c_36, h⟩
        · refine r_t2 (pc' := 45) (L' := [(1, .int R_4), (0, .ref 143)]) hq (z_at.mk 3 rfl rfl) rfl hR_4 (rfl : (3 : Int32).toInt = 3) c_36 rfl rfl ?_
          refine r_p hq 1 (pc' := 48) (L' := [(0, .ref 143), (1, .int R_4)]) (st' := [.ref 13, .ref 143, .ref 143]) rfl ?_
          exact g_m_isSetting_L48_ok hR_4 rfl H_26 h
        · refine r_f2 (pc' := 39) (L' := [(1, .int R_4), (0, .ref 143)]) hq (z_at.mk 3 rfl rfl) rfl hR_4 (rfl : (3 : Int32).toInt = 3) c_36 rfl rfl ?_
          refine r_p hq 2 (pc' := 48) (L' := [(0, .ref 143), (1, .int R_4)]) (st' := [.ref 12, .ref 143, .ref 143]) rfl ?_
          exact g_m_isSetting_L48_ok hR_4 rfl H_26 h
    · refine r_f1 (pc' := 21) (L' := []) hq (z_at.mk 3 rfl rfl) rfl hR_15 c_18 rfl rfl ?_
      refine r_p hq 1 (pc' := 22) (L' := []) (st' := [.int ((0 : Int32))]) rfl ?_
      cases h
      exact r_ri hq (z_at.mk 1 rfl rfl) rfl rfl (rfl : (0 : Int32).toInt = 0) rfl H_15
def g_m_begins (σ : zS) : Option (Unit × zS) :=
  let s_2 := zu σ 143 21 0
  let s_7 := zu s_2 143 22 (-1)
  some ((), s_7)
set_option maxHeartbeats 4000000 in
theorem g_m_begins_ok {xl : Nat} {xs : Nat → Int32} {σ : zS} {p : Nat} {m : zM} {o : Unit × zS} (H : zRep xl xs p m σ) (h : g_m_begins σ = some o) : zGo xl xs (fun p' => p = p') 1 222 0 (z_can 222 0 (lv_args 0 [.ref 143])) [] m vV o.2 := by
  have hq : z_mth 222 = some z_r222 := rfl
  unfold g_m_begins at h
  show zGo xl xs (fun p' => p = p') 1 222 0 [(0, .ref 143)] [] m vV o.2
  refine r_p hq 2 (pc' := 2) (L' := [(0, .ref 143)]) (st' := [.int ((0 : Int32)), .ref 143]) rfl ?_
  refine r_pI (X := (0 : Int32)) (pc' := 5) (L' := [(0, .ref 143)]) H hq (z_at.mk 3 rfl rfl) rfl rfl (rfl : (0 : Int32).toInt = 0) (by decide) rfl rfl rfl rfl ?_
  intro m_2 H_2
  refine r_p hq 2 (pc' := 7) (L' := [(0, .ref 143)]) (st' := [.int ((-1 : Int32)), .ref 143]) rfl ?_
  refine r_pI (X := (-1 : Int32)) (pc' := 10) (L' := [(0, .ref 143)]) H_2 hq (z_at.mk 3 rfl rfl) rfl rfl (rfl : (-1 : Int32).toInt = -1) (by decide) rfl rfl rfl rfl ?_
  intro m_7 H_7
  cases h
  exact r_rv hq (z_at.mk 1 rfl rfl) rfl rfl H_7
def g_m_settings_L105 : Nat → Int → Int → zS → Option (Int × zS)
  | 0, _, _, _ => none
  | n + 1, x1, x3, σ =>
    if 7 ≤ x3 then
      (g_m_trims σ).bind fun o_133 =>
      some (x1, o_133.2)
    else
      if 0 ≤ x3 ∧ x3 < 7 then
      let v_124 := σ 160 x3
      if 0 ≤ w32 (11 + x3) ∧ w32 (11 + x3) < 2740 then
      let s_125 := zu σ 144 (w32 (11 + x3)) v_124
      (g_m_settings_L105 n) x1 (w32 (x3 + 1)) s_125
      else none
      else none
set_option maxHeartbeats 4000000 in
theorem g_m_settings_L105_ok {xl : Nat} {xs : Nat → Int32} : ∀ (n : Nat) {X1 : Int32} {x1 : Int} {X3 : Int32} {x3 : Int} {σ : zS} {p : Nat} {m : zM} {o : Int × zS}, X1.toInt = x1 → X3.toInt = x3 → zRep xl xs p m σ → g_m_settings_L105 n x1 x3 σ = some o → zGo xl xs (fun p' => p = p') 7 220 105 [(0, .ref 143), (1, .int X1), (3, .int X3)] [] m (vI o.1) o.2
  | 0, _, _, _, _, _, _, _, _, _, _, _, h => by cases h
  | n + 1, X1, x1, X3, x3, σ, p, m, o, hx1, hx3, H, h => by
    have hq : z_mth 220 = some z_r220 := rfl
    have ih := fun {X1 : Int32} {x1 : Int} {X3 : Int32} {x3 : Int} {σ : zS} {p : Nat} {m : zM} {o : Int × zS} => g_m_settings_L105_ok (xl := xl) (xs := xs) n (X1 := X1) (x1 := x1) (X3 := X3) (x3 := x3) (σ := σ) (p := p) (m := m) (o := o)
    unfold g_m_settings_L105 at h
    refine r_p hq 2 (pc' := 108) (L' := [(0, .ref 143), (1, .int X1), (3, .int X3)]) (st' := [.int ((7 : Int32)), .int X3]) rfl ?_
    rcases z_ite h with ⟨c_108, h⟩ | ⟨c_108, h⟩
    · refine r_t2 (pc' := 132) (L' := [(0, .ref 143), (1, .int X1), (3, .int X3)]) hq (z_at.mk 3 rfl rfl) rfl hx3 (rfl : (7 : Int32).toInt = 7) c_108 rfl rfl ?_
      refine r_p hq 1 (pc' := 133) (L' := [(0, .ref 143), (1, .int X1), (3, .int X3)]) (st' := [.ref 143]) rfl ?_
      obtain ⟨o_133, h_133, h⟩ := Option.bind_eq_some_iff.mp h
      refine r_cvV (pc' := 136) (L' := [(0, .ref 143), (1, .int X1), (3, .int X3)]) (Ps := []) (rest := []) hq (z_at.mk 3 rfl rfl) (Or.inl ⟨rfl, rfl⟩) rfl rfl (by decide) (by decide) rfl (Nat.not_lt.mpr (Nat.le_of_ble_eq_true rfl)) rfl rfl (z_cat_le 0 rfl (by decide)) (z_lgl_le 1 rfl (by decide)) (by decide) (H.tg rfl) (by omega) (g_m_trims_ok H h_133) rfl rfl ?_
      intro m_133 p_133 e_133 H_133
      subst e_133
      refine r_p hq 1 (pc' := 137) (L' := [(0, .ref 143), (1, .int X1), (3, .int X3)]) (st' := [.int X1]) rfl ?_
      cases h
      exact r_ri hq (z_at.mk 1 rfl rfl) rfl rfl hx1 rfl H_133
    · refine r_f2 (pc' := 111) (L' := [(0, .ref 143), (1, .int X1), (3, .int X3)]) hq (z_at.mk 3 rfl rfl) rfl hx3 (rfl : (7 : Int32).toInt = 7) c_108 rfl rfl ?_
      refine r_p hq 1 (pc' := 112) (L' := [(0, .ref 143), (1, .int X1), (3, .int X3)]) (st' := [.ref 143]) rfl ?_
      refine r_gR (b := 144) (pc' := 115) (L' := [(0, .ref 143), (1, .int X1), (3, .int X3)]) H hq (z_at.mk 3 rfl rfl) rfl rfl rfl rfl ?_
      refine r_p hq 4 (pc' := 120) (L' := [(0, .ref 143), (1, .int X1), (3, .int X3)]) (st' := [.ref 143, .int (((11 : Int32)) + X3), .ref 144]) rfl ?_
      refine r_gR (b := 160) (pc' := 123) (L' := [(0, .ref 143), (1, .int X1), (3, .int X3)]) H hq (z_at.mk 3 rfl rfl) rfl rfl rfl rfl ?_
      refine r_p hq 1 (pc' := 124) (L' := [(0, .ref 143), (1, .int X1), (3, .int X3)]) (st' := [.int X3, .ref 160, .int (((11 : Int32)) + X3), .ref 144]) rfl ?_
      obtain ⟨g_124, h⟩ := z_ifo_some h
      refine r_ia (pc' := 125) (L' := [(0, .ref 143), (1, .int X1), (3, .int X3)]) H hq (z_at.mk 1 rfl rfl) (show zAr 160 0 7 = true from rfl) hx3 g_124 rfl rfl ?_
      intro V_124 hV_124
      obtain ⟨g_125, h⟩ := z_ifo_some h
      refine r_is (pc' := 126) (L' := [(0, .ref 143), (1, .int X1), (3, .int X3)]) H hq (z_at.mk 1 rfl rfl) (show zAr 144 0 2740 = true from rfl) (tx_iadd (rfl : (11 : Int32).toInt = 11) hx3) g_125 hV_124 rfl rfl ?_
      intro m_125 H_125
      refine r_p hq 2 (pc' := 105) (L' := [(0, .ref 143), (1, .int X1), (3, .int (X3 + (1 : Int32)))]) (st' := []) rfl ?_
      exact ih hx1 (tx_iadd hx3 (rfl : (1 : Int32).toInt = 1)) H_125 h
def g_m_settings_L69 (g37 : Int → Int → zS → Option (Int × zS)) (x1 : Int) (x2 : Int) (σ : zS) : Option (Int × zS) :=
  if x2 = 0 then
    g37 x1 x2 σ
  else
    (g_m_isSign 59 σ).bind fun o_76 =>
    g37 x1 o_76.1 o_76.2
set_option maxHeartbeats 4000000 in
theorem g_m_settings_L69_ok {xl : Nat} {xs : Nat → Int32} {g37 : Int → Int → zS → Option (Int × zS)} (hg37 : ∀ {X1 : Int32} {x1 : Int} {X2 : Int32} {x2 : Int} {σ : zS} {p : Nat} {m : zM} {o : Int × zS}, X1.toInt = x1 → X2.toInt = x2 → zRep xl xs p m σ → g37 x1 x2 σ = some o → zGo xl xs (fun p' => p = p') 7 220 37 [(0, .ref 143), (1, .int X1), (2, .int X2)] [] m (vI o.1) o.2) {X1 : Int32} {x1 : Int} (hx1 : X1.toInt = x1) {X2 : Int32} {x2 : Int} (hx2 : X2.toInt = x2) {σ : zS} {p : Nat} {m : zM} {o : Int × zS} (H : zRep xl xs p m σ) (h : g_m_settings_L69 g37 x1 x2 σ = some o) : zGo xl xs (fun p' => p = p') 7 220 69 [(0, .ref 143), (1, .int X1), (2, .int X2)] [] m (vI o.1) o.2 := by
  have hq : z_mth 220 = some z_r220 := rfl
  unfold g_m_settings_L69 at h
  refine r_p hq 1 (pc' := 70) (L' := [(0, .ref 143), (1, .int X1), (2, .int X2)]) (st' := [.int X2]) rfl ?_
  rcases z_ite h with ⟨c_70, h⟩ | ⟨c_70, h⟩
  · refine r_t1 (pc' := 37) (L' := [(0, .ref 143), (1, .int X1), (2, .int X2)]) hq (z_at.mk 3 rfl rfl) rfl hx2 c_70 rfl rfl ?_
    exact hg37 hx1 hx2 H h
  · refine r_f1 (pc' := 73) (L' := [(0, .ref 143), (1, .int X1), (2, .int X2)]) hq (z_at.mk 3 rfl rfl) rfl hx2 c_70 rfl rfl ?_
    refine r_p hq 2 (pc' := 76) (L' := [(0, .ref 143), (1, .int X1), (2, .int X2)]) (st' := [.int ((59 : Int32)), .ref 143]) rfl ?_
    obtain ⟨o_76, h_76, h⟩ := Option.bind_eq_some_iff.mp h
    refine r_cvI (pc' := 79) (L' := [(0, .ref 143), (1, .int X1), (2, .int X2)]) (Ps := [.int ((59 : Int32))]) (rest := []) hq (z_at.mk 3 rfl rfl) (Or.inl ⟨rfl, rfl⟩) rfl rfl (by decide) (by decide) rfl (Nat.not_lt.mpr (Nat.le_of_ble_eq_true rfl)) rfl rfl (z_cat_le 0 rfl (by decide)) (z_lgl_le 2 rfl (by decide)) (by decide) (H.tg rfl) (by omega) (g_m_isSign_ok (rfl : (59 : Int32).toInt = 59) H h_76) rfl rfl ?_
    intro R_76 m_76 p_76 e_76 hR_76 H_76
    subst e_76
    refine r_p hq 2 (pc' := 37) (L' := [(0, .ref 143), (1, .int X1), (2, .int R_76)]) (st' := []) rfl ?_
    exact hg37 hx1 hR_76 H_76 h
def g_m_settings_L37 : Nat → Int → Int → zS → Option (Int × zS)
  | 0, _, _, _ => none
  | n + 1, x1, x2, σ =>
    if x2 = 0 then
      let s_85 := zu σ 143 20 0
      let v_89 := s_85 143 22
      if v_89 < 0 then
        g_m_settings_L105 zK x1 0 s_85
      else
        let v_98 := s_85 143 22
        some (w32 ((-100) - v_98), s_85)
    else
      (g_m_isSetting σ).bind fun o_42 =>
      if o_42.1 = 0 then
        g_m_settings_L69 ((g_m_settings_L37 n)) (w32 (x1 + 1)) o_42.1 o_42.2
      else
        let v_54 := o_42.2 143 21
        let v_58 := o_42.2 143 20
        if v_54 ≠ v_58 then
          g_m_settings_L69 ((g_m_settings_L37 n)) (w32 (x1 + 1)) o_42.1 o_42.2
        else
          (g_m_settings_L37 n) (w32 (x1 + 1)) 0 o_42.2
set_option maxHeartbeats 4000000 in
theorem g_m_settings_L37_ok {xl : Nat} {xs : Nat → Int32} : ∀ (n : Nat) {X1 : Int32} {x1 : Int} {X2 : Int32} {x2 : Int} {σ : zS} {p : Nat} {m : zM} {o : Int × zS}, X1.toInt = x1 → X2.toInt = x2 → zRep xl xs p m σ → g_m_settings_L37 n x1 x2 σ = some o → zGo xl xs (fun p' => p = p') 7 220 37 [(0, .ref 143), (1, .int X1), (2, .int X2)] [] m (vI o.1) o.2
  | 0, _, _, _, _, _, _, _, _, _, _, _, h => by cases h
  | n + 1, X1, x1, X2, x2, σ, p, m, o, hx1, hx2, H, h => by
    have hq : z_mth 220 = some z_r220 := rfl
    have ih := fun {X1 : Int32} {x1 : Int} {X2 : Int32} {x2 : Int} {σ : zS} {p : Nat} {m : zM} {o : Int × zS} => g_m_settings_L37_ok (xl := xl) (xs := xs) n (X1 := X1) (x1 := x1) (X2 := X2) (x2 := x2) (σ := σ) (p := p) (m := m) (o := o)
    unfold g_m_settings_L37 at h
    refine r_p hq 1 (pc' := 38) (L' := [(0, .ref 143), (1, .int X1), (2, .int X2)]) (st' := [.int X2]) rfl ?_
    rcases z_ite h with ⟨c_38, h⟩ | ⟨c_38, h⟩
    · refine r_t1 (pc' := 83) (L' := [(0, .ref 143), (1, .int X1), (2, .int X2)]) hq (z_at.mk 3 rfl rfl) rfl hx2 c_38 rfl rfl ?_
      refine r_p hq 2 (pc' := 85) (L' := [(0, .ref 143), (1, .int X1), (2, .int X2)]) (st' := [.int ((0 : Int32)), .ref 143]) rfl ?_
      refine r_pI (X := (0 : Int32)) (pc' := 88) (L' := [(0, .ref 143), (1, .int X1), (2, .int X2)]) H hq (z_at.mk 3 rfl rfl) rfl rfl (rfl : (0 : Int32).toInt = 0) (by decide) rfl rfl rfl rfl ?_
      intro m_85 H_85
      refine r_p hq 1 (pc' := 89) (L' := [(0, .ref 143), (1, .int X1), (2, .int X2)]) (st' := [.ref 143]) rfl ?_
      refine r_gI (pc' := 92) (L' := [(0, .ref 143), (1, .int X1), (2, .int X2)]) H_85 hq (z_at.mk 3 rfl rfl) rfl rfl rfl rfl ?_
      intro V_89 hV_89
      rcases z_ite h with ⟨c_92, h⟩ | ⟨c_92, h⟩
      · refine r_t1 (pc' := 103) (L' := [(0, .ref 143), (1, .int X1), (2, .int X2)]) hq (z_at.mk 3 rfl rfl) rfl hV_89 c_92 rfl rfl ?_
        refine r_p hq 2 (pc' := 105) (L' := [(0, .ref 143), (1, .int X1), (3, .int ((0 : Int32)))]) (st' := []) rfl ?_
        exact g_m_settings_L105_ok zK hx1 (rfl : (0 : Int32).toInt = 0) H_85 h
      · refine r_f1 (pc' := 95) (L' := [(0, .ref 143), (1, .int X1), (2, .int X2)]) hq (z_at.mk 3 rfl rfl) rfl hV_89 c_92 rfl rfl ?_
        refine r_p hq 2 (pc' := 98) (L' := [(0, .ref 143), (1, .int X1), (2, .int X2)]) (st' := [.ref 143, .int ((-100 : Int32))]) rfl ?_
        refine r_gI (pc' := 101) (L' := [(0, .ref 143), (1, .int X1), (2, .int X2)]) H_85 hq (z_at.mk 3 rfl rfl) rfl rfl rfl rfl ?_
        intro V_98 hV_98
        refine r_p hq 1 (pc' := 102) (L' := [(0, .ref 143), (1, .int X1), (2, .int X2)]) (st' := [.int (((-100 : Int32)) - V_98)]) rfl ?_
        cases h
        exact r_ri hq (z_at.mk 1 rfl rfl) rfl rfl (tx_isub (rfl : (-100 : Int32).toInt = -100) hV_98) rfl H_85
    · refine r_f1 (pc' := 41) (L' := [(0, .ref 143), (1, .int X1), (2, .int X2)]) hq (z_at.mk 3 rfl rfl) rfl hx2 c_38 rfl rfl ?_
      refine r_p hq 1 (pc' := 42) (L' := [(0, .ref 143), (1, .int X1), (2, .int X2)]) (st' := [.ref 143]) rfl ?_
      obtain ⟨o_42, h_42, h⟩ := Option.bind_eq_some_iff.mp h
      refine r_cvI (pc' := 45) (L' := [(0, .ref 143), (1, .int X1), (2, .int X2)]) (Ps := []) (rest := []) hq (z_at.mk 3 rfl rfl) (Or.inl ⟨rfl, rfl⟩) rfl rfl (by decide) (by decide) rfl (Nat.not_lt.mpr (Nat.le_of_ble_eq_true rfl)) rfl rfl (z_cat_le 0 rfl (by decide)) (z_lgl_le 1 rfl (by decide)) (by decide) (H.tg rfl) (by omega) (g_m_isSetting_ok H h_42) rfl rfl ?_
      intro R_42 m_42 p_42 e_42 hR_42 H_42
      subst e_42
      refine r_p hq 3 (pc' := 50) (L' := [(1, .int (X1 + (1 : Int32))), (2, .int R_42), (0, .ref 143)]) (st' := [.int R_42]) rfl ?_
      rcases z_ite h with ⟨c_50, h⟩ | ⟨c_50, h⟩
      · refine r_t1 (pc' := 69) (L' := [(0, .ref 143), (1, .int (X1 + (1 : Int32))), (2, .int R_42)]) hq (z_at.mk 3 rfl rfl) rfl hR_42 c_50 rfl rfl ?_
        exact g_m_settings_L69_ok ih (tx_iadd hx1 (rfl : (1 : Int32).toInt = 1)) hR_42 H_42 h
      · refine r_f1 (pc' := 53) (L' := [(1, .int (X1 + (1 : Int32))), (2, .int R_42), (0, .ref 143)]) hq (z_at.mk 3 rfl rfl) rfl hR_42 c_50 rfl rfl ?_
        refine r_p hq 1 (pc' := 54) (L' := [(1, .int (X1 + (1 : Int32))), (2, .int R_42), (0, .ref 143)]) (st' := [.ref 143]) rfl ?_
        refine r_gI (pc' := 57) (L' := [(1, .int (X1 + (1 : Int32))), (2, .int R_42), (0, .ref 143)]) H_42 hq (z_at.mk 3 rfl rfl) rfl rfl rfl rfl ?_
        intro V_54 hV_54
        refine r_p hq 1 (pc' := 58) (L' := [(1, .int (X1 + (1 : Int32))), (2, .int R_42), (0, .ref 143)]) (st' := [.ref 143, .int V_54]) rfl ?_
        refine r_gI (pc' := 61) (L' := [(1, .int (X1 + (1 : Int32))), (2, .int R_42), (0, .ref 143)]) H_42 hq (z_at.mk 3 rfl rfl) rfl rfl rfl rfl ?_
        intro V_58 hV_58
        rcases z_ite h with ⟨c_61, h⟩ | ⟨c_61, h⟩
        · refine r_t2 (pc' := 69) (L' := [(0, .ref 143), (1, .int (X1 + (1 : Int32))), (2, .int R_42)]) hq (z_at.mk 3 rfl rfl) rfl hV_54 hV_58 c_61 rfl rfl ?_
          exact g_m_settings_L69_ok ih (tx_iadd hx1 (rfl : (1 : Int32).toInt = 1)) hR_42 H_42 h
        · refine r_f2 (pc' := 64) (L' := [(1, .int (X1 + (1 : Int32))), (2, .int R_42), (0, .ref 143)]) hq (z_at.mk 3 rfl rfl) rfl hV_54 hV_58 c_61 rfl rfl ?_
          refine r_p hq 3 (pc' := 37) (L' := [(0, .ref 143), (1, .int (X1 + (1 : Int32))), (2, .int ((0 : Int32)))]) (st' := []) rfl ?_
          exact ih (tx_iadd hx1 (rfl : (1 : Int32).toInt = 1)) (rfl : (0 : Int32).toInt = 0) H_42 h
def g_m_settings_L2 : Nat → Int → zS → Option (Int × zS)
  | 0, _, _ => none
  | n + 1, x1, σ =>
    if 7 ≤ x1 then
      (g_m_begins σ).bind fun o_30 =>
      g_m_settings_L37 zK 0 1 o_30.2
    else
      if 0 ≤ w32 (11 + x1) ∧ w32 (11 + x1) < 2740 then
      let v_21 := σ 144 (w32 (11 + x1))
      if 0 ≤ x1 ∧ x1 < 7 then
      let s_22 := zu σ 160 x1 v_21
      (g_m_settings_L2 n) (w32 (x1 + 1)) s_22
      else none
      else none
set_option maxHeartbeats 4000000 in
theorem g_m_settings_L2_ok {xl : Nat} {xs : Nat → Int32} : ∀ (n : Nat) {X1 : Int32} {x1 : Int} {σ : zS} {p : Nat} {m : zM} {o : Int × zS}, X1.toInt = x1 → zRep xl xs p m σ → g_m_settings_L2 n x1 σ = some o → zGo xl xs (fun p' => p = p') 7 220 2 [(0, .ref 143), (1, .int X1)] [] m (vI o.1) o.2
  | 0, _, _, _, _, _, _, _, _, h => by cases h
  | n + 1, X1, x1, σ, p, m, o, hx1, H, h => by
    have hq : z_mth 220 = some z_r220 := rfl
    have ih := fun {X1 : Int32} {x1 : Int} {σ : zS} {p : Nat} {m : zM} {o : Int × zS} => g_m_settings_L2_ok (xl := xl) (xs := xs) n (X1 := X1) (x1 := x1) (σ := σ) (p := p) (m := m) (o := o)
    unfold g_m_settings_L2 at h
    refine r_p hq 2 (pc' := 5) (L' := [(0, .ref 143), (1, .int X1)]) (st' := [.int ((7 : Int32)), .int X1]) rfl ?_
    rcases z_ite h with ⟨c_5, h⟩ | ⟨c_5, h⟩
    · refine r_t2 (pc' := 29) (L' := [(0, .ref 143), (1, .int X1)]) hq (z_at.mk 3 rfl rfl) rfl hx1 (rfl : (7 : Int32).toInt = 7) c_5 rfl rfl ?_
      refine r_p hq 1 (pc' := 30) (L' := [(0, .ref 143), (1, .int X1)]) (st' := [.ref 143]) rfl ?_
      obtain ⟨o_30, h_30, h⟩ := Option.bind_eq_some_iff.mp h
      refine r_cvV (pc' := 33) (L' := [(0, .ref 143), (1, .int X1)]) (Ps := []) (rest := []) hq (z_at.mk 3 rfl rfl) (Or.inl ⟨rfl, rfl⟩) rfl rfl (by decide) (by decide) rfl (Nat.not_lt.mpr (Nat.le_of_ble_eq_true rfl)) rfl rfl (z_cat_le 0 rfl (by decide)) (z_lgl_le 1 rfl (by decide)) (by decide) (H.tg rfl) (by omega) (g_m_begins_ok H h_30) rfl rfl ?_
      intro m_30 p_30 e_30 H_30
      subst e_30
      refine r_p hq 4 (pc' := 37) (L' := [(0, .ref 143), (1, .int ((0 : Int32))), (2, .int ((1 : Int32)))]) (st' := []) rfl ?_
      exact g_m_settings_L37_ok zK (rfl : (0 : Int32).toInt = 0) (rfl : (1 : Int32).toInt = 1) H_30 h
    · refine r_f2 (pc' := 8) (L' := [(0, .ref 143), (1, .int X1)]) hq (z_at.mk 3 rfl rfl) rfl hx1 (rfl : (7 : Int32).toInt = 7) c_5 rfl rfl ?_
      refine r_p hq 1 (pc' := 9) (L' := [(0, .ref 143), (1, .int X1)]) (st' := [.ref 143]) rfl ?_
      refine r_gR (b := 160) (pc' := 12) (L' := [(0, .ref 143), (1, .int X1)]) H hq (z_at.mk 3 rfl rfl) rfl rfl rfl rfl ?_
      refine r_p hq 2 (pc' := 14) (L' := [(0, .ref 143), (1, .int X1)]) (st' := [.ref 143, .int X1, .ref 160]) rfl ?_
      refine r_gR (b := 144) (pc' := 17) (L' := [(0, .ref 143), (1, .int X1)]) H hq (z_at.mk 3 rfl rfl) rfl rfl rfl rfl ?_
      refine r_p hq 3 (pc' := 21) (L' := [(0, .ref 143), (1, .int X1)]) (st' := [.int (((11 : Int32)) + X1), .ref 144, .int X1, .ref 160]) rfl ?_
      obtain ⟨g_21, h⟩ := z_ifo_some h
      refine r_ia (pc' := 22) (L' := [(0, .ref 143), (1, .int X1)]) H hq (z_at.mk 1 rfl rfl) (show zAr 144 0 2740 = true from rfl) (tx_iadd (rfl : (11 : Int32).toInt = 11) hx1) g_21 rfl rfl ?_
      intro V_21 hV_21
      obtain ⟨g_22, h⟩ := z_ifo_some h
      refine r_is (pc' := 23) (L' := [(0, .ref 143), (1, .int X1)]) H hq (z_at.mk 1 rfl rfl) (show zAr 160 0 7 = true from rfl) hx1 g_22 hV_21 rfl rfl ?_
      intro m_22 H_22
      refine r_p hq 2 (pc' := 2) (L' := [(0, .ref 143), (1, .int (X1 + (1 : Int32)))]) (st' := []) rfl ?_
      exact ih (tx_iadd hx1 (rfl : (1 : Int32).toInt = 1)) H_22 h
def g_m_settings (σ : zS) : Option (Int × zS) :=
  g_m_settings_L2 zK 0 σ
set_option maxHeartbeats 4000000 in
theorem g_m_settings_ok {xl : Nat} {xs : Nat → Int32} {σ : zS} {p : Nat} {m : zM} {o : Int × zS} (H : zRep xl xs p m σ) (h : g_m_settings σ = some o) : zGo xl xs (fun p' => p = p') 7 220 0 (z_can 220 0 (lv_args 0 [.ref 143])) [] m (vI o.1) o.2 := by
  have hq : z_mth 220 = some z_r220 := rfl
  unfold g_m_settings at h
  show zGo xl xs (fun p' => p = p') 7 220 0 [(0, .ref 143)] [] m (vI o.1) o.2
  refine r_p hq 2 (pc' := 2) (L' := [(0, .ref 143), (1, .int ((0 : Int32)))]) (st' := []) rfl ?_
  exact g_m_settings_L2_ok zK (rfl : (0 : Int32).toInt = 0) H h
def g_m_setting (x1 : Int) (σ : zS) : Option (Int × zS) :=
  (g_m_isIn x1 0 6 σ).bind fun o_4 =>
  if o_4.1 = 0 then
    some (-1, o_4.2)
  else
    if 0 ≤ w32 (11 + x1) ∧ w32 (11 + x1) < 2740 then
    let v_18 := o_4.2 144 (w32 (11 + x1))
    some (v_18, o_4.2)
    else none
set_option maxHeartbeats 4000000 in
theorem g_m_setting_ok {xl : Nat} {xs : Nat → Int32} {X1 : Int32} {x1 : Int} (hx1 : X1.toInt = x1) {σ : zS} {p : Nat} {m : zM} {o : Int × zS} (H : zRep xl xs p m σ) (h : g_m_setting x1 σ = some o) : zGo xl xs (fun p' => p = p') 2 221 0 (z_can 221 0 (lv_args 0 [.ref 143, .int X1])) [] m (vI o.1) o.2 := by
  have hq : z_mth 221 = some z_r221 := rfl
  unfold g_m_setting at h
  show zGo xl xs (fun p' => p = p') 2 221 0 [(0, .ref 143), (1, .int X1)] [] m (vI o.1) o.2
  refine r_p hq 3 (pc' := 4) (L' := [(0, .ref 143), (1, .int X1)]) (st' := [.int ((6 : Int32)), .int ((0 : Int32)), .int X1]) rfl ?_
  obtain ⟨o_4, h_4, h⟩ := Option.bind_eq_some_iff.mp h
  refine r_csI (pc' := 7) (L' := [(0, .ref 143), (1, .int X1)]) (As := [.int X1, .int ((0 : Int32)), .int ((6 : Int32))]) (rest := []) (j := 159) hq (z_at.mk 3 rfl rfl) (Or.inl ⟨rfl, rfl⟩) rfl rfl (by omega) (g_m_isIn_ok hx1 (rfl : (0 : Int32).toInt = 0) (rfl : (6 : Int32).toInt = 6) H h_4) rfl rfl ?_
  intro R_4 m_4 p_4 e_4 hR_4 H_4
  subst e_4
  rcases z_ite h with ⟨c_7, h⟩ | ⟨c_7, h⟩
  · refine r_t1 (pc' := 22) (L' := [(0, .ref 143), (1, .int X1)]) hq (z_at.mk 3 rfl rfl) rfl hR_4 c_7 rfl rfl ?_
    refine r_p hq 1 (pc' := 23) (L' := []) (st' := [.int ((-1 : Int32))]) rfl ?_
    cases h
    exact r_ri hq (z_at.mk 1 rfl rfl) rfl rfl (rfl : (-1 : Int32).toInt = -1) rfl H_4
  · refine r_f1 (pc' := 10) (L' := [(0, .ref 143), (1, .int X1)]) hq (z_at.mk 3 rfl rfl) rfl hR_4 c_7 rfl rfl ?_
    refine r_p hq 1 (pc' := 11) (L' := [(0, .ref 143), (1, .int X1)]) (st' := [.ref 143]) rfl ?_
    refine r_gR (b := 144) (pc' := 14) (L' := [(0, .ref 143), (1, .int X1)]) H_4 hq (z_at.mk 3 rfl rfl) rfl rfl rfl rfl ?_
    refine r_p hq 3 (pc' := 18) (L' := [(0, .ref 143), (1, .int X1)]) (st' := [.int (((11 : Int32)) + X1), .ref 144]) rfl ?_
    obtain ⟨g_18, h⟩ := z_ifo_some h
    refine r_ia (pc' := 19) (L' := [(0, .ref 143), (1, .int X1)]) H_4 hq (z_at.mk 1 rfl rfl) (show zAr 144 0 2740 = true from rfl) (tx_iadd (rfl : (11 : Int32).toInt = 11) hx1) g_18 rfl rfl ?_
    intro V_18 hV_18
    refine r_p hq 1 (pc' := 23) (L' := []) (st' := [.int V_18]) rfl ?_
    cases h
    exact r_ri hq (z_at.mk 1 rfl rfl) rfl rfl hV_18 rfl H_4
def g_m_isRange (x1 : Int) (σ : zS) : Option (Int × zS) :=
  if 0 ≤ x1 ∧ x1 < 48 then
  let s_6 := zu σ 161 x1 0
  if 0 ≤ w32 (x1 + 1) ∧ w32 (x1 + 1) < 48 then
  let s_16 := zu s_6 161 (w32 (x1 + 1)) 31
  (g_m_here s_16).bind fun o_18 =>
  if o_18.1 ≠ 42 then
    (g_m_isNumber 2 0 31 o_18.2).bind fun o_43 =>
    if o_43.1 ≠ 0 then
      let v_57 := o_43.2 143 23
      if 0 ≤ x1 ∧ x1 < 48 then
      let s_60 := zu o_43.2 161 x1 v_57
      let v_69 := s_60 143 23
      if 0 ≤ w32 (x1 + 1) ∧ w32 (x1 + 1) < 48 then
      let s_72 := zu s_60 161 (w32 (x1 + 1)) v_69
      (g_m_here s_72).bind fun o_74 =>
      if o_74.1 = 45 then
        let v_86 := o_74.2 143 21
        let s_91 := zu o_74.2 143 21 (w32 (v_86 + 1))
        if 0 ≤ x1 ∧ x1 < 48 then
        let v_101 := s_91 161 x1
        (g_m_isNumber 2 v_101 31 s_91).bind fun o_104 =>
        if o_104.1 ≠ 0 then
          let v_120 := o_104.2 143 23
          if 0 ≤ w32 (x1 + 1) ∧ w32 (x1 + 1) < 48 then
          let s_123 := zu o_104.2 161 (w32 (x1 + 1)) v_120
          some (1, s_123)
          else none
        else
          some (0, o_104.2)
        else none
      else
        some (1, o_74.2)
      else none
      else none
    else
      some (0, o_43.2)
  else
    let v_28 := o_18.2 143 21
    let s_33 := zu o_18.2 143 21 (w32 (v_28 + 1))
    some (1, s_33)
  else none
  else none
set_option maxHeartbeats 4000000 in
theorem g_m_isRange_ok {xl : Nat} {xs : Nat → Int32} {X1 : Int32} {x1 : Int} (hx1 : X1.toInt = x1) {σ : zS} {p : Nat} {m : zM} {o : Int × zS} (H : zRep xl xs p m σ) (h : g_m_isRange x1 σ = some o) : zGo xl xs (fun p' => p = p') 4 223 0 (z_can 223 0 (lv_args 0 [.ref 143, .int X1])) [] m (vI o.1) o.2 := by
  have hq : z_mth 223 = some z_r223 := rfl
  unfold g_m_isRange at h
  show zGo xl xs (fun p' => p = p') 4 223 0 [(0, .ref 143), (1, .int X1)] [] m (vI o.1) o.2
  refine r_p hq 1 (pc' := 1) (L' := [(0, .ref 143), (1, .int X1)]) (st' := [.ref 143]) rfl ?_
  refine r_gR (b := 161) (pc' := 4) (L' := [(0, .ref 143), (1, .int X1)]) H hq (z_at.mk 3 rfl rfl) rfl rfl rfl rfl ?_
  refine r_p hq 2 (pc' := 6) (L' := [(0, .ref 143), (1, .int X1)]) (st' := [.int ((0 : Int32)), .int X1, .ref 161]) rfl ?_
  obtain ⟨g_6, h⟩ := z_ifo_some h
  refine r_is (pc' := 7) (L' := [(0, .ref 143), (1, .int X1)]) H hq (z_at.mk 1 rfl rfl) (show zAr 161 0 48 = true from rfl) hx1 g_6 (rfl : (0 : Int32).toInt = 0) rfl rfl ?_
  intro m_6 H_6
  refine r_p hq 1 (pc' := 8) (L' := [(0, .ref 143), (1, .int X1)]) (st' := [.ref 143]) rfl ?_
  refine r_gR (b := 161) (pc' := 11) (L' := [(0, .ref 143), (1, .int X1)]) H_6 hq (z_at.mk 3 rfl rfl) rfl rfl rfl rfl ?_
  refine r_p hq 4 (pc' := 16) (L' := [(0, .ref 143), (1, .int X1)]) (st' := [.int ((31 : Int32)), .int (X1 + ((1 : Int32))), .ref 161]) rfl ?_
  obtain ⟨g_16, h⟩ := z_ifo_some h
  refine r_is (pc' := 17) (L' := [(0, .ref 143), (1, .int X1)]) H_6 hq (z_at.mk 1 rfl rfl) (show zAr 161 0 48 = true from rfl) (tx_iadd hx1 (rfl : (1 : Int32).toInt = 1)) g_16 (rfl : (31 : Int32).toInt = 31) rfl rfl ?_
  intro m_16 H_16
  refine r_p hq 1 (pc' := 18) (L' := [(0, .ref 143), (1, .int X1)]) (st' := [.ref 143]) rfl ?_
  obtain ⟨o_18, h_18, h⟩ := Option.bind_eq_some_iff.mp h
  refine r_cvI (pc' := 21) (L' := [(0, .ref 143), (1, .int X1)]) (Ps := []) (rest := []) hq (z_at.mk 3 rfl rfl) (Or.inl ⟨rfl, rfl⟩) rfl rfl (by decide) (by decide) rfl (Nat.not_lt.mpr (Nat.le_of_ble_eq_true rfl)) rfl rfl (z_cat_le 0 rfl (by decide)) (z_lgl_le 1 rfl (by decide)) (by decide) (H_16.tg rfl) (by omega) (g_m_here_ok H_16 h_18) rfl rfl ?_
  intro R_18 m_18 p_18 e_18 hR_18 H_18
  subst e_18
  refine r_p hq 1 (pc' := 23) (L' := [(0, .ref 143), (1, .int X1)]) (st' := [.int ((42 : Int32)), .int R_18]) rfl ?_
  rcases z_ite h with ⟨c_23, h⟩ | ⟨c_23, h⟩
  · refine r_t2 (pc' := 38) (L' := [(0, .ref 143), (1, .int X1)]) hq (z_at.mk 3 rfl rfl) rfl hR_18 (rfl : (42 : Int32).toInt = 42) c_23 rfl rfl ?_
    refine r_p hq 4 (pc' := 43) (L' := [(0, .ref 143), (1, .int X1)]) (st' := [.int ((31 : Int32)), .int ((0 : Int32)), .int ((2 : Int32)), .ref 143]) rfl ?_
    obtain ⟨o_43, h_43, h⟩ := Option.bind_eq_some_iff.mp h
    refine r_cvI (pc' := 46) (L' := [(0, .ref 143), (1, .int X1)]) (Ps := [.int ((2 : Int32)), .int ((0 : Int32)), .int ((31 : Int32))]) (rest := []) hq (z_at.mk 3 rfl rfl) (Or.inl ⟨rfl, rfl⟩) rfl rfl (by decide) (by decide) rfl (Nat.not_lt.mpr (Nat.le_of_ble_eq_true rfl)) rfl rfl (z_cat_le 0 rfl (by decide)) (z_lgl_le 4 rfl (by decide)) (by decide) (H_18.tg rfl) (by omega) (g_m_isNumber_ok (rfl : (2 : Int32).toInt = 2) (rfl : (0 : Int32).toInt = 0) (rfl : (31 : Int32).toInt = 31) H_18 h_43) rfl rfl ?_
    intro R_43 m_43 p_43 e_43 hR_43 H_43
    subst e_43
    rcases z_ite h with ⟨c_46, h⟩ | ⟨c_46, h⟩
    · refine r_t1 (pc' := 51) (L' := [(0, .ref 143), (1, .int X1)]) hq (z_at.mk 3 rfl rfl) rfl hR_43 c_46 rfl rfl ?_
      refine r_p hq 1 (pc' := 52) (L' := [(0, .ref 143), (1, .int X1)]) (st' := [.ref 143]) rfl ?_
      refine r_gR (b := 161) (pc' := 55) (L' := [(0, .ref 143), (1, .int X1)]) H_43 hq (z_at.mk 3 rfl rfl) rfl rfl rfl rfl ?_
      refine r_p hq 2 (pc' := 57) (L' := [(0, .ref 143), (1, .int X1)]) (st' := [.ref 143, .int X1, .ref 161]) rfl ?_
      refine r_gI (pc' := 60) (L' := [(0, .ref 143), (1, .int X1)]) H_43 hq (z_at.mk 3 rfl rfl) rfl rfl rfl rfl ?_
      intro V_57 hV_57
      obtain ⟨g_60, h⟩ := z_ifo_some h
      refine r_is (pc' := 61) (L' := [(0, .ref 143), (1, .int X1)]) H_43 hq (z_at.mk 1 rfl rfl) (show zAr 161 0 48 = true from rfl) hx1 g_60 hV_57 rfl rfl ?_
      intro m_60 H_60
      refine r_p hq 1 (pc' := 62) (L' := [(0, .ref 143), (1, .int X1)]) (st' := [.ref 143]) rfl ?_
      refine r_gR (b := 161) (pc' := 65) (L' := [(0, .ref 143), (1, .int X1)]) H_60 hq (z_at.mk 3 rfl rfl) rfl rfl rfl rfl ?_
      refine r_p hq 4 (pc' := 69) (L' := [(0, .ref 143), (1, .int X1)]) (st' := [.ref 143, .int (X1 + ((1 : Int32))), .ref 161]) rfl ?_
      refine r_gI (pc' := 72) (L' := [(0, .ref 143), (1, .int X1)]) H_60 hq (z_at.mk 3 rfl rfl) rfl rfl rfl rfl ?_
      intro V_69 hV_69
      obtain ⟨g_72, h⟩ := z_ifo_some h
      refine r_is (pc' := 73) (L' := [(0, .ref 143), (1, .int X1)]) H_60 hq (z_at.mk 1 rfl rfl) (show zAr 161 0 48 = true from rfl) (tx_iadd hx1 (rfl : (1 : Int32).toInt = 1)) g_72 hV_69 rfl rfl ?_
      intro m_72 H_72
      refine r_p hq 1 (pc' := 74) (L' := [(0, .ref 143), (1, .int X1)]) (st' := [.ref 143]) rfl ?_
      obtain ⟨o_74, h_74, h⟩ := Option.bind_eq_some_iff.mp h
      refine r_cvI (pc' := 77) (L' := [(0, .ref 143), (1, .int X1)]) (Ps := []) (rest := []) hq (z_at.mk 3 rfl rfl) (Or.inl ⟨rfl, rfl⟩) rfl rfl (by decide) (by decide) rfl (Nat.not_lt.mpr (Nat.le_of_ble_eq_true rfl)) rfl rfl (z_cat_le 0 rfl (by decide)) (z_lgl_le 1 rfl (by decide)) (by decide) (H_72.tg rfl) (by omega) (g_m_here_ok H_72 h_74) rfl rfl ?_
      intro R_74 m_74 p_74 e_74 hR_74 H_74
      subst e_74
      refine r_p hq 1 (pc' := 79) (L' := [(0, .ref 143), (1, .int X1)]) (st' := [.int ((45 : Int32)), .int R_74]) rfl ?_
      rcases z_ite h with ⟨c_79, h⟩ | ⟨c_79, h⟩
      · refine r_t2 (pc' := 84) (L' := [(0, .ref 143), (1, .int X1)]) hq (z_at.mk 3 rfl rfl) rfl hR_74 (rfl : (45 : Int32).toInt = 45) c_79 rfl rfl ?_
        refine r_p hq 2 (pc' := 86) (L' := [(0, .ref 143), (1, .int X1)]) (st' := [.ref 143, .ref 143]) rfl ?_
        refine r_gI (pc' := 89) (L' := [(0, .ref 143), (1, .int X1)]) H_74 hq (z_at.mk 3 rfl rfl) rfl rfl rfl rfl ?_
        intro V_86 hV_86
        refine r_p hq 2 (pc' := 91) (L' := [(0, .ref 143), (1, .int X1)]) (st' := [.int (V_86 + ((1 : Int32))), .ref 143]) rfl ?_
        refine r_pI (X := V_86 + ((1 : Int32))) (pc' := 94) (L' := [(0, .ref 143), (1, .int X1)]) H_74 hq (z_at.mk 3 rfl rfl) rfl rfl (tx_iadd hV_86 (rfl : (1 : Int32).toInt = 1)) (by decide) rfl rfl rfl rfl ?_
        intro m_91 H_91
        refine r_p hq 3 (pc' := 97) (L' := [(0, .ref 143), (1, .int X1)]) (st' := [.ref 143, .int ((2 : Int32)), .ref 143]) rfl ?_
        refine r_gR (b := 161) (pc' := 100) (L' := [(0, .ref 143), (1, .int X1)]) H_91 hq (z_at.mk 3 rfl rfl) rfl rfl rfl rfl ?_
        refine r_p hq 1 (pc' := 101) (L' := [(0, .ref 143), (1, .int X1)]) (st' := [.int X1, .ref 161, .int ((2 : Int32)), .ref 143]) rfl ?_
        obtain ⟨g_101, h⟩ := z_ifo_some h
        refine r_ia (pc' := 102) (L' := [(0, .ref 143), (1, .int X1)]) H_91 hq (z_at.mk 1 rfl rfl) (show zAr 161 0 48 = true from rfl) hx1 g_101 rfl rfl ?_
        intro V_101 hV_101
        refine r_p hq 1 (pc' := 104) (L' := [(0, .ref 143), (1, .int X1)]) (st' := [.int ((31 : Int32)), .int V_101, .int ((2 : Int32)), .ref 143]) rfl ?_
        obtain ⟨o_104, h_104, h⟩ := Option.bind_eq_some_iff.mp h
        refine r_cvI (pc' := 107) (L' := [(0, .ref 143), (1, .int X1)]) (Ps := [.int ((2 : Int32)), .int V_101, .int ((31 : Int32))]) (rest := []) hq (z_at.mk 3 rfl rfl) (Or.inl ⟨rfl, rfl⟩) rfl rfl (by decide) (by decide) rfl (Nat.not_lt.mpr (Nat.le_of_ble_eq_true rfl)) rfl rfl (z_cat_le 0 rfl (by decide)) (z_lgl_le 4 rfl (by decide)) (by decide) (H_91.tg rfl) (by omega) (g_m_isNumber_ok (rfl : (2 : Int32).toInt = 2) hV_101 (rfl : (31 : Int32).toInt = 31) H_91 h_104) rfl rfl ?_
        intro R_104 m_104 p_104 e_104 hR_104 H_104
        subst e_104
        rcases z_ite h with ⟨c_107, h⟩ | ⟨c_107, h⟩
        · refine r_t1 (pc' := 112) (L' := [(0, .ref 143), (1, .int X1)]) hq (z_at.mk 3 rfl rfl) rfl hR_104 c_107 rfl rfl ?_
          refine r_p hq 1 (pc' := 113) (L' := [(0, .ref 143), (1, .int X1)]) (st' := [.ref 143]) rfl ?_
          refine r_gR (b := 161) (pc' := 116) (L' := [(0, .ref 143), (1, .int X1)]) H_104 hq (z_at.mk 3 rfl rfl) rfl rfl rfl rfl ?_
          refine r_p hq 4 (pc' := 120) (L' := [(0, .ref 143), (1, .int X1)]) (st' := [.ref 143, .int (X1 + ((1 : Int32))), .ref 161]) rfl ?_
          refine r_gI (pc' := 123) (L' := [(0, .ref 143), (1, .int X1)]) H_104 hq (z_at.mk 3 rfl rfl) rfl rfl rfl rfl ?_
          intro V_120 hV_120
          obtain ⟨g_123, h⟩ := z_ifo_some h
          refine r_is (pc' := 124) (L' := [(0, .ref 143), (1, .int X1)]) H_104 hq (z_at.mk 1 rfl rfl) (show zAr 161 0 48 = true from rfl) (tx_iadd hx1 (rfl : (1 : Int32).toInt = 1)) g_123 hV_120 rfl rfl ?_
          intro m_123 H_123
          refine r_p hq 1 (pc' := 125) (L' := [(0, .ref 143), (1, .int X1)]) (st' := [.int ((1 : Int32))]) rfl ?_
          cases h
          exact r_ri hq (z_at.mk 1 rfl rfl) rfl rfl (rfl : (1 : Int32).toInt = 1) rfl H_123
        · refine r_f1 (pc' := 110) (L' := [(0, .ref 143), (1, .int X1)]) hq (z_at.mk 3 rfl rfl) rfl hR_104 c_107 rfl rfl ?_
          refine r_p hq 1 (pc' := 111) (L' := [(0, .ref 143), (1, .int X1)]) (st' := [.int ((0 : Int32))]) rfl ?_
          cases h
          exact r_ri hq (z_at.mk 1 rfl rfl) rfl rfl (rfl : (0 : Int32).toInt = 0) rfl H_104
      · refine r_f2 (pc' := 82) (L' := [(0, .ref 143), (1, .int X1)]) hq (z_at.mk 3 rfl rfl) rfl hR_74 (rfl : (45 : Int32).toInt = 45) c_79 rfl rfl ?_
        refine r_p hq 1 (pc' := 83) (L' := [(0, .ref 143), (1, .int X1)]) (st' := [.int ((1 : Int32))]) rfl ?_
        cases h
        exact r_ri hq (z_at.mk 1 rfl rfl) rfl rfl (rfl : (1 : Int32).toInt = 1) rfl H_74
    · refine r_f1 (pc' := 49) (L' := [(0, .ref 143), (1, .int X1)]) hq (z_at.mk 3 rfl rfl) rfl hR_43 c_46 rfl rfl ?_
      refine r_p hq 1 (pc' := 50) (L' := [(0, .ref 143), (1, .int X1)]) (st' := [.int ((0 : Int32))]) rfl ?_
      cases h
      exact r_ri hq (z_at.mk 1 rfl rfl) rfl rfl (rfl : (0 : Int32).toInt = 0) rfl H_43
  · refine r_f2 (pc' := 26) (L' := [(0, .ref 143), (1, .int X1)]) hq (z_at.mk 3 rfl rfl) rfl hR_18 (rfl : (42 : Int32).toInt = 42) c_23 rfl rfl ?_
    refine r_p hq 2 (pc' := 28) (L' := [(0, .ref 143), (1, .int X1)]) (st' := [.ref 143, .ref 143]) rfl ?_
    refine r_gI (pc' := 31) (L' := [(0, .ref 143), (1, .int X1)]) H_18 hq (z_at.mk 3 rfl rfl) rfl rfl rfl rfl ?_
    intro V_28 hV_28
    refine r_p hq 2 (pc' := 33) (L' := [(0, .ref 143), (1, .int X1)]) (st' := [.int (V_28 + ((1 : Int32))), .ref 143]) rfl ?_
    refine r_pI (X := V_28 + ((1 : Int32))) (pc' := 36) (L' := [(0, .ref 143), (1, .int X1)]) H_18 hq (z_at.mk 3 rfl rfl) rfl rfl (tx_iadd hV_28 (rfl : (1 : Int32).toInt = 1)) (by decide) rfl rfl rfl rfl ?_
    intro m_33 H_33
    refine r_p hq 1 (pc' := 37) (L' := [(0, .ref 143), (1, .int X1)]) (st' := [.int ((1 : Int32))]) rfl ?_
    cases h
    exact r_ri hq (z_at.mk 1 rfl rfl) rfl rfl (rfl : (1 : Int32).toInt = 1) rfl H_33
def g_m_isTest_L109 (σ : zS) : Option (Int × zS) :=
  (g_m_isNumber 9 0 999999999 σ).bind fun o_116 =>
  if o_116.1 = 0 ∨ o_116.1 = 1 then some (o_116.1, o_116.2) else none
set_option maxHeartbeats 4000000 in
theorem g_m_isTest_L109_ok {xl : Nat} {xs : Nat → Int32} {σ : zS} {p : Nat} {m : zM} {o : Int × zS} (H : zRep xl xs p m σ) (h : g_m_isTest_L109 σ = some o) : zGo xl xs (fun p' => p = p') 4 224 109 [(0, .ref 143)] [] m (vI o.1) o.2 := by
  have hq : z_mth 224 = some z_r224 := rfl
  unfold g_m_isTest_L109 at h
  refine r_p hq 4 (pc' := 116) (L' := [(0, .ref 143)]) (st' := [.int ((999999999 : Int32)), .int ((0 : Int32)), .int ((9 : Int32)), .ref 143]) rfl ?_
  obtain ⟨o_116, h_116, h⟩ := Option.bind_eq_some_iff.mp h
  refine r_cvI (pc' := 119) (L' := [(0, .ref 143)]) (Ps := [.int ((9 : Int32)), .int ((0 : Int32)), .int ((999999999 : Int32))]) (rest := []) hq (z_at.mk 3 rfl rfl) (Or.inl ⟨rfl, rfl⟩) rfl rfl (by decide) (by decide) rfl (Nat.not_lt.mpr (Nat.le_of_ble_eq_true rfl)) rfl rfl (z_cat_le 0 rfl (by decide)) (z_lgl_le 4 rfl (by decide)) (by decide) (H.tg rfl) (by omega) (g_m_isNumber_ok (rfl : (9 : Int32).toInt = 9) (rfl : (0 : Int32).toInt = 0) (rfl : (999999999 : Int32).toInt = 999999999) H h_116) rfl rfl ?_
  intro R_116 m_116 p_116 e_116 hR_116 H_116
  subst e_116
  obtain ⟨g_119, h⟩ := z_if_some h
  cases h
  exact r_ri hq (z_at.mk 1 rfl rfl) rfl (z_rty_bo hR_116 g_119) hR_116 rfl H_116
def g_m_isTest_L80 (σ : zS) : Option (Int × zS) :=
  let v_82 := σ 143 21
  let s_87 := zu σ 143 21 (w32 (v_82 + 1))
  (g_m_here s_87).bind fun o_91 =>
  if o_91.1 ≠ 45 then
    g_m_isTest_L109 o_91.2
  else
    let v_101 := o_91.2 143 21
    let s_106 := zu o_91.2 143 21 (w32 (v_101 + 1))
    g_m_isTest_L109 s_106
set_option maxHeartbeats 4000000 in
theorem g_m_isTest_L80_ok {xl : Nat} {xs : Nat → Int32} {σ : zS} {p : Nat} {m : zM} {o : Int × zS} (H : zRep xl xs p m σ) (h : g_m_isTest_L80 σ = some o) : zGo xl xs (fun p' => p = p') 4 224 80 [(0, .ref 143)] [] m (vI o.1) o.2 := by
  have hq : z_mth 224 = some z_r224 := rfl
  unfold g_m_isTest_L80 at h
  refine r_p hq 2 (pc' := 82) (L' := [(0, .ref 143)]) (st' := [.ref 143, .ref 143]) rfl ?_
  refine r_gI (pc' := 85) (L' := [(0, .ref 143)]) H hq (z_at.mk 3 rfl rfl) rfl rfl rfl rfl ?_
  intro V_82 hV_82
  refine r_p hq 2 (pc' := 87) (L' := [(0, .ref 143)]) (st' := [.int (V_82 + ((1 : Int32))), .ref 143]) rfl ?_
  refine r_pI (X := V_82 + ((1 : Int32))) (pc' := 90) (L' := [(0, .ref 143)]) H hq (z_at.mk 3 rfl rfl) rfl rfl (tx_iadd hV_82 (rfl : (1 : Int32).toInt = 1)) (by decide) rfl rfl rfl rfl ?_
  intro m_87 H_87
  refine r_p hq 1 (pc' := 91) (L' := [(0, .ref 143)]) (st' := [.ref 143]) rfl ?_
  obtain ⟨o_91, h_91, h⟩ := Option.bind_eq_some_iff.mp h
  refine r_cvI (pc' := 94) (L' := [(0, .ref 143)]) (Ps := []) (rest := []) hq (z_at.mk 3 rfl rfl) (Or.inl ⟨rfl, rfl⟩) rfl rfl (by decide) (by decide) rfl (Nat.not_lt.mpr (Nat.le_of_ble_eq_true rfl)) rfl rfl (z_cat_le 0 rfl (by decide)) (z_lgl_le 1 rfl (by decide)) (by decide) (H_87.tg rfl) (by omega) (g_m_here_ok H_87 h_91) rfl rfl ?_
  intro R_91 m_91 p_91 e_91 hR_91 H_91
  subst e_91
  refine r_p hq 1 (pc' := 96) (L' := [(0, .ref 143)]) (st' := [.int ((45 : Int32)), .int R_91]) rfl ?_
  rcases z_ite h with ⟨c_96, h⟩ | ⟨c_96, h⟩
  · refine r_t2 (pc' := 109) (L' := [(0, .ref 143)]) hq (z_at.mk 3 rfl rfl) rfl hR_91 (rfl : (45 : Int32).toInt = 45) c_96 rfl rfl ?_
    exact g_m_isTest_L109_ok  H_91 h
  · refine r_f2 (pc' := 99) (L' := [(0, .ref 143)]) hq (z_at.mk 3 rfl rfl) rfl hR_91 (rfl : (45 : Int32).toInt = 45) c_96 rfl rfl ?_
    refine r_p hq 2 (pc' := 101) (L' := [(0, .ref 143)]) (st' := [.ref 143, .ref 143]) rfl ?_
    refine r_gI (pc' := 104) (L' := [(0, .ref 143)]) H_91 hq (z_at.mk 3 rfl rfl) rfl rfl rfl rfl ?_
    intro V_101 hV_101
    refine r_p hq 2 (pc' := 106) (L' := [(0, .ref 143)]) (st' := [.int (V_101 + ((1 : Int32))), .ref 143]) rfl ?_
    refine r_pI (X := V_101 + ((1 : Int32))) (pc' := 109) (L' := [(0, .ref 143)]) H_91 hq (z_at.mk 3 rfl rfl) rfl rfl (tx_iadd hV_101 (rfl : (1 : Int32).toInt = 1)) (by decide) rfl rfl rfl rfl ?_
    intro m_106 H_106
    exact g_m_isTest_L109_ok  H_106 h
def g_m_isTest_L38 (σ : zS) : Option (Int × zS) :=
  let v_40 := σ 143 21
  let s_45 := zu σ 143 21 (w32 (v_40 + 1))
  (g_m_here s_45).bind fun o_49 =>
  if o_49.1 = 60 then
    g_m_isTest_L80 o_49.2
  else
    if o_49.1 = 61 then
      g_m_isTest_L80 o_49.2
    else
      if o_49.1 = 62 then
        g_m_isTest_L80 o_49.2
      else
        let v_73 := o_49.2 143 21
        (g_m_fails v_73 o_49.2).bind fun o_76 =>
        if o_76.1 = 0 ∨ o_76.1 = 1 then some (o_76.1, o_76.2) else none
set_option maxHeartbeats 4000000 in
theorem g_m_isTest_L38_ok {xl : Nat} {xs : Nat → Int32} {σ : zS} {p : Nat} {m : zM} {o : Int × zS} (H : zRep xl xs p m σ) (h : g_m_isTest_L38 σ = some o) : zGo xl xs (fun p' => p = p') 4 224 38 [(0, .ref 143)] [] m (vI o.1) o.2 := by
  have hq : z_mth 224 = some z_r224 := rfl
  unfold g_m_isTest_L38 at h
  refine r_p hq 2 (pc' := 40) (L' := [(0, .ref 143)]) (st' := [.ref 143, .ref 143]) rfl ?_
  refine r_gI (pc' := 43) (L' := [(0, .ref 143)]) H hq (z_at.mk 3 rfl rfl) rfl rfl rfl rfl ?_
  intro V_40 hV_40
  refine r_p hq 2 (pc' := 45) (L' := [(0, .ref 143)]) (st' := [.int (V_40 + ((1 : Int32))), .ref 143]) rfl ?_
  refine r_pI (X := V_40 + ((1 : Int32))) (pc' := 48) (L' := [(0, .ref 143)]) H hq (z_at.mk 3 rfl rfl) rfl rfl (tx_iadd hV_40 (rfl : (1 : Int32).toInt = 1)) (by decide) rfl rfl rfl rfl ?_
  intro m_45 H_45
  refine r_p hq 1 (pc' := 49) (L' := [(0, .ref 143)]) (st' := [.ref 143]) rfl ?_
  obtain ⟨o_49, h_49, h⟩ := Option.bind_eq_some_iff.mp h
  refine r_cvI (pc' := 52) (L' := [(0, .ref 143)]) (Ps := []) (rest := []) hq (z_at.mk 3 rfl rfl) (Or.inl ⟨rfl, rfl⟩) rfl rfl (by decide) (by decide) rfl (Nat.not_lt.mpr (Nat.le_of_ble_eq_true rfl)) rfl rfl (z_cat_le 0 rfl (by decide)) (z_lgl_le 1 rfl (by decide)) (by decide) (H_45.tg rfl) (by omega) (g_m_here_ok H_45 h_49) rfl rfl ?_
  intro R_49 m_49 p_49 e_49 hR_49 H_49
  subst e_49
  refine r_p hq 3 (pc' := 56) (L' := [(1, .int R_49), (0, .ref 143)]) (st' := [.int ((60 : Int32)), .int R_49]) rfl ?_
  rcases z_ite h with ⟨c_56, h⟩ | ⟨c_56, h⟩
  · refine r_t2 (pc' := 80) (L' := [(0, .ref 143)]) hq (z_at.mk 3 rfl rfl) rfl hR_49 (rfl : (60 : Int32).toInt = 60) c_56 rfl rfl ?_
    exact g_m_isTest_L80_ok  H_49 h
  · refine r_f2 (pc' := 59) (L' := [(1, .int R_49), (0, .ref 143)]) hq (z_at.mk 3 rfl rfl) rfl hR_49 (rfl : (60 : Int32).toInt = 60) c_56 rfl rfl ?_
    refine r_p hq 2 (pc' := 62) (L' := [(1, .int R_49), (0, .ref 143)]) (st' := [.int ((61 : Int32)), .int R_49]) rfl ?_
    rcases z_ite h with ⟨c_62, h⟩ | ⟨c_62, h⟩
    · refine r_t2 (pc' := 80) (L' := [(0, .ref 143)]) hq (z_at.mk 3 rfl rfl) rfl hR_49 (rfl : (61 : Int32).toInt = 61) c_62 rfl rfl ?_
      exact g_m_isTest_L80_ok  H_49 h
    · refine r_f2 (pc' := 65) (L' := [(1, .int R_49), (0, .ref 143)]) hq (z_at.mk 3 rfl rfl) rfl hR_49 (rfl : (61 : Int32).toInt = 61) c_62 rfl rfl ?_
      refine r_p hq 2 (pc' := 68) (L' := [(1, .int R_49), (0, .ref 143)]) (st' := [.int ((62 : Int32)), .int R_49]) rfl ?_
      rcases z_ite h with ⟨c_68, h⟩ | ⟨c_68, h⟩
      · refine r_t2 (pc' := 80) (L' := [(0, .ref 143)]) hq (z_at.mk 3 rfl rfl) rfl hR_49 (rfl : (62 : Int32).toInt = 62) c_68 rfl rfl ?_
        exact g_m_isTest_L80_ok  H_49 h
      · refine r_f2 (pc' := 71) (L' := [(1, .int R_49), (0, .ref 143)]) hq (z_at.mk 3 rfl rfl) rfl hR_49 (rfl : (62 : Int32).toInt = 62) c_68 rfl rfl ?_
        refine r_p hq 2 (pc' := 73) (L' := [(1, .int R_49), (0, .ref 143)]) (st' := [.ref 143, .ref 143]) rfl ?_
        refine r_gI (pc' := 76) (L' := [(1, .int R_49), (0, .ref 143)]) H_49 hq (z_at.mk 3 rfl rfl) rfl rfl rfl rfl ?_
        intro V_73 hV_73
        obtain ⟨o_76, h_76, h⟩ := Option.bind_eq_some_iff.mp h
        refine r_cvI (pc' := 79) (L' := [(1, .int R_49), (0, .ref 143)]) (Ps := [.int V_73]) (rest := []) hq (z_at.mk 3 rfl rfl) (Or.inl ⟨rfl, rfl⟩) rfl rfl (by decide) (by decide) rfl (Nat.not_lt.mpr (Nat.le_of_ble_eq_true rfl)) rfl rfl (z_cat_le 0 rfl (by decide)) (z_lgl_le 2 rfl (by decide)) (by decide) (H_49.tg rfl) (by omega) (g_m_fails_ok hV_73 H_49 h_76) rfl rfl ?_
        intro R_76 m_76 p_76 e_76 hR_76 H_76
        subst e_76
        obtain ⟨g_79, h⟩ := z_if_some h
        cases h
        exact r_ri hq (z_at.mk 1 rfl rfl) rfl (z_rty_bo hR_76 g_79) hR_76 rfl H_76
def g_m_isTest (σ : zS) : Option (Int × zS) :=
  (g_m_here σ).bind fun o_1 =>
  if o_1.1 = 119 then
    g_m_isTest_L38 o_1.2
  else
    if o_1.1 = 120 then
      g_m_isTest_L38 o_1.2
    else
      if o_1.1 = 121 then
        g_m_isTest_L38 o_1.2
      else
        if o_1.1 = 114 then
          g_m_isTest_L38 o_1.2
        else
          let v_31 := o_1.2 143 21
          (g_m_fails v_31 o_1.2).bind fun o_34 =>
          if o_34.1 = 0 ∨ o_34.1 = 1 then some (o_34.1, o_34.2) else none
set_option maxHeartbeats 4000000 in
theorem g_m_isTest_ok {xl : Nat} {xs : Nat → Int32} {σ : zS} {p : Nat} {m : zM} {o : Int × zS} (H : zRep xl xs p m σ) (h : g_m_isTest σ = some o) : zGo xl xs (fun p' => p = p') 4 224 0 (z_can 224 0 (lv_args 0 [.ref 143])) [] m (vI o.1) o.2 := by
  have hq : z_mth 224 = some z_r224 := rfl
  unfold g_m_isTest at h
  show zGo xl xs (fun p' => p = p') 4 224 0 [(0, .ref 143)] [] m (vI o.1) o.2
  refine r_p hq 1 (pc' := 1) (L' := [(0, .ref 143)]) (st' := [.ref 143]) rfl ?_
  obtain ⟨o_1, h_1, h⟩ := Option.bind_eq_some_iff.mp h
  refine r_cvI (pc' := 4) (L' := [(0, .ref 143)]) (Ps := []) (rest := []) hq (z_at.mk 3 rfl rfl) (Or.inl ⟨rfl, rfl⟩) rfl rfl (by decide) (by decide) rfl (Nat.not_lt.mpr (Nat.le_of_ble_eq_true rfl)) rfl rfl (z_cat_le 0 rfl (by decide)) (z_lgl_le 1 rfl (by decide)) (by decide) (H.tg rfl) (by omega) (g_m_here_ok H h_1) rfl rfl ?_
  intro R_1 m_1 p_1 e_1 hR_1 H_1
  subst e_1
  refine r_p hq 3 (pc' := 8) (L' := [(1, .int R_1), (0, .ref 143)]) (st' := [.int ((119 : Int32)), .int R_1]) rfl ?_
  rcases z_ite h with ⟨c_8, h⟩ | ⟨c_8, h⟩
  · refine r_t2 (pc' := 38) (L' := [(0, .ref 143)]) hq (z_at.mk 3 rfl rfl) rfl hR_1 (rfl : (119 : Int32).toInt = 119) c_8 rfl rfl ?_
    exact g_m_isTest_L38_ok  H_1 h
  · refine r_f2 (pc' := 11) (L' := [(1, .int R_1), (0, .ref 143)]) hq (z_at.mk 3 rfl rfl) rfl hR_1 (rfl : (119 : Int32).toInt = 119) c_8 rfl rfl ?_
    refine r_p hq 2 (pc' := 14) (L' := [(1, .int R_1), (0, .ref 143)]) (st' := [.int ((120 : Int32)), .int R_1]) rfl ?_
    rcases z_ite h with ⟨c_14, h⟩ | ⟨c_14, h⟩
    · refine r_t2 (pc' := 38) (L' := [(0, .ref 143)]) hq (z_at.mk 3 rfl rfl) rfl hR_1 (rfl : (120 : Int32).toInt = 120) c_14 rfl rfl ?_
      exact g_m_isTest_L38_ok  H_1 h
    · refine r_f2 (pc' := 17) (L' := [(1, .int R_1), (0, .ref 143)]) hq (z_at.mk 3 rfl rfl) rfl hR_1 (rfl : (120 : Int32).toInt = 120) c_14 rfl rfl ?_
      refine r_p hq 2 (pc' := 20) (L' := [(1, .int R_1), (0, .ref 143)]) (st' := [.int ((121 : Int32)), .int R_1]) rfl ?_
      rcases z_ite h with ⟨c_20, h⟩ | ⟨c_20, h⟩
      · refine r_t2 (pc' := 38) (L' := [(0, .ref 143)]) hq (z_at.mk 3 rfl rfl) rfl hR_1 (rfl : (121 : Int32).toInt = 121) c_20 rfl rfl ?_
        exact g_m_isTest_L38_ok  H_1 h
      · refine r_f2 (pc' := 23) (L' := [(1, .int R_1), (0, .ref 143)]) hq (z_at.mk 3 rfl rfl) rfl hR_1 (rfl : (121 : Int32).toInt = 121) c_20 rfl rfl ?_
        refine r_p hq 2 (pc' := 26) (L' := [(1, .int R_1), (0, .ref 143)]) (st' := [.int ((114 : Int32)), .int R_1]) rfl ?_
        rcases z_ite h with ⟨c_26, h⟩ | ⟨c_26, h⟩
        · refine r_t2 (pc' := 38) (L' := [(0, .ref 143)]) hq (z_at.mk 3 rfl rfl) rfl hR_1 (rfl : (114 : Int32).toInt = 114) c_26 rfl rfl ?_
          exact g_m_isTest_L38_ok  H_1 h
        · refine r_f2 (pc' := 29) (L' := [(1, .int R_1), (0, .ref 143)]) hq (z_at.mk 3 rfl rfl) rfl hR_1 (rfl : (114 : Int32).toInt = 114) c_26 rfl rfl ?_
          refine r_p hq 2 (pc' := 31) (L' := [(1, .int R_1), (0, .ref 143)]) (st' := [.ref 143, .ref 143]) rfl ?_
          refine r_gI (pc' := 34) (L' := [(1, .int R_1), (0, .ref 143)]) H_1 hq (z_at.mk 3 rfl rfl) rfl rfl rfl rfl ?_
          intro V_31 hV_31
          obtain ⟨o_34, h_34, h⟩ := Option.bind_eq_some_iff.mp h
          refine r_cvI (pc' := 37) (L' := [(1, .int R_1), (0, .ref 143)]) (Ps := [.int V_31]) (rest := []) hq (z_at.mk 3 rfl rfl) (Or.inl ⟨rfl, rfl⟩) rfl rfl (by decide) (by decide) rfl (Nat.not_lt.mpr (Nat.le_of_ble_eq_true rfl)) rfl rfl (z_cat_le 0 rfl (by decide)) (z_lgl_le 2 rfl (by decide)) (by decide) (H_1.tg rfl) (by omega) (g_m_fails_ok hV_31 H_1 h_34) rfl rfl ?_
          intro R_34 m_34 p_34 e_34 hR_34 H_34
          subst e_34
          obtain ⟨g_37, h⟩ := z_if_some h
          cases h
          exact r_ri hq (z_at.mk 1 rfl rfl) rfl (z_rty_bo hR_34 g_37) hR_34 rfl H_34
end
section
/-! 21.g14 -/
/-! THE METHODS over the typed memory, 14 (by wip/zg.py) -/
def g_m_isFactor_L80 (rec : Nat → Int → zS → Option (Int × zS)) (σ : zS) : Option (Int × zS) :=
  (g_m_isTest σ).bind fun o_81 =>
  if o_81.1 = 0 ∨ o_81.1 = 1 then some (o_81.1, o_81.2) else none
set_option maxHeartbeats 4000000 in
theorem g_m_isFactor_L80_ok {xl : Nat} {xs : Nat → Int32} {dr : Nat} (hdr : 5 ≤ dr) {rec : Nat → Int → zS → Option (Int × zS)} (hrec : ∀ j, j ∈ [225, 226, 227] → ∀ {X1 : Int32} {x1 : Int} {σ : zS} {p : Nat} {m : zM} {o : Int × zS}, X1.toInt = x1 → zRep xl xs p m σ → rec j x1 σ = some o → zGo xl xs (fun p' => p = p') dr j 0 (z_can j 0 (lv_args 0 [.ref 143, .int X1])) [] m (vI o.1) o.2) {σ : zS} {p : Nat} {m : zM} {o : Int × zS} (H : zRep xl xs p m σ) (h : g_m_isFactor_L80 rec σ = some o) : zGo xl xs (fun p' => p = p') (dr + 1) 225 80 [(0, .ref 143)] [] m (vI o.1) o.2 := by
  have hq : z_mth 225 = some z_r225 := rfl
  unfold g_m_isFactor_L80 at h
  refine r_p hq 1 (pc' := 81) (L' := [(0, .ref 143)]) (st' := [.ref 143]) rfl ?_
  obtain ⟨o_81, h_81, h⟩ := Option.bind_eq_some_iff.mp h
  refine r_cvI (pc' := 84) (L' := [(0, .ref 143)]) (Ps := []) (rest := []) hq (z_at.mk 3 rfl rfl) (Or.inl ⟨rfl, rfl⟩) rfl rfl (by decide) (by decide) rfl (Nat.not_lt.mpr (Nat.le_of_ble_eq_true rfl)) rfl rfl (z_cat_le 0 rfl (by decide)) (z_lgl_le 1 rfl (by decide)) (by decide) (H.tg rfl) (by omega) (g_m_isTest_ok H h_81) rfl rfl ?_
  intro R_81 m_81 p_81 e_81 hR_81 H_81
  subst e_81
  obtain ⟨g_84, h⟩ := z_if_some h
  cases h
  exact r_ri hq (z_at.mk 1 rfl rfl) rfl (z_rty_bo hR_81 g_84) hR_81 rfl H_81
def g_m_isFactor_L34 (rec : Nat → Int → zS → Option (Int × zS)) (x1 : Int) (x2 : Int) (σ : zS) : Option (Int × zS) :=
  if 4 ≤ x1 then
    g_m_isFactor_L80 rec σ
  else
    if x2 ≠ 40 then
      g_m_isFactor_L80 rec σ
    else
      let v_47 := σ 143 21
      let s_52 := zu σ 143 21 (w32 (v_47 + 1))
      (rec 227 (w32 (x1 + 1)) s_52).bind fun o_59 =>
      if o_59.1 = 0 then
        some (0, o_59.2)
      else
        (g_m_isSign 41 o_59.2).bind fun o_68 =>
        if o_68.1 = 0 then
          some (0, o_68.2)
        else
          some (1, o_68.2)
set_option maxHeartbeats 4000000 in
theorem g_m_isFactor_L34_ok {xl : Nat} {xs : Nat → Int32} {dr : Nat} (hdr : 5 ≤ dr) {rec : Nat → Int → zS → Option (Int × zS)} (hrec : ∀ j, j ∈ [225, 226, 227] → ∀ {X1 : Int32} {x1 : Int} {σ : zS} {p : Nat} {m : zM} {o : Int × zS}, X1.toInt = x1 → zRep xl xs p m σ → rec j x1 σ = some o → zGo xl xs (fun p' => p = p') dr j 0 (z_can j 0 (lv_args 0 [.ref 143, .int X1])) [] m (vI o.1) o.2) {X1 : Int32} {x1 : Int} (hx1 : X1.toInt = x1) {X2 : Int32} {x2 : Int} (hx2 : X2.toInt = x2) {σ : zS} {p : Nat} {m : zM} {o : Int × zS} (H : zRep xl xs p m σ) (h : g_m_isFactor_L34 rec x1 x2 σ = some o) : zGo xl xs (fun p' => p = p') (dr + 1) 225 34 [(0, .ref 143), (1, .int X1), (2, .int X2)] [] m (vI o.1) o.2 := by
  have hq : z_mth 225 = some z_r225 := rfl
  unfold g_m_isFactor_L34 at h
  refine r_p hq 2 (pc' := 36) (L' := [(0, .ref 143), (1, .int X1), (2, .int X2)]) (st' := [.int ((4 : Int32)), .int X1]) rfl ?_
  rcases z_ite h with ⟨c_36, h⟩ | ⟨c_36, h⟩
  · refine r_t2 (pc' := 80) (L' := [(0, .ref 143)]) hq (z_at.mk 3 rfl rfl) rfl hx1 (rfl : (4 : Int32).toInt = 4) c_36 rfl rfl ?_
    exact g_m_isFactor_L80_ok hdr hrec  H h
  · refine r_f2 (pc' := 39) (L' := [(0, .ref 143), (1, .int X1), (2, .int X2)]) hq (z_at.mk 3 rfl rfl) rfl hx1 (rfl : (4 : Int32).toInt = 4) c_36 rfl rfl ?_
    refine r_p hq 2 (pc' := 42) (L' := [(0, .ref 143), (1, .int X1), (2, .int X2)]) (st' := [.int ((40 : Int32)), .int X2]) rfl ?_
    rcases z_ite h with ⟨c_42, h⟩ | ⟨c_42, h⟩
    · refine r_t2 (pc' := 80) (L' := [(0, .ref 143)]) hq (z_at.mk 3 rfl rfl) rfl hx2 (rfl : (40 : Int32).toInt = 40) c_42 rfl rfl ?_
      exact g_m_isFactor_L80_ok hdr hrec  H h
    · refine r_f2 (pc' := 45) (L' := [(0, .ref 143), (1, .int X1), (2, .int X2)]) hq (z_at.mk 3 rfl rfl) rfl hx2 (rfl : (40 : Int32).toInt = 40) c_42 rfl rfl ?_
      refine r_p hq 2 (pc' := 47) (L' := [(0, .ref 143), (1, .int X1), (2, .int X2)]) (st' := [.ref 143, .ref 143]) rfl ?_
      refine r_gI (pc' := 50) (L' := [(0, .ref 143), (1, .int X1), (2, .int X2)]) H hq (z_at.mk 3 rfl rfl) rfl rfl rfl rfl ?_
      intro V_47 hV_47
      refine r_p hq 2 (pc' := 52) (L' := [(0, .ref 143), (1, .int X1), (2, .int X2)]) (st' := [.int (V_47 + ((1 : Int32))), .ref 143]) rfl ?_
      refine r_pI (X := V_47 + ((1 : Int32))) (pc' := 55) (L' := [(0, .ref 143), (1, .int X1), (2, .int X2)]) H hq (z_at.mk 3 rfl rfl) rfl rfl (tx_iadd hV_47 (rfl : (1 : Int32).toInt = 1)) (by decide) rfl rfl rfl rfl ?_
      intro m_52 H_52
      refine r_p hq 4 (pc' := 59) (L' := [(0, .ref 143), (1, .int X1), (2, .int X2)]) (st' := [.int (X1 + ((1 : Int32))), .ref 143]) rfl ?_
      obtain ⟨o_59, h_59, h⟩ := Option.bind_eq_some_iff.mp h
      refine r_cvI (pc' := 62) (L' := [(0, .ref 143), (1, .int X1), (2, .int X2)]) (Ps := [.int (X1 + ((1 : Int32)))]) (rest := []) hq (z_at.mk 3 rfl rfl) (Or.inl ⟨rfl, rfl⟩) rfl rfl (by decide) (by decide) rfl (Nat.not_lt.mpr (Nat.le_of_ble_eq_true rfl)) rfl rfl (z_cat_le 0 rfl (by decide)) (z_lgl_le 2 rfl (by decide)) (by decide) (H_52.tg rfl) (by omega) (hrec 227 (by simp) (tx_iadd hx1 (rfl : (1 : Int32).toInt = 1)) H_52 h_59) rfl rfl ?_
      intro R_59 m_59 p_59 e_59 hR_59 H_59
      subst e_59
      rcases z_ite h with ⟨c_62, h⟩ | ⟨c_62, h⟩
      · refine r_t1 (pc' := 78) (L' := []) hq (z_at.mk 3 rfl rfl) rfl hR_59 c_62 rfl rfl ?_
        refine r_p hq 1 (pc' := 79) (L' := []) (st' := [.int ((0 : Int32))]) rfl ?_
        cases h
        exact r_ri hq (z_at.mk 1 rfl rfl) rfl rfl (rfl : (0 : Int32).toInt = 0) rfl H_59
      · refine r_f1 (pc' := 65) (L' := [(0, .ref 143), (1, .int X1), (2, .int X2)]) hq (z_at.mk 3 rfl rfl) rfl hR_59 c_62 rfl rfl ?_
        refine r_p hq 2 (pc' := 68) (L' := [(0, .ref 143), (1, .int X1), (2, .int X2)]) (st' := [.int ((41 : Int32)), .ref 143]) rfl ?_
        obtain ⟨o_68, h_68, h⟩ := Option.bind_eq_some_iff.mp h
        refine r_cvI (pc' := 71) (L' := [(0, .ref 143), (1, .int X1), (2, .int X2)]) (Ps := [.int ((41 : Int32))]) (rest := []) hq (z_at.mk 3 rfl rfl) (Or.inl ⟨rfl, rfl⟩) rfl rfl (by decide) (by decide) rfl (Nat.not_lt.mpr (Nat.le_of_ble_eq_true rfl)) rfl rfl (z_cat_le 0 rfl (by decide)) (z_lgl_le 2 rfl (by decide)) (by decide) (H_59.tg rfl) (by omega) (g_m_isSign_ok (rfl : (41 : Int32).toInt = 41) H_59 h_68) rfl rfl ?_
        intro R_68 m_68 p_68 e_68 hR_68 H_68
        subst e_68
        rcases z_ite h with ⟨c_71, h⟩ | ⟨c_71, h⟩
        · refine r_t1 (pc' := 78) (L' := []) hq (z_at.mk 3 rfl rfl) rfl hR_68 c_71 rfl rfl ?_
          refine r_p hq 1 (pc' := 79) (L' := []) (st' := [.int ((0 : Int32))]) rfl ?_
          cases h
          exact r_ri hq (z_at.mk 1 rfl rfl) rfl rfl (rfl : (0 : Int32).toInt = 0) rfl H_68
        · refine r_f1 (pc' := 74) (L' := [(0, .ref 143), (1, .int X1), (2, .int X2)]) hq (z_at.mk 3 rfl rfl) rfl hR_68 c_71 rfl rfl ?_
          refine r_p hq 2 (pc' := 79) (L' := []) (st' := [.int ((1 : Int32))]) rfl ?_
          cases h
          exact r_ri hq (z_at.mk 1 rfl rfl) rfl rfl (rfl : (1 : Int32).toInt = 1) rfl H_68
def g_m_isFactor (rec : Nat → Int → zS → Option (Int × zS)) (x1 : Int) (σ : zS) : Option (Int × zS) :=
  (g_m_here σ).bind fun o_1 =>
  if 4 ≤ x1 then
    g_m_isFactor_L34 rec x1 o_1.1 o_1.2
  else
    if o_1.1 ≠ 33 then
      g_m_isFactor_L34 rec x1 o_1.1 o_1.2
    else
      let v_18 := o_1.2 143 21
      let s_23 := zu o_1.2 143 21 (w32 (v_18 + 1))
      (rec 225 (w32 (x1 + 1)) s_23).bind fun o_30 =>
      if o_30.1 = 0 ∨ o_30.1 = 1 then some (o_30.1, o_30.2) else none
set_option maxHeartbeats 4000000 in
theorem g_m_isFactor_ok {xl : Nat} {xs : Nat → Int32} {dr : Nat} (hdr : 5 ≤ dr) {rec : Nat → Int → zS → Option (Int × zS)} (hrec : ∀ j, j ∈ [225, 226, 227] → ∀ {X1 : Int32} {x1 : Int} {σ : zS} {p : Nat} {m : zM} {o : Int × zS}, X1.toInt = x1 → zRep xl xs p m σ → rec j x1 σ = some o → zGo xl xs (fun p' => p = p') dr j 0 (z_can j 0 (lv_args 0 [.ref 143, .int X1])) [] m (vI o.1) o.2) {X1 : Int32} {x1 : Int} (hx1 : X1.toInt = x1) {σ : zS} {p : Nat} {m : zM} {o : Int × zS} (H : zRep xl xs p m σ) (h : g_m_isFactor rec x1 σ = some o) : zGo xl xs (fun p' => p = p') (dr + 1) 225 0 (z_can 225 0 (lv_args 0 [.ref 143, .int X1])) [] m (vI o.1) o.2 := by
  have hq : z_mth 225 = some z_r225 := rfl
  unfold g_m_isFactor at h
  show zGo xl xs (fun p' => p = p') (dr + 1) 225 0 [(0, .ref 143), (1, .int X1)] [] m (vI o.1) o.2
  refine r_p hq 1 (pc' := 1) (L' := [(0, .ref 143), (1, .int X1)]) (st' := [.ref 143]) rfl ?_
  obtain ⟨o_1, h_1, h⟩ := Option.bind_eq_some_iff.mp h
  refine r_cvI (pc' := 4) (L' := [(0, .ref 143), (1, .int X1)]) (Ps := []) (rest := []) hq (z_at.mk 3 rfl rfl) (Or.inl ⟨rfl, rfl⟩) rfl rfl (by decide) (by decide) rfl (Nat.not_lt.mpr (Nat.le_of_ble_eq_true rfl)) rfl rfl (z_cat_le 0 rfl (by decide)) (z_lgl_le 1 rfl (by decide)) (by decide) (H.tg rfl) (by omega) (g_m_here_ok H h_1) rfl rfl ?_
  intro R_1 m_1 p_1 e_1 hR_1 H_1
  subst e_1
  refine r_p hq 3 (pc' := 7) (L' := [(2, .int R_1), (0, .ref 143), (1, .int X1)]) (st' := [.int ((4 : Int32)), .int X1]) rfl ?_
  rcases z_ite h with ⟨c_7, h⟩ | ⟨c_7, h⟩
  · refine r_t2 (pc' := 34) (L' := [(0, .ref 143), (1, .int X1), (2, .int R_1)]) hq (z_at.mk 3 rfl rfl) rfl hx1 (rfl : (4 : Int32).toInt = 4) c_7 rfl rfl ?_
    exact g_m_isFactor_L34_ok hdr hrec hx1 hR_1 H_1 h
  · refine r_f2 (pc' := 10) (L' := [(2, .int R_1), (0, .ref 143), (1, .int X1)]) hq (z_at.mk 3 rfl rfl) rfl hx1 (rfl : (4 : Int32).toInt = 4) c_7 rfl rfl ?_
    refine r_p hq 2 (pc' := 13) (L' := [(2, .int R_1), (0, .ref 143), (1, .int X1)]) (st' := [.int ((33 : Int32)), .int R_1]) rfl ?_
    rcases z_ite h with ⟨c_13, h⟩ | ⟨c_13, h⟩
    · refine r_t2 (pc' := 34) (L' := [(0, .ref 143), (1, .int X1), (2, .int R_1)]) hq (z_at.mk 3 rfl rfl) rfl hR_1 (rfl : (33 : Int32).toInt = 33) c_13 rfl rfl ?_
      exact g_m_isFactor_L34_ok hdr hrec hx1 hR_1 H_1 h
    · refine r_f2 (pc' := 16) (L' := [(2, .int R_1), (0, .ref 143), (1, .int X1)]) hq (z_at.mk 3 rfl rfl) rfl hR_1 (rfl : (33 : Int32).toInt = 33) c_13 rfl rfl ?_
      refine r_p hq 2 (pc' := 18) (L' := [(2, .int R_1), (0, .ref 143), (1, .int X1)]) (st' := [.ref 143, .ref 143]) rfl ?_
      refine r_gI (pc' := 21) (L' := [(2, .int R_1), (0, .ref 143), (1, .int X1)]) H_1 hq (z_at.mk 3 rfl rfl) rfl rfl rfl rfl ?_
      intro V_18 hV_18
      refine r_p hq 2 (pc' := 23) (L' := [(2, .int R_1), (0, .ref 143), (1, .int X1)]) (st' := [.int (V_18 + ((1 : Int32))), .ref 143]) rfl ?_
      refine r_pI (X := V_18 + ((1 : Int32))) (pc' := 26) (L' := [(2, .int R_1), (0, .ref 143), (1, .int X1)]) H_1 hq (z_at.mk 3 rfl rfl) rfl rfl (tx_iadd hV_18 (rfl : (1 : Int32).toInt = 1)) (by decide) rfl rfl rfl rfl ?_
      intro m_23 H_23
      refine r_p hq 4 (pc' := 30) (L' := [(2, .int R_1), (0, .ref 143), (1, .int X1)]) (st' := [.int (X1 + ((1 : Int32))), .ref 143]) rfl ?_
      obtain ⟨o_30, h_30, h⟩ := Option.bind_eq_some_iff.mp h
      refine r_cvI (pc' := 33) (L' := [(2, .int R_1), (0, .ref 143), (1, .int X1)]) (Ps := [.int (X1 + ((1 : Int32)))]) (rest := []) hq (z_at.mk 3 rfl rfl) (Or.inl ⟨rfl, rfl⟩) rfl rfl (by decide) (by decide) rfl (Nat.not_lt.mpr (Nat.le_of_ble_eq_true rfl)) rfl rfl (z_cat_le 0 rfl (by decide)) (z_lgl_le 2 rfl (by decide)) (by decide) (H_23.tg rfl) (by omega) (hrec 225 (by simp) (tx_iadd hx1 (rfl : (1 : Int32).toInt = 1)) H_23 h_30) rfl rfl ?_
      intro R_30 m_30 p_30 e_30 hR_30 H_30
      subst e_30
      obtain ⟨g_33, h⟩ := z_if_some h
      cases h
      exact r_ri hq (z_at.mk 1 rfl rfl) rfl (z_rty_bo hR_30 g_33) hR_30 rfl H_30
def g_m_isBoth_L6 (rec : Nat → Int → zS → Option (Int × zS)) : Nat → Int → Int → zS → Option (Int × zS)
  | 0, _, _, _ => none
  | n + 1, x1, x2, σ =>
    if x2 = 0 then
      if x2 = 0 ∨ x2 = 1 then some (x2, σ) else none
    else
      (g_m_here σ).bind fun o_11 =>
      if o_11.1 ≠ 38 then
        if x2 = 0 ∨ x2 = 1 then some (x2, o_11.2) else none
      else
        let v_21 := o_11.2 143 21
        let s_26 := zu o_11.2 143 21 (w32 (v_21 + 1))
        (rec 225 x1 s_26).bind fun o_31 =>
        (g_m_isBoth_L6 rec n) x1 o_31.1 o_31.2
set_option maxHeartbeats 4000000 in
theorem g_m_isBoth_L6_ok {xl : Nat} {xs : Nat → Int32} {dr : Nat} (hdr : 5 ≤ dr) {rec : Nat → Int → zS → Option (Int × zS)} (hrec : ∀ j, j ∈ [225, 226, 227] → ∀ {X1 : Int32} {x1 : Int} {σ : zS} {p : Nat} {m : zM} {o : Int × zS}, X1.toInt = x1 → zRep xl xs p m σ → rec j x1 σ = some o → zGo xl xs (fun p' => p = p') dr j 0 (z_can j 0 (lv_args 0 [.ref 143, .int X1])) [] m (vI o.1) o.2) : ∀ (n : Nat) {X1 : Int32} {x1 : Int} {X2 : Int32} {x2 : Int} {σ : zS} {p : Nat} {m : zM} {o : Int × zS}, X1.toInt = x1 → X2.toInt = x2 → zRep xl xs p m σ → g_m_isBoth_L6 rec n x1 x2 σ = some o → zGo xl xs (fun p' => p = p') (dr + 1) 226 6 [(0, .ref 143), (1, .int X1), (2, .int X2)] [] m (vI o.1) o.2
  | 0, _, _, _, _, _, _, _, _, _, _, _, h => by cases h
  | n + 1, X1, x1, X2, x2, σ, p, m, o, hx1, hx2, H, h => by
    have hq : z_mth 226 = some z_r226 := rfl
    have ih := fun {X1 : Int32} {x1 : Int} {X2 : Int32} {x2 : Int} {σ : zS} {p : Nat} {m : zM} {o : Int × zS} => g_m_isBoth_L6_ok (xl := xl) (xs := xs) hdr hrec n (X1 := X1) (x1 := x1) (X2 := X2) (x2 := x2) (σ := σ) (p := p) (m := m) (o := o)
    unfold g_m_isBoth_L6 at h
    refine r_p hq 1 (pc' := 7) (L' := [(0, .ref 143), (1, .int X1), (2, .int X2)]) (st' := [.int X2]) rfl ?_
    rcases z_ite h with ⟨c_7, h⟩ | ⟨c_7, h⟩
    · refine r_t1 (pc' := 38) (L' := [(2, .int X2)]) hq (z_at.mk 3 rfl rfl) rfl hx2 c_7 rfl rfl ?_
      refine r_p hq 1 (pc' := 39) (L' := [(2, .int X2)]) (st' := [.int X2]) rfl ?_
      obtain ⟨g_39, h⟩ := z_if_some h
      cases h
      exact r_ri hq (z_at.mk 1 rfl rfl) rfl (z_rty_bo hx2 g_39) hx2 rfl H
    · refine r_f1 (pc' := 10) (L' := [(0, .ref 143), (1, .int X1), (2, .int X2)]) hq (z_at.mk 3 rfl rfl) rfl hx2 c_7 rfl rfl ?_
      refine r_p hq 1 (pc' := 11) (L' := [(0, .ref 143), (1, .int X1), (2, .int X2)]) (st' := [.ref 143]) rfl ?_
      obtain ⟨o_11, h_11, h⟩ := Option.bind_eq_some_iff.mp h
      refine r_cvI (pc' := 14) (L' := [(0, .ref 143), (1, .int X1), (2, .int X2)]) (Ps := []) (rest := []) hq (z_at.mk 3 rfl rfl) (Or.inl ⟨rfl, rfl⟩) rfl rfl (by decide) (by decide) rfl (Nat.not_lt.mpr (Nat.le_of_ble_eq_true rfl)) rfl rfl (z_cat_le 0 rfl (by decide)) (z_lgl_le 1 rfl (by decide)) (by decide) (H.tg rfl) (by omega) (g_m_here_ok H h_11) rfl rfl ?_
      intro R_11 m_11 p_11 e_11 hR_11 H_11
      subst e_11
      refine r_p hq 1 (pc' := 16) (L' := [(0, .ref 143), (1, .int X1), (2, .int X2)]) (st' := [.int ((38 : Int32)), .int R_11]) rfl ?_
      rcases z_ite h with ⟨c_16, h⟩ | ⟨c_16, h⟩
      · refine r_t2 (pc' := 38) (L' := [(2, .int X2)]) hq (z_at.mk 3 rfl rfl) rfl hR_11 (rfl : (38 : Int32).toInt = 38) c_16 rfl rfl ?_
        refine r_p hq 1 (pc' := 39) (L' := [(2, .int X2)]) (st' := [.int X2]) rfl ?_
        obtain ⟨g_39, h⟩ := z_if_some h
        cases h
        exact r_ri hq (z_at.mk 1 rfl rfl) rfl (z_rty_bo hx2 g_39) hx2 rfl H_11
      · refine r_f2 (pc' := 19) (L' := [(0, .ref 143), (1, .int X1), (2, .int X2)]) hq (z_at.mk 3 rfl rfl) rfl hR_11 (rfl : (38 : Int32).toInt = 38) c_16 rfl rfl ?_
        refine r_p hq 2 (pc' := 21) (L' := [(0, .ref 143), (1, .int X1), (2, .int X2)]) (st' := [.ref 143, .ref 143]) rfl ?_
        refine r_gI (pc' := 24) (L' := [(0, .ref 143), (1, .int X1), (2, .int X2)]) H_11 hq (z_at.mk 3 rfl rfl) rfl rfl rfl rfl ?_
        intro V_21 hV_21
        refine r_p hq 2 (pc' := 26) (L' := [(0, .ref 143), (1, .int X1), (2, .int X2)]) (st' := [.int (V_21 + ((1 : Int32))), .ref 143]) rfl ?_
        refine r_pI (X := V_21 + ((1 : Int32))) (pc' := 29) (L' := [(0, .ref 143), (1, .int X1), (2, .int X2)]) H_11 hq (z_at.mk 3 rfl rfl) rfl rfl (tx_iadd hV_21 (rfl : (1 : Int32).toInt = 1)) (by decide) rfl rfl rfl rfl ?_
        intro m_26 H_26
        refine r_p hq 2 (pc' := 31) (L' := [(0, .ref 143), (1, .int X1), (2, .int X2)]) (st' := [.int X1, .ref 143]) rfl ?_
        obtain ⟨o_31, h_31, h⟩ := Option.bind_eq_some_iff.mp h
        refine r_cvI (pc' := 34) (L' := [(0, .ref 143), (1, .int X1), (2, .int X2)]) (Ps := [.int X1]) (rest := []) hq (z_at.mk 3 rfl rfl) (Or.inl ⟨rfl, rfl⟩) rfl rfl (by decide) (by decide) rfl (Nat.not_lt.mpr (Nat.le_of_ble_eq_true rfl)) rfl rfl (z_cat_le 0 rfl (by decide)) (z_lgl_le 2 rfl (by decide)) (by decide) (H_26.tg rfl) (by omega) (hrec 225 (by simp) hx1 H_26 h_31) rfl rfl ?_
        intro R_31 m_31 p_31 e_31 hR_31 H_31
        subst e_31
        refine r_p hq 2 (pc' := 6) (L' := [(0, .ref 143), (1, .int X1), (2, .int R_31)]) (st' := []) rfl ?_
        exact ih hx1 hR_31 H_31 h
def g_m_isBoth (rec : Nat → Int → zS → Option (Int × zS)) (x1 : Int) (σ : zS) : Option (Int × zS) :=
  (rec 225 x1 σ).bind fun o_2 =>
  g_m_isBoth_L6 rec zK x1 o_2.1 o_2.2
set_option maxHeartbeats 4000000 in
theorem g_m_isBoth_ok {xl : Nat} {xs : Nat → Int32} {dr : Nat} (hdr : 5 ≤ dr) {rec : Nat → Int → zS → Option (Int × zS)} (hrec : ∀ j, j ∈ [225, 226, 227] → ∀ {X1 : Int32} {x1 : Int} {σ : zS} {p : Nat} {m : zM} {o : Int × zS}, X1.toInt = x1 → zRep xl xs p m σ → rec j x1 σ = some o → zGo xl xs (fun p' => p = p') dr j 0 (z_can j 0 (lv_args 0 [.ref 143, .int X1])) [] m (vI o.1) o.2) {X1 : Int32} {x1 : Int} (hx1 : X1.toInt = x1) {σ : zS} {p : Nat} {m : zM} {o : Int × zS} (H : zRep xl xs p m σ) (h : g_m_isBoth rec x1 σ = some o) : zGo xl xs (fun p' => p = p') (dr + 1) 226 0 (z_can 226 0 (lv_args 0 [.ref 143, .int X1])) [] m (vI o.1) o.2 := by
  have hq : z_mth 226 = some z_r226 := rfl
  unfold g_m_isBoth at h
  show zGo xl xs (fun p' => p = p') (dr + 1) 226 0 [(0, .ref 143), (1, .int X1)] [] m (vI o.1) o.2
  refine r_p hq 2 (pc' := 2) (L' := [(0, .ref 143), (1, .int X1)]) (st' := [.int X1, .ref 143]) rfl ?_
  obtain ⟨o_2, h_2, h⟩ := Option.bind_eq_some_iff.mp h
  refine r_cvI (pc' := 5) (L' := [(0, .ref 143), (1, .int X1)]) (Ps := [.int X1]) (rest := []) hq (z_at.mk 3 rfl rfl) (Or.inl ⟨rfl, rfl⟩) rfl rfl (by decide) (by decide) rfl (Nat.not_lt.mpr (Nat.le_of_ble_eq_true rfl)) rfl rfl (z_cat_le 0 rfl (by decide)) (z_lgl_le 2 rfl (by decide)) (by decide) (H.tg rfl) (by omega) (hrec 225 (by simp) hx1 H h_2) rfl rfl ?_
  intro R_2 m_2 p_2 e_2 hR_2 H_2
  subst e_2
  refine r_p hq 1 (pc' := 6) (L' := [(0, .ref 143), (1, .int X1), (2, .int R_2)]) (st' := []) rfl ?_
  exact g_m_isBoth_L6_ok hdr hrec zK hx1 hR_2 H_2 h
def g_m_isEither_L6 (rec : Nat → Int → zS → Option (Int × zS)) : Nat → Int → Int → zS → Option (Int × zS)
  | 0, _, _, _ => none
  | n + 1, x1, x2, σ =>
    if x2 = 0 then
      if x2 = 0 ∨ x2 = 1 then some (x2, σ) else none
    else
      (g_m_here σ).bind fun o_11 =>
      if o_11.1 ≠ 124 then
        if x2 = 0 ∨ x2 = 1 then some (x2, o_11.2) else none
      else
        let v_21 := o_11.2 143 21
        let s_26 := zu o_11.2 143 21 (w32 (v_21 + 1))
        (rec 226 x1 s_26).bind fun o_31 =>
        (g_m_isEither_L6 rec n) x1 o_31.1 o_31.2
set_option maxHeartbeats 4000000 in
theorem g_m_isEither_L6_ok {xl : Nat} {xs : Nat → Int32} {dr : Nat} (hdr : 5 ≤ dr) {rec : Nat → Int → zS → Option (Int × zS)} (hrec : ∀ j, j ∈ [225, 226, 227] → ∀ {X1 : Int32} {x1 : Int} {σ : zS} {p : Nat} {m : zM} {o : Int × zS}, X1.toInt = x1 → zRep xl xs p m σ → rec j x1 σ = some o → zGo xl xs (fun p' => p = p') dr j 0 (z_can j 0 (lv_args 0 [.ref 143, .int X1])) [] m (vI o.1) o.2) : ∀ (n : Nat) {X1 : Int32} {x1 : Int} {X2 : Int32} {x2 : Int} {σ : zS} {p : Nat} {m : zM} {o : Int × zS}, X1.toInt = x1 → X2.toInt = x2 → zRep xl xs p m σ → g_m_isEither_L6 rec n x1 x2 σ = some o → zGo xl xs (fun p' => p = p') (dr + 1) 227 6 [(0, .ref 143), (1, .int X1), (2, .int X2)] [] m (vI o.1) o.2
  | 0, _, _, _, _, _, _, _, _, _, _, _, h => by cases h
  | n + 1, X1, x1, X2, x2, σ, p, m, o, hx1, hx2, H, h => by
    have hq : z_mth 227 = some z_r227 := rfl
    have ih := fun {X1 : Int32} {x1 : Int} {X2 : Int32} {x2 : Int} {σ : zS} {p : Nat} {m : zM} {o : Int × zS} => g_m_isEither_L6_ok (xl := xl) (xs := xs) hdr hrec n (X1 := X1) (x1 := x1) (X2 := X2) (x2 := x2) (σ := σ) (p := p) (m := m) (o := o)
    unfold g_m_isEither_L6 at h
    refine r_p hq 1 (pc' := 7) (L' := [(0, .ref 143), (1, .int X1), (2, .int X2)]) (st' := [.int X2]) rfl ?_
    rcases z_ite h with ⟨c_7, h⟩ | ⟨c_7, h⟩
    · refine r_t1 (pc' := 38) (L' := [(2, .int X2)]) hq (z_at.mk 3 rfl rfl) rfl hx2 c_7 rfl rfl ?_
      refine r_p hq 1 (pc' := 39) (L' := [(2, .int X2)]) (st' := [.int X2]) rfl ?_
      obtain ⟨g_39, h⟩ := z_if_some h
      cases h
      exact r_ri hq (z_at.mk 1 rfl rfl) rfl (z_rty_bo hx2 g_39) hx2 rfl H
    · refine r_f1 (pc' := 10) (L' := [(0, .ref 143), (1, .int X1), (2, .int X2)]) hq (z_at.mk 3 rfl rfl) rfl hx2 c_7 rfl rfl ?_
      refine r_p hq 1 (pc' := 11) (L' := [(0, .ref 143), (1, .int X1), (2, .int X2)]) (st' := [.ref 143]) rfl ?_
      obtain ⟨o_11, h_11, h⟩ := Option.bind_eq_some_iff.mp h
      refine r_cvI (pc' := 14) (L' := [(0, .ref 143), (1, .int X1), (2, .int X2)]) (Ps := []) (rest := []) hq (z_at.mk 3 rfl rfl) (Or.inl ⟨rfl, rfl⟩) rfl rfl (by decide) (by decide) rfl (Nat.not_lt.mpr (Nat.le_of_ble_eq_true rfl)) rfl rfl (z_cat_le 0 rfl (by decide)) (z_lgl_le 1 rfl (by decide)) (by decide) (H.tg rfl) (by omega) (g_m_here_ok H h_11) rfl rfl ?_
      intro R_11 m_11 p_11 e_11 hR_11 H_11
      subst e_11
      refine r_p hq 1 (pc' := 16) (L' := [(0, .ref 143), (1, .int X1), (2, .int X2)]) (st' := [.int ((124 : Int32)), .int R_11]) rfl ?_
      rcases z_ite h with ⟨c_16, h⟩ | ⟨c_16, h⟩
      · refine r_t2 (pc' := 38) (L' := [(2, .int X2)]) hq (z_at.mk 3 rfl rfl) rfl hR_11 (rfl : (124 : Int32).toInt = 124) c_16 rfl rfl ?_
        refine r_p hq 1 (pc' := 39) (L' := [(2, .int X2)]) (st' := [.int X2]) rfl ?_
        obtain ⟨g_39, h⟩ := z_if_some h
        cases h
        exact r_ri hq (z_at.mk 1 rfl rfl) rfl (z_rty_bo hx2 g_39) hx2 rfl H_11
      · refine r_f2 (pc' := 19) (L' := [(0, .ref 143), (1, .int X1), (2, .int X2)]) hq (z_at.mk 3 rfl rfl) rfl hR_11 (rfl : (124 : Int32).toInt = 124) c_16 rfl rfl ?_
        refine r_p hq 2 (pc' := 21) (L' := [(0, .ref 143), (1, .int X1), (2, .int X2)]) (st' := [.ref 143, .ref 143]) rfl ?_
        refine r_gI (pc' := 24) (L' := [(0, .ref 143), (1, .int X1), (2, .int X2)]) H_11 hq (z_at.mk 3 rfl rfl) rfl rfl rfl rfl ?_
        intro V_21 hV_21
        refine r_p hq 2 (pc' := 26) (L' := [(0, .ref 143), (1, .int X1), (2, .int X2)]) (st' := [.int (V_21 + ((1 : Int32))), .ref 143]) rfl ?_
        refine r_pI (X := V_21 + ((1 : Int32))) (pc' := 29) (L' := [(0, .ref 143), (1, .int X1), (2, .int X2)]) H_11 hq (z_at.mk 3 rfl rfl) rfl rfl (tx_iadd hV_21 (rfl : (1 : Int32).toInt = 1)) (by decide) rfl rfl rfl rfl ?_
        intro m_26 H_26
        refine r_p hq 2 (pc' := 31) (L' := [(0, .ref 143), (1, .int X1), (2, .int X2)]) (st' := [.int X1, .ref 143]) rfl ?_
        obtain ⟨o_31, h_31, h⟩ := Option.bind_eq_some_iff.mp h
        refine r_cvI (pc' := 34) (L' := [(0, .ref 143), (1, .int X1), (2, .int X2)]) (Ps := [.int X1]) (rest := []) hq (z_at.mk 3 rfl rfl) (Or.inl ⟨rfl, rfl⟩) rfl rfl (by decide) (by decide) rfl (Nat.not_lt.mpr (Nat.le_of_ble_eq_true rfl)) rfl rfl (z_cat_le 0 rfl (by decide)) (z_lgl_le 2 rfl (by decide)) (by decide) (H_26.tg rfl) (by omega) (hrec 226 (by simp) hx1 H_26 h_31) rfl rfl ?_
        intro R_31 m_31 p_31 e_31 hR_31 H_31
        subst e_31
        refine r_p hq 2 (pc' := 6) (L' := [(0, .ref 143), (1, .int X1), (2, .int R_31)]) (st' := []) rfl ?_
        exact ih hx1 hR_31 H_31 h
def g_m_isEither (rec : Nat → Int → zS → Option (Int × zS)) (x1 : Int) (σ : zS) : Option (Int × zS) :=
  (rec 226 x1 σ).bind fun o_2 =>
  g_m_isEither_L6 rec zK x1 o_2.1 o_2.2
set_option maxHeartbeats 4000000 in
theorem g_m_isEither_ok {xl : Nat} {xs : Nat → Int32} {dr : Nat} (hdr : 5 ≤ dr) {rec : Nat → Int → zS → Option (Int × zS)} (hrec : ∀ j, j ∈ [225, 226, 227] → ∀ {X1 : Int32} {x1 : Int} {σ : zS} {p : Nat} {m : zM} {o : Int × zS}, X1.toInt = x1 → zRep xl xs p m σ → rec j x1 σ = some o → zGo xl xs (fun p' => p = p') dr j 0 (z_can j 0 (lv_args 0 [.ref 143, .int X1])) [] m (vI o.1) o.2) {X1 : Int32} {x1 : Int} (hx1 : X1.toInt = x1) {σ : zS} {p : Nat} {m : zM} {o : Int × zS} (H : zRep xl xs p m σ) (h : g_m_isEither rec x1 σ = some o) : zGo xl xs (fun p' => p = p') (dr + 1) 227 0 (z_can 227 0 (lv_args 0 [.ref 143, .int X1])) [] m (vI o.1) o.2 := by
  have hq : z_mth 227 = some z_r227 := rfl
  unfold g_m_isEither at h
  show zGo xl xs (fun p' => p = p') (dr + 1) 227 0 [(0, .ref 143), (1, .int X1)] [] m (vI o.1) o.2
  refine r_p hq 2 (pc' := 2) (L' := [(0, .ref 143), (1, .int X1)]) (st' := [.int X1, .ref 143]) rfl ?_
  obtain ⟨o_2, h_2, h⟩ := Option.bind_eq_some_iff.mp h
  refine r_cvI (pc' := 5) (L' := [(0, .ref 143), (1, .int X1)]) (Ps := [.int X1]) (rest := []) hq (z_at.mk 3 rfl rfl) (Or.inl ⟨rfl, rfl⟩) rfl rfl (by decide) (by decide) rfl (Nat.not_lt.mpr (Nat.le_of_ble_eq_true rfl)) rfl rfl (z_cat_le 0 rfl (by decide)) (z_lgl_le 2 rfl (by decide)) (by decide) (H.tg rfl) (by omega) (hrec 226 (by simp) hx1 H h_2) rfl rfl ?_
  intro R_2 m_2 p_2 e_2 hR_2 H_2
  subst e_2
  refine r_p hq 1 (pc' := 6) (L' := [(0, .ref 143), (1, .int X1), (2, .int R_2)]) (st' := []) rfl ?_
  exact g_m_isEither_L6_ok hdr hrec zK hx1 hR_2 H_2 h
def g_grp225 : Nat → Nat → Int → zS → Option (Int × zS)
  | 0, _, _, _ => none
  | n + 1, j, x1, σ =>
    if j = 225 then g_m_isFactor (g_grp225 n) x1 σ else
    if j = 226 then g_m_isBoth (g_grp225 n) x1 σ else
    if j = 227 then g_m_isEither (g_grp225 n) x1 σ else
    none
theorem g_grp225_ok {xl : Nat} {xs : Nat → Int32} : ∀ (n : Nat) (j : Nat), j ∈ [225, 226, 227] → ∀ {X1 : Int32} {x1 : Int} {σ : zS} {p : Nat} {m : zM} {o : Int × zS}, X1.toInt = x1 → zRep xl xs p m σ → g_grp225 n j x1 σ = some o → zGo xl xs (fun p' => p = p') (5 + n) j 0 (z_can j 0 (lv_args 0 [.ref 143, .int X1])) [] m (vI o.1) o.2
  | 0, _, _, _, _, _, _, _, _, _, _, h => by cases h
  | n + 1, j, hj, X1, x1, σ, p, m, o, hx1, H, h => by
    have ih := fun (j : Nat) (hj : j ∈ [225, 226, 227]) {X1 : Int32} {x1 : Int} {σ : zS} {p : Nat} {m : zM} {o : Int × zS} => g_grp225_ok (xl := xl) (xs := xs) n j hj (X1 := X1) (x1 := x1) (σ := σ) (p := p) (m := m) (o := o)
    unfold g_grp225 at h
    by_cases c_225 : j = 225
    · rw [if_pos c_225] at h
      subst c_225
      exact g_m_isFactor_ok (Nat.le_add_right _ _) ih hx1 H h
    rw [if_neg c_225] at h
    by_cases c_226 : j = 226
    · rw [if_pos c_226] at h
      subst c_226
      exact g_m_isBoth_ok (Nat.le_add_right _ _) ih hx1 H h
    rw [if_neg c_226] at h
    by_cases c_227 : j = 227
    · rw [if_pos c_227] at h
      subst c_227
      exact g_m_isEither_ok (Nat.le_add_right _ _) ih hx1 H h
    rw [if_neg c_227] at h
    cases h
def g_m_isQuery (x1 : Int) (σ : zS) : Option (Int × zS) :=
  (g_m_word 14 σ).bind fun o_14 =>
  if 0 ≤ w32 (6 * x1) ∧ w32 (6 * x1) < 48 then
  let s_17 := zu o_14.2 161 (w32 (6 * x1)) o_14.1
  if 0 ≤ w32 (6 * x1) ∧ w32 (6 * x1) < 48 then
  let v_23 := s_17 161 (w32 (6 * x1))
  if v_23 < 0 then
    some (0, s_17)
  else
    (g_m_isSign 32 s_17).bind fun o_30 =>
    if o_30.1 = 0 then
      some (0, o_30.2)
    else
      (g_m_isRange (w32 ((w32 (6 * x1)) + 1)) o_30.2).bind fun o_40 =>
      if o_40.1 = 0 then
        some (0, o_40.2)
      else
        (g_m_isSign 32 o_40.2).bind fun o_49 =>
        if o_49.1 = 0 then
          some (0, o_49.2)
        else
          (g_m_isRange (w32 ((w32 (6 * x1)) + 3)) o_49.2).bind fun o_59 =>
          if o_59.1 ≠ 0 then
            if 0 ≤ w32 ((w32 (6 * x1)) + 5) ∧ w32 ((w32 (6 * x1)) + 5) < 48 then
            let s_75 := zu o_59.2 161 (w32 ((w32 (6 * x1)) + 5)) (-1)
            (g_m_here s_75).bind fun o_77 =>
            if o_77.1 = 32 then
              let v_89 := o_77.2 143 21
              let s_94 := zu o_77.2 143 21 (w32 (v_89 + 1))
              (g_m_word 15 s_94).bind fun o_101 =>
              if o_101.1 < 0 then
                some (0, o_101.2)
              else
                (g_m_isSign 32 o_101.2).bind fun o_110 =>
                if o_110.1 ≠ 0 then
                  let v_126 := o_110.2 143 21
                  if 0 ≤ w32 ((w32 (6 * x1)) + 5) ∧ w32 ((w32 (6 * x1)) + 5) < 48 then
                  let s_129 := zu o_110.2 161 (w32 ((w32 (6 * x1)) + 5)) v_126
                  (g_grp225 zR 227 0 s_129).bind fun o_132 =>
                  if o_132.1 = 0 ∨ o_132.1 = 1 then some (o_132.1, o_132.2) else none
                  else none
                else
                  some (0, o_110.2)
            else
              some (1, o_77.2)
            else none
          else
            some (0, o_59.2)
  else none
  else none
set_option maxHeartbeats 4000000 in
theorem g_m_isQuery_ok {xl : Nat} {xs : Nat → Int32} {X1 : Int32} {x1 : Int} (hx1 : X1.toInt = x1) {σ : zS} {p : Nat} {m : zM} {o : Int × zS} (H : zRep xl xs p m σ) (h : g_m_isQuery x1 σ = some o) : zGo xl xs (fun p' => p = p') 506 228 0 (z_can 228 0 (lv_args 0 [.ref 143, .int X1])) [] m (vI o.1) o.2 := by
  have hq : z_mth 228 = some z_r228 := rfl
  unfold g_m_isQuery at h
  show zGo xl xs (fun p' => p = p') 506 228 0 [(0, .ref 143), (1, .int X1)] [] m (vI o.1) o.2
  refine r_p hq 5 (pc' := 6) (L' := [(2, .int (((6 : Int32)) * X1)), (0, .ref 143), (1, .int X1)]) (st' := [.ref 143]) rfl ?_
  refine r_gR (b := 161) (pc' := 9) (L' := [(2, .int (((6 : Int32)) * X1)), (0, .ref 143), (1, .int X1)]) H hq (z_at.mk 3 rfl rfl) rfl rfl rfl rfl ?_
  refine r_p hq 3 (pc' := 14) (L' := [(2, .int (((6 : Int32)) * X1)), (0, .ref 143), (1, .int X1)]) (st' := [.ref 14, .ref 143, .int (((6 : Int32)) * X1), .ref 161]) rfl ?_
  obtain ⟨o_14, h_14, h⟩ := Option.bind_eq_some_iff.mp h
  refine r_cvI (pc' := 17) (L' := [(2, .int (((6 : Int32)) * X1)), (0, .ref 143), (1, .int X1)]) (Ps := [.ref 14]) (rest := [.int (((6 : Int32)) * X1), .ref 161]) hq (z_at.mk 3 rfl rfl) (Or.inl ⟨rfl, rfl⟩) rfl rfl (by decide) (by decide) rfl (Nat.not_lt.mpr (Nat.le_of_ble_eq_true rfl)) rfl rfl (z_cat_le 2 rfl (by decide)) (z_lgl_le 2 rfl (by decide)) (by decide) (H.tg rfl) (by omega) (g_m_word_ok rfl H h_14) rfl rfl ?_
  intro R_14 m_14 p_14 e_14 hR_14 H_14
  subst e_14
  obtain ⟨g_17, h⟩ := z_ifo_some h
  refine r_is (pc' := 18) (L' := [(2, .int (((6 : Int32)) * X1)), (0, .ref 143), (1, .int X1)]) H_14 hq (z_at.mk 1 rfl rfl) (show zAr 161 0 48 = true from rfl) (tx_imul (rfl : (6 : Int32).toInt = 6) hx1) g_17 hR_14 rfl rfl ?_
  intro m_17 H_17
  refine r_p hq 1 (pc' := 19) (L' := [(2, .int (((6 : Int32)) * X1)), (0, .ref 143), (1, .int X1)]) (st' := [.ref 143]) rfl ?_
  refine r_gR (b := 161) (pc' := 22) (L' := [(2, .int (((6 : Int32)) * X1)), (0, .ref 143), (1, .int X1)]) H_17 hq (z_at.mk 3 rfl rfl) rfl rfl rfl rfl ?_
  refine r_p hq 1 (pc' := 23) (L' := [(2, .int (((6 : Int32)) * X1)), (0, .ref 143), (1, .int X1)]) (st' := [.int (((6 : Int32)) * X1), .ref 161]) rfl ?_
  obtain ⟨g_23, h⟩ := z_ifo_some h
  refine r_ia (pc' := 24) (L' := [(2, .int (((6 : Int32)) * X1)), (0, .ref 143), (1, .int X1)]) H_17 hq (z_at.mk 1 rfl rfl) (show zAr 161 0 48 = true from rfl) (tx_imul (rfl : (6 : Int32).toInt = 6) hx1) g_23 rfl rfl ?_
  intro V_23 hV_23
  rcases z_ite h with ⟨c_24, h⟩ | ⟨c_24, h⟩
  · refine r_t1 (pc' := 65) (L' := []) hq (z_at.mk 3 rfl rfl) rfl hV_23 c_24 rfl rfl ?_
    refine r_p hq 1 (pc' := 66) (L' := []) (st' := [.int ((0 : Int32))]) rfl ?_
    cases h
    exact r_ri hq (z_at.mk 1 rfl rfl) rfl rfl (rfl : (0 : Int32).toInt = 0) rfl H_17
  · refine r_f1 (pc' := 27) (L' := [(2, .int (((6 : Int32)) * X1)), (0, .ref 143), (1, .int X1)]) hq (z_at.mk 3 rfl rfl) rfl hV_23 c_24 rfl rfl ?_
    refine r_p hq 2 (pc' := 30) (L' := [(2, .int (((6 : Int32)) * X1)), (0, .ref 143), (1, .int X1)]) (st' := [.int ((32 : Int32)), .ref 143]) rfl ?_
    obtain ⟨o_30, h_30, h⟩ := Option.bind_eq_some_iff.mp h
    refine r_cvI (pc' := 33) (L' := [(2, .int (((6 : Int32)) * X1)), (0, .ref 143), (1, .int X1)]) (Ps := [.int ((32 : Int32))]) (rest := []) hq (z_at.mk 3 rfl rfl) (Or.inl ⟨rfl, rfl⟩) rfl rfl (by decide) (by decide) rfl (Nat.not_lt.mpr (Nat.le_of_ble_eq_true rfl)) rfl rfl (z_cat_le 0 rfl (by decide)) (z_lgl_le 2 rfl (by decide)) (by decide) (H_17.tg rfl) (by omega) (g_m_isSign_ok (rfl : (32 : Int32).toInt = 32) H_17 h_30) rfl rfl ?_
    intro R_30 m_30 p_30 e_30 hR_30 H_30
    subst e_30
    rcases z_ite h with ⟨c_33, h⟩ | ⟨c_33, h⟩
    · refine r_t1 (pc' := 65) (L' := []) hq (z_at.mk 3 rfl rfl) rfl hR_30 c_33 rfl rfl ?_
      refine r_p hq 1 (pc' := 66) (L' := []) (st' := [.int ((0 : Int32))]) rfl ?_
      cases h
      exact r_ri hq (z_at.mk 1 rfl rfl) rfl rfl (rfl : (0 : Int32).toInt = 0) rfl H_30
    · refine r_f1 (pc' := 36) (L' := [(2, .int (((6 : Int32)) * X1)), (0, .ref 143), (1, .int X1)]) hq (z_at.mk 3 rfl rfl) rfl hR_30 c_33 rfl rfl ?_
      refine r_p hq 4 (pc' := 40) (L' := [(2, .int (((6 : Int32)) * X1)), (0, .ref 143), (1, .int X1)]) (st' := [.int ((((6 : Int32)) * X1) + ((1 : Int32))), .ref 143]) rfl ?_
      obtain ⟨o_40, h_40, h⟩ := Option.bind_eq_some_iff.mp h
      refine r_cvI (pc' := 43) (L' := [(2, .int (((6 : Int32)) * X1)), (0, .ref 143), (1, .int X1)]) (Ps := [.int ((((6 : Int32)) * X1) + ((1 : Int32)))]) (rest := []) hq (z_at.mk 3 rfl rfl) (Or.inl ⟨rfl, rfl⟩) rfl rfl (by decide) (by decide) rfl (Nat.not_lt.mpr (Nat.le_of_ble_eq_true rfl)) rfl rfl (z_cat_le 0 rfl (by decide)) (z_lgl_le 2 rfl (by decide)) (by decide) (H_30.tg rfl) (by omega) (g_m_isRange_ok (tx_iadd (tx_imul (rfl : (6 : Int32).toInt = 6) hx1) (rfl : (1 : Int32).toInt = 1)) H_30 h_40) rfl rfl ?_
      intro R_40 m_40 p_40 e_40 hR_40 H_40
      subst e_40
      rcases z_ite h with ⟨c_43, h⟩ | ⟨c_43, h⟩
      · refine r_t1 (pc' := 65) (L' := []) hq (z_at.mk 3 rfl rfl) rfl hR_40 c_43 rfl rfl ?_
        refine r_p hq 1 (pc' := 66) (L' := []) (st' := [.int ((0 : Int32))]) rfl ?_
        cases h
        exact r_ri hq (z_at.mk 1 rfl rfl) rfl rfl (rfl : (0 : Int32).toInt = 0) rfl H_40
      · refine r_f1 (pc' := 46) (L' := [(2, .int (((6 : Int32)) * X1)), (0, .ref 143), (1, .int X1)]) hq (z_at.mk 3 rfl rfl) rfl hR_40 c_43 rfl rfl ?_
        refine r_p hq 2 (pc' := 49) (L' := [(2, .int (((6 : Int32)) * X1)), (0, .ref 143), (1, .int X1)]) (st' := [.int ((32 : Int32)), .ref 143]) rfl ?_
        obtain ⟨o_49, h_49, h⟩ := Option.bind_eq_some_iff.mp h
        refine r_cvI (pc' := 52) (L' := [(2, .int (((6 : Int32)) * X1)), (0, .ref 143), (1, .int X1)]) (Ps := [.int ((32 : Int32))]) (rest := []) hq (z_at.mk 3 rfl rfl) (Or.inl ⟨rfl, rfl⟩) rfl rfl (by decide) (by decide) rfl (Nat.not_lt.mpr (Nat.le_of_ble_eq_true rfl)) rfl rfl (z_cat_le 0 rfl (by decide)) (z_lgl_le 2 rfl (by decide)) (by decide) (H_40.tg rfl) (by omega) (g_m_isSign_ok (rfl : (32 : Int32).toInt = 32) H_40 h_49) rfl rfl ?_
        intro R_49 m_49 p_49 e_49 hR_49 H_49
        subst e_49
        rcases z_ite h with ⟨c_52, h⟩ | ⟨c_52, h⟩
        · refine r_t1 (pc' := 65) (L' := []) hq (z_at.mk 3 rfl rfl) rfl hR_49 c_52 rfl rfl ?_
          refine r_p hq 1 (pc' := 66) (L' := []) (st' := [.int ((0 : Int32))]) rfl ?_
          cases h
          exact r_ri hq (z_at.mk 1 rfl rfl) rfl rfl (rfl : (0 : Int32).toInt = 0) rfl H_49
        · refine r_f1 (pc' := 55) (L' := [(2, .int (((6 : Int32)) * X1)), (0, .ref 143), (1, .int X1)]) hq (z_at.mk 3 rfl rfl) rfl hR_49 c_52 rfl rfl ?_
          refine r_p hq 4 (pc' := 59) (L' := [(2, .int (((6 : Int32)) * X1)), (0, .ref 143), (1, .int X1)]) (st' := [.int ((((6 : Int32)) * X1) + ((3 : Int32))), .ref 143]) rfl ?_
          obtain ⟨o_59, h_59, h⟩ := Option.bind_eq_some_iff.mp h
          refine r_cvI (pc' := 62) (L' := [(2, .int (((6 : Int32)) * X1)), (0, .ref 143), (1, .int X1)]) (Ps := [.int ((((6 : Int32)) * X1) + ((3 : Int32)))]) (rest := []) hq (z_at.mk 3 rfl rfl) (Or.inl ⟨rfl, rfl⟩) rfl rfl (by decide) (by decide) rfl (Nat.not_lt.mpr (Nat.le_of_ble_eq_true rfl)) rfl rfl (z_cat_le 0 rfl (by decide)) (z_lgl_le 2 rfl (by decide)) (by decide) (H_49.tg rfl) (by omega) (g_m_isRange_ok (tx_iadd (tx_imul (rfl : (6 : Int32).toInt = 6) hx1) (rfl : (3 : Int32).toInt = 3)) H_49 h_59) rfl rfl ?_
          intro R_59 m_59 p_59 e_59 hR_59 H_59
          subst e_59
          rcases z_ite h with ⟨c_62, h⟩ | ⟨c_62, h⟩
          · refine r_t1 (pc' := 67) (L' := [(2, .int (((6 : Int32)) * X1)), (0, .ref 143), (1, .int X1)]) hq (z_at.mk 3 rfl rfl) rfl hR_59 c_62 rfl rfl ?_
            refine r_p hq 1 (pc' := 68) (L' := [(2, .int (((6 : Int32)) * X1)), (0, .ref 143), (1, .int X1)]) (st' := [.ref 143]) rfl ?_
            refine r_gR (b := 161) (pc' := 71) (L' := [(2, .int (((6 : Int32)) * X1)), (0, .ref 143), (1, .int X1)]) H_59 hq (z_at.mk 3 rfl rfl) rfl rfl rfl rfl ?_
            refine r_p hq 4 (pc' := 75) (L' := [(2, .int (((6 : Int32)) * X1)), (0, .ref 143), (1, .int X1)]) (st' := [.int ((-1 : Int32)), .int ((((6 : Int32)) * X1) + ((5 : Int32))), .ref 161]) rfl ?_
            obtain ⟨g_75, h⟩ := z_ifo_some h
            refine r_is (pc' := 76) (L' := [(2, .int (((6 : Int32)) * X1)), (0, .ref 143), (1, .int X1)]) H_59 hq (z_at.mk 1 rfl rfl) (show zAr 161 0 48 = true from rfl) (tx_iadd (tx_imul (rfl : (6 : Int32).toInt = 6) hx1) (rfl : (5 : Int32).toInt = 5)) g_75 (rfl : (-1 : Int32).toInt = -1) rfl rfl ?_
            intro m_75 H_75
            refine r_p hq 1 (pc' := 77) (L' := [(2, .int (((6 : Int32)) * X1)), (0, .ref 143), (1, .int X1)]) (st' := [.ref 143]) rfl ?_
            obtain ⟨o_77, h_77, h⟩ := Option.bind_eq_some_iff.mp h
            refine r_cvI (pc' := 80) (L' := [(2, .int (((6 : Int32)) * X1)), (0, .ref 143), (1, .int X1)]) (Ps := []) (rest := []) hq (z_at.mk 3 rfl rfl) (Or.inl ⟨rfl, rfl⟩) rfl rfl (by decide) (by decide) rfl (Nat.not_lt.mpr (Nat.le_of_ble_eq_true rfl)) rfl rfl (z_cat_le 0 rfl (by decide)) (z_lgl_le 1 rfl (by decide)) (by decide) (H_75.tg rfl) (by omega) (g_m_here_ok H_75 h_77) rfl rfl ?_
            intro R_77 m_77 p_77 e_77 hR_77 H_77
            subst e_77
            refine r_p hq 1 (pc' := 82) (L' := [(2, .int (((6 : Int32)) * X1)), (0, .ref 143), (1, .int X1)]) (st' := [.int ((32 : Int32)), .int R_77]) rfl ?_
            rcases z_ite h with ⟨c_82, h⟩ | ⟨c_82, h⟩
            · refine r_t2 (pc' := 87) (L' := [(2, .int (((6 : Int32)) * X1)), (0, .ref 143), (1, .int X1)]) hq (z_at.mk 3 rfl rfl) rfl hR_77 (rfl : (32 : Int32).toInt = 32) c_82 rfl rfl ?_
              refine r_p hq 2 (pc' := 89) (L' := [(2, .int (((6 : Int32)) * X1)), (0, .ref 143), (1, .int X1)]) (st' := [.ref 143, .ref 143]) rfl ?_
              refine r_gI (pc' := 92) (L' := [(2, .int (((6 : Int32)) * X1)), (0, .ref 143), (1, .int X1)]) H_77 hq (z_at.mk 3 rfl rfl) rfl rfl rfl rfl ?_
              intro V_89 hV_89
              refine r_p hq 2 (pc' := 94) (L' := [(2, .int (((6 : Int32)) * X1)), (0, .ref 143), (1, .int X1)]) (st' := [.int (V_89 + ((1 : Int32))), .ref 143]) rfl ?_
              refine r_pI (X := V_89 + ((1 : Int32))) (pc' := 97) (L' := [(2, .int (((6 : Int32)) * X1)), (0, .ref 143), (1, .int X1)]) H_77 hq (z_at.mk 3 rfl rfl) rfl rfl (tx_iadd hV_89 (rfl : (1 : Int32).toInt = 1)) (by decide) rfl rfl rfl rfl ?_
              intro m_94 H_94
              refine r_p hq 2 (pc' := 101) (L' := [(2, .int (((6 : Int32)) * X1)), (0, .ref 143), (1, .int X1)]) (st' := [.ref 15, .ref 143]) rfl ?_
              obtain ⟨o_101, h_101, h⟩ := Option.bind_eq_some_iff.mp h
              refine r_cvI (pc' := 104) (L' := [(2, .int (((6 : Int32)) * X1)), (0, .ref 143), (1, .int X1)]) (Ps := [.ref 15]) (rest := []) hq (z_at.mk 3 rfl rfl) (Or.inl ⟨rfl, rfl⟩) rfl rfl (by decide) (by decide) rfl (Nat.not_lt.mpr (Nat.le_of_ble_eq_true rfl)) rfl rfl (z_cat_le 0 rfl (by decide)) (z_lgl_le 2 rfl (by decide)) (by decide) (H_94.tg rfl) (by omega) (g_m_word_ok rfl H_94 h_101) rfl rfl ?_
              intro R_101 m_101 p_101 e_101 hR_101 H_101
              subst e_101
              rcases z_ite h with ⟨c_104, h⟩ | ⟨c_104, h⟩
              · refine r_t1 (pc' := 116) (L' := []) hq (z_at.mk 3 rfl rfl) rfl hR_101 c_104 rfl rfl ?_
                refine r_p hq 1 (pc' := 117) (L' := []) (st' := [.int ((0 : Int32))]) rfl ?_
                cases h
                exact r_ri hq (z_at.mk 1 rfl rfl) rfl rfl (rfl : (0 : Int32).toInt = 0) rfl H_101
              · refine r_f1 (pc' := 107) (L' := [(2, .int (((6 : Int32)) * X1)), (0, .ref 143), (1, .int X1)]) hq (z_at.mk 3 rfl rfl) rfl hR_101 c_104 rfl rfl ?_
                refine r_p hq 2 (pc' := 110) (L' := [(2, .int (((6 : Int32)) * X1)), (0, .ref 143), (1, .int X1)]) (st' := [.int ((32 : Int32)), .ref 143]) rfl ?_
                obtain ⟨o_110, h_110, h⟩ := Option.bind_eq_some_iff.mp h
                refine r_cvI (pc' := 113) (L' := [(2, .int (((6 : Int32)) * X1)), (0, .ref 143), (1, .int X1)]) (Ps := [.int ((32 : Int32))]) (rest := []) hq (z_at.mk 3 rfl rfl) (Or.inl ⟨rfl, rfl⟩) rfl rfl (by decide) (by decide) rfl (Nat.not_lt.mpr (Nat.le_of_ble_eq_true rfl)) rfl rfl (z_cat_le 0 rfl (by decide)) (z_lgl_le 2 rfl (by decide)) (by decide) (H_101.tg rfl) (by omega) (g_m_isSign_ok (rfl : (32 : Int32).toInt = 32) H_101 h_110) rfl rfl ?_
                intro R_110 m_110 p_110 e_110 hR_110 H_110
                subst e_110
                rcases z_ite h with ⟨c_113, h⟩ | ⟨c_113, h⟩
                · refine r_t1 (pc' := 118) (L' := [(2, .int (((6 : Int32)) * X1)), (0, .ref 143), (1, .int X1)]) hq (z_at.mk 3 rfl rfl) rfl hR_110 c_113 rfl rfl ?_
                  refine r_p hq 1 (pc' := 119) (L' := [(2, .int (((6 : Int32)) * X1)), (0, .ref 143), (1, .int X1)]) (st' := [.ref 143]) rfl ?_
                  refine r_gR (b := 161) (pc' := 122) (L' := [(2, .int (((6 : Int32)) * X1)), (0, .ref 143), (1, .int X1)]) H_110 hq (z_at.mk 3 rfl rfl) rfl rfl rfl rfl ?_
                  refine r_p hq 4 (pc' := 126) (L' := [(2, .int (((6 : Int32)) * X1)), (0, .ref 143), (1, .int X1)]) (st' := [.ref 143, .int ((((6 : Int32)) * X1) + ((5 : Int32))), .ref 161]) rfl ?_
                  refine r_gI (pc' := 129) (L' := [(2, .int (((6 : Int32)) * X1)), (0, .ref 143), (1, .int X1)]) H_110 hq (z_at.mk 3 rfl rfl) rfl rfl rfl rfl ?_
                  intro V_126 hV_126
                  obtain ⟨g_129, h⟩ := z_ifo_some h
                  refine r_is (pc' := 130) (L' := [(2, .int (((6 : Int32)) * X1)), (0, .ref 143), (1, .int X1)]) H_110 hq (z_at.mk 1 rfl rfl) (show zAr 161 0 48 = true from rfl) (tx_iadd (tx_imul (rfl : (6 : Int32).toInt = 6) hx1) (rfl : (5 : Int32).toInt = 5)) g_129 hV_126 rfl rfl ?_
                  intro m_129 H_129
                  refine r_p hq 2 (pc' := 132) (L' := [(2, .int (((6 : Int32)) * X1)), (0, .ref 143), (1, .int X1)]) (st' := [.int ((0 : Int32)), .ref 143]) rfl ?_
                  obtain ⟨o_132, h_132, h⟩ := Option.bind_eq_some_iff.mp h
                  refine r_cvI (pc' := 135) (L' := [(2, .int (((6 : Int32)) * X1)), (0, .ref 143), (1, .int X1)]) (Ps := [.int ((0 : Int32))]) (rest := []) hq (z_at.mk 3 rfl rfl) (Or.inl ⟨rfl, rfl⟩) rfl rfl (by decide) (by decide) rfl (Nat.not_lt.mpr (Nat.le_of_ble_eq_true rfl)) rfl rfl (z_cat_le 0 rfl (by decide)) (z_lgl_le 2 rfl (by decide)) (by decide) (H_129.tg rfl) (by show 5 + zR + 1 ≤ _; unfold zR; omega) (g_grp225_ok zR 227 (by simp) (rfl : (0 : Int32).toInt = 0) H_129 h_132) rfl rfl ?_
                  intro R_132 m_132 p_132 e_132 hR_132 H_132
                  subst e_132
                  obtain ⟨g_135, h⟩ := z_if_some h
                  cases h
                  exact r_ri hq (z_at.mk 1 rfl rfl) rfl (z_rty_bo hR_132 g_135) hR_132 rfl H_132
                · refine r_f1 (pc' := 116) (L' := []) hq (z_at.mk 3 rfl rfl) rfl hR_110 c_113 rfl rfl ?_
                  refine r_p hq 1 (pc' := 117) (L' := []) (st' := [.int ((0 : Int32))]) rfl ?_
                  cases h
                  exact r_ri hq (z_at.mk 1 rfl rfl) rfl rfl (rfl : (0 : Int32).toInt = 0) rfl H_110
            · refine r_f2 (pc' := 85) (L' := [(2, .int (((6 : Int32)) * X1)), (0, .ref 143), (1, .int X1)]) hq (z_at.mk 3 rfl rfl) rfl hR_77 (rfl : (32 : Int32).toInt = 32) c_82 rfl rfl ?_
              refine r_p hq 1 (pc' := 86) (L' := [(2, .int (((6 : Int32)) * X1)), (0, .ref 143), (1, .int X1)]) (st' := [.int ((1 : Int32))]) rfl ?_
              cases h
              exact r_ri hq (z_at.mk 1 rfl rfl) rfl rfl (rfl : (1 : Int32).toInt = 1) rfl H_77
          · refine r_f1 (pc' := 65) (L' := []) hq (z_at.mk 3 rfl rfl) rfl hR_59 c_62 rfl rfl ?_
            refine r_p hq 1 (pc' := 66) (L' := []) (st' := [.int ((0 : Int32))]) rfl ?_
            cases h
            exact r_ri hq (z_at.mk 1 rfl rfl) rfl rfl (rfl : (0 : Int32).toInt = 0) rfl H_59
def g_m_run_L68 (g8 : Int → Int → zS → Option (Int × zS)) (x1 : Int) (xs0 : Int) (σ : zS) : Option (Int × zS) :=
  g8 x1 xs0 σ
set_option maxHeartbeats 4000000 in
theorem g_m_run_L68_ok {xl : Nat} {xs : Nat → Int32} {g8 : Int → Int → zS → Option (Int × zS)} (hg8 : ∀ {X1 : Int32} {x1 : Int} {X2 : Int32} {x2 : Int} {σ : zS} {p : Nat} {m : zM} {o : Int × zS}, X1.toInt = x1 → X2.toInt = x2 → zRep xl xs p m σ → g8 x1 x2 σ = some o → zGo xl xs (fun p' => p = p') 507 229 8 [(0, .ref 143), (1, .int X1), (2, .int X2)] [] m (vI o.1) o.2) {X1 : Int32} {x1 : Int} (hx1 : X1.toInt = x1) {Xs0 : Int32} {xs0 : Int} (hxs0 : Xs0.toInt = xs0) {σ : zS} {p : Nat} {m : zM} {o : Int × zS} (H : zRep xl xs p m σ) (h : g_m_run_L68 g8 x1 xs0 σ = some o) : zGo xl xs (fun p' => p = p') 507 229 68 [(0, .ref 143), (1, .int X1)] [.int Xs0] m (vI o.1) o.2 := by
  have hq : z_mth 229 = some z_r229 := rfl
  unfold g_m_run_L68 at h
  refine r_p hq 2 (pc' := 8) (L' := [(0, .ref 143), (1, .int X1), (2, .int Xs0)]) (st' := []) rfl ?_
  exact hg8 hx1 hxs0 H h
def g_m_run_L41 (g8 : Int → Int → zS → Option (Int × zS)) (x1 : Int) (x2 : Int) (σ : zS) : Option (Int × zS) :=
  if x2 = 0 then
    g8 x1 x2 σ
  else
    if 8 ≤ x1 then
      let v_62 := σ 143 21
      (g_m_fails v_62 σ).bind fun o_65 =>
      g_m_run_L68 g8 x1 o_65.1 o_65.2
    else
      (g_m_isSign 59 σ).bind fun o_54 =>
      g_m_run_L68 g8 x1 o_54.1 o_54.2
set_option maxHeartbeats 4000000 in
theorem g_m_run_L41_ok {xl : Nat} {xs : Nat → Int32} {g8 : Int → Int → zS → Option (Int × zS)} (hg8 : ∀ {X1 : Int32} {x1 : Int} {X2 : Int32} {x2 : Int} {σ : zS} {p : Nat} {m : zM} {o : Int × zS}, X1.toInt = x1 → X2.toInt = x2 → zRep xl xs p m σ → g8 x1 x2 σ = some o → zGo xl xs (fun p' => p = p') 507 229 8 [(0, .ref 143), (1, .int X1), (2, .int X2)] [] m (vI o.1) o.2) {X1 : Int32} {x1 : Int} (hx1 : X1.toInt = x1) {X2 : Int32} {x2 : Int} (hx2 : X2.toInt = x2) {σ : zS} {p : Nat} {m : zM} {o : Int × zS} (H : zRep xl xs p m σ) (h : g_m_run_L41 g8 x1 x2 σ = some o) : zGo xl xs (fun p' => p = p') 507 229 41 [(0, .ref 143), (1, .int X1), (2, .int X2)] [] m (vI o.1) o.2 := by
  have hq : z_mth 229 = some z_r229 := rfl
  unfold g_m_run_L41 at h
  refine r_p hq 1 (pc' := 42) (L' := [(0, .ref 143), (1, .int X1), (2, .int X2)]) (st' := [.int X2]) rfl ?_
  rcases z_ite h with ⟨c_42, h⟩ | ⟨c_42, h⟩
  · refine r_t1 (pc' := 8) (L' := [(0, .ref 143), (1, .int X1), (2, .int X2)]) hq (z_at.mk 3 rfl rfl) rfl hx2 c_42 rfl rfl ?_
    exact hg8 hx1 hx2 H h
  · refine r_f1 (pc' := 45) (L' := [(0, .ref 143), (1, .int X1), (2, .int X2)]) hq (z_at.mk 3 rfl rfl) rfl hx2 c_42 rfl rfl ?_
    refine r_p hq 2 (pc' := 48) (L' := [(0, .ref 143), (1, .int X1), (2, .int X2)]) (st' := [.int ((8 : Int32)), .int X1]) rfl ?_
    rcases z_ite h with ⟨c_48, h⟩ | ⟨c_48, h⟩
    · refine r_t2 (pc' := 60) (L' := [(0, .ref 143), (1, .int X1), (2, .int X2)]) hq (z_at.mk 3 rfl rfl) rfl hx1 (rfl : (8 : Int32).toInt = 8) c_48 rfl rfl ?_
      refine r_p hq 2 (pc' := 62) (L' := [(0, .ref 143), (1, .int X1), (2, .int X2)]) (st' := [.ref 143, .ref 143]) rfl ?_
      refine r_gI (pc' := 65) (L' := [(0, .ref 143), (1, .int X1), (2, .int X2)]) H hq (z_at.mk 3 rfl rfl) rfl rfl rfl rfl ?_
      intro V_62 hV_62
      obtain ⟨o_65, h_65, h⟩ := Option.bind_eq_some_iff.mp h
      refine r_cvI (pc' := 68) (L' := [(0, .ref 143), (1, .int X1)]) (Ps := [.int V_62]) (rest := []) hq (z_at.mk 3 rfl rfl) (Or.inl ⟨rfl, rfl⟩) rfl rfl (by decide) (by decide) rfl (Nat.not_lt.mpr (Nat.le_of_ble_eq_true rfl)) rfl rfl (z_cat_le 0 rfl (by decide)) (z_lgl_le 2 rfl (by decide)) (by decide) (H.tg rfl) (by omega) (g_m_fails_ok hV_62 H h_65) rfl rfl ?_
      intro R_65 m_65 p_65 e_65 hR_65 H_65
      subst e_65
      exact g_m_run_L68_ok hg8 hx1 hR_65 H_65 h
    · refine r_f2 (pc' := 51) (L' := [(0, .ref 143), (1, .int X1), (2, .int X2)]) hq (z_at.mk 3 rfl rfl) rfl hx1 (rfl : (8 : Int32).toInt = 8) c_48 rfl rfl ?_
      refine r_p hq 2 (pc' := 54) (L' := [(0, .ref 143), (1, .int X1), (2, .int X2)]) (st' := [.int ((59 : Int32)), .ref 143]) rfl ?_
      obtain ⟨o_54, h_54, h⟩ := Option.bind_eq_some_iff.mp h
      refine r_cvI (pc' := 57) (L' := [(0, .ref 143), (1, .int X1), (2, .int X2)]) (Ps := [.int ((59 : Int32))]) (rest := []) hq (z_at.mk 3 rfl rfl) (Or.inl ⟨rfl, rfl⟩) rfl rfl (by decide) (by decide) rfl (Nat.not_lt.mpr (Nat.le_of_ble_eq_true rfl)) rfl rfl (z_cat_le 0 rfl (by decide)) (z_lgl_le 2 rfl (by decide)) (by decide) (H.tg rfl) (by omega) (g_m_isSign_ok (rfl : (59 : Int32).toInt = 59) H h_54) rfl rfl ?_
      intro R_54 m_54 p_54 e_54 hR_54 H_54
      subst e_54
      refine r_p hq 1 (pc' := 68) (L' := [(0, .ref 143), (1, .int X1)]) (st' := [.int R_54]) rfl ?_
      exact g_m_run_L68_ok hg8 hx1 hR_54 H_54 h
def g_m_run_L145 (x1 : Int) (σ : zS) : Option (Int × zS) :=
  let s_147 := zu σ 143 20 0
  let v_151 := s_147 143 22
  if 0 ≤ v_151 then
    let v_164 := s_147 143 22
    some (w32 ((-100) - v_164), s_147)
  else
    some (x1, s_147)
set_option maxHeartbeats 4000000 in
theorem g_m_run_L145_ok {xl : Nat} {xs : Nat → Int32} {X1 : Int32} {x1 : Int} (hx1 : X1.toInt = x1) {σ : zS} {p : Nat} {m : zM} {o : Int × zS} (H : zRep xl xs p m σ) (h : g_m_run_L145 x1 σ = some o) : zGo xl xs (fun p' => p = p') 507 229 145 [(0, .ref 143), (1, .int X1)] [] m (vI o.1) o.2 := by
  have hq : z_mth 229 = some z_r229 := rfl
  unfold g_m_run_L145 at h
  refine r_p hq 2 (pc' := 147) (L' := [(0, .ref 143), (1, .int X1)]) (st' := [.int ((0 : Int32)), .ref 143]) rfl ?_
  refine r_pI (X := (0 : Int32)) (pc' := 150) (L' := [(0, .ref 143), (1, .int X1)]) H hq (z_at.mk 3 rfl rfl) rfl rfl (rfl : (0 : Int32).toInt = 0) (by decide) rfl rfl rfl rfl ?_
  intro m_147 H_147
  refine r_p hq 1 (pc' := 151) (L' := [(0, .ref 143), (1, .int X1)]) (st' := [.ref 143]) rfl ?_
  refine r_gI (pc' := 154) (L' := [(0, .ref 143), (1, .int X1)]) H_147 hq (z_at.mk 3 rfl rfl) rfl rfl rfl rfl ?_
  intro V_151 hV_151
  rcases z_ite h with ⟨c_154, h⟩ | ⟨c_154, h⟩
  · refine r_t1 (pc' := 161) (L' := [(0, .ref 143), (1, .int X1)]) hq (z_at.mk 3 rfl rfl) rfl hV_151 c_154 rfl rfl ?_
    refine r_p hq 2 (pc' := 164) (L' := [(0, .ref 143), (1, .int X1)]) (st' := [.ref 143, .int ((-100 : Int32))]) rfl ?_
    refine r_gI (pc' := 167) (L' := [(0, .ref 143), (1, .int X1)]) H_147 hq (z_at.mk 3 rfl rfl) rfl rfl rfl rfl ?_
    intro V_164 hV_164
    refine r_p hq 1 (pc' := 168) (L' := []) (st' := [.int (((-100 : Int32)) - V_164)]) rfl ?_
    cases h
    exact r_ri hq (z_at.mk 1 rfl rfl) rfl rfl (tx_isub (rfl : (-100 : Int32).toInt = -100) hV_164) rfl H_147
  · refine r_f1 (pc' := 157) (L' := [(0, .ref 143), (1, .int X1)]) hq (z_at.mk 3 rfl rfl) rfl hV_151 c_154 rfl rfl ?_
    refine r_p hq 2 (pc' := 168) (L' := []) (st' := [.int X1]) rfl ?_
    cases h
    exact r_ri hq (z_at.mk 1 rfl rfl) rfl rfl hx1 rfl H_147
def g_m_run_L86 : Nat → Int → Int → zS → Option (Int × zS)
  | 0, _, _, _ => none
  | n + 1, x1, x3, σ =>
    if x1 ≤ x3 then
      g_m_run_L145 x1 σ
    else
      (g_m_copies 161 152 (w32 ((w32 (6 * x3)) + 1)) 0 σ).bind fun o_106 =>
      if 0 ≤ w32 (6 * x3) ∧ w32 (6 * x3) < 48 then
      let v_123 := o_106.2 161 (w32 (6 * x3))
      if 0 ≤ w32 ((w32 (6 * x3)) + 5) ∧ w32 ((w32 (6 * x3)) + 5) < 48 then
      let v_134 := o_106.2 161 (w32 ((w32 (6 * x3)) + 5))
      (g_m_asked v_123 v_134 o_106.2).bind fun o_135 =>
      if 0 ≤ x3 ∧ x3 < 8 then
      let s_138 := zu o_135.2 162 x3 o_135.1
      (g_m_run_L86 n) x1 (w32 (x3 + 1)) s_138
      else none
      else none
      else none
set_option maxHeartbeats 4000000 in
theorem g_m_run_L86_ok {xl : Nat} {xs : Nat → Int32} : ∀ (n : Nat) {X1 : Int32} {x1 : Int} {X3 : Int32} {x3 : Int} {σ : zS} {p : Nat} {m : zM} {o : Int × zS}, X1.toInt = x1 → X3.toInt = x3 → zRep xl xs p m σ → g_m_run_L86 n x1 x3 σ = some o → zGo xl xs (fun p' => p = p') 507 229 86 [(0, .ref 143), (1, .int X1), (3, .int X3)] [] m (vI o.1) o.2
  | 0, _, _, _, _, _, _, _, _, _, _, _, h => by cases h
  | n + 1, X1, x1, X3, x3, σ, p, m, o, hx1, hx3, H, h => by
    have hq : z_mth 229 = some z_r229 := rfl
    have ih := fun {X1 : Int32} {x1 : Int} {X3 : Int32} {x3 : Int} {σ : zS} {p : Nat} {m : zM} {o : Int × zS} => g_m_run_L86_ok (xl := xl) (xs := xs) n (X1 := X1) (x1 := x1) (X3 := X3) (x3 := x3) (σ := σ) (p := p) (m := m) (o := o)
    unfold g_m_run_L86 at h
    refine r_p hq 2 (pc' := 88) (L' := [(0, .ref 143), (1, .int X1), (3, .int X3)]) (st' := [.int X1, .int X3]) rfl ?_
    rcases z_ite h with ⟨c_88, h⟩ | ⟨c_88, h⟩
    · refine r_t2 (pc' := 145) (L' := [(0, .ref 143), (1, .int X1)]) hq (z_at.mk 3 rfl rfl) rfl hx3 hx1 c_88 rfl rfl ?_
      exact g_m_run_L145_ok hx1 H h
    · refine r_f2 (pc' := 91) (L' := [(0, .ref 143), (1, .int X1), (3, .int X3)]) hq (z_at.mk 3 rfl rfl) rfl hx3 hx1 c_88 rfl rfl ?_
      refine r_p hq 1 (pc' := 92) (L' := [(0, .ref 143), (1, .int X1), (3, .int X3)]) (st' := [.ref 143]) rfl ?_
      refine r_gR (b := 161) (pc' := 95) (L' := [(0, .ref 143), (1, .int X1), (3, .int X3)]) H hq (z_at.mk 3 rfl rfl) rfl rfl rfl rfl ?_
      refine r_p hq 6 (pc' := 102) (L' := [(0, .ref 143), (1, .int X1), (3, .int X3)]) (st' := [.ref 143, .int ((((6 : Int32)) * X3) + ((1 : Int32))), .ref 161]) rfl ?_
      refine r_gR (b := 152) (pc' := 105) (L' := [(0, .ref 143), (1, .int X1), (3, .int X3)]) H hq (z_at.mk 3 rfl rfl) rfl rfl rfl rfl ?_
      refine r_p hq 1 (pc' := 106) (L' := [(0, .ref 143), (1, .int X1), (3, .int X3)]) (st' := [.int ((0 : Int32)), .ref 152, .int ((((6 : Int32)) * X3) + ((1 : Int32))), .ref 161]) rfl ?_
      obtain ⟨o_106, h_106, h⟩ := Option.bind_eq_some_iff.mp h
      refine r_csV (pc' := 109) (L' := [(0, .ref 143), (1, .int X1), (3, .int X3)]) (As := [.ref 161, .int ((((6 : Int32)) * X3) + ((1 : Int32))), .ref 152, .int ((0 : Int32))]) (rest := []) (j := 166) hq (z_at.mk 3 rfl rfl) (Or.inl ⟨rfl, rfl⟩) rfl rfl (by omega) (g_m_copies_ok rfl rfl (tx_iadd (tx_imul (rfl : (6 : Int32).toInt = 6) hx3) (rfl : (1 : Int32).toInt = 1)) (rfl : (0 : Int32).toInt = 0) H h_106) rfl rfl ?_
      intro m_106 p_106 e_106 H_106
      subst e_106
      refine r_p hq 1 (pc' := 110) (L' := [(0, .ref 143), (1, .int X1), (3, .int X3)]) (st' := [.ref 143]) rfl ?_
      refine r_gR (b := 162) (pc' := 113) (L' := [(0, .ref 143), (1, .int X1), (3, .int X3)]) H_106 hq (z_at.mk 3 rfl rfl) rfl rfl rfl rfl ?_
      refine r_p hq 3 (pc' := 116) (L' := [(0, .ref 143), (1, .int X1), (3, .int X3)]) (st' := [.ref 143, .ref 143, .int X3, .ref 162]) rfl ?_
      refine r_gR (b := 161) (pc' := 119) (L' := [(0, .ref 143), (1, .int X1), (3, .int X3)]) H_106 hq (z_at.mk 3 rfl rfl) rfl rfl rfl rfl ?_
      refine r_p hq 3 (pc' := 123) (L' := [(0, .ref 143), (1, .int X1), (3, .int X3)]) (st' := [.int (((6 : Int32)) * X3), .ref 161, .ref 143, .int X3, .ref 162]) rfl ?_
      obtain ⟨g_123, h⟩ := z_ifo_some h
      refine r_ia (pc' := 124) (L' := [(0, .ref 143), (1, .int X1), (3, .int X3)]) H_106 hq (z_at.mk 1 rfl rfl) (show zAr 161 0 48 = true from rfl) (tx_imul (rfl : (6 : Int32).toInt = 6) hx3) g_123 rfl rfl ?_
      intro V_123 hV_123
      refine r_p hq 1 (pc' := 125) (L' := [(0, .ref 143), (1, .int X1), (3, .int X3)]) (st' := [.ref 143, .int V_123, .ref 143, .int X3, .ref 162]) rfl ?_
      refine r_gR (b := 161) (pc' := 128) (L' := [(0, .ref 143), (1, .int X1), (3, .int X3)]) H_106 hq (z_at.mk 3 rfl rfl) rfl rfl rfl rfl ?_
      refine r_p hq 5 (pc' := 134) (L' := [(0, .ref 143), (1, .int X1), (3, .int X3)]) (st' := [.int ((((6 : Int32)) * X3) + ((5 : Int32))), .ref 161, .int V_123, .ref 143, .int X3, .ref 162]) rfl ?_
      obtain ⟨g_134, h⟩ := z_ifo_some h
      refine r_ia (pc' := 135) (L' := [(0, .ref 143), (1, .int X1), (3, .int X3)]) H_106 hq (z_at.mk 1 rfl rfl) (show zAr 161 0 48 = true from rfl) (tx_iadd (tx_imul (rfl : (6 : Int32).toInt = 6) hx3) (rfl : (5 : Int32).toInt = 5)) g_134 rfl rfl ?_
      intro V_134 hV_134
      obtain ⟨o_135, h_135, h⟩ := Option.bind_eq_some_iff.mp h
      refine r_cvL (pc' := 138) (L' := [(0, .ref 143), (1, .int X1), (3, .int X3)]) (Ps := [.int V_123, .int V_134]) (rest := [.int X3, .ref 162]) hq (z_at.mk 3 rfl rfl) (Or.inl ⟨rfl, rfl⟩) rfl rfl (by decide) (by decide) rfl (Nat.not_lt.mpr (Nat.le_of_ble_eq_true rfl)) rfl rfl (z_cat_le 2 rfl (by decide)) (z_lgl_le 3 rfl (by decide)) (by decide) (H_106.tg rfl) (by omega) (g_m_asked_ok hV_123 hV_134 H_106 h_135) rfl rfl ?_
      intro R_135 m_135 p_135 e_135 hR_135 H_135
      subst e_135
      obtain ⟨g_138, h⟩ := z_ifo_some h
      refine r_ls (pc' := 139) (L' := [(0, .ref 143), (1, .int X1), (3, .int X3)]) H_135 hq (z_at.mk 1 rfl rfl) (show zAr 162 1 8 = true from rfl) hx3 g_138 hR_135 rfl rfl ?_
      intro m_138 H_138
      refine r_p hq 2 (pc' := 86) (L' := [(0, .ref 143), (1, .int X1), (3, .int (X3 + (1 : Int32)))]) (st' := []) rfl ?_
      exact ih hx1 (tx_iadd hx3 (rfl : (1 : Int32).toInt = 1)) H_138 h
def g_m_run_L8 : Nat → Int → Int → zS → Option (Int × zS)
  | 0, _, _, _ => none
  | n + 1, x1, x2, σ =>
    if x2 = 0 then
      let v_73 := σ 143 22
      if 0 ≤ v_73 then
        g_m_run_L145 x1 σ
      else
        let s_81 := zu σ 143 27 x1
        g_m_run_L86 zK x1 0 s_81
    else
      (g_m_isQuery x1 σ).bind fun o_14 =>
      if o_14.1 = 0 then
        g_m_run_L41 ((g_m_run_L8 n)) (w32 (x1 + 1)) o_14.1 o_14.2
      else
        let v_26 := o_14.2 143 21
        let v_30 := o_14.2 143 20
        if v_26 ≠ v_30 then
          g_m_run_L41 ((g_m_run_L8 n)) (w32 (x1 + 1)) o_14.1 o_14.2
        else
          (g_m_run_L8 n) (w32 (x1 + 1)) 0 o_14.2
set_option maxHeartbeats 4000000 in
theorem g_m_run_L8_ok {xl : Nat} {xs : Nat → Int32} : ∀ (n : Nat) {X1 : Int32} {x1 : Int} {X2 : Int32} {x2 : Int} {σ : zS} {p : Nat} {m : zM} {o : Int × zS}, X1.toInt = x1 → X2.toInt = x2 → zRep xl xs p m σ → g_m_run_L8 n x1 x2 σ = some o → zGo xl xs (fun p' => p = p') 507 229 8 [(0, .ref 143), (1, .int X1), (2, .int X2)] [] m (vI o.1) o.2
  | 0, _, _, _, _, _, _, _, _, _, _, _, h => by cases h
  | n + 1, X1, x1, X2, x2, σ, p, m, o, hx1, hx2, H, h => by
    have hq : z_mth 229 = some z_r229 := rfl
    have ih := fun {X1 : Int32} {x1 : Int} {X2 : Int32} {x2 : Int} {σ : zS} {p : Nat} {m : zM} {o : Int × zS} => g_m_run_L8_ok (xl := xl) (xs := xs) n (X1 := X1) (x1 := x1) (X2 := X2) (x2 := x2) (σ := σ) (p := p) (m := m) (o := o)
    unfold g_m_run_L8 at h
    refine r_p hq 1 (pc' := 9) (L' := [(0, .ref 143), (1, .int X1), (2, .int X2)]) (st' := [.int X2]) rfl ?_
    rcases z_ite h with ⟨c_9, h⟩ | ⟨c_9, h⟩
    · refine r_t1 (pc' := 72) (L' := [(0, .ref 143), (1, .int X1), (2, .int X2)]) hq (z_at.mk 3 rfl rfl) rfl hx2 c_9 rfl rfl ?_
      refine r_p hq 1 (pc' := 73) (L' := [(0, .ref 143), (1, .int X1), (2, .int X2)]) (st' := [.ref 143]) rfl ?_
      refine r_gI (pc' := 76) (L' := [(0, .ref 143), (1, .int X1), (2, .int X2)]) H hq (z_at.mk 3 rfl rfl) rfl rfl rfl rfl ?_
      intro V_73 hV_73
      rcases z_ite h with ⟨c_76, h⟩ | ⟨c_76, h⟩
      · refine r_t1 (pc' := 145) (L' := [(0, .ref 143), (1, .int X1)]) hq (z_at.mk 3 rfl rfl) rfl hV_73 c_76 rfl rfl ?_
        exact g_m_run_L145_ok hx1 H h
      · refine r_f1 (pc' := 79) (L' := [(0, .ref 143), (1, .int X1), (2, .int X2)]) hq (z_at.mk 3 rfl rfl) rfl hV_73 c_76 rfl rfl ?_
        refine r_p hq 2 (pc' := 81) (L' := [(0, .ref 143), (1, .int X1), (2, .int X2)]) (st' := [.int X1, .ref 143]) rfl ?_
        refine r_pI (X := X1) (pc' := 84) (L' := [(0, .ref 143), (1, .int X1), (2, .int X2)]) H hq (z_at.mk 3 rfl rfl) rfl rfl hx1 (by decide) rfl rfl rfl rfl ?_
        intro m_81 H_81
        refine r_p hq 2 (pc' := 86) (L' := [(0, .ref 143), (1, .int X1), (3, .int ((0 : Int32)))]) (st' := []) rfl ?_
        exact g_m_run_L86_ok zK hx1 (rfl : (0 : Int32).toInt = 0) H_81 h
    · refine r_f1 (pc' := 12) (L' := [(0, .ref 143), (1, .int X1), (2, .int X2)]) hq (z_at.mk 3 rfl rfl) rfl hx2 c_9 rfl rfl ?_
      refine r_p hq 2 (pc' := 14) (L' := [(0, .ref 143), (1, .int X1), (2, .int X2)]) (st' := [.int X1, .ref 143]) rfl ?_
      obtain ⟨o_14, h_14, h⟩ := Option.bind_eq_some_iff.mp h
      refine r_cvI (pc' := 17) (L' := [(0, .ref 143), (1, .int X1), (2, .int X2)]) (Ps := [.int X1]) (rest := []) hq (z_at.mk 3 rfl rfl) (Or.inl ⟨rfl, rfl⟩) rfl rfl (by decide) (by decide) rfl (Nat.not_lt.mpr (Nat.le_of_ble_eq_true rfl)) rfl rfl (z_cat_le 0 rfl (by decide)) (z_lgl_le 2 rfl (by decide)) (by decide) (H.tg rfl) (by omega) (g_m_isQuery_ok hx1 H h_14) rfl rfl ?_
      intro R_14 m_14 p_14 e_14 hR_14 H_14
      subst e_14
      refine r_p hq 3 (pc' := 22) (L' := [(1, .int (X1 + (1 : Int32))), (2, .int R_14), (0, .ref 143)]) (st' := [.int R_14]) rfl ?_
      rcases z_ite h with ⟨c_22, h⟩ | ⟨c_22, h⟩
      · refine r_t1 (pc' := 41) (L' := [(0, .ref 143), (1, .int (X1 + (1 : Int32))), (2, .int R_14)]) hq (z_at.mk 3 rfl rfl) rfl hR_14 c_22 rfl rfl ?_
        exact g_m_run_L41_ok ih (tx_iadd hx1 (rfl : (1 : Int32).toInt = 1)) hR_14 H_14 h
      · refine r_f1 (pc' := 25) (L' := [(1, .int (X1 + (1 : Int32))), (2, .int R_14), (0, .ref 143)]) hq (z_at.mk 3 rfl rfl) rfl hR_14 c_22 rfl rfl ?_
        refine r_p hq 1 (pc' := 26) (L' := [(1, .int (X1 + (1 : Int32))), (2, .int R_14), (0, .ref 143)]) (st' := [.ref 143]) rfl ?_
        refine r_gI (pc' := 29) (L' := [(1, .int (X1 + (1 : Int32))), (2, .int R_14), (0, .ref 143)]) H_14 hq (z_at.mk 3 rfl rfl) rfl rfl rfl rfl ?_
        intro V_26 hV_26
        refine r_p hq 1 (pc' := 30) (L' := [(1, .int (X1 + (1 : Int32))), (2, .int R_14), (0, .ref 143)]) (st' := [.ref 143, .int V_26]) rfl ?_
        refine r_gI (pc' := 33) (L' := [(1, .int (X1 + (1 : Int32))), (2, .int R_14), (0, .ref 143)]) H_14 hq (z_at.mk 3 rfl rfl) rfl rfl rfl rfl ?_
        intro V_30 hV_30
        rcases z_ite h with ⟨c_33, h⟩ | ⟨c_33, h⟩
        · refine r_t2 (pc' := 41) (L' := [(0, .ref 143), (1, .int (X1 + (1 : Int32))), (2, .int R_14)]) hq (z_at.mk 3 rfl rfl) rfl hV_26 hV_30 c_33 rfl rfl ?_
          exact g_m_run_L41_ok ih (tx_iadd hx1 (rfl : (1 : Int32).toInt = 1)) hR_14 H_14 h
        · refine r_f2 (pc' := 36) (L' := [(1, .int (X1 + (1 : Int32))), (2, .int R_14), (0, .ref 143)]) hq (z_at.mk 3 rfl rfl) rfl hV_26 hV_30 c_33 rfl rfl ?_
          refine r_p hq 3 (pc' := 8) (L' := [(0, .ref 143), (1, .int (X1 + (1 : Int32))), (2, .int ((0 : Int32)))]) (st' := []) rfl ?_
          exact ih (tx_iadd hx1 (rfl : (1 : Int32).toInt = 1)) (rfl : (0 : Int32).toInt = 0) H_14 h
def g_m_run (σ : zS) : Option (Int × zS) :=
  (g_m_begins σ).bind fun o_1 =>
  g_m_run_L8 zK 0 1 o_1.2
set_option maxHeartbeats 4000000 in
theorem g_m_run_ok {xl : Nat} {xs : Nat → Int32} {σ : zS} {p : Nat} {m : zM} {o : Int × zS} (H : zRep xl xs p m σ) (h : g_m_run σ = some o) : zGo xl xs (fun p' => p = p') 507 229 0 (z_can 229 0 (lv_args 0 [.ref 143])) [] m (vI o.1) o.2 := by
  have hq : z_mth 229 = some z_r229 := rfl
  unfold g_m_run at h
  show zGo xl xs (fun p' => p = p') 507 229 0 [(0, .ref 143)] [] m (vI o.1) o.2
  refine r_p hq 1 (pc' := 1) (L' := [(0, .ref 143)]) (st' := [.ref 143]) rfl ?_
  obtain ⟨o_1, h_1, h⟩ := Option.bind_eq_some_iff.mp h
  refine r_cvV (pc' := 4) (L' := [(0, .ref 143)]) (Ps := []) (rest := []) hq (z_at.mk 3 rfl rfl) (Or.inl ⟨rfl, rfl⟩) rfl rfl (by decide) (by decide) rfl (Nat.not_lt.mpr (Nat.le_of_ble_eq_true rfl)) rfl rfl (z_cat_le 0 rfl (by decide)) (z_lgl_le 1 rfl (by decide)) (by decide) (H.tg rfl) (by omega) (g_m_begins_ok H h_1) rfl rfl ?_
  intro m_1 p_1 e_1 H_1
  subst e_1
  refine r_p hq 4 (pc' := 8) (L' := [(0, .ref 143), (1, .int ((0 : Int32))), (2, .int ((1 : Int32)))]) (st' := []) rfl ?_
  exact g_m_run_L8_ok zK (rfl : (0 : Int32).toInt = 0) (rfl : (1 : Int32).toInt = 1) H_1 h
def g_m_answer (x1 : Int) (σ : zS) : Option (Int × zS) :=
  let v_3 := σ 143 27
  (g_m_isIn x1 0 (w32 (v_3 - 1)) σ).bind fun o_8 =>
  if o_8.1 = 0 then
    some (-9223372036854775808, o_8.2)
  else
    if 0 ≤ x1 ∧ x1 < 8 then
    let v_19 := o_8.2 162 x1
    some (v_19, o_8.2)
    else none
set_option maxHeartbeats 4000000 in
theorem g_m_answer_ok {xl : Nat} {xs : Nat → Int32} {X1 : Int32} {x1 : Int} (hx1 : X1.toInt = x1) {σ : zS} {p : Nat} {m : zM} {o : Int × zS} (H : zRep xl xs p m σ) (h : g_m_answer x1 σ = some o) : zGo xl xs (fun p' => p = p') 2 230 0 (z_can 230 0 (lv_args 0 [.ref 143, .int X1])) [] m (vL o.1) o.2 := by
  have hq : z_mth 230 = some z_r230 := rfl
  unfold g_m_answer at h
  show zGo xl xs (fun p' => p = p') 2 230 0 [(0, .ref 143), (1, .int X1)] [] m (vL o.1) o.2
  refine r_p hq 3 (pc' := 3) (L' := [(0, .ref 143), (1, .int X1)]) (st' := [.ref 143, .int ((0 : Int32)), .int X1]) rfl ?_
  refine r_gI (pc' := 6) (L' := [(0, .ref 143), (1, .int X1)]) H hq (z_at.mk 3 rfl rfl) rfl rfl rfl rfl ?_
  intro V_3 hV_3
  refine r_p hq 2 (pc' := 8) (L' := [(0, .ref 143), (1, .int X1)]) (st' := [.int (V_3 - ((1 : Int32))), .int ((0 : Int32)), .int X1]) rfl ?_
  obtain ⟨o_8, h_8, h⟩ := Option.bind_eq_some_iff.mp h
  refine r_csI (pc' := 11) (L' := [(0, .ref 143), (1, .int X1)]) (As := [.int X1, .int ((0 : Int32)), .int (V_3 - ((1 : Int32)))]) (rest := []) (j := 159) hq (z_at.mk 3 rfl rfl) (Or.inl ⟨rfl, rfl⟩) rfl rfl (by omega) (g_m_isIn_ok hx1 (rfl : (0 : Int32).toInt = 0) (tx_isub hV_3 (rfl : (1 : Int32).toInt = 1)) H h_8) rfl rfl ?_
  intro R_8 m_8 p_8 e_8 hR_8 H_8
  subst e_8
  rcases z_ite h with ⟨c_11, h⟩ | ⟨c_11, h⟩
  · refine r_t1 (pc' := 23) (L' := [(0, .ref 143), (1, .int X1)]) hq (z_at.mk 3 rfl rfl) rfl hR_8 c_11 rfl rfl ?_
    refine r_p hq 1 (pc' := 26) (L' := []) (st' := [.long ((-9223372036854775808 : Int64))]) rfl ?_
    cases h
    exact r_rl hq (z_at.mk 1 rfl rfl) rfl (rfl : (-9223372036854775808 : Int64).toInt = -9223372036854775808) rfl H_8
  · refine r_f1 (pc' := 14) (L' := [(0, .ref 143), (1, .int X1)]) hq (z_at.mk 3 rfl rfl) rfl hR_8 c_11 rfl rfl ?_
    refine r_p hq 1 (pc' := 15) (L' := [(0, .ref 143), (1, .int X1)]) (st' := [.ref 143]) rfl ?_
    refine r_gR (b := 162) (pc' := 18) (L' := [(0, .ref 143), (1, .int X1)]) H_8 hq (z_at.mk 3 rfl rfl) rfl rfl rfl rfl ?_
    refine r_p hq 1 (pc' := 19) (L' := [(0, .ref 143), (1, .int X1)]) (st' := [.int X1, .ref 162]) rfl ?_
    obtain ⟨g_19, h⟩ := z_ifo_some h
    refine r_la (pc' := 20) (L' := [(0, .ref 143), (1, .int X1)]) H_8 hq (z_at.mk 1 rfl rfl) (show zAr 162 1 8 = true from rfl) hx1 g_19 rfl rfl ?_
    intro V_19 hV_19
    refine r_p hq 1 (pc' := 26) (L' := []) (st' := [.long V_19]) rfl ?_
    cases h
    exact r_rl hq (z_at.mk 1 rfl rfl) rfl hV_19 rfl H_8
def g_m_says (x1 : Int) (σ : zS) : Option (Unit × zS) :=
  let v_5 := σ 143 29
  if 0 ≤ v_5 ∧ v_5 < 40000 then
  let s_9 := zu σ 163 v_5 x1
  let v_12 := s_9 143 29
  let s_17 := zu s_9 143 29 (w32 (v_12 + 1))
  some ((), s_17)
  else none
set_option maxHeartbeats 4000000 in
theorem g_m_says_ok {xl : Nat} {xs : Nat → Int32} {X1 : Int32} {x1 : Int} (hx1 : X1.toInt = x1) {σ : zS} {p : Nat} {m : zM} {o : Unit × zS} (H : zRep xl xs p m σ) (h : g_m_says x1 σ = some o) : zGo xl xs (fun p' => p = p') 1 234 0 (z_can 234 0 (lv_args 0 [.ref 143, .int X1])) [] m vV o.2 := by
  have hq : z_mth 234 = some z_r234 := rfl
  unfold g_m_says at h
  show zGo xl xs (fun p' => p = p') 1 234 0 [(0, .ref 143), (1, .int X1)] [] m vV o.2
  refine r_p hq 1 (pc' := 1) (L' := [(0, .ref 143), (1, .int X1)]) (st' := [.ref 143]) rfl ?_
  refine r_gR (b := 163) (pc' := 4) (L' := [(0, .ref 143), (1, .int X1)]) H hq (z_at.mk 3 rfl rfl) rfl rfl rfl rfl ?_
  refine r_p hq 1 (pc' := 5) (L' := [(0, .ref 143), (1, .int X1)]) (st' := [.ref 143, .ref 163]) rfl ?_
  refine r_gI (pc' := 8) (L' := [(0, .ref 143), (1, .int X1)]) H hq (z_at.mk 3 rfl rfl) rfl rfl rfl rfl ?_
  intro V_5 hV_5
  refine r_p hq 1 (pc' := 9) (L' := [(0, .ref 143), (1, .int X1)]) (st' := [.int X1, .int V_5, .ref 163]) rfl ?_
  obtain ⟨g_9, h⟩ := z_ifo_some h
  refine r_is (pc' := 10) (L' := [(0, .ref 143), (1, .int X1)]) H hq (z_at.mk 1 rfl rfl) (show zAr 163 0 40000 = true from rfl) hV_5 g_9 hx1 rfl rfl ?_
  intro m_9 H_9
  refine r_p hq 2 (pc' := 12) (L' := [(0, .ref 143), (1, .int X1)]) (st' := [.ref 143, .ref 143]) rfl ?_
  refine r_gI (pc' := 15) (L' := [(0, .ref 143), (1, .int X1)]) H_9 hq (z_at.mk 3 rfl rfl) rfl rfl rfl rfl ?_
  intro V_12 hV_12
  refine r_p hq 2 (pc' := 17) (L' := [(0, .ref 143), (1, .int X1)]) (st' := [.int (V_12 + ((1 : Int32))), .ref 143]) rfl ?_
  refine r_pI (X := V_12 + ((1 : Int32))) (pc' := 20) (L' := [(0, .ref 143), (1, .int X1)]) H_9 hq (z_at.mk 3 rfl rfl) rfl rfl (tx_iadd hV_12 (rfl : (1 : Int32).toInt = 1)) (by decide) rfl rfl rfl rfl ?_
  intro m_17 H_17
  cases h
  exact r_rv hq (z_at.mk 1 rfl rfl) rfl rfl H_17
def g_m_saysWord_L2 (a1 : Nat) : Nat → Int → zS → Option (Unit × zS)
  | 0, _, _ => none
  | n + 1, x2, σ =>
    (g_jString_length a1 σ).bind fun o_4 =>
    if o_4.1 ≤ x2 then
      some ((), o_4.2)
    else
      (g_jString_charAt a1 x2 o_4.2).bind fun o_13 =>
      (g_m_says o_13.1 o_13.2).bind fun o_16 =>
      (g_m_saysWord_L2 a1 n) (w32 (x2 + 1)) o_16.2
set_option maxHeartbeats 4000000 in
theorem g_m_saysWord_L2_ok {xl : Nat} {xs : Nat → Int32} {a1 : Nat} (ha1 : zIn [1, 2, 3, 4, 5, 6, 7, 8, 9, 10, 11, 12, 13, 14, 15, 16, 17, 18] a1 = true) : ∀ (n : Nat) {X2 : Int32} {x2 : Int} {σ : zS} {p : Nat} {m : zM} {o : Unit × zS}, X2.toInt = x2 → zRep xl xs p m σ → g_m_saysWord_L2 a1 n x2 σ = some o → zGo xl xs (fun p' => p = p') 3 235 2 [(0, .ref 143), (1, .ref a1), (2, .int X2)] [] m vV o.2
  | 0, _, _, _, _, _, _, _, _, h => by cases h
  | n + 1, X2, x2, σ, p, m, o, hx2, H, h => by
    have hq : z_mth 235 = some z_r235 := rfl
    have ih := fun {X2 : Int32} {x2 : Int} {σ : zS} {p : Nat} {m : zM} {o : Unit × zS} => g_m_saysWord_L2_ok (xl := xl) (xs := xs) ha1 n (X2 := X2) (x2 := x2) (σ := σ) (p := p) (m := m) (o := o)
    unfold g_m_saysWord_L2 at h
    refine r_p hq 2 (pc' := 4) (L' := [(0, .ref 143), (1, .ref a1), (2, .int X2)]) (st' := [.ref a1, .int X2]) rfl ?_
    obtain ⟨o_4, h_4, h⟩ := Option.bind_eq_some_iff.mp h
    refine r_cvI (pc' := 7) (L' := [(0, .ref 143), (1, .ref a1), (2, .int X2)]) (Ps := []) (rest := [.int X2]) hq (z_at.mk 3 rfl rfl) (Or.inl ⟨rfl, rfl⟩) rfl rfl (by decide) (by decide) rfl (Nat.not_lt.mpr (Nat.le_of_ble_eq_true rfl)) rfl rfl (z_cat_le 1 rfl (by decide)) (z_lgl_le 1 rfl (by decide)) (by decide) (H.tg9 (zIn_all (l := [1, 2, 3, 4, 5, 6, 7, 8, 9, 10, 11, 12, 13, 14, 15, 16, 17, 18]) (p := fun a => zIn [1, 2, 3, 4, 5, 6, 7, 8, 9, 10, 11, 12, 13, 14, 15, 16, 17, 18] a) rfl ha1)) (by omega) (g_jString_length_ok (zIn_all (l := [1, 2, 3, 4, 5, 6, 7, 8, 9, 10, 11, 12, 13, 14, 15, 16, 17, 18]) (p := fun a => zIn [1, 2, 3, 4, 5, 6, 7, 8, 9, 10, 11, 12, 13, 14, 15, 16, 17, 18] a) rfl ha1) H h_4) rfl rfl ?_
    intro R_4 m_4 p_4 e_4 hR_4 H_4
    subst e_4
    rcases z_ite h with ⟨c_7, h⟩ | ⟨c_7, h⟩
    · refine r_t2 (pc' := 25) (L' := [(0, .ref 143), (1, .ref a1), (2, .int X2)]) hq (z_at.mk 3 rfl rfl) rfl hx2 hR_4 c_7 rfl rfl ?_
      cases h
      exact r_rv hq (z_at.mk 1 rfl rfl) rfl rfl H_4
    · refine r_f2 (pc' := 10) (L' := [(0, .ref 143), (1, .ref a1), (2, .int X2)]) hq (z_at.mk 3 rfl rfl) rfl hx2 hR_4 c_7 rfl rfl ?_
      refine r_p hq 3 (pc' := 13) (L' := [(0, .ref 143), (1, .ref a1), (2, .int X2)]) (st' := [.int X2, .ref a1, .ref 143]) rfl ?_
      obtain ⟨o_13, h_13, h⟩ := Option.bind_eq_some_iff.mp h
      refine r_cvI (pc' := 16) (L' := [(0, .ref 143), (1, .ref a1), (2, .int X2)]) (Ps := [.int X2]) (rest := [.ref 143]) hq (z_at.mk 3 rfl rfl) (Or.inl ⟨rfl, rfl⟩) rfl rfl (by decide) (by decide) rfl (Nat.not_lt.mpr (Nat.le_of_ble_eq_true rfl)) rfl rfl (z_cat_le 1 rfl (by decide)) (z_lgl_le 2 rfl (by decide)) (by decide) (H_4.tg9 (zIn_all (l := [1, 2, 3, 4, 5, 6, 7, 8, 9, 10, 11, 12, 13, 14, 15, 16, 17, 18]) (p := fun a => zIn [1, 2, 3, 4, 5, 6, 7, 8, 9, 10, 11, 12, 13, 14, 15, 16, 17, 18] a) rfl ha1)) (by omega) (g_jString_charAt_ok (zIn_all (l := [1, 2, 3, 4, 5, 6, 7, 8, 9, 10, 11, 12, 13, 14, 15, 16, 17, 18]) (p := fun a => zIn [1, 2, 3, 4, 5, 6, 7, 8, 9, 10, 11, 12, 13, 14, 15, 16, 17, 18] a) rfl ha1) hx2 H_4 h_13) rfl rfl ?_
      intro R_13 m_13 p_13 e_13 hR_13 H_13
      subst e_13
      obtain ⟨o_16, h_16, h⟩ := Option.bind_eq_some_iff.mp h
      refine r_cvV (pc' := 19) (L' := [(0, .ref 143), (1, .ref a1), (2, .int X2)]) (Ps := [.int R_13]) (rest := []) hq (z_at.mk 3 rfl rfl) (Or.inl ⟨rfl, rfl⟩) rfl rfl (by decide) (by decide) rfl (Nat.not_lt.mpr (Nat.le_of_ble_eq_true rfl)) rfl rfl (z_cat_le 0 rfl (by decide)) (z_lgl_le 2 rfl (by decide)) (by decide) (H_13.tg rfl) (by omega) (g_m_says_ok hR_13 H_13 h_16) rfl rfl ?_
      intro m_16 p_16 e_16 H_16
      subst e_16
      refine r_p hq 2 (pc' := 2) (L' := [(0, .ref 143), (1, .ref a1), (2, .int (X2 + (1 : Int32)))]) (st' := []) rfl ?_
      exact ih (tx_iadd hx2 (rfl : (1 : Int32).toInt = 1)) H_16 h
def g_m_saysWord (a1 : Nat) (σ : zS) : Option (Unit × zS) :=
  g_m_saysWord_L2 a1 zK 0 σ
set_option maxHeartbeats 4000000 in
theorem g_m_saysWord_ok {xl : Nat} {xs : Nat → Int32} {a1 : Nat} (ha1 : zIn [1, 2, 3, 4, 5, 6, 7, 8, 9, 10, 11, 12, 13, 14, 15, 16, 17, 18] a1 = true) {σ : zS} {p : Nat} {m : zM} {o : Unit × zS} (H : zRep xl xs p m σ) (h : g_m_saysWord a1 σ = some o) : zGo xl xs (fun p' => p = p') 3 235 0 (z_can 235 0 (lv_args 0 [.ref 143, .ref a1])) [] m vV o.2 := by
  have hq : z_mth 235 = some z_r235 := rfl
  unfold g_m_saysWord at h
  show zGo xl xs (fun p' => p = p') 3 235 0 [(0, .ref 143), (1, .ref a1)] [] m vV o.2
  refine r_p hq 2 (pc' := 2) (L' := [(0, .ref 143), (1, .ref a1), (2, .int ((0 : Int32)))]) (st' := []) rfl ?_
  exact g_m_saysWord_L2_ok ha1 zK (rfl : (0 : Int32).toInt = 0) H h
def g_m_saysNumber_L14 (rec : Nat → Int → zS → Option (Unit × zS)) (x1 : Int) (σ : zS) : Option (Unit × zS) :=
  (g_m_says (w32 (48 + (Int.tmod x1 10))) σ).bind fun o_22 =>
  some ((), o_22.2)
set_option maxHeartbeats 4000000 in
theorem g_m_saysNumber_L14_ok {xl : Nat} {xs : Nat → Int32} {dr : Nat} (hdr : 2 ≤ dr) {rec : Nat → Int → zS → Option (Unit × zS)} (hrec : ∀ j, j ∈ [236] → ∀ {X1 : Int32} {x1 : Int} {σ : zS} {p : Nat} {m : zM} {o : Unit × zS}, X1.toInt = x1 → zRep xl xs p m σ → rec j x1 σ = some o → zGo xl xs (fun p' => p = p') dr j 0 (z_can j 0 (lv_args 0 [.ref 143, .int X1])) [] m vV o.2) {X1 : Int32} {x1 : Int} (hx1 : X1.toInt = x1) {σ : zS} {p : Nat} {m : zM} {o : Unit × zS} (H : zRep xl xs p m σ) (h : g_m_saysNumber_L14 rec x1 σ = some o) : zGo xl xs (fun p' => p = p') (dr + 1) 236 14 [(0, .ref 143), (1, .int X1)] [] m vV o.2 := by
  have hq : z_mth 236 = some z_r236 := rfl
  unfold g_m_saysNumber_L14 at h
  refine r_p hq 4 (pc' := 20) (L' := [(0, .ref 143), (1, .int X1)]) (st' := [.int ((10 : Int32)), .int X1, .int ((48 : Int32)), .ref 143]) rfl ?_
  refine r_irem (pc' := 21) (L' := [(0, .ref 143), (1, .int X1)]) hq (z_at.mk 1 rfl rfl) hx1 (rfl : (10 : Int32).toInt = 10) (by decide) rfl rfl ?_
  intro V_20 hV_20
  refine r_p hq 1 (pc' := 22) (L' := [(0, .ref 143), (1, .int X1)]) (st' := [.int (((48 : Int32)) + V_20), .ref 143]) rfl ?_
  obtain ⟨o_22, h_22, h⟩ := Option.bind_eq_some_iff.mp h
  refine r_cvV (pc' := 25) (L' := [(0, .ref 143), (1, .int X1)]) (Ps := [.int (((48 : Int32)) + V_20)]) (rest := []) hq (z_at.mk 3 rfl rfl) (Or.inl ⟨rfl, rfl⟩) rfl rfl (by decide) (by decide) rfl (Nat.not_lt.mpr (Nat.le_of_ble_eq_true rfl)) rfl rfl (z_cat_le 0 rfl (by decide)) (z_lgl_le 2 rfl (by decide)) (by decide) (H.tg rfl) (by omega) (g_m_says_ok (tx_iadd (rfl : (48 : Int32).toInt = 48) hV_20) H h_22) rfl rfl ?_
  intro m_22 p_22 e_22 H_22
  subst e_22
  cases h
  exact r_rv hq (z_at.mk 1 rfl rfl) rfl rfl H_22
def g_m_saysNumber (rec : Nat → Int → zS → Option (Unit × zS)) (x1 : Int) (σ : zS) : Option (Unit × zS) :=
  if x1 ≤ 9 then
    g_m_saysNumber_L14 rec x1 σ
  else
    (rec 236 (w32 (Int.tdiv x1 10)) σ).bind fun o_11 =>
    g_m_saysNumber_L14 rec x1 o_11.2
set_option maxHeartbeats 4000000 in
theorem g_m_saysNumber_ok {xl : Nat} {xs : Nat → Int32} {dr : Nat} (hdr : 2 ≤ dr) {rec : Nat → Int → zS → Option (Unit × zS)} (hrec : ∀ j, j ∈ [236] → ∀ {X1 : Int32} {x1 : Int} {σ : zS} {p : Nat} {m : zM} {o : Unit × zS}, X1.toInt = x1 → zRep xl xs p m σ → rec j x1 σ = some o → zGo xl xs (fun p' => p = p') dr j 0 (z_can j 0 (lv_args 0 [.ref 143, .int X1])) [] m vV o.2) {X1 : Int32} {x1 : Int} (hx1 : X1.toInt = x1) {σ : zS} {p : Nat} {m : zM} {o : Unit × zS} (H : zRep xl xs p m σ) (h : g_m_saysNumber rec x1 σ = some o) : zGo xl xs (fun p' => p = p') (dr + 1) 236 0 (z_can 236 0 (lv_args 0 [.ref 143, .int X1])) [] m vV o.2 := by
  have hq : z_mth 236 = some z_r236 := rfl
  unfold g_m_saysNumber at h
  show zGo xl xs (fun p' => p = p') (dr + 1) 236 0 [(0, .ref 143), (1, .int X1)] [] m vV o.2
  refine r_p hq 2 (pc' := 3) (L' := [(0, .ref 143), (1, .int X1)]) (st' := [.int ((9 : Int32)), .int X1]) rfl ?_
  rcases z_ite h with ⟨c_3, h⟩ | ⟨c_3, h⟩
  · refine r_t2 (pc' := 14) (L' := [(0, .ref 143), (1, .int X1)]) hq (z_at.mk 3 rfl rfl) rfl hx1 (rfl : (9 : Int32).toInt = 9) c_3 rfl rfl ?_
    exact g_m_saysNumber_L14_ok hdr hrec hx1 H h
  · refine r_f2 (pc' := 6) (L' := [(0, .ref 143), (1, .int X1)]) hq (z_at.mk 3 rfl rfl) rfl hx1 (rfl : (9 : Int32).toInt = 9) c_3 rfl rfl ?_
    refine r_p hq 3 (pc' := 10) (L' := [(0, .ref 143), (1, .int X1)]) (st' := [.int ((10 : Int32)), .int X1, .ref 143]) rfl ?_
    refine r_idiv (pc' := 11) (L' := [(0, .ref 143), (1, .int X1)]) hq (z_at.mk 1 rfl rfl) hx1 (rfl : (10 : Int32).toInt = 10) (by decide) rfl rfl ?_
    intro V_10 hV_10
    obtain ⟨o_11, h_11, h⟩ := Option.bind_eq_some_iff.mp h
    refine r_cvV (pc' := 14) (L' := [(0, .ref 143), (1, .int X1)]) (Ps := [.int V_10]) (rest := []) hq (z_at.mk 3 rfl rfl) (Or.inl ⟨rfl, rfl⟩) rfl rfl (by decide) (by decide) rfl (Nat.not_lt.mpr (Nat.le_of_ble_eq_true rfl)) rfl rfl (z_cat_le 0 rfl (by decide)) (z_lgl_le 2 rfl (by decide)) (by decide) (H.tg rfl) (by omega) (hrec 236 (by simp) hV_10 H h_11) rfl rfl ?_
    intro m_11 p_11 e_11 H_11
    subst e_11
    exact g_m_saysNumber_L14_ok hdr hrec hx1 H_11 h
def g_grp236 : Nat → Nat → Int → zS → Option (Unit × zS)
  | 0, _, _, _ => none
  | n + 1, j, x1, σ =>
    if j = 236 then g_m_saysNumber (g_grp236 n) x1 σ else
    none
theorem g_grp236_ok {xl : Nat} {xs : Nat → Int32} : ∀ (n : Nat) (j : Nat), j ∈ [236] → ∀ {X1 : Int32} {x1 : Int} {σ : zS} {p : Nat} {m : zM} {o : Unit × zS}, X1.toInt = x1 → zRep xl xs p m σ → g_grp236 n j x1 σ = some o → zGo xl xs (fun p' => p = p') (2 + n) j 0 (z_can j 0 (lv_args 0 [.ref 143, .int X1])) [] m vV o.2
  | 0, _, _, _, _, _, _, _, _, _, _, h => by cases h
  | n + 1, j, hj, X1, x1, σ, p, m, o, hx1, H, h => by
    have ih := fun (j : Nat) (hj : j ∈ [236]) {X1 : Int32} {x1 : Int} {σ : zS} {p : Nat} {m : zM} {o : Unit × zS} => g_grp236_ok (xl := xl) (xs := xs) n j hj (X1 := X1) (x1 := x1) (σ := σ) (p := p) (m := m) (o := o)
    unfold g_grp236 at h
    by_cases c_236 : j = 236
    · rw [if_pos c_236] at h
      subst c_236
      exact g_m_saysNumber_ok (Nat.le_add_right _ _) ih hx1 H h
    rw [if_neg c_236] at h
    cases h
def g_m_saysBox (a1 : Nat) (x2 : Int) (σ : zS) : Option (Unit × zS) :=
  if 0 ≤ x2 ∧ x2 < zLI a1 then
  let v_3 := σ a1 x2
  (g_grp236 zR 236 v_3 σ).bind fun o_4 =>
  (g_m_says 45 o_4.2).bind fun o_10 =>
  if 0 ≤ w32 (x2 + 1) ∧ w32 (x2 + 1) < zLI a1 then
  let v_18 := o_10.2 a1 (w32 (x2 + 1))
  (g_grp236 zR 236 v_18 o_10.2).bind fun o_19 =>
  (g_m_says 44 o_19.2).bind fun o_25 =>
  if 0 ≤ w32 (x2 + 2) ∧ w32 (x2 + 2) < zLI a1 then
  let v_33 := o_25.2 a1 (w32 (x2 + 2))
  (g_grp236 zR 236 v_33 o_25.2).bind fun o_34 =>
  (g_m_says 45 o_34.2).bind fun o_40 =>
  if 0 ≤ w32 (x2 + 3) ∧ w32 (x2 + 3) < zLI a1 then
  let v_48 := o_40.2 a1 (w32 (x2 + 3))
  (g_grp236 zR 236 v_48 o_40.2).bind fun o_49 =>
  some ((), o_49.2)
  else none
  else none
  else none
  else none
set_option maxHeartbeats 4000000 in
theorem g_m_saysBox_ok {xl : Nat} {xs : Nat → Int32} {a1 : Nat} (ha1 : zIn [144, 150, 151, 152, 153, 156, 157, 161, 164, 165] a1 = true) {X2 : Int32} {x2 : Int} (hx2 : X2.toInt = x2) {σ : zS} {p : Nat} {m : zM} {o : Unit × zS} (H : zRep xl xs p m σ) (h : g_m_saysBox a1 x2 σ = some o) : zGo xl xs (fun p' => p = p') 503 237 0 (z_can 237 0 (lv_args 0 [.ref 143, .ref a1, .int X2])) [] m vV o.2 := by
  have hq : z_mth 237 = some z_r237 := rfl
  unfold g_m_saysBox at h
  show zGo xl xs (fun p' => p = p') 503 237 0 [(0, .ref 143), (1, .ref a1), (2, .int X2)] [] m vV o.2
  refine r_p hq 3 (pc' := 3) (L' := [(0, .ref 143), (1, .ref a1), (2, .int X2)]) (st' := [.int X2, .ref a1, .ref 143]) rfl ?_
  obtain ⟨g_3, h⟩ := z_ifo_some h
  refine r_ia (pc' := 4) (L' := [(0, .ref 143), (1, .ref a1), (2, .int X2)]) H hq (z_at.mk 1 rfl rfl) (zIn_all (l := [144, 150, 151, 152, 153, 156, 157, 161, 164, 165]) (p := fun a => zAr a 0 (zLI a)) rfl ha1) hx2 g_3 rfl rfl ?_
  intro V_3 hV_3
  obtain ⟨o_4, h_4, h⟩ := Option.bind_eq_some_iff.mp h
  refine r_cvV (pc' := 7) (L' := [(0, .ref 143), (1, .ref a1), (2, .int X2)]) (Ps := [.int V_3]) (rest := []) hq (z_at.mk 3 rfl rfl) (Or.inl ⟨rfl, rfl⟩) rfl rfl (by decide) (by decide) rfl (Nat.not_lt.mpr (Nat.le_of_ble_eq_true rfl)) rfl rfl (z_cat_le 0 rfl (by decide)) (z_lgl_le 2 rfl (by decide)) (by decide) (H.tg rfl) (by show 2 + zR + 1 ≤ _; unfold zR; omega) (g_grp236_ok zR 236 (by simp) hV_3 H h_4) rfl rfl ?_
  intro m_4 p_4 e_4 H_4
  subst e_4
  refine r_p hq 2 (pc' := 10) (L' := [(0, .ref 143), (1, .ref a1), (2, .int X2)]) (st' := [.int ((45 : Int32)), .ref 143]) rfl ?_
  obtain ⟨o_10, h_10, h⟩ := Option.bind_eq_some_iff.mp h
  refine r_cvV (pc' := 13) (L' := [(0, .ref 143), (1, .ref a1), (2, .int X2)]) (Ps := [.int ((45 : Int32))]) (rest := []) hq (z_at.mk 3 rfl rfl) (Or.inl ⟨rfl, rfl⟩) rfl rfl (by decide) (by decide) rfl (Nat.not_lt.mpr (Nat.le_of_ble_eq_true rfl)) rfl rfl (z_cat_le 0 rfl (by decide)) (z_lgl_le 2 rfl (by decide)) (by decide) (H_4.tg rfl) (by omega) (g_m_says_ok (rfl : (45 : Int32).toInt = 45) H_4 h_10) rfl rfl ?_
  intro m_10 p_10 e_10 H_10
  subst e_10
  refine r_p hq 5 (pc' := 18) (L' := [(0, .ref 143), (1, .ref a1), (2, .int X2)]) (st' := [.int (X2 + ((1 : Int32))), .ref a1, .ref 143]) rfl ?_
  obtain ⟨g_18, h⟩ := z_ifo_some h
  refine r_ia (pc' := 19) (L' := [(0, .ref 143), (1, .ref a1), (2, .int X2)]) H_10 hq (z_at.mk 1 rfl rfl) (zIn_all (l := [144, 150, 151, 152, 153, 156, 157, 161, 164, 165]) (p := fun a => zAr a 0 (zLI a)) rfl ha1) (tx_iadd hx2 (rfl : (1 : Int32).toInt = 1)) g_18 rfl rfl ?_
  intro V_18 hV_18
  obtain ⟨o_19, h_19, h⟩ := Option.bind_eq_some_iff.mp h
  refine r_cvV (pc' := 22) (L' := [(0, .ref 143), (1, .ref a1), (2, .int X2)]) (Ps := [.int V_18]) (rest := []) hq (z_at.mk 3 rfl rfl) (Or.inl ⟨rfl, rfl⟩) rfl rfl (by decide) (by decide) rfl (Nat.not_lt.mpr (Nat.le_of_ble_eq_true rfl)) rfl rfl (z_cat_le 0 rfl (by decide)) (z_lgl_le 2 rfl (by decide)) (by decide) (H_10.tg rfl) (by show 2 + zR + 1 ≤ _; unfold zR; omega) (g_grp236_ok zR 236 (by simp) hV_18 H_10 h_19) rfl rfl ?_
  intro m_19 p_19 e_19 H_19
  subst e_19
  refine r_p hq 2 (pc' := 25) (L' := [(0, .ref 143), (1, .ref a1), (2, .int X2)]) (st' := [.int ((44 : Int32)), .ref 143]) rfl ?_
  obtain ⟨o_25, h_25, h⟩ := Option.bind_eq_some_iff.mp h
  refine r_cvV (pc' := 28) (L' := [(0, .ref 143), (1, .ref a1), (2, .int X2)]) (Ps := [.int ((44 : Int32))]) (rest := []) hq (z_at.mk 3 rfl rfl) (Or.inl ⟨rfl, rfl⟩) rfl rfl (by decide) (by decide) rfl (Nat.not_lt.mpr (Nat.le_of_ble_eq_true rfl)) rfl rfl (z_cat_le 0 rfl (by decide)) (z_lgl_le 2 rfl (by decide)) (by decide) (H_19.tg rfl) (by omega) (g_m_says_ok (rfl : (44 : Int32).toInt = 44) H_19 h_25) rfl rfl ?_
  intro m_25 p_25 e_25 H_25
  subst e_25
  refine r_p hq 5 (pc' := 33) (L' := [(0, .ref 143), (1, .ref a1), (2, .int X2)]) (st' := [.int (X2 + ((2 : Int32))), .ref a1, .ref 143]) rfl ?_
  obtain ⟨g_33, h⟩ := z_ifo_some h
  refine r_ia (pc' := 34) (L' := [(0, .ref 143), (1, .ref a1), (2, .int X2)]) H_25 hq (z_at.mk 1 rfl rfl) (zIn_all (l := [144, 150, 151, 152, 153, 156, 157, 161, 164, 165]) (p := fun a => zAr a 0 (zLI a)) rfl ha1) (tx_iadd hx2 (rfl : (2 : Int32).toInt = 2)) g_33 rfl rfl ?_
  intro V_33 hV_33
  obtain ⟨o_34, h_34, h⟩ := Option.bind_eq_some_iff.mp h
  refine r_cvV (pc' := 37) (L' := [(0, .ref 143), (1, .ref a1), (2, .int X2)]) (Ps := [.int V_33]) (rest := []) hq (z_at.mk 3 rfl rfl) (Or.inl ⟨rfl, rfl⟩) rfl rfl (by decide) (by decide) rfl (Nat.not_lt.mpr (Nat.le_of_ble_eq_true rfl)) rfl rfl (z_cat_le 0 rfl (by decide)) (z_lgl_le 2 rfl (by decide)) (by decide) (H_25.tg rfl) (by show 2 + zR + 1 ≤ _; unfold zR; omega) (g_grp236_ok zR 236 (by simp) hV_33 H_25 h_34) rfl rfl ?_
  intro m_34 p_34 e_34 H_34
  subst e_34
  refine r_p hq 2 (pc' := 40) (L' := [(0, .ref 143), (1, .ref a1), (2, .int X2)]) (st' := [.int ((45 : Int32)), .ref 143]) rfl ?_
  obtain ⟨o_40, h_40, h⟩ := Option.bind_eq_some_iff.mp h
  refine r_cvV (pc' := 43) (L' := [(0, .ref 143), (1, .ref a1), (2, .int X2)]) (Ps := [.int ((45 : Int32))]) (rest := []) hq (z_at.mk 3 rfl rfl) (Or.inl ⟨rfl, rfl⟩) rfl rfl (by decide) (by decide) rfl (Nat.not_lt.mpr (Nat.le_of_ble_eq_true rfl)) rfl rfl (z_cat_le 0 rfl (by decide)) (z_lgl_le 2 rfl (by decide)) (by decide) (H_34.tg rfl) (by omega) (g_m_says_ok (rfl : (45 : Int32).toInt = 45) H_34 h_40) rfl rfl ?_
  intro m_40 p_40 e_40 H_40
  subst e_40
  refine r_p hq 5 (pc' := 48) (L' := [(0, .ref 143), (1, .ref a1), (2, .int X2)]) (st' := [.int (X2 + ((3 : Int32))), .ref a1, .ref 143]) rfl ?_
  obtain ⟨g_48, h⟩ := z_ifo_some h
  refine r_ia (pc' := 49) (L' := [(0, .ref 143), (1, .ref a1), (2, .int X2)]) H_40 hq (z_at.mk 1 rfl rfl) (zIn_all (l := [144, 150, 151, 152, 153, 156, 157, 161, 164, 165]) (p := fun a => zAr a 0 (zLI a)) rfl ha1) (tx_iadd hx2 (rfl : (3 : Int32).toInt = 3)) g_48 rfl rfl ?_
  intro V_48 hV_48
  obtain ⟨o_49, h_49, h⟩ := Option.bind_eq_some_iff.mp h
  refine r_cvV (pc' := 52) (L' := [(0, .ref 143), (1, .ref a1), (2, .int X2)]) (Ps := [.int V_48]) (rest := []) hq (z_at.mk 3 rfl rfl) (Or.inl ⟨rfl, rfl⟩) rfl rfl (by decide) (by decide) rfl (Nat.not_lt.mpr (Nat.le_of_ble_eq_true rfl)) rfl rfl (z_cat_le 0 rfl (by decide)) (z_lgl_le 2 rfl (by decide)) (by decide) (H_40.tg rfl) (by show 2 + zR + 1 ≤ _; unfold zR; omega) (g_grp236_ok zR 236 (by simp) hV_48 H_40 h_49) rfl rfl ?_
  intro m_49 p_49 e_49 H_49
  subst e_49
  cases h
  exact r_rv hq (z_at.mk 1 rfl rfl) rfl rfl H_49
def g_m_spell_L27 (g7 : Int → zS → Option (Int × zS)) (x1 : Int) (σ : zS) : Option (Int × zS) :=
  (g_m_region_173 x1 σ).bind fun o_33 =>
  (g_m_saysBox 144 o_33.1 o_33.2).bind fun o_36 =>
  g7 (w32 (x1 + 1)) o_36.2
set_option maxHeartbeats 4000000 in
theorem g_m_spell_L27_ok {xl : Nat} {xs : Nat → Int32} {g7 : Int → zS → Option (Int × zS)} (hg7 : ∀ {X1 : Int32} {x1 : Int} {σ : zS} {p : Nat} {m : zM} {o : Int × zS}, X1.toInt = x1 → zRep xl xs p m σ → g7 x1 σ = some o → zGo xl xs (fun p' => p = p') 504 238 7 [(0, .ref 143), (1, .int X1)] [] m (vI o.1) o.2) {X1 : Int32} {x1 : Int} (hx1 : X1.toInt = x1) {σ : zS} {p : Nat} {m : zM} {o : Int × zS} (H : zRep xl xs p m σ) (h : g_m_spell_L27 g7 x1 σ = some o) : zGo xl xs (fun p' => p = p') 504 238 27 [(0, .ref 143), (1, .int X1)] [] m (vI o.1) o.2 := by
  have hq : z_mth 238 = some z_r238 := rfl
  unfold g_m_spell_L27 at h
  refine r_p hq 2 (pc' := 29) (L' := [(0, .ref 143), (1, .int X1)]) (st' := [.ref 143, .ref 143]) rfl ?_
  refine r_gR (b := 144) (pc' := 32) (L' := [(0, .ref 143), (1, .int X1)]) H hq (z_at.mk 3 rfl rfl) rfl rfl rfl rfl ?_
  refine r_p hq 1 (pc' := 33) (L' := [(0, .ref 143), (1, .int X1)]) (st' := [.int X1, .ref 144, .ref 143]) rfl ?_
  obtain ⟨o_33, h_33, h⟩ := Option.bind_eq_some_iff.mp h
  refine r_csI (pc' := 36) (L' := [(0, .ref 143), (1, .int X1)]) (As := [.int X1]) (rest := [.ref 144, .ref 143]) (j := 173) hq (z_at.mk 3 rfl rfl) (Or.inl ⟨rfl, rfl⟩) rfl rfl (by omega) (g_m_region_173_ok hx1 H h_33) rfl rfl ?_
  intro R_33 m_33 p_33 e_33 hR_33 H_33
  subst e_33
  obtain ⟨o_36, h_36, h⟩ := Option.bind_eq_some_iff.mp h
  refine r_cvV (pc' := 39) (L' := [(0, .ref 143), (1, .int X1)]) (Ps := [.ref 144, .int R_33]) (rest := []) hq (z_at.mk 3 rfl rfl) (Or.inl ⟨rfl, rfl⟩) rfl rfl (by decide) (by decide) rfl (Nat.not_lt.mpr (Nat.le_of_ble_eq_true rfl)) rfl rfl (z_cat_le 0 rfl (by decide)) (z_lgl_le 3 rfl (by decide)) (by decide) (H_33.tg rfl) (by omega) (g_m_saysBox_ok rfl hR_33 H_33 h_36) rfl rfl ?_
  intro m_36 p_36 e_36 H_36
  subst e_36
  refine r_p hq 2 (pc' := 7) (L' := [(0, .ref 143), (1, .int (X1 + (1 : Int32)))]) (st' := []) rfl ?_
  exact hg7 (tx_iadd hx1 (rfl : (1 : Int32).toInt = 1)) H_36 h
def g_m_spell_L7 : Nat → Int → zS → Option (Int × zS)
  | 0, _, _ => none
  | n + 1, x1, σ =>
    let v_13 := σ 144 0
    if v_13 ≤ x1 then
      let v_46 := σ 143 29
      some (v_46, σ)
    else
      if x1 ≤ 0 then
        g_m_spell_L27 ((g_m_spell_L7 n)) x1 σ
      else
        (g_m_says 59 σ).bind fun o_24 =>
        g_m_spell_L27 ((g_m_spell_L7 n)) x1 o_24.2
set_option maxHeartbeats 4000000 in
theorem g_m_spell_L7_ok {xl : Nat} {xs : Nat → Int32} : ∀ (n : Nat) {X1 : Int32} {x1 : Int} {σ : zS} {p : Nat} {m : zM} {o : Int × zS}, X1.toInt = x1 → zRep xl xs p m σ → g_m_spell_L7 n x1 σ = some o → zGo xl xs (fun p' => p = p') 504 238 7 [(0, .ref 143), (1, .int X1)] [] m (vI o.1) o.2
  | 0, _, _, _, _, _, _, _, _, h => by cases h
  | n + 1, X1, x1, σ, p, m, o, hx1, H, h => by
    have hq : z_mth 238 = some z_r238 := rfl
    have ih := fun {X1 : Int32} {x1 : Int} {σ : zS} {p : Nat} {m : zM} {o : Int × zS} => g_m_spell_L7_ok (xl := xl) (xs := xs) n (X1 := X1) (x1 := x1) (σ := σ) (p := p) (m := m) (o := o)
    unfold g_m_spell_L7 at h
    refine r_p hq 2 (pc' := 9) (L' := [(0, .ref 143), (1, .int X1)]) (st' := [.ref 143, .int X1]) rfl ?_
    refine r_gR (b := 144) (pc' := 12) (L' := [(0, .ref 143), (1, .int X1)]) H hq (z_at.mk 3 rfl rfl) rfl rfl rfl rfl ?_
    refine r_p hq 1 (pc' := 13) (L' := [(0, .ref 143), (1, .int X1)]) (st' := [.int ((0 : Int32)), .ref 144, .int X1]) rfl ?_
    refine r_ia (pc' := 14) (L' := [(0, .ref 143), (1, .int X1)]) H hq (z_at.mk 1 rfl rfl) (show zAr 144 0 2740 = true from rfl) (rfl : (0 : Int32).toInt = 0) ⟨by decide, by decide⟩ rfl rfl ?_
    intro V_13 hV_13
    rcases z_ite h with ⟨c_14, h⟩ | ⟨c_14, h⟩
    · refine r_t2 (pc' := 45) (L' := [(0, .ref 143), (1, .int X1)]) hq (z_at.mk 3 rfl rfl) rfl hx1 hV_13 c_14 rfl rfl ?_
      refine r_p hq 1 (pc' := 46) (L' := [(0, .ref 143), (1, .int X1)]) (st' := [.ref 143]) rfl ?_
      refine r_gI (pc' := 49) (L' := [(0, .ref 143), (1, .int X1)]) H hq (z_at.mk 3 rfl rfl) rfl rfl rfl rfl ?_
      intro V_46 hV_46
      cases h
      exact r_ri hq (z_at.mk 1 rfl rfl) rfl rfl hV_46 rfl H
    · refine r_f2 (pc' := 17) (L' := [(0, .ref 143), (1, .int X1)]) hq (z_at.mk 3 rfl rfl) rfl hx1 hV_13 c_14 rfl rfl ?_
      refine r_p hq 1 (pc' := 18) (L' := [(0, .ref 143), (1, .int X1)]) (st' := [.int X1]) rfl ?_
      rcases z_ite h with ⟨c_18, h⟩ | ⟨c_18, h⟩
      · refine r_t1 (pc' := 27) (L' := [(0, .ref 143), (1, .int X1)]) hq (z_at.mk 3 rfl rfl) rfl hx1 c_18 rfl rfl ?_
        exact g_m_spell_L27_ok ih hx1 H h
      · refine r_f1 (pc' := 21) (L' := [(0, .ref 143), (1, .int X1)]) hq (z_at.mk 3 rfl rfl) rfl hx1 c_18 rfl rfl ?_
        refine r_p hq 2 (pc' := 24) (L' := [(0, .ref 143), (1, .int X1)]) (st' := [.int ((59 : Int32)), .ref 143]) rfl ?_
        obtain ⟨o_24, h_24, h⟩ := Option.bind_eq_some_iff.mp h
        refine r_cvV (pc' := 27) (L' := [(0, .ref 143), (1, .int X1)]) (Ps := [.int ((59 : Int32))]) (rest := []) hq (z_at.mk 3 rfl rfl) (Or.inl ⟨rfl, rfl⟩) rfl rfl (by decide) (by decide) rfl (Nat.not_lt.mpr (Nat.le_of_ble_eq_true rfl)) rfl rfl (z_cat_le 0 rfl (by decide)) (z_lgl_le 2 rfl (by decide)) (by decide) (H.tg rfl) (by omega) (g_m_says_ok (rfl : (59 : Int32).toInt = 59) H h_24) rfl rfl ?_
        intro m_24 p_24 e_24 H_24
        subst e_24
        exact g_m_spell_L27_ok ih hx1 H_24 h
def g_m_spell (σ : zS) : Option (Int × zS) :=
  let s_2 := zu σ 143 29 0
  g_m_spell_L7 zK 0 s_2
set_option maxHeartbeats 4000000 in
theorem g_m_spell_ok {xl : Nat} {xs : Nat → Int32} {σ : zS} {p : Nat} {m : zM} {o : Int × zS} (H : zRep xl xs p m σ) (h : g_m_spell σ = some o) : zGo xl xs (fun p' => p = p') 504 238 0 (z_can 238 0 (lv_args 0 [.ref 143])) [] m (vI o.1) o.2 := by
  have hq : z_mth 238 = some z_r238 := rfl
  unfold g_m_spell at h
  show zGo xl xs (fun p' => p = p') 504 238 0 [(0, .ref 143)] [] m (vI o.1) o.2
  refine r_p hq 2 (pc' := 2) (L' := [(0, .ref 143)]) (st' := [.int ((0 : Int32)), .ref 143]) rfl ?_
  refine r_pI (X := (0 : Int32)) (pc' := 5) (L' := [(0, .ref 143)]) H hq (z_at.mk 3 rfl rfl) rfl rfl (rfl : (0 : Int32).toInt = 0) (by decide) rfl rfl rfl rfl ?_
  intro m_2 H_2
  refine r_p hq 2 (pc' := 7) (L' := [(0, .ref 143), (1, .int ((0 : Int32)))]) (st' := []) rfl ?_
  exact g_m_spell_L7_ok zK (rfl : (0 : Int32).toInt = 0) H_2 h
def g_m_explain_L152 : Nat → Int → Int → zS → Option (Int × zS)
  | 0, _, _, _ => none
  | n + 1, x5, x6, σ =>
    let v_155 := σ 143 10
    if v_155 ≤ x6 then
      (g_m_saysWord 18 σ).bind fun o_235 =>
      (g_grp236 zR 236 x5 o_235.2).bind fun o_241 =>
      let v_245 := o_241.2 143 29
      some (v_245, o_241.2)
    else
      (g_m_saysWord 17 σ).bind fun o_165 =>
      (g_m_saysBox 150 (w32 (4 * x6)) o_165.2).bind fun o_177 =>
      (g_m_says 32 o_177.2).bind fun o_183 =>
      (g_m_cost 150 (w32 (4 * x6)) o_183.2).bind fun o_196 =>
      (g_grp236 zR 236 o_196.1 o_196.2).bind fun o_199 =>
      (g_m_cost 150 (w32 (4 * x6)) o_199.2).bind fun o_213 =>
      (g_m_says 59 o_213.2).bind fun o_222 =>
      (g_m_explain_L152 n) (w32 (x5 + o_213.1)) (w32 (x6 + 1)) o_222.2
set_option maxHeartbeats 4000000 in
theorem g_m_explain_L152_ok {xl : Nat} {xs : Nat → Int32} : ∀ (n : Nat) {X5 : Int32} {x5 : Int} {X6 : Int32} {x6 : Int} {σ : zS} {p : Nat} {m : zM} {o : Int × zS}, X5.toInt = x5 → X6.toInt = x6 → zRep xl xs p m σ → g_m_explain_L152 n x5 x6 σ = some o → zGo xl xs (fun p' => p = p') 504 239 152 [(0, .ref 143), (5, .int X5), (6, .int X6)] [] m (vI o.1) o.2
  | 0, _, _, _, _, _, _, _, _, _, _, _, h => by cases h
  | n + 1, X5, x5, X6, x6, σ, p, m, o, hx5, hx6, H, h => by
    have hq : z_mth 239 = some z_r239 := rfl
    have ih := fun {X5 : Int32} {x5 : Int} {X6 : Int32} {x6 : Int} {σ : zS} {p : Nat} {m : zM} {o : Int × zS} => g_m_explain_L152_ok (xl := xl) (xs := xs) n (X5 := X5) (x5 := x5) (X6 := X6) (x6 := x6) (σ := σ) (p := p) (m := m) (o := o)
    unfold g_m_explain_L152 at h
    refine r_p hq 2 (pc' := 155) (L' := [(0, .ref 143), (5, .int X5), (6, .int X6)]) (st' := [.ref 143, .int X6]) rfl ?_
    refine r_gI (pc' := 158) (L' := [(0, .ref 143), (5, .int X5), (6, .int X6)]) H hq (z_at.mk 3 rfl rfl) rfl rfl rfl rfl ?_
    intro V_155 hV_155
    rcases z_ite h with ⟨c_158, h⟩ | ⟨c_158, h⟩
    · refine r_t2 (pc' := 231) (L' := [(0, .ref 143), (5, .int X5), (6, .int X6)]) hq (z_at.mk 3 rfl rfl) rfl hx6 hV_155 c_158 rfl rfl ?_
      refine r_p hq 2 (pc' := 235) (L' := [(0, .ref 143), (5, .int X5), (6, .int X6)]) (st' := [.ref 18, .ref 143]) rfl ?_
      obtain ⟨o_235, h_235, h⟩ := Option.bind_eq_some_iff.mp h
      refine r_cvV (pc' := 238) (L' := [(0, .ref 143), (5, .int X5), (6, .int X6)]) (Ps := [.ref 18]) (rest := []) hq (z_at.mk 3 rfl rfl) (Or.inl ⟨rfl, rfl⟩) rfl rfl (by decide) (by decide) rfl (Nat.not_lt.mpr (Nat.le_of_ble_eq_true rfl)) rfl rfl (z_cat_le 0 rfl (by decide)) (z_lgl_le 2 rfl (by decide)) (by decide) (H.tg rfl) (by omega) (g_m_saysWord_ok rfl H h_235) rfl rfl ?_
      intro m_235 p_235 e_235 H_235
      subst e_235
      refine r_p hq 2 (pc' := 241) (L' := [(0, .ref 143), (5, .int X5), (6, .int X6)]) (st' := [.int X5, .ref 143]) rfl ?_
      obtain ⟨o_241, h_241, h⟩ := Option.bind_eq_some_iff.mp h
      refine r_cvV (pc' := 244) (L' := [(0, .ref 143), (5, .int X5), (6, .int X6)]) (Ps := [.int X5]) (rest := []) hq (z_at.mk 3 rfl rfl) (Or.inl ⟨rfl, rfl⟩) rfl rfl (by decide) (by decide) rfl (Nat.not_lt.mpr (Nat.le_of_ble_eq_true rfl)) rfl rfl (z_cat_le 0 rfl (by decide)) (z_lgl_le 2 rfl (by decide)) (by decide) (H_235.tg rfl) (by show 2 + zR + 1 ≤ _; unfold zR; omega) (g_grp236_ok zR 236 (by simp) hx5 H_235 h_241) rfl rfl ?_
      intro m_241 p_241 e_241 H_241
      subst e_241
      refine r_p hq 1 (pc' := 245) (L' := [(0, .ref 143), (5, .int X5), (6, .int X6)]) (st' := [.ref 143]) rfl ?_
      refine r_gI (pc' := 248) (L' := [(0, .ref 143), (5, .int X5), (6, .int X6)]) H_241 hq (z_at.mk 3 rfl rfl) rfl rfl rfl rfl ?_
      intro V_245 hV_245
      cases h
      exact r_ri hq (z_at.mk 1 rfl rfl) rfl rfl hV_245 rfl H_241
    · refine r_f2 (pc' := 161) (L' := [(0, .ref 143), (5, .int X5), (6, .int X6)]) hq (z_at.mk 3 rfl rfl) rfl hx6 hV_155 c_158 rfl rfl ?_
      refine r_p hq 2 (pc' := 165) (L' := [(0, .ref 143), (5, .int X5), (6, .int X6)]) (st' := [.ref 17, .ref 143]) rfl ?_
      obtain ⟨o_165, h_165, h⟩ := Option.bind_eq_some_iff.mp h
      refine r_cvV (pc' := 168) (L' := [(0, .ref 143), (5, .int X5), (6, .int X6)]) (Ps := [.ref 17]) (rest := []) hq (z_at.mk 3 rfl rfl) (Or.inl ⟨rfl, rfl⟩) rfl rfl (by decide) (by decide) rfl (Nat.not_lt.mpr (Nat.le_of_ble_eq_true rfl)) rfl rfl (z_cat_le 0 rfl (by decide)) (z_lgl_le 2 rfl (by decide)) (by decide) (H.tg rfl) (by omega) (g_m_saysWord_ok rfl H h_165) rfl rfl ?_
      intro m_165 p_165 e_165 H_165
      subst e_165
      refine r_p hq 2 (pc' := 170) (L' := [(0, .ref 143), (5, .int X5), (6, .int X6)]) (st' := [.ref 143, .ref 143]) rfl ?_
      refine r_gR (b := 150) (pc' := 173) (L' := [(0, .ref 143), (5, .int X5), (6, .int X6)]) H_165 hq (z_at.mk 3 rfl rfl) rfl rfl rfl rfl ?_
      refine r_p hq 3 (pc' := 177) (L' := [(0, .ref 143), (5, .int X5), (6, .int X6)]) (st' := [.int (((4 : Int32)) * X6), .ref 150, .ref 143]) rfl ?_
      obtain ⟨o_177, h_177, h⟩ := Option.bind_eq_some_iff.mp h
      refine r_cvV (pc' := 180) (L' := [(0, .ref 143), (5, .int X5), (6, .int X6)]) (Ps := [.ref 150, .int (((4 : Int32)) * X6)]) (rest := []) hq (z_at.mk 3 rfl rfl) (Or.inl ⟨rfl, rfl⟩) rfl rfl (by decide) (by decide) rfl (Nat.not_lt.mpr (Nat.le_of_ble_eq_true rfl)) rfl rfl (z_cat_le 0 rfl (by decide)) (z_lgl_le 3 rfl (by decide)) (by decide) (H_165.tg rfl) (by omega) (g_m_saysBox_ok rfl (tx_imul (rfl : (4 : Int32).toInt = 4) hx6) H_165 h_177) rfl rfl ?_
      intro m_177 p_177 e_177 H_177
      subst e_177
      refine r_p hq 2 (pc' := 183) (L' := [(0, .ref 143), (5, .int X5), (6, .int X6)]) (st' := [.int ((32 : Int32)), .ref 143]) rfl ?_
      obtain ⟨o_183, h_183, h⟩ := Option.bind_eq_some_iff.mp h
      refine r_cvV (pc' := 186) (L' := [(0, .ref 143), (5, .int X5), (6, .int X6)]) (Ps := [.int ((32 : Int32))]) (rest := []) hq (z_at.mk 3 rfl rfl) (Or.inl ⟨rfl, rfl⟩) rfl rfl (by decide) (by decide) rfl (Nat.not_lt.mpr (Nat.le_of_ble_eq_true rfl)) rfl rfl (z_cat_le 0 rfl (by decide)) (z_lgl_le 2 rfl (by decide)) (by decide) (H_177.tg rfl) (by omega) (g_m_says_ok (rfl : (32 : Int32).toInt = 32) H_177 h_183) rfl rfl ?_
      intro m_183 p_183 e_183 H_183
      subst e_183
      refine r_p hq 3 (pc' := 189) (L' := [(0, .ref 143), (5, .int X5), (6, .int X6)]) (st' := [.ref 143, .ref 143, .ref 143]) rfl ?_
      refine r_gR (b := 150) (pc' := 192) (L' := [(0, .ref 143), (5, .int X5), (6, .int X6)]) H_183 hq (z_at.mk 3 rfl rfl) rfl rfl rfl rfl ?_
      refine r_p hq 3 (pc' := 196) (L' := [(0, .ref 143), (5, .int X5), (6, .int X6)]) (st' := [.int (((4 : Int32)) * X6), .ref 150, .ref 143, .ref 143]) rfl ?_
      obtain ⟨o_196, h_196, h⟩ := Option.bind_eq_some_iff.mp h
      refine r_cvI (pc' := 199) (L' := [(0, .ref 143), (5, .int X5), (6, .int X6)]) (Ps := [.ref 150, .int (((4 : Int32)) * X6)]) (rest := [.ref 143]) hq (z_at.mk 3 rfl rfl) (Or.inl ⟨rfl, rfl⟩) rfl rfl (by decide) (by decide) rfl (Nat.not_lt.mpr (Nat.le_of_ble_eq_true rfl)) rfl rfl (z_cat_le 1 rfl (by decide)) (z_lgl_le 3 rfl (by decide)) (by decide) (H_183.tg rfl) (by omega) (g_m_cost_ok rfl (tx_imul (rfl : (4 : Int32).toInt = 4) hx6) H_183 h_196) rfl rfl ?_
      intro R_196 m_196 p_196 e_196 hR_196 H_196
      subst e_196
      obtain ⟨o_199, h_199, h⟩ := Option.bind_eq_some_iff.mp h
      refine r_cvV (pc' := 202) (L' := [(0, .ref 143), (5, .int X5), (6, .int X6)]) (Ps := [.int R_196]) (rest := []) hq (z_at.mk 3 rfl rfl) (Or.inl ⟨rfl, rfl⟩) rfl rfl (by decide) (by decide) rfl (Nat.not_lt.mpr (Nat.le_of_ble_eq_true rfl)) rfl rfl (z_cat_le 0 rfl (by decide)) (z_lgl_le 2 rfl (by decide)) (by decide) (H_196.tg rfl) (by show 2 + zR + 1 ≤ _; unfold zR; omega) (g_grp236_ok zR 236 (by simp) hR_196 H_196 h_199) rfl rfl ?_
      intro m_199 p_199 e_199 H_199
      subst e_199
      refine r_p hq 3 (pc' := 206) (L' := [(0, .ref 143), (5, .int X5), (6, .int X6)]) (st' := [.ref 143, .ref 143, .int X5]) rfl ?_
      refine r_gR (b := 150) (pc' := 209) (L' := [(0, .ref 143), (5, .int X5), (6, .int X6)]) H_199 hq (z_at.mk 3 rfl rfl) rfl rfl rfl rfl ?_
      refine r_p hq 3 (pc' := 213) (L' := [(0, .ref 143), (5, .int X5), (6, .int X6)]) (st' := [.int (((4 : Int32)) * X6), .ref 150, .ref 143, .int X5]) rfl ?_
      obtain ⟨o_213, h_213, h⟩ := Option.bind_eq_some_iff.mp h
      refine r_cvI (pc' := 216) (L' := [(0, .ref 143), (5, .int X5), (6, .int X6)]) (Ps := [.ref 150, .int (((4 : Int32)) * X6)]) (rest := [.int X5]) hq (z_at.mk 3 rfl rfl) (Or.inl ⟨rfl, rfl⟩) rfl rfl (by decide) (by decide) rfl (Nat.not_lt.mpr (Nat.le_of_ble_eq_true rfl)) rfl rfl (z_cat_le 1 rfl (by decide)) (z_lgl_le 3 rfl (by decide)) (by decide) (H_199.tg rfl) (by omega) (g_m_cost_ok rfl (tx_imul (rfl : (4 : Int32).toInt = 4) hx6) H_199 h_213) rfl rfl ?_
      intro R_213 m_213 p_213 e_213 hR_213 H_213
      subst e_213
      refine r_p hq 4 (pc' := 222) (L' := [(5, .int (X5 + R_213)), (0, .ref 143), (6, .int X6)]) (st' := [.int ((59 : Int32)), .ref 143]) rfl ?_
      obtain ⟨o_222, h_222, h⟩ := Option.bind_eq_some_iff.mp h
      refine r_cvV (pc' := 225) (L' := [(5, .int (X5 + R_213)), (0, .ref 143), (6, .int X6)]) (Ps := [.int ((59 : Int32))]) (rest := []) hq (z_at.mk 3 rfl rfl) (Or.inl ⟨rfl, rfl⟩) rfl rfl (by decide) (by decide) rfl (Nat.not_lt.mpr (Nat.le_of_ble_eq_true rfl)) rfl rfl (z_cat_le 0 rfl (by decide)) (z_lgl_le 2 rfl (by decide)) (by decide) (H_213.tg rfl) (by omega) (g_m_says_ok (rfl : (59 : Int32).toInt = 59) H_213 h_222) rfl rfl ?_
      intro m_222 p_222 e_222 H_222
      subst e_222
      refine r_p hq 2 (pc' := 152) (L' := [(0, .ref 143), (5, .int (X5 + R_213)), (6, .int (X6 + (1 : Int32)))]) (st' := []) rfl ?_
      exact ih (tx_iadd hx5 hR_213) (tx_iadd hx6 (rfl : (1 : Int32).toInt = 1)) H_222 h
def g_m_explain_L140 (g39 : Int → zS → Option (Int × zS)) (x5 : Int) (σ : zS) : Option (Int × zS) :=
  g39 (w32 (x5 + 1)) σ
set_option maxHeartbeats 4000000 in
theorem g_m_explain_L140_ok {xl : Nat} {xs : Nat → Int32} {g39 : Int → zS → Option (Int × zS)} (hg39 : ∀ {X5 : Int32} {x5 : Int} {σ : zS} {p : Nat} {m : zM} {o : Int × zS}, X5.toInt = x5 → zRep xl xs p m σ → g39 x5 σ = some o → zGo xl xs (fun p' => p = p') 504 239 39 [(0, .ref 143), (5, .int X5)] [] m (vI o.1) o.2) {X5 : Int32} {x5 : Int} (hx5 : X5.toInt = x5) {σ : zS} {p : Nat} {m : zM} {o : Int × zS} (H : zRep xl xs p m σ) (h : g_m_explain_L140 g39 x5 σ = some o) : zGo xl xs (fun p' => p = p') 504 239 140 [(0, .ref 143), (5, .int X5)] [] m (vI o.1) o.2 := by
  have hq : z_mth 239 = some z_r239 := rfl
  unfold g_m_explain_L140 at h
  refine r_p hq 2 (pc' := 39) (L' := [(0, .ref 143), (5, .int (X5 + (1 : Int32)))]) (st' := []) rfl ?_
  exact hg39 (tx_iadd hx5 (rfl : (1 : Int32).toInt = 1)) H h
def g_m_explain_L39 : Nat → Int → zS → Option (Int × zS)
  | 0, _, _ => none
  | n + 1, x5, σ =>
    let v_46 := σ 144 0
    if v_46 ≤ x5 then
      g_m_explain_L152 zK 0 0 σ
    else
      (g_m_region_173 x5 σ).bind fun o_56 =>
      (g_m_doMeet 144 152 o_56.1 0 o_56.2).bind fun o_64 =>
      if o_64.1 ≠ 0 then
        (g_m_saysWord 16 o_64.2).bind fun o_77 =>
        (g_m_region_173 x5 o_77.2).bind fun o_87 =>
        if 0 ≤ w32 (o_87.1 + 8) ∧ w32 (o_87.1 + 8) < 2740 then
        let v_93 := o_87.2 144 (w32 (o_87.1 + 8))
        (g_grp236 zR 236 v_93 o_87.2).bind fun o_94 =>
        (g_m_says 32 o_94.2).bind fun o_100 =>
        (g_m_region_173 x5 o_100.2).bind fun o_109 =>
        (g_m_commons 144 152 153 o_109.1 0 0 o_109.2).bind fun o_122 =>
        (g_m_saysBox 153 0 o_122.2).bind fun o_131 =>
        (g_m_says 59 o_131.2).bind fun o_137 =>
        g_m_explain_L140 ((g_m_explain_L39 n)) x5 o_137.2
        else none
      else
        g_m_explain_L140 ((g_m_explain_L39 n)) x5 o_64.2
set_option maxHeartbeats 4000000 in
theorem g_m_explain_L39_ok {xl : Nat} {xs : Nat → Int32} : ∀ (n : Nat) {X5 : Int32} {x5 : Int} {σ : zS} {p : Nat} {m : zM} {o : Int × zS}, X5.toInt = x5 → zRep xl xs p m σ → g_m_explain_L39 n x5 σ = some o → zGo xl xs (fun p' => p = p') 504 239 39 [(0, .ref 143), (5, .int X5)] [] m (vI o.1) o.2
  | 0, _, _, _, _, _, _, _, _, h => by cases h
  | n + 1, X5, x5, σ, p, m, o, hx5, H, h => by
    have hq : z_mth 239 = some z_r239 := rfl
    have ih := fun {X5 : Int32} {x5 : Int} {σ : zS} {p : Nat} {m : zM} {o : Int × zS} => g_m_explain_L39_ok (xl := xl) (xs := xs) n (X5 := X5) (x5 := x5) (σ := σ) (p := p) (m := m) (o := o)
    unfold g_m_explain_L39 at h
    refine r_p hq 2 (pc' := 42) (L' := [(0, .ref 143), (5, .int X5)]) (st' := [.ref 143, .int X5]) rfl ?_
    refine r_gR (b := 144) (pc' := 45) (L' := [(0, .ref 143), (5, .int X5)]) H hq (z_at.mk 3 rfl rfl) rfl rfl rfl rfl ?_
    refine r_p hq 1 (pc' := 46) (L' := [(0, .ref 143), (5, .int X5)]) (st' := [.int ((0 : Int32)), .ref 144, .int X5]) rfl ?_
    refine r_ia (pc' := 47) (L' := [(0, .ref 143), (5, .int X5)]) H hq (z_at.mk 1 rfl rfl) (show zAr 144 0 2740 = true from rfl) (rfl : (0 : Int32).toInt = 0) ⟨by decide, by decide⟩ rfl rfl ?_
    intro V_46 hV_46
    rcases z_ite h with ⟨c_47, h⟩ | ⟨c_47, h⟩
    · refine r_t2 (pc' := 146) (L' := [(0, .ref 143), (5, .int X5)]) hq (z_at.mk 3 rfl rfl) rfl hx5 hV_46 c_47 rfl rfl ?_
      refine r_p hq 4 (pc' := 152) (L' := [(0, .ref 143), (5, .int ((0 : Int32))), (6, .int ((0 : Int32)))]) (st' := []) rfl ?_
      exact g_m_explain_L152_ok zK (rfl : (0 : Int32).toInt = 0) (rfl : (0 : Int32).toInt = 0) H h
    · refine r_f2 (pc' := 50) (L' := [(0, .ref 143), (5, .int X5)]) hq (z_at.mk 3 rfl rfl) rfl hx5 hV_46 c_47 rfl rfl ?_
      refine r_p hq 1 (pc' := 51) (L' := [(0, .ref 143), (5, .int X5)]) (st' := [.ref 143]) rfl ?_
      refine r_gR (b := 144) (pc' := 54) (L' := [(0, .ref 143), (5, .int X5)]) H hq (z_at.mk 3 rfl rfl) rfl rfl rfl rfl ?_
      refine r_p hq 1 (pc' := 56) (L' := [(0, .ref 143), (5, .int X5)]) (st' := [.int X5, .ref 144]) rfl ?_
      obtain ⟨o_56, h_56, h⟩ := Option.bind_eq_some_iff.mp h
      refine r_csI (pc' := 59) (L' := [(0, .ref 143), (5, .int X5)]) (As := [.int X5]) (rest := [.ref 144]) (j := 173) hq (z_at.mk 3 rfl rfl) (Or.inl ⟨rfl, rfl⟩) rfl rfl (by omega) (g_m_region_173_ok hx5 H h_56) rfl rfl ?_
      intro R_56 m_56 p_56 e_56 hR_56 H_56
      subst e_56
      refine r_p hq 1 (pc' := 60) (L' := [(0, .ref 143), (5, .int X5)]) (st' := [.ref 143, .int R_56, .ref 144]) rfl ?_
      refine r_gR (b := 152) (pc' := 63) (L' := [(0, .ref 143), (5, .int X5)]) H_56 hq (z_at.mk 3 rfl rfl) rfl rfl rfl rfl ?_
      refine r_p hq 1 (pc' := 64) (L' := [(0, .ref 143), (5, .int X5)]) (st' := [.int ((0 : Int32)), .ref 152, .int R_56, .ref 144]) rfl ?_
      obtain ⟨o_64, h_64, h⟩ := Option.bind_eq_some_iff.mp h
      refine r_csI (pc' := 67) (L' := [(0, .ref 143), (5, .int X5)]) (As := [.ref 144, .int R_56, .ref 152, .int ((0 : Int32))]) (rest := []) (j := 169) hq (z_at.mk 3 rfl rfl) (Or.inl ⟨rfl, rfl⟩) rfl rfl (by omega) (g_m_doMeet_ok rfl rfl hR_56 (rfl : (0 : Int32).toInt = 0) H_56 h_64) rfl rfl ?_
      intro R_64 m_64 p_64 e_64 hR_64 H_64
      subst e_64
      rcases z_ite h with ⟨c_67, h⟩ | ⟨c_67, h⟩
      · refine r_t1 (pc' := 73) (L' := [(0, .ref 143), (5, .int X5)]) hq (z_at.mk 3 rfl rfl) rfl hR_64 c_67 rfl rfl ?_
        refine r_p hq 2 (pc' := 77) (L' := [(0, .ref 143), (5, .int X5)]) (st' := [.ref 16, .ref 143]) rfl ?_
        obtain ⟨o_77, h_77, h⟩ := Option.bind_eq_some_iff.mp h
        refine r_cvV (pc' := 80) (L' := [(0, .ref 143), (5, .int X5)]) (Ps := [.ref 16]) (rest := []) hq (z_at.mk 3 rfl rfl) (Or.inl ⟨rfl, rfl⟩) rfl rfl (by decide) (by decide) rfl (Nat.not_lt.mpr (Nat.le_of_ble_eq_true rfl)) rfl rfl (z_cat_le 0 rfl (by decide)) (z_lgl_le 2 rfl (by decide)) (by decide) (H_64.tg rfl) (by omega) (g_m_saysWord_ok rfl H_64 h_77) rfl rfl ?_
        intro m_77 p_77 e_77 H_77
        subst e_77
        refine r_p hq 2 (pc' := 82) (L' := [(0, .ref 143), (5, .int X5)]) (st' := [.ref 143, .ref 143]) rfl ?_
        refine r_gR (b := 144) (pc' := 85) (L' := [(0, .ref 143), (5, .int X5)]) H_77 hq (z_at.mk 3 rfl rfl) rfl rfl rfl rfl ?_
        refine r_p hq 1 (pc' := 87) (L' := [(0, .ref 143), (5, .int X5)]) (st' := [.int X5, .ref 144, .ref 143]) rfl ?_
        obtain ⟨o_87, h_87, h⟩ := Option.bind_eq_some_iff.mp h
        refine r_csI (pc' := 90) (L' := [(0, .ref 143), (5, .int X5)]) (As := [.int X5]) (rest := [.ref 144, .ref 143]) (j := 173) hq (z_at.mk 3 rfl rfl) (Or.inl ⟨rfl, rfl⟩) rfl rfl (by omega) (g_m_region_173_ok hx5 H_77 h_87) rfl rfl ?_
        intro R_87 m_87 p_87 e_87 hR_87 H_87
        subst e_87
        refine r_p hq 2 (pc' := 93) (L' := [(0, .ref 143), (5, .int X5)]) (st' := [.int (R_87 + ((8 : Int32))), .ref 144, .ref 143]) rfl ?_
        obtain ⟨g_93, h⟩ := z_ifo_some h
        refine r_ia (pc' := 94) (L' := [(0, .ref 143), (5, .int X5)]) H_87 hq (z_at.mk 1 rfl rfl) (show zAr 144 0 2740 = true from rfl) (tx_iadd hR_87 (rfl : (8 : Int32).toInt = 8)) g_93 rfl rfl ?_
        intro V_93 hV_93
        obtain ⟨o_94, h_94, h⟩ := Option.bind_eq_some_iff.mp h
        refine r_cvV (pc' := 97) (L' := [(0, .ref 143), (5, .int X5)]) (Ps := [.int V_93]) (rest := []) hq (z_at.mk 3 rfl rfl) (Or.inl ⟨rfl, rfl⟩) rfl rfl (by decide) (by decide) rfl (Nat.not_lt.mpr (Nat.le_of_ble_eq_true rfl)) rfl rfl (z_cat_le 0 rfl (by decide)) (z_lgl_le 2 rfl (by decide)) (by decide) (H_87.tg rfl) (by show 2 + zR + 1 ≤ _; unfold zR; omega) (g_grp236_ok zR 236 (by simp) hV_93 H_87 h_94) rfl rfl ?_
        intro m_94 p_94 e_94 H_94
        subst e_94
        refine r_p hq 2 (pc' := 100) (L' := [(0, .ref 143), (5, .int X5)]) (st' := [.int ((32 : Int32)), .ref 143]) rfl ?_
        obtain ⟨o_100, h_100, h⟩ := Option.bind_eq_some_iff.mp h
        refine r_cvV (pc' := 103) (L' := [(0, .ref 143), (5, .int X5)]) (Ps := [.int ((32 : Int32))]) (rest := []) hq (z_at.mk 3 rfl rfl) (Or.inl ⟨rfl, rfl⟩) rfl rfl (by decide) (by decide) rfl (Nat.not_lt.mpr (Nat.le_of_ble_eq_true rfl)) rfl rfl (z_cat_le 0 rfl (by decide)) (z_lgl_le 2 rfl (by decide)) (by decide) (H_94.tg rfl) (by omega) (g_m_says_ok (rfl : (32 : Int32).toInt = 32) H_94 h_100) rfl rfl ?_
        intro m_100 p_100 e_100 H_100
        subst e_100
        refine r_p hq 1 (pc' := 104) (L' := [(0, .ref 143), (5, .int X5)]) (st' := [.ref 143]) rfl ?_
        refine r_gR (b := 144) (pc' := 107) (L' := [(0, .ref 143), (5, .int X5)]) H_100 hq (z_at.mk 3 rfl rfl) rfl rfl rfl rfl ?_
        refine r_p hq 1 (pc' := 109) (L' := [(0, .ref 143), (5, .int X5)]) (st' := [.int X5, .ref 144]) rfl ?_
        obtain ⟨o_109, h_109, h⟩ := Option.bind_eq_some_iff.mp h
        refine r_csI (pc' := 112) (L' := [(0, .ref 143), (5, .int X5)]) (As := [.int X5]) (rest := [.ref 144]) (j := 173) hq (z_at.mk 3 rfl rfl) (Or.inl ⟨rfl, rfl⟩) rfl rfl (by omega) (g_m_region_173_ok hx5 H_100 h_109) rfl rfl ?_
        intro R_109 m_109 p_109 e_109 hR_109 H_109
        subst e_109
        refine r_p hq 1 (pc' := 113) (L' := [(0, .ref 143), (5, .int X5)]) (st' := [.ref 143, .int R_109, .ref 144]) rfl ?_
        refine r_gR (b := 152) (pc' := 116) (L' := [(0, .ref 143), (5, .int X5)]) H_109 hq (z_at.mk 3 rfl rfl) rfl rfl rfl rfl ?_
        refine r_p hq 2 (pc' := 118) (L' := [(0, .ref 143), (5, .int X5)]) (st' := [.ref 143, .int ((0 : Int32)), .ref 152, .int R_109, .ref 144]) rfl ?_
        refine r_gR (b := 153) (pc' := 121) (L' := [(0, .ref 143), (5, .int X5)]) H_109 hq (z_at.mk 3 rfl rfl) rfl rfl rfl rfl ?_
        refine r_p hq 1 (pc' := 122) (L' := [(0, .ref 143), (5, .int X5)]) (st' := [.int ((0 : Int32)), .ref 153, .int ((0 : Int32)), .ref 152, .int R_109, .ref 144]) rfl ?_
        obtain ⟨o_122, h_122, h⟩ := Option.bind_eq_some_iff.mp h
        refine r_csV (pc' := 125) (L' := [(0, .ref 143), (5, .int X5)]) (As := [.ref 144, .int R_109, .ref 152, .int ((0 : Int32)), .ref 153, .int ((0 : Int32))]) (rest := []) (j := 170) hq (z_at.mk 3 rfl rfl) (Or.inl ⟨rfl, rfl⟩) rfl rfl (by omega) (g_m_commons_ok rfl rfl rfl hR_109 (rfl : (0 : Int32).toInt = 0) (rfl : (0 : Int32).toInt = 0) H_109 h_122) rfl rfl ?_
        intro m_122 p_122 e_122 H_122
        subst e_122
        refine r_p hq 2 (pc' := 127) (L' := [(0, .ref 143), (5, .int X5)]) (st' := [.ref 143, .ref 143]) rfl ?_
        refine r_gR (b := 153) (pc' := 130) (L' := [(0, .ref 143), (5, .int X5)]) H_122 hq (z_at.mk 3 rfl rfl) rfl rfl rfl rfl ?_
        refine r_p hq 1 (pc' := 131) (L' := [(0, .ref 143), (5, .int X5)]) (st' := [.int ((0 : Int32)), .ref 153, .ref 143]) rfl ?_
        obtain ⟨o_131, h_131, h⟩ := Option.bind_eq_some_iff.mp h
        refine r_cvV (pc' := 134) (L' := [(0, .ref 143), (5, .int X5)]) (Ps := [.ref 153, .int ((0 : Int32))]) (rest := []) hq (z_at.mk 3 rfl rfl) (Or.inl ⟨rfl, rfl⟩) rfl rfl (by decide) (by decide) rfl (Nat.not_lt.mpr (Nat.le_of_ble_eq_true rfl)) rfl rfl (z_cat_le 0 rfl (by decide)) (z_lgl_le 3 rfl (by decide)) (by decide) (H_122.tg rfl) (by omega) (g_m_saysBox_ok rfl (rfl : (0 : Int32).toInt = 0) H_122 h_131) rfl rfl ?_
        intro m_131 p_131 e_131 H_131
        subst e_131
        refine r_p hq 2 (pc' := 137) (L' := [(0, .ref 143), (5, .int X5)]) (st' := [.int ((59 : Int32)), .ref 143]) rfl ?_
        obtain ⟨o_137, h_137, h⟩ := Option.bind_eq_some_iff.mp h
        refine r_cvV (pc' := 140) (L' := [(0, .ref 143), (5, .int X5)]) (Ps := [.int ((59 : Int32))]) (rest := []) hq (z_at.mk 3 rfl rfl) (Or.inl ⟨rfl, rfl⟩) rfl rfl (by decide) (by decide) rfl (Nat.not_lt.mpr (Nat.le_of_ble_eq_true rfl)) rfl rfl (z_cat_le 0 rfl (by decide)) (z_lgl_le 2 rfl (by decide)) (by decide) (H_131.tg rfl) (by omega) (g_m_says_ok (rfl : (59 : Int32).toInt = 59) H_131 h_137) rfl rfl ?_
        intro m_137 p_137 e_137 H_137
        subst e_137
        exact g_m_explain_L140_ok ih hx5 H_137 h
      · refine r_f1 (pc' := 70) (L' := [(0, .ref 143), (5, .int X5)]) hq (z_at.mk 3 rfl rfl) rfl hR_64 c_67 rfl rfl ?_
        refine r_p hq 1 (pc' := 140) (L' := [(0, .ref 143), (5, .int X5)]) (st' := []) rfl ?_
        exact g_m_explain_L140_ok ih hx5 H_64 h
def g_m_explain (x1 : Int) (x2 : Int) (x3 : Int) (x4 : Int) (σ : zS) : Option (Int × zS) :=
  (g_m_isBox x1 x2 x3 x4 σ).bind fun o_5 =>
  if o_5.1 ≠ 0 then
    (g_m_sets 152 0 x1 x2 x3 x4 o_5.2).bind fun o_24 =>
    (g_m_misses o_24.2).bind fun o_28 =>
    let s_33 := zu o_28.2 143 29 0
    g_m_explain_L39 zK 0 s_33
  else
    some (-2, o_5.2)
set_option maxHeartbeats 4000000 in
theorem g_m_explain_ok {xl : Nat} {xs : Nat → Int32} {X1 : Int32} {x1 : Int} (hx1 : X1.toInt = x1) {X2 : Int32} {x2 : Int} (hx2 : X2.toInt = x2) {X3 : Int32} {x3 : Int} (hx3 : X3.toInt = x3) {X4 : Int32} {x4 : Int} (hx4 : X4.toInt = x4) {σ : zS} {p : Nat} {m : zM} {o : Int × zS} (H : zRep xl xs p m σ) (h : g_m_explain x1 x2 x3 x4 σ = some o) : zGo xl xs (fun p' => p = p') 504 239 0 (z_can 239 0 (lv_args 0 [.ref 143, .int X1, .int X2, .int X3, .int X4])) [] m (vI o.1) o.2 := by
  have hq : z_mth 239 = some z_r239 := rfl
  unfold g_m_explain at h
  show zGo xl xs (fun p' => p = p') 504 239 0 [(0, .ref 143), (1, .int X1), (2, .int X2), (3, .int X3), (4, .int X4)] [] m (vI o.1) o.2
  refine r_p hq 4 (pc' := 5) (L' := [(0, .ref 143), (1, .int X1), (2, .int X2), (3, .int X3), (4, .int X4)]) (st' := [.int X4, .int X3, .int X2, .int X1]) rfl ?_
  obtain ⟨o_5, h_5, h⟩ := Option.bind_eq_some_iff.mp h
  refine r_csI (pc' := 8) (L' := [(0, .ref 143), (1, .int X1), (2, .int X2), (3, .int X3), (4, .int X4)]) (As := [.int X1, .int X2, .int X3, .int X4]) (rest := []) (j := 164) hq (z_at.mk 3 rfl rfl) (Or.inl ⟨rfl, rfl⟩) rfl rfl (by omega) (g_m_isBox_ok hx1 hx2 hx3 hx4 H h_5) rfl rfl ?_
  intro R_5 m_5 p_5 e_5 hR_5 H_5
  subst e_5
  rcases z_ite h with ⟨c_8, h⟩ | ⟨c_8, h⟩
  · refine r_t1 (pc' := 14) (L' := [(0, .ref 143), (1, .int X1), (2, .int X2), (3, .int X3), (4, .int X4)]) hq (z_at.mk 3 rfl rfl) rfl hR_5 c_8 rfl rfl ?_
    refine r_p hq 1 (pc' := 15) (L' := [(0, .ref 143), (1, .int X1), (2, .int X2), (3, .int X3), (4, .int X4)]) (st' := [.ref 143]) rfl ?_
    refine r_gR (b := 152) (pc' := 18) (L' := [(0, .ref 143), (1, .int X1), (2, .int X2), (3, .int X3), (4, .int X4)]) H_5 hq (z_at.mk 3 rfl rfl) rfl rfl rfl rfl ?_
    refine r_p hq 5 (pc' := 24) (L' := [(0, .ref 143), (1, .int X1), (2, .int X2), (3, .int X3), (4, .int X4)]) (st' := [.int X4, .int X3, .int X2, .int X1, .int ((0 : Int32)), .ref 152]) rfl ?_
    obtain ⟨o_24, h_24, h⟩ := Option.bind_eq_some_iff.mp h
    refine r_csV (pc' := 27) (L' := [(0, .ref 143), (1, .int X1), (2, .int X2), (3, .int X3), (4, .int X4)]) (As := [.ref 152, .int ((0 : Int32)), .int X1, .int X2, .int X3, .int X4]) (rest := []) (j := 165) hq (z_at.mk 3 rfl rfl) (Or.inl ⟨rfl, rfl⟩) rfl rfl (by omega) (g_m_sets_ok rfl (rfl : (0 : Int32).toInt = 0) hx1 hx2 hx3 hx4 H_5 h_24) rfl rfl ?_
    intro m_24 p_24 e_24 H_24
    subst e_24
    refine r_p hq 1 (pc' := 28) (L' := [(0, .ref 143), (1, .int X1), (2, .int X2), (3, .int X3), (4, .int X4)]) (st' := [.ref 143]) rfl ?_
    obtain ⟨o_28, h_28, h⟩ := Option.bind_eq_some_iff.mp h
    refine r_cvV (pc' := 31) (L' := [(0, .ref 143), (1, .int X1), (2, .int X2), (3, .int X3), (4, .int X4)]) (Ps := []) (rest := []) hq (z_at.mk 3 rfl rfl) (Or.inl ⟨rfl, rfl⟩) rfl rfl (by decide) (by decide) rfl (Nat.not_lt.mpr (Nat.le_of_ble_eq_true rfl)) rfl rfl (z_cat_le 0 rfl (by decide)) (z_lgl_le 1 rfl (by decide)) (by decide) (H_24.tg rfl) (by omega) (g_m_misses_ok H_24 h_28) rfl rfl ?_
    intro m_28 p_28 e_28 H_28
    subst e_28
    refine r_p hq 2 (pc' := 33) (L' := [(0, .ref 143), (1, .int X1), (2, .int X2), (3, .int X3), (4, .int X4)]) (st' := [.int ((0 : Int32)), .ref 143]) rfl ?_
    refine r_pI (X := (0 : Int32)) (pc' := 36) (L' := [(0, .ref 143), (1, .int X1), (2, .int X2), (3, .int X3), (4, .int X4)]) H_28 hq (z_at.mk 3 rfl rfl) rfl rfl (rfl : (0 : Int32).toInt = 0) (by decide) rfl rfl rfl rfl ?_
    intro m_33 H_33
    refine r_p hq 2 (pc' := 39) (L' := [(0, .ref 143), (5, .int ((0 : Int32)))]) (st' := []) rfl ?_
    exact g_m_explain_L39_ok zK (rfl : (0 : Int32).toInt = 0) H_33 h
  · refine r_f1 (pc' := 11) (L' := [(0, .ref 143), (1, .int X1), (2, .int X2), (3, .int X3), (4, .int X4)]) hq (z_at.mk 3 rfl rfl) rfl hR_5 c_8 rfl rfl ?_
    refine r_p hq 1 (pc' := 13) (L' := [(0, .ref 143), (1, .int X1), (2, .int X2), (3, .int X3), (4, .int X4)]) (st' := [.int ((-2 : Int32))]) rfl ?_
    cases h
    exact r_ri hq (z_at.mk 1 rfl rfl) rfl rfl (rfl : (-2 : Int32).toInt = -2) rfl H_5
def g_m_paper (x1 : Int) (σ : zS) : Option (Int × zS) :=
  let v_3 := σ 143 29
  (g_m_isIn x1 0 (w32 (v_3 - 1)) σ).bind fun o_8 =>
  if o_8.1 = 0 then
    some (-1, o_8.2)
  else
    if 0 ≤ x1 ∧ x1 < 40000 then
    let v_19 := o_8.2 163 x1
    some (v_19, o_8.2)
    else none
set_option maxHeartbeats 4000000 in
theorem g_m_paper_ok {xl : Nat} {xs : Nat → Int32} {X1 : Int32} {x1 : Int} (hx1 : X1.toInt = x1) {σ : zS} {p : Nat} {m : zM} {o : Int × zS} (H : zRep xl xs p m σ) (h : g_m_paper x1 σ = some o) : zGo xl xs (fun p' => p = p') 2 240 0 (z_can 240 0 (lv_args 0 [.ref 143, .int X1])) [] m (vI o.1) o.2 := by
  have hq : z_mth 240 = some z_r240 := rfl
  unfold g_m_paper at h
  show zGo xl xs (fun p' => p = p') 2 240 0 [(0, .ref 143), (1, .int X1)] [] m (vI o.1) o.2
  refine r_p hq 3 (pc' := 3) (L' := [(0, .ref 143), (1, .int X1)]) (st' := [.ref 143, .int ((0 : Int32)), .int X1]) rfl ?_
  refine r_gI (pc' := 6) (L' := [(0, .ref 143), (1, .int X1)]) H hq (z_at.mk 3 rfl rfl) rfl rfl rfl rfl ?_
  intro V_3 hV_3
  refine r_p hq 2 (pc' := 8) (L' := [(0, .ref 143), (1, .int X1)]) (st' := [.int (V_3 - ((1 : Int32))), .int ((0 : Int32)), .int X1]) rfl ?_
  obtain ⟨o_8, h_8, h⟩ := Option.bind_eq_some_iff.mp h
  refine r_csI (pc' := 11) (L' := [(0, .ref 143), (1, .int X1)]) (As := [.int X1, .int ((0 : Int32)), .int (V_3 - ((1 : Int32)))]) (rest := []) (j := 159) hq (z_at.mk 3 rfl rfl) (Or.inl ⟨rfl, rfl⟩) rfl rfl (by omega) (g_m_isIn_ok hx1 (rfl : (0 : Int32).toInt = 0) (tx_isub hV_3 (rfl : (1 : Int32).toInt = 1)) H h_8) rfl rfl ?_
  intro R_8 m_8 p_8 e_8 hR_8 H_8
  subst e_8
  rcases z_ite h with ⟨c_11, h⟩ | ⟨c_11, h⟩
  · refine r_t1 (pc' := 23) (L' := [(0, .ref 143), (1, .int X1)]) hq (z_at.mk 3 rfl rfl) rfl hR_8 c_11 rfl rfl ?_
    refine r_p hq 1 (pc' := 24) (L' := []) (st' := [.int ((-1 : Int32))]) rfl ?_
    cases h
    exact r_ri hq (z_at.mk 1 rfl rfl) rfl rfl (rfl : (-1 : Int32).toInt = -1) rfl H_8
  · refine r_f1 (pc' := 14) (L' := [(0, .ref 143), (1, .int X1)]) hq (z_at.mk 3 rfl rfl) rfl hR_8 c_11 rfl rfl ?_
    refine r_p hq 1 (pc' := 15) (L' := [(0, .ref 143), (1, .int X1)]) (st' := [.ref 143]) rfl ?_
    refine r_gR (b := 163) (pc' := 18) (L' := [(0, .ref 143), (1, .int X1)]) H_8 hq (z_at.mk 3 rfl rfl) rfl rfl rfl rfl ?_
    refine r_p hq 1 (pc' := 19) (L' := [(0, .ref 143), (1, .int X1)]) (st' := [.int X1, .ref 163]) rfl ?_
    obtain ⟨g_19, h⟩ := z_ifo_some h
    refine r_ia (pc' := 20) (L' := [(0, .ref 143), (1, .int X1)]) H_8 hq (z_at.mk 1 rfl rfl) (show zAr 163 0 40000 = true from rfl) hx1 g_19 rfl rfl ?_
    intro V_19 hV_19
    refine r_p hq 1 (pc' := 24) (L' := []) (st' := [.int V_19]) rfl ?_
    cases h
    exact r_ri hq (z_at.mk 1 rfl rfl) rfl rfl hV_19 rfl H_8
end
section
/-! 21.g15 -/
/-! THE METHODS over the typed memory, 15 (by wip/zg.py) -/
def g_m_isSpelled (x1 : Int) (σ : zS) : Option (Int × zS) :=
  (g_m_isNumber 2 0 31 σ).bind fun o_5 =>
  if o_5.1 ≠ 0 then
    let v_19 := o_5.2 143 23
    if 0 ≤ x1 ∧ x1 < 48 then
    let s_22 := zu o_5.2 164 x1 v_19
    (g_m_isSign 45 s_22).bind fun o_26 =>
    if o_26.1 = 0 then
      some (0, o_26.2)
    else
      if 0 ≤ x1 ∧ x1 < 48 then
      let v_39 := o_26.2 164 x1
      (g_m_isNumber 2 v_39 31 o_26.2).bind fun o_42 =>
      if o_42.1 ≠ 0 then
        let v_58 := o_42.2 143 23
        if 0 ≤ w32 (x1 + 1) ∧ w32 (x1 + 1) < 48 then
        let s_61 := zu o_42.2 164 (w32 (x1 + 1)) v_58
        (g_m_isSign 44 s_61).bind fun o_65 =>
        if o_65.1 = 0 then
          some (0, o_65.2)
        else
          (g_m_isNumber 2 0 31 o_65.2).bind fun o_76 =>
          if o_76.1 ≠ 0 then
            let v_92 := o_76.2 143 23
            if 0 ≤ w32 (x1 + 2) ∧ w32 (x1 + 2) < 48 then
            let s_95 := zu o_76.2 164 (w32 (x1 + 2)) v_92
            (g_m_isSign 45 s_95).bind fun o_99 =>
            if o_99.1 = 0 then
              some (0, o_99.2)
            else
              if 0 ≤ w32 (x1 + 2) ∧ w32 (x1 + 2) < 48 then
              let v_114 := o_99.2 164 (w32 (x1 + 2))
              (g_m_isNumber 2 v_114 31 o_99.2).bind fun o_117 =>
              if o_117.1 ≠ 0 then
                let v_133 := o_117.2 143 23
                if 0 ≤ w32 (x1 + 3) ∧ w32 (x1 + 3) < 48 then
                let s_136 := zu o_117.2 164 (w32 (x1 + 3)) v_133
                some (1, s_136)
                else none
              else
                some (0, o_117.2)
              else none
            else none
          else
            some (0, o_76.2)
        else none
      else
        some (0, o_42.2)
      else none
    else none
  else
    some (0, o_5.2)
set_option maxHeartbeats 4000000 in
theorem g_m_isSpelled_ok {xl : Nat} {xs : Nat → Int32} {X1 : Int32} {x1 : Int} (hx1 : X1.toInt = x1) {σ : zS} {p : Nat} {m : zM} {o : Int × zS} (H : zRep xl xs p m σ) (h : g_m_isSpelled x1 σ = some o) : zGo xl xs (fun p' => p = p') 4 241 0 (z_can 241 0 (lv_args 0 [.ref 143, .int X1])) [] m (vI o.1) o.2 := by
  have hq : z_mth 241 = some z_r241 := rfl
  unfold g_m_isSpelled at h
  show zGo xl xs (fun p' => p = p') 4 241 0 [(0, .ref 143), (1, .int X1)] [] m (vI o.1) o.2
  refine r_p hq 4 (pc' := 5) (L' := [(0, .ref 143), (1, .int X1)]) (st' := [.int ((31 : Int32)), .int ((0 : Int32)), .int ((2 : Int32)), .ref 143]) rfl ?_
  obtain ⟨o_5, h_5, h⟩ := Option.bind_eq_some_iff.mp h
  refine r_cvI (pc' := 8) (L' := [(0, .ref 143), (1, .int X1)]) (Ps := [.int ((2 : Int32)), .int ((0 : Int32)), .int ((31 : Int32))]) (rest := []) hq (z_at.mk 3 rfl rfl) (Or.inl ⟨rfl, rfl⟩) rfl rfl (by decide) (by decide) rfl (Nat.not_lt.mpr (Nat.le_of_ble_eq_true rfl)) rfl rfl (z_cat_le 0 rfl (by decide)) (z_lgl_le 4 rfl (by decide)) (by decide) (H.tg rfl) (by omega) (g_m_isNumber_ok (rfl : (2 : Int32).toInt = 2) (rfl : (0 : Int32).toInt = 0) (rfl : (31 : Int32).toInt = 31) H h_5) rfl rfl ?_
  intro R_5 m_5 p_5 e_5 hR_5 H_5
  subst e_5
  rcases z_ite h with ⟨c_8, h⟩ | ⟨c_8, h⟩
  · refine r_t1 (pc' := 13) (L' := [(0, .ref 143), (1, .int X1)]) hq (z_at.mk 3 rfl rfl) rfl hR_5 c_8 rfl rfl ?_
    refine r_p hq 1 (pc' := 14) (L' := [(0, .ref 143), (1, .int X1)]) (st' := [.ref 143]) rfl ?_
    refine r_gR (b := 164) (pc' := 17) (L' := [(0, .ref 143), (1, .int X1)]) H_5 hq (z_at.mk 3 rfl rfl) rfl rfl rfl rfl ?_
    refine r_p hq 2 (pc' := 19) (L' := [(0, .ref 143), (1, .int X1)]) (st' := [.ref 143, .int X1, .ref 164]) rfl ?_
    refine r_gI (pc' := 22) (L' := [(0, .ref 143), (1, .int X1)]) H_5 hq (z_at.mk 3 rfl rfl) rfl rfl rfl rfl ?_
    intro V_19 hV_19
    obtain ⟨g_22, h⟩ := z_ifo_some h
    refine r_is (pc' := 23) (L' := [(0, .ref 143), (1, .int X1)]) H_5 hq (z_at.mk 1 rfl rfl) (show zAr 164 0 48 = true from rfl) hx1 g_22 hV_19 rfl rfl ?_
    intro m_22 H_22
    refine r_p hq 2 (pc' := 26) (L' := [(0, .ref 143), (1, .int X1)]) (st' := [.int ((45 : Int32)), .ref 143]) rfl ?_
    obtain ⟨o_26, h_26, h⟩ := Option.bind_eq_some_iff.mp h
    refine r_cvI (pc' := 29) (L' := [(0, .ref 143), (1, .int X1)]) (Ps := [.int ((45 : Int32))]) (rest := []) hq (z_at.mk 3 rfl rfl) (Or.inl ⟨rfl, rfl⟩) rfl rfl (by decide) (by decide) rfl (Nat.not_lt.mpr (Nat.le_of_ble_eq_true rfl)) rfl rfl (z_cat_le 0 rfl (by decide)) (z_lgl_le 2 rfl (by decide)) (by decide) (H_22.tg rfl) (by omega) (g_m_isSign_ok (rfl : (45 : Int32).toInt = 45) H_22 h_26) rfl rfl ?_
    intro R_26 m_26 p_26 e_26 hR_26 H_26
    subst e_26
    rcases z_ite h with ⟨c_29, h⟩ | ⟨c_29, h⟩
    · refine r_t1 (pc' := 48) (L' := []) hq (z_at.mk 3 rfl rfl) rfl hR_26 c_29 rfl rfl ?_
      refine r_p hq 1 (pc' := 49) (L' := []) (st' := [.int ((0 : Int32))]) rfl ?_
      cases h
      exact r_ri hq (z_at.mk 1 rfl rfl) rfl rfl (rfl : (0 : Int32).toInt = 0) rfl H_26
    · refine r_f1 (pc' := 32) (L' := [(0, .ref 143), (1, .int X1)]) hq (z_at.mk 3 rfl rfl) rfl hR_26 c_29 rfl rfl ?_
      refine r_p hq 3 (pc' := 35) (L' := [(0, .ref 143), (1, .int X1)]) (st' := [.ref 143, .int ((2 : Int32)), .ref 143]) rfl ?_
      refine r_gR (b := 164) (pc' := 38) (L' := [(0, .ref 143), (1, .int X1)]) H_26 hq (z_at.mk 3 rfl rfl) rfl rfl rfl rfl ?_
      refine r_p hq 1 (pc' := 39) (L' := [(0, .ref 143), (1, .int X1)]) (st' := [.int X1, .ref 164, .int ((2 : Int32)), .ref 143]) rfl ?_
      obtain ⟨g_39, h⟩ := z_ifo_some h
      refine r_ia (pc' := 40) (L' := [(0, .ref 143), (1, .int X1)]) H_26 hq (z_at.mk 1 rfl rfl) (show zAr 164 0 48 = true from rfl) hx1 g_39 rfl rfl ?_
      intro V_39 hV_39
      refine r_p hq 1 (pc' := 42) (L' := [(0, .ref 143), (1, .int X1)]) (st' := [.int ((31 : Int32)), .int V_39, .int ((2 : Int32)), .ref 143]) rfl ?_
      obtain ⟨o_42, h_42, h⟩ := Option.bind_eq_some_iff.mp h
      refine r_cvI (pc' := 45) (L' := [(0, .ref 143), (1, .int X1)]) (Ps := [.int ((2 : Int32)), .int V_39, .int ((31 : Int32))]) (rest := []) hq (z_at.mk 3 rfl rfl) (Or.inl ⟨rfl, rfl⟩) rfl rfl (by decide) (by decide) rfl (Nat.not_lt.mpr (Nat.le_of_ble_eq_true rfl)) rfl rfl (z_cat_le 0 rfl (by decide)) (z_lgl_le 4 rfl (by decide)) (by decide) (H_26.tg rfl) (by omega) (g_m_isNumber_ok (rfl : (2 : Int32).toInt = 2) hV_39 (rfl : (31 : Int32).toInt = 31) H_26 h_42) rfl rfl ?_
      intro R_42 m_42 p_42 e_42 hR_42 H_42
      subst e_42
      rcases z_ite h with ⟨c_45, h⟩ | ⟨c_45, h⟩
      · refine r_t1 (pc' := 50) (L' := [(0, .ref 143), (1, .int X1)]) hq (z_at.mk 3 rfl rfl) rfl hR_42 c_45 rfl rfl ?_
        refine r_p hq 1 (pc' := 51) (L' := [(0, .ref 143), (1, .int X1)]) (st' := [.ref 143]) rfl ?_
        refine r_gR (b := 164) (pc' := 54) (L' := [(0, .ref 143), (1, .int X1)]) H_42 hq (z_at.mk 3 rfl rfl) rfl rfl rfl rfl ?_
        refine r_p hq 4 (pc' := 58) (L' := [(0, .ref 143), (1, .int X1)]) (st' := [.ref 143, .int (X1 + ((1 : Int32))), .ref 164]) rfl ?_
        refine r_gI (pc' := 61) (L' := [(0, .ref 143), (1, .int X1)]) H_42 hq (z_at.mk 3 rfl rfl) rfl rfl rfl rfl ?_
        intro V_58 hV_58
        obtain ⟨g_61, h⟩ := z_ifo_some h
        refine r_is (pc' := 62) (L' := [(0, .ref 143), (1, .int X1)]) H_42 hq (z_at.mk 1 rfl rfl) (show zAr 164 0 48 = true from rfl) (tx_iadd hx1 (rfl : (1 : Int32).toInt = 1)) g_61 hV_58 rfl rfl ?_
        intro m_61 H_61
        refine r_p hq 2 (pc' := 65) (L' := [(0, .ref 143), (1, .int X1)]) (st' := [.int ((44 : Int32)), .ref 143]) rfl ?_
        obtain ⟨o_65, h_65, h⟩ := Option.bind_eq_some_iff.mp h
        refine r_cvI (pc' := 68) (L' := [(0, .ref 143), (1, .int X1)]) (Ps := [.int ((44 : Int32))]) (rest := []) hq (z_at.mk 3 rfl rfl) (Or.inl ⟨rfl, rfl⟩) rfl rfl (by decide) (by decide) rfl (Nat.not_lt.mpr (Nat.le_of_ble_eq_true rfl)) rfl rfl (z_cat_le 0 rfl (by decide)) (z_lgl_le 2 rfl (by decide)) (by decide) (H_61.tg rfl) (by omega) (g_m_isSign_ok (rfl : (44 : Int32).toInt = 44) H_61 h_65) rfl rfl ?_
        intro R_65 m_65 p_65 e_65 hR_65 H_65
        subst e_65
        rcases z_ite h with ⟨c_68, h⟩ | ⟨c_68, h⟩
        · refine r_t1 (pc' := 82) (L' := []) hq (z_at.mk 3 rfl rfl) rfl hR_65 c_68 rfl rfl ?_
          refine r_p hq 1 (pc' := 83) (L' := []) (st' := [.int ((0 : Int32))]) rfl ?_
          cases h
          exact r_ri hq (z_at.mk 1 rfl rfl) rfl rfl (rfl : (0 : Int32).toInt = 0) rfl H_65
        · refine r_f1 (pc' := 71) (L' := [(0, .ref 143), (1, .int X1)]) hq (z_at.mk 3 rfl rfl) rfl hR_65 c_68 rfl rfl ?_
          refine r_p hq 4 (pc' := 76) (L' := [(0, .ref 143), (1, .int X1)]) (st' := [.int ((31 : Int32)), .int ((0 : Int32)), .int ((2 : Int32)), .ref 143]) rfl ?_
          obtain ⟨o_76, h_76, h⟩ := Option.bind_eq_some_iff.mp h
          refine r_cvI (pc' := 79) (L' := [(0, .ref 143), (1, .int X1)]) (Ps := [.int ((2 : Int32)), .int ((0 : Int32)), .int ((31 : Int32))]) (rest := []) hq (z_at.mk 3 rfl rfl) (Or.inl ⟨rfl, rfl⟩) rfl rfl (by decide) (by decide) rfl (Nat.not_lt.mpr (Nat.le_of_ble_eq_true rfl)) rfl rfl (z_cat_le 0 rfl (by decide)) (z_lgl_le 4 rfl (by decide)) (by decide) (H_65.tg rfl) (by omega) (g_m_isNumber_ok (rfl : (2 : Int32).toInt = 2) (rfl : (0 : Int32).toInt = 0) (rfl : (31 : Int32).toInt = 31) H_65 h_76) rfl rfl ?_
          intro R_76 m_76 p_76 e_76 hR_76 H_76
          subst e_76
          rcases z_ite h with ⟨c_79, h⟩ | ⟨c_79, h⟩
          · refine r_t1 (pc' := 84) (L' := [(0, .ref 143), (1, .int X1)]) hq (z_at.mk 3 rfl rfl) rfl hR_76 c_79 rfl rfl ?_
            refine r_p hq 1 (pc' := 85) (L' := [(0, .ref 143), (1, .int X1)]) (st' := [.ref 143]) rfl ?_
            refine r_gR (b := 164) (pc' := 88) (L' := [(0, .ref 143), (1, .int X1)]) H_76 hq (z_at.mk 3 rfl rfl) rfl rfl rfl rfl ?_
            refine r_p hq 4 (pc' := 92) (L' := [(0, .ref 143), (1, .int X1)]) (st' := [.ref 143, .int (X1 + ((2 : Int32))), .ref 164]) rfl ?_
            refine r_gI (pc' := 95) (L' := [(0, .ref 143), (1, .int X1)]) H_76 hq (z_at.mk 3 rfl rfl) rfl rfl rfl rfl ?_
            intro V_92 hV_92
            obtain ⟨g_95, h⟩ := z_ifo_some h
            refine r_is (pc' := 96) (L' := [(0, .ref 143), (1, .int X1)]) H_76 hq (z_at.mk 1 rfl rfl) (show zAr 164 0 48 = true from rfl) (tx_iadd hx1 (rfl : (2 : Int32).toInt = 2)) g_95 hV_92 rfl rfl ?_
            intro m_95 H_95
            refine r_p hq 2 (pc' := 99) (L' := [(0, .ref 143), (1, .int X1)]) (st' := [.int ((45 : Int32)), .ref 143]) rfl ?_
            obtain ⟨o_99, h_99, h⟩ := Option.bind_eq_some_iff.mp h
            refine r_cvI (pc' := 102) (L' := [(0, .ref 143), (1, .int X1)]) (Ps := [.int ((45 : Int32))]) (rest := []) hq (z_at.mk 3 rfl rfl) (Or.inl ⟨rfl, rfl⟩) rfl rfl (by decide) (by decide) rfl (Nat.not_lt.mpr (Nat.le_of_ble_eq_true rfl)) rfl rfl (z_cat_le 0 rfl (by decide)) (z_lgl_le 2 rfl (by decide)) (by decide) (H_95.tg rfl) (by omega) (g_m_isSign_ok (rfl : (45 : Int32).toInt = 45) H_95 h_99) rfl rfl ?_
            intro R_99 m_99 p_99 e_99 hR_99 H_99
            subst e_99
            rcases z_ite h with ⟨c_102, h⟩ | ⟨c_102, h⟩
            · refine r_t1 (pc' := 123) (L' := []) hq (z_at.mk 3 rfl rfl) rfl hR_99 c_102 rfl rfl ?_
              refine r_p hq 1 (pc' := 124) (L' := []) (st' := [.int ((0 : Int32))]) rfl ?_
              cases h
              exact r_ri hq (z_at.mk 1 rfl rfl) rfl rfl (rfl : (0 : Int32).toInt = 0) rfl H_99
            · refine r_f1 (pc' := 105) (L' := [(0, .ref 143), (1, .int X1)]) hq (z_at.mk 3 rfl rfl) rfl hR_99 c_102 rfl rfl ?_
              refine r_p hq 3 (pc' := 108) (L' := [(0, .ref 143), (1, .int X1)]) (st' := [.ref 143, .int ((2 : Int32)), .ref 143]) rfl ?_
              refine r_gR (b := 164) (pc' := 111) (L' := [(0, .ref 143), (1, .int X1)]) H_99 hq (z_at.mk 3 rfl rfl) rfl rfl rfl rfl ?_
              refine r_p hq 3 (pc' := 114) (L' := [(0, .ref 143), (1, .int X1)]) (st' := [.int (X1 + ((2 : Int32))), .ref 164, .int ((2 : Int32)), .ref 143]) rfl ?_
              obtain ⟨g_114, h⟩ := z_ifo_some h
              refine r_ia (pc' := 115) (L' := [(0, .ref 143), (1, .int X1)]) H_99 hq (z_at.mk 1 rfl rfl) (show zAr 164 0 48 = true from rfl) (tx_iadd hx1 (rfl : (2 : Int32).toInt = 2)) g_114 rfl rfl ?_
              intro V_114 hV_114
              refine r_p hq 1 (pc' := 117) (L' := [(0, .ref 143), (1, .int X1)]) (st' := [.int ((31 : Int32)), .int V_114, .int ((2 : Int32)), .ref 143]) rfl ?_
              obtain ⟨o_117, h_117, h⟩ := Option.bind_eq_some_iff.mp h
              refine r_cvI (pc' := 120) (L' := [(0, .ref 143), (1, .int X1)]) (Ps := [.int ((2 : Int32)), .int V_114, .int ((31 : Int32))]) (rest := []) hq (z_at.mk 3 rfl rfl) (Or.inl ⟨rfl, rfl⟩) rfl rfl (by decide) (by decide) rfl (Nat.not_lt.mpr (Nat.le_of_ble_eq_true rfl)) rfl rfl (z_cat_le 0 rfl (by decide)) (z_lgl_le 4 rfl (by decide)) (by decide) (H_99.tg rfl) (by omega) (g_m_isNumber_ok (rfl : (2 : Int32).toInt = 2) hV_114 (rfl : (31 : Int32).toInt = 31) H_99 h_117) rfl rfl ?_
              intro R_117 m_117 p_117 e_117 hR_117 H_117
              subst e_117
              rcases z_ite h with ⟨c_120, h⟩ | ⟨c_120, h⟩
              · refine r_t1 (pc' := 125) (L' := [(0, .ref 143), (1, .int X1)]) hq (z_at.mk 3 rfl rfl) rfl hR_117 c_120 rfl rfl ?_
                refine r_p hq 1 (pc' := 126) (L' := [(0, .ref 143), (1, .int X1)]) (st' := [.ref 143]) rfl ?_
                refine r_gR (b := 164) (pc' := 129) (L' := [(0, .ref 143), (1, .int X1)]) H_117 hq (z_at.mk 3 rfl rfl) rfl rfl rfl rfl ?_
                refine r_p hq 4 (pc' := 133) (L' := [(0, .ref 143), (1, .int X1)]) (st' := [.ref 143, .int (X1 + ((3 : Int32))), .ref 164]) rfl ?_
                refine r_gI (pc' := 136) (L' := [(0, .ref 143), (1, .int X1)]) H_117 hq (z_at.mk 3 rfl rfl) rfl rfl rfl rfl ?_
                intro V_133 hV_133
                obtain ⟨g_136, h⟩ := z_ifo_some h
                refine r_is (pc' := 137) (L' := [(0, .ref 143), (1, .int X1)]) H_117 hq (z_at.mk 1 rfl rfl) (show zAr 164 0 48 = true from rfl) (tx_iadd hx1 (rfl : (3 : Int32).toInt = 3)) g_136 hV_133 rfl rfl ?_
                intro m_136 H_136
                refine r_p hq 1 (pc' := 138) (L' := [(0, .ref 143), (1, .int X1)]) (st' := [.int ((1 : Int32))]) rfl ?_
                cases h
                exact r_ri hq (z_at.mk 1 rfl rfl) rfl rfl (rfl : (1 : Int32).toInt = 1) rfl H_136
              · refine r_f1 (pc' := 123) (L' := []) hq (z_at.mk 3 rfl rfl) rfl hR_117 c_120 rfl rfl ?_
                refine r_p hq 1 (pc' := 124) (L' := []) (st' := [.int ((0 : Int32))]) rfl ?_
                cases h
                exact r_ri hq (z_at.mk 1 rfl rfl) rfl rfl (rfl : (0 : Int32).toInt = 0) rfl H_117
          · refine r_f1 (pc' := 82) (L' := []) hq (z_at.mk 3 rfl rfl) rfl hR_76 c_79 rfl rfl ?_
            refine r_p hq 1 (pc' := 83) (L' := []) (st' := [.int ((0 : Int32))]) rfl ?_
            cases h
            exact r_ri hq (z_at.mk 1 rfl rfl) rfl rfl (rfl : (0 : Int32).toInt = 0) rfl H_76
      · refine r_f1 (pc' := 48) (L' := []) hq (z_at.mk 3 rfl rfl) rfl hR_42 c_45 rfl rfl ?_
        refine r_p hq 1 (pc' := 49) (L' := []) (st' := [.int ((0 : Int32))]) rfl ?_
        cases h
        exact r_ri hq (z_at.mk 1 rfl rfl) rfl rfl (rfl : (0 : Int32).toInt = 0) rfl H_42
  · refine r_f1 (pc' := 11) (L' := [(0, .ref 143), (1, .int X1)]) hq (z_at.mk 3 rfl rfl) rfl hR_5 c_8 rfl rfl ?_
    refine r_p hq 1 (pc' := 12) (L' := [(0, .ref 143), (1, .int X1)]) (st' := [.int ((0 : Int32))]) rfl ?_
    cases h
    exact r_ri hq (z_at.mk 1 rfl rfl) rfl rfl (rfl : (0 : Int32).toInt = 0) rfl H_5
def g_m_meetsNone_L39 (a1 : Nat) (g5 : Int → Int → Int → zS → Option (Int × zS)) (x2 : Int) (x4 : Int) (xs0 : Int) (xs1 : Int) (σ : zS) : Option (Int × zS) :=
  g5 x2 (iAnd xs1 xs0) (w32 (x4 + 1)) σ
set_option maxHeartbeats 4000000 in
theorem g_m_meetsNone_L39_ok {xl : Nat} {xs : Nat → Int32} {a1 : Nat} (ha1 : zIn [144, 150, 151, 152, 153, 156, 157, 161, 164, 165] a1 = true) {g5 : Int → Int → Int → zS → Option (Int × zS)} (hg5 : ∀ {X2 : Int32} {x2 : Int} {X3 : Int32} {x3 : Int} {X4 : Int32} {x4 : Int} {σ : zS} {p : Nat} {m : zM} {o : Int × zS}, X2.toInt = x2 → X3.toInt = x3 → X4.toInt = x4 → zRep xl xs p m σ → g5 x2 x3 x4 σ = some o → zGo xl xs (fun p' => p = p') 2 242 5 [(0, .ref 143), (1, .ref a1), (2, .int X2), (3, .int X3), (4, .int X4)] [] m (vI o.1) o.2) {X2 : Int32} {x2 : Int} (hx2 : X2.toInt = x2) {X4 : Int32} {x4 : Int} (hx4 : X4.toInt = x4) {Xs0 : Int32} {xs0 : Int} (hxs0 : Xs0.toInt = xs0) {Xs1 : Int32} {xs1 : Int} (hxs1 : Xs1.toInt = xs1) {σ : zS} {p : Nat} {m : zM} {o : Int × zS} (H : zRep xl xs p m σ) (h : g_m_meetsNone_L39 a1 g5 x2 x4 xs0 xs1 σ = some o) : zGo xl xs (fun p' => p = p') 2 242 39 [(0, .ref 143), (1, .ref a1), (2, .int X2), (4, .int X4)] [.int Xs0, .int Xs1] m (vI o.1) o.2 := by
  have hq : z_mth 242 = some z_r242 := rfl
  unfold g_m_meetsNone_L39 at h
  refine r_p hq 4 (pc' := 5) (L' := [(0, .ref 143), (1, .ref a1), (2, .int X2), (3, .int (Xs1 &&& Xs0)), (4, .int (X4 + (1 : Int32)))]) (st' := []) rfl ?_
  exact hg5 hx2 (tx_iand hxs1 hxs0) (tx_iadd hx4 (rfl : (1 : Int32).toInt = 1)) H h
def g_m_meetsNone_L5 (a1 : Nat) : Nat → Int → Int → Int → zS → Option (Int × zS)
  | 0, _, _, _, _ => none
  | n + 1, x2, x3, x4, σ =>
    let v_12 := σ 144 0
    if v_12 ≤ x4 then
      if x3 = 0 ∨ x3 = 1 then some (x3, σ) else none
    else
      (g_m_region_173 x4 σ).bind fun o_25 =>
      (g_m_doMeet a1 144 x2 o_25.1 o_25.2).bind fun o_28 =>
      if o_28.1 ≠ 0 then
        g_m_meetsNone_L39 a1 ((g_m_meetsNone_L5 a1 n)) x2 x4 0 x3 o_28.2
      else
        g_m_meetsNone_L39 a1 ((g_m_meetsNone_L5 a1 n)) x2 x4 1 x3 o_28.2
set_option maxHeartbeats 4000000 in
theorem g_m_meetsNone_L5_ok {xl : Nat} {xs : Nat → Int32} {a1 : Nat} (ha1 : zIn [144, 150, 151, 152, 153, 156, 157, 161, 164, 165] a1 = true) : ∀ (n : Nat) {X2 : Int32} {x2 : Int} {X3 : Int32} {x3 : Int} {X4 : Int32} {x4 : Int} {σ : zS} {p : Nat} {m : zM} {o : Int × zS}, X2.toInt = x2 → X3.toInt = x3 → X4.toInt = x4 → zRep xl xs p m σ → g_m_meetsNone_L5 a1 n x2 x3 x4 σ = some o → zGo xl xs (fun p' => p = p') 2 242 5 [(0, .ref 143), (1, .ref a1), (2, .int X2), (3, .int X3), (4, .int X4)] [] m (vI o.1) o.2
  | 0, _, _, _, _, _, _, _, _, _, _, _, _, _, _, h => by cases h
  | n + 1, X2, x2, X3, x3, X4, x4, σ, p, m, o, hx2, hx3, hx4, H, h => by
    have hq : z_mth 242 = some z_r242 := rfl
    have ih := fun {X2 : Int32} {x2 : Int} {X3 : Int32} {x3 : Int} {X4 : Int32} {x4 : Int} {σ : zS} {p : Nat} {m : zM} {o : Int × zS} => g_m_meetsNone_L5_ok (xl := xl) (xs := xs) ha1 n (X2 := X2) (x2 := x2) (X3 := X3) (x3 := x3) (X4 := X4) (x4 := x4) (σ := σ) (p := p) (m := m) (o := o)
    unfold g_m_meetsNone_L5 at h
    refine r_p hq 2 (pc' := 8) (L' := [(0, .ref 143), (1, .ref a1), (2, .int X2), (3, .int X3), (4, .int X4)]) (st' := [.ref 143, .int X4]) rfl ?_
    refine r_gR (b := 144) (pc' := 11) (L' := [(0, .ref 143), (1, .ref a1), (2, .int X2), (3, .int X3), (4, .int X4)]) H hq (z_at.mk 3 rfl rfl) rfl rfl rfl rfl ?_
    refine r_p hq 1 (pc' := 12) (L' := [(0, .ref 143), (1, .ref a1), (2, .int X2), (3, .int X3), (4, .int X4)]) (st' := [.int ((0 : Int32)), .ref 144, .int X4]) rfl ?_
    refine r_ia (pc' := 13) (L' := [(0, .ref 143), (1, .ref a1), (2, .int X2), (3, .int X3), (4, .int X4)]) H hq (z_at.mk 1 rfl rfl) (show zAr 144 0 2740 = true from rfl) (rfl : (0 : Int32).toInt = 0) ⟨by decide, by decide⟩ rfl rfl ?_
    intro V_12 hV_12
    rcases z_ite h with ⟨c_13, h⟩ | ⟨c_13, h⟩
    · refine r_t2 (pc' := 47) (L' := [(0, .ref 143), (1, .ref a1), (2, .int X2), (3, .int X3), (4, .int X4)]) hq (z_at.mk 3 rfl rfl) rfl hx4 hV_12 c_13 rfl rfl ?_
      refine r_p hq 1 (pc' := 48) (L' := [(0, .ref 143), (1, .ref a1), (2, .int X2), (3, .int X3), (4, .int X4)]) (st' := [.int X3]) rfl ?_
      obtain ⟨g_48, h⟩ := z_if_some h
      cases h
      exact r_ri hq (z_at.mk 1 rfl rfl) rfl (z_rty_bo hx3 g_48) hx3 rfl H
    · refine r_f2 (pc' := 16) (L' := [(0, .ref 143), (1, .ref a1), (2, .int X2), (3, .int X3), (4, .int X4)]) hq (z_at.mk 3 rfl rfl) rfl hx4 hV_12 c_13 rfl rfl ?_
      refine r_p hq 4 (pc' := 20) (L' := [(0, .ref 143), (1, .ref a1), (2, .int X2), (3, .int X3), (4, .int X4)]) (st' := [.ref 143, .int X2, .ref a1, .int X3]) rfl ?_
      refine r_gR (b := 144) (pc' := 23) (L' := [(0, .ref 143), (1, .ref a1), (2, .int X2), (3, .int X3), (4, .int X4)]) H hq (z_at.mk 3 rfl rfl) rfl rfl rfl rfl ?_
      refine r_p hq 1 (pc' := 25) (L' := [(0, .ref 143), (1, .ref a1), (2, .int X2), (3, .int X3), (4, .int X4)]) (st' := [.int X4, .ref 144, .int X2, .ref a1, .int X3]) rfl ?_
      obtain ⟨o_25, h_25, h⟩ := Option.bind_eq_some_iff.mp h
      refine r_csI (pc' := 28) (L' := [(0, .ref 143), (1, .ref a1), (2, .int X2), (3, .int X3), (4, .int X4)]) (As := [.int X4]) (rest := [.ref 144, .int X2, .ref a1, .int X3]) (j := 173) hq (z_at.mk 3 rfl rfl) (Or.inl ⟨rfl, rfl⟩) rfl rfl (by omega) (g_m_region_173_ok hx4 H h_25) rfl rfl ?_
      intro R_25 m_25 p_25 e_25 hR_25 H_25
      subst e_25
      obtain ⟨o_28, h_28, h⟩ := Option.bind_eq_some_iff.mp h
      refine r_csI (pc' := 31) (L' := [(0, .ref 143), (1, .ref a1), (2, .int X2), (3, .int X3), (4, .int X4)]) (As := [.ref a1, .int X2, .ref 144, .int R_25]) (rest := [.int X3]) (j := 169) hq (z_at.mk 3 rfl rfl) (Or.inl ⟨rfl, rfl⟩) rfl rfl (by omega) (g_m_doMeet_ok (zIn_all (l := [144, 150, 151, 152, 153, 156, 157, 161, 164, 165]) (p := fun a => zIn [144, 150, 151, 152, 153, 156, 157, 161, 164, 165] a) rfl ha1) rfl hx2 hR_25 H_25 h_28) rfl rfl ?_
      intro R_28 m_28 p_28 e_28 hR_28 H_28
      subst e_28
      rcases z_ite h with ⟨c_31, h⟩ | ⟨c_31, h⟩
      · refine r_t1 (pc' := 38) (L' := [(0, .ref 143), (1, .ref a1), (2, .int X2), (3, .int X3), (4, .int X4)]) hq (z_at.mk 3 rfl rfl) rfl hR_28 c_31 rfl rfl ?_
        refine r_p hq 1 (pc' := 39) (L' := [(0, .ref 143), (1, .ref a1), (2, .int X2), (4, .int X4)]) (st' := [.int ((0 : Int32)), .int X3]) rfl ?_
        exact g_m_meetsNone_L39_ok ha1 ih hx2 hx4 (rfl : (0 : Int32).toInt = 0) hx3 H_28 h
      · refine r_f1 (pc' := 34) (L' := [(0, .ref 143), (1, .ref a1), (2, .int X2), (3, .int X3), (4, .int X4)]) hq (z_at.mk 3 rfl rfl) rfl hR_28 c_31 rfl rfl ?_
        refine r_p hq 2 (pc' := 39) (L' := [(0, .ref 143), (1, .ref a1), (2, .int X2), (4, .int X4)]) (st' := [.int ((1 : Int32)), .int X3]) rfl ?_
        exact g_m_meetsNone_L39_ok ha1 ih hx2 hx4 (rfl : (1 : Int32).toInt = 1) hx3 H_28 h
def g_m_meetsNone (a1 : Nat) (x2 : Int) (σ : zS) : Option (Int × zS) :=
  g_m_meetsNone_L5 a1 zK x2 1 0 σ
set_option maxHeartbeats 4000000 in
theorem g_m_meetsNone_ok {xl : Nat} {xs : Nat → Int32} {a1 : Nat} (ha1 : zIn [144, 150, 151, 152, 153, 156, 157, 161, 164, 165] a1 = true) {X2 : Int32} {x2 : Int} (hx2 : X2.toInt = x2) {σ : zS} {p : Nat} {m : zM} {o : Int × zS} (H : zRep xl xs p m σ) (h : g_m_meetsNone a1 x2 σ = some o) : zGo xl xs (fun p' => p = p') 2 242 0 (z_can 242 0 (lv_args 0 [.ref 143, .ref a1, .int X2])) [] m (vI o.1) o.2 := by
  have hq : z_mth 242 = some z_r242 := rfl
  unfold g_m_meetsNone at h
  show zGo xl xs (fun p' => p = p') 2 242 0 [(0, .ref 143), (1, .ref a1), (2, .int X2)] [] m (vI o.1) o.2
  refine r_p hq 4 (pc' := 5) (L' := [(0, .ref 143), (1, .ref a1), (2, .int X2), (3, .int ((1 : Int32))), (4, .int ((0 : Int32)))]) (st' := []) rfl ?_
  exact g_m_meetsNone_L5_ok ha1 zK hx2 (rfl : (1 : Int32).toInt = 1) (rfl : (0 : Int32).toInt = 0) H h
def g_m_load_L154 (g99 : Int → Int → Int → zS → Option (Int × zS)) (x1 : Int) (x3 : Int) (x4 : Int) (σ : zS) : Option (Int × zS) :=
  g99 x1 x3 (w32 (x4 + 1)) σ
set_option maxHeartbeats 4000000 in
theorem g_m_load_L154_ok {xl : Nat} {xs : Nat → Int32} {g99 : Int → Int → Int → zS → Option (Int × zS)} (hg99 : ∀ {X1 : Int32} {x1 : Int} {X3 : Int32} {x3 : Int} {X4 : Int32} {x4 : Int} {σ : zS} {p : Nat} {m : zM} {o : Int × zS}, X1.toInt = x1 → X3.toInt = x3 → X4.toInt = x4 → zRep xl xs p m σ → g99 x1 x3 x4 σ = some o → zGo xl xs (fun p' => p = p') 7 243 99 [(0, .ref 143), (1, .int X1), (3, .int X3), (4, .int X4)] [] m (vI o.1) o.2) {X1 : Int32} {x1 : Int} (hx1 : X1.toInt = x1) {X3 : Int32} {x3 : Int} (hx3 : X3.toInt = x3) {X4 : Int32} {x4 : Int} (hx4 : X4.toInt = x4) {σ : zS} {p : Nat} {m : zM} {o : Int × zS} (H : zRep xl xs p m σ) (h : g_m_load_L154 g99 x1 x3 x4 σ = some o) : zGo xl xs (fun p' => p = p') 7 243 154 [(0, .ref 143), (1, .int X1), (3, .int X3), (4, .int X4)] [] m (vI o.1) o.2 := by
  have hq : z_mth 243 = some z_r243 := rfl
  unfold g_m_load_L154 at h
  refine r_p hq 2 (pc' := 99) (L' := [(0, .ref 143), (1, .int X1), (3, .int X3), (4, .int (X4 + (1 : Int32)))]) (st' := []) rfl ?_
  exact hg99 hx1 hx3 (tx_iadd hx4 (rfl : (1 : Int32).toInt = 1)) H h
def g_m_load_L99 : Nat → Int → Int → Int → zS → Option (Int × zS)
  | 0, _, _, _, _ => none
  | n + 1, x1, x3, x4, σ =>
    if x1 ≤ x4 then
      (g_m_trims σ).bind fun o_161 =>
      some (x3, o_161.2)
    else
      (g_m_meetsNone 164 (w32 (4 * x4)) σ).bind fun o_114 =>
      if o_114.1 ≠ 0 then
        (g_m_asks 164 (w32 (4 * x4)) o_114.2).bind fun o_132 =>
        (g_m_adds 164 (w32 (4 * x4)) o_132.2).bind fun o_145 =>
        (g_m_weighs o_145.1 o_145.2).bind fun o_148 =>
        g_m_load_L154 ((g_m_load_L99 n)) x1 (w32 (x3 + 1)) x4 o_148.2
      else
        g_m_load_L154 ((g_m_load_L99 n)) x1 x3 x4 o_114.2
set_option maxHeartbeats 4000000 in
theorem g_m_load_L99_ok {xl : Nat} {xs : Nat → Int32} : ∀ (n : Nat) {X1 : Int32} {x1 : Int} {X3 : Int32} {x3 : Int} {X4 : Int32} {x4 : Int} {σ : zS} {p : Nat} {m : zM} {o : Int × zS}, X1.toInt = x1 → X3.toInt = x3 → X4.toInt = x4 → zRep xl xs p m σ → g_m_load_L99 n x1 x3 x4 σ = some o → zGo xl xs (fun p' => p = p') 7 243 99 [(0, .ref 143), (1, .int X1), (3, .int X3), (4, .int X4)] [] m (vI o.1) o.2
  | 0, _, _, _, _, _, _, _, _, _, _, _, _, _, _, h => by cases h
  | n + 1, X1, x1, X3, x3, X4, x4, σ, p, m, o, hx1, hx3, hx4, H, h => by
    have hq : z_mth 243 = some z_r243 := rfl
    have ih := fun {X1 : Int32} {x1 : Int} {X3 : Int32} {x3 : Int} {X4 : Int32} {x4 : Int} {σ : zS} {p : Nat} {m : zM} {o : Int × zS} => g_m_load_L99_ok (xl := xl) (xs := xs) n (X1 := X1) (x1 := x1) (X3 := X3) (x3 := x3) (X4 := X4) (x4 := x4) (σ := σ) (p := p) (m := m) (o := o)
    unfold g_m_load_L99 at h
    refine r_p hq 2 (pc' := 102) (L' := [(0, .ref 143), (1, .int X1), (3, .int X3), (4, .int X4)]) (st' := [.int X1, .int X4]) rfl ?_
    rcases z_ite h with ⟨c_102, h⟩ | ⟨c_102, h⟩
    · refine r_t2 (pc' := 160) (L' := [(0, .ref 143), (1, .int X1), (3, .int X3), (4, .int X4)]) hq (z_at.mk 3 rfl rfl) rfl hx4 hx1 c_102 rfl rfl ?_
      refine r_p hq 1 (pc' := 161) (L' := [(0, .ref 143), (1, .int X1), (3, .int X3), (4, .int X4)]) (st' := [.ref 143]) rfl ?_
      obtain ⟨o_161, h_161, h⟩ := Option.bind_eq_some_iff.mp h
      refine r_cvV (pc' := 164) (L' := [(0, .ref 143), (1, .int X1), (3, .int X3), (4, .int X4)]) (Ps := []) (rest := []) hq (z_at.mk 3 rfl rfl) (Or.inl ⟨rfl, rfl⟩) rfl rfl (by decide) (by decide) rfl (Nat.not_lt.mpr (Nat.le_of_ble_eq_true rfl)) rfl rfl (z_cat_le 0 rfl (by decide)) (z_lgl_le 1 rfl (by decide)) (by decide) (H.tg rfl) (by omega) (g_m_trims_ok H h_161) rfl rfl ?_
      intro m_161 p_161 e_161 H_161
      subst e_161
      refine r_p hq 1 (pc' := 165) (L' := [(0, .ref 143), (1, .int X1), (3, .int X3), (4, .int X4)]) (st' := [.int X3]) rfl ?_
      cases h
      exact r_ri hq (z_at.mk 1 rfl rfl) rfl rfl hx3 rfl H_161
    · refine r_f2 (pc' := 105) (L' := [(0, .ref 143), (1, .int X1), (3, .int X3), (4, .int X4)]) hq (z_at.mk 3 rfl rfl) rfl hx4 hx1 c_102 rfl rfl ?_
      refine r_p hq 2 (pc' := 107) (L' := [(0, .ref 143), (1, .int X1), (3, .int X3), (4, .int X4)]) (st' := [.ref 143, .ref 143]) rfl ?_
      refine r_gR (b := 164) (pc' := 110) (L' := [(0, .ref 143), (1, .int X1), (3, .int X3), (4, .int X4)]) H hq (z_at.mk 3 rfl rfl) rfl rfl rfl rfl ?_
      refine r_p hq 3 (pc' := 114) (L' := [(0, .ref 143), (1, .int X1), (3, .int X3), (4, .int X4)]) (st' := [.int (((4 : Int32)) * X4), .ref 164, .ref 143]) rfl ?_
      obtain ⟨o_114, h_114, h⟩ := Option.bind_eq_some_iff.mp h
      refine r_cvI (pc' := 117) (L' := [(0, .ref 143), (1, .int X1), (3, .int X3), (4, .int X4)]) (Ps := [.ref 164, .int (((4 : Int32)) * X4)]) (rest := []) hq (z_at.mk 3 rfl rfl) (Or.inl ⟨rfl, rfl⟩) rfl rfl (by decide) (by decide) rfl (Nat.not_lt.mpr (Nat.le_of_ble_eq_true rfl)) rfl rfl (z_cat_le 0 rfl (by decide)) (z_lgl_le 3 rfl (by decide)) (by decide) (H.tg rfl) (by omega) (g_m_meetsNone_ok rfl (tx_imul (rfl : (4 : Int32).toInt = 4) hx4) H h_114) rfl rfl ?_
      intro R_114 m_114 p_114 e_114 hR_114 H_114
      subst e_114
      rcases z_ite h with ⟨c_117, h⟩ | ⟨c_117, h⟩
      · refine r_t1 (pc' := 123) (L' := [(0, .ref 143), (1, .int X1), (3, .int X3), (4, .int X4)]) hq (z_at.mk 3 rfl rfl) rfl hR_114 c_117 rfl rfl ?_
        refine r_p hq 2 (pc' := 125) (L' := [(0, .ref 143), (1, .int X1), (3, .int X3), (4, .int X4)]) (st' := [.ref 143, .ref 143]) rfl ?_
        refine r_gR (b := 164) (pc' := 128) (L' := [(0, .ref 143), (1, .int X1), (3, .int X3), (4, .int X4)]) H_114 hq (z_at.mk 3 rfl rfl) rfl rfl rfl rfl ?_
        refine r_p hq 3 (pc' := 132) (L' := [(0, .ref 143), (1, .int X1), (3, .int X3), (4, .int X4)]) (st' := [.int (((4 : Int32)) * X4), .ref 164, .ref 143]) rfl ?_
        obtain ⟨o_132, h_132, h⟩ := Option.bind_eq_some_iff.mp h
        refine r_cvV (pc' := 135) (L' := [(0, .ref 143), (1, .int X1), (3, .int X3), (4, .int X4)]) (Ps := [.ref 164, .int (((4 : Int32)) * X4)]) (rest := []) hq (z_at.mk 3 rfl rfl) (Or.inl ⟨rfl, rfl⟩) rfl rfl (by decide) (by decide) rfl (Nat.not_lt.mpr (Nat.le_of_ble_eq_true rfl)) rfl rfl (z_cat_le 0 rfl (by decide)) (z_lgl_le 3 rfl (by decide)) (by decide) (H_114.tg rfl) (by omega) (g_m_asks_ok rfl (tx_imul (rfl : (4 : Int32).toInt = 4) hx4) H_114 h_132) rfl rfl ?_
        intro m_132 p_132 e_132 H_132
        subst e_132
        refine r_p hq 3 (pc' := 138) (L' := [(0, .ref 143), (1, .int X1), (3, .int X3), (4, .int X4)]) (st' := [.ref 143, .ref 143, .ref 143]) rfl ?_
        refine r_gR (b := 164) (pc' := 141) (L' := [(0, .ref 143), (1, .int X1), (3, .int X3), (4, .int X4)]) H_132 hq (z_at.mk 3 rfl rfl) rfl rfl rfl rfl ?_
        refine r_p hq 3 (pc' := 145) (L' := [(0, .ref 143), (1, .int X1), (3, .int X3), (4, .int X4)]) (st' := [.int (((4 : Int32)) * X4), .ref 164, .ref 143, .ref 143]) rfl ?_
        obtain ⟨o_145, h_145, h⟩ := Option.bind_eq_some_iff.mp h
        refine r_cvI (pc' := 148) (L' := [(0, .ref 143), (1, .int X1), (3, .int X3), (4, .int X4)]) (Ps := [.ref 164, .int (((4 : Int32)) * X4)]) (rest := [.ref 143]) hq (z_at.mk 3 rfl rfl) (Or.inl ⟨rfl, rfl⟩) rfl rfl (by decide) (by decide) rfl (Nat.not_lt.mpr (Nat.le_of_ble_eq_true rfl)) rfl rfl (z_cat_le 1 rfl (by decide)) (z_lgl_le 3 rfl (by decide)) (by decide) (H_132.tg rfl) (by omega) (g_m_adds_ok rfl (tx_imul (rfl : (4 : Int32).toInt = 4) hx4) H_132 h_145) rfl rfl ?_
        intro R_145 m_145 p_145 e_145 hR_145 H_145
        subst e_145
        obtain ⟨o_148, h_148, h⟩ := Option.bind_eq_some_iff.mp h
        refine r_cvV (pc' := 151) (L' := [(0, .ref 143), (1, .int X1), (3, .int X3), (4, .int X4)]) (Ps := [.int R_145]) (rest := []) hq (z_at.mk 3 rfl rfl) (Or.inl ⟨rfl, rfl⟩) rfl rfl (by decide) (by decide) rfl (Nat.not_lt.mpr (Nat.le_of_ble_eq_true rfl)) rfl rfl (z_cat_le 0 rfl (by decide)) (z_lgl_le 2 rfl (by decide)) (by decide) (H_145.tg rfl) (by omega) (g_m_weighs_ok hR_145 H_145 h_148) rfl rfl ?_
        intro m_148 p_148 e_148 H_148
        subst e_148
        refine r_p hq 1 (pc' := 154) (L' := [(0, .ref 143), (1, .int X1), (3, .int (X3 + (1 : Int32))), (4, .int X4)]) (st' := []) rfl ?_
        exact g_m_load_L154_ok ih hx1 (tx_iadd hx3 (rfl : (1 : Int32).toInt = 1)) hx4 H_148 h
      · refine r_f1 (pc' := 120) (L' := [(0, .ref 143), (1, .int X1), (3, .int X3), (4, .int X4)]) hq (z_at.mk 3 rfl rfl) rfl hR_114 c_117 rfl rfl ?_
        refine r_p hq 1 (pc' := 154) (L' := [(0, .ref 143), (1, .int X1), (3, .int X3), (4, .int X4)]) (st' := []) rfl ?_
        exact g_m_load_L154_ok ih hx1 hx3 hx4 H_114 h
def g_m_load_L70 (g8 : Int → Int → zS → Option (Int × zS)) (x1 : Int) (xs0 : Int) (σ : zS) : Option (Int × zS) :=
  g8 x1 xs0 σ
set_option maxHeartbeats 4000000 in
theorem g_m_load_L70_ok {xl : Nat} {xs : Nat → Int32} {g8 : Int → Int → zS → Option (Int × zS)} (hg8 : ∀ {X1 : Int32} {x1 : Int} {X2 : Int32} {x2 : Int} {σ : zS} {p : Nat} {m : zM} {o : Int × zS}, X1.toInt = x1 → X2.toInt = x2 → zRep xl xs p m σ → g8 x1 x2 σ = some o → zGo xl xs (fun p' => p = p') 7 243 8 [(0, .ref 143), (1, .int X1), (2, .int X2)] [] m (vI o.1) o.2) {X1 : Int32} {x1 : Int} (hx1 : X1.toInt = x1) {Xs0 : Int32} {xs0 : Int} (hxs0 : Xs0.toInt = xs0) {σ : zS} {p : Nat} {m : zM} {o : Int × zS} (H : zRep xl xs p m σ) (h : g_m_load_L70 g8 x1 xs0 σ = some o) : zGo xl xs (fun p' => p = p') 7 243 70 [(0, .ref 143), (1, .int X1)] [.int Xs0] m (vI o.1) o.2 := by
  have hq : z_mth 243 = some z_r243 := rfl
  unfold g_m_load_L70 at h
  refine r_p hq 2 (pc' := 8) (L' := [(0, .ref 143), (1, .int X1), (2, .int Xs0)]) (st' := []) rfl ?_
  exact hg8 hx1 hxs0 H h
def g_m_load_L43 (g8 : Int → Int → zS → Option (Int × zS)) (x1 : Int) (x2 : Int) (σ : zS) : Option (Int × zS) :=
  if x2 = 0 then
    g8 x1 x2 σ
  else
    if 12 ≤ x1 then
      let v_64 := σ 143 21
      (g_m_fails v_64 σ).bind fun o_67 =>
      g_m_load_L70 g8 x1 o_67.1 o_67.2
    else
      (g_m_isSign 59 σ).bind fun o_56 =>
      g_m_load_L70 g8 x1 o_56.1 o_56.2
set_option maxHeartbeats 4000000 in
theorem g_m_load_L43_ok {xl : Nat} {xs : Nat → Int32} {g8 : Int → Int → zS → Option (Int × zS)} (hg8 : ∀ {X1 : Int32} {x1 : Int} {X2 : Int32} {x2 : Int} {σ : zS} {p : Nat} {m : zM} {o : Int × zS}, X1.toInt = x1 → X2.toInt = x2 → zRep xl xs p m σ → g8 x1 x2 σ = some o → zGo xl xs (fun p' => p = p') 7 243 8 [(0, .ref 143), (1, .int X1), (2, .int X2)] [] m (vI o.1) o.2) {X1 : Int32} {x1 : Int} (hx1 : X1.toInt = x1) {X2 : Int32} {x2 : Int} (hx2 : X2.toInt = x2) {σ : zS} {p : Nat} {m : zM} {o : Int × zS} (H : zRep xl xs p m σ) (h : g_m_load_L43 g8 x1 x2 σ = some o) : zGo xl xs (fun p' => p = p') 7 243 43 [(0, .ref 143), (1, .int X1), (2, .int X2)] [] m (vI o.1) o.2 := by
  have hq : z_mth 243 = some z_r243 := rfl
  unfold g_m_load_L43 at h
  refine r_p hq 1 (pc' := 44) (L' := [(0, .ref 143), (1, .int X1), (2, .int X2)]) (st' := [.int X2]) rfl ?_
  rcases z_ite h with ⟨c_44, h⟩ | ⟨c_44, h⟩
  · refine r_t1 (pc' := 8) (L' := [(0, .ref 143), (1, .int X1), (2, .int X2)]) hq (z_at.mk 3 rfl rfl) rfl hx2 c_44 rfl rfl ?_
    exact hg8 hx1 hx2 H h
  · refine r_f1 (pc' := 47) (L' := [(0, .ref 143), (1, .int X1), (2, .int X2)]) hq (z_at.mk 3 rfl rfl) rfl hx2 c_44 rfl rfl ?_
    refine r_p hq 2 (pc' := 50) (L' := [(0, .ref 143), (1, .int X1), (2, .int X2)]) (st' := [.int ((12 : Int32)), .int X1]) rfl ?_
    rcases z_ite h with ⟨c_50, h⟩ | ⟨c_50, h⟩
    · refine r_t2 (pc' := 62) (L' := [(0, .ref 143), (1, .int X1), (2, .int X2)]) hq (z_at.mk 3 rfl rfl) rfl hx1 (rfl : (12 : Int32).toInt = 12) c_50 rfl rfl ?_
      refine r_p hq 2 (pc' := 64) (L' := [(0, .ref 143), (1, .int X1), (2, .int X2)]) (st' := [.ref 143, .ref 143]) rfl ?_
      refine r_gI (pc' := 67) (L' := [(0, .ref 143), (1, .int X1), (2, .int X2)]) H hq (z_at.mk 3 rfl rfl) rfl rfl rfl rfl ?_
      intro V_64 hV_64
      obtain ⟨o_67, h_67, h⟩ := Option.bind_eq_some_iff.mp h
      refine r_cvI (pc' := 70) (L' := [(0, .ref 143), (1, .int X1)]) (Ps := [.int V_64]) (rest := []) hq (z_at.mk 3 rfl rfl) (Or.inl ⟨rfl, rfl⟩) rfl rfl (by decide) (by decide) rfl (Nat.not_lt.mpr (Nat.le_of_ble_eq_true rfl)) rfl rfl (z_cat_le 0 rfl (by decide)) (z_lgl_le 2 rfl (by decide)) (by decide) (H.tg rfl) (by omega) (g_m_fails_ok hV_64 H h_67) rfl rfl ?_
      intro R_67 m_67 p_67 e_67 hR_67 H_67
      subst e_67
      exact g_m_load_L70_ok hg8 hx1 hR_67 H_67 h
    · refine r_f2 (pc' := 53) (L' := [(0, .ref 143), (1, .int X1), (2, .int X2)]) hq (z_at.mk 3 rfl rfl) rfl hx1 (rfl : (12 : Int32).toInt = 12) c_50 rfl rfl ?_
      refine r_p hq 2 (pc' := 56) (L' := [(0, .ref 143), (1, .int X1), (2, .int X2)]) (st' := [.int ((59 : Int32)), .ref 143]) rfl ?_
      obtain ⟨o_56, h_56, h⟩ := Option.bind_eq_some_iff.mp h
      refine r_cvI (pc' := 59) (L' := [(0, .ref 143), (1, .int X1), (2, .int X2)]) (Ps := [.int ((59 : Int32))]) (rest := []) hq (z_at.mk 3 rfl rfl) (Or.inl ⟨rfl, rfl⟩) rfl rfl (by decide) (by decide) rfl (Nat.not_lt.mpr (Nat.le_of_ble_eq_true rfl)) rfl rfl (z_cat_le 0 rfl (by decide)) (z_lgl_le 2 rfl (by decide)) (by decide) (H.tg rfl) (by omega) (g_m_isSign_ok (rfl : (59 : Int32).toInt = 59) H h_56) rfl rfl ?_
      intro R_56 m_56 p_56 e_56 hR_56 H_56
      subst e_56
      refine r_p hq 1 (pc' := 70) (L' := [(0, .ref 143), (1, .int X1)]) (st' := [.int R_56]) rfl ?_
      exact g_m_load_L70_ok hg8 hx1 hR_56 H_56 h
def g_m_load_L8 : Nat → Int → Int → zS → Option (Int × zS)
  | 0, _, _, _ => none
  | n + 1, x1, x2, σ =>
    if x2 = 0 then
      let s_76 := zu σ 143 20 0
      let v_80 := s_76 143 22
      if v_80 < 0 then
        g_m_load_L99 zK x1 0 0 s_76
      else
        let v_89 := s_76 143 22
        some (w32 ((-100) - v_89), s_76)
    else
      (g_m_isSpelled (w32 (4 * x1)) σ).bind fun o_16 =>
      if o_16.1 = 0 then
        g_m_load_L43 ((g_m_load_L8 n)) (w32 (x1 + 1)) o_16.1 o_16.2
      else
        let v_28 := o_16.2 143 21
        let v_32 := o_16.2 143 20
        if v_28 ≠ v_32 then
          g_m_load_L43 ((g_m_load_L8 n)) (w32 (x1 + 1)) o_16.1 o_16.2
        else
          (g_m_load_L8 n) (w32 (x1 + 1)) 0 o_16.2
set_option maxHeartbeats 4000000 in
theorem g_m_load_L8_ok {xl : Nat} {xs : Nat → Int32} : ∀ (n : Nat) {X1 : Int32} {x1 : Int} {X2 : Int32} {x2 : Int} {σ : zS} {p : Nat} {m : zM} {o : Int × zS}, X1.toInt = x1 → X2.toInt = x2 → zRep xl xs p m σ → g_m_load_L8 n x1 x2 σ = some o → zGo xl xs (fun p' => p = p') 7 243 8 [(0, .ref 143), (1, .int X1), (2, .int X2)] [] m (vI o.1) o.2
  | 0, _, _, _, _, _, _, _, _, _, _, _, h => by cases h
  | n + 1, X1, x1, X2, x2, σ, p, m, o, hx1, hx2, H, h => by
    have hq : z_mth 243 = some z_r243 := rfl
    have ih := fun {X1 : Int32} {x1 : Int} {X2 : Int32} {x2 : Int} {σ : zS} {p : Nat} {m : zM} {o : Int × zS} => g_m_load_L8_ok (xl := xl) (xs := xs) n (X1 := X1) (x1 := x1) (X2 := X2) (x2 := x2) (σ := σ) (p := p) (m := m) (o := o)
    unfold g_m_load_L8 at h
    refine r_p hq 1 (pc' := 9) (L' := [(0, .ref 143), (1, .int X1), (2, .int X2)]) (st' := [.int X2]) rfl ?_
    rcases z_ite h with ⟨c_9, h⟩ | ⟨c_9, h⟩
    · refine r_t1 (pc' := 74) (L' := [(0, .ref 143), (1, .int X1), (2, .int X2)]) hq (z_at.mk 3 rfl rfl) rfl hx2 c_9 rfl rfl ?_
      refine r_p hq 2 (pc' := 76) (L' := [(0, .ref 143), (1, .int X1), (2, .int X2)]) (st' := [.int ((0 : Int32)), .ref 143]) rfl ?_
      refine r_pI (X := (0 : Int32)) (pc' := 79) (L' := [(0, .ref 143), (1, .int X1), (2, .int X2)]) H hq (z_at.mk 3 rfl rfl) rfl rfl (rfl : (0 : Int32).toInt = 0) (by decide) rfl rfl rfl rfl ?_
      intro m_76 H_76
      refine r_p hq 1 (pc' := 80) (L' := [(0, .ref 143), (1, .int X1), (2, .int X2)]) (st' := [.ref 143]) rfl ?_
      refine r_gI (pc' := 83) (L' := [(0, .ref 143), (1, .int X1), (2, .int X2)]) H_76 hq (z_at.mk 3 rfl rfl) rfl rfl rfl rfl ?_
      intro V_80 hV_80
      rcases z_ite h with ⟨c_83, h⟩ | ⟨c_83, h⟩
      · refine r_t1 (pc' := 94) (L' := [(0, .ref 143), (1, .int X1), (2, .int X2)]) hq (z_at.mk 3 rfl rfl) rfl hV_80 c_83 rfl rfl ?_
        refine r_p hq 4 (pc' := 99) (L' := [(0, .ref 143), (1, .int X1), (3, .int ((0 : Int32))), (4, .int ((0 : Int32)))]) (st' := []) rfl ?_
        exact g_m_load_L99_ok zK hx1 (rfl : (0 : Int32).toInt = 0) (rfl : (0 : Int32).toInt = 0) H_76 h
      · refine r_f1 (pc' := 86) (L' := [(0, .ref 143), (1, .int X1), (2, .int X2)]) hq (z_at.mk 3 rfl rfl) rfl hV_80 c_83 rfl rfl ?_
        refine r_p hq 2 (pc' := 89) (L' := [(0, .ref 143), (1, .int X1), (2, .int X2)]) (st' := [.ref 143, .int ((-100 : Int32))]) rfl ?_
        refine r_gI (pc' := 92) (L' := [(0, .ref 143), (1, .int X1), (2, .int X2)]) H_76 hq (z_at.mk 3 rfl rfl) rfl rfl rfl rfl ?_
        intro V_89 hV_89
        refine r_p hq 1 (pc' := 93) (L' := [(0, .ref 143), (1, .int X1), (2, .int X2)]) (st' := [.int (((-100 : Int32)) - V_89)]) rfl ?_
        cases h
        exact r_ri hq (z_at.mk 1 rfl rfl) rfl rfl (tx_isub (rfl : (-100 : Int32).toInt = -100) hV_89) rfl H_76
    · refine r_f1 (pc' := 12) (L' := [(0, .ref 143), (1, .int X1), (2, .int X2)]) hq (z_at.mk 3 rfl rfl) rfl hx2 c_9 rfl rfl ?_
      refine r_p hq 4 (pc' := 16) (L' := [(0, .ref 143), (1, .int X1), (2, .int X2)]) (st' := [.int (((4 : Int32)) * X1), .ref 143]) rfl ?_
      obtain ⟨o_16, h_16, h⟩ := Option.bind_eq_some_iff.mp h
      refine r_cvI (pc' := 19) (L' := [(0, .ref 143), (1, .int X1), (2, .int X2)]) (Ps := [.int (((4 : Int32)) * X1)]) (rest := []) hq (z_at.mk 3 rfl rfl) (Or.inl ⟨rfl, rfl⟩) rfl rfl (by decide) (by decide) rfl (Nat.not_lt.mpr (Nat.le_of_ble_eq_true rfl)) rfl rfl (z_cat_le 0 rfl (by decide)) (z_lgl_le 2 rfl (by decide)) (by decide) (H.tg rfl) (by omega) (g_m_isSpelled_ok (tx_imul (rfl : (4 : Int32).toInt = 4) hx1) H h_16) rfl rfl ?_
      intro R_16 m_16 p_16 e_16 hR_16 H_16
      subst e_16
      refine r_p hq 3 (pc' := 24) (L' := [(1, .int (X1 + (1 : Int32))), (2, .int R_16), (0, .ref 143)]) (st' := [.int R_16]) rfl ?_
      rcases z_ite h with ⟨c_24, h⟩ | ⟨c_24, h⟩
      · refine r_t1 (pc' := 43) (L' := [(0, .ref 143), (1, .int (X1 + (1 : Int32))), (2, .int R_16)]) hq (z_at.mk 3 rfl rfl) rfl hR_16 c_24 rfl rfl ?_
        exact g_m_load_L43_ok ih (tx_iadd hx1 (rfl : (1 : Int32).toInt = 1)) hR_16 H_16 h
      · refine r_f1 (pc' := 27) (L' := [(1, .int (X1 + (1 : Int32))), (2, .int R_16), (0, .ref 143)]) hq (z_at.mk 3 rfl rfl) rfl hR_16 c_24 rfl rfl ?_
        refine r_p hq 1 (pc' := 28) (L' := [(1, .int (X1 + (1 : Int32))), (2, .int R_16), (0, .ref 143)]) (st' := [.ref 143]) rfl ?_
        refine r_gI (pc' := 31) (L' := [(1, .int (X1 + (1 : Int32))), (2, .int R_16), (0, .ref 143)]) H_16 hq (z_at.mk 3 rfl rfl) rfl rfl rfl rfl ?_
        intro V_28 hV_28
        refine r_p hq 1 (pc' := 32) (L' := [(1, .int (X1 + (1 : Int32))), (2, .int R_16), (0, .ref 143)]) (st' := [.ref 143, .int V_28]) rfl ?_
        refine r_gI (pc' := 35) (L' := [(1, .int (X1 + (1 : Int32))), (2, .int R_16), (0, .ref 143)]) H_16 hq (z_at.mk 3 rfl rfl) rfl rfl rfl rfl ?_
        intro V_32 hV_32
        rcases z_ite h with ⟨c_35, h⟩ | ⟨c_35, h⟩
        · refine r_t2 (pc' := 43) (L' := [(0, .ref 143), (1, .int (X1 + (1 : Int32))), (2, .int R_16)]) hq (z_at.mk 3 rfl rfl) rfl hV_28 hV_32 c_35 rfl rfl ?_
          exact g_m_load_L43_ok ih (tx_iadd hx1 (rfl : (1 : Int32).toInt = 1)) hR_16 H_16 h
        · refine r_f2 (pc' := 38) (L' := [(1, .int (X1 + (1 : Int32))), (2, .int R_16), (0, .ref 143)]) hq (z_at.mk 3 rfl rfl) rfl hV_28 hV_32 c_35 rfl rfl ?_
          refine r_p hq 3 (pc' := 8) (L' := [(0, .ref 143), (1, .int (X1 + (1 : Int32))), (2, .int ((0 : Int32)))]) (st' := []) rfl ?_
          exact ih (tx_iadd hx1 (rfl : (1 : Int32).toInt = 1)) (rfl : (0 : Int32).toInt = 0) H_16 h
def g_m_load (σ : zS) : Option (Int × zS) :=
  (g_m_begins σ).bind fun o_1 =>
  g_m_load_L8 zK 0 1 o_1.2
set_option maxHeartbeats 4000000 in
theorem g_m_load_ok {xl : Nat} {xs : Nat → Int32} {σ : zS} {p : Nat} {m : zM} {o : Int × zS} (H : zRep xl xs p m σ) (h : g_m_load σ = some o) : zGo xl xs (fun p' => p = p') 7 243 0 (z_can 243 0 (lv_args 0 [.ref 143])) [] m (vI o.1) o.2 := by
  have hq : z_mth 243 = some z_r243 := rfl
  unfold g_m_load at h
  show zGo xl xs (fun p' => p = p') 7 243 0 [(0, .ref 143)] [] m (vI o.1) o.2
  refine r_p hq 1 (pc' := 1) (L' := [(0, .ref 143)]) (st' := [.ref 143]) rfl ?_
  obtain ⟨o_1, h_1, h⟩ := Option.bind_eq_some_iff.mp h
  refine r_cvV (pc' := 4) (L' := [(0, .ref 143)]) (Ps := []) (rest := []) hq (z_at.mk 3 rfl rfl) (Or.inl ⟨rfl, rfl⟩) rfl rfl (by decide) (by decide) rfl (Nat.not_lt.mpr (Nat.le_of_ble_eq_true rfl)) rfl rfl (z_cat_le 0 rfl (by decide)) (z_lgl_le 1 rfl (by decide)) (by decide) (H.tg rfl) (by omega) (g_m_begins_ok H h_1) rfl rfl ?_
  intro m_1 p_1 e_1 H_1
  subst e_1
  refine r_p hq 4 (pc' := 8) (L' := [(0, .ref 143), (1, .int ((0 : Int32))), (2, .int ((1 : Int32)))]) (st' := []) rfl ?_
  exact g_m_load_L8_ok zK (rfl : (0 : Int32).toInt = 0) (rfl : (1 : Int32).toInt = 1) H_1 h
def g_m_query (x1 : Int) (x2 : Int) (x3 : Int) (x4 : Int) (x5 : Int) (σ : zS) : Option (Int × zS) :=
  (g_m_isIn x1 0 6 σ).bind fun o_4 =>
  if o_4.1 = 0 then
    some (-9223372036854775808, o_4.2)
  else
    (g_m_isBox x2 x3 x4 x5 o_4.2).bind fun o_16 =>
    if o_16.1 ≠ 0 then
      (g_m_sets 152 0 x2 x3 x4 x5 o_16.2).bind fun o_37 =>
      (g_m_asked x1 (-1) o_37.2).bind fun o_43 =>
      some (o_43.1, o_43.2)
    else
      some (-9223372036854775808, o_16.2)
set_option maxHeartbeats 4000000 in
theorem g_m_query_ok {xl : Nat} {xs : Nat → Int32} {X1 : Int32} {x1 : Int} (hx1 : X1.toInt = x1) {X2 : Int32} {x2 : Int} (hx2 : X2.toInt = x2) {X3 : Int32} {x3 : Int} (hx3 : X3.toInt = x3) {X4 : Int32} {x4 : Int} (hx4 : X4.toInt = x4) {X5 : Int32} {x5 : Int} (hx5 : X5.toInt = x5) {σ : zS} {p : Nat} {m : zM} {o : Int × zS} (H : zRep xl xs p m σ) (h : g_m_query x1 x2 x3 x4 x5 σ = some o) : zGo xl xs (fun p' => p = p') 507 244 0 (z_can 244 0 (lv_args 0 [.ref 143, .int X1, .int X2, .int X3, .int X4, .int X5])) [] m (vL o.1) o.2 := by
  have hq : z_mth 244 = some z_r244 := rfl
  unfold g_m_query at h
  show zGo xl xs (fun p' => p = p') 507 244 0 [(0, .ref 143), (1, .int X1), (2, .int X2), (3, .int X3), (4, .int X4), (5, .int X5)] [] m (vL o.1) o.2
  refine r_p hq 3 (pc' := 4) (L' := [(0, .ref 143), (1, .int X1), (2, .int X2), (3, .int X3), (4, .int X4), (5, .int X5)]) (st' := [.int ((6 : Int32)), .int ((0 : Int32)), .int X1]) rfl ?_
  obtain ⟨o_4, h_4, h⟩ := Option.bind_eq_some_iff.mp h
  refine r_csI (pc' := 7) (L' := [(0, .ref 143), (1, .int X1), (2, .int X2), (3, .int X3), (4, .int X4), (5, .int X5)]) (As := [.int X1, .int ((0 : Int32)), .int ((6 : Int32))]) (rest := []) (j := 159) hq (z_at.mk 3 rfl rfl) (Or.inl ⟨rfl, rfl⟩) rfl rfl (by omega) (g_m_isIn_ok hx1 (rfl : (0 : Int32).toInt = 0) (rfl : (6 : Int32).toInt = 6) H h_4) rfl rfl ?_
  intro R_4 m_4 p_4 e_4 hR_4 H_4
  subst e_4
  rcases z_ite h with ⟨c_7, h⟩ | ⟨c_7, h⟩
  · refine r_t1 (pc' := 22) (L' := []) hq (z_at.mk 3 rfl rfl) rfl hR_4 c_7 rfl rfl ?_
    refine r_p hq 1 (pc' := 25) (L' := []) (st' := [.long ((-9223372036854775808 : Int64))]) rfl ?_
    cases h
    exact r_rl hq (z_at.mk 1 rfl rfl) rfl (rfl : (-9223372036854775808 : Int64).toInt = -9223372036854775808) rfl H_4
  · refine r_f1 (pc' := 10) (L' := [(0, .ref 143), (1, .int X1), (2, .int X2), (3, .int X3), (4, .int X4), (5, .int X5)]) hq (z_at.mk 3 rfl rfl) rfl hR_4 c_7 rfl rfl ?_
    refine r_p hq 4 (pc' := 16) (L' := [(0, .ref 143), (1, .int X1), (2, .int X2), (3, .int X3), (4, .int X4), (5, .int X5)]) (st' := [.int X5, .int X4, .int X3, .int X2]) rfl ?_
    obtain ⟨o_16, h_16, h⟩ := Option.bind_eq_some_iff.mp h
    refine r_csI (pc' := 19) (L' := [(0, .ref 143), (1, .int X1), (2, .int X2), (3, .int X3), (4, .int X4), (5, .int X5)]) (As := [.int X2, .int X3, .int X4, .int X5]) (rest := []) (j := 164) hq (z_at.mk 3 rfl rfl) (Or.inl ⟨rfl, rfl⟩) rfl rfl (by omega) (g_m_isBox_ok hx2 hx3 hx4 hx5 H_4 h_16) rfl rfl ?_
    intro R_16 m_16 p_16 e_16 hR_16 H_16
    subst e_16
    rcases z_ite h with ⟨c_19, h⟩ | ⟨c_19, h⟩
    · refine r_t1 (pc' := 26) (L' := [(0, .ref 143), (1, .int X1), (2, .int X2), (3, .int X3), (4, .int X4), (5, .int X5)]) hq (z_at.mk 3 rfl rfl) rfl hR_16 c_19 rfl rfl ?_
      refine r_p hq 1 (pc' := 27) (L' := [(0, .ref 143), (1, .int X1), (2, .int X2), (3, .int X3), (4, .int X4), (5, .int X5)]) (st' := [.ref 143]) rfl ?_
      refine r_gR (b := 152) (pc' := 30) (L' := [(0, .ref 143), (1, .int X1), (2, .int X2), (3, .int X3), (4, .int X4), (5, .int X5)]) H_16 hq (z_at.mk 3 rfl rfl) rfl rfl rfl rfl ?_
      refine r_p hq 5 (pc' := 37) (L' := [(0, .ref 143), (1, .int X1), (2, .int X2), (3, .int X3), (4, .int X4), (5, .int X5)]) (st' := [.int X5, .int X4, .int X3, .int X2, .int ((0 : Int32)), .ref 152]) rfl ?_
      obtain ⟨o_37, h_37, h⟩ := Option.bind_eq_some_iff.mp h
      refine r_csV (pc' := 40) (L' := [(0, .ref 143), (1, .int X1), (2, .int X2), (3, .int X3), (4, .int X4), (5, .int X5)]) (As := [.ref 152, .int ((0 : Int32)), .int X2, .int X3, .int X4, .int X5]) (rest := []) (j := 165) hq (z_at.mk 3 rfl rfl) (Or.inl ⟨rfl, rfl⟩) rfl rfl (by omega) (g_m_sets_ok rfl (rfl : (0 : Int32).toInt = 0) hx2 hx3 hx4 hx5 H_16 h_37) rfl rfl ?_
      intro m_37 p_37 e_37 H_37
      subst e_37
      refine r_p hq 3 (pc' := 43) (L' := [(0, .ref 143), (1, .int X1), (2, .int X2), (3, .int X3), (4, .int X4), (5, .int X5)]) (st' := [.int ((-1 : Int32)), .int X1, .ref 143]) rfl ?_
      obtain ⟨o_43, h_43, h⟩ := Option.bind_eq_some_iff.mp h
      refine r_cvL (pc' := 46) (L' := [(0, .ref 143), (1, .int X1), (2, .int X2), (3, .int X3), (4, .int X4), (5, .int X5)]) (Ps := [.int X1, .int ((-1 : Int32))]) (rest := []) hq (z_at.mk 3 rfl rfl) (Or.inl ⟨rfl, rfl⟩) rfl rfl (by decide) (by decide) rfl (Nat.not_lt.mpr (Nat.le_of_ble_eq_true rfl)) rfl rfl (z_cat_le 0 rfl (by decide)) (z_lgl_le 3 rfl (by decide)) (by decide) (H_37.tg rfl) (by omega) (g_m_asked_ok hx1 (rfl : (-1 : Int32).toInt = -1) H_37 h_43) rfl rfl ?_
      intro R_43 m_43 p_43 e_43 hR_43 H_43
      subst e_43
      cases h
      exact r_rl hq (z_at.mk 1 rfl rfl) rfl hR_43 rfl H_43
    · refine r_f1 (pc' := 22) (L' := []) hq (z_at.mk 3 rfl rfl) rfl hR_16 c_19 rfl rfl ?_
      refine r_p hq 1 (pc' := 25) (L' := []) (st' := [.long ((-9223372036854775808 : Int64))]) rfl ?_
      cases h
      exact r_rl hq (z_at.mk 1 rfl rfl) rfl (rfl : (-9223372036854775808 : Int64).toInt = -9223372036854775808) rfl H_16
def g_m_find (x1 : Int) (σ : zS) : Option (Int × zS) :=
  if x1 ≠ -1 then
    let v_23 := σ 144 8
    (g_m_isIn x1 0 (w32 (v_23 - 1)) σ).bind fun o_26 =>
    if o_26.1 = 0 then
      some (-1, o_26.2)
    else
      if 0 ≤ w32 (200 + x1) ∧ w32 (200 + x1) < 2740 then
      let v_41 := o_26.2 144 (w32 (200 + x1))
      some (v_41, o_26.2)
      else none
  else
    let v_11 := σ 144 8
    some (v_11, σ)
set_option maxHeartbeats 4000000 in
theorem g_m_find_ok {xl : Nat} {xs : Nat → Int32} {X1 : Int32} {x1 : Int} (hx1 : X1.toInt = x1) {σ : zS} {p : Nat} {m : zM} {o : Int × zS} (H : zRep xl xs p m σ) (h : g_m_find x1 σ = some o) : zGo xl xs (fun p' => p = p') 2 245 0 (z_can 245 0 (lv_args 0 [.ref 143, .int X1])) [] m (vI o.1) o.2 := by
  have hq : z_mth 245 = some z_r245 := rfl
  unfold g_m_find at h
  show zGo xl xs (fun p' => p = p') 2 245 0 [(0, .ref 143), (1, .int X1)] [] m (vI o.1) o.2
  refine r_p hq 2 (pc' := 2) (L' := [(0, .ref 143), (1, .int X1)]) (st' := [.int ((-1 : Int32)), .int X1]) rfl ?_
  rcases z_ite h with ⟨c_2, h⟩ | ⟨c_2, h⟩
  · refine r_t2 (pc' := 15) (L' := [(0, .ref 143), (1, .int X1)]) hq (z_at.mk 3 rfl rfl) rfl hx1 (rfl : (-1 : Int32).toInt = -1) c_2 rfl rfl ?_
    refine r_p hq 3 (pc' := 18) (L' := [(0, .ref 143), (1, .int X1)]) (st' := [.ref 143, .int ((0 : Int32)), .int X1]) rfl ?_
    refine r_gR (b := 144) (pc' := 21) (L' := [(0, .ref 143), (1, .int X1)]) H hq (z_at.mk 3 rfl rfl) rfl rfl rfl rfl ?_
    refine r_p hq 1 (pc' := 23) (L' := [(0, .ref 143), (1, .int X1)]) (st' := [.int ((8 : Int32)), .ref 144, .int ((0 : Int32)), .int X1]) rfl ?_
    refine r_ia (pc' := 24) (L' := [(0, .ref 143), (1, .int X1)]) H hq (z_at.mk 1 rfl rfl) (show zAr 144 0 2740 = true from rfl) (rfl : (8 : Int32).toInt = 8) ⟨by decide, by decide⟩ rfl rfl ?_
    intro V_23 hV_23
    refine r_p hq 2 (pc' := 26) (L' := [(0, .ref 143), (1, .int X1)]) (st' := [.int (V_23 - ((1 : Int32))), .int ((0 : Int32)), .int X1]) rfl ?_
    obtain ⟨o_26, h_26, h⟩ := Option.bind_eq_some_iff.mp h
    refine r_csI (pc' := 29) (L' := [(0, .ref 143), (1, .int X1)]) (As := [.int X1, .int ((0 : Int32)), .int (V_23 - ((1 : Int32)))]) (rest := []) (j := 159) hq (z_at.mk 3 rfl rfl) (Or.inl ⟨rfl, rfl⟩) rfl rfl (by omega) (g_m_isIn_ok hx1 (rfl : (0 : Int32).toInt = 0) (tx_isub hV_23 (rfl : (1 : Int32).toInt = 1)) H h_26) rfl rfl ?_
    intro R_26 m_26 p_26 e_26 hR_26 H_26
    subst e_26
    rcases z_ite h with ⟨c_29, h⟩ | ⟨c_29, h⟩
    · refine r_t1 (pc' := 45) (L' := [(0, .ref 143), (1, .int X1)]) hq (z_at.mk 3 rfl rfl) rfl hR_26 c_29 rfl rfl ?_
      refine r_p hq 1 (pc' := 46) (L' := []) (st' := [.int ((-1 : Int32))]) rfl ?_
      cases h
      exact r_ri hq (z_at.mk 1 rfl rfl) rfl rfl (rfl : (-1 : Int32).toInt = -1) rfl H_26
    · refine r_f1 (pc' := 32) (L' := [(0, .ref 143), (1, .int X1)]) hq (z_at.mk 3 rfl rfl) rfl hR_26 c_29 rfl rfl ?_
      refine r_p hq 1 (pc' := 33) (L' := [(0, .ref 143), (1, .int X1)]) (st' := [.ref 143]) rfl ?_
      refine r_gR (b := 144) (pc' := 36) (L' := [(0, .ref 143), (1, .int X1)]) H_26 hq (z_at.mk 3 rfl rfl) rfl rfl rfl rfl ?_
      refine r_p hq 3 (pc' := 41) (L' := [(0, .ref 143), (1, .int X1)]) (st' := [.int (((200 : Int32)) + X1), .ref 144]) rfl ?_
      obtain ⟨g_41, h⟩ := z_ifo_some h
      refine r_ia (pc' := 42) (L' := [(0, .ref 143), (1, .int X1)]) H_26 hq (z_at.mk 1 rfl rfl) (show zAr 144 0 2740 = true from rfl) (tx_iadd (rfl : (200 : Int32).toInt = 200) hx1) g_41 rfl rfl ?_
      intro V_41 hV_41
      refine r_p hq 1 (pc' := 46) (L' := []) (st' := [.int V_41]) rfl ?_
      cases h
      exact r_ri hq (z_at.mk 1 rfl rfl) rfl rfl hV_41 rfl H_26
  · refine r_f2 (pc' := 5) (L' := [(0, .ref 143), (1, .int X1)]) hq (z_at.mk 3 rfl rfl) rfl hx1 (rfl : (-1 : Int32).toInt = -1) c_2 rfl rfl ?_
    refine r_p hq 1 (pc' := 6) (L' := [(0, .ref 143), (1, .int X1)]) (st' := [.ref 143]) rfl ?_
    refine r_gR (b := 144) (pc' := 9) (L' := [(0, .ref 143), (1, .int X1)]) H hq (z_at.mk 3 rfl rfl) rfl rfl rfl rfl ?_
    refine r_p hq 1 (pc' := 11) (L' := [(0, .ref 143), (1, .int X1)]) (st' := [.int ((8 : Int32)), .ref 144]) rfl ?_
    refine r_ia (pc' := 12) (L' := [(0, .ref 143), (1, .int X1)]) H hq (z_at.mk 1 rfl rfl) (show zAr 144 0 2740 = true from rfl) (rfl : (8 : Int32).toInt = 8) ⟨by decide, by decide⟩ rfl rfl ?_
    intro V_11 hV_11
    refine r_p hq 1 (pc' := 46) (L' := []) (st' := [.int V_11]) rfl ?_
    cases h
    exact r_ri hq (z_at.mk 1 rfl rfl) rfl rfl hV_11 rfl H
def g_m_probe_L136 (g39 : Int → zS → Option (Int × zS)) (x5 : Int) (σ : zS) : Option (Int × zS) :=
  g39 (w32 (x5 + 1)) σ
set_option maxHeartbeats 4000000 in
theorem g_m_probe_L136_ok {xl : Nat} {xs : Nat → Int32} {g39 : Int → zS → Option (Int × zS)} (hg39 : ∀ {X5 : Int32} {x5 : Int} {σ : zS} {p : Nat} {m : zM} {o : Int × zS}, X5.toInt = x5 → zRep xl xs p m σ → g39 x5 σ = some o → zGo xl xs (fun p' => p = p') 5 246 39 [(0, .ref 143), (5, .int X5)] [] m (vI o.1) o.2) {X5 : Int32} {x5 : Int} (hx5 : X5.toInt = x5) {σ : zS} {p : Nat} {m : zM} {o : Int × zS} (H : zRep xl xs p m σ) (h : g_m_probe_L136 g39 x5 σ = some o) : zGo xl xs (fun p' => p = p') 5 246 136 [(0, .ref 143), (5, .int X5)] [] m (vI o.1) o.2 := by
  have hq : z_mth 246 = some z_r246 := rfl
  unfold g_m_probe_L136 at h
  refine r_p hq 2 (pc' := 39) (L' := [(0, .ref 143), (5, .int (X5 + (1 : Int32)))]) (st' := []) rfl ?_
  exact hg39 (tx_iadd hx5 (rfl : (1 : Int32).toInt = 1)) H h
def g_m_probe_L145 : Nat → Int → zS → Option (Int × zS)
  | 0, _, _ => none
  | n + 1, x5, σ =>
    let v_148 := σ 143 10
    if v_148 ≤ x5 then
      let v_207 := σ 143 32
      some (v_207, σ)
    else
      let v_168 := σ 143 32
      (g_m_copies 150 165 (w32 (4 * x5)) (w32 (5 * v_168)) σ).bind fun o_172 =>
      let v_181 := o_172.2 143 32
      if 0 ≤ w32 ((w32 (5 * v_181)) + 4) ∧ w32 ((w32 (5 * v_181)) + 4) < 3000 then
      let s_189 := zu o_172.2 165 (w32 ((w32 (5 * v_181)) + 4)) (-5)
      let v_192 := s_189 143 32
      let s_197 := zu s_189 143 32 (w32 (v_192 + 1))
      (g_m_probe_L145 n) (w32 (x5 + 1)) s_197
      else none
set_option maxHeartbeats 4000000 in
theorem g_m_probe_L145_ok {xl : Nat} {xs : Nat → Int32} : ∀ (n : Nat) {X5 : Int32} {x5 : Int} {σ : zS} {p : Nat} {m : zM} {o : Int × zS}, X5.toInt = x5 → zRep xl xs p m σ → g_m_probe_L145 n x5 σ = some o → zGo xl xs (fun p' => p = p') 5 246 145 [(0, .ref 143), (5, .int X5)] [] m (vI o.1) o.2
  | 0, _, _, _, _, _, _, _, _, h => by cases h
  | n + 1, X5, x5, σ, p, m, o, hx5, H, h => by
    have hq : z_mth 246 = some z_r246 := rfl
    have ih := fun {X5 : Int32} {x5 : Int} {σ : zS} {p : Nat} {m : zM} {o : Int × zS} => g_m_probe_L145_ok (xl := xl) (xs := xs) n (X5 := X5) (x5 := x5) (σ := σ) (p := p) (m := m) (o := o)
    unfold g_m_probe_L145 at h
    refine r_p hq 2 (pc' := 148) (L' := [(0, .ref 143), (5, .int X5)]) (st' := [.ref 143, .int X5]) rfl ?_
    refine r_gI (pc' := 151) (L' := [(0, .ref 143), (5, .int X5)]) H hq (z_at.mk 3 rfl rfl) rfl rfl rfl rfl ?_
    intro V_148 hV_148
    rcases z_ite h with ⟨c_151, h⟩ | ⟨c_151, h⟩
    · refine r_t2 (pc' := 206) (L' := [(0, .ref 143), (5, .int X5)]) hq (z_at.mk 3 rfl rfl) rfl hx5 hV_148 c_151 rfl rfl ?_
      refine r_p hq 1 (pc' := 207) (L' := [(0, .ref 143), (5, .int X5)]) (st' := [.ref 143]) rfl ?_
      refine r_gI (pc' := 210) (L' := [(0, .ref 143), (5, .int X5)]) H hq (z_at.mk 3 rfl rfl) rfl rfl rfl rfl ?_
      intro V_207 hV_207
      cases h
      exact r_ri hq (z_at.mk 1 rfl rfl) rfl rfl hV_207 rfl H
    · refine r_f2 (pc' := 154) (L' := [(0, .ref 143), (5, .int X5)]) hq (z_at.mk 3 rfl rfl) rfl hx5 hV_148 c_151 rfl rfl ?_
      refine r_p hq 1 (pc' := 155) (L' := [(0, .ref 143), (5, .int X5)]) (st' := [.ref 143]) rfl ?_
      refine r_gR (b := 150) (pc' := 158) (L' := [(0, .ref 143), (5, .int X5)]) H hq (z_at.mk 3 rfl rfl) rfl rfl rfl rfl ?_
      refine r_p hq 4 (pc' := 163) (L' := [(0, .ref 143), (5, .int X5)]) (st' := [.ref 143, .int (((4 : Int32)) * X5), .ref 150]) rfl ?_
      refine r_gR (b := 165) (pc' := 166) (L' := [(0, .ref 143), (5, .int X5)]) H hq (z_at.mk 3 rfl rfl) rfl rfl rfl rfl ?_
      refine r_p hq 2 (pc' := 168) (L' := [(0, .ref 143), (5, .int X5)]) (st' := [.ref 143, .int ((5 : Int32)), .ref 165, .int (((4 : Int32)) * X5), .ref 150]) rfl ?_
      refine r_gI (pc' := 171) (L' := [(0, .ref 143), (5, .int X5)]) H hq (z_at.mk 3 rfl rfl) rfl rfl rfl rfl ?_
      intro V_168 hV_168
      refine r_p hq 1 (pc' := 172) (L' := [(0, .ref 143), (5, .int X5)]) (st' := [.int (((5 : Int32)) * V_168), .ref 165, .int (((4 : Int32)) * X5), .ref 150]) rfl ?_
      obtain ⟨o_172, h_172, h⟩ := Option.bind_eq_some_iff.mp h
      refine r_csV (pc' := 175) (L' := [(0, .ref 143), (5, .int X5)]) (As := [.ref 150, .int (((4 : Int32)) * X5), .ref 165, .int (((5 : Int32)) * V_168)]) (rest := []) (j := 166) hq (z_at.mk 3 rfl rfl) (Or.inl ⟨rfl, rfl⟩) rfl rfl (by omega) (g_m_copies_ok rfl rfl (tx_imul (rfl : (4 : Int32).toInt = 4) hx5) (tx_imul (rfl : (5 : Int32).toInt = 5) hV_168) H h_172) rfl rfl ?_
      intro m_172 p_172 e_172 H_172
      subst e_172
      refine r_p hq 1 (pc' := 176) (L' := [(0, .ref 143), (5, .int X5)]) (st' := [.ref 143]) rfl ?_
      refine r_gR (b := 165) (pc' := 179) (L' := [(0, .ref 143), (5, .int X5)]) H_172 hq (z_at.mk 3 rfl rfl) rfl rfl rfl rfl ?_
      refine r_p hq 2 (pc' := 181) (L' := [(0, .ref 143), (5, .int X5)]) (st' := [.ref 143, .int ((5 : Int32)), .ref 165]) rfl ?_
      refine r_gI (pc' := 184) (L' := [(0, .ref 143), (5, .int X5)]) H_172 hq (z_at.mk 3 rfl rfl) rfl rfl rfl rfl ?_
      intro V_181 hV_181
      refine r_p hq 4 (pc' := 189) (L' := [(0, .ref 143), (5, .int X5)]) (st' := [.int ((-5 : Int32)), .int ((((5 : Int32)) * V_181) + ((4 : Int32))), .ref 165]) rfl ?_
      obtain ⟨g_189, h⟩ := z_ifo_some h
      refine r_is (pc' := 190) (L' := [(0, .ref 143), (5, .int X5)]) H_172 hq (z_at.mk 1 rfl rfl) (show zAr 165 0 3000 = true from rfl) (tx_iadd (tx_imul (rfl : (5 : Int32).toInt = 5) hV_181) (rfl : (4 : Int32).toInt = 4)) g_189 (rfl : (-5 : Int32).toInt = -5) rfl rfl ?_
      intro m_189 H_189
      refine r_p hq 2 (pc' := 192) (L' := [(0, .ref 143), (5, .int X5)]) (st' := [.ref 143, .ref 143]) rfl ?_
      refine r_gI (pc' := 195) (L' := [(0, .ref 143), (5, .int X5)]) H_189 hq (z_at.mk 3 rfl rfl) rfl rfl rfl rfl ?_
      intro V_192 hV_192
      refine r_p hq 2 (pc' := 197) (L' := [(0, .ref 143), (5, .int X5)]) (st' := [.int (V_192 + ((1 : Int32))), .ref 143]) rfl ?_
      refine r_pI (X := V_192 + ((1 : Int32))) (pc' := 200) (L' := [(0, .ref 143), (5, .int X5)]) H_189 hq (z_at.mk 3 rfl rfl) rfl rfl (tx_iadd hV_192 (rfl : (1 : Int32).toInt = 1)) (by decide) rfl rfl rfl rfl ?_
      intro m_197 H_197
      refine r_p hq 2 (pc' := 145) (L' := [(0, .ref 143), (5, .int (X5 + (1 : Int32)))]) (st' := []) rfl ?_
      exact ih (tx_iadd hx5 (rfl : (1 : Int32).toInt = 1)) H_197 h
def g_m_probe_L39 : Nat → Int → zS → Option (Int × zS)
  | 0, _, _ => none
  | n + 1, x5, σ =>
    let v_46 := σ 144 0
    if v_46 ≤ x5 then
      g_m_probe_L145 zK 0 σ
    else
      (g_m_region_173 x5 σ).bind fun o_56 =>
      (g_m_doMeet 144 152 o_56.1 0 o_56.2).bind fun o_64 =>
      if o_64.1 ≠ 0 then
        (g_m_region_173 x5 o_64.2).bind fun o_79 =>
        let v_93 := o_79.2 143 32
        (g_m_commons 144 152 165 o_79.1 0 (w32 (5 * v_93)) o_79.2).bind fun o_97 =>
        let v_106 := o_97.2 143 32
        (g_m_region_173 x5 o_97.2).bind fun o_118 =>
        if 0 ≤ w32 (o_118.1 + 8) ∧ w32 (o_118.1 + 8) < 2740 then
        let v_124 := o_118.2 144 (w32 (o_118.1 + 8))
        if 0 ≤ w32 ((w32 (5 * v_106)) + 4) ∧ w32 ((w32 (5 * v_106)) + 4) < 3000 then
        let s_125 := zu o_118.2 165 (w32 ((w32 (5 * v_106)) + 4)) v_124
        let v_128 := s_125 143 32
        let s_133 := zu s_125 143 32 (w32 (v_128 + 1))
        g_m_probe_L136 ((g_m_probe_L39 n)) x5 s_133
        else none
        else none
      else
        g_m_probe_L136 ((g_m_probe_L39 n)) x5 o_64.2
set_option maxHeartbeats 4000000 in
theorem g_m_probe_L39_ok {xl : Nat} {xs : Nat → Int32} : ∀ (n : Nat) {X5 : Int32} {x5 : Int} {σ : zS} {p : Nat} {m : zM} {o : Int × zS}, X5.toInt = x5 → zRep xl xs p m σ → g_m_probe_L39 n x5 σ = some o → zGo xl xs (fun p' => p = p') 5 246 39 [(0, .ref 143), (5, .int X5)] [] m (vI o.1) o.2
  | 0, _, _, _, _, _, _, _, _, h => by cases h
  | n + 1, X5, x5, σ, p, m, o, hx5, H, h => by
    have hq : z_mth 246 = some z_r246 := rfl
    have ih := fun {X5 : Int32} {x5 : Int} {σ : zS} {p : Nat} {m : zM} {o : Int × zS} => g_m_probe_L39_ok (xl := xl) (xs := xs) n (X5 := X5) (x5 := x5) (σ := σ) (p := p) (m := m) (o := o)
    unfold g_m_probe_L39 at h
    refine r_p hq 2 (pc' := 42) (L' := [(0, .ref 143), (5, .int X5)]) (st' := [.ref 143, .int X5]) rfl ?_
    refine r_gR (b := 144) (pc' := 45) (L' := [(0, .ref 143), (5, .int X5)]) H hq (z_at.mk 3 rfl rfl) rfl rfl rfl rfl ?_
    refine r_p hq 1 (pc' := 46) (L' := [(0, .ref 143), (5, .int X5)]) (st' := [.int ((0 : Int32)), .ref 144, .int X5]) rfl ?_
    refine r_ia (pc' := 47) (L' := [(0, .ref 143), (5, .int X5)]) H hq (z_at.mk 1 rfl rfl) (show zAr 144 0 2740 = true from rfl) (rfl : (0 : Int32).toInt = 0) ⟨by decide, by decide⟩ rfl rfl ?_
    intro V_46 hV_46
    rcases z_ite h with ⟨c_47, h⟩ | ⟨c_47, h⟩
    · refine r_t2 (pc' := 142) (L' := [(0, .ref 143), (5, .int X5)]) hq (z_at.mk 3 rfl rfl) rfl hx5 hV_46 c_47 rfl rfl ?_
      refine r_p hq 2 (pc' := 145) (L' := [(0, .ref 143), (5, .int ((0 : Int32)))]) (st' := []) rfl ?_
      exact g_m_probe_L145_ok zK (rfl : (0 : Int32).toInt = 0) H h
    · refine r_f2 (pc' := 50) (L' := [(0, .ref 143), (5, .int X5)]) hq (z_at.mk 3 rfl rfl) rfl hx5 hV_46 c_47 rfl rfl ?_
      refine r_p hq 1 (pc' := 51) (L' := [(0, .ref 143), (5, .int X5)]) (st' := [.ref 143]) rfl ?_
      refine r_gR (b := 144) (pc' := 54) (L' := [(0, .ref 143), (5, .int X5)]) H hq (z_at.mk 3 rfl rfl) rfl rfl rfl rfl ?_
      refine r_p hq 1 (pc' := 56) (L' := [(0, .ref 143), (5, .int X5)]) (st' := [.int X5, .ref 144]) rfl ?_
      obtain ⟨o_56, h_56, h⟩ := Option.bind_eq_some_iff.mp h
      refine r_csI (pc' := 59) (L' := [(0, .ref 143), (5, .int X5)]) (As := [.int X5]) (rest := [.ref 144]) (j := 173) hq (z_at.mk 3 rfl rfl) (Or.inl ⟨rfl, rfl⟩) rfl rfl (by omega) (g_m_region_173_ok hx5 H h_56) rfl rfl ?_
      intro R_56 m_56 p_56 e_56 hR_56 H_56
      subst e_56
      refine r_p hq 1 (pc' := 60) (L' := [(0, .ref 143), (5, .int X5)]) (st' := [.ref 143, .int R_56, .ref 144]) rfl ?_
      refine r_gR (b := 152) (pc' := 63) (L' := [(0, .ref 143), (5, .int X5)]) H_56 hq (z_at.mk 3 rfl rfl) rfl rfl rfl rfl ?_
      refine r_p hq 1 (pc' := 64) (L' := [(0, .ref 143), (5, .int X5)]) (st' := [.int ((0 : Int32)), .ref 152, .int R_56, .ref 144]) rfl ?_
      obtain ⟨o_64, h_64, h⟩ := Option.bind_eq_some_iff.mp h
      refine r_csI (pc' := 67) (L' := [(0, .ref 143), (5, .int X5)]) (As := [.ref 144, .int R_56, .ref 152, .int ((0 : Int32))]) (rest := []) (j := 169) hq (z_at.mk 3 rfl rfl) (Or.inl ⟨rfl, rfl⟩) rfl rfl (by omega) (g_m_doMeet_ok rfl rfl hR_56 (rfl : (0 : Int32).toInt = 0) H_56 h_64) rfl rfl ?_
      intro R_64 m_64 p_64 e_64 hR_64 H_64
      subst e_64
      rcases z_ite h with ⟨c_67, h⟩ | ⟨c_67, h⟩
      · refine r_t1 (pc' := 73) (L' := [(0, .ref 143), (5, .int X5)]) hq (z_at.mk 3 rfl rfl) rfl hR_64 c_67 rfl rfl ?_
        refine r_p hq 1 (pc' := 74) (L' := [(0, .ref 143), (5, .int X5)]) (st' := [.ref 143]) rfl ?_
        refine r_gR (b := 144) (pc' := 77) (L' := [(0, .ref 143), (5, .int X5)]) H_64 hq (z_at.mk 3 rfl rfl) rfl rfl rfl rfl ?_
        refine r_p hq 1 (pc' := 79) (L' := [(0, .ref 143), (5, .int X5)]) (st' := [.int X5, .ref 144]) rfl ?_
        obtain ⟨o_79, h_79, h⟩ := Option.bind_eq_some_iff.mp h
        refine r_csI (pc' := 82) (L' := [(0, .ref 143), (5, .int X5)]) (As := [.int X5]) (rest := [.ref 144]) (j := 173) hq (z_at.mk 3 rfl rfl) (Or.inl ⟨rfl, rfl⟩) rfl rfl (by omega) (g_m_region_173_ok hx5 H_64 h_79) rfl rfl ?_
        intro R_79 m_79 p_79 e_79 hR_79 H_79
        subst e_79
        refine r_p hq 1 (pc' := 83) (L' := [(0, .ref 143), (5, .int X5)]) (st' := [.ref 143, .int R_79, .ref 144]) rfl ?_
        refine r_gR (b := 152) (pc' := 86) (L' := [(0, .ref 143), (5, .int X5)]) H_79 hq (z_at.mk 3 rfl rfl) rfl rfl rfl rfl ?_
        refine r_p hq 2 (pc' := 88) (L' := [(0, .ref 143), (5, .int X5)]) (st' := [.ref 143, .int ((0 : Int32)), .ref 152, .int R_79, .ref 144]) rfl ?_
        refine r_gR (b := 165) (pc' := 91) (L' := [(0, .ref 143), (5, .int X5)]) H_79 hq (z_at.mk 3 rfl rfl) rfl rfl rfl rfl ?_
        refine r_p hq 2 (pc' := 93) (L' := [(0, .ref 143), (5, .int X5)]) (st' := [.ref 143, .int ((5 : Int32)), .ref 165, .int ((0 : Int32)), .ref 152, .int R_79, .ref 144]) rfl ?_
        refine r_gI (pc' := 96) (L' := [(0, .ref 143), (5, .int X5)]) H_79 hq (z_at.mk 3 rfl rfl) rfl rfl rfl rfl ?_
        intro V_93 hV_93
        refine r_p hq 1 (pc' := 97) (L' := [(0, .ref 143), (5, .int X5)]) (st' := [.int (((5 : Int32)) * V_93), .ref 165, .int ((0 : Int32)), .ref 152, .int R_79, .ref 144]) rfl ?_
        obtain ⟨o_97, h_97, h⟩ := Option.bind_eq_some_iff.mp h
        refine r_csV (pc' := 100) (L' := [(0, .ref 143), (5, .int X5)]) (As := [.ref 144, .int R_79, .ref 152, .int ((0 : Int32)), .ref 165, .int (((5 : Int32)) * V_93)]) (rest := []) (j := 170) hq (z_at.mk 3 rfl rfl) (Or.inl ⟨rfl, rfl⟩) rfl rfl (by omega) (g_m_commons_ok rfl rfl rfl hR_79 (rfl : (0 : Int32).toInt = 0) (tx_imul (rfl : (5 : Int32).toInt = 5) hV_93) H_79 h_97) rfl rfl ?_
        intro m_97 p_97 e_97 H_97
        subst e_97
        refine r_p hq 1 (pc' := 101) (L' := [(0, .ref 143), (5, .int X5)]) (st' := [.ref 143]) rfl ?_
        refine r_gR (b := 165) (pc' := 104) (L' := [(0, .ref 143), (5, .int X5)]) H_97 hq (z_at.mk 3 rfl rfl) rfl rfl rfl rfl ?_
        refine r_p hq 2 (pc' := 106) (L' := [(0, .ref 143), (5, .int X5)]) (st' := [.ref 143, .int ((5 : Int32)), .ref 165]) rfl ?_
        refine r_gI (pc' := 109) (L' := [(0, .ref 143), (5, .int X5)]) H_97 hq (z_at.mk 3 rfl rfl) rfl rfl rfl rfl ?_
        intro V_106 hV_106
        refine r_p hq 4 (pc' := 113) (L' := [(0, .ref 143), (5, .int X5)]) (st' := [.ref 143, .int ((((5 : Int32)) * V_106) + ((4 : Int32))), .ref 165]) rfl ?_
        refine r_gR (b := 144) (pc' := 116) (L' := [(0, .ref 143), (5, .int X5)]) H_97 hq (z_at.mk 3 rfl rfl) rfl rfl rfl rfl ?_
        refine r_p hq 1 (pc' := 118) (L' := [(0, .ref 143), (5, .int X5)]) (st' := [.int X5, .ref 144, .int ((((5 : Int32)) * V_106) + ((4 : Int32))), .ref 165]) rfl ?_
        obtain ⟨o_118, h_118, h⟩ := Option.bind_eq_some_iff.mp h
        refine r_csI (pc' := 121) (L' := [(0, .ref 143), (5, .int X5)]) (As := [.int X5]) (rest := [.ref 144, .int ((((5 : Int32)) * V_106) + ((4 : Int32))), .ref 165]) (j := 173) hq (z_at.mk 3 rfl rfl) (Or.inl ⟨rfl, rfl⟩) rfl rfl (by omega) (g_m_region_173_ok hx5 H_97 h_118) rfl rfl ?_
        intro R_118 m_118 p_118 e_118 hR_118 H_118
        subst e_118
        refine r_p hq 2 (pc' := 124) (L' := [(0, .ref 143), (5, .int X5)]) (st' := [.int (R_118 + ((8 : Int32))), .ref 144, .int ((((5 : Int32)) * V_106) + ((4 : Int32))), .ref 165]) rfl ?_
        obtain ⟨g_124, h⟩ := z_ifo_some h
        refine r_ia (pc' := 125) (L' := [(0, .ref 143), (5, .int X5)]) H_118 hq (z_at.mk 1 rfl rfl) (show zAr 144 0 2740 = true from rfl) (tx_iadd hR_118 (rfl : (8 : Int32).toInt = 8)) g_124 rfl rfl ?_
        intro V_124 hV_124
        obtain ⟨g_125, h⟩ := z_ifo_some h
        refine r_is (pc' := 126) (L' := [(0, .ref 143), (5, .int X5)]) H_118 hq (z_at.mk 1 rfl rfl) (show zAr 165 0 3000 = true from rfl) (tx_iadd (tx_imul (rfl : (5 : Int32).toInt = 5) hV_106) (rfl : (4 : Int32).toInt = 4)) g_125 hV_124 rfl rfl ?_
        intro m_125 H_125
        refine r_p hq 2 (pc' := 128) (L' := [(0, .ref 143), (5, .int X5)]) (st' := [.ref 143, .ref 143]) rfl ?_
        refine r_gI (pc' := 131) (L' := [(0, .ref 143), (5, .int X5)]) H_125 hq (z_at.mk 3 rfl rfl) rfl rfl rfl rfl ?_
        intro V_128 hV_128
        refine r_p hq 2 (pc' := 133) (L' := [(0, .ref 143), (5, .int X5)]) (st' := [.int (V_128 + ((1 : Int32))), .ref 143]) rfl ?_
        refine r_pI (X := V_128 + ((1 : Int32))) (pc' := 136) (L' := [(0, .ref 143), (5, .int X5)]) H_125 hq (z_at.mk 3 rfl rfl) rfl rfl (tx_iadd hV_128 (rfl : (1 : Int32).toInt = 1)) (by decide) rfl rfl rfl rfl ?_
        intro m_133 H_133
        exact g_m_probe_L136_ok ih hx5 H_133 h
      · refine r_f1 (pc' := 70) (L' := [(0, .ref 143), (5, .int X5)]) hq (z_at.mk 3 rfl rfl) rfl hR_64 c_67 rfl rfl ?_
        refine r_p hq 1 (pc' := 136) (L' := [(0, .ref 143), (5, .int X5)]) (st' := []) rfl ?_
        exact g_m_probe_L136_ok ih hx5 H_64 h
def g_m_probe (x1 : Int) (x2 : Int) (x3 : Int) (x4 : Int) (σ : zS) : Option (Int × zS) :=
  (g_m_isBox x1 x2 x3 x4 σ).bind fun o_5 =>
  if o_5.1 ≠ 0 then
    (g_m_sets 152 0 x1 x2 x3 x4 o_5.2).bind fun o_24 =>
    (g_m_misses o_24.2).bind fun o_28 =>
    let s_33 := zu o_28.2 143 32 0
    g_m_probe_L39 zK 0 s_33
  else
    some (-2, o_5.2)
set_option maxHeartbeats 4000000 in
theorem g_m_probe_ok {xl : Nat} {xs : Nat → Int32} {X1 : Int32} {x1 : Int} (hx1 : X1.toInt = x1) {X2 : Int32} {x2 : Int} (hx2 : X2.toInt = x2) {X3 : Int32} {x3 : Int} (hx3 : X3.toInt = x3) {X4 : Int32} {x4 : Int} (hx4 : X4.toInt = x4) {σ : zS} {p : Nat} {m : zM} {o : Int × zS} (H : zRep xl xs p m σ) (h : g_m_probe x1 x2 x3 x4 σ = some o) : zGo xl xs (fun p' => p = p') 5 246 0 (z_can 246 0 (lv_args 0 [.ref 143, .int X1, .int X2, .int X3, .int X4])) [] m (vI o.1) o.2 := by
  have hq : z_mth 246 = some z_r246 := rfl
  unfold g_m_probe at h
  show zGo xl xs (fun p' => p = p') 5 246 0 [(0, .ref 143), (1, .int X1), (2, .int X2), (3, .int X3), (4, .int X4)] [] m (vI o.1) o.2
  refine r_p hq 4 (pc' := 5) (L' := [(0, .ref 143), (1, .int X1), (2, .int X2), (3, .int X3), (4, .int X4)]) (st' := [.int X4, .int X3, .int X2, .int X1]) rfl ?_
  obtain ⟨o_5, h_5, h⟩ := Option.bind_eq_some_iff.mp h
  refine r_csI (pc' := 8) (L' := [(0, .ref 143), (1, .int X1), (2, .int X2), (3, .int X3), (4, .int X4)]) (As := [.int X1, .int X2, .int X3, .int X4]) (rest := []) (j := 164) hq (z_at.mk 3 rfl rfl) (Or.inl ⟨rfl, rfl⟩) rfl rfl (by omega) (g_m_isBox_ok hx1 hx2 hx3 hx4 H h_5) rfl rfl ?_
  intro R_5 m_5 p_5 e_5 hR_5 H_5
  subst e_5
  rcases z_ite h with ⟨c_8, h⟩ | ⟨c_8, h⟩
  · refine r_t1 (pc' := 14) (L' := [(0, .ref 143), (1, .int X1), (2, .int X2), (3, .int X3), (4, .int X4)]) hq (z_at.mk 3 rfl rfl) rfl hR_5 c_8 rfl rfl ?_
    refine r_p hq 1 (pc' := 15) (L' := [(0, .ref 143), (1, .int X1), (2, .int X2), (3, .int X3), (4, .int X4)]) (st' := [.ref 143]) rfl ?_
    refine r_gR (b := 152) (pc' := 18) (L' := [(0, .ref 143), (1, .int X1), (2, .int X2), (3, .int X3), (4, .int X4)]) H_5 hq (z_at.mk 3 rfl rfl) rfl rfl rfl rfl ?_
    refine r_p hq 5 (pc' := 24) (L' := [(0, .ref 143), (1, .int X1), (2, .int X2), (3, .int X3), (4, .int X4)]) (st' := [.int X4, .int X3, .int X2, .int X1, .int ((0 : Int32)), .ref 152]) rfl ?_
    obtain ⟨o_24, h_24, h⟩ := Option.bind_eq_some_iff.mp h
    refine r_csV (pc' := 27) (L' := [(0, .ref 143), (1, .int X1), (2, .int X2), (3, .int X3), (4, .int X4)]) (As := [.ref 152, .int ((0 : Int32)), .int X1, .int X2, .int X3, .int X4]) (rest := []) (j := 165) hq (z_at.mk 3 rfl rfl) (Or.inl ⟨rfl, rfl⟩) rfl rfl (by omega) (g_m_sets_ok rfl (rfl : (0 : Int32).toInt = 0) hx1 hx2 hx3 hx4 H_5 h_24) rfl rfl ?_
    intro m_24 p_24 e_24 H_24
    subst e_24
    refine r_p hq 1 (pc' := 28) (L' := [(0, .ref 143), (1, .int X1), (2, .int X2), (3, .int X3), (4, .int X4)]) (st' := [.ref 143]) rfl ?_
    obtain ⟨o_28, h_28, h⟩ := Option.bind_eq_some_iff.mp h
    refine r_cvV (pc' := 31) (L' := [(0, .ref 143), (1, .int X1), (2, .int X2), (3, .int X3), (4, .int X4)]) (Ps := []) (rest := []) hq (z_at.mk 3 rfl rfl) (Or.inl ⟨rfl, rfl⟩) rfl rfl (by decide) (by decide) rfl (Nat.not_lt.mpr (Nat.le_of_ble_eq_true rfl)) rfl rfl (z_cat_le 0 rfl (by decide)) (z_lgl_le 1 rfl (by decide)) (by decide) (H_24.tg rfl) (by omega) (g_m_misses_ok H_24 h_28) rfl rfl ?_
    intro m_28 p_28 e_28 H_28
    subst e_28
    refine r_p hq 2 (pc' := 33) (L' := [(0, .ref 143), (1, .int X1), (2, .int X2), (3, .int X3), (4, .int X4)]) (st' := [.int ((0 : Int32)), .ref 143]) rfl ?_
    refine r_pI (X := (0 : Int32)) (pc' := 36) (L' := [(0, .ref 143), (1, .int X1), (2, .int X2), (3, .int X3), (4, .int X4)]) H_28 hq (z_at.mk 3 rfl rfl) rfl rfl (rfl : (0 : Int32).toInt = 0) (by decide) rfl rfl rfl rfl ?_
    intro m_33 H_33
    refine r_p hq 2 (pc' := 39) (L' := [(0, .ref 143), (5, .int ((0 : Int32)))]) (st' := []) rfl ?_
    exact g_m_probe_L39_ok zK (rfl : (0 : Int32).toInt = 0) H_33 h
  · refine r_f1 (pc' := 11) (L' := [(0, .ref 143), (1, .int X1), (2, .int X2), (3, .int X3), (4, .int X4)]) hq (z_at.mk 3 rfl rfl) rfl hR_5 c_8 rfl rfl ?_
    refine r_p hq 1 (pc' := 13) (L' := [(0, .ref 143), (1, .int X1), (2, .int X2), (3, .int X3), (4, .int X4)]) (st' := [.int ((-2 : Int32))]) rfl ?_
    cases h
    exact r_ri hq (z_at.mk 1 rfl rfl) rfl rfl (rfl : (-2 : Int32).toInt = -2) rfl H_5
def g_m_piece (x1 : Int) (x2 : Int) (σ : zS) : Option (Int × zS) :=
  let v_3 := σ 143 32
  (g_m_isIn x1 0 (w32 (v_3 - 1)) σ).bind fun o_8 =>
  if o_8.1 = 0 then
    some (-1, o_8.2)
  else
    (g_m_isIn x2 0 4 o_8.2).bind fun o_17 =>
    if o_17.1 = 0 then
      some (-1, o_17.2)
    else
      if 0 ≤ w32 ((w32 (5 * x1)) + x2) ∧ w32 ((w32 (5 * x1)) + x2) < 3000 then
      let v_32 := o_17.2 165 (w32 ((w32 (5 * x1)) + x2))
      some (v_32, o_17.2)
      else none
set_option maxHeartbeats 4000000 in
theorem g_m_piece_ok {xl : Nat} {xs : Nat → Int32} {X1 : Int32} {x1 : Int} (hx1 : X1.toInt = x1) {X2 : Int32} {x2 : Int} (hx2 : X2.toInt = x2) {σ : zS} {p : Nat} {m : zM} {o : Int × zS} (H : zRep xl xs p m σ) (h : g_m_piece x1 x2 σ = some o) : zGo xl xs (fun p' => p = p') 2 247 0 (z_can 247 0 (lv_args 0 [.ref 143, .int X1, .int X2])) [] m (vI o.1) o.2 := by
  have hq : z_mth 247 = some z_r247 := rfl
  unfold g_m_piece at h
  show zGo xl xs (fun p' => p = p') 2 247 0 [(0, .ref 143), (1, .int X1), (2, .int X2)] [] m (vI o.1) o.2
  refine r_p hq 3 (pc' := 3) (L' := [(0, .ref 143), (1, .int X1), (2, .int X2)]) (st' := [.ref 143, .int ((0 : Int32)), .int X1]) rfl ?_
  refine r_gI (pc' := 6) (L' := [(0, .ref 143), (1, .int X1), (2, .int X2)]) H hq (z_at.mk 3 rfl rfl) rfl rfl rfl rfl ?_
  intro V_3 hV_3
  refine r_p hq 2 (pc' := 8) (L' := [(0, .ref 143), (1, .int X1), (2, .int X2)]) (st' := [.int (V_3 - ((1 : Int32))), .int ((0 : Int32)), .int X1]) rfl ?_
  obtain ⟨o_8, h_8, h⟩ := Option.bind_eq_some_iff.mp h
  refine r_csI (pc' := 11) (L' := [(0, .ref 143), (1, .int X1), (2, .int X2)]) (As := [.int X1, .int ((0 : Int32)), .int (V_3 - ((1 : Int32)))]) (rest := []) (j := 159) hq (z_at.mk 3 rfl rfl) (Or.inl ⟨rfl, rfl⟩) rfl rfl (by omega) (g_m_isIn_ok hx1 (rfl : (0 : Int32).toInt = 0) (tx_isub hV_3 (rfl : (1 : Int32).toInt = 1)) H h_8) rfl rfl ?_
  intro R_8 m_8 p_8 e_8 hR_8 H_8
  subst e_8
  rcases z_ite h with ⟨c_11, h⟩ | ⟨c_11, h⟩
  · refine r_t1 (pc' := 36) (L' := []) hq (z_at.mk 3 rfl rfl) rfl hR_8 c_11 rfl rfl ?_
    refine r_p hq 1 (pc' := 37) (L' := []) (st' := [.int ((-1 : Int32))]) rfl ?_
    cases h
    exact r_ri hq (z_at.mk 1 rfl rfl) rfl rfl (rfl : (-1 : Int32).toInt = -1) rfl H_8
  · refine r_f1 (pc' := 14) (L' := [(0, .ref 143), (1, .int X1), (2, .int X2)]) hq (z_at.mk 3 rfl rfl) rfl hR_8 c_11 rfl rfl ?_
    refine r_p hq 3 (pc' := 17) (L' := [(0, .ref 143), (1, .int X1), (2, .int X2)]) (st' := [.int ((4 : Int32)), .int ((0 : Int32)), .int X2]) rfl ?_
    obtain ⟨o_17, h_17, h⟩ := Option.bind_eq_some_iff.mp h
    refine r_csI (pc' := 20) (L' := [(0, .ref 143), (1, .int X1), (2, .int X2)]) (As := [.int X2, .int ((0 : Int32)), .int ((4 : Int32))]) (rest := []) (j := 159) hq (z_at.mk 3 rfl rfl) (Or.inl ⟨rfl, rfl⟩) rfl rfl (by omega) (g_m_isIn_ok hx2 (rfl : (0 : Int32).toInt = 0) (rfl : (4 : Int32).toInt = 4) H_8 h_17) rfl rfl ?_
    intro R_17 m_17 p_17 e_17 hR_17 H_17
    subst e_17
    rcases z_ite h with ⟨c_20, h⟩ | ⟨c_20, h⟩
    · refine r_t1 (pc' := 36) (L' := []) hq (z_at.mk 3 rfl rfl) rfl hR_17 c_20 rfl rfl ?_
      refine r_p hq 1 (pc' := 37) (L' := []) (st' := [.int ((-1 : Int32))]) rfl ?_
      cases h
      exact r_ri hq (z_at.mk 1 rfl rfl) rfl rfl (rfl : (-1 : Int32).toInt = -1) rfl H_17
    · refine r_f1 (pc' := 23) (L' := [(0, .ref 143), (1, .int X1), (2, .int X2)]) hq (z_at.mk 3 rfl rfl) rfl hR_17 c_20 rfl rfl ?_
      refine r_p hq 1 (pc' := 24) (L' := [(0, .ref 143), (1, .int X1), (2, .int X2)]) (st' := [.ref 143]) rfl ?_
      refine r_gR (b := 165) (pc' := 27) (L' := [(0, .ref 143), (1, .int X1), (2, .int X2)]) H_17 hq (z_at.mk 3 rfl rfl) rfl rfl rfl rfl ?_
      refine r_p hq 5 (pc' := 32) (L' := [(0, .ref 143), (1, .int X1), (2, .int X2)]) (st' := [.int ((((5 : Int32)) * X1) + X2), .ref 165]) rfl ?_
      obtain ⟨g_32, h⟩ := z_ifo_some h
      refine r_ia (pc' := 33) (L' := [(0, .ref 143), (1, .int X1), (2, .int X2)]) H_17 hq (z_at.mk 1 rfl rfl) (show zAr 165 0 3000 = true from rfl) (tx_iadd (tx_imul (rfl : (5 : Int32).toInt = 5) hx1) hx2) g_32 rfl rfl ?_
      intro V_32 hV_32
      refine r_p hq 1 (pc' := 37) (L' := []) (st' := [.int V_32]) rfl ?_
      cases h
      exact r_ri hq (z_at.mk 1 rfl rfl) rfl rfl hV_32 rfl H_17
def g_m_region_248 (x1 : Int) (x2 : Int) (σ : zS) : Option (Int × zS) :=
  let v_7 := σ 144 0
  (g_m_isIn x1 0 (w32 (v_7 - 1)) σ).bind fun o_10 =>
  if o_10.1 = 0 then
    some (-1, o_10.2)
  else
    (g_m_isIn x2 0 11 o_10.2).bind fun o_20 =>
    if o_20.1 ≠ 0 then
      (g_m_region_173 x1 o_20.2).bind fun o_29 =>
      if 4 ≤ x2 then
        if x2 ≠ 4 then
          if x2 ≠ 5 then
            if 10 ≤ x2 then
              if x2 ≠ 10 then
                (g_m_cost 144 o_29.1 o_29.2).bind fun o_125 =>
                some (o_125.1, o_125.2)
              else
                (g_m_size x1 o_29.2).bind fun o_113 =>
                some (o_113.1, o_113.2)
            else
              if 0 ≤ w32 ((w32 ((w32 (o_29.1 + 4)) + x2)) - 6) ∧ w32 ((w32 ((w32 (o_29.1 + 4)) + x2)) - 6) < 2740 then
              let v_101 := o_29.2 144 (w32 ((w32 ((w32 (o_29.1 + 4)) + x2)) - 6))
              some (v_101, o_29.2)
              else none
          else
            if 0 ≤ w32 (o_29.1 + 9) ∧ w32 (o_29.1 + 9) < 2740 then
            let v_79 := o_29.2 144 (w32 (o_29.1 + 9))
            some (v_79, o_29.2)
            else none
        else
          if 0 ≤ w32 (o_29.1 + 8) ∧ w32 (o_29.1 + 8) < 2740 then
          let v_62 := o_29.2 144 (w32 (o_29.1 + 8))
          some (v_62, o_29.2)
          else none
      else
        if 0 ≤ w32 (o_29.1 + x2) ∧ w32 (o_29.1 + x2) < 2740 then
        let v_45 := o_29.2 144 (w32 (o_29.1 + x2))
        some (v_45, o_29.2)
        else none
    else
      some (-1, o_20.2)
set_option maxHeartbeats 4000000 in
theorem g_m_region_248_ok {xl : Nat} {xs : Nat → Int32} {X1 : Int32} {x1 : Int} (hx1 : X1.toInt = x1) {X2 : Int32} {x2 : Int} (hx2 : X2.toInt = x2) {σ : zS} {p : Nat} {m : zM} {o : Int × zS} (H : zRep xl xs p m σ) (h : g_m_region_248 x1 x2 σ = some o) : zGo xl xs (fun p' => p = p') 5 248 0 (z_can 248 0 (lv_args 0 [.ref 143, .int X1, .int X2])) [] m (vI o.1) o.2 := by
  have hq : z_mth 248 = some z_r248 := rfl
  unfold g_m_region_248 at h
  show zGo xl xs (fun p' => p = p') 5 248 0 [(0, .ref 143), (1, .int X1), (2, .int X2)] [] m (vI o.1) o.2
  refine r_p hq 3 (pc' := 3) (L' := [(0, .ref 143), (1, .int X1), (2, .int X2)]) (st' := [.ref 143, .int ((0 : Int32)), .int X1]) rfl ?_
  refine r_gR (b := 144) (pc' := 6) (L' := [(0, .ref 143), (1, .int X1), (2, .int X2)]) H hq (z_at.mk 3 rfl rfl) rfl rfl rfl rfl ?_
  refine r_p hq 1 (pc' := 7) (L' := [(0, .ref 143), (1, .int X1), (2, .int X2)]) (st' := [.int ((0 : Int32)), .ref 144, .int ((0 : Int32)), .int X1]) rfl ?_
  refine r_ia (pc' := 8) (L' := [(0, .ref 143), (1, .int X1), (2, .int X2)]) H hq (z_at.mk 1 rfl rfl) (show zAr 144 0 2740 = true from rfl) (rfl : (0 : Int32).toInt = 0) ⟨by decide, by decide⟩ rfl rfl ?_
  intro V_7 hV_7
  refine r_p hq 2 (pc' := 10) (L' := [(0, .ref 143), (1, .int X1), (2, .int X2)]) (st' := [.int (V_7 - ((1 : Int32))), .int ((0 : Int32)), .int X1]) rfl ?_
  obtain ⟨o_10, h_10, h⟩ := Option.bind_eq_some_iff.mp h
  refine r_csI (pc' := 13) (L' := [(0, .ref 143), (1, .int X1), (2, .int X2)]) (As := [.int X1, .int ((0 : Int32)), .int (V_7 - ((1 : Int32)))]) (rest := []) (j := 159) hq (z_at.mk 3 rfl rfl) (Or.inl ⟨rfl, rfl⟩) rfl rfl (by omega) (g_m_isIn_ok hx1 (rfl : (0 : Int32).toInt = 0) (tx_isub hV_7 (rfl : (1 : Int32).toInt = 1)) H h_10) rfl rfl ?_
  intro R_10 m_10 p_10 e_10 hR_10 H_10
  subst e_10
  rcases z_ite h with ⟨c_13, h⟩ | ⟨c_13, h⟩
  · refine r_t1 (pc' := 26) (L' := []) hq (z_at.mk 3 rfl rfl) rfl hR_10 c_13 rfl rfl ?_
    refine r_p hq 1 (pc' := 27) (L' := []) (st' := [.int ((-1 : Int32))]) rfl ?_
    cases h
    exact r_ri hq (z_at.mk 1 rfl rfl) rfl rfl (rfl : (-1 : Int32).toInt = -1) rfl H_10
  · refine r_f1 (pc' := 16) (L' := [(0, .ref 143), (1, .int X1), (2, .int X2)]) hq (z_at.mk 3 rfl rfl) rfl hR_10 c_13 rfl rfl ?_
    refine r_p hq 3 (pc' := 20) (L' := [(0, .ref 143), (1, .int X1), (2, .int X2)]) (st' := [.int ((11 : Int32)), .int ((0 : Int32)), .int X2]) rfl ?_
    obtain ⟨o_20, h_20, h⟩ := Option.bind_eq_some_iff.mp h
    refine r_csI (pc' := 23) (L' := [(0, .ref 143), (1, .int X1), (2, .int X2)]) (As := [.int X2, .int ((0 : Int32)), .int ((11 : Int32))]) (rest := []) (j := 159) hq (z_at.mk 3 rfl rfl) (Or.inl ⟨rfl, rfl⟩) rfl rfl (by omega) (g_m_isIn_ok hx2 (rfl : (0 : Int32).toInt = 0) (rfl : (11 : Int32).toInt = 11) H_10 h_20) rfl rfl ?_
    intro R_20 m_20 p_20 e_20 hR_20 H_20
    subst e_20
    rcases z_ite h with ⟨c_23, h⟩ | ⟨c_23, h⟩
    · refine r_t1 (pc' := 28) (L' := [(0, .ref 143), (1, .int X1), (2, .int X2)]) hq (z_at.mk 3 rfl rfl) rfl hR_20 c_23 rfl rfl ?_
      refine r_p hq 1 (pc' := 29) (L' := [(0, .ref 143), (1, .int X1), (2, .int X2)]) (st' := [.int X1]) rfl ?_
      obtain ⟨o_29, h_29, h⟩ := Option.bind_eq_some_iff.mp h
      refine r_csI (pc' := 32) (L' := [(0, .ref 143), (1, .int X1), (2, .int X2)]) (As := [.int X1]) (rest := []) (j := 173) hq (z_at.mk 3 rfl rfl) (Or.inl ⟨rfl, rfl⟩) rfl rfl (by omega) (g_m_region_173_ok hx1 H_20 h_29) rfl rfl ?_
      intro R_29 m_29 p_29 e_29 hR_29 H_29
      subst e_29
      refine r_p hq 3 (pc' := 35) (L' := [(3, .int R_29), (0, .ref 143), (1, .int X1), (2, .int X2)]) (st' := [.int ((4 : Int32)), .int X2]) rfl ?_
      rcases z_ite h with ⟨c_35, h⟩ | ⟨c_35, h⟩
      · refine r_t2 (pc' := 49) (L' := [(3, .int R_29), (0, .ref 143), (1, .int X1), (2, .int X2)]) hq (z_at.mk 3 rfl rfl) rfl hx2 (rfl : (4 : Int32).toInt = 4) c_35 rfl rfl ?_
        refine r_p hq 2 (pc' := 51) (L' := [(3, .int R_29), (0, .ref 143), (1, .int X1), (2, .int X2)]) (st' := [.int ((4 : Int32)), .int X2]) rfl ?_
        rcases z_ite h with ⟨c_51, h⟩ | ⟨c_51, h⟩
        · refine r_t2 (pc' := 66) (L' := [(3, .int R_29), (0, .ref 143), (1, .int X1), (2, .int X2)]) hq (z_at.mk 3 rfl rfl) rfl hx2 (rfl : (4 : Int32).toInt = 4) c_51 rfl rfl ?_
          refine r_p hq 2 (pc' := 68) (L' := [(3, .int R_29), (0, .ref 143), (1, .int X1), (2, .int X2)]) (st' := [.int ((5 : Int32)), .int X2]) rfl ?_
          rcases z_ite h with ⟨c_68, h⟩ | ⟨c_68, h⟩
          · refine r_t2 (pc' := 83) (L' := [(3, .int R_29), (0, .ref 143), (1, .int X1), (2, .int X2)]) hq (z_at.mk 3 rfl rfl) rfl hx2 (rfl : (5 : Int32).toInt = 5) c_68 rfl rfl ?_
            refine r_p hq 2 (pc' := 86) (L' := [(3, .int R_29), (0, .ref 143), (1, .int X1), (2, .int X2)]) (st' := [.int ((10 : Int32)), .int X2]) rfl ?_
            rcases z_ite h with ⟨c_86, h⟩ | ⟨c_86, h⟩
            · refine r_t2 (pc' := 105) (L' := [(3, .int R_29), (0, .ref 143), (1, .int X1), (2, .int X2)]) hq (z_at.mk 3 rfl rfl) rfl hx2 (rfl : (10 : Int32).toInt = 10) c_86 rfl rfl ?_
              refine r_p hq 2 (pc' := 108) (L' := [(3, .int R_29), (0, .ref 143), (1, .int X1), (2, .int X2)]) (st' := [.int ((10 : Int32)), .int X2]) rfl ?_
              rcases z_ite h with ⟨c_108, h⟩ | ⟨c_108, h⟩
              · refine r_t2 (pc' := 119) (L' := [(3, .int R_29), (0, .ref 143), (1, .int X1), (2, .int X2)]) hq (z_at.mk 3 rfl rfl) rfl hx2 (rfl : (10 : Int32).toInt = 10) c_108 rfl rfl ?_
                refine r_p hq 2 (pc' := 121) (L' := [(3, .int R_29), (0, .ref 143), (1, .int X1), (2, .int X2)]) (st' := [.ref 143, .ref 143]) rfl ?_
                refine r_gR (b := 144) (pc' := 124) (L' := [(3, .int R_29), (0, .ref 143), (1, .int X1), (2, .int X2)]) H_29 hq (z_at.mk 3 rfl rfl) rfl rfl rfl rfl ?_
                refine r_p hq 1 (pc' := 125) (L' := [(3, .int R_29), (0, .ref 143), (1, .int X1), (2, .int X2)]) (st' := [.int R_29, .ref 144, .ref 143]) rfl ?_
                obtain ⟨o_125, h_125, h⟩ := Option.bind_eq_some_iff.mp h
                refine r_cvI (pc' := 128) (L' := []) (Ps := [.ref 144, .int R_29]) (rest := []) hq (z_at.mk 3 rfl rfl) (Or.inl ⟨rfl, rfl⟩) rfl rfl (by decide) (by decide) rfl (Nat.not_lt.mpr (Nat.le_of_ble_eq_true rfl)) rfl rfl (z_cat_le 0 rfl (by decide)) (z_lgl_le 3 rfl (by decide)) (by decide) (H_29.tg rfl) (by omega) (g_m_cost_ok rfl hR_29 H_29 h_125) rfl rfl ?_
                intro R_125 m_125 p_125 e_125 hR_125 H_125
                subst e_125
                cases h
                exact r_ri hq (z_at.mk 1 rfl rfl) rfl rfl hR_125 rfl H_125
              · refine r_f2 (pc' := 111) (L' := [(3, .int R_29), (0, .ref 143), (1, .int X1), (2, .int X2)]) hq (z_at.mk 3 rfl rfl) rfl hx2 (rfl : (10 : Int32).toInt = 10) c_108 rfl rfl ?_
                refine r_p hq 2 (pc' := 113) (L' := [(3, .int R_29), (0, .ref 143), (1, .int X1), (2, .int X2)]) (st' := [.int X1, .ref 143]) rfl ?_
                obtain ⟨o_113, h_113, h⟩ := Option.bind_eq_some_iff.mp h
                refine r_cvI (pc' := 116) (L' := [(3, .int R_29), (0, .ref 143), (1, .int X1), (2, .int X2)]) (Ps := [.int X1]) (rest := []) hq (z_at.mk 3 rfl rfl) (Or.inl ⟨rfl, rfl⟩) rfl rfl (by decide) (by decide) rfl (Nat.not_lt.mpr (Nat.le_of_ble_eq_true rfl)) rfl rfl (z_cat_le 0 rfl (by decide)) (z_lgl_le 2 rfl (by decide)) (by decide) (H_29.tg rfl) (by omega) (g_m_size_ok hx1 H_29 h_113) rfl rfl ?_
                intro R_113 m_113 p_113 e_113 hR_113 H_113
                subst e_113
                refine r_p hq 1 (pc' := 128) (L' := []) (st' := [.int R_113]) rfl ?_
                cases h
                exact r_ri hq (z_at.mk 1 rfl rfl) rfl rfl hR_113 rfl H_113
            · refine r_f2 (pc' := 89) (L' := [(3, .int R_29), (0, .ref 143), (1, .int X1), (2, .int X2)]) hq (z_at.mk 3 rfl rfl) rfl hx2 (rfl : (10 : Int32).toInt = 10) c_86 rfl rfl ?_
              refine r_p hq 1 (pc' := 90) (L' := [(3, .int R_29), (0, .ref 143), (1, .int X1), (2, .int X2)]) (st' := [.ref 143]) rfl ?_
              refine r_gR (b := 144) (pc' := 93) (L' := [(3, .int R_29), (0, .ref 143), (1, .int X1), (2, .int X2)]) H_29 hq (z_at.mk 3 rfl rfl) rfl rfl rfl rfl ?_
              refine r_p hq 7 (pc' := 101) (L' := [(3, .int R_29), (0, .ref 143), (1, .int X1), (2, .int X2)]) (st' := [.int (((R_29 + ((4 : Int32))) + X2) - ((6 : Int32))), .ref 144]) rfl ?_
              obtain ⟨g_101, h⟩ := z_ifo_some h
              refine r_ia (pc' := 102) (L' := [(3, .int R_29), (0, .ref 143), (1, .int X1), (2, .int X2)]) H_29 hq (z_at.mk 1 rfl rfl) (show zAr 144 0 2740 = true from rfl) (tx_isub (tx_iadd (tx_iadd hR_29 (rfl : (4 : Int32).toInt = 4)) hx2) (rfl : (6 : Int32).toInt = 6)) g_101 rfl rfl ?_
              intro V_101 hV_101
              refine r_p hq 1 (pc' := 128) (L' := []) (st' := [.int V_101]) rfl ?_
              cases h
              exact r_ri hq (z_at.mk 1 rfl rfl) rfl rfl hV_101 rfl H_29
          · refine r_f2 (pc' := 71) (L' := [(3, .int R_29), (0, .ref 143), (1, .int X1), (2, .int X2)]) hq (z_at.mk 3 rfl rfl) rfl hx2 (rfl : (5 : Int32).toInt = 5) c_68 rfl rfl ?_
            refine r_p hq 1 (pc' := 72) (L' := [(3, .int R_29), (0, .ref 143), (1, .int X1), (2, .int X2)]) (st' := [.ref 143]) rfl ?_
            refine r_gR (b := 144) (pc' := 75) (L' := [(3, .int R_29), (0, .ref 143), (1, .int X1), (2, .int X2)]) H_29 hq (z_at.mk 3 rfl rfl) rfl rfl rfl rfl ?_
            refine r_p hq 3 (pc' := 79) (L' := [(3, .int R_29), (0, .ref 143), (1, .int X1), (2, .int X2)]) (st' := [.int (R_29 + ((9 : Int32))), .ref 144]) rfl ?_
            obtain ⟨g_79, h⟩ := z_ifo_some h
            refine r_ia (pc' := 80) (L' := [(3, .int R_29), (0, .ref 143), (1, .int X1), (2, .int X2)]) H_29 hq (z_at.mk 1 rfl rfl) (show zAr 144 0 2740 = true from rfl) (tx_iadd hR_29 (rfl : (9 : Int32).toInt = 9)) g_79 rfl rfl ?_
            intro V_79 hV_79
            refine r_p hq 1 (pc' := 128) (L' := []) (st' := [.int V_79]) rfl ?_
            cases h
            exact r_ri hq (z_at.mk 1 rfl rfl) rfl rfl hV_79 rfl H_29
        · refine r_f2 (pc' := 54) (L' := [(3, .int R_29), (0, .ref 143), (1, .int X1), (2, .int X2)]) hq (z_at.mk 3 rfl rfl) rfl hx2 (rfl : (4 : Int32).toInt = 4) c_51 rfl rfl ?_
          refine r_p hq 1 (pc' := 55) (L' := [(3, .int R_29), (0, .ref 143), (1, .int X1), (2, .int X2)]) (st' := [.ref 143]) rfl ?_
          refine r_gR (b := 144) (pc' := 58) (L' := [(3, .int R_29), (0, .ref 143), (1, .int X1), (2, .int X2)]) H_29 hq (z_at.mk 3 rfl rfl) rfl rfl rfl rfl ?_
          refine r_p hq 3 (pc' := 62) (L' := [(3, .int R_29), (0, .ref 143), (1, .int X1), (2, .int X2)]) (st' := [.int (R_29 + ((8 : Int32))), .ref 144]) rfl ?_
          obtain ⟨g_62, h⟩ := z_ifo_some h
          refine r_ia (pc' := 63) (L' := [(3, .int R_29), (0, .ref 143), (1, .int X1), (2, .int X2)]) H_29 hq (z_at.mk 1 rfl rfl) (show zAr 144 0 2740 = true from rfl) (tx_iadd hR_29 (rfl : (8 : Int32).toInt = 8)) g_62 rfl rfl ?_
          intro V_62 hV_62
          refine r_p hq 1 (pc' := 128) (L' := []) (st' := [.int V_62]) rfl ?_
          cases h
          exact r_ri hq (z_at.mk 1 rfl rfl) rfl rfl hV_62 rfl H_29
      · refine r_f2 (pc' := 38) (L' := [(3, .int R_29), (0, .ref 143), (1, .int X1), (2, .int X2)]) hq (z_at.mk 3 rfl rfl) rfl hx2 (rfl : (4 : Int32).toInt = 4) c_35 rfl rfl ?_
        refine r_p hq 1 (pc' := 39) (L' := [(3, .int R_29), (0, .ref 143), (1, .int X1), (2, .int X2)]) (st' := [.ref 143]) rfl ?_
        refine r_gR (b := 144) (pc' := 42) (L' := [(3, .int R_29), (0, .ref 143), (1, .int X1), (2, .int X2)]) H_29 hq (z_at.mk 3 rfl rfl) rfl rfl rfl rfl ?_
        refine r_p hq 3 (pc' := 45) (L' := [(3, .int R_29), (0, .ref 143), (1, .int X1), (2, .int X2)]) (st' := [.int (R_29 + X2), .ref 144]) rfl ?_
        obtain ⟨g_45, h⟩ := z_ifo_some h
        refine r_ia (pc' := 46) (L' := [(3, .int R_29), (0, .ref 143), (1, .int X1), (2, .int X2)]) H_29 hq (z_at.mk 1 rfl rfl) (show zAr 144 0 2740 = true from rfl) (tx_iadd hR_29 hx2) g_45 rfl rfl ?_
        intro V_45 hV_45
        refine r_p hq 1 (pc' := 128) (L' := []) (st' := [.int V_45]) rfl ?_
        cases h
        exact r_ri hq (z_at.mk 1 rfl rfl) rfl rfl hV_45 rfl H_29
    · refine r_f1 (pc' := 26) (L' := []) hq (z_at.mk 3 rfl rfl) rfl hR_20 c_23 rfl rfl ?_
      refine r_p hq 1 (pc' := 27) (L' := []) (st' := [.int ((-1 : Int32))]) rfl ?_
      cases h
      exact r_ri hq (z_at.mk 1 rfl rfl) rfl rfl (rfl : (-1 : Int32).toInt = -1) rfl H_20
def g_m_weight (x1 : Int) (σ : zS) : Option (Int × zS) :=
  let v_7 := σ 144 0
  (g_m_isIn x1 0 (w32 (v_7 - 1)) σ).bind fun o_10 =>
  if o_10.1 = 0 then
    some (-9223372036854775808, o_10.2)
  else
    if 0 ≤ w32 (121 + x1) ∧ w32 (121 + x1) < 361 then
    let v_24 := o_10.2 147 (w32 (121 + x1))
    some (v_24, o_10.2)
    else none
set_option maxHeartbeats 4000000 in
theorem g_m_weight_ok {xl : Nat} {xs : Nat → Int32} {X1 : Int32} {x1 : Int} (hx1 : X1.toInt = x1) {σ : zS} {p : Nat} {m : zM} {o : Int × zS} (H : zRep xl xs p m σ) (h : g_m_weight x1 σ = some o) : zGo xl xs (fun p' => p = p') 2 249 0 (z_can 249 0 (lv_args 0 [.ref 143, .int X1])) [] m (vL o.1) o.2 := by
  have hq : z_mth 249 = some z_r249 := rfl
  unfold g_m_weight at h
  show zGo xl xs (fun p' => p = p') 2 249 0 [(0, .ref 143), (1, .int X1)] [] m (vL o.1) o.2
  refine r_p hq 3 (pc' := 3) (L' := [(0, .ref 143), (1, .int X1)]) (st' := [.ref 143, .int ((0 : Int32)), .int X1]) rfl ?_
  refine r_gR (b := 144) (pc' := 6) (L' := [(0, .ref 143), (1, .int X1)]) H hq (z_at.mk 3 rfl rfl) rfl rfl rfl rfl ?_
  refine r_p hq 1 (pc' := 7) (L' := [(0, .ref 143), (1, .int X1)]) (st' := [.int ((0 : Int32)), .ref 144, .int ((0 : Int32)), .int X1]) rfl ?_
  refine r_ia (pc' := 8) (L' := [(0, .ref 143), (1, .int X1)]) H hq (z_at.mk 1 rfl rfl) (show zAr 144 0 2740 = true from rfl) (rfl : (0 : Int32).toInt = 0) ⟨by decide, by decide⟩ rfl rfl ?_
  intro V_7 hV_7
  refine r_p hq 2 (pc' := 10) (L' := [(0, .ref 143), (1, .int X1)]) (st' := [.int (V_7 - ((1 : Int32))), .int ((0 : Int32)), .int X1]) rfl ?_
  obtain ⟨o_10, h_10, h⟩ := Option.bind_eq_some_iff.mp h
  refine r_csI (pc' := 13) (L' := [(0, .ref 143), (1, .int X1)]) (As := [.int X1, .int ((0 : Int32)), .int (V_7 - ((1 : Int32)))]) (rest := []) (j := 159) hq (z_at.mk 3 rfl rfl) (Or.inl ⟨rfl, rfl⟩) rfl rfl (by omega) (g_m_isIn_ok hx1 (rfl : (0 : Int32).toInt = 0) (tx_isub hV_7 (rfl : (1 : Int32).toInt = 1)) H h_10) rfl rfl ?_
  intro R_10 m_10 p_10 e_10 hR_10 H_10
  subst e_10
  rcases z_ite h with ⟨c_13, h⟩ | ⟨c_13, h⟩
  · refine r_t1 (pc' := 28) (L' := [(0, .ref 143), (1, .int X1)]) hq (z_at.mk 3 rfl rfl) rfl hR_10 c_13 rfl rfl ?_
    refine r_p hq 1 (pc' := 31) (L' := []) (st' := [.long ((-9223372036854775808 : Int64))]) rfl ?_
    cases h
    exact r_rl hq (z_at.mk 1 rfl rfl) rfl (rfl : (-9223372036854775808 : Int64).toInt = -9223372036854775808) rfl H_10
  · refine r_f1 (pc' := 16) (L' := [(0, .ref 143), (1, .int X1)]) hq (z_at.mk 3 rfl rfl) rfl hR_10 c_13 rfl rfl ?_
    refine r_p hq 1 (pc' := 17) (L' := [(0, .ref 143), (1, .int X1)]) (st' := [.ref 143]) rfl ?_
    refine r_gR (b := 147) (pc' := 20) (L' := [(0, .ref 143), (1, .int X1)]) H_10 hq (z_at.mk 3 rfl rfl) rfl rfl rfl rfl ?_
    refine r_p hq 3 (pc' := 24) (L' := [(0, .ref 143), (1, .int X1)]) (st' := [.int (((121 : Int32)) + X1), .ref 147]) rfl ?_
    obtain ⟨g_24, h⟩ := z_ifo_some h
    refine r_la (pc' := 25) (L' := [(0, .ref 143), (1, .int X1)]) H_10 hq (z_at.mk 1 rfl rfl) (show zAr 147 1 361 = true from rfl) (tx_iadd (rfl : (121 : Int32).toInt = 121) hx1) g_24 rfl rfl ?_
    intro V_24 hV_24
    refine r_p hq 1 (pc' := 31) (L' := []) (st' := [.long V_24]) rfl ?_
    cases h
    exact r_rl hq (z_at.mk 1 rfl rfl) rfl hV_24 rfl H_10
def g_m_rows_L4 : Nat → Int → Int → zS → Option (Int × zS)
  | 0, _, _, _ => none
  | n + 1, x1, x2, σ =>
    if 60 ≤ x2 then
      some (x1, σ)
    else
      (g_m_rowAt x2 σ).bind fun o_16 =>
      if 0 ≤ o_16.1 ∧ o_16.1 < 2740 then
      let v_19 := o_16.2 144 o_16.1
      (g_m_rows_L4 n) (w32 (x1 + v_19)) (w32 (x2 + 1)) o_16.2
      else none
set_option maxHeartbeats 4000000 in
theorem g_m_rows_L4_ok {xl : Nat} {xs : Nat → Int32} : ∀ (n : Nat) {X1 : Int32} {x1 : Int} {X2 : Int32} {x2 : Int} {σ : zS} {p : Nat} {m : zM} {o : Int × zS}, X1.toInt = x1 → X2.toInt = x2 → zRep xl xs p m σ → g_m_rows_L4 n x1 x2 σ = some o → zGo xl xs (fun p' => p = p') 2 250 4 [(0, .ref 143), (1, .int X1), (2, .int X2)] [] m (vI o.1) o.2
  | 0, _, _, _, _, _, _, _, _, _, _, _, h => by cases h
  | n + 1, X1, x1, X2, x2, σ, p, m, o, hx1, hx2, H, h => by
    have hq : z_mth 250 = some z_r250 := rfl
    have ih := fun {X1 : Int32} {x1 : Int} {X2 : Int32} {x2 : Int} {σ : zS} {p : Nat} {m : zM} {o : Int × zS} => g_m_rows_L4_ok (xl := xl) (xs := xs) n (X1 := X1) (x1 := x1) (X2 := X2) (x2 := x2) (σ := σ) (p := p) (m := m) (o := o)
    unfold g_m_rows_L4 at h
    refine r_p hq 2 (pc' := 7) (L' := [(0, .ref 143), (1, .int X1), (2, .int X2)]) (st' := [.int ((60 : Int32)), .int X2]) rfl ?_
    rcases z_ite h with ⟨c_7, h⟩ | ⟨c_7, h⟩
    · refine r_t2 (pc' := 28) (L' := [(0, .ref 143), (1, .int X1), (2, .int X2)]) hq (z_at.mk 3 rfl rfl) rfl hx2 (rfl : (60 : Int32).toInt = 60) c_7 rfl rfl ?_
      refine r_p hq 1 (pc' := 29) (L' := [(0, .ref 143), (1, .int X1), (2, .int X2)]) (st' := [.int X1]) rfl ?_
      cases h
      exact r_ri hq (z_at.mk 1 rfl rfl) rfl rfl hx1 rfl H
    · refine r_f2 (pc' := 10) (L' := [(0, .ref 143), (1, .int X1), (2, .int X2)]) hq (z_at.mk 3 rfl rfl) rfl hx2 (rfl : (60 : Int32).toInt = 60) c_7 rfl rfl ?_
      refine r_p hq 2 (pc' := 12) (L' := [(0, .ref 143), (1, .int X1), (2, .int X2)]) (st' := [.ref 143, .int X1]) rfl ?_
      refine r_gR (b := 144) (pc' := 15) (L' := [(0, .ref 143), (1, .int X1), (2, .int X2)]) H hq (z_at.mk 3 rfl rfl) rfl rfl rfl rfl ?_
      refine r_p hq 1 (pc' := 16) (L' := [(0, .ref 143), (1, .int X1), (2, .int X2)]) (st' := [.int X2, .ref 144, .int X1]) rfl ?_
      obtain ⟨o_16, h_16, h⟩ := Option.bind_eq_some_iff.mp h
      refine r_csI (pc' := 19) (L' := [(0, .ref 143), (1, .int X1), (2, .int X2)]) (As := [.int X2]) (rest := [.ref 144, .int X1]) (j := 174) hq (z_at.mk 3 rfl rfl) (Or.inl ⟨rfl, rfl⟩) rfl rfl (by omega) (g_m_rowAt_ok hx2 H h_16) rfl rfl ?_
      intro R_16 m_16 p_16 e_16 hR_16 H_16
      subst e_16
      obtain ⟨g_19, h⟩ := z_ifo_some h
      refine r_ia (pc' := 20) (L' := [(0, .ref 143), (1, .int X1), (2, .int X2)]) H_16 hq (z_at.mk 1 rfl rfl) (show zAr 144 0 2740 = true from rfl) hR_16 g_19 rfl rfl ?_
      intro V_19 hV_19
      refine r_p hq 4 (pc' := 4) (L' := [(0, .ref 143), (1, .int (X1 + V_19)), (2, .int (X2 + (1 : Int32)))]) (st' := []) rfl ?_
      exact ih (tx_iadd hx1 hV_19) (tx_iadd hx2 (rfl : (1 : Int32).toInt = 1)) H_16 h
def g_m_rows (σ : zS) : Option (Int × zS) :=
  g_m_rows_L4 zK 0 0 σ
set_option maxHeartbeats 4000000 in
theorem g_m_rows_ok {xl : Nat} {xs : Nat → Int32} {σ : zS} {p : Nat} {m : zM} {o : Int × zS} (H : zRep xl xs p m σ) (h : g_m_rows σ = some o) : zGo xl xs (fun p' => p = p') 2 250 0 (z_can 250 0 (lv_args 0 [.ref 143])) [] m (vI o.1) o.2 := by
  have hq : z_mth 250 = some z_r250 := rfl
  unfold g_m_rows at h
  show zGo xl xs (fun p' => p = p') 2 250 0 [(0, .ref 143)] [] m (vI o.1) o.2
  refine r_p hq 4 (pc' := 4) (L' := [(0, .ref 143), (1, .int ((0 : Int32))), (2, .int ((0 : Int32)))]) (st' := []) rfl ?_
  exact g_m_rows_L4_ok zK (rfl : (0 : Int32).toInt = 0) (rfl : (0 : Int32).toInt = 0) H h
def g_m_told (x1 : Int) (σ : zS) : Option (Int × zS) :=
  if x1 ≠ 0 then
    if x1 ≠ 1 then
      (g_m_isIn x1 2 7 σ).bind fun o_31 =>
      if o_31.1 = 0 then
        if x1 ≠ 8 then
          if x1 ≠ 9 then
            if x1 ≠ 10 then
              some (-9223372036854775808, o_31.2)
            else
              let v_87 := o_31.2 143 29
              some (v_87, o_31.2)
          else
            (g_m_rows o_31.2).bind fun o_73 =>
            some (o_73.1, o_73.2)
        else
          let v_62 := o_31.2 147 0
          some (v_62, o_31.2)
      else
        if 0 ≤ w32 ((w32 (2 + x1)) - 2) ∧ w32 ((w32 (2 + x1)) - 2) < 2740 then
        let v_46 := o_31.2 144 (w32 ((w32 (2 + x1)) - 2))
        some (v_46, o_31.2)
        else none
    else
      (g_m_sizes σ).bind fun o_20 =>
      some (o_20.1, o_20.2)
  else
    let v_9 := σ 144 0
    some (v_9, σ)
set_option maxHeartbeats 4000000 in
theorem g_m_told_ok {xl : Nat} {xs : Nat → Int32} {X1 : Int32} {x1 : Int} (hx1 : X1.toInt = x1) {σ : zS} {p : Nat} {m : zM} {o : Int × zS} (H : zRep xl xs p m σ) (h : g_m_told x1 σ = some o) : zGo xl xs (fun p' => p = p') 6 251 0 (z_can 251 0 (lv_args 0 [.ref 143, .int X1])) [] m (vL o.1) o.2 := by
  have hq : z_mth 251 = some z_r251 := rfl
  unfold g_m_told at h
  show zGo xl xs (fun p' => p = p') 6 251 0 [(0, .ref 143), (1, .int X1)] [] m (vL o.1) o.2
  refine r_p hq 1 (pc' := 1) (L' := [(0, .ref 143), (1, .int X1)]) (st' := [.int X1]) rfl ?_
  rcases z_ite h with ⟨c_1, h⟩ | ⟨c_1, h⟩
  · refine r_t1 (pc' := 14) (L' := [(0, .ref 143), (1, .int X1)]) hq (z_at.mk 3 rfl rfl) rfl hx1 c_1 rfl rfl ?_
    refine r_p hq 2 (pc' := 16) (L' := [(0, .ref 143), (1, .int X1)]) (st' := [.int ((1 : Int32)), .int X1]) rfl ?_
    rcases z_ite h with ⟨c_16, h⟩ | ⟨c_16, h⟩
    · refine r_t2 (pc' := 27) (L' := [(0, .ref 143), (1, .int X1)]) hq (z_at.mk 3 rfl rfl) rfl hx1 (rfl : (1 : Int32).toInt = 1) c_16 rfl rfl ?_
      refine r_p hq 3 (pc' := 31) (L' := [(0, .ref 143), (1, .int X1)]) (st' := [.int ((7 : Int32)), .int ((2 : Int32)), .int X1]) rfl ?_
      obtain ⟨o_31, h_31, h⟩ := Option.bind_eq_some_iff.mp h
      refine r_csI (pc' := 34) (L' := [(0, .ref 143), (1, .int X1)]) (As := [.int X1, .int ((2 : Int32)), .int ((7 : Int32))]) (rest := []) (j := 159) hq (z_at.mk 3 rfl rfl) (Or.inl ⟨rfl, rfl⟩) rfl rfl (by omega) (g_m_isIn_ok hx1 (rfl : (2 : Int32).toInt = 2) (rfl : (7 : Int32).toInt = 7) H h_31) rfl rfl ?_
      intro R_31 m_31 p_31 e_31 hR_31 H_31
      subst e_31
      rcases z_ite h with ⟨c_34, h⟩ | ⟨c_34, h⟩
      · refine r_t1 (pc' := 51) (L' := [(0, .ref 143), (1, .int X1)]) hq (z_at.mk 3 rfl rfl) rfl hR_31 c_34 rfl rfl ?_
        refine r_p hq 2 (pc' := 54) (L' := [(0, .ref 143), (1, .int X1)]) (st' := [.int ((8 : Int32)), .int X1]) rfl ?_
        rcases z_ite h with ⟨c_54, h⟩ | ⟨c_54, h⟩
        · refine r_t2 (pc' := 66) (L' := [(0, .ref 143), (1, .int X1)]) hq (z_at.mk 3 rfl rfl) rfl hx1 (rfl : (8 : Int32).toInt = 8) c_54 rfl rfl ?_
          refine r_p hq 2 (pc' := 69) (L' := [(0, .ref 143), (1, .int X1)]) (st' := [.int ((9 : Int32)), .int X1]) rfl ?_
          rcases z_ite h with ⟨c_69, h⟩ | ⟨c_69, h⟩
          · refine r_t2 (pc' := 80) (L' := [(0, .ref 143), (1, .int X1)]) hq (z_at.mk 3 rfl rfl) rfl hx1 (rfl : (9 : Int32).toInt = 9) c_69 rfl rfl ?_
            refine r_p hq 2 (pc' := 83) (L' := [(0, .ref 143), (1, .int X1)]) (st' := [.int ((10 : Int32)), .int X1]) rfl ?_
            rcases z_ite h with ⟨c_83, h⟩ | ⟨c_83, h⟩
            · refine r_t2 (pc' := 94) (L' := [(0, .ref 143), (1, .int X1)]) hq (z_at.mk 3 rfl rfl) rfl hx1 (rfl : (10 : Int32).toInt = 10) c_83 rfl rfl ?_
              refine r_p hq 1 (pc' := 97) (L' := []) (st' := [.long ((-9223372036854775808 : Int64))]) rfl ?_
              cases h
              exact r_rl hq (z_at.mk 1 rfl rfl) rfl (rfl : (-9223372036854775808 : Int64).toInt = -9223372036854775808) rfl H_31
            · refine r_f2 (pc' := 86) (L' := [(0, .ref 143), (1, .int X1)]) hq (z_at.mk 3 rfl rfl) rfl hx1 (rfl : (10 : Int32).toInt = 10) c_83 rfl rfl ?_
              refine r_p hq 1 (pc' := 87) (L' := [(0, .ref 143), (1, .int X1)]) (st' := [.ref 143]) rfl ?_
              refine r_gI (pc' := 90) (L' := [(0, .ref 143), (1, .int X1)]) H_31 hq (z_at.mk 3 rfl rfl) rfl rfl rfl rfl ?_
              intro V_87 hV_87
              refine r_p hq 2 (pc' := 97) (L' := []) (st' := [.long V_87.toInt64]) rfl ?_
              cases h
              exact r_rl hq (z_at.mk 1 rfl rfl) rfl (tx_i2l hV_87) rfl H_31
          · refine r_f2 (pc' := 72) (L' := [(0, .ref 143), (1, .int X1)]) hq (z_at.mk 3 rfl rfl) rfl hx1 (rfl : (9 : Int32).toInt = 9) c_69 rfl rfl ?_
            refine r_p hq 1 (pc' := 73) (L' := [(0, .ref 143), (1, .int X1)]) (st' := [.ref 143]) rfl ?_
            obtain ⟨o_73, h_73, h⟩ := Option.bind_eq_some_iff.mp h
            refine r_cvI (pc' := 76) (L' := [(0, .ref 143), (1, .int X1)]) (Ps := []) (rest := []) hq (z_at.mk 3 rfl rfl) (Or.inl ⟨rfl, rfl⟩) rfl rfl (by decide) (by decide) rfl (Nat.not_lt.mpr (Nat.le_of_ble_eq_true rfl)) rfl rfl (z_cat_le 0 rfl (by decide)) (z_lgl_le 1 rfl (by decide)) (by decide) (H_31.tg rfl) (by omega) (g_m_rows_ok H_31 h_73) rfl rfl ?_
            intro R_73 m_73 p_73 e_73 hR_73 H_73
            subst e_73
            refine r_p hq 2 (pc' := 97) (L' := []) (st' := [.long R_73.toInt64]) rfl ?_
            cases h
            exact r_rl hq (z_at.mk 1 rfl rfl) rfl (tx_i2l hR_73) rfl H_73
        · refine r_f2 (pc' := 57) (L' := [(0, .ref 143), (1, .int X1)]) hq (z_at.mk 3 rfl rfl) rfl hx1 (rfl : (8 : Int32).toInt = 8) c_54 rfl rfl ?_
          refine r_p hq 1 (pc' := 58) (L' := [(0, .ref 143), (1, .int X1)]) (st' := [.ref 143]) rfl ?_
          refine r_gR (b := 147) (pc' := 61) (L' := [(0, .ref 143), (1, .int X1)]) H_31 hq (z_at.mk 3 rfl rfl) rfl rfl rfl rfl ?_
          refine r_p hq 1 (pc' := 62) (L' := [(0, .ref 143), (1, .int X1)]) (st' := [.int ((0 : Int32)), .ref 147]) rfl ?_
          refine r_la (pc' := 63) (L' := [(0, .ref 143), (1, .int X1)]) H_31 hq (z_at.mk 1 rfl rfl) (show zAr 147 1 361 = true from rfl) (rfl : (0 : Int32).toInt = 0) ⟨by decide, by decide⟩ rfl rfl ?_
          intro V_62 hV_62
          refine r_p hq 1 (pc' := 97) (L' := []) (st' := [.long V_62]) rfl ?_
          cases h
          exact r_rl hq (z_at.mk 1 rfl rfl) rfl hV_62 rfl H_31
      · refine r_f1 (pc' := 37) (L' := [(0, .ref 143), (1, .int X1)]) hq (z_at.mk 3 rfl rfl) rfl hR_31 c_34 rfl rfl ?_
        refine r_p hq 1 (pc' := 38) (L' := [(0, .ref 143), (1, .int X1)]) (st' := [.ref 143]) rfl ?_
        refine r_gR (b := 144) (pc' := 41) (L' := [(0, .ref 143), (1, .int X1)]) H_31 hq (z_at.mk 3 rfl rfl) rfl rfl rfl rfl ?_
        refine r_p hq 5 (pc' := 46) (L' := [(0, .ref 143), (1, .int X1)]) (st' := [.int ((((2 : Int32)) + X1) - ((2 : Int32))), .ref 144]) rfl ?_
        obtain ⟨g_46, h⟩ := z_ifo_some h
        refine r_ia (pc' := 47) (L' := [(0, .ref 143), (1, .int X1)]) H_31 hq (z_at.mk 1 rfl rfl) (show zAr 144 0 2740 = true from rfl) (tx_isub (tx_iadd (rfl : (2 : Int32).toInt = 2) hx1) (rfl : (2 : Int32).toInt = 2)) g_46 rfl rfl ?_
        intro V_46 hV_46
        refine r_p hq 2 (pc' := 97) (L' := []) (st' := [.long V_46.toInt64]) rfl ?_
        cases h
        exact r_rl hq (z_at.mk 1 rfl rfl) rfl (tx_i2l hV_46) rfl H_31
    · refine r_f2 (pc' := 19) (L' := [(0, .ref 143), (1, .int X1)]) hq (z_at.mk 3 rfl rfl) rfl hx1 (rfl : (1 : Int32).toInt = 1) c_16 rfl rfl ?_
      refine r_p hq 1 (pc' := 20) (L' := [(0, .ref 143), (1, .int X1)]) (st' := [.ref 143]) rfl ?_
      obtain ⟨o_20, h_20, h⟩ := Option.bind_eq_some_iff.mp h
      refine r_cvI (pc' := 23) (L' := [(0, .ref 143), (1, .int X1)]) (Ps := []) (rest := []) hq (z_at.mk 3 rfl rfl) (Or.inl ⟨rfl, rfl⟩) rfl rfl (by decide) (by decide) rfl (Nat.not_lt.mpr (Nat.le_of_ble_eq_true rfl)) rfl rfl (z_cat_le 0 rfl (by decide)) (z_lgl_le 1 rfl (by decide)) (by decide) (H.tg rfl) (by omega) (g_m_sizes_ok H h_20) rfl rfl ?_
      intro R_20 m_20 p_20 e_20 hR_20 H_20
      subst e_20
      refine r_p hq 2 (pc' := 97) (L' := []) (st' := [.long R_20.toInt64]) rfl ?_
      cases h
      exact r_rl hq (z_at.mk 1 rfl rfl) rfl (tx_i2l hR_20) rfl H_20
  · refine r_f1 (pc' := 4) (L' := [(0, .ref 143), (1, .int X1)]) hq (z_at.mk 3 rfl rfl) rfl hx1 c_1 rfl rfl ?_
    refine r_p hq 1 (pc' := 5) (L' := [(0, .ref 143), (1, .int X1)]) (st' := [.ref 143]) rfl ?_
    refine r_gR (b := 144) (pc' := 8) (L' := [(0, .ref 143), (1, .int X1)]) H hq (z_at.mk 3 rfl rfl) rfl rfl rfl rfl ?_
    refine r_p hq 1 (pc' := 9) (L' := [(0, .ref 143), (1, .int X1)]) (st' := [.int ((0 : Int32)), .ref 144]) rfl ?_
    refine r_ia (pc' := 10) (L' := [(0, .ref 143), (1, .int X1)]) H hq (z_at.mk 1 rfl rfl) (show zAr 144 0 2740 = true from rfl) (rfl : (0 : Int32).toInt = 0) ⟨by decide, by decide⟩ rfl rfl ?_
    intro V_9 hV_9
    refine r_p hq 2 (pc' := 97) (L' := []) (st' := [.long V_9.toInt64]) rfl ?_
    cases h
    exact r_rl hq (z_at.mk 1 rfl rfl) rfl (tx_i2l hV_9) rfl H
def g_m_flush (σ : zS) : Option (Int × zS) :=
  let v_5 := σ 144 0
  let s_13 := zu σ 144 0 0
  some (v_5, s_13)
set_option maxHeartbeats 4000000 in
theorem g_m_flush_ok {xl : Nat} {xs : Nat → Int32} {σ : zS} {p : Nat} {m : zM} {o : Int × zS} (H : zRep xl xs p m σ) (h : g_m_flush σ = some o) : zGo xl xs (fun p' => p = p') 1 252 0 (z_can 252 0 (lv_args 0 [.ref 143])) [] m (vI o.1) o.2 := by
  have hq : z_mth 252 = some z_r252 := rfl
  unfold g_m_flush at h
  show zGo xl xs (fun p' => p = p') 1 252 0 [(0, .ref 143)] [] m (vI o.1) o.2
  refine r_p hq 1 (pc' := 1) (L' := [(0, .ref 143)]) (st' := [.ref 143]) rfl ?_
  refine r_gR (b := 144) (pc' := 4) (L' := [(0, .ref 143)]) H hq (z_at.mk 3 rfl rfl) rfl rfl rfl rfl ?_
  refine r_p hq 1 (pc' := 5) (L' := [(0, .ref 143)]) (st' := [.int ((0 : Int32)), .ref 144]) rfl ?_
  refine r_ia (pc' := 6) (L' := [(0, .ref 143)]) H hq (z_at.mk 1 rfl rfl) (show zAr 144 0 2740 = true from rfl) (rfl : (0 : Int32).toInt = 0) ⟨by decide, by decide⟩ rfl rfl ?_
  intro V_5 hV_5
  refine r_p hq 2 (pc' := 8) (L' := [(1, .int V_5), (0, .ref 143)]) (st' := [.ref 143]) rfl ?_
  refine r_gR (b := 144) (pc' := 11) (L' := [(1, .int V_5), (0, .ref 143)]) H hq (z_at.mk 3 rfl rfl) rfl rfl rfl rfl ?_
  refine r_p hq 2 (pc' := 13) (L' := [(1, .int V_5), (0, .ref 143)]) (st' := [.int ((0 : Int32)), .int ((0 : Int32)), .ref 144]) rfl ?_
  refine r_is (pc' := 14) (L' := [(1, .int V_5), (0, .ref 143)]) H hq (z_at.mk 1 rfl rfl) (show zAr 144 0 2740 = true from rfl) (rfl : (0 : Int32).toInt = 0) ⟨by decide, by decide⟩ (rfl : (0 : Int32).toInt = 0) rfl rfl ?_
  intro m_13 H_13
  refine r_p hq 1 (pc' := 15) (L' := [(1, .int V_5), (0, .ref 143)]) (st' := [.int V_5]) rfl ?_
  cases h
  exact r_ri hq (z_at.mk 1 rfl rfl) rfl rfl hV_5 rfl H_13
def g_m_keep_L107 (g36 : Int → Int → Int → Int → Int → Int → Int → zS → Option (Int × zS)) (x1 : Int) (x2 : Int) (y3 : Int) (x5 : Int) (x6 : Int) (y7 : Int) (x9 : Int) (σ : zS) : Option (Int × zS) :=
  g36 x1 x2 y3 x5 x6 y7 (w32 (x9 + 1)) σ
set_option maxHeartbeats 4000000 in
theorem g_m_keep_L107_ok {xl : Nat} {xs : Nat → Int32} {g36 : Int → Int → Int → Int → Int → Int → Int → zS → Option (Int × zS)} (hg36 : ∀ {X1 : Int32} {x1 : Int} {X2 : Int32} {x2 : Int} {Y3 : Int64} {y3 : Int} {X5 : Int32} {x5 : Int} {X6 : Int32} {x6 : Int} {Y7 : Int64} {y7 : Int} {X9 : Int32} {x9 : Int} {σ : zS} {p : Nat} {m : zM} {o : Int × zS}, X1.toInt = x1 → X2.toInt = x2 → Y3.toInt = y3 → X5.toInt = x5 → X6.toInt = x6 → Y7.toInt = y7 → X9.toInt = x9 → zRep xl xs p m σ → g36 x1 x2 y3 x5 x6 y7 x9 σ = some o → zGo xl xs (fun p' => p = p') 5 253 36 [(0, .ref 143), (1, .int X1), (2, .int X2), (3, .long Y3), (5, .int X5), (6, .int X6), (7, .long Y7), (9, .int X9)] [] m (vI o.1) o.2) {X1 : Int32} {x1 : Int} (hx1 : X1.toInt = x1) {X2 : Int32} {x2 : Int} (hx2 : X2.toInt = x2) {Y3 : Int64} {y3 : Int} (hy3 : Y3.toInt = y3) {X5 : Int32} {x5 : Int} (hx5 : X5.toInt = x5) {X6 : Int32} {x6 : Int} (hx6 : X6.toInt = x6) {Y7 : Int64} {y7 : Int} (hy7 : Y7.toInt = y7) {X9 : Int32} {x9 : Int} (hx9 : X9.toInt = x9) {σ : zS} {p : Nat} {m : zM} {o : Int × zS} (H : zRep xl xs p m σ) (h : g_m_keep_L107 g36 x1 x2 y3 x5 x6 y7 x9 σ = some o) : zGo xl xs (fun p' => p = p') 5 253 107 [(0, .ref 143), (1, .int X1), (2, .int X2), (3, .long Y3), (5, .int X5), (6, .int X6), (7, .long Y7), (9, .int X9)] [] m (vI o.1) o.2 := by
  have hq : z_mth 253 = some z_r253 := rfl
  unfold g_m_keep_L107 at h
  refine r_p hq 2 (pc' := 36) (L' := [(0, .ref 143), (1, .int X1), (2, .int X2), (3, .long Y3), (5, .int X5), (6, .int X6), (7, .long Y7), (9, .int (X9 + (1 : Int32)))]) (st' := []) rfl ?_
  exact hg36 hx1 hx2 hy3 hx5 hx6 hy7 (tx_iadd hx9 (rfl : (1 : Int32).toInt = 1)) H h
def g_m_keep_L135 (g14 : Int → Int → Int → Int → zS → Option (Int × zS)) (x1 : Int) (x2 : Int) (y3 : Int) (x5 : Int) (σ : zS) : Option (Int × zS) :=
  g14 x1 x2 y3 (w32 (x5 + 1)) σ
set_option maxHeartbeats 4000000 in
theorem g_m_keep_L135_ok {xl : Nat} {xs : Nat → Int32} {g14 : Int → Int → Int → Int → zS → Option (Int × zS)} (hg14 : ∀ {X1 : Int32} {x1 : Int} {X2 : Int32} {x2 : Int} {Y3 : Int64} {y3 : Int} {X5 : Int32} {x5 : Int} {σ : zS} {p : Nat} {m : zM} {o : Int × zS}, X1.toInt = x1 → X2.toInt = x2 → Y3.toInt = y3 → X5.toInt = x5 → zRep xl xs p m σ → g14 x1 x2 y3 x5 σ = some o → zGo xl xs (fun p' => p = p') 5 253 14 [(0, .ref 143), (1, .int X1), (2, .int X2), (3, .long Y3), (5, .int X5)] [] m (vI o.1) o.2) {X1 : Int32} {x1 : Int} (hx1 : X1.toInt = x1) {X2 : Int32} {x2 : Int} (hx2 : X2.toInt = x2) {Y3 : Int64} {y3 : Int} (hy3 : Y3.toInt = y3) {X5 : Int32} {x5 : Int} (hx5 : X5.toInt = x5) {σ : zS} {p : Nat} {m : zM} {o : Int × zS} (H : zRep xl xs p m σ) (h : g_m_keep_L135 g14 x1 x2 y3 x5 σ = some o) : zGo xl xs (fun p' => p = p') 5 253 135 [(0, .ref 143), (1, .int X1), (2, .int X2), (3, .long Y3), (5, .int X5)] [] m (vI o.1) o.2 := by
  have hq : z_mth 253 = some z_r253 := rfl
  unfold g_m_keep_L135 at h
  refine r_p hq 2 (pc' := 14) (L' := [(0, .ref 143), (1, .int X1), (2, .int X2), (3, .long Y3), (5, .int (X5 + (1 : Int32)))]) (st' := []) rfl ?_
  exact hg14 hx1 hx2 hy3 (tx_iadd hx5 (rfl : (1 : Int32).toInt = 1)) H h
def g_m_keep_L36 (g14 : Int → Int → Int → Int → zS → Option (Int × zS)) : Nat → Int → Int → Int → Int → Int → Int → Int → zS → Option (Int × zS)
  | 0, _, _, _, _, _, _, _, _ => none
  | n + 1, x1, x2, y3, x5, x6, y7, x9, σ =>
    let v_43 := σ 144 0
    if v_43 ≤ x9 then
      if x1 < x6 then
        g_m_keep_L135 g14 x1 x2 y3 x5 σ
      else
        if 0 < lCmp y7 y3 then
          g_m_keep_L135 g14 x1 x5 y7 x5 σ
        else
          g_m_keep_L135 g14 x1 x2 y3 x5 σ
    else
      if iAnd (iShr x5 x9) 1 ≠ 0 then
        (g_m_size x9 σ).bind fun o_65 =>
        (g_m_region_173 x9 o_65.2).bind fun o_80 =>
        (g_m_cost 144 o_80.1 o_80.2).bind fun o_83 =>
        (g_m_region_173 x9 o_83.2).bind fun o_94 =>
        if 0 ≤ w32 (o_94.1 + 9) ∧ w32 (o_94.1 + 9) < 2740 then
        let v_100 := o_94.2 144 (w32 (o_94.1 + 9))
        g_m_keep_L107 ((g_m_keep_L36 g14 n)) x1 x2 y3 x5 (w32 (x6 + o_65.1)) (w64 (y7 + (w64 (o_83.1 * (w32 (1 + v_100)))))) x9 o_94.2
        else none
      else
        g_m_keep_L107 ((g_m_keep_L36 g14 n)) x1 x2 y3 x5 x6 y7 x9 σ
set_option maxHeartbeats 4000000 in
theorem g_m_keep_L36_ok {xl : Nat} {xs : Nat → Int32} {g14 : Int → Int → Int → Int → zS → Option (Int × zS)} (hg14 : ∀ {X1 : Int32} {x1 : Int} {X2 : Int32} {x2 : Int} {Y3 : Int64} {y3 : Int} {X5 : Int32} {x5 : Int} {σ : zS} {p : Nat} {m : zM} {o : Int × zS}, X1.toInt = x1 → X2.toInt = x2 → Y3.toInt = y3 → X5.toInt = x5 → zRep xl xs p m σ → g14 x1 x2 y3 x5 σ = some o → zGo xl xs (fun p' => p = p') 5 253 14 [(0, .ref 143), (1, .int X1), (2, .int X2), (3, .long Y3), (5, .int X5)] [] m (vI o.1) o.2) : ∀ (n : Nat) {X1 : Int32} {x1 : Int} {X2 : Int32} {x2 : Int} {Y3 : Int64} {y3 : Int} {X5 : Int32} {x5 : Int} {X6 : Int32} {x6 : Int} {Y7 : Int64} {y7 : Int} {X9 : Int32} {x9 : Int} {σ : zS} {p : Nat} {m : zM} {o : Int × zS}, X1.toInt = x1 → X2.toInt = x2 → Y3.toInt = y3 → X5.toInt = x5 → X6.toInt = x6 → Y7.toInt = y7 → X9.toInt = x9 → zRep xl xs p m σ → g_m_keep_L36 g14 n x1 x2 y3 x5 x6 y7 x9 σ = some o → zGo xl xs (fun p' => p = p') 5 253 36 [(0, .ref 143), (1, .int X1), (2, .int X2), (3, .long Y3), (5, .int X5), (6, .int X6), (7, .long Y7), (9, .int X9)] [] m (vI o.1) o.2
  | 0, _, _, _, _, _, _, _, _, _, _, _, _, _, _, _, _, _, _, _, _, _, _, _, _, _, _, h => by cases h
  | n + 1, X1, x1, X2, x2, Y3, y3, X5, x5, X6, x6, Y7, y7, X9, x9, σ, p, m, o, hx1, hx2, hy3, hx5, hx6, hy7, hx9, H, h => by
    have hq : z_mth 253 = some z_r253 := rfl
    have ih := fun {X1 : Int32} {x1 : Int} {X2 : Int32} {x2 : Int} {Y3 : Int64} {y3 : Int} {X5 : Int32} {x5 : Int} {X6 : Int32} {x6 : Int} {Y7 : Int64} {y7 : Int} {X9 : Int32} {x9 : Int} {σ : zS} {p : Nat} {m : zM} {o : Int × zS} => g_m_keep_L36_ok (xl := xl) (xs := xs) hg14 n (X1 := X1) (x1 := x1) (X2 := X2) (x2 := x2) (Y3 := Y3) (y3 := y3) (X5 := X5) (x5 := x5) (X6 := X6) (x6 := x6) (Y7 := Y7) (y7 := y7) (X9 := X9) (x9 := x9) (σ := σ) (p := p) (m := m) (o := o)
    unfold g_m_keep_L36 at h
    refine r_p hq 2 (pc' := 39) (L' := [(0, .ref 143), (1, .int X1), (2, .int X2), (3, .long Y3), (5, .int X5), (6, .int X6), (7, .long Y7), (9, .int X9)]) (st' := [.ref 143, .int X9]) rfl ?_
    refine r_gR (b := 144) (pc' := 42) (L' := [(0, .ref 143), (1, .int X1), (2, .int X2), (3, .long Y3), (5, .int X5), (6, .int X6), (7, .long Y7), (9, .int X9)]) H hq (z_at.mk 3 rfl rfl) rfl rfl rfl rfl ?_
    refine r_p hq 1 (pc' := 43) (L' := [(0, .ref 143), (1, .int X1), (2, .int X2), (3, .long Y3), (5, .int X5), (6, .int X6), (7, .long Y7), (9, .int X9)]) (st' := [.int ((0 : Int32)), .ref 144, .int X9]) rfl ?_
    refine r_ia (pc' := 44) (L' := [(0, .ref 143), (1, .int X1), (2, .int X2), (3, .long Y3), (5, .int X5), (6, .int X6), (7, .long Y7), (9, .int X9)]) H hq (z_at.mk 1 rfl rfl) (show zAr 144 0 2740 = true from rfl) (rfl : (0 : Int32).toInt = 0) ⟨by decide, by decide⟩ rfl rfl ?_
    intro V_43 hV_43
    rcases z_ite h with ⟨c_44, h⟩ | ⟨c_44, h⟩
    · refine r_t2 (pc' := 113) (L' := [(0, .ref 143), (1, .int X1), (2, .int X2), (3, .long Y3), (5, .int X5), (6, .int X6), (7, .long Y7), (9, .int X9)]) hq (z_at.mk 3 rfl rfl) rfl hx9 hV_43 c_44 rfl rfl ?_
      refine r_p hq 2 (pc' := 116) (L' := [(0, .ref 143), (1, .int X1), (2, .int X2), (3, .long Y3), (5, .int X5), (6, .int X6), (7, .long Y7), (9, .int X9)]) (st' := [.int X1, .int X6]) rfl ?_
      rcases z_ite h with ⟨c_116, h⟩ | ⟨c_116, h⟩
      · refine r_t2 (pc' := 135) (L' := [(0, .ref 143), (1, .int X1), (2, .int X2), (3, .long Y3), (5, .int X5)]) hq (z_at.mk 3 rfl rfl) rfl hx6 hx1 c_116 rfl rfl ?_
        exact g_m_keep_L135_ok hg14 hx1 hx2 hy3 hx5 H h
      · refine r_f2 (pc' := 119) (L' := [(0, .ref 143), (1, .int X1), (2, .int X2), (3, .long Y3), (5, .int X5), (6, .int X6), (7, .long Y7), (9, .int X9)]) hq (z_at.mk 3 rfl rfl) rfl hx6 hx1 c_116 rfl rfl ?_
        refine r_p hq 3 (pc' := 123) (L' := [(0, .ref 143), (1, .int X1), (2, .int X2), (3, .long Y3), (5, .int X5), (6, .int X6), (7, .long Y7), (9, .int X9)]) (st' := [.int (lg_cmp Y7 Y3)]) rfl ?_
        rcases z_ite h with ⟨c_123, h⟩ | ⟨c_123, h⟩
        · refine r_t1 (pc' := 129) (L' := [(0, .ref 143), (1, .int X1), (2, .int X2), (3, .long Y3), (5, .int X5), (6, .int X6), (7, .long Y7), (9, .int X9)]) hq (z_at.mk 3 rfl rfl) rfl (tx_lcmp hy7 hy3) c_123 rfl rfl ?_
          refine r_p hq 4 (pc' := 135) (L' := [(0, .ref 143), (1, .int X1), (2, .int X5), (3, .long Y7), (5, .int X5)]) (st' := []) rfl ?_
          exact g_m_keep_L135_ok hg14 hx1 hx5 hy7 hx5 H h
        · refine r_f1 (pc' := 126) (L' := [(0, .ref 143), (1, .int X1), (2, .int X2), (3, .long Y3), (5, .int X5), (6, .int X6), (7, .long Y7), (9, .int X9)]) hq (z_at.mk 3 rfl rfl) rfl (tx_lcmp hy7 hy3) c_123 rfl rfl ?_
          refine r_p hq 1 (pc' := 135) (L' := [(0, .ref 143), (1, .int X1), (2, .int X2), (3, .long Y3), (5, .int X5)]) (st' := []) rfl ?_
          exact g_m_keep_L135_ok hg14 hx1 hx2 hy3 hx5 H h
    · refine r_f2 (pc' := 47) (L' := [(0, .ref 143), (1, .int X1), (2, .int X2), (3, .long Y3), (5, .int X5), (6, .int X6), (7, .long Y7), (9, .int X9)]) hq (z_at.mk 3 rfl rfl) rfl hx9 hV_43 c_44 rfl rfl ?_
      refine r_p hq 5 (pc' := 54) (L' := [(0, .ref 143), (1, .int X1), (2, .int X2), (3, .long Y3), (5, .int X5), (6, .int X6), (7, .long Y7), (9, .int X9)]) (st' := [.int ((X5 >>> (X9 &&& 31)) &&& ((1 : Int32)))]) rfl ?_
      rcases z_ite h with ⟨c_54, h⟩ | ⟨c_54, h⟩
      · refine r_t1 (pc' := 60) (L' := [(0, .ref 143), (1, .int X1), (2, .int X2), (3, .long Y3), (5, .int X5), (6, .int X6), (7, .long Y7), (9, .int X9)]) hq (z_at.mk 3 rfl rfl) rfl (tx_iand (tx_ishr hx5 hx9) (rfl : (1 : Int32).toInt = 1)) c_54 rfl rfl ?_
        refine r_p hq 3 (pc' := 65) (L' := [(0, .ref 143), (1, .int X1), (2, .int X2), (3, .long Y3), (5, .int X5), (6, .int X6), (7, .long Y7), (9, .int X9)]) (st' := [.int X9, .ref 143, .int X6]) rfl ?_
        obtain ⟨o_65, h_65, h⟩ := Option.bind_eq_some_iff.mp h
        refine r_cvI (pc' := 68) (L' := [(0, .ref 143), (1, .int X1), (2, .int X2), (3, .long Y3), (5, .int X5), (6, .int X6), (7, .long Y7), (9, .int X9)]) (Ps := [.int X9]) (rest := [.int X6]) hq (z_at.mk 3 rfl rfl) (Or.inl ⟨rfl, rfl⟩) rfl rfl (by decide) (by decide) rfl (Nat.not_lt.mpr (Nat.le_of_ble_eq_true rfl)) rfl rfl (z_cat_le 1 rfl (by decide)) (z_lgl_le 2 rfl (by decide)) (by decide) (H.tg rfl) (by omega) (g_m_size_ok hx9 H h_65) rfl rfl ?_
        intro R_65 m_65 p_65 e_65 hR_65 H_65
        subst e_65
        refine r_p hq 5 (pc' := 75) (L' := [(6, .int (X6 + R_65)), (0, .ref 143), (1, .int X1), (2, .int X2), (3, .long Y3), (5, .int X5), (7, .long Y7), (9, .int X9)]) (st' := [.ref 143, .ref 143, .long Y7]) rfl ?_
        refine r_gR (b := 144) (pc' := 78) (L' := [(6, .int (X6 + R_65)), (0, .ref 143), (1, .int X1), (2, .int X2), (3, .long Y3), (5, .int X5), (7, .long Y7), (9, .int X9)]) H_65 hq (z_at.mk 3 rfl rfl) rfl rfl rfl rfl ?_
        refine r_p hq 1 (pc' := 80) (L' := [(6, .int (X6 + R_65)), (0, .ref 143), (1, .int X1), (2, .int X2), (3, .long Y3), (5, .int X5), (7, .long Y7), (9, .int X9)]) (st' := [.int X9, .ref 144, .ref 143, .long Y7]) rfl ?_
        obtain ⟨o_80, h_80, h⟩ := Option.bind_eq_some_iff.mp h
        refine r_csI (pc' := 83) (L' := [(6, .int (X6 + R_65)), (0, .ref 143), (1, .int X1), (2, .int X2), (3, .long Y3), (5, .int X5), (7, .long Y7), (9, .int X9)]) (As := [.int X9]) (rest := [.ref 144, .ref 143, .long Y7]) (j := 173) hq (z_at.mk 3 rfl rfl) (Or.inl ⟨rfl, rfl⟩) rfl rfl (by omega) (g_m_region_173_ok hx9 H_65 h_80) rfl rfl ?_
        intro R_80 m_80 p_80 e_80 hR_80 H_80
        subst e_80
        obtain ⟨o_83, h_83, h⟩ := Option.bind_eq_some_iff.mp h
        refine r_cvI (pc' := 86) (L' := [(6, .int (X6 + R_65)), (0, .ref 143), (1, .int X1), (2, .int X2), (3, .long Y3), (5, .int X5), (7, .long Y7), (9, .int X9)]) (Ps := [.ref 144, .int R_80]) (rest := [.long Y7]) hq (z_at.mk 3 rfl rfl) (Or.inl ⟨rfl, rfl⟩) rfl rfl (by decide) (by decide) rfl (Nat.not_lt.mpr (Nat.le_of_ble_eq_true rfl)) rfl rfl (z_cat_le 2 rfl (by decide)) (z_lgl_le 3 rfl (by decide)) (by decide) (H_80.tg rfl) (by omega) (g_m_cost_ok rfl hR_80 H_80 h_83) rfl rfl ?_
        intro R_83 m_83 p_83 e_83 hR_83 H_83
        subst e_83
        refine r_p hq 3 (pc' := 89) (L' := [(6, .int (X6 + R_65)), (0, .ref 143), (1, .int X1), (2, .int X2), (3, .long Y3), (5, .int X5), (7, .long Y7), (9, .int X9)]) (st' := [.ref 143, .int ((1 : Int32)), .long R_83.toInt64, .long Y7]) rfl ?_
        refine r_gR (b := 144) (pc' := 92) (L' := [(6, .int (X6 + R_65)), (0, .ref 143), (1, .int X1), (2, .int X2), (3, .long Y3), (5, .int X5), (7, .long Y7), (9, .int X9)]) H_83 hq (z_at.mk 3 rfl rfl) rfl rfl rfl rfl ?_
        refine r_p hq 1 (pc' := 94) (L' := [(6, .int (X6 + R_65)), (0, .ref 143), (1, .int X1), (2, .int X2), (3, .long Y3), (5, .int X5), (7, .long Y7), (9, .int X9)]) (st' := [.int X9, .ref 144, .int ((1 : Int32)), .long R_83.toInt64, .long Y7]) rfl ?_
        obtain ⟨o_94, h_94, h⟩ := Option.bind_eq_some_iff.mp h
        refine r_csI (pc' := 97) (L' := [(6, .int (X6 + R_65)), (0, .ref 143), (1, .int X1), (2, .int X2), (3, .long Y3), (5, .int X5), (7, .long Y7), (9, .int X9)]) (As := [.int X9]) (rest := [.ref 144, .int ((1 : Int32)), .long R_83.toInt64, .long Y7]) (j := 173) hq (z_at.mk 3 rfl rfl) (Or.inl ⟨rfl, rfl⟩) rfl rfl (by omega) (g_m_region_173_ok hx9 H_83 h_94) rfl rfl ?_
        intro R_94 m_94 p_94 e_94 hR_94 H_94
        subst e_94
        refine r_p hq 2 (pc' := 100) (L' := [(6, .int (X6 + R_65)), (0, .ref 143), (1, .int X1), (2, .int X2), (3, .long Y3), (5, .int X5), (7, .long Y7), (9, .int X9)]) (st' := [.int (R_94 + ((9 : Int32))), .ref 144, .int ((1 : Int32)), .long R_83.toInt64, .long Y7]) rfl ?_
        obtain ⟨g_100, h⟩ := z_ifo_some h
        refine r_ia (pc' := 101) (L' := [(6, .int (X6 + R_65)), (0, .ref 143), (1, .int X1), (2, .int X2), (3, .long Y3), (5, .int X5), (7, .long Y7), (9, .int X9)]) H_94 hq (z_at.mk 1 rfl rfl) (show zAr 144 0 2740 = true from rfl) (tx_iadd hR_94 (rfl : (9 : Int32).toInt = 9)) g_100 rfl rfl ?_
        intro V_100 hV_100
        refine r_p hq 5 (pc' := 107) (L' := [(0, .ref 143), (1, .int X1), (2, .int X2), (3, .long Y3), (5, .int X5), (6, .int (X6 + R_65)), (7, .long (Y7 + (R_83.toInt64 * ((((1 : Int32)) + V_100).toInt64)))), (9, .int X9)]) (st' := []) rfl ?_
        exact g_m_keep_L107_ok ih hx1 hx2 hy3 hx5 (tx_iadd hx6 hR_65) (tx_ladd hy7 (tx_lmul (tx_i2l hR_83) (tx_i2l (tx_iadd (rfl : (1 : Int32).toInt = 1) hV_100)))) hx9 H_94 h
      · refine r_f1 (pc' := 57) (L' := [(0, .ref 143), (1, .int X1), (2, .int X2), (3, .long Y3), (5, .int X5), (6, .int X6), (7, .long Y7), (9, .int X9)]) hq (z_at.mk 3 rfl rfl) rfl (tx_iand (tx_ishr hx5 hx9) (rfl : (1 : Int32).toInt = 1)) c_54 rfl rfl ?_
        refine r_p hq 1 (pc' := 107) (L' := [(0, .ref 143), (1, .int X1), (2, .int X2), (3, .long Y3), (5, .int X5), (6, .int X6), (7, .long Y7), (9, .int X9)]) (st' := []) rfl ?_
        exact g_m_keep_L107_ok ih hx1 hx2 hy3 hx5 hx6 hy7 hx9 H h
def g_m_keep_L14 : Nat → Int → Int → Int → Int → zS → Option (Int × zS)
  | 0, _, _, _, _, _ => none
  | n + 1, x1, x2, y3, x5, σ =>
    let v_22 := σ 144 0
    if iShl 1 v_22 ≤ x5 then
      some (x2, σ)
    else
      g_m_keep_L36 ((g_m_keep_L14 n)) zK x1 x2 y3 x5 0 0 0 σ
set_option maxHeartbeats 4000000 in
theorem g_m_keep_L14_ok {xl : Nat} {xs : Nat → Int32} : ∀ (n : Nat) {X1 : Int32} {x1 : Int} {X2 : Int32} {x2 : Int} {Y3 : Int64} {y3 : Int} {X5 : Int32} {x5 : Int} {σ : zS} {p : Nat} {m : zM} {o : Int × zS}, X1.toInt = x1 → X2.toInt = x2 → Y3.toInt = y3 → X5.toInt = x5 → zRep xl xs p m σ → g_m_keep_L14 n x1 x2 y3 x5 σ = some o → zGo xl xs (fun p' => p = p') 5 253 14 [(0, .ref 143), (1, .int X1), (2, .int X2), (3, .long Y3), (5, .int X5)] [] m (vI o.1) o.2
  | 0, _, _, _, _, _, _, _, _, _, _, _, _, _, _, _, _, _, h => by cases h
  | n + 1, X1, x1, X2, x2, Y3, y3, X5, x5, σ, p, m, o, hx1, hx2, hy3, hx5, H, h => by
    have hq : z_mth 253 = some z_r253 := rfl
    have ih := fun {X1 : Int32} {x1 : Int} {X2 : Int32} {x2 : Int} {Y3 : Int64} {y3 : Int} {X5 : Int32} {x5 : Int} {σ : zS} {p : Nat} {m : zM} {o : Int × zS} => g_m_keep_L14_ok (xl := xl) (xs := xs) n (X1 := X1) (x1 := x1) (X2 := X2) (x2 := x2) (Y3 := Y3) (y3 := y3) (X5 := X5) (x5 := x5) (σ := σ) (p := p) (m := m) (o := o)
    unfold g_m_keep_L14 at h
    refine r_p hq 3 (pc' := 18) (L' := [(0, .ref 143), (1, .int X1), (2, .int X2), (3, .long Y3), (5, .int X5)]) (st' := [.ref 143, .int ((1 : Int32)), .int X5]) rfl ?_
    refine r_gR (b := 144) (pc' := 21) (L' := [(0, .ref 143), (1, .int X1), (2, .int X2), (3, .long Y3), (5, .int X5)]) H hq (z_at.mk 3 rfl rfl) rfl rfl rfl rfl ?_
    refine r_p hq 1 (pc' := 22) (L' := [(0, .ref 143), (1, .int X1), (2, .int X2), (3, .long Y3), (5, .int X5)]) (st' := [.int ((0 : Int32)), .ref 144, .int ((1 : Int32)), .int X5]) rfl ?_
    refine r_ia (pc' := 23) (L' := [(0, .ref 143), (1, .int X1), (2, .int X2), (3, .long Y3), (5, .int X5)]) H hq (z_at.mk 1 rfl rfl) (show zAr 144 0 2740 = true from rfl) (rfl : (0 : Int32).toInt = 0) ⟨by decide, by decide⟩ rfl rfl ?_
    intro V_22 hV_22
    refine r_p hq 1 (pc' := 24) (L' := [(0, .ref 143), (1, .int X1), (2, .int X2), (3, .long Y3), (5, .int X5)]) (st' := [.int (((1 : Int32)) <<< (V_22 &&& 31)), .int X5]) rfl ?_
    rcases z_ite h with ⟨c_24, h⟩ | ⟨c_24, h⟩
    · refine r_t2 (pc' := 141) (L' := [(0, .ref 143), (1, .int X1), (2, .int X2), (3, .long Y3), (5, .int X5)]) hq (z_at.mk 3 rfl rfl) rfl hx5 (tx_ishl (rfl : (1 : Int32).toInt = 1) hV_22) c_24 rfl rfl ?_
      refine r_p hq 1 (pc' := 142) (L' := [(0, .ref 143), (1, .int X1), (2, .int X2), (3, .long Y3), (5, .int X5)]) (st' := [.int X2]) rfl ?_
      cases h
      exact r_ri hq (z_at.mk 1 rfl rfl) rfl rfl hx2 rfl H
    · refine r_f2 (pc' := 27) (L' := [(0, .ref 143), (1, .int X1), (2, .int X2), (3, .long Y3), (5, .int X5)]) hq (z_at.mk 3 rfl rfl) rfl hx5 (tx_ishl (rfl : (1 : Int32).toInt = 1) hV_22) c_24 rfl rfl ?_
      refine r_p hq 6 (pc' := 36) (L' := [(0, .ref 143), (1, .int X1), (2, .int X2), (3, .long Y3), (5, .int X5), (6, .int ((0 : Int32))), (7, .long ((0 : Int64))), (9, .int ((0 : Int32)))]) (st' := []) rfl ?_
      exact g_m_keep_L36_ok ih zK hx1 hx2 hy3 hx5 (rfl : (0 : Int32).toInt = 0) (rfl : (0 : Int64).toInt = 0) (rfl : (0 : Int32).toInt = 0) H h
def g_m_keep (x1 : Int) (σ : zS) : Option (Int × zS) :=
  if 0 ≤ x1 then
    g_m_keep_L14 zK x1 0 0 1 σ
  else
    some (-2, σ)
set_option maxHeartbeats 4000000 in
theorem g_m_keep_ok {xl : Nat} {xs : Nat → Int32} {X1 : Int32} {x1 : Int} (hx1 : X1.toInt = x1) {σ : zS} {p : Nat} {m : zM} {o : Int × zS} (H : zRep xl xs p m σ) (h : g_m_keep x1 σ = some o) : zGo xl xs (fun p' => p = p') 5 253 0 (z_can 253 0 (lv_args 0 [.ref 143, .int X1])) [] m (vI o.1) o.2 := by
  have hq : z_mth 253 = some z_r253 := rfl
  unfold g_m_keep at h
  show zGo xl xs (fun p' => p = p') 5 253 0 [(0, .ref 143), (1, .int X1)] [] m (vI o.1) o.2
  refine r_p hq 1 (pc' := 1) (L' := [(0, .ref 143), (1, .int X1)]) (st' := [.int X1]) rfl ?_
  rcases z_ite h with ⟨c_1, h⟩ | ⟨c_1, h⟩
  · refine r_t1 (pc' := 7) (L' := [(0, .ref 143), (1, .int X1)]) hq (z_at.mk 3 rfl rfl) rfl hx1 c_1 rfl rfl ?_
    refine r_p hq 6 (pc' := 14) (L' := [(0, .ref 143), (1, .int X1), (2, .int ((0 : Int32))), (3, .long ((0 : Int64))), (5, .int ((1 : Int32)))]) (st' := []) rfl ?_
    exact g_m_keep_L14_ok zK hx1 (rfl : (0 : Int32).toInt = 0) (rfl : (0 : Int64).toInt = 0) (rfl : (1 : Int32).toInt = 1) H h
  · refine r_f1 (pc' := 4) (L' := [(0, .ref 143), (1, .int X1)]) hq (z_at.mk 3 rfl rfl) rfl hx1 c_1 rfl rfl ?_
    refine r_p hq 1 (pc' := 6) (L' := [(0, .ref 143), (1, .int X1)]) (st' := [.int ((-2 : Int32))]) rfl ?_
    cases h
    exact r_ri hq (z_at.mk 1 rfl rfl) rfl rfl (rfl : (-2 : Int32).toInt = -2) rfl H
end
