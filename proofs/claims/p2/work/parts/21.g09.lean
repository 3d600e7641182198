/-! THE METHODS over the typed memory, 9 (by wip/zg.py) -/
def g_c_lay (x1 : Int) (x2 : Int) (σ : zS) : Option (Int × zS) :=
  (g_li_refusal x1 σ).bind fun o_5 =>
  if o_5.1 = 0 then
    (g_li_layFrom x1 x2 o_5.2).bind fun o_30 =>
    some (o_30.1, o_30.2)
  else
    some (o_5.1, o_5.2)
set_option maxHeartbeats 4000000 in
theorem g_c_lay_ok {xl : Nat} {xs : Nat → Int32} {X1 : Int32} {x1 : Int} (hx1 : X1.toInt = x1) {X2 : Int32} {x2 : Int} (hx2 : X2.toInt = x2) {σ : zS} {p : Nat} {m : zM} {o : Int × zS} (H : zRep xl xs p m σ) (h : g_c_lay x1 x2 σ = some o) : zGo xl xs (fun p' => p = p') 4 154 0 (z_can 154 0 (lv_args 0 [.ref 39, .int X1, .int X2])) [] m (vI o.1) o.2 := by
  have hq : z_mth 154 = some z_r154 := rfl
  unfold g_c_lay at h
  show zGo xl xs (fun p' => p = p') 4 154 0 [(0, .ref 39), (1, .int X1), (2, .int X2)] [] m (vI o.1) o.2
  refine r_p hq 1 (pc' := 1) (L' := [(0, .ref 39), (1, .int X1), (2, .int X2)]) (st' := [.ref 39]) rfl ?_
  refine r_gR (b := 134) (pc' := 4) (L' := [(0, .ref 39), (1, .int X1), (2, .int X2)]) H hq (z_at.mk 3 rfl rfl) rfl rfl rfl rfl ?_
  refine r_p hq 1 (pc' := 5) (L' := [(0, .ref 39), (1, .int X1), (2, .int X2)]) (st' := [.int X1, .ref 134]) rfl ?_
  obtain ⟨o_5, h_5, h⟩ := Option.bind_eq_some_iff.mp h
  refine r_cvI (pc' := 8) (L' := [(0, .ref 39), (1, .int X1), (2, .int X2)]) (Ps := [.int X1]) (rest := []) hq (z_at.mk 3 rfl rfl) (Or.inl ⟨rfl, rfl⟩) rfl rfl (by decide) (by decide) rfl (Nat.not_lt.mpr (Nat.le_of_ble_eq_true rfl)) rfl rfl (z_cat_le 0 rfl (by decide)) (z_lgl_le 2 rfl (by decide)) (by decide) (H.tg rfl) (by omega) (g_li_refusal_ok hx1 H h_5) rfl rfl ?_
  intro R_5 m_5 p_5 e_5 hR_5 H_5
  subst e_5
  refine r_p hq 2 (pc' := 10) (L' := [(3, .int R_5), (0, .ref 39), (1, .int X1), (2, .int X2)]) (st' := [.int R_5]) rfl ?_
  rcases z_ite h with ⟨c_10, h⟩ | ⟨c_10, h⟩
  · refine r_t1 (pc' := 17) (L' := [(3, .int R_5), (0, .ref 39), (1, .int X1), (2, .int X2)]) hq (z_at.mk 3 rfl rfl) rfl hR_5 c_10 rfl rfl ?_
    refine r_p hq 1 (pc' := 18) (L' := [(3, .int R_5), (0, .ref 39), (1, .int X1), (2, .int X2)]) (st' := [.ref 39]) rfl ?_
    refine r_gR (b := 134) (pc' := 21) (L' := [(3, .int R_5), (0, .ref 39), (1, .int X1), (2, .int X2)]) H_5 hq (z_at.mk 3 rfl rfl) rfl rfl rfl rfl ?_
    refine r_p hq 3 (pc' := 24) (L' := [(3, .int R_5), (0, .ref 39), (1, .int X1), (2, .int X2)]) (st' := [.ref 39, .int X2, .int X1, .ref 134]) rfl ?_
    refine r_gR (b := 40) (pc' := 27) (L' := [(3, .int R_5), (0, .ref 39), (1, .int X1), (2, .int X2)]) H_5 hq (z_at.mk 3 rfl rfl) rfl rfl rfl rfl ?_
    refine r_gR (b := 60) (pc' := 30) (L' := [(3, .int R_5), (0, .ref 39), (1, .int X1), (2, .int X2)]) H_5 hq (z_at.mk 3 rfl rfl) rfl rfl rfl rfl ?_
    obtain ⟨o_30, h_30, h⟩ := Option.bind_eq_some_iff.mp h
    refine r_cvI (pc' := 33) (L' := []) (Ps := [.int X1, .int X2, .ref 60]) (rest := []) hq (z_at.mk 3 rfl rfl) (Or.inl ⟨rfl, rfl⟩) rfl rfl (by decide) (by decide) rfl (Nat.not_lt.mpr (Nat.le_of_ble_eq_true rfl)) rfl rfl (z_cat_le 0 rfl (by decide)) (z_lgl_le 4 rfl (by decide)) (by decide) (H_5.tg rfl) (by omega) (g_li_layFrom_ok hx1 hx2 H_5 h_30) rfl rfl ?_
    intro R_30 m_30 p_30 e_30 hR_30 H_30
    subst e_30
    cases h
    exact r_ri hq (z_at.mk 1 rfl rfl) rfl rfl hR_30 rfl H_30
  · refine r_f1 (pc' := 13) (L' := [(3, .int R_5), (0, .ref 39), (1, .int X1), (2, .int X2)]) hq (z_at.mk 3 rfl rfl) rfl hR_5 c_10 rfl rfl ?_
    refine r_p hq 2 (pc' := 33) (L' := []) (st' := [.int R_5]) rfl ?_
    cases h
    exact r_ri hq (z_at.mk 1 rfl rfl) rfl rfl hR_5 rfl H_5
def g_c_judge (x1 : Int) (x2 : Int) (σ : zS) : Option (Int × zS) :=
  (g_li_refusal x1 σ).bind fun o_5 =>
  if o_5.1 = 0 then
    (g_li_judgeFrom x1 x2 o_5.2).bind fun o_30 =>
    some (o_30.1, o_30.2)
  else
    some (o_5.1, o_5.2)
set_option maxHeartbeats 4000000 in
theorem g_c_judge_ok {xl : Nat} {xs : Nat → Int32} {X1 : Int32} {x1 : Int} (hx1 : X1.toInt = x1) {X2 : Int32} {x2 : Int} (hx2 : X2.toInt = x2) {σ : zS} {p : Nat} {m : zM} {o : Int × zS} (H : zRep xl xs p m σ) (h : g_c_judge x1 x2 σ = some o) : zGo xl xs (fun p' => p = p') 4 155 0 (z_can 155 0 (lv_args 0 [.ref 39, .int X1, .int X2])) [] m (vI o.1) o.2 := by
  have hq : z_mth 155 = some z_r155 := rfl
  unfold g_c_judge at h
  show zGo xl xs (fun p' => p = p') 4 155 0 [(0, .ref 39), (1, .int X1), (2, .int X2)] [] m (vI o.1) o.2
  refine r_p hq 1 (pc' := 1) (L' := [(0, .ref 39), (1, .int X1), (2, .int X2)]) (st' := [.ref 39]) rfl ?_
  refine r_gR (b := 134) (pc' := 4) (L' := [(0, .ref 39), (1, .int X1), (2, .int X2)]) H hq (z_at.mk 3 rfl rfl) rfl rfl rfl rfl ?_
  refine r_p hq 1 (pc' := 5) (L' := [(0, .ref 39), (1, .int X1), (2, .int X2)]) (st' := [.int X1, .ref 134]) rfl ?_
  obtain ⟨o_5, h_5, h⟩ := Option.bind_eq_some_iff.mp h
  refine r_cvI (pc' := 8) (L' := [(0, .ref 39), (1, .int X1), (2, .int X2)]) (Ps := [.int X1]) (rest := []) hq (z_at.mk 3 rfl rfl) (Or.inl ⟨rfl, rfl⟩) rfl rfl (by decide) (by decide) rfl (Nat.not_lt.mpr (Nat.le_of_ble_eq_true rfl)) rfl rfl (z_cat_le 0 rfl (by decide)) (z_lgl_le 2 rfl (by decide)) (by decide) (H.tg rfl) (by omega) (g_li_refusal_ok hx1 H h_5) rfl rfl ?_
  intro R_5 m_5 p_5 e_5 hR_5 H_5
  subst e_5
  refine r_p hq 2 (pc' := 10) (L' := [(3, .int R_5), (0, .ref 39), (1, .int X1), (2, .int X2)]) (st' := [.int R_5]) rfl ?_
  rcases z_ite h with ⟨c_10, h⟩ | ⟨c_10, h⟩
  · refine r_t1 (pc' := 17) (L' := [(3, .int R_5), (0, .ref 39), (1, .int X1), (2, .int X2)]) hq (z_at.mk 3 rfl rfl) rfl hR_5 c_10 rfl rfl ?_
    refine r_p hq 1 (pc' := 18) (L' := [(3, .int R_5), (0, .ref 39), (1, .int X1), (2, .int X2)]) (st' := [.ref 39]) rfl ?_
    refine r_gR (b := 134) (pc' := 21) (L' := [(3, .int R_5), (0, .ref 39), (1, .int X1), (2, .int X2)]) H_5 hq (z_at.mk 3 rfl rfl) rfl rfl rfl rfl ?_
    refine r_p hq 3 (pc' := 24) (L' := [(3, .int R_5), (0, .ref 39), (1, .int X1), (2, .int X2)]) (st' := [.ref 39, .int X2, .int X1, .ref 134]) rfl ?_
    refine r_gR (b := 40) (pc' := 27) (L' := [(3, .int R_5), (0, .ref 39), (1, .int X1), (2, .int X2)]) H_5 hq (z_at.mk 3 rfl rfl) rfl rfl rfl rfl ?_
    refine r_gR (b := 60) (pc' := 30) (L' := [(3, .int R_5), (0, .ref 39), (1, .int X1), (2, .int X2)]) H_5 hq (z_at.mk 3 rfl rfl) rfl rfl rfl rfl ?_
    obtain ⟨o_30, h_30, h⟩ := Option.bind_eq_some_iff.mp h
    refine r_cvI (pc' := 33) (L' := []) (Ps := [.int X1, .int X2, .ref 60]) (rest := []) hq (z_at.mk 3 rfl rfl) (Or.inl ⟨rfl, rfl⟩) rfl rfl (by decide) (by decide) rfl (Nat.not_lt.mpr (Nat.le_of_ble_eq_true rfl)) rfl rfl (z_cat_le 0 rfl (by decide)) (z_lgl_le 4 rfl (by decide)) (by decide) (H_5.tg rfl) (by omega) (g_li_judgeFrom_ok hx1 hx2 H_5 h_30) rfl rfl ?_
    intro R_30 m_30 p_30 e_30 hR_30 H_30
    subst e_30
    cases h
    exact r_ri hq (z_at.mk 1 rfl rfl) rfl rfl hR_30 rfl H_30
  · refine r_f1 (pc' := 13) (L' := [(3, .int R_5), (0, .ref 39), (1, .int X1), (2, .int X2)]) hq (z_at.mk 3 rfl rfl) rfl hR_5 c_10 rfl rfl ?_
    refine r_p hq 2 (pc' := 33) (L' := []) (st' := [.int R_5]) rfl ?_
    cases h
    exact r_ri hq (z_at.mk 1 rfl rfl) rfl rfl hR_5 rfl H_5
def g_c_image (σ : zS) : Option (Int × zS) :=
  (g_st_copyFrom 73 40 σ).bind fun o_8 =>
  let s_13 := zu o_8.2 39 2 1
  let v_23 := s_13 48 2
  some (v_23, s_13)
set_option maxHeartbeats 4000000 in
theorem g_c_image_ok {xl : Nat} {xs : Nat → Int32} {σ : zS} {p : Nat} {m : zM} {o : Int × zS} (H : zRep xl xs p m σ) (h : g_c_image σ = some o) : zGo xl xs (fun p' => p = p') 4 156 0 (z_can 156 0 (lv_args 0 [.ref 39])) [] m (vI o.1) o.2 := by
  have hq : z_mth 156 = some z_r156 := rfl
  unfold g_c_image at h
  show zGo xl xs (fun p' => p = p') 4 156 0 [(0, .ref 39)] [] m (vI o.1) o.2
  refine r_p hq 1 (pc' := 1) (L' := [(0, .ref 39)]) (st' := [.ref 39]) rfl ?_
  refine r_gR (b := 73) (pc' := 4) (L' := [(0, .ref 39)]) H hq (z_at.mk 3 rfl rfl) rfl rfl rfl rfl ?_
  refine r_p hq 1 (pc' := 5) (L' := [(0, .ref 39)]) (st' := [.ref 39, .ref 73]) rfl ?_
  refine r_gR (b := 40) (pc' := 8) (L' := [(0, .ref 39)]) H hq (z_at.mk 3 rfl rfl) rfl rfl rfl rfl ?_
  obtain ⟨o_8, h_8, h⟩ := Option.bind_eq_some_iff.mp h
  refine r_cvV (pc' := 11) (L' := [(0, .ref 39)]) (Ps := [.ref 40]) (rest := []) hq (z_at.mk 3 rfl rfl) (Or.inl ⟨rfl, rfl⟩) rfl rfl (by decide) (by decide) rfl (Nat.not_lt.mpr (Nat.le_of_ble_eq_true rfl)) rfl rfl (z_cat_le 0 rfl (by decide)) (z_lgl_le 2 rfl (by decide)) (by decide) (H.tg rfl) (by omega) (g_st_copyFrom_ok rfl rfl H h_8) rfl rfl ?_
  intro m_8 p_8 e_8 H_8
  subst e_8
  refine r_p hq 2 (pc' := 13) (L' := [(0, .ref 39)]) (st' := [.int ((1 : Int32)), .ref 39]) rfl ?_
  refine r_pI (X := (1 : Int32)) (pc' := 16) (L' := [(0, .ref 39)]) H_8 hq (z_at.mk 3 rfl rfl) rfl rfl (rfl : (1 : Int32).toInt = 1) (by decide) rfl rfl rfl rfl ?_
  intro m_13 H_13
  refine r_p hq 1 (pc' := 17) (L' := [(0, .ref 39)]) (st' := [.ref 39]) rfl ?_
  refine r_gR (b := 40) (pc' := 20) (L' := [(0, .ref 39)]) H_13 hq (z_at.mk 3 rfl rfl) rfl rfl rfl rfl ?_
  refine r_gR (b := 48) (pc' := 23) (L' := [(0, .ref 39)]) H_13 hq (z_at.mk 3 rfl rfl) rfl rfl rfl rfl ?_
  refine r_gI (pc' := 26) (L' := [(0, .ref 39)]) H_13 hq (z_at.mk 3 rfl rfl) rfl rfl rfl rfl ?_
  intro V_23 hV_23
  cases h
  exact r_ri hq (z_at.mk 1 rfl rfl) rfl rfl hV_23 rfl H_13
def g_c_undo (σ : zS) : Option (Int × zS) :=
  let v_1 := σ 39 2
  if v_1 ≠ 0 then
    (g_st_copyFrom 40 73 σ).bind fun o_18 =>
    let v_28 := o_18.2 48 2
    some (v_28, o_18.2)
  else
    some (-3, σ)
set_option maxHeartbeats 4000000 in
theorem g_c_undo_ok {xl : Nat} {xs : Nat → Int32} {σ : zS} {p : Nat} {m : zM} {o : Int × zS} (H : zRep xl xs p m σ) (h : g_c_undo σ = some o) : zGo xl xs (fun p' => p = p') 4 157 0 (z_can 157 0 (lv_args 0 [.ref 39])) [] m (vI o.1) o.2 := by
  have hq : z_mth 157 = some z_r157 := rfl
  unfold g_c_undo at h
  show zGo xl xs (fun p' => p = p') 4 157 0 [(0, .ref 39)] [] m (vI o.1) o.2
  refine r_p hq 1 (pc' := 1) (L' := [(0, .ref 39)]) (st' := [.ref 39]) rfl ?_
  refine r_gI (pc' := 4) (L' := [(0, .ref 39)]) H hq (z_at.mk 3 rfl rfl) rfl rfl rfl rfl ?_
  intro V_1 hV_1
  rcases z_ite h with ⟨c_4, h⟩ | ⟨c_4, h⟩
  · refine r_t1 (pc' := 10) (L' := [(0, .ref 39)]) hq (z_at.mk 3 rfl rfl) rfl hV_1 c_4 rfl rfl ?_
    refine r_p hq 1 (pc' := 11) (L' := [(0, .ref 39)]) (st' := [.ref 39]) rfl ?_
    refine r_gR (b := 40) (pc' := 14) (L' := [(0, .ref 39)]) H hq (z_at.mk 3 rfl rfl) rfl rfl rfl rfl ?_
    refine r_p hq 1 (pc' := 15) (L' := [(0, .ref 39)]) (st' := [.ref 39, .ref 40]) rfl ?_
    refine r_gR (b := 73) (pc' := 18) (L' := [(0, .ref 39)]) H hq (z_at.mk 3 rfl rfl) rfl rfl rfl rfl ?_
    obtain ⟨o_18, h_18, h⟩ := Option.bind_eq_some_iff.mp h
    refine r_cvV (pc' := 21) (L' := [(0, .ref 39)]) (Ps := [.ref 73]) (rest := []) hq (z_at.mk 3 rfl rfl) (Or.inl ⟨rfl, rfl⟩) rfl rfl (by decide) (by decide) rfl (Nat.not_lt.mpr (Nat.le_of_ble_eq_true rfl)) rfl rfl (z_cat_le 0 rfl (by decide)) (z_lgl_le 2 rfl (by decide)) (by decide) (H.tg rfl) (by omega) (g_st_copyFrom_ok rfl rfl H h_18) rfl rfl ?_
    intro m_18 p_18 e_18 H_18
    subst e_18
    refine r_p hq 1 (pc' := 22) (L' := [(0, .ref 39)]) (st' := [.ref 39]) rfl ?_
    refine r_gR (b := 40) (pc' := 25) (L' := [(0, .ref 39)]) H_18 hq (z_at.mk 3 rfl rfl) rfl rfl rfl rfl ?_
    refine r_gR (b := 48) (pc' := 28) (L' := [(0, .ref 39)]) H_18 hq (z_at.mk 3 rfl rfl) rfl rfl rfl rfl ?_
    refine r_gI (pc' := 31) (L' := [(0, .ref 39)]) H_18 hq (z_at.mk 3 rfl rfl) rfl rfl rfl rfl ?_
    intro V_28 hV_28
    cases h
    exact r_ri hq (z_at.mk 1 rfl rfl) rfl rfl hV_28 rfl H_18
  · refine r_f1 (pc' := 7) (L' := [(0, .ref 39)]) hq (z_at.mk 3 rfl rfl) rfl hV_1 c_4 rfl rfl ?_
    refine r_p hq 1 (pc' := 9) (L' := [(0, .ref 39)]) (st' := [.int ((-3 : Int32))]) rfl ?_
    cases h
    exact r_ri hq (z_at.mk 1 rfl rfl) rfl rfl (rfl : (-3 : Int32).toInt = -3) rfl H
def g_m_isIn (x0 : Int) (x1 : Int) (x2 : Int) (σ : zS) : Option (Int × zS) :=
  if x0 < x1 then
    some (0, σ)
  else
    if x2 < x0 then
      some (0, σ)
    else
      some (1, σ)
set_option maxHeartbeats 4000000 in
theorem g_m_isIn_ok {xl : Nat} {xs : Nat → Int32} {X0 : Int32} {x0 : Int} (hx0 : X0.toInt = x0) {X1 : Int32} {x1 : Int} (hx1 : X1.toInt = x1) {X2 : Int32} {x2 : Int} (hx2 : X2.toInt = x2) {σ : zS} {p : Nat} {m : zM} {o : Int × zS} (H : zRep xl xs p m σ) (h : g_m_isIn x0 x1 x2 σ = some o) : zGo xl xs (fun p' => p = p') 1 159 0 (z_can 159 0 (lv_args 0 [.int X0, .int X1, .int X2])) [] m (vI o.1) o.2 := by
  have hq : z_mth 159 = some z_r159 := rfl
  unfold g_m_isIn at h
  show zGo xl xs (fun p' => p = p') 1 159 0 [(0, .int X0), (1, .int X1), (2, .int X2)] [] m (vI o.1) o.2
  refine r_p hq 2 (pc' := 2) (L' := [(0, .int X0), (1, .int X1), (2, .int X2)]) (st' := [.int X1, .int X0]) rfl ?_
  rcases z_ite h with ⟨c_2, h⟩ | ⟨c_2, h⟩
  · refine r_t2 (pc' := 14) (L' := []) hq (z_at.mk 3 rfl rfl) rfl hx0 hx1 c_2 rfl rfl ?_
    refine r_p hq 1 (pc' := 15) (L' := []) (st' := [.int ((0 : Int32))]) rfl ?_
    cases h
    exact r_ri hq (z_at.mk 1 rfl rfl) rfl rfl (rfl : (0 : Int32).toInt = 0) rfl H
  · refine r_f2 (pc' := 5) (L' := [(0, .int X0), (1, .int X1), (2, .int X2)]) hq (z_at.mk 3 rfl rfl) rfl hx0 hx1 c_2 rfl rfl ?_
    refine r_p hq 2 (pc' := 7) (L' := [(0, .int X0), (1, .int X1), (2, .int X2)]) (st' := [.int X2, .int X0]) rfl ?_
    rcases z_ite h with ⟨c_7, h⟩ | ⟨c_7, h⟩
    · refine r_t2 (pc' := 14) (L' := []) hq (z_at.mk 3 rfl rfl) rfl hx0 hx2 c_7 rfl rfl ?_
      refine r_p hq 1 (pc' := 15) (L' := []) (st' := [.int ((0 : Int32))]) rfl ?_
      cases h
      exact r_ri hq (z_at.mk 1 rfl rfl) rfl rfl (rfl : (0 : Int32).toInt = 0) rfl H
    · refine r_f2 (pc' := 10) (L' := [(0, .int X0), (1, .int X1), (2, .int X2)]) hq (z_at.mk 3 rfl rfl) rfl hx0 hx2 c_7 rfl rfl ?_
      refine r_p hq 2 (pc' := 15) (L' := []) (st' := [.int ((1 : Int32))]) rfl ?_
      cases h
      exact r_ri hq (z_at.mk 1 rfl rfl) rfl rfl (rfl : (1 : Int32).toInt = 1) rfl H
def g_m_less (x0 : Int) (x1 : Int) (σ : zS) : Option (Int × zS) :=
  if x1 ≤ x0 then
    some (x1, σ)
  else
    some (x0, σ)
set_option maxHeartbeats 4000000 in
theorem g_m_less_ok {xl : Nat} {xs : Nat → Int32} {X0 : Int32} {x0 : Int} (hx0 : X0.toInt = x0) {X1 : Int32} {x1 : Int} (hx1 : X1.toInt = x1) {σ : zS} {p : Nat} {m : zM} {o : Int × zS} (H : zRep xl xs p m σ) (h : g_m_less x0 x1 σ = some o) : zGo xl xs (fun p' => p = p') 1 160 0 (z_can 160 0 (lv_args 0 [.int X0, .int X1])) [] m (vI o.1) o.2 := by
  have hq : z_mth 160 = some z_r160 := rfl
  unfold g_m_less at h
  show zGo xl xs (fun p' => p = p') 1 160 0 [(0, .int X0), (1, .int X1)] [] m (vI o.1) o.2
  refine r_p hq 2 (pc' := 2) (L' := [(0, .int X0), (1, .int X1)]) (st' := [.int X1, .int X0]) rfl ?_
  rcases z_ite h with ⟨c_2, h⟩ | ⟨c_2, h⟩
  · refine r_t2 (pc' := 9) (L' := [(0, .int X0), (1, .int X1)]) hq (z_at.mk 3 rfl rfl) rfl hx0 hx1 c_2 rfl rfl ?_
    refine r_p hq 1 (pc' := 10) (L' := []) (st' := [.int X1]) rfl ?_
    cases h
    exact r_ri hq (z_at.mk 1 rfl rfl) rfl rfl hx1 rfl H
  · refine r_f2 (pc' := 5) (L' := [(0, .int X0), (1, .int X1)]) hq (z_at.mk 3 rfl rfl) rfl hx0 hx1 c_2 rfl rfl ?_
    refine r_p hq 2 (pc' := 10) (L' := []) (st' := [.int X0]) rfl ?_
    cases h
    exact r_ri hq (z_at.mk 1 rfl rfl) rfl rfl hx0 rfl H
def g_m_more (x0 : Int) (x1 : Int) (σ : zS) : Option (Int × zS) :=
  if x0 ≤ x1 then
    some (x1, σ)
  else
    some (x0, σ)
set_option maxHeartbeats 4000000 in
theorem g_m_more_ok {xl : Nat} {xs : Nat → Int32} {X0 : Int32} {x0 : Int} (hx0 : X0.toInt = x0) {X1 : Int32} {x1 : Int} (hx1 : X1.toInt = x1) {σ : zS} {p : Nat} {m : zM} {o : Int × zS} (H : zRep xl xs p m σ) (h : g_m_more x0 x1 σ = some o) : zGo xl xs (fun p' => p = p') 1 161 0 (z_can 161 0 (lv_args 0 [.int X0, .int X1])) [] m (vI o.1) o.2 := by
  have hq : z_mth 161 = some z_r161 := rfl
  unfold g_m_more at h
  show zGo xl xs (fun p' => p = p') 1 161 0 [(0, .int X0), (1, .int X1)] [] m (vI o.1) o.2
  refine r_p hq 2 (pc' := 2) (L' := [(0, .int X0), (1, .int X1)]) (st' := [.int X1, .int X0]) rfl ?_
  rcases z_ite h with ⟨c_2, h⟩ | ⟨c_2, h⟩
  · refine r_t2 (pc' := 9) (L' := [(0, .int X0), (1, .int X1)]) hq (z_at.mk 3 rfl rfl) rfl hx0 hx1 c_2 rfl rfl ?_
    refine r_p hq 1 (pc' := 10) (L' := []) (st' := [.int X1]) rfl ?_
    cases h
    exact r_ri hq (z_at.mk 1 rfl rfl) rfl rfl hx1 rfl H
  · refine r_f2 (pc' := 5) (L' := [(0, .int X0), (1, .int X1)]) hq (z_at.mk 3 rfl rfl) rfl hx0 hx1 c_2 rfl rfl ?_
    refine r_p hq 2 (pc' := 10) (L' := []) (st' := [.int X0]) rfl ?_
    cases h
    exact r_ri hq (z_at.mk 1 rfl rfl) rfl rfl hx0 rfl H
def g_m_keeps_L26 (a1 : Nat) (a2 : Nat) : Nat → Int → zS → Option (Unit × zS)
  | 0, _, _ => none
  | n + 1, x3, σ =>
    if 361 ≤ x3 then
      some ((), σ)
    else
      if 0 ≤ x3 ∧ x3 < 361 then
      let v_40 := σ 147 x3
      if 0 ≤ x3 ∧ x3 < 361 then
      let s_41 := zu σ a2 x3 v_40
      (g_m_keeps_L26 a1 a2 n) (w32 (x3 + 1)) s_41
      else none
      else none
set_option maxHeartbeats 4000000 in
theorem g_m_keeps_L26_ok {xl : Nat} {xs : Nat → Int32} {a1 : Nat} (ha1 : zIn [145, 146] a1 = true) {a2 : Nat} (ha2 : zIn [148, 149] a2 = true) : ∀ (n : Nat) {X3 : Int32} {x3 : Int} {σ : zS} {p : Nat} {m : zM} {o : Unit × zS}, X3.toInt = x3 → zRep xl xs p m σ → g_m_keeps_L26 a1 a2 n x3 σ = some o → zGo xl xs (fun p' => p = p') 1 162 26 [(0, .ref 143), (2, .ref a2), (3, .int X3)] [] m vV o.2
  | 0, _, _, _, _, _, _, _, _, h => by cases h
  | n + 1, X3, x3, σ, p, m, o, hx3, H, h => by
    have hq : z_mth 162 = some z_r162 := rfl
    have ih := fun {X3 : Int32} {x3 : Int} {σ : zS} {p : Nat} {m : zM} {o : Unit × zS} => g_m_keeps_L26_ok (xl := xl) (xs := xs) ha1 ha2 n (X3 := X3) (x3 := x3) (σ := σ) (p := p) (m := m) (o := o)
    unfold g_m_keeps_L26 at h
    refine r_p hq 2 (pc' := 30) (L' := [(0, .ref 143), (2, .ref a2), (3, .int X3)]) (st' := [.int ((361 : Int32)), .int X3]) rfl ?_
    rcases z_ite h with ⟨c_30, h⟩ | ⟨c_30, h⟩
    · refine r_t2 (pc' := 48) (L' := [(0, .ref 143), (2, .ref a2), (3, .int X3)]) hq (z_at.mk 3 rfl rfl) rfl hx3 (rfl : (361 : Int32).toInt = 361) c_30 rfl rfl ?_
      cases h
      exact r_rv hq (z_at.mk 1 rfl rfl) rfl rfl H
    · refine r_f2 (pc' := 33) (L' := [(0, .ref 143), (2, .ref a2), (3, .int X3)]) hq (z_at.mk 3 rfl rfl) rfl hx3 (rfl : (361 : Int32).toInt = 361) c_30 rfl rfl ?_
      refine r_p hq 3 (pc' := 36) (L' := [(0, .ref 143), (2, .ref a2), (3, .int X3)]) (st' := [.ref 143, .int X3, .ref a2]) rfl ?_
      refine r_gR (b := 147) (pc' := 39) (L' := [(0, .ref 143), (2, .ref a2), (3, .int X3)]) H hq (z_at.mk 3 rfl rfl) rfl rfl rfl rfl ?_
      refine r_p hq 1 (pc' := 40) (L' := [(0, .ref 143), (2, .ref a2), (3, .int X3)]) (st' := [.int X3, .ref 147, .int X3, .ref a2]) rfl ?_
      obtain ⟨g_40, h⟩ := z_ifo_some h
      refine r_la (pc' := 41) (L' := [(0, .ref 143), (2, .ref a2), (3, .int X3)]) H hq (z_at.mk 1 rfl rfl) (show zAr 147 1 361 = true from rfl) hx3 g_40 rfl rfl ?_
      intro V_40 hV_40
      obtain ⟨g_41, h⟩ := z_ifo_some h
      refine r_ls (pc' := 42) (L' := [(0, .ref 143), (2, .ref a2), (3, .int X3)]) H hq (z_at.mk 1 rfl rfl) (zIn_all (l := [148, 149]) (p := fun a => zAr a 1 361) rfl ha2) hx3 g_41 hV_40 rfl rfl ?_
      intro m_41 H_41
      refine r_p hq 2 (pc' := 26) (L' := [(0, .ref 143), (2, .ref a2), (3, .int (X3 + (1 : Int32)))]) (st' := []) rfl ?_
      exact ih (tx_iadd hx3 (rfl : (1 : Int32).toInt = 1)) H_41 h
def g_m_keeps_L2 (a1 : Nat) (a2 : Nat) : Nat → Int → zS → Option (Unit × zS)
  | 0, _, _ => none
  | n + 1, x3, σ =>
    if 2740 ≤ x3 then
      g_m_keeps_L26 a1 a2 zK 0 σ
    else
      if 0 ≤ x3 ∧ x3 < 2740 then
      let v_16 := σ 144 x3
      if 0 ≤ x3 ∧ x3 < 2740 then
      let s_17 := zu σ a1 x3 v_16
      (g_m_keeps_L2 a1 a2 n) (w32 (x3 + 1)) s_17
      else none
      else none
set_option maxHeartbeats 4000000 in
theorem g_m_keeps_L2_ok {xl : Nat} {xs : Nat → Int32} {a1 : Nat} (ha1 : zIn [145, 146] a1 = true) {a2 : Nat} (ha2 : zIn [148, 149] a2 = true) : ∀ (n : Nat) {X3 : Int32} {x3 : Int} {σ : zS} {p : Nat} {m : zM} {o : Unit × zS}, X3.toInt = x3 → zRep xl xs p m σ → g_m_keeps_L2 a1 a2 n x3 σ = some o → zGo xl xs (fun p' => p = p') 1 162 2 [(0, .ref 143), (1, .ref a1), (2, .ref a2), (3, .int X3)] [] m vV o.2
  | 0, _, _, _, _, _, _, _, _, h => by cases h
  | n + 1, X3, x3, σ, p, m, o, hx3, H, h => by
    have hq : z_mth 162 = some z_r162 := rfl
    have ih := fun {X3 : Int32} {x3 : Int} {σ : zS} {p : Nat} {m : zM} {o : Unit × zS} => g_m_keeps_L2_ok (xl := xl) (xs := xs) ha1 ha2 n (X3 := X3) (x3 := x3) (σ := σ) (p := p) (m := m) (o := o)
    unfold g_m_keeps_L2 at h
    refine r_p hq 2 (pc' := 6) (L' := [(0, .ref 143), (1, .ref a1), (2, .ref a2), (3, .int X3)]) (st' := [.int ((2740 : Int32)), .int X3]) rfl ?_
    rcases z_ite h with ⟨c_6, h⟩ | ⟨c_6, h⟩
    · refine r_t2 (pc' := 24) (L' := [(0, .ref 143), (1, .ref a1), (2, .ref a2), (3, .int X3)]) hq (z_at.mk 3 rfl rfl) rfl hx3 (rfl : (2740 : Int32).toInt = 2740) c_6 rfl rfl ?_
      refine r_p hq 2 (pc' := 26) (L' := [(0, .ref 143), (2, .ref a2), (3, .int ((0 : Int32)))]) (st' := []) rfl ?_
      exact g_m_keeps_L26_ok ha1 ha2 zK (rfl : (0 : Int32).toInt = 0) H h
    · refine r_f2 (pc' := 9) (L' := [(0, .ref 143), (1, .ref a1), (2, .ref a2), (3, .int X3)]) hq (z_at.mk 3 rfl rfl) rfl hx3 (rfl : (2740 : Int32).toInt = 2740) c_6 rfl rfl ?_
      refine r_p hq 3 (pc' := 12) (L' := [(0, .ref 143), (1, .ref a1), (2, .ref a2), (3, .int X3)]) (st' := [.ref 143, .int X3, .ref a1]) rfl ?_
      refine r_gR (b := 144) (pc' := 15) (L' := [(0, .ref 143), (1, .ref a1), (2, .ref a2), (3, .int X3)]) H hq (z_at.mk 3 rfl rfl) rfl rfl rfl rfl ?_
      refine r_p hq 1 (pc' := 16) (L' := [(0, .ref 143), (1, .ref a1), (2, .ref a2), (3, .int X3)]) (st' := [.int X3, .ref 144, .int X3, .ref a1]) rfl ?_
      obtain ⟨g_16, h⟩ := z_ifo_some h
      refine r_ia (pc' := 17) (L' := [(0, .ref 143), (1, .ref a1), (2, .ref a2), (3, .int X3)]) H hq (z_at.mk 1 rfl rfl) (show zAr 144 0 2740 = true from rfl) hx3 g_16 rfl rfl ?_
      intro V_16 hV_16
      obtain ⟨g_17, h⟩ := z_ifo_some h
      refine r_is (pc' := 18) (L' := [(0, .ref 143), (1, .ref a1), (2, .ref a2), (3, .int X3)]) H hq (z_at.mk 1 rfl rfl) (zIn_all (l := [145, 146]) (p := fun a => zAr a 0 2740) rfl ha1) hx3 g_17 hV_16 rfl rfl ?_
      intro m_17 H_17
      refine r_p hq 2 (pc' := 2) (L' := [(0, .ref 143), (1, .ref a1), (2, .ref a2), (3, .int (X3 + (1 : Int32)))]) (st' := []) rfl ?_
      exact ih (tx_iadd hx3 (rfl : (1 : Int32).toInt = 1)) H_17 h
def g_m_keeps (a1 : Nat) (a2 : Nat) (σ : zS) : Option (Unit × zS) :=
  g_m_keeps_L2 a1 a2 zK 0 σ
set_option maxHeartbeats 4000000 in
theorem g_m_keeps_ok {xl : Nat} {xs : Nat → Int32} {a1 : Nat} (ha1 : zIn [145, 146] a1 = true) {a2 : Nat} (ha2 : zIn [148, 149] a2 = true) {σ : zS} {p : Nat} {m : zM} {o : Unit × zS} (H : zRep xl xs p m σ) (h : g_m_keeps a1 a2 σ = some o) : zGo xl xs (fun p' => p = p') 1 162 0 (z_can 162 0 (lv_args 0 [.ref 143, .ref a1, .ref a2])) [] m vV o.2 := by
  have hq : z_mth 162 = some z_r162 := rfl
  unfold g_m_keeps at h
  show zGo xl xs (fun p' => p = p') 1 162 0 [(0, .ref 143), (1, .ref a1), (2, .ref a2)] [] m vV o.2
  refine r_p hq 2 (pc' := 2) (L' := [(0, .ref 143), (1, .ref a1), (2, .ref a2), (3, .int ((0 : Int32)))]) (st' := []) rfl ?_
  exact g_m_keeps_L2_ok ha1 ha2 zK (rfl : (0 : Int32).toInt = 0) H h
def g_m_back_L26 (a1 : Nat) (a2 : Nat) : Nat → Int → zS → Option (Unit × zS)
  | 0, _, _ => none
  | n + 1, x3, σ =>
    if 361 ≤ x3 then
      some ((), σ)
    else
      if 0 ≤ x3 ∧ x3 < 361 then
      let v_40 := σ a2 x3
      if 0 ≤ x3 ∧ x3 < 361 then
      let s_41 := zu σ 147 x3 v_40
      (g_m_back_L26 a1 a2 n) (w32 (x3 + 1)) s_41
      else none
      else none
set_option maxHeartbeats 4000000 in
theorem g_m_back_L26_ok {xl : Nat} {xs : Nat → Int32} {a1 : Nat} (ha1 : zIn [145, 146] a1 = true) {a2 : Nat} (ha2 : zIn [148, 149] a2 = true) : ∀ (n : Nat) {X3 : Int32} {x3 : Int} {σ : zS} {p : Nat} {m : zM} {o : Unit × zS}, X3.toInt = x3 → zRep xl xs p m σ → g_m_back_L26 a1 a2 n x3 σ = some o → zGo xl xs (fun p' => p = p') 1 163 26 [(0, .ref 143), (2, .ref a2), (3, .int X3)] [] m vV o.2
  | 0, _, _, _, _, _, _, _, _, h => by cases h
  | n + 1, X3, x3, σ, p, m, o, hx3, H, h => by
    have hq : z_mth 163 = some z_r163 := rfl
    have ih := fun {X3 : Int32} {x3 : Int} {σ : zS} {p : Nat} {m : zM} {o : Unit × zS} => g_m_back_L26_ok (xl := xl) (xs := xs) ha1 ha2 n (X3 := X3) (x3 := x3) (σ := σ) (p := p) (m := m) (o := o)
    unfold g_m_back_L26 at h
    refine r_p hq 2 (pc' := 30) (L' := [(0, .ref 143), (2, .ref a2), (3, .int X3)]) (st' := [.int ((361 : Int32)), .int X3]) rfl ?_
    rcases z_ite h with ⟨c_30, h⟩ | ⟨c_30, h⟩
    · refine r_t2 (pc' := 48) (L' := [(0, .ref 143), (2, .ref a2), (3, .int X3)]) hq (z_at.mk 3 rfl rfl) rfl hx3 (rfl : (361 : Int32).toInt = 361) c_30 rfl rfl ?_
      cases h
      exact r_rv hq (z_at.mk 1 rfl rfl) rfl rfl H
    · refine r_f2 (pc' := 33) (L' := [(0, .ref 143), (2, .ref a2), (3, .int X3)]) hq (z_at.mk 3 rfl rfl) rfl hx3 (rfl : (361 : Int32).toInt = 361) c_30 rfl rfl ?_
      refine r_p hq 1 (pc' := 34) (L' := [(0, .ref 143), (2, .ref a2), (3, .int X3)]) (st' := [.ref 143]) rfl ?_
      refine r_gR (b := 147) (pc' := 37) (L' := [(0, .ref 143), (2, .ref a2), (3, .int X3)]) H hq (z_at.mk 3 rfl rfl) rfl rfl rfl rfl ?_
      refine r_p hq 3 (pc' := 40) (L' := [(0, .ref 143), (2, .ref a2), (3, .int X3)]) (st' := [.int X3, .ref a2, .int X3, .ref 147]) rfl ?_
      obtain ⟨g_40, h⟩ := z_ifo_some h
      refine r_la (pc' := 41) (L' := [(0, .ref 143), (2, .ref a2), (3, .int X3)]) H hq (z_at.mk 1 rfl rfl) (zIn_all (l := [148, 149]) (p := fun a => zAr a 1 361) rfl ha2) hx3 g_40 rfl rfl ?_
      intro V_40 hV_40
      obtain ⟨g_41, h⟩ := z_ifo_some h
      refine r_ls (pc' := 42) (L' := [(0, .ref 143), (2, .ref a2), (3, .int X3)]) H hq (z_at.mk 1 rfl rfl) (show zAr 147 1 361 = true from rfl) hx3 g_41 hV_40 rfl rfl ?_
      intro m_41 H_41
      refine r_p hq 2 (pc' := 26) (L' := [(0, .ref 143), (2, .ref a2), (3, .int (X3 + (1 : Int32)))]) (st' := []) rfl ?_
      exact ih (tx_iadd hx3 (rfl : (1 : Int32).toInt = 1)) H_41 h
def g_m_back_L2 (a1 : Nat) (a2 : Nat) : Nat → Int → zS → Option (Unit × zS)
  | 0, _, _ => none
  | n + 1, x3, σ =>
    if 2740 ≤ x3 then
      g_m_back_L26 a1 a2 zK 0 σ
    else
      if 0 ≤ x3 ∧ x3 < 2740 then
      let v_16 := σ a1 x3
      if 0 ≤ x3 ∧ x3 < 2740 then
      let s_17 := zu σ 144 x3 v_16
      (g_m_back_L2 a1 a2 n) (w32 (x3 + 1)) s_17
      else none
      else none
set_option maxHeartbeats 4000000 in
theorem g_m_back_L2_ok {xl : Nat} {xs : Nat → Int32} {a1 : Nat} (ha1 : zIn [145, 146] a1 = true) {a2 : Nat} (ha2 : zIn [148, 149] a2 = true) : ∀ (n : Nat) {X3 : Int32} {x3 : Int} {σ : zS} {p : Nat} {m : zM} {o : Unit × zS}, X3.toInt = x3 → zRep xl xs p m σ → g_m_back_L2 a1 a2 n x3 σ = some o → zGo xl xs (fun p' => p = p') 1 163 2 [(0, .ref 143), (1, .ref a1), (2, .ref a2), (3, .int X3)] [] m vV o.2
  | 0, _, _, _, _, _, _, _, _, h => by cases h
  | n + 1, X3, x3, σ, p, m, o, hx3, H, h => by
    have hq : z_mth 163 = some z_r163 := rfl
    have ih := fun {X3 : Int32} {x3 : Int} {σ : zS} {p : Nat} {m : zM} {o : Unit × zS} => g_m_back_L2_ok (xl := xl) (xs := xs) ha1 ha2 n (X3 := X3) (x3 := x3) (σ := σ) (p := p) (m := m) (o := o)
    unfold g_m_back_L2 at h
    refine r_p hq 2 (pc' := 6) (L' := [(0, .ref 143), (1, .ref a1), (2, .ref a2), (3, .int X3)]) (st' := [.int ((2740 : Int32)), .int X3]) rfl ?_
    rcases z_ite h with ⟨c_6, h⟩ | ⟨c_6, h⟩
    · refine r_t2 (pc' := 24) (L' := [(0, .ref 143), (1, .ref a1), (2, .ref a2), (3, .int X3)]) hq (z_at.mk 3 rfl rfl) rfl hx3 (rfl : (2740 : Int32).toInt = 2740) c_6 rfl rfl ?_
      refine r_p hq 2 (pc' := 26) (L' := [(0, .ref 143), (2, .ref a2), (3, .int ((0 : Int32)))]) (st' := []) rfl ?_
      exact g_m_back_L26_ok ha1 ha2 zK (rfl : (0 : Int32).toInt = 0) H h
    · refine r_f2 (pc' := 9) (L' := [(0, .ref 143), (1, .ref a1), (2, .ref a2), (3, .int X3)]) hq (z_at.mk 3 rfl rfl) rfl hx3 (rfl : (2740 : Int32).toInt = 2740) c_6 rfl rfl ?_
      refine r_p hq 1 (pc' := 10) (L' := [(0, .ref 143), (1, .ref a1), (2, .ref a2), (3, .int X3)]) (st' := [.ref 143]) rfl ?_
      refine r_gR (b := 144) (pc' := 13) (L' := [(0, .ref 143), (1, .ref a1), (2, .ref a2), (3, .int X3)]) H hq (z_at.mk 3 rfl rfl) rfl rfl rfl rfl ?_
      refine r_p hq 3 (pc' := 16) (L' := [(0, .ref 143), (1, .ref a1), (2, .ref a2), (3, .int X3)]) (st' := [.int X3, .ref a1, .int X3, .ref 144]) rfl ?_
      obtain ⟨g_16, h⟩ := z_ifo_some h
      refine r_ia (pc' := 17) (L' := [(0, .ref 143), (1, .ref a1), (2, .ref a2), (3, .int X3)]) H hq (z_at.mk 1 rfl rfl) (zIn_all (l := [145, 146]) (p := fun a => zAr a 0 2740) rfl ha1) hx3 g_16 rfl rfl ?_
      intro V_16 hV_16
      obtain ⟨g_17, h⟩ := z_ifo_some h
      refine r_is (pc' := 18) (L' := [(0, .ref 143), (1, .ref a1), (2, .ref a2), (3, .int X3)]) H hq (z_at.mk 1 rfl rfl) (show zAr 144 0 2740 = true from rfl) hx3 g_17 hV_16 rfl rfl ?_
      intro m_17 H_17
      refine r_p hq 2 (pc' := 2) (L' := [(0, .ref 143), (1, .ref a1), (2, .ref a2), (3, .int (X3 + (1 : Int32)))]) (st' := []) rfl ?_
      exact ih (tx_iadd hx3 (rfl : (1 : Int32).toInt = 1)) H_17 h
def g_m_back (a1 : Nat) (a2 : Nat) (σ : zS) : Option (Unit × zS) :=
  g_m_back_L2 a1 a2 zK 0 σ
set_option maxHeartbeats 4000000 in
theorem g_m_back_ok {xl : Nat} {xs : Nat → Int32} {a1 : Nat} (ha1 : zIn [145, 146] a1 = true) {a2 : Nat} (ha2 : zIn [148, 149] a2 = true) {σ : zS} {p : Nat} {m : zM} {o : Unit × zS} (H : zRep xl xs p m σ) (h : g_m_back a1 a2 σ = some o) : zGo xl xs (fun p' => p = p') 1 163 0 (z_can 163 0 (lv_args 0 [.ref 143, .ref a1, .ref a2])) [] m vV o.2 := by
  have hq : z_mth 163 = some z_r163 := rfl
  unfold g_m_back at h
  show zGo xl xs (fun p' => p = p') 1 163 0 [(0, .ref 143), (1, .ref a1), (2, .ref a2)] [] m vV o.2
  refine r_p hq 2 (pc' := 2) (L' := [(0, .ref 143), (1, .ref a1), (2, .ref a2), (3, .int ((0 : Int32)))]) (st' := []) rfl ?_
  exact g_m_back_L2_ok ha1 ha2 zK (rfl : (0 : Int32).toInt = 0) H h
def g_m_isBox (x0 : Int) (x1 : Int) (x2 : Int) (x3 : Int) (σ : zS) : Option (Int × zS) :=
  (g_m_isIn x0 0 31 σ).bind fun o_4 =>
  if o_4.1 = 0 then
    some (0, o_4.2)
  else
    (g_m_isIn x1 x0 31 o_4.2).bind fun o_14 =>
    if o_14.1 = 0 then
      some (0, o_14.2)
    else
      (g_m_isIn x2 0 31 o_14.2).bind fun o_24 =>
      if o_24.1 = 0 then
        some (0, o_24.2)
      else
        (g_m_isIn x3 x2 31 o_24.2).bind fun o_34 =>
        if o_34.1 = 0 then
          some (0, o_34.2)
        else
          some (1, o_34.2)
set_option maxHeartbeats 4000000 in
theorem g_m_isBox_ok {xl : Nat} {xs : Nat → Int32} {X0 : Int32} {x0 : Int} (hx0 : X0.toInt = x0) {X1 : Int32} {x1 : Int} (hx1 : X1.toInt = x1) {X2 : Int32} {x2 : Int} (hx2 : X2.toInt = x2) {X3 : Int32} {x3 : Int} (hx3 : X3.toInt = x3) {σ : zS} {p : Nat} {m : zM} {o : Int × zS} (H : zRep xl xs p m σ) (h : g_m_isBox x0 x1 x2 x3 σ = some o) : zGo xl xs (fun p' => p = p') 2 164 0 (z_can 164 0 (lv_args 0 [.int X0, .int X1, .int X2, .int X3])) [] m (vI o.1) o.2 := by
  have hq : z_mth 164 = some z_r164 := rfl
  unfold g_m_isBox at h
  show zGo xl xs (fun p' => p = p') 2 164 0 [(0, .int X0), (1, .int X1), (2, .int X2), (3, .int X3)] [] m (vI o.1) o.2
  refine r_p hq 3 (pc' := 4) (L' := [(0, .int X0), (1, .int X1), (2, .int X2), (3, .int X3)]) (st' := [.int ((31 : Int32)), .int ((0 : Int32)), .int X0]) rfl ?_
  obtain ⟨o_4, h_4, h⟩ := Option.bind_eq_some_iff.mp h
  refine r_csI (pc' := 7) (L' := [(0, .int X0), (1, .int X1), (2, .int X2), (3, .int X3)]) (As := [.int X0, .int ((0 : Int32)), .int ((31 : Int32))]) (rest := []) (j := 159) hq (z_at.mk 3 rfl rfl) (Or.inl ⟨rfl, rfl⟩) rfl rfl (by omega) (g_m_isIn_ok hx0 (rfl : (0 : Int32).toInt = 0) (rfl : (31 : Int32).toInt = 31) H h_4) rfl rfl ?_
  intro R_4 m_4 p_4 e_4 hR_4 H_4
  subst e_4
  rcases z_ite h with ⟨c_7, h⟩ | ⟨c_7, h⟩
  · refine r_t1 (pc' := 44) (L' := []) hq (z_at.mk 3 rfl rfl) rfl hR_4 c_7 rfl rfl ?_
    refine r_p hq 1 (pc' := 45) (L' := []) (st' := [.int ((0 : Int32))]) rfl ?_
    cases h
    exact r_ri hq (z_at.mk 1 rfl rfl) rfl rfl (rfl : (0 : Int32).toInt = 0) rfl H_4
  · refine r_f1 (pc' := 10) (L' := [(0, .int X0), (1, .int X1), (2, .int X2), (3, .int X3)]) hq (z_at.mk 3 rfl rfl) rfl hR_4 c_7 rfl rfl ?_
    refine r_p hq 3 (pc' := 14) (L' := [(0, .int X0), (1, .int X1), (2, .int X2), (3, .int X3)]) (st' := [.int ((31 : Int32)), .int X0, .int X1]) rfl ?_
    obtain ⟨o_14, h_14, h⟩ := Option.bind_eq_some_iff.mp h
    refine r_csI (pc' := 17) (L' := [(0, .int X0), (1, .int X1), (2, .int X2), (3, .int X3)]) (As := [.int X1, .int X0, .int ((31 : Int32))]) (rest := []) (j := 159) hq (z_at.mk 3 rfl rfl) (Or.inl ⟨rfl, rfl⟩) rfl rfl (by omega) (g_m_isIn_ok hx1 hx0 (rfl : (31 : Int32).toInt = 31) H_4 h_14) rfl rfl ?_
    intro R_14 m_14 p_14 e_14 hR_14 H_14
    subst e_14
    rcases z_ite h with ⟨c_17, h⟩ | ⟨c_17, h⟩
    · refine r_t1 (pc' := 44) (L' := []) hq (z_at.mk 3 rfl rfl) rfl hR_14 c_17 rfl rfl ?_
      refine r_p hq 1 (pc' := 45) (L' := []) (st' := [.int ((0 : Int32))]) rfl ?_
      cases h
      exact r_ri hq (z_at.mk 1 rfl rfl) rfl rfl (rfl : (0 : Int32).toInt = 0) rfl H_14
    · refine r_f1 (pc' := 20) (L' := [(0, .int X0), (1, .int X1), (2, .int X2), (3, .int X3)]) hq (z_at.mk 3 rfl rfl) rfl hR_14 c_17 rfl rfl ?_
      refine r_p hq 3 (pc' := 24) (L' := [(0, .int X0), (1, .int X1), (2, .int X2), (3, .int X3)]) (st' := [.int ((31 : Int32)), .int ((0 : Int32)), .int X2]) rfl ?_
      obtain ⟨o_24, h_24, h⟩ := Option.bind_eq_some_iff.mp h
      refine r_csI (pc' := 27) (L' := [(0, .int X0), (1, .int X1), (2, .int X2), (3, .int X3)]) (As := [.int X2, .int ((0 : Int32)), .int ((31 : Int32))]) (rest := []) (j := 159) hq (z_at.mk 3 rfl rfl) (Or.inl ⟨rfl, rfl⟩) rfl rfl (by omega) (g_m_isIn_ok hx2 (rfl : (0 : Int32).toInt = 0) (rfl : (31 : Int32).toInt = 31) H_14 h_24) rfl rfl ?_
      intro R_24 m_24 p_24 e_24 hR_24 H_24
      subst e_24
      rcases z_ite h with ⟨c_27, h⟩ | ⟨c_27, h⟩
      · refine r_t1 (pc' := 44) (L' := []) hq (z_at.mk 3 rfl rfl) rfl hR_24 c_27 rfl rfl ?_
        refine r_p hq 1 (pc' := 45) (L' := []) (st' := [.int ((0 : Int32))]) rfl ?_
        cases h
        exact r_ri hq (z_at.mk 1 rfl rfl) rfl rfl (rfl : (0 : Int32).toInt = 0) rfl H_24
      · refine r_f1 (pc' := 30) (L' := [(0, .int X0), (1, .int X1), (2, .int X2), (3, .int X3)]) hq (z_at.mk 3 rfl rfl) rfl hR_24 c_27 rfl rfl ?_
        refine r_p hq 3 (pc' := 34) (L' := [(0, .int X0), (1, .int X1), (2, .int X2), (3, .int X3)]) (st' := [.int ((31 : Int32)), .int X2, .int X3]) rfl ?_
        obtain ⟨o_34, h_34, h⟩ := Option.bind_eq_some_iff.mp h
        refine r_csI (pc' := 37) (L' := [(0, .int X0), (1, .int X1), (2, .int X2), (3, .int X3)]) (As := [.int X3, .int X2, .int ((31 : Int32))]) (rest := []) (j := 159) hq (z_at.mk 3 rfl rfl) (Or.inl ⟨rfl, rfl⟩) rfl rfl (by omega) (g_m_isIn_ok hx3 hx2 (rfl : (31 : Int32).toInt = 31) H_24 h_34) rfl rfl ?_
        intro R_34 m_34 p_34 e_34 hR_34 H_34
        subst e_34
        rcases z_ite h with ⟨c_37, h⟩ | ⟨c_37, h⟩
        · refine r_t1 (pc' := 44) (L' := []) hq (z_at.mk 3 rfl rfl) rfl hR_34 c_37 rfl rfl ?_
          refine r_p hq 1 (pc' := 45) (L' := []) (st' := [.int ((0 : Int32))]) rfl ?_
          cases h
          exact r_ri hq (z_at.mk 1 rfl rfl) rfl rfl (rfl : (0 : Int32).toInt = 0) rfl H_34
        · refine r_f1 (pc' := 40) (L' := [(0, .int X0), (1, .int X1), (2, .int X2), (3, .int X3)]) hq (z_at.mk 3 rfl rfl) rfl hR_34 c_37 rfl rfl ?_
          refine r_p hq 2 (pc' := 45) (L' := []) (st' := [.int ((1 : Int32))]) rfl ?_
          cases h
          exact r_ri hq (z_at.mk 1 rfl rfl) rfl rfl (rfl : (1 : Int32).toInt = 1) rfl H_34
def g_m_sets (a0 : Nat) (x1 : Int) (x2 : Int) (x3 : Int) (x4 : Int) (x5 : Int) (σ : zS) : Option (Unit × zS) :=
  if 0 ≤ x1 ∧ x1 < zLI a0 then
  let s_3 := zu σ a0 x1 x2
  if 0 ≤ w32 (x1 + 1) ∧ w32 (x1 + 1) < zLI a0 then
  let s_9 := zu s_3 a0 (w32 (x1 + 1)) x3
  if 0 ≤ w32 (x1 + 2) ∧ w32 (x1 + 2) < zLI a0 then
  let s_16 := zu s_9 a0 (w32 (x1 + 2)) x4
  if 0 ≤ w32 (x1 + 3) ∧ w32 (x1 + 3) < zLI a0 then
  let s_23 := zu s_16 a0 (w32 (x1 + 3)) x5
  some ((), s_23)
  else none
  else none
  else none
  else none
set_option maxHeartbeats 4000000 in
theorem g_m_sets_ok {xl : Nat} {xs : Nat → Int32} {a0 : Nat} (ha0 : zIn [144, 150, 151, 152, 153, 156, 157, 161, 164, 165] a0 = true) {X1 : Int32} {x1 : Int} (hx1 : X1.toInt = x1) {X2 : Int32} {x2 : Int} (hx2 : X2.toInt = x2) {X3 : Int32} {x3 : Int} (hx3 : X3.toInt = x3) {X4 : Int32} {x4 : Int} (hx4 : X4.toInt = x4) {X5 : Int32} {x5 : Int} (hx5 : X5.toInt = x5) {σ : zS} {p : Nat} {m : zM} {o : Unit × zS} (H : zRep xl xs p m σ) (h : g_m_sets a0 x1 x2 x3 x4 x5 σ = some o) : zGo xl xs (fun p' => p = p') 1 165 0 (z_can 165 0 (lv_args 0 [.ref a0, .int X1, .int X2, .int X3, .int X4, .int X5])) [] m vV o.2 := by
  have hq : z_mth 165 = some z_r165 := rfl
  unfold g_m_sets at h
  show zGo xl xs (fun p' => p = p') 1 165 0 [(0, .ref a0), (1, .int X1), (2, .int X2), (3, .int X3), (4, .int X4), (5, .int X5)] [] m vV o.2
  refine r_p hq 3 (pc' := 3) (L' := [(0, .ref a0), (1, .int X1), (2, .int X2), (3, .int X3), (4, .int X4), (5, .int X5)]) (st' := [.int X2, .int X1, .ref a0]) rfl ?_
  obtain ⟨g_3, h⟩ := z_ifo_some h
  refine r_is (pc' := 4) (L' := [(0, .ref a0), (1, .int X1), (2, .int X2), (3, .int X3), (4, .int X4), (5, .int X5)]) H hq (z_at.mk 1 rfl rfl) (zIn_all (l := [144, 150, 151, 152, 153, 156, 157, 161, 164, 165]) (p := fun a => zAr a 0 (zLI a)) rfl ha0) hx1 g_3 hx2 rfl rfl ?_
  intro m_3 H_3
  refine r_p hq 5 (pc' := 9) (L' := [(0, .ref a0), (1, .int X1), (2, .int X2), (3, .int X3), (4, .int X4), (5, .int X5)]) (st' := [.int X3, .int (X1 + ((1 : Int32))), .ref a0]) rfl ?_
  obtain ⟨g_9, h⟩ := z_ifo_some h
  refine r_is (pc' := 10) (L' := [(0, .ref a0), (1, .int X1), (2, .int X2), (3, .int X3), (4, .int X4), (5, .int X5)]) H_3 hq (z_at.mk 1 rfl rfl) (zIn_all (l := [144, 150, 151, 152, 153, 156, 157, 161, 164, 165]) (p := fun a => zAr a 0 (zLI a)) rfl ha0) (tx_iadd hx1 (rfl : (1 : Int32).toInt = 1)) g_9 hx3 rfl rfl ?_
  intro m_9 H_9
  refine r_p hq 5 (pc' := 16) (L' := [(0, .ref a0), (1, .int X1), (2, .int X2), (3, .int X3), (4, .int X4), (5, .int X5)]) (st' := [.int X4, .int (X1 + ((2 : Int32))), .ref a0]) rfl ?_
  obtain ⟨g_16, h⟩ := z_ifo_some h
  refine r_is (pc' := 17) (L' := [(0, .ref a0), (1, .int X1), (2, .int X2), (3, .int X3), (4, .int X4), (5, .int X5)]) H_9 hq (z_at.mk 1 rfl rfl) (zIn_all (l := [144, 150, 151, 152, 153, 156, 157, 161, 164, 165]) (p := fun a => zAr a 0 (zLI a)) rfl ha0) (tx_iadd hx1 (rfl : (2 : Int32).toInt = 2)) g_16 hx4 rfl rfl ?_
  intro m_16 H_16
  refine r_p hq 5 (pc' := 23) (L' := [(0, .ref a0), (1, .int X1), (2, .int X2), (3, .int X3), (4, .int X4), (5, .int X5)]) (st' := [.int X5, .int (X1 + ((3 : Int32))), .ref a0]) rfl ?_
  obtain ⟨g_23, h⟩ := z_ifo_some h
  refine r_is (pc' := 24) (L' := [(0, .ref a0), (1, .int X1), (2, .int X2), (3, .int X3), (4, .int X4), (5, .int X5)]) H_16 hq (z_at.mk 1 rfl rfl) (zIn_all (l := [144, 150, 151, 152, 153, 156, 157, 161, 164, 165]) (p := fun a => zAr a 0 (zLI a)) rfl ha0) (tx_iadd hx1 (rfl : (3 : Int32).toInt = 3)) g_23 hx5 rfl rfl ?_
  intro m_23 H_23
  cases h
  exact r_rv hq (z_at.mk 1 rfl rfl) rfl rfl H_23
def g_m_copies (a0 : Nat) (a2 : Nat) (x1 : Int) (x3 : Int) (σ : zS) : Option (Unit × zS) :=
  if 0 ≤ x1 ∧ x1 < zLI a0 then
  let v_4 := σ a0 x1
  if 0 ≤ w32 (x1 + 1) ∧ w32 (x1 + 1) < zLI a0 then
  let v_9 := σ a0 (w32 (x1 + 1))
  if 0 ≤ w32 (x1 + 2) ∧ w32 (x1 + 2) < zLI a0 then
  let v_14 := σ a0 (w32 (x1 + 2))
  if 0 ≤ w32 (x1 + 3) ∧ w32 (x1 + 3) < zLI a0 then
  let v_19 := σ a0 (w32 (x1 + 3))
  (g_m_sets a2 x3 v_4 v_9 v_14 v_19 σ).bind fun o_20 =>
  some ((), o_20.2)
  else none
  else none
  else none
  else none
set_option maxHeartbeats 4000000 in
theorem g_m_copies_ok {xl : Nat} {xs : Nat → Int32} {a0 : Nat} (ha0 : zIn [144, 150, 151, 152, 153, 156, 157, 161, 164, 165] a0 = true) {a2 : Nat} (ha2 : zIn [144, 150, 151, 152, 153, 156, 157, 161, 164, 165] a2 = true) {X1 : Int32} {x1 : Int} (hx1 : X1.toInt = x1) {X3 : Int32} {x3 : Int} (hx3 : X3.toInt = x3) {σ : zS} {p : Nat} {m : zM} {o : Unit × zS} (H : zRep xl xs p m σ) (h : g_m_copies a0 a2 x1 x3 σ = some o) : zGo xl xs (fun p' => p = p') 2 166 0 (z_can 166 0 (lv_args 0 [.ref a0, .int X1, .ref a2, .int X3])) [] m vV o.2 := by
  have hq : z_mth 166 = some z_r166 := rfl
  unfold g_m_copies at h
  show zGo xl xs (fun p' => p = p') 2 166 0 [(0, .ref a0), (1, .int X1), (2, .ref a2), (3, .int X3)] [] m vV o.2
  refine r_p hq 4 (pc' := 4) (L' := [(0, .ref a0), (1, .int X1), (2, .ref a2), (3, .int X3)]) (st' := [.int X1, .ref a0, .int X3, .ref a2]) rfl ?_
  obtain ⟨g_4, h⟩ := z_ifo_some h
  refine r_ia (pc' := 5) (L' := [(0, .ref a0), (1, .int X1), (2, .ref a2), (3, .int X3)]) H hq (z_at.mk 1 rfl rfl) (zIn_all (l := [144, 150, 151, 152, 153, 156, 157, 161, 164, 165]) (p := fun a => zAr a 0 (zLI a)) rfl ha0) hx1 g_4 rfl rfl ?_
  intro V_4 hV_4
  refine r_p hq 4 (pc' := 9) (L' := [(0, .ref a0), (1, .int X1), (2, .ref a2), (3, .int X3)]) (st' := [.int (X1 + ((1 : Int32))), .ref a0, .int V_4, .int X3, .ref a2]) rfl ?_
  obtain ⟨g_9, h⟩ := z_ifo_some h
  refine r_ia (pc' := 10) (L' := [(0, .ref a0), (1, .int X1), (2, .ref a2), (3, .int X3)]) H hq (z_at.mk 1 rfl rfl) (zIn_all (l := [144, 150, 151, 152, 153, 156, 157, 161, 164, 165]) (p := fun a => zAr a 0 (zLI a)) rfl ha0) (tx_iadd hx1 (rfl : (1 : Int32).toInt = 1)) g_9 rfl rfl ?_
  intro V_9 hV_9
  refine r_p hq 4 (pc' := 14) (L' := [(0, .ref a0), (1, .int X1), (2, .ref a2), (3, .int X3)]) (st' := [.int (X1 + ((2 : Int32))), .ref a0, .int V_9, .int V_4, .int X3, .ref a2]) rfl ?_
  obtain ⟨g_14, h⟩ := z_ifo_some h
  refine r_ia (pc' := 15) (L' := [(0, .ref a0), (1, .int X1), (2, .ref a2), (3, .int X3)]) H hq (z_at.mk 1 rfl rfl) (zIn_all (l := [144, 150, 151, 152, 153, 156, 157, 161, 164, 165]) (p := fun a => zAr a 0 (zLI a)) rfl ha0) (tx_iadd hx1 (rfl : (2 : Int32).toInt = 2)) g_14 rfl rfl ?_
  intro V_14 hV_14
  refine r_p hq 4 (pc' := 19) (L' := [(0, .ref a0), (1, .int X1), (2, .ref a2), (3, .int X3)]) (st' := [.int (X1 + ((3 : Int32))), .ref a0, .int V_14, .int V_9, .int V_4, .int X3, .ref a2]) rfl ?_
  obtain ⟨g_19, h⟩ := z_ifo_some h
  refine r_ia (pc' := 20) (L' := [(0, .ref a0), (1, .int X1), (2, .ref a2), (3, .int X3)]) H hq (z_at.mk 1 rfl rfl) (zIn_all (l := [144, 150, 151, 152, 153, 156, 157, 161, 164, 165]) (p := fun a => zAr a 0 (zLI a)) rfl ha0) (tx_iadd hx1 (rfl : (3 : Int32).toInt = 3)) g_19 rfl rfl ?_
  intro V_19 hV_19
  obtain ⟨o_20, h_20, h⟩ := Option.bind_eq_some_iff.mp h
  refine r_csV (pc' := 23) (L' := [(0, .ref a0), (1, .int X1), (2, .ref a2), (3, .int X3)]) (As := [.ref a2, .int X3, .int V_4, .int V_9, .int V_14, .int V_19]) (rest := []) (j := 165) hq (z_at.mk 3 rfl rfl) (Or.inl ⟨rfl, rfl⟩) rfl rfl (by omega) (g_m_sets_ok (zIn_all (l := [144, 150, 151, 152, 153, 156, 157, 161, 164, 165]) (p := fun a => zIn [144, 150, 151, 152, 153, 156, 157, 161, 164, 165] a) rfl ha2) hx3 hV_4 hV_9 hV_14 hV_19 H h_20) rfl rfl ?_
  intro m_20 p_20 e_20 H_20
  subst e_20
  cases h
  exact r_rv hq (z_at.mk 1 rfl rfl) rfl rfl H_20
def g_m_area (a0 : Nat) (x1 : Int) (σ : zS) : Option (Int × zS) :=
  if 0 ≤ w32 (x1 + 1) ∧ w32 (x1 + 1) < zLI a0 then
  let v_4 := σ a0 (w32 (x1 + 1))
  if 0 ≤ x1 ∧ x1 < zLI a0 then
  let v_7 := σ a0 x1
  if 0 ≤ w32 (x1 + 3) ∧ w32 (x1 + 3) < zLI a0 then
  let v_15 := σ a0 (w32 (x1 + 3))
  if 0 ≤ w32 (x1 + 2) ∧ w32 (x1 + 2) < zLI a0 then
  let v_20 := σ a0 (w32 (x1 + 2))
  some (w32 ((w32 ((w32 (v_4 - v_7)) + 1)) * (w32 ((w32 (v_15 - v_20)) + 1))), σ)
  else none
  else none
  else none
  else none
set_option maxHeartbeats 4000000 in
theorem g_m_area_ok {xl : Nat} {xs : Nat → Int32} {a0 : Nat} (ha0 : zIn [144, 150, 151, 152, 153, 156, 157, 161, 164, 165] a0 = true) {X1 : Int32} {x1 : Int} (hx1 : X1.toInt = x1) {σ : zS} {p : Nat} {m : zM} {o : Int × zS} (H : zRep xl xs p m σ) (h : g_m_area a0 x1 σ = some o) : zGo xl xs (fun p' => p = p') 1 167 0 (z_can 167 0 (lv_args 0 [.ref a0, .int X1])) [] m (vI o.1) o.2 := by
  have hq : z_mth 167 = some z_r167 := rfl
  unfold g_m_area at h
  show zGo xl xs (fun p' => p = p') 1 167 0 [(0, .ref a0), (1, .int X1)] [] m (vI o.1) o.2
  refine r_p hq 4 (pc' := 4) (L' := [(0, .ref a0), (1, .int X1)]) (st' := [.int (X1 + ((1 : Int32))), .ref a0]) rfl ?_
  obtain ⟨g_4, h⟩ := z_ifo_some h
  refine r_ia (pc' := 5) (L' := [(0, .ref a0), (1, .int X1)]) H hq (z_at.mk 1 rfl rfl) (zIn_all (l := [144, 150, 151, 152, 153, 156, 157, 161, 164, 165]) (p := fun a => zAr a 0 (zLI a)) rfl ha0) (tx_iadd hx1 (rfl : (1 : Int32).toInt = 1)) g_4 rfl rfl ?_
  intro V_4 hV_4
  refine r_p hq 2 (pc' := 7) (L' := [(0, .ref a0), (1, .int X1)]) (st' := [.int X1, .ref a0, .int V_4]) rfl ?_
  obtain ⟨g_7, h⟩ := z_ifo_some h
  refine r_ia (pc' := 8) (L' := [(0, .ref a0), (1, .int X1)]) H hq (z_at.mk 1 rfl rfl) (zIn_all (l := [144, 150, 151, 152, 153, 156, 157, 161, 164, 165]) (p := fun a => zAr a 0 (zLI a)) rfl ha0) hx1 g_7 rfl rfl ?_
  intro V_7 hV_7
  refine r_p hq 7 (pc' := 15) (L' := [(0, .ref a0), (1, .int X1)]) (st' := [.int (X1 + ((3 : Int32))), .ref a0, .int ((V_4 - V_7) + ((1 : Int32)))]) rfl ?_
  obtain ⟨g_15, h⟩ := z_ifo_some h
  refine r_ia (pc' := 16) (L' := [(0, .ref a0), (1, .int X1)]) H hq (z_at.mk 1 rfl rfl) (zIn_all (l := [144, 150, 151, 152, 153, 156, 157, 161, 164, 165]) (p := fun a => zAr a 0 (zLI a)) rfl ha0) (tx_iadd hx1 (rfl : (3 : Int32).toInt = 3)) g_15 rfl rfl ?_
  intro V_15 hV_15
  refine r_p hq 4 (pc' := 20) (L' := [(0, .ref a0), (1, .int X1)]) (st' := [.int (X1 + ((2 : Int32))), .ref a0, .int V_15, .int ((V_4 - V_7) + ((1 : Int32)))]) rfl ?_
  obtain ⟨g_20, h⟩ := z_ifo_some h
  refine r_ia (pc' := 21) (L' := [(0, .ref a0), (1, .int X1)]) H hq (z_at.mk 1 rfl rfl) (zIn_all (l := [144, 150, 151, 152, 153, 156, 157, 161, 164, 165]) (p := fun a => zAr a 0 (zLI a)) rfl ha0) (tx_iadd hx1 (rfl : (2 : Int32).toInt = 2)) g_20 rfl rfl ?_
  intro V_20 hV_20
  refine r_p hq 4 (pc' := 25) (L' := [(0, .ref a0), (1, .int X1)]) (st' := [.int (((V_4 - V_7) + ((1 : Int32))) * ((V_15 - V_20) + ((1 : Int32))))]) rfl ?_
  cases h
  exact r_ri hq (z_at.mk 1 rfl rfl) rfl rfl (tx_imul (tx_iadd (tx_isub hV_4 hV_7) (rfl : (1 : Int32).toInt = 1)) (tx_iadd (tx_isub hV_15 hV_20) (rfl : (1 : Int32).toInt = 1))) rfl H
def g_m_has (a0 : Nat) (x1 : Int) (x2 : Int) (x3 : Int) (σ : zS) : Option (Int × zS) :=
  if 0 ≤ x1 ∧ x1 < zLI a0 then
  let v_3 := σ a0 x1
  if 0 ≤ w32 (x1 + 1) ∧ w32 (x1 + 1) < zLI a0 then
  let v_8 := σ a0 (w32 (x1 + 1))
  (g_m_isIn x2 v_3 v_8 σ).bind fun o_9 =>
  if o_9.1 = 0 then
    some (0, o_9.2)
  else
    if 0 ≤ w32 (x1 + 2) ∧ w32 (x1 + 2) < zLI a0 then
    let v_20 := o_9.2 a0 (w32 (x1 + 2))
    if 0 ≤ w32 (x1 + 3) ∧ w32 (x1 + 3) < zLI a0 then
    let v_25 := o_9.2 a0 (w32 (x1 + 3))
    (g_m_isIn x3 v_20 v_25 o_9.2).bind fun o_26 =>
    if o_26.1 = 0 then
      some (0, o_26.2)
    else
      some (1, o_26.2)
    else none
    else none
  else none
  else none
set_option maxHeartbeats 4000000 in
theorem g_m_has_ok {xl : Nat} {xs : Nat → Int32} {a0 : Nat} (ha0 : zIn [144, 150, 151, 152, 153, 156, 157, 161, 164, 165] a0 = true) {X1 : Int32} {x1 : Int} (hx1 : X1.toInt = x1) {X2 : Int32} {x2 : Int} (hx2 : X2.toInt = x2) {X3 : Int32} {x3 : Int} (hx3 : X3.toInt = x3) {σ : zS} {p : Nat} {m : zM} {o : Int × zS} (H : zRep xl xs p m σ) (h : g_m_has a0 x1 x2 x3 σ = some o) : zGo xl xs (fun p' => p = p') 2 168 0 (z_can 168 0 (lv_args 0 [.ref a0, .int X1, .int X2, .int X3])) [] m (vI o.1) o.2 := by
  have hq : z_mth 168 = some z_r168 := rfl
  unfold g_m_has at h
  show zGo xl xs (fun p' => p = p') 2 168 0 [(0, .ref a0), (1, .int X1), (2, .int X2), (3, .int X3)] [] m (vI o.1) o.2
  refine r_p hq 3 (pc' := 3) (L' := [(0, .ref a0), (1, .int X1), (2, .int X2), (3, .int X3)]) (st' := [.int X1, .ref a0, .int X2]) rfl ?_
  obtain ⟨g_3, h⟩ := z_ifo_some h
  refine r_ia (pc' := 4) (L' := [(0, .ref a0), (1, .int X1), (2, .int X2), (3, .int X3)]) H hq (z_at.mk 1 rfl rfl) (zIn_all (l := [144, 150, 151, 152, 153, 156, 157, 161, 164, 165]) (p := fun a => zAr a 0 (zLI a)) rfl ha0) hx1 g_3 rfl rfl ?_
  intro V_3 hV_3
  refine r_p hq 4 (pc' := 8) (L' := [(0, .ref a0), (1, .int X1), (2, .int X2), (3, .int X3)]) (st' := [.int (X1 + ((1 : Int32))), .ref a0, .int V_3, .int X2]) rfl ?_
  obtain ⟨g_8, h⟩ := z_ifo_some h
  refine r_ia (pc' := 9) (L' := [(0, .ref a0), (1, .int X1), (2, .int X2), (3, .int X3)]) H hq (z_at.mk 1 rfl rfl) (zIn_all (l := [144, 150, 151, 152, 153, 156, 157, 161, 164, 165]) (p := fun a => zAr a 0 (zLI a)) rfl ha0) (tx_iadd hx1 (rfl : (1 : Int32).toInt = 1)) g_8 rfl rfl ?_
  intro V_8 hV_8
  obtain ⟨o_9, h_9, h⟩ := Option.bind_eq_some_iff.mp h
  refine r_csI (pc' := 12) (L' := [(0, .ref a0), (1, .int X1), (2, .int X2), (3, .int X3)]) (As := [.int X2, .int V_3, .int V_8]) (rest := []) (j := 159) hq (z_at.mk 3 rfl rfl) (Or.inl ⟨rfl, rfl⟩) rfl rfl (by omega) (g_m_isIn_ok hx2 hV_3 hV_8 H h_9) rfl rfl ?_
  intro R_9 m_9 p_9 e_9 hR_9 H_9
  subst e_9
  rcases z_ite h with ⟨c_12, h⟩ | ⟨c_12, h⟩
  · refine r_t1 (pc' := 36) (L' := []) hq (z_at.mk 3 rfl rfl) rfl hR_9 c_12 rfl rfl ?_
    refine r_p hq 1 (pc' := 37) (L' := []) (st' := [.int ((0 : Int32))]) rfl ?_
    cases h
    exact r_ri hq (z_at.mk 1 rfl rfl) rfl rfl (rfl : (0 : Int32).toInt = 0) rfl H_9
  · refine r_f1 (pc' := 15) (L' := [(0, .ref a0), (1, .int X1), (2, .int X2), (3, .int X3)]) hq (z_at.mk 3 rfl rfl) rfl hR_9 c_12 rfl rfl ?_
    refine r_p hq 5 (pc' := 20) (L' := [(0, .ref a0), (1, .int X1), (2, .int X2), (3, .int X3)]) (st' := [.int (X1 + ((2 : Int32))), .ref a0, .int X3]) rfl ?_
    obtain ⟨g_20, h⟩ := z_ifo_some h
    refine r_ia (pc' := 21) (L' := [(0, .ref a0), (1, .int X1), (2, .int X2), (3, .int X3)]) H_9 hq (z_at.mk 1 rfl rfl) (zIn_all (l := [144, 150, 151, 152, 153, 156, 157, 161, 164, 165]) (p := fun a => zAr a 0 (zLI a)) rfl ha0) (tx_iadd hx1 (rfl : (2 : Int32).toInt = 2)) g_20 rfl rfl ?_
    intro V_20 hV_20
    refine r_p hq 4 (pc' := 25) (L' := [(0, .ref a0), (1, .int X1), (2, .int X2), (3, .int X3)]) (st' := [.int (X1 + ((3 : Int32))), .ref a0, .int V_20, .int X3]) rfl ?_
    obtain ⟨g_25, h⟩ := z_ifo_some h
    refine r_ia (pc' := 26) (L' := [(0, .ref a0), (1, .int X1), (2, .int X2), (3, .int X3)]) H_9 hq (z_at.mk 1 rfl rfl) (zIn_all (l := [144, 150, 151, 152, 153, 156, 157, 161, 164, 165]) (p := fun a => zAr a 0 (zLI a)) rfl ha0) (tx_iadd hx1 (rfl : (3 : Int32).toInt = 3)) g_25 rfl rfl ?_
    intro V_25 hV_25
    obtain ⟨o_26, h_26, h⟩ := Option.bind_eq_some_iff.mp h
    refine r_csI (pc' := 29) (L' := [(0, .ref a0), (1, .int X1), (2, .int X2), (3, .int X3)]) (As := [.int X3, .int V_20, .int V_25]) (rest := []) (j := 159) hq (z_at.mk 3 rfl rfl) (Or.inl ⟨rfl, rfl⟩) rfl rfl (by omega) (g_m_isIn_ok hx3 hV_20 hV_25 H_9 h_26) rfl rfl ?_
    intro R_26 m_26 p_26 e_26 hR_26 H_26
    subst e_26
    rcases z_ite h with ⟨c_29, h⟩ | ⟨c_29, h⟩
    · refine r_t1 (pc' := 36) (L' := []) hq (z_at.mk 3 rfl rfl) rfl hR_26 c_29 rfl rfl ?_
      refine r_p hq 1 (pc' := 37) (L' := []) (st' := [.int ((0 : Int32))]) rfl ?_
      cases h
      exact r_ri hq (z_at.mk 1 rfl rfl) rfl rfl (rfl : (0 : Int32).toInt = 0) rfl H_26
    · refine r_f1 (pc' := 32) (L' := [(0, .ref a0), (1, .int X1), (2, .int X2), (3, .int X3)]) hq (z_at.mk 3 rfl rfl) rfl hR_26 c_29 rfl rfl ?_
      refine r_p hq 2 (pc' := 37) (L' := []) (st' := [.int ((1 : Int32))]) rfl ?_
      cases h
      exact r_ri hq (z_at.mk 1 rfl rfl) rfl rfl (rfl : (1 : Int32).toInt = 1) rfl H_26
def g_m_doMeet (a0 : Nat) (a2 : Nat) (x1 : Int) (x3 : Int) (σ : zS) : Option (Int × zS) :=
  if 0 ≤ x1 ∧ x1 < zLI a0 then
  let v_2 := σ a0 x1
  if 0 ≤ w32 (x3 + 1) ∧ w32 (x3 + 1) < zLI a2 then
  let v_7 := σ a2 (w32 (x3 + 1))
  if v_7 < v_2 then
    some (0, σ)
  else
    if 0 ≤ x3 ∧ x3 < zLI a2 then
    let v_13 := σ a2 x3
    if 0 ≤ w32 (x1 + 1) ∧ w32 (x1 + 1) < zLI a0 then
    let v_18 := σ a0 (w32 (x1 + 1))
    if v_18 < v_13 then
      some (0, σ)
    else
      if 0 ≤ w32 (x1 + 2) ∧ w32 (x1 + 2) < zLI a0 then
      let v_26 := σ a0 (w32 (x1 + 2))
      if 0 ≤ w32 (x3 + 3) ∧ w32 (x3 + 3) < zLI a2 then
      let v_31 := σ a2 (w32 (x3 + 3))
      if v_31 < v_26 then
        some (0, σ)
      else
        if 0 ≤ w32 (x3 + 2) ∧ w32 (x3 + 2) < zLI a2 then
        let v_39 := σ a2 (w32 (x3 + 2))
        if 0 ≤ w32 (x1 + 3) ∧ w32 (x1 + 3) < zLI a0 then
        let v_44 := σ a0 (w32 (x1 + 3))
        if v_44 < v_39 then
          some (0, σ)
        else
          some (1, σ)
        else none
        else none
      else none
      else none
    else none
    else none
  else none
  else none
set_option maxHeartbeats 4000000 in
theorem g_m_doMeet_ok {xl : Nat} {xs : Nat → Int32} {a0 : Nat} (ha0 : zIn [144, 150, 151, 152, 153, 156, 157, 161, 164, 165] a0 = true) {a2 : Nat} (ha2 : zIn [144, 150, 151, 152, 153, 156, 157, 161, 164, 165] a2 = true) {X1 : Int32} {x1 : Int} (hx1 : X1.toInt = x1) {X3 : Int32} {x3 : Int} (hx3 : X3.toInt = x3) {σ : zS} {p : Nat} {m : zM} {o : Int × zS} (H : zRep xl xs p m σ) (h : g_m_doMeet a0 a2 x1 x3 σ = some o) : zGo xl xs (fun p' => p = p') 1 169 0 (z_can 169 0 (lv_args 0 [.ref a0, .int X1, .ref a2, .int X3])) [] m (vI o.1) o.2 := by
  have hq : z_mth 169 = some z_r169 := rfl
  unfold g_m_doMeet at h
  show zGo xl xs (fun p' => p = p') 1 169 0 [(0, .ref a0), (1, .int X1), (2, .ref a2), (3, .int X3)] [] m (vI o.1) o.2
  refine r_p hq 2 (pc' := 2) (L' := [(0, .ref a0), (1, .int X1), (2, .ref a2), (3, .int X3)]) (st' := [.int X1, .ref a0]) rfl ?_
  obtain ⟨g_2, h⟩ := z_ifo_some h
  refine r_ia (pc' := 3) (L' := [(0, .ref a0), (1, .int X1), (2, .ref a2), (3, .int X3)]) H hq (z_at.mk 1 rfl rfl) (zIn_all (l := [144, 150, 151, 152, 153, 156, 157, 161, 164, 165]) (p := fun a => zAr a 0 (zLI a)) rfl ha0) hx1 g_2 rfl rfl ?_
  intro V_2 hV_2
  refine r_p hq 4 (pc' := 7) (L' := [(0, .ref a0), (1, .int X1), (2, .ref a2), (3, .int X3)]) (st' := [.int (X3 + ((1 : Int32))), .ref a2, .int V_2]) rfl ?_
  obtain ⟨g_7, h⟩ := z_ifo_some h
  refine r_ia (pc' := 8) (L' := [(0, .ref a0), (1, .int X1), (2, .ref a2), (3, .int X3)]) H hq (z_at.mk 1 rfl rfl) (zIn_all (l := [144, 150, 151, 152, 153, 156, 157, 161, 164, 165]) (p := fun a => zAr a 0 (zLI a)) rfl ha2) (tx_iadd hx3 (rfl : (1 : Int32).toInt = 1)) g_7 rfl rfl ?_
  intro V_7 hV_7
  rcases z_ite h with ⟨c_8, h⟩ | ⟨c_8, h⟩
  · refine r_t2 (pc' := 52) (L' := []) hq (z_at.mk 3 rfl rfl) rfl hV_2 hV_7 c_8 rfl rfl ?_
    refine r_p hq 1 (pc' := 53) (L' := []) (st' := [.int ((0 : Int32))]) rfl ?_
    cases h
    exact r_ri hq (z_at.mk 1 rfl rfl) rfl rfl (rfl : (0 : Int32).toInt = 0) rfl H
  · refine r_f2 (pc' := 11) (L' := [(0, .ref a0), (1, .int X1), (2, .ref a2), (3, .int X3)]) hq (z_at.mk 3 rfl rfl) rfl hV_2 hV_7 c_8 rfl rfl ?_
    refine r_p hq 2 (pc' := 13) (L' := [(0, .ref a0), (1, .int X1), (2, .ref a2), (3, .int X3)]) (st' := [.int X3, .ref a2]) rfl ?_
    obtain ⟨g_13, h⟩ := z_ifo_some h
    refine r_ia (pc' := 14) (L' := [(0, .ref a0), (1, .int X1), (2, .ref a2), (3, .int X3)]) H hq (z_at.mk 1 rfl rfl) (zIn_all (l := [144, 150, 151, 152, 153, 156, 157, 161, 164, 165]) (p := fun a => zAr a 0 (zLI a)) rfl ha2) hx3 g_13 rfl rfl ?_
    intro V_13 hV_13
    refine r_p hq 4 (pc' := 18) (L' := [(0, .ref a0), (1, .int X1), (2, .ref a2), (3, .int X3)]) (st' := [.int (X1 + ((1 : Int32))), .ref a0, .int V_13]) rfl ?_
    obtain ⟨g_18, h⟩ := z_ifo_some h
    refine r_ia (pc' := 19) (L' := [(0, .ref a0), (1, .int X1), (2, .ref a2), (3, .int X3)]) H hq (z_at.mk 1 rfl rfl) (zIn_all (l := [144, 150, 151, 152, 153, 156, 157, 161, 164, 165]) (p := fun a => zAr a 0 (zLI a)) rfl ha0) (tx_iadd hx1 (rfl : (1 : Int32).toInt = 1)) g_18 rfl rfl ?_
    intro V_18 hV_18
    rcases z_ite h with ⟨c_19, h⟩ | ⟨c_19, h⟩
    · refine r_t2 (pc' := 52) (L' := []) hq (z_at.mk 3 rfl rfl) rfl hV_13 hV_18 c_19 rfl rfl ?_
      refine r_p hq 1 (pc' := 53) (L' := []) (st' := [.int ((0 : Int32))]) rfl ?_
      cases h
      exact r_ri hq (z_at.mk 1 rfl rfl) rfl rfl (rfl : (0 : Int32).toInt = 0) rfl H
    · refine r_f2 (pc' := 22) (L' := [(0, .ref a0), (1, .int X1), (2, .ref a2), (3, .int X3)]) hq (z_at.mk 3 rfl rfl) rfl hV_13 hV_18 c_19 rfl rfl ?_
      refine r_p hq 4 (pc' := 26) (L' := [(0, .ref a0), (1, .int X1), (2, .ref a2), (3, .int X3)]) (st' := [.int (X1 + ((2 : Int32))), .ref a0]) rfl ?_
      obtain ⟨g_26, h⟩ := z_ifo_some h
      refine r_ia (pc' := 27) (L' := [(0, .ref a0), (1, .int X1), (2, .ref a2), (3, .int X3)]) H hq (z_at.mk 1 rfl rfl) (zIn_all (l := [144, 150, 151, 152, 153, 156, 157, 161, 164, 165]) (p := fun a => zAr a 0 (zLI a)) rfl ha0) (tx_iadd hx1 (rfl : (2 : Int32).toInt = 2)) g_26 rfl rfl ?_
      intro V_26 hV_26
      refine r_p hq 4 (pc' := 31) (L' := [(0, .ref a0), (1, .int X1), (2, .ref a2), (3, .int X3)]) (st' := [.int (X3 + ((3 : Int32))), .ref a2, .int V_26]) rfl ?_
      obtain ⟨g_31, h⟩ := z_ifo_some h
      refine r_ia (pc' := 32) (L' := [(0, .ref a0), (1, .int X1), (2, .ref a2), (3, .int X3)]) H hq (z_at.mk 1 rfl rfl) (zIn_all (l := [144, 150, 151, 152, 153, 156, 157, 161, 164, 165]) (p := fun a => zAr a 0 (zLI a)) rfl ha2) (tx_iadd hx3 (rfl : (3 : Int32).toInt = 3)) g_31 rfl rfl ?_
      intro V_31 hV_31
      rcases z_ite h with ⟨c_32, h⟩ | ⟨c_32, h⟩
      · refine r_t2 (pc' := 52) (L' := []) hq (z_at.mk 3 rfl rfl) rfl hV_26 hV_31 c_32 rfl rfl ?_
        refine r_p hq 1 (pc' := 53) (L' := []) (st' := [.int ((0 : Int32))]) rfl ?_
        cases h
        exact r_ri hq (z_at.mk 1 rfl rfl) rfl rfl (rfl : (0 : Int32).toInt = 0) rfl H
      · refine r_f2 (pc' := 35) (L' := [(0, .ref a0), (1, .int X1), (2, .ref a2), (3, .int X3)]) hq (z_at.mk 3 rfl rfl) rfl hV_26 hV_31 c_32 rfl rfl ?_
        refine r_p hq 4 (pc' := 39) (L' := [(0, .ref a0), (1, .int X1), (2, .ref a2), (3, .int X3)]) (st' := [.int (X3 + ((2 : Int32))), .ref a2]) rfl ?_
        obtain ⟨g_39, h⟩ := z_ifo_some h
        refine r_ia (pc' := 40) (L' := [(0, .ref a0), (1, .int X1), (2, .ref a2), (3, .int X3)]) H hq (z_at.mk 1 rfl rfl) (zIn_all (l := [144, 150, 151, 152, 153, 156, 157, 161, 164, 165]) (p := fun a => zAr a 0 (zLI a)) rfl ha2) (tx_iadd hx3 (rfl : (2 : Int32).toInt = 2)) g_39 rfl rfl ?_
        intro V_39 hV_39
        refine r_p hq 4 (pc' := 44) (L' := [(0, .ref a0), (1, .int X1), (2, .ref a2), (3, .int X3)]) (st' := [.int (X1 + ((3 : Int32))), .ref a0, .int V_39]) rfl ?_
        obtain ⟨g_44, h⟩ := z_ifo_some h
        refine r_ia (pc' := 45) (L' := [(0, .ref a0), (1, .int X1), (2, .ref a2), (3, .int X3)]) H hq (z_at.mk 1 rfl rfl) (zIn_all (l := [144, 150, 151, 152, 153, 156, 157, 161, 164, 165]) (p := fun a => zAr a 0 (zLI a)) rfl ha0) (tx_iadd hx1 (rfl : (3 : Int32).toInt = 3)) g_44 rfl rfl ?_
        intro V_44 hV_44
        rcases z_ite h with ⟨c_45, h⟩ | ⟨c_45, h⟩
        · refine r_t2 (pc' := 52) (L' := []) hq (z_at.mk 3 rfl rfl) rfl hV_39 hV_44 c_45 rfl rfl ?_
          refine r_p hq 1 (pc' := 53) (L' := []) (st' := [.int ((0 : Int32))]) rfl ?_
          cases h
          exact r_ri hq (z_at.mk 1 rfl rfl) rfl rfl (rfl : (0 : Int32).toInt = 0) rfl H
        · refine r_f2 (pc' := 48) (L' := [(0, .ref a0), (1, .int X1), (2, .ref a2), (3, .int X3)]) hq (z_at.mk 3 rfl rfl) rfl hV_39 hV_44 c_45 rfl rfl ?_
          refine r_p hq 2 (pc' := 53) (L' := []) (st' := [.int ((1 : Int32))]) rfl ?_
          cases h
          exact r_ri hq (z_at.mk 1 rfl rfl) rfl rfl (rfl : (1 : Int32).toInt = 1) rfl H
def g_m_commons (a0 : Nat) (a2 : Nat) (a4 : Nat) (x1 : Int) (x3 : Int) (x5 : Int) (σ : zS) : Option (Unit × zS) :=
  if 0 ≤ x1 ∧ x1 < zLI a0 then
  let v_6 := σ a0 x1
  if 0 ≤ x3 ∧ x3 < zLI a2 then
  let v_9 := σ a2 x3
  (g_m_more v_6 v_9 σ).bind fun o_10 =>
  if 0 ≤ w32 (x1 + 1) ∧ w32 (x1 + 1) < zLI a0 then
  let v_17 := o_10.2 a0 (w32 (x1 + 1))
  if 0 ≤ w32 (x3 + 1) ∧ w32 (x3 + 1) < zLI a2 then
  let v_22 := o_10.2 a2 (w32 (x3 + 1))
  (g_m_less v_17 v_22 o_10.2).bind fun o_23 =>
  if 0 ≤ w32 (x1 + 2) ∧ w32 (x1 + 2) < zLI a0 then
  let v_30 := o_23.2 a0 (w32 (x1 + 2))
  if 0 ≤ w32 (x3 + 2) ∧ w32 (x3 + 2) < zLI a2 then
  let v_35 := o_23.2 a2 (w32 (x3 + 2))
  (g_m_more v_30 v_35 o_23.2).bind fun o_36 =>
  if 0 ≤ w32 (x1 + 3) ∧ w32 (x1 + 3) < zLI a0 then
  let v_43 := o_36.2 a0 (w32 (x1 + 3))
  if 0 ≤ w32 (x3 + 3) ∧ w32 (x3 + 3) < zLI a2 then
  let v_48 := o_36.2 a2 (w32 (x3 + 3))
  (g_m_less v_43 v_48 o_36.2).bind fun o_49 =>
  (g_m_sets a4 x5 o_10.1 o_23.1 o_36.1 o_49.1 o_49.2).bind fun o_52 =>
  some ((), o_52.2)
  else none
  else none
  else none
  else none
  else none
  else none
  else none
  else none
set_option maxHeartbeats 4000000 in
theorem g_m_commons_ok {xl : Nat} {xs : Nat → Int32} {a0 : Nat} (ha0 : zIn [144, 150, 151, 152, 153, 156, 157, 161, 164, 165] a0 = true) {a2 : Nat} (ha2 : zIn [144, 150, 151, 152, 153, 156, 157, 161, 164, 165] a2 = true) {a4 : Nat} (ha4 : zIn [144, 150, 151, 152, 153, 156, 157, 161, 164, 165] a4 = true) {X1 : Int32} {x1 : Int} (hx1 : X1.toInt = x1) {X3 : Int32} {x3 : Int} (hx3 : X3.toInt = x3) {X5 : Int32} {x5 : Int} (hx5 : X5.toInt = x5) {σ : zS} {p : Nat} {m : zM} {o : Unit × zS} (H : zRep xl xs p m σ) (h : g_m_commons a0 a2 a4 x1 x3 x5 σ = some o) : zGo xl xs (fun p' => p = p') 2 170 0 (z_can 170 0 (lv_args 0 [.ref a0, .int X1, .ref a2, .int X3, .ref a4, .int X5])) [] m vV o.2 := by
  have hq : z_mth 170 = some z_r170 := rfl
  unfold g_m_commons at h
  show zGo xl xs (fun p' => p = p') 2 170 0 [(0, .ref a0), (1, .int X1), (2, .ref a2), (3, .int X3), (4, .ref a4), (5, .int X5)] [] m vV o.2
  refine r_p hq 4 (pc' := 6) (L' := [(0, .ref a0), (1, .int X1), (2, .ref a2), (3, .int X3), (4, .ref a4), (5, .int X5)]) (st' := [.int X1, .ref a0, .int X5, .ref a4]) rfl ?_
  obtain ⟨g_6, h⟩ := z_ifo_some h
  refine r_ia (pc' := 7) (L' := [(0, .ref a0), (1, .int X1), (2, .ref a2), (3, .int X3), (4, .ref a4), (5, .int X5)]) H hq (z_at.mk 1 rfl rfl) (zIn_all (l := [144, 150, 151, 152, 153, 156, 157, 161, 164, 165]) (p := fun a => zAr a 0 (zLI a)) rfl ha0) hx1 g_6 rfl rfl ?_
  intro V_6 hV_6
  refine r_p hq 2 (pc' := 9) (L' := [(0, .ref a0), (1, .int X1), (2, .ref a2), (3, .int X3), (4, .ref a4), (5, .int X5)]) (st' := [.int X3, .ref a2, .int V_6, .int X5, .ref a4]) rfl ?_
  obtain ⟨g_9, h⟩ := z_ifo_some h
  refine r_ia (pc' := 10) (L' := [(0, .ref a0), (1, .int X1), (2, .ref a2), (3, .int X3), (4, .ref a4), (5, .int X5)]) H hq (z_at.mk 1 rfl rfl) (zIn_all (l := [144, 150, 151, 152, 153, 156, 157, 161, 164, 165]) (p := fun a => zAr a 0 (zLI a)) rfl ha2) hx3 g_9 rfl rfl ?_
  intro V_9 hV_9
  obtain ⟨o_10, h_10, h⟩ := Option.bind_eq_some_iff.mp h
  refine r_csI (pc' := 13) (L' := [(0, .ref a0), (1, .int X1), (2, .ref a2), (3, .int X3), (4, .ref a4), (5, .int X5)]) (As := [.int V_6, .int V_9]) (rest := [.int X5, .ref a4]) (j := 161) hq (z_at.mk 3 rfl rfl) (Or.inl ⟨rfl, rfl⟩) rfl rfl (by omega) (g_m_more_ok hV_6 hV_9 H h_10) rfl rfl ?_
  intro R_10 m_10 p_10 e_10 hR_10 H_10
  subst e_10
  refine r_p hq 4 (pc' := 17) (L' := [(0, .ref a0), (1, .int X1), (2, .ref a2), (3, .int X3), (4, .ref a4), (5, .int X5)]) (st' := [.int (X1 + ((1 : Int32))), .ref a0, .int R_10, .int X5, .ref a4]) rfl ?_
  obtain ⟨g_17, h⟩ := z_ifo_some h
  refine r_ia (pc' := 18) (L' := [(0, .ref a0), (1, .int X1), (2, .ref a2), (3, .int X3), (4, .ref a4), (5, .int X5)]) H_10 hq (z_at.mk 1 rfl rfl) (zIn_all (l := [144, 150, 151, 152, 153, 156, 157, 161, 164, 165]) (p := fun a => zAr a 0 (zLI a)) rfl ha0) (tx_iadd hx1 (rfl : (1 : Int32).toInt = 1)) g_17 rfl rfl ?_
  intro V_17 hV_17
  refine r_p hq 4 (pc' := 22) (L' := [(0, .ref a0), (1, .int X1), (2, .ref a2), (3, .int X3), (4, .ref a4), (5, .int X5)]) (st' := [.int (X3 + ((1 : Int32))), .ref a2, .int V_17, .int R_10, .int X5, .ref a4]) rfl ?_
  obtain ⟨g_22, h⟩ := z_ifo_some h
  refine r_ia (pc' := 23) (L' := [(0, .ref a0), (1, .int X1), (2, .ref a2), (3, .int X3), (4, .ref a4), (5, .int X5)]) H_10 hq (z_at.mk 1 rfl rfl) (zIn_all (l := [144, 150, 151, 152, 153, 156, 157, 161, 164, 165]) (p := fun a => zAr a 0 (zLI a)) rfl ha2) (tx_iadd hx3 (rfl : (1 : Int32).toInt = 1)) g_22 rfl rfl ?_
  intro V_22 hV_22
  obtain ⟨o_23, h_23, h⟩ := Option.bind_eq_some_iff.mp h
  refine r_csI (pc' := 26) (L' := [(0, .ref a0), (1, .int X1), (2, .ref a2), (3, .int X3), (4, .ref a4), (5, .int X5)]) (As := [.int V_17, .int V_22]) (rest := [.int R_10, .int X5, .ref a4]) (j := 160) hq (z_at.mk 3 rfl rfl) (Or.inl ⟨rfl, rfl⟩) rfl rfl (by omega) (g_m_less_ok hV_17 hV_22 H_10 h_23) rfl rfl ?_
  intro R_23 m_23 p_23 e_23 hR_23 H_23
  subst e_23
  refine r_p hq 4 (pc' := 30) (L' := [(0, .ref a0), (1, .int X1), (2, .ref a2), (3, .int X3), (4, .ref a4), (5, .int X5)]) (st' := [.int (X1 + ((2 : Int32))), .ref a0, .int R_23, .int R_10, .int X5, .ref a4]) rfl ?_
  obtain ⟨g_30, h⟩ := z_ifo_some h
  refine r_ia (pc' := 31) (L' := [(0, .ref a0), (1, .int X1), (2, .ref a2), (3, .int X3), (4, .ref a4), (5, .int X5)]) H_23 hq (z_at.mk 1 rfl rfl) (zIn_all (l := [144, 150, 151, 152, 153, 156, 157, 161, 164, 165]) (p := fun a => zAr a 0 (zLI a)) rfl ha0) (tx_iadd hx1 (rfl : (2 : Int32).toInt = 2)) g_30 rfl rfl ?_
  intro V_30 hV_30
  refine r_p hq 4 (pc' := 35) (L' := [(0, .ref a0), (1, .int X1), (2, .ref a2), (3, .int X3), (4, .ref a4), (5, .int X5)]) (st' := [.int (X3 + ((2 : Int32))), .ref a2, .int V_30, .int R_23, .int R_10, .int X5, .ref a4]) rfl ?_
  obtain ⟨g_35, h⟩ := z_ifo_some h
  refine r_ia (pc' := 36) (L' := [(0, .ref a0), (1, .int X1), (2, .ref a2), (3, .int X3), (4, .ref a4), (5, .int X5)]) H_23 hq (z_at.mk 1 rfl rfl) (zIn_all (l := [144, 150, 151, 152, 153, 156, 157, 161, 164, 165]) (p := fun a => zAr a 0 (zLI a)) rfl ha2) (tx_iadd hx3 (rfl : (2 : Int32).toInt = 2)) g_35 rfl rfl ?_
  intro V_35 hV_35
  obtain ⟨o_36, h_36, h⟩ := Option.bind_eq_some_iff.mp h
  refine r_csI (pc' := 39) (L' := [(0, .ref a0), (1, .int X1), (2, .ref a2), (3, .int X3), (4, .ref a4), (5, .int X5)]) (As := [.int V_30, .int V_35]) (rest := [.int R_23, .int R_10, .int X5, .ref a4]) (j := 161) hq (z_at.mk 3 rfl rfl) (Or.inl ⟨rfl, rfl⟩) rfl rfl (by omega) (g_m_more_ok hV_30 hV_35 H_23 h_36) rfl rfl ?_
  intro R_36 m_36 p_36 e_36 hR_36 H_36
  subst e_36
  refine r_p hq 4 (pc' := 43) (L' := [(0, .ref a0), (1, .int X1), (2, .ref a2), (3, .int X3), (4, .ref a4), (5, .int X5)]) (st' := [.int (X1 + ((3 : Int32))), .ref a0, .int R_36, .int R_23, .int R_10, .int X5, .ref a4]) rfl ?_
  obtain ⟨g_43, h⟩ := z_ifo_some h
  refine r_ia (pc' := 44) (L' := [(0, .ref a0), (1, .int X1), (2, .ref a2), (3, .int X3), (4, .ref a4), (5, .int X5)]) H_36 hq (z_at.mk 1 rfl rfl) (zIn_all (l := [144, 150, 151, 152, 153, 156, 157, 161, 164, 165]) (p := fun a => zAr a 0 (zLI a)) rfl ha0) (tx_iadd hx1 (rfl : (3 : Int32).toInt = 3)) g_43 rfl rfl ?_
  intro V_43 hV_43
  refine r_p hq 4 (pc' := 48) (L' := [(0, .ref a0), (1, .int X1), (2, .ref a2), (3, .int X3), (4, .ref a4), (5, .int X5)]) (st' := [.int (X3 + ((3 : Int32))), .ref a2, .int V_43, .int R_36, .int R_23, .int R_10, .int X5, .ref a4]) rfl ?_
  obtain ⟨g_48, h⟩ := z_ifo_some h
  refine r_ia (pc' := 49) (L' := [(0, .ref a0), (1, .int X1), (2, .ref a2), (3, .int X3), (4, .ref a4), (5, .int X5)]) H_36 hq (z_at.mk 1 rfl rfl) (zIn_all (l := [144, 150, 151, 152, 153, 156, 157, 161, 164, 165]) (p := fun a => zAr a 0 (zLI a)) rfl ha2) (tx_iadd hx3 (rfl : (3 : Int32).toInt = 3)) g_48 rfl rfl ?_
  intro V_48 hV_48
  obtain ⟨o_49, h_49, h⟩ := Option.bind_eq_some_iff.mp h
  refine r_csI (pc' := 52) (L' := [(0, .ref a0), (1, .int X1), (2, .ref a2), (3, .int X3), (4, .ref a4), (5, .int X5)]) (As := [.int V_43, .int V_48]) (rest := [.int R_36, .int R_23, .int R_10, .int X5, .ref a4]) (j := 160) hq (z_at.mk 3 rfl rfl) (Or.inl ⟨rfl, rfl⟩) rfl rfl (by omega) (g_m_less_ok hV_43 hV_48 H_36 h_49) rfl rfl ?_
  intro R_49 m_49 p_49 e_49 hR_49 H_49
  subst e_49
  obtain ⟨o_52, h_52, h⟩ := Option.bind_eq_some_iff.mp h
  refine r_csV (pc' := 55) (L' := [(0, .ref a0), (1, .int X1), (2, .ref a2), (3, .int X3), (4, .ref a4), (5, .int X5)]) (As := [.ref a4, .int X5, .int R_10, .int R_23, .int R_36, .int R_49]) (rest := []) (j := 165) hq (z_at.mk 3 rfl rfl) (Or.inl ⟨rfl, rfl⟩) rfl rfl (by omega) (g_m_sets_ok (zIn_all (l := [144, 150, 151, 152, 153, 156, 157, 161, 164, 165]) (p := fun a => zIn [144, 150, 151, 152, 153, 156, 157, 161, 164, 165] a) rfl ha4) hx5 hR_10 hR_23 hR_36 hR_49 H_49 h_52) rfl rfl ?_
  intro m_52 p_52 e_52 H_52
  subst e_52
  cases h
  exact r_rv hq (z_at.mk 1 rfl rfl) rfl rfl H_52
def g_m_arounds (a0 : Nat) (a2 : Nat) (x1 : Int) (x3 : Int) (σ : zS) : Option (Unit × zS) :=
  if 0 ≤ x1 ∧ x1 < zLI a0 then
  let v_2 := σ a0 x1
  if 0 ≤ v_2 then
    if 0 ≤ x1 ∧ x1 < zLI a0 then
    let v_20 := σ a0 x1
    if 0 ≤ x3 ∧ x3 < zLI a2 then
    let v_23 := σ a2 x3
    (g_m_less v_20 v_23 σ).bind fun o_24 =>
    if 0 ≤ w32 (x1 + 1) ∧ w32 (x1 + 1) < zLI a0 then
    let v_31 := o_24.2 a0 (w32 (x1 + 1))
    if 0 ≤ w32 (x3 + 1) ∧ w32 (x3 + 1) < zLI a2 then
    let v_36 := o_24.2 a2 (w32 (x3 + 1))
    (g_m_more v_31 v_36 o_24.2).bind fun o_37 =>
    if 0 ≤ w32 (x1 + 2) ∧ w32 (x1 + 2) < zLI a0 then
    let v_44 := o_37.2 a0 (w32 (x1 + 2))
    if 0 ≤ w32 (x3 + 2) ∧ w32 (x3 + 2) < zLI a2 then
    let v_49 := o_37.2 a2 (w32 (x3 + 2))
    (g_m_less v_44 v_49 o_37.2).bind fun o_50 =>
    if 0 ≤ w32 (x1 + 3) ∧ w32 (x1 + 3) < zLI a0 then
    let v_57 := o_50.2 a0 (w32 (x1 + 3))
    if 0 ≤ w32 (x3 + 3) ∧ w32 (x3 + 3) < zLI a2 then
    let v_62 := o_50.2 a2 (w32 (x3 + 3))
    (g_m_more v_57 v_62 o_50.2).bind fun o_63 =>
    (g_m_sets a0 x1 o_24.1 o_37.1 o_50.1 o_63.1 o_63.2).bind fun o_66 =>
    some ((), o_66.2)
    else none
    else none
    else none
    else none
    else none
    else none
    else none
    else none
  else
    (g_m_copies a2 a0 x3 x1 σ).bind fun o_10 =>
    some ((), o_10.2)
  else none
set_option maxHeartbeats 4000000 in
theorem g_m_arounds_ok {xl : Nat} {xs : Nat → Int32} {a0 : Nat} (ha0 : zIn [144, 150, 151, 152, 153, 156, 157, 161, 164, 165] a0 = true) {a2 : Nat} (ha2 : zIn [144, 150, 151, 152, 153, 156, 157, 161, 164, 165] a2 = true) {X1 : Int32} {x1 : Int} (hx1 : X1.toInt = x1) {X3 : Int32} {x3 : Int} (hx3 : X3.toInt = x3) {σ : zS} {p : Nat} {m : zM} {o : Unit × zS} (H : zRep xl xs p m σ) (h : g_m_arounds a0 a2 x1 x3 σ = some o) : zGo xl xs (fun p' => p = p') 3 171 0 (z_can 171 0 (lv_args 0 [.ref a0, .int X1, .ref a2, .int X3])) [] m vV o.2 := by
  have hq : z_mth 171 = some z_r171 := rfl
  unfold g_m_arounds at h
  show zGo xl xs (fun p' => p = p') 3 171 0 [(0, .ref a0), (1, .int X1), (2, .ref a2), (3, .int X3)] [] m vV o.2
  refine r_p hq 2 (pc' := 2) (L' := [(0, .ref a0), (1, .int X1), (2, .ref a2), (3, .int X3)]) (st' := [.int X1, .ref a0]) rfl ?_
  obtain ⟨g_2, h⟩ := z_ifo_some h
  refine r_ia (pc' := 3) (L' := [(0, .ref a0), (1, .int X1), (2, .ref a2), (3, .int X3)]) H hq (z_at.mk 1 rfl rfl) (zIn_all (l := [144, 150, 151, 152, 153, 156, 157, 161, 164, 165]) (p := fun a => zAr a 0 (zLI a)) rfl ha0) hx1 g_2 rfl rfl ?_
  intro V_2 hV_2
  rcases z_ite h with ⟨c_3, h⟩ | ⟨c_3, h⟩
  · refine r_t1 (pc' := 16) (L' := [(0, .ref a0), (1, .int X1), (2, .ref a2), (3, .int X3)]) hq (z_at.mk 3 rfl rfl) rfl hV_2 c_3 rfl rfl ?_
    refine r_p hq 4 (pc' := 20) (L' := [(0, .ref a0), (1, .int X1), (2, .ref a2), (3, .int X3)]) (st' := [.int X1, .ref a0, .int X1, .ref a0]) rfl ?_
    obtain ⟨g_20, h⟩ := z_ifo_some h
    refine r_ia (pc' := 21) (L' := [(0, .ref a0), (1, .int X1), (2, .ref a2), (3, .int X3)]) H hq (z_at.mk 1 rfl rfl) (zIn_all (l := [144, 150, 151, 152, 153, 156, 157, 161, 164, 165]) (p := fun a => zAr a 0 (zLI a)) rfl ha0) hx1 g_20 rfl rfl ?_
    intro V_20 hV_20
    refine r_p hq 2 (pc' := 23) (L' := [(0, .ref a0), (1, .int X1), (2, .ref a2), (3, .int X3)]) (st' := [.int X3, .ref a2, .int V_20, .int X1, .ref a0]) rfl ?_
    obtain ⟨g_23, h⟩ := z_ifo_some h
    refine r_ia (pc' := 24) (L' := [(0, .ref a0), (1, .int X1), (2, .ref a2), (3, .int X3)]) H hq (z_at.mk 1 rfl rfl) (zIn_all (l := [144, 150, 151, 152, 153, 156, 157, 161, 164, 165]) (p := fun a => zAr a 0 (zLI a)) rfl ha2) hx3 g_23 rfl rfl ?_
    intro V_23 hV_23
    obtain ⟨o_24, h_24, h⟩ := Option.bind_eq_some_iff.mp h
    refine r_csI (pc' := 27) (L' := [(0, .ref a0), (1, .int X1), (2, .ref a2), (3, .int X3)]) (As := [.int V_20, .int V_23]) (rest := [.int X1, .ref a0]) (j := 160) hq (z_at.mk 3 rfl rfl) (Or.inl ⟨rfl, rfl⟩) rfl rfl (by omega) (g_m_less_ok hV_20 hV_23 H h_24) rfl rfl ?_
    intro R_24 m_24 p_24 e_24 hR_24 H_24
    subst e_24
    refine r_p hq 4 (pc' := 31) (L' := [(0, .ref a0), (1, .int X1), (2, .ref a2), (3, .int X3)]) (st' := [.int (X1 + ((1 : Int32))), .ref a0, .int R_24, .int X1, .ref a0]) rfl ?_
    obtain ⟨g_31, h⟩ := z_ifo_some h
    refine r_ia (pc' := 32) (L' := [(0, .ref a0), (1, .int X1), (2, .ref a2), (3, .int X3)]) H_24 hq (z_at.mk 1 rfl rfl) (zIn_all (l := [144, 150, 151, 152, 153, 156, 157, 161, 164, 165]) (p := fun a => zAr a 0 (zLI a)) rfl ha0) (tx_iadd hx1 (rfl : (1 : Int32).toInt = 1)) g_31 rfl rfl ?_
    intro V_31 hV_31
    refine r_p hq 4 (pc' := 36) (L' := [(0, .ref a0), (1, .int X1), (2, .ref a2), (3, .int X3)]) (st' := [.int (X3 + ((1 : Int32))), .ref a2, .int V_31, .int R_24, .int X1, .ref a0]) rfl ?_
    obtain ⟨g_36, h⟩ := z_ifo_some h
    refine r_ia (pc' := 37) (L' := [(0, .ref a0), (1, .int X1), (2, .ref a2), (3, .int X3)]) H_24 hq (z_at.mk 1 rfl rfl) (zIn_all (l := [144, 150, 151, 152, 153, 156, 157, 161, 164, 165]) (p := fun a => zAr a 0 (zLI a)) rfl ha2) (tx_iadd hx3 (rfl : (1 : Int32).toInt = 1)) g_36 rfl rfl ?_
    intro V_36 hV_36
    obtain ⟨o_37, h_37, h⟩ := Option.bind_eq_some_iff.mp h
    refine r_csI (pc' := 40) (L' := [(0, .ref a0), (1, .int X1), (2, .ref a2), (3, .int X3)]) (As := [.int V_31, .int V_36]) (rest := [.int R_24, .int X1, .ref a0]) (j := 161) hq (z_at.mk 3 rfl rfl) (Or.inl ⟨rfl, rfl⟩) rfl rfl (by omega) (g_m_more_ok hV_31 hV_36 H_24 h_37) rfl rfl ?_
    intro R_37 m_37 p_37 e_37 hR_37 H_37
    subst e_37
    refine r_p hq 4 (pc' := 44) (L' := [(0, .ref a0), (1, .int X1), (2, .ref a2), (3, .int X3)]) (st' := [.int (X1 + ((2 : Int32))), .ref a0, .int R_37, .int R_24, .int X1, .ref a0]) rfl ?_
    obtain ⟨g_44, h⟩ := z_ifo_some h
    refine r_ia (pc' := 45) (L' := [(0, .ref a0), (1, .int X1), (2, .ref a2), (3, .int X3)]) H_37 hq (z_at.mk 1 rfl rfl) (zIn_all (l := [144, 150, 151, 152, 153, 156, 157, 161, 164, 165]) (p := fun a => zAr a 0 (zLI a)) rfl ha0) (tx_iadd hx1 (rfl : (2 : Int32).toInt = 2)) g_44 rfl rfl ?_
    intro V_44 hV_44
    refine r_p hq 4 (pc' := 49) (L' := [(0, .ref a0), (1, .int X1), (2, .ref a2), (3, .int X3)]) (st' := [.int (X3 + ((2 : Int32))), .ref a2, .int V_44, .int R_37, .int R_24, .int X1, .ref a0]) rfl ?_
    obtain ⟨g_49, h⟩ := z_ifo_some h
    refine r_ia (pc' := 50) (L' := [(0, .ref a0), (1, .int X1), (2, .ref a2), (3, .int X3)]) H_37 hq (z_at.mk 1 rfl rfl) (zIn_all (l := [144, 150, 151, 152, 153, 156, 157, 161, 164, 165]) (p := fun a => zAr a 0 (zLI a)) rfl ha2) (tx_iadd hx3 (rfl : (2 : Int32).toInt = 2)) g_49 rfl rfl ?_
    intro V_49 hV_49
    obtain ⟨o_50, h_50, h⟩ := Option.bind_eq_some_iff.mp h
    refine r_csI (pc' := 53) (L' := [(0, .ref a0), (1, .int X1), (2, .ref a2), (3, .int X3)]) (As := [.int V_44, .int V_49]) (rest := [.int R_37, .int R_24, .int X1, .ref a0]) (j := 160) hq (z_at.mk 3 rfl rfl) (Or.inl ⟨rfl, rfl⟩) rfl rfl (by omega) (g_m_less_ok hV_44 hV_49 H_37 h_50) rfl rfl ?_
    intro R_50 m_50 p_50 e_50 hR_50 H_50
    subst e_50
    refine r_p hq 4 (pc' := 57) (L' := [(0, .ref a0), (1, .int X1), (2, .ref a2), (3, .int X3)]) (st' := [.int (X1 + ((3 : Int32))), .ref a0, .int R_50, .int R_37, .int R_24, .int X1, .ref a0]) rfl ?_
    obtain ⟨g_57, h⟩ := z_ifo_some h
    refine r_ia (pc' := 58) (L' := [(0, .ref a0), (1, .int X1), (2, .ref a2), (3, .int X3)]) H_50 hq (z_at.mk 1 rfl rfl) (zIn_all (l := [144, 150, 151, 152, 153, 156, 157, 161, 164, 165]) (p := fun a => zAr a 0 (zLI a)) rfl ha0) (tx_iadd hx1 (rfl : (3 : Int32).toInt = 3)) g_57 rfl rfl ?_
    intro V_57 hV_57
    refine r_p hq 4 (pc' := 62) (L' := [(0, .ref a0), (1, .int X1), (2, .ref a2), (3, .int X3)]) (st' := [.int (X3 + ((3 : Int32))), .ref a2, .int V_57, .int R_50, .int R_37, .int R_24, .int X1, .ref a0]) rfl ?_
    obtain ⟨g_62, h⟩ := z_ifo_some h
    refine r_ia (pc' := 63) (L' := [(0, .ref a0), (1, .int X1), (2, .ref a2), (3, .int X3)]) H_50 hq (z_at.mk 1 rfl rfl) (zIn_all (l := [144, 150, 151, 152, 153, 156, 157, 161, 164, 165]) (p := fun a => zAr a 0 (zLI a)) rfl ha2) (tx_iadd hx3 (rfl : (3 : Int32).toInt = 3)) g_62 rfl rfl ?_
    intro V_62 hV_62
    obtain ⟨o_63, h_63, h⟩ := Option.bind_eq_some_iff.mp h
    refine r_csI (pc' := 66) (L' := [(0, .ref a0), (1, .int X1), (2, .ref a2), (3, .int X3)]) (As := [.int V_57, .int V_62]) (rest := [.int R_50, .int R_37, .int R_24, .int X1, .ref a0]) (j := 161) hq (z_at.mk 3 rfl rfl) (Or.inl ⟨rfl, rfl⟩) rfl rfl (by omega) (g_m_more_ok hV_57 hV_62 H_50 h_63) rfl rfl ?_
    intro R_63 m_63 p_63 e_63 hR_63 H_63
    subst e_63
    obtain ⟨o_66, h_66, h⟩ := Option.bind_eq_some_iff.mp h
    refine r_csV (pc' := 69) (L' := []) (As := [.ref a0, .int X1, .int R_24, .int R_37, .int R_50, .int R_63]) (rest := []) (j := 165) hq (z_at.mk 3 rfl rfl) (Or.inl ⟨rfl, rfl⟩) rfl rfl (by omega) (g_m_sets_ok (zIn_all (l := [144, 150, 151, 152, 153, 156, 157, 161, 164, 165]) (p := fun a => zIn [144, 150, 151, 152, 153, 156, 157, 161, 164, 165] a) rfl ha0) hx1 hR_24 hR_37 hR_50 hR_63 H_63 h_66) rfl rfl ?_
    intro m_66 p_66 e_66 H_66
    subst e_66
    cases h
    exact r_rv hq (z_at.mk 1 rfl rfl) rfl rfl H_66
  · refine r_f1 (pc' := 6) (L' := [(0, .ref a0), (1, .int X1), (2, .ref a2), (3, .int X3)]) hq (z_at.mk 3 rfl rfl) rfl hV_2 c_3 rfl rfl ?_
    refine r_p hq 4 (pc' := 10) (L' := [(0, .ref a0), (1, .int X1), (2, .ref a2), (3, .int X3)]) (st' := [.int X1, .ref a0, .int X3, .ref a2]) rfl ?_
    obtain ⟨o_10, h_10, h⟩ := Option.bind_eq_some_iff.mp h
    refine r_csV (pc' := 13) (L' := [(0, .ref a0), (1, .int X1), (2, .ref a2), (3, .int X3)]) (As := [.ref a2, .int X3, .ref a0, .int X1]) (rest := []) (j := 166) hq (z_at.mk 3 rfl rfl) (Or.inl ⟨rfl, rfl⟩) rfl rfl (by omega) (g_m_copies_ok (zIn_all (l := [144, 150, 151, 152, 153, 156, 157, 161, 164, 165]) (p := fun a => zIn [144, 150, 151, 152, 153, 156, 157, 161, 164, 165] a) rfl ha2) (zIn_all (l := [144, 150, 151, 152, 153, 156, 157, 161, 164, 165]) (p := fun a => zIn [144, 150, 151, 152, 153, 156, 157, 161, 164, 165] a) rfl ha0) hx3 hx1 H h_10) rfl rfl ?_
    intro m_10 p_10 e_10 H_10
    subst e_10
    refine r_p hq 1 (pc' := 69) (L' := []) (st' := []) rfl ?_
    cases h
    exact r_rv hq (z_at.mk 1 rfl rfl) rfl rfl H_10
def g_m_rests_L199 (a0 : Nat) (a2 : Nat) (a4 : Nat) (x5 : Int) (x6 : Int) (σ : zS) : Option (Int × zS) :=
  some (w32 (Int.tdiv (w32 (x6 - x5)) 4), σ)
set_option maxHeartbeats 4000000 in
theorem g_m_rests_L199_ok {xl : Nat} {xs : Nat → Int32} {a0 : Nat} (ha0 : zIn [144, 150, 151, 152, 153, 156, 157, 161, 164, 165] a0 = true) {a2 : Nat} (ha2 : zIn [144, 150, 151, 152, 153, 156, 157, 161, 164, 165] a2 = true) {a4 : Nat} (ha4 : zIn [144, 150, 151, 152, 153, 156, 157, 161, 164, 165] a4 = true) {X5 : Int32} {x5 : Int} (hx5 : X5.toInt = x5) {X6 : Int32} {x6 : Int} (hx6 : X6.toInt = x6) {σ : zS} {p : Nat} {m : zM} {o : Int × zS} (H : zRep xl xs p m σ) (h : g_m_rests_L199 a0 a2 a4 x5 x6 σ = some o) : zGo xl xs (fun p' => p = p') 3 172 199 [(5, .int X5), (6, .int X6)] [] m (vI o.1) o.2 := by
  have hq : z_mth 172 = some z_r172 := rfl
  unfold g_m_rests_L199 at h
  refine r_p hq 4 (pc' := 205) (L' := [(5, .int X5), (6, .int X6)]) (st' := [.int ((4 : Int32)), .int (X6 - X5)]) rfl ?_
  refine r_idiv (pc' := 206) (L' := [(5, .int X5), (6, .int X6)]) hq (z_at.mk 1 rfl rfl) (tx_isub hx6 hx5) (rfl : (4 : Int32).toInt = 4) (by decide) rfl rfl ?_
  intro V_205 hV_205
  cases h
  exact r_ri hq (z_at.mk 1 rfl rfl) rfl rfl hV_205 rfl H
def g_m_rests_L160 (a0 : Nat) (a2 : Nat) (a4 : Nat) (x1 : Int) (x3 : Int) (x5 : Int) (x6 : Int) (x7 : Int) (x8 : Int) (σ : zS) : Option (Int × zS) :=
  if 0 ≤ w32 (x1 + 1) ∧ w32 (x1 + 1) < zLI a0 then
  let v_164 := σ a0 (w32 (x1 + 1))
  if 0 ≤ w32 (x3 + 1) ∧ w32 (x3 + 1) < zLI a2 then
  let v_169 := σ a2 (w32 (x3 + 1))
  if v_164 ≤ v_169 then
    g_m_rests_L199 a0 a2 a4 x5 x6 σ
  else
    if 0 ≤ w32 (x3 + 1) ∧ w32 (x3 + 1) < zLI a2 then
    let v_181 := σ a2 (w32 (x3 + 1))
    if 0 ≤ w32 (x1 + 1) ∧ w32 (x1 + 1) < zLI a0 then
    let v_188 := σ a0 (w32 (x1 + 1))
    (g_m_sets a4 x6 (w32 (v_181 + 1)) v_188 x7 x8 σ).bind fun o_193 =>
    g_m_rests_L199 a0 a2 a4 x5 (w32 (x6 + 4)) o_193.2
    else none
    else none
  else none
  else none
set_option maxHeartbeats 4000000 in
theorem g_m_rests_L160_ok {xl : Nat} {xs : Nat → Int32} {a0 : Nat} (ha0 : zIn [144, 150, 151, 152, 153, 156, 157, 161, 164, 165] a0 = true) {a2 : Nat} (ha2 : zIn [144, 150, 151, 152, 153, 156, 157, 161, 164, 165] a2 = true) {a4 : Nat} (ha4 : zIn [144, 150, 151, 152, 153, 156, 157, 161, 164, 165] a4 = true) {X1 : Int32} {x1 : Int} (hx1 : X1.toInt = x1) {X3 : Int32} {x3 : Int} (hx3 : X3.toInt = x3) {X5 : Int32} {x5 : Int} (hx5 : X5.toInt = x5) {X6 : Int32} {x6 : Int} (hx6 : X6.toInt = x6) {X7 : Int32} {x7 : Int} (hx7 : X7.toInt = x7) {X8 : Int32} {x8 : Int} (hx8 : X8.toInt = x8) {σ : zS} {p : Nat} {m : zM} {o : Int × zS} (H : zRep xl xs p m σ) (h : g_m_rests_L160 a0 a2 a4 x1 x3 x5 x6 x7 x8 σ = some o) : zGo xl xs (fun p' => p = p') 3 172 160 [(0, .ref a0), (1, .int X1), (2, .ref a2), (3, .int X3), (4, .ref a4), (5, .int X5), (6, .int X6), (7, .int X7), (8, .int X8)] [] m (vI o.1) o.2 := by
  have hq : z_mth 172 = some z_r172 := rfl
  unfold g_m_rests_L160 at h
  refine r_p hq 4 (pc' := 164) (L' := [(0, .ref a0), (1, .int X1), (2, .ref a2), (3, .int X3), (4, .ref a4), (5, .int X5), (6, .int X6), (7, .int X7), (8, .int X8)]) (st' := [.int (X1 + ((1 : Int32))), .ref a0]) rfl ?_
  obtain ⟨g_164, h⟩ := z_ifo_some h
  refine r_ia (pc' := 165) (L' := [(0, .ref a0), (1, .int X1), (2, .ref a2), (3, .int X3), (4, .ref a4), (5, .int X5), (6, .int X6), (7, .int X7), (8, .int X8)]) H hq (z_at.mk 1 rfl rfl) (zIn_all (l := [144, 150, 151, 152, 153, 156, 157, 161, 164, 165]) (p := fun a => zAr a 0 (zLI a)) rfl ha0) (tx_iadd hx1 (rfl : (1 : Int32).toInt = 1)) g_164 rfl rfl ?_
  intro V_164 hV_164
  refine r_p hq 4 (pc' := 169) (L' := [(0, .ref a0), (1, .int X1), (2, .ref a2), (3, .int X3), (4, .ref a4), (5, .int X5), (6, .int X6), (7, .int X7), (8, .int X8)]) (st' := [.int (X3 + ((1 : Int32))), .ref a2, .int V_164]) rfl ?_
  obtain ⟨g_169, h⟩ := z_ifo_some h
  refine r_ia (pc' := 170) (L' := [(0, .ref a0), (1, .int X1), (2, .ref a2), (3, .int X3), (4, .ref a4), (5, .int X5), (6, .int X6), (7, .int X7), (8, .int X8)]) H hq (z_at.mk 1 rfl rfl) (zIn_all (l := [144, 150, 151, 152, 153, 156, 157, 161, 164, 165]) (p := fun a => zAr a 0 (zLI a)) rfl ha2) (tx_iadd hx3 (rfl : (1 : Int32).toInt = 1)) g_169 rfl rfl ?_
  intro V_169 hV_169
  rcases z_ite h with ⟨c_170, h⟩ | ⟨c_170, h⟩
  · refine r_t2 (pc' := 199) (L' := [(5, .int X5), (6, .int X6)]) hq (z_at.mk 3 rfl rfl) rfl hV_164 hV_169 c_170 rfl rfl ?_
    exact g_m_rests_L199_ok ha0 ha2 ha4 hx5 hx6 H h
  · refine r_f2 (pc' := 173) (L' := [(0, .ref a0), (1, .int X1), (2, .ref a2), (3, .int X3), (4, .ref a4), (5, .int X5), (6, .int X6), (7, .int X7), (8, .int X8)]) hq (z_at.mk 3 rfl rfl) rfl hV_164 hV_169 c_170 rfl rfl ?_
    refine r_p hq 6 (pc' := 181) (L' := [(0, .ref a0), (1, .int X1), (2, .ref a2), (3, .int X3), (4, .ref a4), (5, .int X5), (6, .int X6), (7, .int X7), (8, .int X8)]) (st' := [.int (X3 + ((1 : Int32))), .ref a2, .int X6, .ref a4]) rfl ?_
    obtain ⟨g_181, h⟩ := z_ifo_some h
    refine r_ia (pc' := 182) (L' := [(0, .ref a0), (1, .int X1), (2, .ref a2), (3, .int X3), (4, .ref a4), (5, .int X5), (6, .int X6), (7, .int X7), (8, .int X8)]) H hq (z_at.mk 1 rfl rfl) (zIn_all (l := [144, 150, 151, 152, 153, 156, 157, 161, 164, 165]) (p := fun a => zAr a 0 (zLI a)) rfl ha2) (tx_iadd hx3 (rfl : (1 : Int32).toInt = 1)) g_181 rfl rfl ?_
    intro V_181 hV_181
    refine r_p hq 6 (pc' := 188) (L' := [(0, .ref a0), (1, .int X1), (2, .ref a2), (3, .int X3), (4, .ref a4), (5, .int X5), (6, .int X6), (7, .int X7), (8, .int X8)]) (st' := [.int (X1 + ((1 : Int32))), .ref a0, .int (V_181 + ((1 : Int32))), .int X6, .ref a4]) rfl ?_
    obtain ⟨g_188, h⟩ := z_ifo_some h
    refine r_ia (pc' := 189) (L' := [(0, .ref a0), (1, .int X1), (2, .ref a2), (3, .int X3), (4, .ref a4), (5, .int X5), (6, .int X6), (7, .int X7), (8, .int X8)]) H hq (z_at.mk 1 rfl rfl) (zIn_all (l := [144, 150, 151, 152, 153, 156, 157, 161, 164, 165]) (p := fun a => zAr a 0 (zLI a)) rfl ha0) (tx_iadd hx1 (rfl : (1 : Int32).toInt = 1)) g_188 rfl rfl ?_
    intro V_188 hV_188
    refine r_p hq 2 (pc' := 193) (L' := [(0, .ref a0), (1, .int X1), (2, .ref a2), (3, .int X3), (4, .ref a4), (5, .int X5), (6, .int X6), (7, .int X7), (8, .int X8)]) (st' := [.int X8, .int X7, .int V_188, .int (V_181 + ((1 : Int32))), .int X6, .ref a4]) rfl ?_
    obtain ⟨o_193, h_193, h⟩ := Option.bind_eq_some_iff.mp h
    refine r_csV (pc' := 196) (L' := [(0, .ref a0), (1, .int X1), (2, .ref a2), (3, .int X3), (4, .ref a4), (5, .int X5), (6, .int X6), (7, .int X7), (8, .int X8)]) (As := [.ref a4, .int X6, .int (V_181 + ((1 : Int32))), .int V_188, .int X7, .int X8]) (rest := []) (j := 165) hq (z_at.mk 3 rfl rfl) (Or.inl ⟨rfl, rfl⟩) rfl rfl (by omega) (g_m_sets_ok (zIn_all (l := [144, 150, 151, 152, 153, 156, 157, 161, 164, 165]) (p := fun a => zIn [144, 150, 151, 152, 153, 156, 157, 161, 164, 165] a) rfl ha4) hx6 (tx_iadd hV_181 (rfl : (1 : Int32).toInt = 1)) hV_188 hx7 hx8 H h_193) rfl rfl ?_
    intro m_193 p_193 e_193 H_193
    subst e_193
    refine r_p hq 1 (pc' := 199) (L' := [(5, .int X5), (6, .int (X6 + (4 : Int32)))]) (st' := []) rfl ?_
    exact g_m_rests_L199_ok ha0 ha2 ha4 hx5 (tx_iadd hx6 (rfl : (4 : Int32).toInt = 4)) H_193 h
def g_m_rests_L129 (a0 : Nat) (a2 : Nat) (a4 : Nat) (x1 : Int) (x3 : Int) (x5 : Int) (x6 : Int) (x7 : Int) (x8 : Int) (σ : zS) : Option (Int × zS) :=
  if 0 ≤ x1 ∧ x1 < zLI a0 then
  let v_131 := σ a0 x1
  if 0 ≤ x3 ∧ x3 < zLI a2 then
  let v_134 := σ a2 x3
  if v_134 ≤ v_131 then
    g_m_rests_L160 a0 a2 a4 x1 x3 x5 x6 x7 x8 σ
  else
    if 0 ≤ x1 ∧ x1 < zLI a0 then
    let v_144 := σ a0 x1
    if 0 ≤ x3 ∧ x3 < zLI a2 then
    let v_147 := σ a2 x3
    (g_m_sets a4 x6 v_144 (w32 (v_147 - 1)) x7 x8 σ).bind fun o_154 =>
    g_m_rests_L160 a0 a2 a4 x1 x3 x5 (w32 (x6 + 4)) x7 x8 o_154.2
    else none
    else none
  else none
  else none
set_option maxHeartbeats 4000000 in
theorem g_m_rests_L129_ok {xl : Nat} {xs : Nat → Int32} {a0 : Nat} (ha0 : zIn [144, 150, 151, 152, 153, 156, 157, 161, 164, 165] a0 = true) {a2 : Nat} (ha2 : zIn [144, 150, 151, 152, 153, 156, 157, 161, 164, 165] a2 = true) {a4 : Nat} (ha4 : zIn [144, 150, 151, 152, 153, 156, 157, 161, 164, 165] a4 = true) {X1 : Int32} {x1 : Int} (hx1 : X1.toInt = x1) {X3 : Int32} {x3 : Int} (hx3 : X3.toInt = x3) {X5 : Int32} {x5 : Int} (hx5 : X5.toInt = x5) {X6 : Int32} {x6 : Int} (hx6 : X6.toInt = x6) {X7 : Int32} {x7 : Int} (hx7 : X7.toInt = x7) {X8 : Int32} {x8 : Int} (hx8 : X8.toInt = x8) {σ : zS} {p : Nat} {m : zM} {o : Int × zS} (H : zRep xl xs p m σ) (h : g_m_rests_L129 a0 a2 a4 x1 x3 x5 x6 x7 x8 σ = some o) : zGo xl xs (fun p' => p = p') 3 172 129 [(0, .ref a0), (1, .int X1), (2, .ref a2), (3, .int X3), (4, .ref a4), (5, .int X5), (6, .int X6), (7, .int X7), (8, .int X8)] [] m (vI o.1) o.2 := by
  have hq : z_mth 172 = some z_r172 := rfl
  unfold g_m_rests_L129 at h
  refine r_p hq 2 (pc' := 131) (L' := [(0, .ref a0), (1, .int X1), (2, .ref a2), (3, .int X3), (4, .ref a4), (5, .int X5), (6, .int X6), (7, .int X7), (8, .int X8)]) (st' := [.int X1, .ref a0]) rfl ?_
  obtain ⟨g_131, h⟩ := z_ifo_some h
  refine r_ia (pc' := 132) (L' := [(0, .ref a0), (1, .int X1), (2, .ref a2), (3, .int X3), (4, .ref a4), (5, .int X5), (6, .int X6), (7, .int X7), (8, .int X8)]) H hq (z_at.mk 1 rfl rfl) (zIn_all (l := [144, 150, 151, 152, 153, 156, 157, 161, 164, 165]) (p := fun a => zAr a 0 (zLI a)) rfl ha0) hx1 g_131 rfl rfl ?_
  intro V_131 hV_131
  refine r_p hq 2 (pc' := 134) (L' := [(0, .ref a0), (1, .int X1), (2, .ref a2), (3, .int X3), (4, .ref a4), (5, .int X5), (6, .int X6), (7, .int X7), (8, .int X8)]) (st' := [.int X3, .ref a2, .int V_131]) rfl ?_
  obtain ⟨g_134, h⟩ := z_ifo_some h
  refine r_ia (pc' := 135) (L' := [(0, .ref a0), (1, .int X1), (2, .ref a2), (3, .int X3), (4, .ref a4), (5, .int X5), (6, .int X6), (7, .int X7), (8, .int X8)]) H hq (z_at.mk 1 rfl rfl) (zIn_all (l := [144, 150, 151, 152, 153, 156, 157, 161, 164, 165]) (p := fun a => zAr a 0 (zLI a)) rfl ha2) hx3 g_134 rfl rfl ?_
  intro V_134 hV_134
  rcases z_ite h with ⟨c_135, h⟩ | ⟨c_135, h⟩
  · refine r_t2 (pc' := 160) (L' := [(0, .ref a0), (1, .int X1), (2, .ref a2), (3, .int X3), (4, .ref a4), (5, .int X5), (6, .int X6), (7, .int X7), (8, .int X8)]) hq (z_at.mk 3 rfl rfl) rfl hV_131 hV_134 c_135 rfl rfl ?_
    exact g_m_rests_L160_ok ha0 ha2 ha4 hx1 hx3 hx5 hx6 hx7 hx8 H h
  · refine r_f2 (pc' := 138) (L' := [(0, .ref a0), (1, .int X1), (2, .ref a2), (3, .int X3), (4, .ref a4), (5, .int X5), (6, .int X6), (7, .int X7), (8, .int X8)]) hq (z_at.mk 3 rfl rfl) rfl hV_131 hV_134 c_135 rfl rfl ?_
    refine r_p hq 4 (pc' := 144) (L' := [(0, .ref a0), (1, .int X1), (2, .ref a2), (3, .int X3), (4, .ref a4), (5, .int X5), (6, .int X6), (7, .int X7), (8, .int X8)]) (st' := [.int X1, .ref a0, .int X6, .ref a4]) rfl ?_
    obtain ⟨g_144, h⟩ := z_ifo_some h
    refine r_ia (pc' := 145) (L' := [(0, .ref a0), (1, .int X1), (2, .ref a2), (3, .int X3), (4, .ref a4), (5, .int X5), (6, .int X6), (7, .int X7), (8, .int X8)]) H hq (z_at.mk 1 rfl rfl) (zIn_all (l := [144, 150, 151, 152, 153, 156, 157, 161, 164, 165]) (p := fun a => zAr a 0 (zLI a)) rfl ha0) hx1 g_144 rfl rfl ?_
    intro V_144 hV_144
    refine r_p hq 2 (pc' := 147) (L' := [(0, .ref a0), (1, .int X1), (2, .ref a2), (3, .int X3), (4, .ref a4), (5, .int X5), (6, .int X6), (7, .int X7), (8, .int X8)]) (st' := [.int X3, .ref a2, .int V_144, .int X6, .ref a4]) rfl ?_
    obtain ⟨g_147, h⟩ := z_ifo_some h
    refine r_ia (pc' := 148) (L' := [(0, .ref a0), (1, .int X1), (2, .ref a2), (3, .int X3), (4, .ref a4), (5, .int X5), (6, .int X6), (7, .int X7), (8, .int X8)]) H hq (z_at.mk 1 rfl rfl) (zIn_all (l := [144, 150, 151, 152, 153, 156, 157, 161, 164, 165]) (p := fun a => zAr a 0 (zLI a)) rfl ha2) hx3 g_147 rfl rfl ?_
    intro V_147 hV_147
    refine r_p hq 4 (pc' := 154) (L' := [(0, .ref a0), (1, .int X1), (2, .ref a2), (3, .int X3), (4, .ref a4), (5, .int X5), (6, .int X6), (7, .int X7), (8, .int X8)]) (st' := [.int X8, .int X7, .int (V_147 - ((1 : Int32))), .int V_144, .int X6, .ref a4]) rfl ?_
    obtain ⟨o_154, h_154, h⟩ := Option.bind_eq_some_iff.mp h
    refine r_csV (pc' := 157) (L' := [(0, .ref a0), (1, .int X1), (2, .ref a2), (3, .int X3), (4, .ref a4), (5, .int X5), (6, .int X6), (7, .int X7), (8, .int X8)]) (As := [.ref a4, .int X6, .int V_144, .int (V_147 - ((1 : Int32))), .int X7, .int X8]) (rest := []) (j := 165) hq (z_at.mk 3 rfl rfl) (Or.inl ⟨rfl, rfl⟩) rfl rfl (by omega) (g_m_sets_ok (zIn_all (l := [144, 150, 151, 152, 153, 156, 157, 161, 164, 165]) (p := fun a => zIn [144, 150, 151, 152, 153, 156, 157, 161, 164, 165] a) rfl ha4) hx6 hV_144 (tx_isub hV_147 (rfl : (1 : Int32).toInt = 1)) hx7 hx8 H h_154) rfl rfl ?_
    intro m_154 p_154 e_154 H_154
    subst e_154
    refine r_p hq 1 (pc' := 160) (L' := [(0, .ref a0), (1, .int X1), (2, .ref a2), (3, .int X3), (4, .ref a4), (5, .int X5), (6, .int (X6 + (4 : Int32))), (7, .int X7), (8, .int X8)]) (st' := []) rfl ?_
    exact g_m_rests_L160_ok ha0 ha2 ha4 hx1 hx3 hx5 (tx_iadd hx6 (rfl : (4 : Int32).toInt = 4)) hx7 hx8 H_154 h
def g_m_rests_L92 (a0 : Nat) (a2 : Nat) (a4 : Nat) (x1 : Int) (x3 : Int) (x5 : Int) (x6 : Int) (x7 : Int) (x8 : Int) (σ : zS) : Option (Int × zS) :=
  if 0 ≤ w32 (x1 + 3) ∧ w32 (x1 + 3) < zLI a0 then
  let v_96 := σ a0 (w32 (x1 + 3))
  if v_96 ≤ x8 then
    g_m_rests_L129 a0 a2 a4 x1 x3 x5 x6 x7 x8 σ
  else
    if 0 ≤ x1 ∧ x1 < zLI a0 then
    let v_108 := σ a0 x1
    if 0 ≤ w32 (x1 + 1) ∧ w32 (x1 + 1) < zLI a0 then
    let v_113 := σ a0 (w32 (x1 + 1))
    if 0 ≤ w32 (x1 + 3) ∧ w32 (x1 + 3) < zLI a0 then
    let v_122 := σ a0 (w32 (x1 + 3))
    (g_m_sets a4 x6 v_108 v_113 (w32 (x8 + 1)) v_122 σ).bind fun o_123 =>
    g_m_rests_L129 a0 a2 a4 x1 x3 x5 (w32 (x6 + 4)) x7 x8 o_123.2
    else none
    else none
    else none
  else none
set_option maxHeartbeats 4000000 in
theorem g_m_rests_L92_ok {xl : Nat} {xs : Nat → Int32} {a0 : Nat} (ha0 : zIn [144, 150, 151, 152, 153, 156, 157, 161, 164, 165] a0 = true) {a2 : Nat} (ha2 : zIn [144, 150, 151, 152, 153, 156, 157, 161, 164, 165] a2 = true) {a4 : Nat} (ha4 : zIn [144, 150, 151, 152, 153, 156, 157, 161, 164, 165] a4 = true) {X1 : Int32} {x1 : Int} (hx1 : X1.toInt = x1) {X3 : Int32} {x3 : Int} (hx3 : X3.toInt = x3) {X5 : Int32} {x5 : Int} (hx5 : X5.toInt = x5) {X6 : Int32} {x6 : Int} (hx6 : X6.toInt = x6) {X7 : Int32} {x7 : Int} (hx7 : X7.toInt = x7) {X8 : Int32} {x8 : Int} (hx8 : X8.toInt = x8) {σ : zS} {p : Nat} {m : zM} {o : Int × zS} (H : zRep xl xs p m σ) (h : g_m_rests_L92 a0 a2 a4 x1 x3 x5 x6 x7 x8 σ = some o) : zGo xl xs (fun p' => p = p') 3 172 92 [(0, .ref a0), (1, .int X1), (2, .ref a2), (3, .int X3), (4, .ref a4), (5, .int X5), (6, .int X6), (7, .int X7), (8, .int X8)] [] m (vI o.1) o.2 := by
  have hq : z_mth 172 = some z_r172 := rfl
  unfold g_m_rests_L92 at h
  refine r_p hq 4 (pc' := 96) (L' := [(0, .ref a0), (1, .int X1), (2, .ref a2), (3, .int X3), (4, .ref a4), (5, .int X5), (6, .int X6), (7, .int X7), (8, .int X8)]) (st' := [.int (X1 + ((3 : Int32))), .ref a0]) rfl ?_
  obtain ⟨g_96, h⟩ := z_ifo_some h
  refine r_ia (pc' := 97) (L' := [(0, .ref a0), (1, .int X1), (2, .ref a2), (3, .int X3), (4, .ref a4), (5, .int X5), (6, .int X6), (7, .int X7), (8, .int X8)]) H hq (z_at.mk 1 rfl rfl) (zIn_all (l := [144, 150, 151, 152, 153, 156, 157, 161, 164, 165]) (p := fun a => zAr a 0 (zLI a)) rfl ha0) (tx_iadd hx1 (rfl : (3 : Int32).toInt = 3)) g_96 rfl rfl ?_
  intro V_96 hV_96
  refine r_p hq 1 (pc' := 99) (L' := [(0, .ref a0), (1, .int X1), (2, .ref a2), (3, .int X3), (4, .ref a4), (5, .int X5), (6, .int X6), (7, .int X7), (8, .int X8)]) (st' := [.int X8, .int V_96]) rfl ?_
  rcases z_ite h with ⟨c_99, h⟩ | ⟨c_99, h⟩
  · refine r_t2 (pc' := 129) (L' := [(0, .ref a0), (1, .int X1), (2, .ref a2), (3, .int X3), (4, .ref a4), (5, .int X5), (6, .int X6), (7, .int X7), (8, .int X8)]) hq (z_at.mk 3 rfl rfl) rfl hV_96 hx8 c_99 rfl rfl ?_
    exact g_m_rests_L129_ok ha0 ha2 ha4 hx1 hx3 hx5 hx6 hx7 hx8 H h
  · refine r_f2 (pc' := 102) (L' := [(0, .ref a0), (1, .int X1), (2, .ref a2), (3, .int X3), (4, .ref a4), (5, .int X5), (6, .int X6), (7, .int X7), (8, .int X8)]) hq (z_at.mk 3 rfl rfl) rfl hV_96 hx8 c_99 rfl rfl ?_
    refine r_p hq 4 (pc' := 108) (L' := [(0, .ref a0), (1, .int X1), (2, .ref a2), (3, .int X3), (4, .ref a4), (5, .int X5), (6, .int X6), (7, .int X7), (8, .int X8)]) (st' := [.int X1, .ref a0, .int X6, .ref a4]) rfl ?_
    obtain ⟨g_108, h⟩ := z_ifo_some h
    refine r_ia (pc' := 109) (L' := [(0, .ref a0), (1, .int X1), (2, .ref a2), (3, .int X3), (4, .ref a4), (5, .int X5), (6, .int X6), (7, .int X7), (8, .int X8)]) H hq (z_at.mk 1 rfl rfl) (zIn_all (l := [144, 150, 151, 152, 153, 156, 157, 161, 164, 165]) (p := fun a => zAr a 0 (zLI a)) rfl ha0) hx1 g_108 rfl rfl ?_
    intro V_108 hV_108
    refine r_p hq 4 (pc' := 113) (L' := [(0, .ref a0), (1, .int X1), (2, .ref a2), (3, .int X3), (4, .ref a4), (5, .int X5), (6, .int X6), (7, .int X7), (8, .int X8)]) (st' := [.int (X1 + ((1 : Int32))), .ref a0, .int V_108, .int X6, .ref a4]) rfl ?_
    obtain ⟨g_113, h⟩ := z_ifo_some h
    refine r_ia (pc' := 114) (L' := [(0, .ref a0), (1, .int X1), (2, .ref a2), (3, .int X3), (4, .ref a4), (5, .int X5), (6, .int X6), (7, .int X7), (8, .int X8)]) H hq (z_at.mk 1 rfl rfl) (zIn_all (l := [144, 150, 151, 152, 153, 156, 157, 161, 164, 165]) (p := fun a => zAr a 0 (zLI a)) rfl ha0) (tx_iadd hx1 (rfl : (1 : Int32).toInt = 1)) g_113 rfl rfl ?_
    intro V_113 hV_113
    refine r_p hq 7 (pc' := 122) (L' := [(0, .ref a0), (1, .int X1), (2, .ref a2), (3, .int X3), (4, .ref a4), (5, .int X5), (6, .int X6), (7, .int X7), (8, .int X8)]) (st' := [.int (X1 + ((3 : Int32))), .ref a0, .int (X8 + ((1 : Int32))), .int V_113, .int V_108, .int X6, .ref a4]) rfl ?_
    obtain ⟨g_122, h⟩ := z_ifo_some h
    refine r_ia (pc' := 123) (L' := [(0, .ref a0), (1, .int X1), (2, .ref a2), (3, .int X3), (4, .ref a4), (5, .int X5), (6, .int X6), (7, .int X7), (8, .int X8)]) H hq (z_at.mk 1 rfl rfl) (zIn_all (l := [144, 150, 151, 152, 153, 156, 157, 161, 164, 165]) (p := fun a => zAr a 0 (zLI a)) rfl ha0) (tx_iadd hx1 (rfl : (3 : Int32).toInt = 3)) g_122 rfl rfl ?_
    intro V_122 hV_122
    obtain ⟨o_123, h_123, h⟩ := Option.bind_eq_some_iff.mp h
    refine r_csV (pc' := 126) (L' := [(0, .ref a0), (1, .int X1), (2, .ref a2), (3, .int X3), (4, .ref a4), (5, .int X5), (6, .int X6), (7, .int X7), (8, .int X8)]) (As := [.ref a4, .int X6, .int V_108, .int V_113, .int (X8 + ((1 : Int32))), .int V_122]) (rest := []) (j := 165) hq (z_at.mk 3 rfl rfl) (Or.inl ⟨rfl, rfl⟩) rfl rfl (by omega) (g_m_sets_ok (zIn_all (l := [144, 150, 151, 152, 153, 156, 157, 161, 164, 165]) (p := fun a => zIn [144, 150, 151, 152, 153, 156, 157, 161, 164, 165] a) rfl ha4) hx6 hV_108 hV_113 (tx_iadd hx8 (rfl : (1 : Int32).toInt = 1)) hV_122 H h_123) rfl rfl ?_
    intro m_123 p_123 e_123 H_123
    subst e_123
    refine r_p hq 1 (pc' := 129) (L' := [(0, .ref a0), (1, .int X1), (2, .ref a2), (3, .int X3), (4, .ref a4), (5, .int X5), (6, .int (X6 + (4 : Int32))), (7, .int X7), (8, .int X8)]) (st' := []) rfl ?_
    exact g_m_rests_L129_ok ha0 ha2 ha4 hx1 hx3 hx5 (tx_iadd hx6 (rfl : (4 : Int32).toInt = 4)) hx7 hx8 H_123 h
def g_m_rests (a0 : Nat) (a2 : Nat) (a4 : Nat) (x1 : Int) (x3 : Int) (x5 : Int) (σ : zS) : Option (Int × zS) :=
  (g_m_doMeet a0 a2 x1 x3 σ).bind fun o_4 =>
  if o_4.1 ≠ 0 then
    if 0 ≤ w32 (x1 + 2) ∧ w32 (x1 + 2) < zLI a0 then
    let v_29 := o_4.2 a0 (w32 (x1 + 2))
    if 0 ≤ w32 (x3 + 2) ∧ w32 (x3 + 2) < zLI a2 then
    let v_34 := o_4.2 a2 (w32 (x3 + 2))
    (g_m_more v_29 v_34 o_4.2).bind fun o_35 =>
    if 0 ≤ w32 (x1 + 3) ∧ w32 (x1 + 3) < zLI a0 then
    let v_44 := o_35.2 a0 (w32 (x1 + 3))
    if 0 ≤ w32 (x3 + 3) ∧ w32 (x3 + 3) < zLI a2 then
    let v_49 := o_35.2 a2 (w32 (x3 + 3))
    (g_m_less v_44 v_49 o_35.2).bind fun o_50 =>
    if 0 ≤ w32 (x1 + 2) ∧ w32 (x1 + 2) < zLI a0 then
    let v_59 := o_50.2 a0 (w32 (x1 + 2))
    if o_35.1 ≤ v_59 then
      g_m_rests_L92 a0 a2 a4 x1 x3 x5 x5 o_35.1 o_50.1 o_50.2
    else
      if 0 ≤ x1 ∧ x1 < zLI a0 then
      let v_71 := o_50.2 a0 x1
      if 0 ≤ w32 (x1 + 1) ∧ w32 (x1 + 1) < zLI a0 then
      let v_76 := o_50.2 a0 (w32 (x1 + 1))
      if 0 ≤ w32 (x1 + 2) ∧ w32 (x1 + 2) < zLI a0 then
      let v_81 := o_50.2 a0 (w32 (x1 + 2))
      (g_m_sets a4 x5 v_71 v_76 v_81 (w32 (o_35.1 - 1)) o_50.2).bind fun o_86 =>
      g_m_rests_L92 a0 a2 a4 x1 x3 x5 (w32 (x5 + 4)) o_35.1 o_50.1 o_86.2
      else none
      else none
      else none
    else none
    else none
    else none
    else none
    else none
  else
    (g_m_copies a0 a4 x1 x5 o_4.2).bind fun o_16 =>
    some (1, o_16.2)
set_option maxHeartbeats 4000000 in
theorem g_m_rests_ok {xl : Nat} {xs : Nat → Int32} {a0 : Nat} (ha0 : zIn [144, 150, 151, 152, 153, 156, 157, 161, 164, 165] a0 = true) {a2 : Nat} (ha2 : zIn [144, 150, 151, 152, 153, 156, 157, 161, 164, 165] a2 = true) {a4 : Nat} (ha4 : zIn [144, 150, 151, 152, 153, 156, 157, 161, 164, 165] a4 = true) {X1 : Int32} {x1 : Int} (hx1 : X1.toInt = x1) {X3 : Int32} {x3 : Int} (hx3 : X3.toInt = x3) {X5 : Int32} {x5 : Int} (hx5 : X5.toInt = x5) {σ : zS} {p : Nat} {m : zM} {o : Int × zS} (H : zRep xl xs p m σ) (h : g_m_rests a0 a2 a4 x1 x3 x5 σ = some o) : zGo xl xs (fun p' => p = p') 3 172 0 (z_can 172 0 (lv_args 0 [.ref a0, .int X1, .ref a2, .int X3, .ref a4, .int X5])) [] m (vI o.1) o.2 := by
  have hq : z_mth 172 = some z_r172 := rfl
  unfold g_m_rests at h
  show zGo xl xs (fun p' => p = p') 3 172 0 [(0, .ref a0), (1, .int X1), (2, .ref a2), (3, .int X3), (4, .ref a4), (5, .int X5)] [] m (vI o.1) o.2
  refine r_p hq 4 (pc' := 4) (L' := [(0, .ref a0), (1, .int X1), (2, .ref a2), (3, .int X3), (4, .ref a4), (5, .int X5)]) (st' := [.int X3, .ref a2, .int X1, .ref a0]) rfl ?_
  obtain ⟨o_4, h_4, h⟩ := Option.bind_eq_some_iff.mp h
  refine r_csI (pc' := 7) (L' := [(0, .ref a0), (1, .int X1), (2, .ref a2), (3, .int X3), (4, .ref a4), (5, .int X5)]) (As := [.ref a0, .int X1, .ref a2, .int X3]) (rest := []) (j := 169) hq (z_at.mk 3 rfl rfl) (Or.inl ⟨rfl, rfl⟩) rfl rfl (by omega) (g_m_doMeet_ok (zIn_all (l := [144, 150, 151, 152, 153, 156, 157, 161, 164, 165]) (p := fun a => zIn [144, 150, 151, 152, 153, 156, 157, 161, 164, 165] a) rfl ha0) (zIn_all (l := [144, 150, 151, 152, 153, 156, 157, 161, 164, 165]) (p := fun a => zIn [144, 150, 151, 152, 153, 156, 157, 161, 164, 165] a) rfl ha2) hx1 hx3 H h_4) rfl rfl ?_
  intro R_4 m_4 p_4 e_4 hR_4 H_4
  subst e_4
  rcases z_ite h with ⟨c_7, h⟩ | ⟨c_7, h⟩
  · refine r_t1 (pc' := 21) (L' := [(0, .ref a0), (1, .int X1), (2, .ref a2), (3, .int X3), (4, .ref a4), (5, .int X5)]) hq (z_at.mk 3 rfl rfl) rfl hR_4 c_7 rfl rfl ?_
    refine r_p hq 6 (pc' := 29) (L' := [(6, .int X5), (0, .ref a0), (1, .int X1), (2, .ref a2), (3, .int X3), (4, .ref a4), (5, .int X5)]) (st' := [.int (X1 + ((2 : Int32))), .ref a0]) rfl ?_
    obtain ⟨g_29, h⟩ := z_ifo_some h
    refine r_ia (pc' := 30) (L' := [(6, .int X5), (0, .ref a0), (1, .int X1), (2, .ref a2), (3, .int X3), (4, .ref a4), (5, .int X5)]) H_4 hq (z_at.mk 1 rfl rfl) (zIn_all (l := [144, 150, 151, 152, 153, 156, 157, 161, 164, 165]) (p := fun a => zAr a 0 (zLI a)) rfl ha0) (tx_iadd hx1 (rfl : (2 : Int32).toInt = 2)) g_29 rfl rfl ?_
    intro V_29 hV_29
    refine r_p hq 4 (pc' := 34) (L' := [(6, .int X5), (0, .ref a0), (1, .int X1), (2, .ref a2), (3, .int X3), (4, .ref a4), (5, .int X5)]) (st' := [.int (X3 + ((2 : Int32))), .ref a2, .int V_29]) rfl ?_
    obtain ⟨g_34, h⟩ := z_ifo_some h
    refine r_ia (pc' := 35) (L' := [(6, .int X5), (0, .ref a0), (1, .int X1), (2, .ref a2), (3, .int X3), (4, .ref a4), (5, .int X5)]) H_4 hq (z_at.mk 1 rfl rfl) (zIn_all (l := [144, 150, 151, 152, 153, 156, 157, 161, 164, 165]) (p := fun a => zAr a 0 (zLI a)) rfl ha2) (tx_iadd hx3 (rfl : (2 : Int32).toInt = 2)) g_34 rfl rfl ?_
    intro V_34 hV_34
    obtain ⟨o_35, h_35, h⟩ := Option.bind_eq_some_iff.mp h
    refine r_csI (pc' := 38) (L' := [(6, .int X5), (0, .ref a0), (1, .int X1), (2, .ref a2), (3, .int X3), (4, .ref a4), (5, .int X5)]) (As := [.int V_29, .int V_34]) (rest := []) (j := 161) hq (z_at.mk 3 rfl rfl) (Or.inl ⟨rfl, rfl⟩) rfl rfl (by omega) (g_m_more_ok hV_29 hV_34 H_4 h_35) rfl rfl ?_
    intro R_35 m_35 p_35 e_35 hR_35 H_35
    subst e_35
    refine r_p hq 5 (pc' := 44) (L' := [(7, .int R_35), (6, .int X5), (0, .ref a0), (1, .int X1), (2, .ref a2), (3, .int X3), (4, .ref a4), (5, .int X5)]) (st' := [.int (X1 + ((3 : Int32))), .ref a0]) rfl ?_
    obtain ⟨g_44, h⟩ := z_ifo_some h
    refine r_ia (pc' := 45) (L' := [(7, .int R_35), (6, .int X5), (0, .ref a0), (1, .int X1), (2, .ref a2), (3, .int X3), (4, .ref a4), (5, .int X5)]) H_35 hq (z_at.mk 1 rfl rfl) (zIn_all (l := [144, 150, 151, 152, 153, 156, 157, 161, 164, 165]) (p := fun a => zAr a 0 (zLI a)) rfl ha0) (tx_iadd hx1 (rfl : (3 : Int32).toInt = 3)) g_44 rfl rfl ?_
    intro V_44 hV_44
    refine r_p hq 4 (pc' := 49) (L' := [(7, .int R_35), (6, .int X5), (0, .ref a0), (1, .int X1), (2, .ref a2), (3, .int X3), (4, .ref a4), (5, .int X5)]) (st' := [.int (X3 + ((3 : Int32))), .ref a2, .int V_44]) rfl ?_
    obtain ⟨g_49, h⟩ := z_ifo_some h
    refine r_ia (pc' := 50) (L' := [(7, .int R_35), (6, .int X5), (0, .ref a0), (1, .int X1), (2, .ref a2), (3, .int X3), (4, .ref a4), (5, .int X5)]) H_35 hq (z_at.mk 1 rfl rfl) (zIn_all (l := [144, 150, 151, 152, 153, 156, 157, 161, 164, 165]) (p := fun a => zAr a 0 (zLI a)) rfl ha2) (tx_iadd hx3 (rfl : (3 : Int32).toInt = 3)) g_49 rfl rfl ?_
    intro V_49 hV_49
    obtain ⟨o_50, h_50, h⟩ := Option.bind_eq_some_iff.mp h
    refine r_csI (pc' := 53) (L' := [(7, .int R_35), (6, .int X5), (0, .ref a0), (1, .int X1), (2, .ref a2), (3, .int X3), (4, .ref a4), (5, .int X5)]) (As := [.int V_44, .int V_49]) (rest := []) (j := 160) hq (z_at.mk 3 rfl rfl) (Or.inl ⟨rfl, rfl⟩) rfl rfl (by omega) (g_m_less_ok hV_44 hV_49 H_35 h_50) rfl rfl ?_
    intro R_50 m_50 p_50 e_50 hR_50 H_50
    subst e_50
    refine r_p hq 5 (pc' := 59) (L' := [(8, .int R_50), (7, .int R_35), (6, .int X5), (0, .ref a0), (1, .int X1), (2, .ref a2), (3, .int X3), (4, .ref a4), (5, .int X5)]) (st' := [.int (X1 + ((2 : Int32))), .ref a0]) rfl ?_
    obtain ⟨g_59, h⟩ := z_ifo_some h
    refine r_ia (pc' := 60) (L' := [(8, .int R_50), (7, .int R_35), (6, .int X5), (0, .ref a0), (1, .int X1), (2, .ref a2), (3, .int X3), (4, .ref a4), (5, .int X5)]) H_50 hq (z_at.mk 1 rfl rfl) (zIn_all (l := [144, 150, 151, 152, 153, 156, 157, 161, 164, 165]) (p := fun a => zAr a 0 (zLI a)) rfl ha0) (tx_iadd hx1 (rfl : (2 : Int32).toInt = 2)) g_59 rfl rfl ?_
    intro V_59 hV_59
    refine r_p hq 1 (pc' := 62) (L' := [(8, .int R_50), (7, .int R_35), (6, .int X5), (0, .ref a0), (1, .int X1), (2, .ref a2), (3, .int X3), (4, .ref a4), (5, .int X5)]) (st' := [.int R_35, .int V_59]) rfl ?_
    rcases z_ite h with ⟨c_62, h⟩ | ⟨c_62, h⟩
    · refine r_t2 (pc' := 92) (L' := [(0, .ref a0), (1, .int X1), (2, .ref a2), (3, .int X3), (4, .ref a4), (5, .int X5), (6, .int X5), (7, .int R_35), (8, .int R_50)]) hq (z_at.mk 3 rfl rfl) rfl hV_59 hR_35 c_62 rfl rfl ?_
      exact g_m_rests_L92_ok ha0 ha2 ha4 hx1 hx3 hx5 hx5 hR_35 hR_50 H_50 h
    · refine r_f2 (pc' := 65) (L' := [(8, .int R_50), (7, .int R_35), (6, .int X5), (0, .ref a0), (1, .int X1), (2, .ref a2), (3, .int X3), (4, .ref a4), (5, .int X5)]) hq (z_at.mk 3 rfl rfl) rfl hV_59 hR_35 c_62 rfl rfl ?_
      refine r_p hq 4 (pc' := 71) (L' := [(8, .int R_50), (7, .int R_35), (6, .int X5), (0, .ref a0), (1, .int X1), (2, .ref a2), (3, .int X3), (4, .ref a4), (5, .int X5)]) (st' := [.int X1, .ref a0, .int X5, .ref a4]) rfl ?_
      obtain ⟨g_71, h⟩ := z_ifo_some h
      refine r_ia (pc' := 72) (L' := [(8, .int R_50), (7, .int R_35), (6, .int X5), (0, .ref a0), (1, .int X1), (2, .ref a2), (3, .int X3), (4, .ref a4), (5, .int X5)]) H_50 hq (z_at.mk 1 rfl rfl) (zIn_all (l := [144, 150, 151, 152, 153, 156, 157, 161, 164, 165]) (p := fun a => zAr a 0 (zLI a)) rfl ha0) hx1 g_71 rfl rfl ?_
      intro V_71 hV_71
      refine r_p hq 4 (pc' := 76) (L' := [(8, .int R_50), (7, .int R_35), (6, .int X5), (0, .ref a0), (1, .int X1), (2, .ref a2), (3, .int X3), (4, .ref a4), (5, .int X5)]) (st' := [.int (X1 + ((1 : Int32))), .ref a0, .int V_71, .int X5, .ref a4]) rfl ?_
      obtain ⟨g_76, h⟩ := z_ifo_some h
      refine r_ia (pc' := 77) (L' := [(8, .int R_50), (7, .int R_35), (6, .int X5), (0, .ref a0), (1, .int X1), (2, .ref a2), (3, .int X3), (4, .ref a4), (5, .int X5)]) H_50 hq (z_at.mk 1 rfl rfl) (zIn_all (l := [144, 150, 151, 152, 153, 156, 157, 161, 164, 165]) (p := fun a => zAr a 0 (zLI a)) rfl ha0) (tx_iadd hx1 (rfl : (1 : Int32).toInt = 1)) g_76 rfl rfl ?_
      intro V_76 hV_76
      refine r_p hq 4 (pc' := 81) (L' := [(8, .int R_50), (7, .int R_35), (6, .int X5), (0, .ref a0), (1, .int X1), (2, .ref a2), (3, .int X3), (4, .ref a4), (5, .int X5)]) (st' := [.int (X1 + ((2 : Int32))), .ref a0, .int V_76, .int V_71, .int X5, .ref a4]) rfl ?_
      obtain ⟨g_81, h⟩ := z_ifo_some h
      refine r_ia (pc' := 82) (L' := [(8, .int R_50), (7, .int R_35), (6, .int X5), (0, .ref a0), (1, .int X1), (2, .ref a2), (3, .int X3), (4, .ref a4), (5, .int X5)]) H_50 hq (z_at.mk 1 rfl rfl) (zIn_all (l := [144, 150, 151, 152, 153, 156, 157, 161, 164, 165]) (p := fun a => zAr a 0 (zLI a)) rfl ha0) (tx_iadd hx1 (rfl : (2 : Int32).toInt = 2)) g_81 rfl rfl ?_
      intro V_81 hV_81
      refine r_p hq 3 (pc' := 86) (L' := [(8, .int R_50), (7, .int R_35), (6, .int X5), (0, .ref a0), (1, .int X1), (2, .ref a2), (3, .int X3), (4, .ref a4), (5, .int X5)]) (st' := [.int (R_35 - ((1 : Int32))), .int V_81, .int V_76, .int V_71, .int X5, .ref a4]) rfl ?_
      obtain ⟨o_86, h_86, h⟩ := Option.bind_eq_some_iff.mp h
      refine r_csV (pc' := 89) (L' := [(8, .int R_50), (7, .int R_35), (6, .int X5), (0, .ref a0), (1, .int X1), (2, .ref a2), (3, .int X3), (4, .ref a4), (5, .int X5)]) (As := [.ref a4, .int X5, .int V_71, .int V_76, .int V_81, .int (R_35 - ((1 : Int32)))]) (rest := []) (j := 165) hq (z_at.mk 3 rfl rfl) (Or.inl ⟨rfl, rfl⟩) rfl rfl (by omega) (g_m_sets_ok (zIn_all (l := [144, 150, 151, 152, 153, 156, 157, 161, 164, 165]) (p := fun a => zIn [144, 150, 151, 152, 153, 156, 157, 161, 164, 165] a) rfl ha4) hx5 hV_71 hV_76 hV_81 (tx_isub hR_35 (rfl : (1 : Int32).toInt = 1)) H_50 h_86) rfl rfl ?_
      intro m_86 p_86 e_86 H_86
      subst e_86
      refine r_p hq 1 (pc' := 92) (L' := [(0, .ref a0), (1, .int X1), (2, .ref a2), (3, .int X3), (4, .ref a4), (5, .int X5), (6, .int (X5 + (4 : Int32))), (7, .int R_35), (8, .int R_50)]) (st' := []) rfl ?_
      exact g_m_rests_L92_ok ha0 ha2 ha4 hx1 hx3 hx5 (tx_iadd hx5 (rfl : (4 : Int32).toInt = 4)) hR_35 hR_50 H_86 h
  · refine r_f1 (pc' := 10) (L' := [(0, .ref a0), (1, .int X1), (2, .ref a2), (3, .int X3), (4, .ref a4), (5, .int X5)]) hq (z_at.mk 3 rfl rfl) rfl hR_4 c_7 rfl rfl ?_
    refine r_p hq 4 (pc' := 16) (L' := [(0, .ref a0), (1, .int X1), (2, .ref a2), (3, .int X3), (4, .ref a4), (5, .int X5)]) (st' := [.int X5, .ref a4, .int X1, .ref a0]) rfl ?_
    obtain ⟨o_16, h_16, h⟩ := Option.bind_eq_some_iff.mp h
    refine r_csV (pc' := 19) (L' := [(0, .ref a0), (1, .int X1), (2, .ref a2), (3, .int X3), (4, .ref a4), (5, .int X5)]) (As := [.ref a0, .int X1, .ref a4, .int X5]) (rest := []) (j := 166) hq (z_at.mk 3 rfl rfl) (Or.inl ⟨rfl, rfl⟩) rfl rfl (by omega) (g_m_copies_ok (zIn_all (l := [144, 150, 151, 152, 153, 156, 157, 161, 164, 165]) (p := fun a => zIn [144, 150, 151, 152, 153, 156, 157, 161, 164, 165] a) rfl ha0) (zIn_all (l := [144, 150, 151, 152, 153, 156, 157, 161, 164, 165]) (p := fun a => zIn [144, 150, 151, 152, 153, 156, 157, 161, 164, 165] a) rfl ha4) hx1 hx5 H_4 h_16) rfl rfl ?_
    intro m_16 p_16 e_16 H_16
    subst e_16
    refine r_p hq 1 (pc' := 20) (L' := [(0, .ref a0), (1, .int X1), (2, .ref a2), (3, .int X3), (4, .ref a4), (5, .int X5)]) (st' := [.int ((1 : Int32))]) rfl ?_
    cases h
    exact r_ri hq (z_at.mk 1 rfl rfl) rfl rfl (rfl : (1 : Int32).toInt = 1) rfl H_16
def g_m_region_173 (x0 : Int) (σ : zS) : Option (Int × zS) :=
  some (w32 (340 + (w32 (10 * x0))), σ)
set_option maxHeartbeats 4000000 in
theorem g_m_region_173_ok {xl : Nat} {xs : Nat → Int32} {X0 : Int32} {x0 : Int} (hx0 : X0.toInt = x0) {σ : zS} {p : Nat} {m : zM} {o : Int × zS} (H : zRep xl xs p m σ) (h : g_m_region_173 x0 σ = some o) : zGo xl xs (fun p' => p = p') 1 173 0 (z_can 173 0 (lv_args 0 [.int X0])) [] m (vI o.1) o.2 := by
  have hq : z_mth 173 = some z_r173 := rfl
  unfold g_m_region_173 at h
  show zGo xl xs (fun p' => p = p') 1 173 0 [(0, .int X0)] [] m (vI o.1) o.2
  refine r_p hq 5 (pc' := 8) (L' := [(0, .int X0)]) (st' := [.int (((340 : Int32)) + (((10 : Int32)) * X0))]) rfl ?_
  cases h
  exact r_ri hq (z_at.mk 1 rfl rfl) rfl rfl (tx_iadd (rfl : (340 : Int32).toInt = 340) (tx_imul (rfl : (10 : Int32).toInt = 10) hx0)) rfl H
def g_m_rowAt (x0 : Int) (σ : zS) : Option (Int × zS) :=
  some (w32 (20 + (w32 (3 * x0))), σ)
set_option maxHeartbeats 4000000 in
theorem g_m_rowAt_ok {xl : Nat} {xs : Nat → Int32} {X0 : Int32} {x0 : Int} (hx0 : X0.toInt = x0) {σ : zS} {p : Nat} {m : zM} {o : Int × zS} (H : zRep xl xs p m σ) (h : g_m_rowAt x0 σ = some o) : zGo xl xs (fun p' => p = p') 1 174 0 (z_can 174 0 (lv_args 0 [.int X0])) [] m (vI o.1) o.2 := by
  have hq : z_mth 174 = some z_r174 := rfl
  unfold g_m_rowAt at h
  show zGo xl xs (fun p' => p = p') 1 174 0 [(0, .int X0)] [] m (vI o.1) o.2
  refine r_p hq 5 (pc' := 6) (L' := [(0, .int X0)]) (st' := [.int (((20 : Int32)) + (((3 : Int32)) * X0))]) rfl ?_
  cases h
  exact r_ri hq (z_at.mk 1 rfl rfl) rfl rfl (tx_iadd (rfl : (20 : Int32).toInt = 20) (tx_imul (rfl : (3 : Int32).toInt = 3) hx0)) rfl H
def g_m_rowsIn_L64 (a1 : Nat) (g5 : Int → Int → Int → zS → Option (Int × zS)) (x2 : Int) (x4 : Int) (xs0 : Int) (xs1 : Int) (σ : zS) : Option (Int × zS) :=
  g5 x2 (w32 (xs1 + xs0)) (w32 (x4 + 1)) σ
set_option maxHeartbeats 4000000 in
theorem g_m_rowsIn_L64_ok {xl : Nat} {xs : Nat → Int32} {a1 : Nat} (ha1 : zIn [144, 150, 151, 152, 153, 156, 157, 161, 164, 165] a1 = true) {g5 : Int → Int → Int → zS → Option (Int × zS)} (hg5 : ∀ {X2 : Int32} {x2 : Int} {X3 : Int32} {x3 : Int} {X4 : Int32} {x4 : Int} {σ : zS} {p : Nat} {m : zM} {o : Int × zS}, X2.toInt = x2 → X3.toInt = x3 → X4.toInt = x4 → zRep xl xs p m σ → g5 x2 x3 x4 σ = some o → zGo xl xs (fun p' => p = p') 3 175 5 [(0, .ref 143), (1, .ref a1), (2, .int X2), (3, .int X3), (4, .int X4)] [] m (vI o.1) o.2) {X2 : Int32} {x2 : Int} (hx2 : X2.toInt = x2) {X4 : Int32} {x4 : Int} (hx4 : X4.toInt = x4) {Xs0 : Int32} {xs0 : Int} (hxs0 : Xs0.toInt = xs0) {Xs1 : Int32} {xs1 : Int} (hxs1 : Xs1.toInt = xs1) {σ : zS} {p : Nat} {m : zM} {o : Int × zS} (H : zRep xl xs p m σ) (h : g_m_rowsIn_L64 a1 g5 x2 x4 xs0 xs1 σ = some o) : zGo xl xs (fun p' => p = p') 3 175 64 [(0, .ref 143), (1, .ref a1), (2, .int X2), (4, .int X4)] [.int Xs0, .int Xs1] m (vI o.1) o.2 := by
  have hq : z_mth 175 = some z_r175 := rfl
  unfold g_m_rowsIn_L64 at h
  refine r_p hq 4 (pc' := 5) (L' := [(0, .ref 143), (1, .ref a1), (2, .int X2), (3, .int (Xs1 + Xs0)), (4, .int (X4 + (1 : Int32)))]) (st' := []) rfl ?_
  exact hg5 hx2 (tx_iadd hxs1 hxs0) (tx_iadd hx4 (rfl : (1 : Int32).toInt = 1)) H h
def g_m_rowsIn_L63 (a1 : Nat) (g5 : Int → Int → Int → zS → Option (Int × zS)) (x2 : Int) (x4 : Int) (xs0 : Int) (σ : zS) : Option (Int × zS) :=
  g_m_rowsIn_L64 a1 g5 x2 x4 0 xs0 σ
set_option maxHeartbeats 4000000 in
theorem g_m_rowsIn_L63_ok {xl : Nat} {xs : Nat → Int32} {a1 : Nat} (ha1 : zIn [144, 150, 151, 152, 153, 156, 157, 161, 164, 165] a1 = true) {g5 : Int → Int → Int → zS → Option (Int × zS)} (hg5 : ∀ {X2 : Int32} {x2 : Int} {X3 : Int32} {x3 : Int} {X4 : Int32} {x4 : Int} {σ : zS} {p : Nat} {m : zM} {o : Int × zS}, X2.toInt = x2 → X3.toInt = x3 → X4.toInt = x4 → zRep xl xs p m σ → g5 x2 x3 x4 σ = some o → zGo xl xs (fun p' => p = p') 3 175 5 [(0, .ref 143), (1, .ref a1), (2, .int X2), (3, .int X3), (4, .int X4)] [] m (vI o.1) o.2) {X2 : Int32} {x2 : Int} (hx2 : X2.toInt = x2) {X4 : Int32} {x4 : Int} (hx4 : X4.toInt = x4) {Xs0 : Int32} {xs0 : Int} (hxs0 : Xs0.toInt = xs0) {σ : zS} {p : Nat} {m : zM} {o : Int × zS} (H : zRep xl xs p m σ) (h : g_m_rowsIn_L63 a1 g5 x2 x4 xs0 σ = some o) : zGo xl xs (fun p' => p = p') 3 175 63 [(0, .ref 143), (1, .ref a1), (2, .int X2), (4, .int X4)] [.int Xs0] m (vI o.1) o.2 := by
  have hq : z_mth 175 = some z_r175 := rfl
  unfold g_m_rowsIn_L63 at h
  refine r_p hq 1 (pc' := 64) (L' := [(0, .ref 143), (1, .ref a1), (2, .int X2), (4, .int X4)]) (st' := [.int ((0 : Int32)), .int Xs0]) rfl ?_
  exact g_m_rowsIn_L64_ok ha1 hg5 hx2 hx4 (rfl : (0 : Int32).toInt = 0) hxs0 H h
def g_m_rowsIn_L5 (a1 : Nat) : Nat → Int → Int → Int → zS → Option (Int × zS)
  | 0, _, _, _, _ => none
  | n + 1, x2, x3, x4, σ =>
    if 60 ≤ x4 then
      some (x3, σ)
    else
      (g_m_rowAt x4 σ).bind fun o_19 =>
      if 0 ≤ o_19.1 ∧ o_19.1 < 2740 then
      let v_22 := o_19.2 144 o_19.1
      if v_22 ≠ 1 then
        g_m_rowsIn_L63 a1 ((g_m_rowsIn_L5 a1 n)) x2 x4 x3 o_19.2
      else
        (g_m_rowAt x4 o_19.2).bind fun o_35 =>
        if 0 ≤ w32 (o_35.1 + 1) ∧ w32 (o_35.1 + 1) < 2740 then
        let v_40 := o_35.2 144 (w32 (o_35.1 + 1))
        (g_m_rowAt x4 o_35.2).bind fun o_47 =>
        if 0 ≤ w32 (o_47.1 + 2) ∧ w32 (o_47.1 + 2) < 2740 then
        let v_52 := o_47.2 144 (w32 (o_47.1 + 2))
        (g_m_has a1 x2 v_40 v_52 o_47.2).bind fun o_53 =>
        if o_53.1 = 0 then
          g_m_rowsIn_L63 a1 ((g_m_rowsIn_L5 a1 n)) x2 x4 x3 o_53.2
        else
          g_m_rowsIn_L64 a1 ((g_m_rowsIn_L5 a1 n)) x2 x4 1 x3 o_53.2
        else none
        else none
      else none
set_option maxHeartbeats 4000000 in
theorem g_m_rowsIn_L5_ok {xl : Nat} {xs : Nat → Int32} {a1 : Nat} (ha1 : zIn [144, 150, 151, 152, 153, 156, 157, 161, 164, 165] a1 = true) : ∀ (n : Nat) {X2 : Int32} {x2 : Int} {X3 : Int32} {x3 : Int} {X4 : Int32} {x4 : Int} {σ : zS} {p : Nat} {m : zM} {o : Int × zS}, X2.toInt = x2 → X3.toInt = x3 → X4.toInt = x4 → zRep xl xs p m σ → g_m_rowsIn_L5 a1 n x2 x3 x4 σ = some o → zGo xl xs (fun p' => p = p') 3 175 5 [(0, .ref 143), (1, .ref a1), (2, .int X2), (3, .int X3), (4, .int X4)] [] m (vI o.1) o.2
  | 0, _, _, _, _, _, _, _, _, _, _, _, _, _, _, h => by cases h
  | n + 1, X2, x2, X3, x3, X4, x4, σ, p, m, o, hx2, hx3, hx4, H, h => by
    have hq : z_mth 175 = some z_r175 := rfl
    have ih := fun {X2 : Int32} {x2 : Int} {X3 : Int32} {x3 : Int} {X4 : Int32} {x4 : Int} {σ : zS} {p : Nat} {m : zM} {o : Int × zS} => g_m_rowsIn_L5_ok (xl := xl) (xs := xs) ha1 n (X2 := X2) (x2 := x2) (X3 := X3) (x3 := x3) (X4 := X4) (x4 := x4) (σ := σ) (p := p) (m := m) (o := o)
    unfold g_m_rowsIn_L5 at h
    refine r_p hq 2 (pc' := 9) (L' := [(0, .ref 143), (1, .ref a1), (2, .int X2), (3, .int X3), (4, .int X4)]) (st' := [.int ((60 : Int32)), .int X4]) rfl ?_
    rcases z_ite h with ⟨c_9, h⟩ | ⟨c_9, h⟩
    · refine r_t2 (pc' := 72) (L' := [(0, .ref 143), (1, .ref a1), (2, .int X2), (3, .int X3), (4, .int X4)]) hq (z_at.mk 3 rfl rfl) rfl hx4 (rfl : (60 : Int32).toInt = 60) c_9 rfl rfl ?_
      refine r_p hq 1 (pc' := 73) (L' := [(0, .ref 143), (1, .ref a1), (2, .int X2), (3, .int X3), (4, .int X4)]) (st' := [.int X3]) rfl ?_
      cases h
      exact r_ri hq (z_at.mk 1 rfl rfl) rfl rfl hx3 rfl H
    · refine r_f2 (pc' := 12) (L' := [(0, .ref 143), (1, .ref a1), (2, .int X2), (3, .int X3), (4, .int X4)]) hq (z_at.mk 3 rfl rfl) rfl hx4 (rfl : (60 : Int32).toInt = 60) c_9 rfl rfl ?_
      refine r_p hq 2 (pc' := 14) (L' := [(0, .ref 143), (1, .ref a1), (2, .int X2), (3, .int X3), (4, .int X4)]) (st' := [.ref 143, .int X3]) rfl ?_
      refine r_gR (b := 144) (pc' := 17) (L' := [(0, .ref 143), (1, .ref a1), (2, .int X2), (3, .int X3), (4, .int X4)]) H hq (z_at.mk 3 rfl rfl) rfl rfl rfl rfl ?_
      refine r_p hq 1 (pc' := 19) (L' := [(0, .ref 143), (1, .ref a1), (2, .int X2), (3, .int X3), (4, .int X4)]) (st' := [.int X4, .ref 144, .int X3]) rfl ?_
      obtain ⟨o_19, h_19, h⟩ := Option.bind_eq_some_iff.mp h
      refine r_csI (pc' := 22) (L' := [(0, .ref 143), (1, .ref a1), (2, .int X2), (3, .int X3), (4, .int X4)]) (As := [.int X4]) (rest := [.ref 144, .int X3]) (j := 174) hq (z_at.mk 3 rfl rfl) (Or.inl ⟨rfl, rfl⟩) rfl rfl (by omega) (g_m_rowAt_ok hx4 H h_19) rfl rfl ?_
      intro R_19 m_19 p_19 e_19 hR_19 H_19
      subst e_19
      obtain ⟨g_22, h⟩ := z_ifo_some h
      refine r_ia (pc' := 23) (L' := [(0, .ref 143), (1, .ref a1), (2, .int X2), (3, .int X3), (4, .int X4)]) H_19 hq (z_at.mk 1 rfl rfl) (show zAr 144 0 2740 = true from rfl) hR_19 g_22 rfl rfl ?_
      intro V_22 hV_22
      refine r_p hq 1 (pc' := 24) (L' := [(0, .ref 143), (1, .ref a1), (2, .int X2), (3, .int X3), (4, .int X4)]) (st' := [.int ((1 : Int32)), .int V_22, .int X3]) rfl ?_
      rcases z_ite h with ⟨c_24, h⟩ | ⟨c_24, h⟩
      · refine r_t2 (pc' := 63) (L' := [(0, .ref 143), (1, .ref a1), (2, .int X2), (4, .int X4)]) hq (z_at.mk 3 rfl rfl) rfl hV_22 (rfl : (1 : Int32).toInt = 1) c_24 rfl rfl ?_
        exact g_m_rowsIn_L63_ok ha1 ih hx2 hx4 hx3 H_19 h
      · refine r_f2 (pc' := 27) (L' := [(0, .ref 143), (1, .ref a1), (2, .int X2), (3, .int X3), (4, .int X4)]) hq (z_at.mk 3 rfl rfl) rfl hV_22 (rfl : (1 : Int32).toInt = 1) c_24 rfl rfl ?_
        refine r_p hq 3 (pc' := 30) (L' := [(0, .ref 143), (1, .ref a1), (2, .int X2), (3, .int X3), (4, .int X4)]) (st' := [.ref 143, .int X2, .ref a1, .int X3]) rfl ?_
        refine r_gR (b := 144) (pc' := 33) (L' := [(0, .ref 143), (1, .ref a1), (2, .int X2), (3, .int X3), (4, .int X4)]) H_19 hq (z_at.mk 3 rfl rfl) rfl rfl rfl rfl ?_
        refine r_p hq 1 (pc' := 35) (L' := [(0, .ref 143), (1, .ref a1), (2, .int X2), (3, .int X3), (4, .int X4)]) (st' := [.int X4, .ref 144, .int X2, .ref a1, .int X3]) rfl ?_
        obtain ⟨o_35, h_35, h⟩ := Option.bind_eq_some_iff.mp h
        refine r_csI (pc' := 38) (L' := [(0, .ref 143), (1, .ref a1), (2, .int X2), (3, .int X3), (4, .int X4)]) (As := [.int X4]) (rest := [.ref 144, .int X2, .ref a1, .int X3]) (j := 174) hq (z_at.mk 3 rfl rfl) (Or.inl ⟨rfl, rfl⟩) rfl rfl (by omega) (g_m_rowAt_ok hx4 H_19 h_35) rfl rfl ?_
        intro R_35 m_35 p_35 e_35 hR_35 H_35
        subst e_35
        refine r_p hq 2 (pc' := 40) (L' := [(0, .ref 143), (1, .ref a1), (2, .int X2), (3, .int X3), (4, .int X4)]) (st' := [.int (R_35 + ((1 : Int32))), .ref 144, .int X2, .ref a1, .int X3]) rfl ?_
        obtain ⟨g_40, h⟩ := z_ifo_some h
        refine r_ia (pc' := 41) (L' := [(0, .ref 143), (1, .ref a1), (2, .int X2), (3, .int X3), (4, .int X4)]) H_35 hq (z_at.mk 1 rfl rfl) (show zAr 144 0 2740 = true from rfl) (tx_iadd hR_35 (rfl : (1 : Int32).toInt = 1)) g_40 rfl rfl ?_
        intro V_40 hV_40
        refine r_p hq 1 (pc' := 42) (L' := [(0, .ref 143), (1, .ref a1), (2, .int X2), (3, .int X3), (4, .int X4)]) (st' := [.ref 143, .int V_40, .int X2, .ref a1, .int X3]) rfl ?_
        refine r_gR (b := 144) (pc' := 45) (L' := [(0, .ref 143), (1, .ref a1), (2, .int X2), (3, .int X3), (4, .int X4)]) H_35 hq (z_at.mk 3 rfl rfl) rfl rfl rfl rfl ?_
        refine r_p hq 1 (pc' := 47) (L' := [(0, .ref 143), (1, .ref a1), (2, .int X2), (3, .int X3), (4, .int X4)]) (st' := [.int X4, .ref 144, .int V_40, .int X2, .ref a1, .int X3]) rfl ?_
        obtain ⟨o_47, h_47, h⟩ := Option.bind_eq_some_iff.mp h
        refine r_csI (pc' := 50) (L' := [(0, .ref 143), (1, .ref a1), (2, .int X2), (3, .int X3), (4, .int X4)]) (As := [.int X4]) (rest := [.ref 144, .int V_40, .int X2, .ref a1, .int X3]) (j := 174) hq (z_at.mk 3 rfl rfl) (Or.inl ⟨rfl, rfl⟩) rfl rfl (by omega) (g_m_rowAt_ok hx4 H_35 h_47) rfl rfl ?_
        intro R_47 m_47 p_47 e_47 hR_47 H_47
        subst e_47
        refine r_p hq 2 (pc' := 52) (L' := [(0, .ref 143), (1, .ref a1), (2, .int X2), (3, .int X3), (4, .int X4)]) (st' := [.int (R_47 + ((2 : Int32))), .ref 144, .int V_40, .int X2, .ref a1, .int X3]) rfl ?_
        obtain ⟨g_52, h⟩ := z_ifo_some h
        refine r_ia (pc' := 53) (L' := [(0, .ref 143), (1, .ref a1), (2, .int X2), (3, .int X3), (4, .int X4)]) H_47 hq (z_at.mk 1 rfl rfl) (show zAr 144 0 2740 = true from rfl) (tx_iadd hR_47 (rfl : (2 : Int32).toInt = 2)) g_52 rfl rfl ?_
        intro V_52 hV_52
        obtain ⟨o_53, h_53, h⟩ := Option.bind_eq_some_iff.mp h
        refine r_csI (pc' := 56) (L' := [(0, .ref 143), (1, .ref a1), (2, .int X2), (3, .int X3), (4, .int X4)]) (As := [.ref a1, .int X2, .int V_40, .int V_52]) (rest := [.int X3]) (j := 168) hq (z_at.mk 3 rfl rfl) (Or.inl ⟨rfl, rfl⟩) rfl rfl (by omega) (g_m_has_ok (zIn_all (l := [144, 150, 151, 152, 153, 156, 157, 161, 164, 165]) (p := fun a => zIn [144, 150, 151, 152, 153, 156, 157, 161, 164, 165] a) rfl ha1) hx2 hV_40 hV_52 H_47 h_53) rfl rfl ?_
        intro R_53 m_53 p_53 e_53 hR_53 H_53
        subst e_53
        rcases z_ite h with ⟨c_56, h⟩ | ⟨c_56, h⟩
        · refine r_t1 (pc' := 63) (L' := [(0, .ref 143), (1, .ref a1), (2, .int X2), (4, .int X4)]) hq (z_at.mk 3 rfl rfl) rfl hR_53 c_56 rfl rfl ?_
          exact g_m_rowsIn_L63_ok ha1 ih hx2 hx4 hx3 H_53 h
        · refine r_f1 (pc' := 59) (L' := [(0, .ref 143), (1, .ref a1), (2, .int X2), (3, .int X3), (4, .int X4)]) hq (z_at.mk 3 rfl rfl) rfl hR_53 c_56 rfl rfl ?_
          refine r_p hq 2 (pc' := 64) (L' := [(0, .ref 143), (1, .ref a1), (2, .int X2), (4, .int X4)]) (st' := [.int ((1 : Int32)), .int X3]) rfl ?_
          exact g_m_rowsIn_L64_ok ha1 ih hx2 hx4 (rfl : (1 : Int32).toInt = 1) hx3 H_53 h
def g_m_rowsIn (a1 : Nat) (x2 : Int) (σ : zS) : Option (Int × zS) :=
  g_m_rowsIn_L5 a1 zK x2 0 0 σ
set_option maxHeartbeats 4000000 in
theorem g_m_rowsIn_ok {xl : Nat} {xs : Nat → Int32} {a1 : Nat} (ha1 : zIn [144, 150, 151, 152, 153, 156, 157, 161, 164, 165] a1 = true) {X2 : Int32} {x2 : Int} (hx2 : X2.toInt = x2) {σ : zS} {p : Nat} {m : zM} {o : Int × zS} (H : zRep xl xs p m σ) (h : g_m_rowsIn a1 x2 σ = some o) : zGo xl xs (fun p' => p = p') 3 175 0 (z_can 175 0 (lv_args 0 [.ref 143, .ref a1, .int X2])) [] m (vI o.1) o.2 := by
  have hq : z_mth 175 = some z_r175 := rfl
  unfold g_m_rowsIn at h
  show zGo xl xs (fun p' => p = p') 3 175 0 [(0, .ref 143), (1, .ref a1), (2, .int X2)] [] m (vI o.1) o.2
  refine r_p hq 4 (pc' := 5) (L' := [(0, .ref 143), (1, .ref a1), (2, .int X2), (3, .int ((0 : Int32))), (4, .int ((0 : Int32)))]) (st' := []) rfl ?_
  exact g_m_rowsIn_L5_ok ha1 zK hx2 (rfl : (0 : Int32).toInt = 0) (rfl : (0 : Int32).toInt = 0) H h
