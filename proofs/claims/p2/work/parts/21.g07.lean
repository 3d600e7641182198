/-! THE METHODS over the typed memory, 7 (by wip/zg.py) -/
def g_jStringBuilder_append_304 (x1 : Int) (σ : zS) : Option (Unit × zS) :=
  (g_jAbstractStringBuilder_append_280 x1 σ).bind fun o_2 =>
  some ((), o_2.2)
set_option maxHeartbeats 4000000 in
theorem g_jStringBuilder_append_304_ok {xl : Nat} {xs : Nat → Int32} {X1 : Int32} {x1 : Int} (hx1 : X1.toInt = x1) {σ : zS} {p : Nat} {m : zM} {o : Unit × zS} (H : zRep xl xs p m σ) (h : g_jStringBuilder_append_304 x1 σ = some o) : zGo xl xs (fun _ => True) 12 304 0 (z_can 304 0 (lv_args 0 [.ref 129, .int X1])) [] m (vR (129)) o.2 := by
  have hq : z_mth 304 = some z_r304 := rfl
  unfold g_jStringBuilder_append_304 at h
  show zGo xl xs (fun _ => True) 12 304 0 [(0, .ref 129), (1, .int X1)] [] m (vR (129)) o.2
  refine r_p hq 2 (pc' := 2) (L' := [(0, .ref 129), (1, .int X1)]) (st' := [.int X1, .ref 129]) rfl ?_
  obtain ⟨o_2, h_2, h⟩ := Option.bind_eq_some_iff.mp h
  refine r_cvR (pc' := 5) (L' := [(0, .ref 129), (1, .int X1)]) (Ps := [.int X1]) (rest := []) hq (z_at.mk 3 rfl rfl) (Or.inr ⟨rfl, rfl, rfl⟩) rfl rfl (by decide) (by decide) rfl (Nat.not_lt.mpr (Nat.le_of_ble_eq_true rfl)) rfl rfl (z_cat_le 0 rfl (by decide)) (z_lgl_le 2 rfl (by decide)) (by decide) (H.tg rfl) (by omega) (g_jAbstractStringBuilder_append_280_ok hx1 H h_2) rfl rfl ?_
  intro m_2 p_2 e_2 H_2
  refine r_p hq 2 (pc' := 7) (L' := [(0, .ref 129), (1, .int X1)]) (st' := [.ref 129]) rfl ?_
  cases h
  exact r_ra hq (z_at.mk 1 rfl rfl) rfl trivial H_2
def g_jStringLatin1_canEncode_309 (x0 : Int) (σ : zS) : Option (Int × zS) :=
  if 255 < x0 then
    some (0, σ)
  else
    some (1, σ)
set_option maxHeartbeats 4000000 in
theorem g_jStringLatin1_canEncode_309_ok {xl : Nat} {xs : Nat → Int32} {X0 : Int32} {x0 : Int} (hx0 : X0.toInt = x0) {σ : zS} {p : Nat} {m : zM} {o : Int × zS} (H : zRep xl xs p m σ) (h : g_jStringLatin1_canEncode_309 x0 σ = some o) : zGo xl xs (fun p' => p = p') 1 309 0 (z_can 309 0 (lv_args 0 [.int X0])) [] m (vI o.1) o.2 := by
  have hq : z_mth 309 = some z_r309 := rfl
  unfold g_jStringLatin1_canEncode_309 at h
  show zGo xl xs (fun p' => p = p') 1 309 0 [(0, .int X0)] [] m (vI o.1) o.2
  refine r_p hq 2 (pc' := 4) (L' := [(0, .int X0)]) (st' := [.int ((255 : Int32)), .int X0]) rfl ?_
  rcases z_ite h with ⟨c_4, h⟩ | ⟨c_4, h⟩
  · refine r_t2 (pc' := 11) (L' := [(0, .int X0)]) hq (z_at.mk 3 rfl rfl) rfl hx0 (rfl : (255 : Int32).toInt = 255) c_4 rfl rfl ?_
    refine r_p hq 1 (pc' := 12) (L' := []) (st' := [.int ((0 : Int32))]) rfl ?_
    cases h
    exact r_ri hq (z_at.mk 1 rfl rfl) rfl rfl (rfl : (0 : Int32).toInt = 0) rfl H
  · refine r_f2 (pc' := 7) (L' := [(0, .int X0)]) hq (z_at.mk 3 rfl rfl) rfl hx0 (rfl : (255 : Int32).toInt = 255) c_4 rfl rfl ?_
    refine r_p hq 2 (pc' := 12) (L' := []) (st' := [.int ((1 : Int32))]) rfl ?_
    cases h
    exact r_ri hq (z_at.mk 1 rfl rfl) rfl rfl (rfl : (1 : Int32).toInt = 1) rfl H
def g_jAbstractStringBuilder_append_279_L56 (x1 : Int) (σ : zS) : Option (Unit × zS) :=
  let v_62 := σ 129 3
  let s_68 := zu σ 129 3 (w32 (v_62 + 1))
  none
set_option maxHeartbeats 4000000 in
theorem g_jAbstractStringBuilder_append_279_L56_ok {xl : Nat} {xs : Nat → Int32} {X1 : Int32} {x1 : Int} (hx1 : X1.toInt = x1) {σ : zS} {p : Nat} {m : zM} {o : Unit × zS} (H : zRep xl xs p m σ) (h : g_jAbstractStringBuilder_append_279_L56 x1 σ = some o) : zGo xl xs (fun _ => True) 11 279 56 [(0, .ref 129), (1, .int X1)] [] m (vR (129)) o.2 := by
  have hq : z_mth 279 = some z_r279 := rfl
  unfold g_jAbstractStringBuilder_append_279_L56 at h
  refine r_p hq 1 (pc' := 57) (L' := [(0, .ref 129), (1, .int X1)]) (st' := [.ref 129]) rfl ?_
  refine r_gP (pc' := 60) (L' := [(0, .ref 129), (1, .int X1)]) H hq (z_at.mk 3 rfl rfl) rfl rfl rfl ?_
  refine r_p hq 2 (pc' := 62) (L' := [(0, .ref 129), (1, .int X1)]) (st' := [.ref 129, .ref 129, .ref p]) rfl ?_
  refine r_gI (pc' := 65) (L' := [(0, .ref 129), (1, .int X1)]) H hq (z_at.mk 3 rfl rfl) rfl rfl rfl rfl ?_
  intro V_62 hV_62
  refine r_p hq 3 (pc' := 68) (L' := [(0, .ref 129), (1, .int X1)]) (st' := [.int (V_62 + ((1 : Int32))), .ref 129, .int V_62, .ref p]) rfl ?_
  refine r_pI (X := V_62 + ((1 : Int32))) (pc' := 71) (L' := [(0, .ref 129), (1, .int X1)]) H hq (z_at.mk 3 rfl rfl) rfl rfl (tx_iadd hV_62 (rfl : (1 : Int32).toInt = 1)) (by decide) rfl rfl rfl rfl ?_
  intro m_68 H_68
  refine r_p hq 1 (pc' := 72) (L' := [(0, .ref 129), (1, .int X1)]) (st' := [.int X1, .int V_62, .ref p]) rfl ?_
  cases h
def g_jAbstractStringBuilder_append_279_L45 (x1 : Int) (σ : zS) : Option (Unit × zS) :=
  (g_jAbstractStringBuilder_isLatin1 σ).bind fun o_46 =>
  if o_46.1 = 0 then
    g_jAbstractStringBuilder_append_279_L56 x1 o_46.2
  else
    none
set_option maxHeartbeats 4000000 in
theorem g_jAbstractStringBuilder_append_279_L45_ok {xl : Nat} {xs : Nat → Int32} {X1 : Int32} {x1 : Int} (hx1 : X1.toInt = x1) {σ : zS} {p : Nat} {m : zM} {o : Unit × zS} (H : zRep xl xs p m σ) (h : g_jAbstractStringBuilder_append_279_L45 x1 σ = some o) : zGo xl xs (fun _ => True) 11 279 45 [(0, .ref 129), (1, .int X1)] [] m (vR (129)) o.2 := by
  have hq : z_mth 279 = some z_r279 := rfl
  unfold g_jAbstractStringBuilder_append_279_L45 at h
  refine r_p hq 1 (pc' := 46) (L' := [(0, .ref 129), (1, .int X1)]) (st' := [.ref 129]) rfl ?_
  obtain ⟨o_46, h_46, h⟩ := Option.bind_eq_some_iff.mp h
  refine r_cvI (pc' := 49) (L' := [(0, .ref 129), (1, .int X1)]) (Ps := []) (rest := []) hq (z_at.mk 3 rfl rfl) (Or.inl ⟨rfl, rfl⟩) rfl rfl (by decide) (by decide) rfl (Nat.not_lt.mpr (Nat.le_of_ble_eq_true rfl)) rfl rfl (z_cat_le 0 rfl (by decide)) (z_lgl_le 1 rfl (by decide)) (by decide) (H.tg rfl) (by omega) (g_jAbstractStringBuilder_isLatin1_ok H h_46) rfl rfl ?_
  intro R_46 m_46 p_46 e_46 hR_46 H_46
  subst e_46
  rcases z_ite h with ⟨c_49, h⟩ | ⟨c_49, h⟩
  · refine r_t1 (pc' := 56) (L' := [(0, .ref 129), (1, .int X1)]) hq (z_at.mk 3 rfl rfl) rfl hR_46 c_49 rfl rfl ?_
    exact g_jAbstractStringBuilder_append_279_L56_ok hx1 H_46 h
  · refine r_f1 (pc' := 52) (L' := [(0, .ref 129), (1, .int X1)]) hq (z_at.mk 3 rfl rfl) rfl hR_46 c_49 rfl rfl ?_
    refine r_p hq 1 (pc' := 53) (L' := [(0, .ref 129), (1, .int X1)]) (st' := [.ref 129]) rfl ?_
    cases h
def g_jAbstractStringBuilder_append_279 (x1 : Int) (σ : zS) : Option (Unit × zS) :=
  let v_2 := σ 129 3
  (g_sb_ensure (w32 (v_2 + 1)) σ).bind fun o_7 =>
  (g_jAbstractStringBuilder_isLatin1 o_7.2).bind fun o_11 =>
  if o_11.1 = 0 then
    g_jAbstractStringBuilder_append_279_L45 x1 o_11.2
  else
    (g_jStringLatin1_canEncode_309 x1 o_11.2).bind fun o_18 =>
    if o_18.1 = 0 then
      g_jAbstractStringBuilder_append_279_L45 x1 o_18.2
    else
      let v_30 := o_18.2 129 3
      let s_36 := zu o_18.2 129 3 (w32 (v_30 + 1))
      if 0 ≤ v_30 ∧ v_30 < s_36 169 0 then
      let s_41 := zu s_36 168 v_30 (w8 (w8 x1))
      some ((), s_41)
      else none
set_option maxHeartbeats 4000000 in
theorem g_jAbstractStringBuilder_append_279_ok {xl : Nat} {xs : Nat → Int32} {X1 : Int32} {x1 : Int} (hx1 : X1.toInt = x1) {σ : zS} {p : Nat} {m : zM} {o : Unit × zS} (H : zRep xl xs p m σ) (h : g_jAbstractStringBuilder_append_279 x1 σ = some o) : zGo xl xs (fun _ => True) 11 279 0 (z_can 279 0 (lv_args 0 [.ref 129, .int X1])) [] m (vR (129)) o.2 := by
  have hq : z_mth 279 = some z_r279 := rfl
  unfold g_jAbstractStringBuilder_append_279 at h
  show zGo xl xs (fun _ => True) 11 279 0 [(0, .ref 129), (1, .int X1)] [] m (vR (129)) o.2
  refine r_p hq 2 (pc' := 2) (L' := [(0, .ref 129), (1, .int X1)]) (st' := [.ref 129, .ref 129]) rfl ?_
  refine r_gI (pc' := 5) (L' := [(0, .ref 129), (1, .int X1)]) H hq (z_at.mk 3 rfl rfl) rfl rfl rfl rfl ?_
  intro V_2 hV_2
  refine r_p hq 2 (pc' := 7) (L' := [(0, .ref 129), (1, .int X1)]) (st' := [.int (V_2 + ((1 : Int32))), .ref 129]) rfl ?_
  obtain ⟨o_7, h_7, h⟩ := Option.bind_eq_some_iff.mp h
  refine r_cvV (pc' := 10) (L' := [(0, .ref 129), (1, .int X1)]) (Ps := [.int (V_2 + ((1 : Int32)))]) (rest := []) hq (z_at.mk 3 rfl rfl) (Or.inl ⟨rfl, rfl⟩) rfl rfl (by decide) (by decide) rfl (Nat.not_lt.mpr (Nat.le_of_ble_eq_true rfl)) rfl rfl (z_cat_le 0 rfl (by decide)) (z_lgl_le 2 rfl (by decide)) (by decide) (H.tg rfl) (by omega) (g_sb_ensure_ok (tx_iadd hV_2 (rfl : (1 : Int32).toInt = 1)) H h_7) rfl rfl ?_
  intro m_7 p_7 e_7 H_7
  refine r_p hq 1 (pc' := 11) (L' := [(0, .ref 129), (1, .int X1)]) (st' := [.ref 129]) rfl ?_
  obtain ⟨o_11, h_11, h⟩ := Option.bind_eq_some_iff.mp h
  refine r_cvI (pc' := 14) (L' := [(0, .ref 129), (1, .int X1)]) (Ps := []) (rest := []) hq (z_at.mk 3 rfl rfl) (Or.inl ⟨rfl, rfl⟩) rfl rfl (by decide) (by decide) rfl (Nat.not_lt.mpr (Nat.le_of_ble_eq_true rfl)) rfl rfl (z_cat_le 0 rfl (by decide)) (z_lgl_le 1 rfl (by decide)) (by decide) (H_7.tg rfl) (by omega) (g_jAbstractStringBuilder_isLatin1_ok H_7 h_11) rfl rfl ?_
  intro R_11 m_11 p_11 e_11 hR_11 H_11
  subst e_11
  rcases z_ite h with ⟨c_14, h⟩ | ⟨c_14, h⟩
  · refine r_t1 (pc' := 45) (L' := [(0, .ref 129), (1, .int X1)]) hq (z_at.mk 3 rfl rfl) rfl hR_11 c_14 rfl rfl ?_
    exact g_jAbstractStringBuilder_append_279_L45_ok hx1 H_11 h
  · refine r_f1 (pc' := 17) (L' := [(0, .ref 129), (1, .int X1)]) hq (z_at.mk 3 rfl rfl) rfl hR_11 c_14 rfl rfl ?_
    refine r_p hq 1 (pc' := 18) (L' := [(0, .ref 129), (1, .int X1)]) (st' := [.int X1]) rfl ?_
    obtain ⟨o_18, h_18, h⟩ := Option.bind_eq_some_iff.mp h
    refine r_csI (pc' := 21) (L' := [(0, .ref 129), (1, .int X1)]) (As := [.int X1]) (rest := []) (j := 309) hq (z_at.mk 3 rfl rfl) (Or.inl ⟨rfl, rfl⟩) rfl rfl (by omega) (g_jStringLatin1_canEncode_309_ok hx1 H_11 h_18) rfl rfl ?_
    intro R_18 m_18 p_18 e_18 hR_18 H_18
    subst e_18
    rcases z_ite h with ⟨c_21, h⟩ | ⟨c_21, h⟩
    · refine r_t1 (pc' := 45) (L' := [(0, .ref 129), (1, .int X1)]) hq (z_at.mk 3 rfl rfl) rfl hR_18 c_21 rfl rfl ?_
      exact g_jAbstractStringBuilder_append_279_L45_ok hx1 H_18 h
    · refine r_f1 (pc' := 24) (L' := [(0, .ref 129), (1, .int X1)]) hq (z_at.mk 3 rfl rfl) rfl hR_18 c_21 rfl rfl ?_
      refine r_p hq 1 (pc' := 25) (L' := [(0, .ref 129), (1, .int X1)]) (st' := [.ref 129]) rfl ?_
      refine r_gP (pc' := 28) (L' := [(0, .ref 129), (1, .int X1)]) H_18 hq (z_at.mk 3 rfl rfl) rfl rfl rfl ?_
      refine r_p hq 2 (pc' := 30) (L' := [(0, .ref 129), (1, .int X1)]) (st' := [.ref 129, .ref 129, .ref p_7]) rfl ?_
      refine r_gI (pc' := 33) (L' := [(0, .ref 129), (1, .int X1)]) H_18 hq (z_at.mk 3 rfl rfl) rfl rfl rfl rfl ?_
      intro V_30 hV_30
      refine r_p hq 3 (pc' := 36) (L' := [(0, .ref 129), (1, .int X1)]) (st' := [.int (V_30 + ((1 : Int32))), .ref 129, .int V_30, .ref p_7]) rfl ?_
      refine r_pI (X := V_30 + ((1 : Int32))) (pc' := 39) (L' := [(0, .ref 129), (1, .int X1)]) H_18 hq (z_at.mk 3 rfl rfl) rfl rfl (tx_iadd hV_30 (rfl : (1 : Int32).toInt = 1)) (by decide) rfl rfl rfl rfl ?_
      intro m_36 H_36
      refine r_p hq 2 (pc' := 41) (L' := [(0, .ref 129), (1, .int X1)]) (st' := [.int X1.toInt8.toInt32, .int V_30, .ref p_7]) rfl ?_
      obtain ⟨g_41, h⟩ := z_ifo_some h
      refine r_bsP (pc' := 42) (L' := [(0, .ref 129), (1, .int X1)]) H_36 hq (z_at.mk 1 rfl rfl) hV_30 g_41 (tx_i2b hx1) rfl rfl ?_
      intro m_41 H_41
      refine r_p hq 2 (pc' := 76) (L' := [(0, .ref 129)]) (st' := [.ref 129]) rfl ?_
      cases h
      exact r_ra hq (z_at.mk 1 rfl rfl) rfl trivial H_41
def g_jStringBuilder_append_303 (x1 : Int) (σ : zS) : Option (Unit × zS) :=
  (g_jAbstractStringBuilder_append_279 x1 σ).bind fun o_2 =>
  some ((), o_2.2)
set_option maxHeartbeats 4000000 in
theorem g_jStringBuilder_append_303_ok {xl : Nat} {xs : Nat → Int32} {X1 : Int32} {x1 : Int} (hx1 : X1.toInt = x1) {σ : zS} {p : Nat} {m : zM} {o : Unit × zS} (H : zRep xl xs p m σ) (h : g_jStringBuilder_append_303 x1 σ = some o) : zGo xl xs (fun _ => True) 12 303 0 (z_can 303 0 (lv_args 0 [.ref 129, .int X1])) [] m (vR (129)) o.2 := by
  have hq : z_mth 303 = some z_r303 := rfl
  unfold g_jStringBuilder_append_303 at h
  show zGo xl xs (fun _ => True) 12 303 0 [(0, .ref 129), (1, .int X1)] [] m (vR (129)) o.2
  refine r_p hq 2 (pc' := 2) (L' := [(0, .ref 129), (1, .int X1)]) (st' := [.int X1, .ref 129]) rfl ?_
  obtain ⟨o_2, h_2, h⟩ := Option.bind_eq_some_iff.mp h
  refine r_cvR (pc' := 5) (L' := [(0, .ref 129), (1, .int X1)]) (Ps := [.int X1]) (rest := []) hq (z_at.mk 3 rfl rfl) (Or.inr ⟨rfl, rfl, rfl⟩) rfl rfl (by decide) (by decide) rfl (Nat.not_lt.mpr (Nat.le_of_ble_eq_true rfl)) rfl rfl (z_cat_le 0 rfl (by decide)) (z_lgl_le 2 rfl (by decide)) (by decide) (H.tg rfl) (by omega) (g_jAbstractStringBuilder_append_279_ok hx1 H h_2) rfl rfl ?_
  intro m_2 p_2 e_2 H_2
  refine r_p hq 2 (pc' := 7) (L' := [(0, .ref 129), (1, .int X1)]) (st' := [.ref 129]) rfl ?_
  cases h
  exact r_ra hq (z_at.mk 1 rfl rfl) rfl trivial H_2
def g_c_spellBox (x1 : Int) (σ : zS) : Option (Unit × zS) :=
  (g_b_side x1 0 σ).bind fun o_6 =>
  (g_jStringBuilder_append_304 o_6.1 o_6.2).bind fun o_9 =>
  (g_jStringBuilder_append_303 45 o_9.2).bind fun o_14 =>
  (g_b_side x1 1 o_14.2).bind fun o_19 =>
  (g_jStringBuilder_append_304 o_19.1 o_19.2).bind fun o_22 =>
  (g_jStringBuilder_append_303 44 o_22.2).bind fun o_27 =>
  (g_b_side x1 2 o_27.2).bind fun o_37 =>
  (g_jStringBuilder_append_304 o_37.1 o_37.2).bind fun o_40 =>
  (g_jStringBuilder_append_303 45 o_40.2).bind fun o_45 =>
  (g_b_side x1 3 o_45.2).bind fun o_50 =>
  (g_jStringBuilder_append_304 o_50.1 o_50.2).bind fun o_53 =>
  some ((), o_53.2)
set_option maxHeartbeats 4000000 in
theorem g_c_spellBox_ok {xl : Nat} {xs : Nat → Int32} {X1 : Int32} {x1 : Int} (hx1 : X1.toInt = x1) {σ : zS} {p : Nat} {m : zM} {o : Unit × zS} (H : zRep xl xs p m σ) (h : g_c_spellBox x1 σ = some o) : zGo xl xs (fun _ => True) 13 128 0 (z_can 128 0 (lv_args 0 [.ref 39, .int X1])) [] m vV o.2 := by
  have hq : z_mth 128 = some z_r128 := rfl
  unfold g_c_spellBox at h
  show zGo xl xs (fun _ => True) 13 128 0 [(0, .ref 39), (1, .int X1)] [] m vV o.2
  refine r_p hq 1 (pc' := 1) (L' := [(0, .ref 39), (1, .int X1)]) (st' := [.ref 39]) rfl ?_
  refine r_gR (b := 129) (pc' := 4) (L' := [(0, .ref 39), (1, .int X1)]) H hq (z_at.mk 3 rfl rfl) rfl rfl rfl rfl ?_
  refine r_p hq 2 (pc' := 6) (L' := [(0, .ref 39), (1, .int X1)]) (st' := [.int ((0 : Int32)), .int X1, .ref 129]) rfl ?_
  obtain ⟨o_6, h_6, h⟩ := Option.bind_eq_some_iff.mp h
  refine r_csI (pc' := 9) (L' := [(0, .ref 39), (1, .int X1)]) (As := [.int X1, .int ((0 : Int32))]) (rest := [.ref 129]) (j := 3) hq (z_at.mk 3 rfl rfl) (Or.inl ⟨rfl, rfl⟩) rfl rfl (by omega) (g_b_side_ok hx1 (rfl : (0 : Int32).toInt = 0) H h_6) rfl rfl ?_
  intro R_6 m_6 p_6 e_6 hR_6 H_6
  subst e_6
  obtain ⟨o_9, h_9, h⟩ := Option.bind_eq_some_iff.mp h
  refine r_cvR (pc' := 12) (L' := [(0, .ref 39), (1, .int X1)]) (Ps := [.int R_6]) (rest := []) hq (z_at.mk 3 rfl rfl) (Or.inl ⟨rfl, rfl⟩) rfl rfl (by decide) (by decide) rfl (Nat.not_lt.mpr (Nat.le_of_ble_eq_true rfl)) rfl rfl (z_cat_le 0 rfl (by decide)) (z_lgl_le 2 rfl (by decide)) (by decide) (H_6.tg rfl) (by omega) (g_jStringBuilder_append_304_ok hR_6 H_6 h_9) rfl rfl ?_
  intro m_9 p_9 e_9 H_9
  refine r_p hq 1 (pc' := 14) (L' := [(0, .ref 39), (1, .int X1)]) (st' := [.int ((45 : Int32)), .ref 129]) rfl ?_
  obtain ⟨o_14, h_14, h⟩ := Option.bind_eq_some_iff.mp h
  refine r_cvR (pc' := 17) (L' := [(0, .ref 39), (1, .int X1)]) (Ps := [.int ((45 : Int32))]) (rest := []) hq (z_at.mk 3 rfl rfl) (Or.inl ⟨rfl, rfl⟩) rfl rfl (by decide) (by decide) rfl (Nat.not_lt.mpr (Nat.le_of_ble_eq_true rfl)) rfl rfl (z_cat_le 0 rfl (by decide)) (z_lgl_le 2 rfl (by decide)) (by decide) (H_9.tg rfl) (by omega) (g_jStringBuilder_append_303_ok (rfl : (45 : Int32).toInt = 45) H_9 h_14) rfl rfl ?_
  intro m_14 p_14 e_14 H_14
  refine r_p hq 2 (pc' := 19) (L' := [(0, .ref 39), (1, .int X1)]) (st' := [.int ((1 : Int32)), .int X1, .ref 129]) rfl ?_
  obtain ⟨o_19, h_19, h⟩ := Option.bind_eq_some_iff.mp h
  refine r_csI (pc' := 22) (L' := [(0, .ref 39), (1, .int X1)]) (As := [.int X1, .int ((1 : Int32))]) (rest := [.ref 129]) (j := 3) hq (z_at.mk 3 rfl rfl) (Or.inl ⟨rfl, rfl⟩) rfl rfl (by omega) (g_b_side_ok hx1 (rfl : (1 : Int32).toInt = 1) H_14 h_19) rfl rfl ?_
  intro R_19 m_19 p_19 e_19 hR_19 H_19
  subst e_19
  obtain ⟨o_22, h_22, h⟩ := Option.bind_eq_some_iff.mp h
  refine r_cvR (pc' := 25) (L' := [(0, .ref 39), (1, .int X1)]) (Ps := [.int R_19]) (rest := []) hq (z_at.mk 3 rfl rfl) (Or.inl ⟨rfl, rfl⟩) rfl rfl (by decide) (by decide) rfl (Nat.not_lt.mpr (Nat.le_of_ble_eq_true rfl)) rfl rfl (z_cat_le 0 rfl (by decide)) (z_lgl_le 2 rfl (by decide)) (by decide) (H_19.tg rfl) (by omega) (g_jStringBuilder_append_304_ok hR_19 H_19 h_22) rfl rfl ?_
  intro m_22 p_22 e_22 H_22
  refine r_p hq 1 (pc' := 27) (L' := [(0, .ref 39), (1, .int X1)]) (st' := [.int ((44 : Int32)), .ref 129]) rfl ?_
  obtain ⟨o_27, h_27, h⟩ := Option.bind_eq_some_iff.mp h
  refine r_cvR (pc' := 30) (L' := [(0, .ref 39), (1, .int X1)]) (Ps := [.int ((44 : Int32))]) (rest := []) hq (z_at.mk 3 rfl rfl) (Or.inl ⟨rfl, rfl⟩) rfl rfl (by decide) (by decide) rfl (Nat.not_lt.mpr (Nat.le_of_ble_eq_true rfl)) rfl rfl (z_cat_le 0 rfl (by decide)) (z_lgl_le 2 rfl (by decide)) (by decide) (H_22.tg rfl) (by omega) (g_jStringBuilder_append_303_ok (rfl : (44 : Int32).toInt = 44) H_22 h_27) rfl rfl ?_
  intro m_27 p_27 e_27 H_27
  refine r_p hq 2 (pc' := 32) (L' := [(0, .ref 39), (1, .int X1)]) (st' := [.ref 39]) rfl ?_
  refine r_gR (b := 129) (pc' := 35) (L' := [(0, .ref 39), (1, .int X1)]) H_27 hq (z_at.mk 3 rfl rfl) rfl rfl rfl rfl ?_
  refine r_p hq 2 (pc' := 37) (L' := [(0, .ref 39), (1, .int X1)]) (st' := [.int ((2 : Int32)), .int X1, .ref 129]) rfl ?_
  obtain ⟨o_37, h_37, h⟩ := Option.bind_eq_some_iff.mp h
  refine r_csI (pc' := 40) (L' := [(0, .ref 39), (1, .int X1)]) (As := [.int X1, .int ((2 : Int32))]) (rest := [.ref 129]) (j := 3) hq (z_at.mk 3 rfl rfl) (Or.inl ⟨rfl, rfl⟩) rfl rfl (by omega) (g_b_side_ok hx1 (rfl : (2 : Int32).toInt = 2) H_27 h_37) rfl rfl ?_
  intro R_37 m_37 p_37 e_37 hR_37 H_37
  subst e_37
  obtain ⟨o_40, h_40, h⟩ := Option.bind_eq_some_iff.mp h
  refine r_cvR (pc' := 43) (L' := [(0, .ref 39), (1, .int X1)]) (Ps := [.int R_37]) (rest := []) hq (z_at.mk 3 rfl rfl) (Or.inl ⟨rfl, rfl⟩) rfl rfl (by decide) (by decide) rfl (Nat.not_lt.mpr (Nat.le_of_ble_eq_true rfl)) rfl rfl (z_cat_le 0 rfl (by decide)) (z_lgl_le 2 rfl (by decide)) (by decide) (H_37.tg rfl) (by omega) (g_jStringBuilder_append_304_ok hR_37 H_37 h_40) rfl rfl ?_
  intro m_40 p_40 e_40 H_40
  refine r_p hq 1 (pc' := 45) (L' := [(0, .ref 39), (1, .int X1)]) (st' := [.int ((45 : Int32)), .ref 129]) rfl ?_
  obtain ⟨o_45, h_45, h⟩ := Option.bind_eq_some_iff.mp h
  refine r_cvR (pc' := 48) (L' := [(0, .ref 39), (1, .int X1)]) (Ps := [.int ((45 : Int32))]) (rest := []) hq (z_at.mk 3 rfl rfl) (Or.inl ⟨rfl, rfl⟩) rfl rfl (by decide) (by decide) rfl (Nat.not_lt.mpr (Nat.le_of_ble_eq_true rfl)) rfl rfl (z_cat_le 0 rfl (by decide)) (z_lgl_le 2 rfl (by decide)) (by decide) (H_40.tg rfl) (by omega) (g_jStringBuilder_append_303_ok (rfl : (45 : Int32).toInt = 45) H_40 h_45) rfl rfl ?_
  intro m_45 p_45 e_45 H_45
  refine r_p hq 2 (pc' := 50) (L' := [(0, .ref 39), (1, .int X1)]) (st' := [.int ((3 : Int32)), .int X1, .ref 129]) rfl ?_
  obtain ⟨o_50, h_50, h⟩ := Option.bind_eq_some_iff.mp h
  refine r_csI (pc' := 53) (L' := [(0, .ref 39), (1, .int X1)]) (As := [.int X1, .int ((3 : Int32))]) (rest := [.ref 129]) (j := 3) hq (z_at.mk 3 rfl rfl) (Or.inl ⟨rfl, rfl⟩) rfl rfl (by omega) (g_b_side_ok hx1 (rfl : (3 : Int32).toInt = 3) H_45 h_50) rfl rfl ?_
  intro R_50 m_50 p_50 e_50 hR_50 H_50
  subst e_50
  obtain ⟨o_53, h_53, h⟩ := Option.bind_eq_some_iff.mp h
  refine r_cvR (pc' := 56) (L' := [(0, .ref 39), (1, .int X1)]) (Ps := [.int R_50]) (rest := []) hq (z_at.mk 3 rfl rfl) (Or.inl ⟨rfl, rfl⟩) rfl rfl (by decide) (by decide) rfl (Nat.not_lt.mpr (Nat.le_of_ble_eq_true rfl)) rfl rfl (z_cat_le 0 rfl (by decide)) (z_lgl_le 2 rfl (by decide)) (by decide) (H_50.tg rfl) (by omega) (g_jStringBuilder_append_304_ok hR_50 H_50 h_53) rfl rfl ?_
  intro m_53 p_53 e_53 H_53
  refine r_p hq 1 (pc' := 57) (L' := [(0, .ref 39), (1, .int X1)]) (st' := []) rfl ?_
  cases h
  exact r_rv hq (z_at.mk 1 rfl rfl) rfl trivial H_53
def g_jAbstractStringBuilder_setLength_L76 (x1 : Int) (σ : zS) : Option (Unit × zS) :=
  let s_78 := zu σ 129 3 x1
  some ((), s_78)
set_option maxHeartbeats 4000000 in
theorem g_jAbstractStringBuilder_setLength_L76_ok {xl : Nat} {xs : Nat → Int32} {X1 : Int32} {x1 : Int} (hx1 : X1.toInt = x1) {σ : zS} {p : Nat} {m : zM} {o : Unit × zS} (H : zRep xl xs p m σ) (h : g_jAbstractStringBuilder_setLength_L76 x1 σ = some o) : zGo xl xs (fun _ => True) 11 276 76 [(0, .ref 129), (1, .int X1)] [] m vV o.2 := by
  have hq : z_mth 276 = some z_r276 := rfl
  unfold g_jAbstractStringBuilder_setLength_L76 at h
  refine r_p hq 2 (pc' := 78) (L' := [(0, .ref 129), (1, .int X1)]) (st' := [.int X1, .ref 129]) rfl ?_
  refine r_pI (X := X1) (pc' := 81) (L' := [(0, .ref 129), (1, .int X1)]) H hq (z_at.mk 3 rfl rfl) rfl rfl hx1 (by decide) rfl rfl rfl rfl ?_
  intro m_78 H_78
  cases h
  exact r_rv hq (z_at.mk 1 rfl rfl) rfl trivial H_78
def g_jAbstractStringBuilder_setLength (x1 : Int) (σ : zS) : Option (Unit × zS) :=
  if 0 ≤ x1 then
    (g_sb_ensure x1 σ).bind fun o_15 =>
    let v_19 := o_15.2 129 3
    if x1 ≤ v_19 then
      let v_64 := o_15.2 129 3
      if v_64 ≤ x1 then
        g_jAbstractStringBuilder_setLength_L76 x1 o_15.2
      else
        let s_73 := zu o_15.2 129 2 1
        g_jAbstractStringBuilder_setLength_L76 x1 s_73
    else
      (g_jAbstractStringBuilder_isLatin1 o_15.2).bind fun o_27 =>
      if o_27.1 = 0 then
        let v_53 := o_27.2 129 3
        none
      else
        let v_38 := o_27.2 129 3
        none
  else
    none
set_option maxHeartbeats 4000000 in
theorem g_jAbstractStringBuilder_setLength_ok {xl : Nat} {xs : Nat → Int32} {X1 : Int32} {x1 : Int} (hx1 : X1.toInt = x1) {σ : zS} {p : Nat} {m : zM} {o : Unit × zS} (H : zRep xl xs p m σ) (h : g_jAbstractStringBuilder_setLength x1 σ = some o) : zGo xl xs (fun _ => True) 11 276 0 (z_can 276 0 (lv_args 0 [.ref 129, .int X1])) [] m vV o.2 := by
  have hq : z_mth 276 = some z_r276 := rfl
  unfold g_jAbstractStringBuilder_setLength at h
  show zGo xl xs (fun _ => True) 11 276 0 [(0, .ref 129), (1, .int X1)] [] m vV o.2
  refine r_p hq 1 (pc' := 1) (L' := [(0, .ref 129), (1, .int X1)]) (st' := [.int X1]) rfl ?_
  rcases z_ite h with ⟨c_1, h⟩ | ⟨c_1, h⟩
  · refine r_t1 (pc' := 13) (L' := [(0, .ref 129), (1, .int X1)]) hq (z_at.mk 3 rfl rfl) rfl hx1 c_1 rfl rfl ?_
    refine r_p hq 2 (pc' := 15) (L' := [(0, .ref 129), (1, .int X1)]) (st' := [.int X1, .ref 129]) rfl ?_
    obtain ⟨o_15, h_15, h⟩ := Option.bind_eq_some_iff.mp h
    refine r_cvV (pc' := 18) (L' := [(0, .ref 129), (1, .int X1)]) (Ps := [.int X1]) (rest := []) hq (z_at.mk 3 rfl rfl) (Or.inl ⟨rfl, rfl⟩) rfl rfl (by decide) (by decide) rfl (Nat.not_lt.mpr (Nat.le_of_ble_eq_true rfl)) rfl rfl (z_cat_le 0 rfl (by decide)) (z_lgl_le 2 rfl (by decide)) (by decide) (H.tg rfl) (by omega) (g_sb_ensure_ok hx1 H h_15) rfl rfl ?_
    intro m_15 p_15 e_15 H_15
    refine r_p hq 1 (pc' := 19) (L' := [(0, .ref 129), (1, .int X1)]) (st' := [.ref 129]) rfl ?_
    refine r_gI (pc' := 22) (L' := [(0, .ref 129), (1, .int X1)]) H_15 hq (z_at.mk 3 rfl rfl) rfl rfl rfl rfl ?_
    intro V_19 hV_19
    refine r_p hq 1 (pc' := 23) (L' := [(0, .ref 129), (1, .int X1)]) (st' := [.int X1, .int V_19]) rfl ?_
    rcases z_ite h with ⟨c_23, h⟩ | ⟨c_23, h⟩
    · refine r_t2 (pc' := 63) (L' := [(0, .ref 129), (1, .int X1)]) hq (z_at.mk 3 rfl rfl) rfl hV_19 hx1 c_23 rfl rfl ?_
      refine r_p hq 1 (pc' := 64) (L' := [(0, .ref 129), (1, .int X1)]) (st' := [.ref 129]) rfl ?_
      refine r_gI (pc' := 67) (L' := [(0, .ref 129), (1, .int X1)]) H_15 hq (z_at.mk 3 rfl rfl) rfl rfl rfl rfl ?_
      intro V_64 hV_64
      refine r_p hq 1 (pc' := 68) (L' := [(0, .ref 129), (1, .int X1)]) (st' := [.int X1, .int V_64]) rfl ?_
      rcases z_ite h with ⟨c_68, h⟩ | ⟨c_68, h⟩
      · refine r_t2 (pc' := 76) (L' := [(0, .ref 129), (1, .int X1)]) hq (z_at.mk 3 rfl rfl) rfl hV_64 hx1 c_68 rfl rfl ?_
        exact g_jAbstractStringBuilder_setLength_L76_ok hx1 H_15 h
      · refine r_f2 (pc' := 71) (L' := [(0, .ref 129), (1, .int X1)]) hq (z_at.mk 3 rfl rfl) rfl hV_64 hx1 c_68 rfl rfl ?_
        refine r_p hq 2 (pc' := 73) (L' := [(0, .ref 129), (1, .int X1)]) (st' := [.int ((1 : Int32)), .ref 129]) rfl ?_
        refine r_pI (X := (1 : Int32)) (pc' := 76) (L' := [(0, .ref 129), (1, .int X1)]) H_15 hq (z_at.mk 3 rfl rfl) rfl rfl (rfl : (1 : Int32).toInt = 1) (by decide) rfl rfl rfl rfl ?_
        intro m_73 H_73
        exact g_jAbstractStringBuilder_setLength_L76_ok hx1 H_73 h
    · refine r_f2 (pc' := 26) (L' := [(0, .ref 129), (1, .int X1)]) hq (z_at.mk 3 rfl rfl) rfl hV_19 hx1 c_23 rfl rfl ?_
      refine r_p hq 1 (pc' := 27) (L' := [(0, .ref 129), (1, .int X1)]) (st' := [.ref 129]) rfl ?_
      obtain ⟨o_27, h_27, h⟩ := Option.bind_eq_some_iff.mp h
      refine r_cvI (pc' := 30) (L' := [(0, .ref 129), (1, .int X1)]) (Ps := []) (rest := []) hq (z_at.mk 3 rfl rfl) (Or.inl ⟨rfl, rfl⟩) rfl rfl (by decide) (by decide) rfl (Nat.not_lt.mpr (Nat.le_of_ble_eq_true rfl)) rfl rfl (z_cat_le 0 rfl (by decide)) (z_lgl_le 1 rfl (by decide)) (by decide) (H_15.tg rfl) (by omega) (g_jAbstractStringBuilder_isLatin1_ok H_15 h_27) rfl rfl ?_
      intro R_27 m_27 p_27 e_27 hR_27 H_27
      subst e_27
      rcases z_ite h with ⟨c_30, h⟩ | ⟨c_30, h⟩
      · refine r_t1 (pc' := 48) (L' := [(0, .ref 129), (1, .int X1)]) hq (z_at.mk 3 rfl rfl) rfl hR_27 c_30 rfl rfl ?_
        refine r_p hq 1 (pc' := 49) (L' := [(0, .ref 129), (1, .int X1)]) (st' := [.ref 129]) rfl ?_
        refine r_gP (pc' := 52) (L' := [(0, .ref 129), (1, .int X1)]) H_27 hq (z_at.mk 3 rfl rfl) rfl rfl rfl ?_
        refine r_p hq 1 (pc' := 53) (L' := [(0, .ref 129), (1, .int X1)]) (st' := [.ref 129, .ref p_15]) rfl ?_
        refine r_gI (pc' := 56) (L' := [(0, .ref 129), (1, .int X1)]) H_27 hq (z_at.mk 3 rfl rfl) rfl rfl rfl rfl ?_
        intro V_53 hV_53
        refine r_p hq 1 (pc' := 57) (L' := [(0, .ref 129), (1, .int X1)]) (st' := [.int X1, .int V_53, .ref p_15]) rfl ?_
        cases h
      · refine r_f1 (pc' := 33) (L' := [(0, .ref 129), (1, .int X1)]) hq (z_at.mk 3 rfl rfl) rfl hR_27 c_30 rfl rfl ?_
        refine r_p hq 1 (pc' := 34) (L' := [(0, .ref 129), (1, .int X1)]) (st' := [.ref 129]) rfl ?_
        refine r_gP (pc' := 37) (L' := [(0, .ref 129), (1, .int X1)]) H_27 hq (z_at.mk 3 rfl rfl) rfl rfl rfl ?_
        refine r_p hq 1 (pc' := 38) (L' := [(0, .ref 129), (1, .int X1)]) (st' := [.ref 129, .ref p_15]) rfl ?_
        refine r_gI (pc' := 41) (L' := [(0, .ref 129), (1, .int X1)]) H_27 hq (z_at.mk 3 rfl rfl) rfl rfl rfl rfl ?_
        intro V_38 hV_38
        refine r_p hq 1 (pc' := 42) (L' := [(0, .ref 129), (1, .int X1)]) (st' := [.int X1, .int V_38, .ref p_15]) rfl ?_
        cases h
  · refine r_f1 (pc' := 4) (L' := [(0, .ref 129), (1, .int X1)]) hq (z_at.mk 3 rfl rfl) rfl hx1 c_1 rfl rfl ?_
    cases h
def g_jStringBuilder_setLength (x1 : Int) (σ : zS) : Option (Unit × zS) :=
  (g_jAbstractStringBuilder_setLength x1 σ).bind fun o_2 =>
  some ((), o_2.2)
set_option maxHeartbeats 4000000 in
theorem g_jStringBuilder_setLength_ok {xl : Nat} {xs : Nat → Int32} {X1 : Int32} {x1 : Int} (hx1 : X1.toInt = x1) {σ : zS} {p : Nat} {m : zM} {o : Unit × zS} (H : zRep xl xs p m σ) (h : g_jStringBuilder_setLength x1 σ = some o) : zGo xl xs (fun _ => True) 12 306 0 (z_can 306 0 (lv_args 0 [.ref 129, .int X1])) [] m vV o.2 := by
  have hq : z_mth 306 = some z_r306 := rfl
  unfold g_jStringBuilder_setLength at h
  show zGo xl xs (fun _ => True) 12 306 0 [(0, .ref 129), (1, .int X1)] [] m vV o.2
  refine r_p hq 2 (pc' := 2) (L' := [(0, .ref 129), (1, .int X1)]) (st' := [.int X1, .ref 129]) rfl ?_
  obtain ⟨o_2, h_2, h⟩ := Option.bind_eq_some_iff.mp h
  refine r_cvV (pc' := 5) (L' := [(0, .ref 129), (1, .int X1)]) (Ps := [.int X1]) (rest := []) hq (z_at.mk 3 rfl rfl) (Or.inr ⟨rfl, rfl, rfl⟩) rfl rfl (by decide) (by decide) rfl (Nat.not_lt.mpr (Nat.le_of_ble_eq_true rfl)) rfl rfl (z_cat_le 0 rfl (by decide)) (z_lgl_le 2 rfl (by decide)) (by decide) (H.tg rfl) (by omega) (g_jAbstractStringBuilder_setLength_ok hx1 H h_2) rfl rfl ?_
  intro m_2 p_2 e_2 H_2
  cases h
  exact r_rv hq (z_at.mk 1 rfl rfl) rfl trivial H_2
def g_jAbstractStringBuilder_length (σ : zS) : Option (Int × zS) :=
  let v_1 := σ 129 3
  some (v_1, σ)
set_option maxHeartbeats 4000000 in
theorem g_jAbstractStringBuilder_length_ok {xl : Nat} {xs : Nat → Int32} {σ : zS} {p : Nat} {m : zM} {o : Int × zS} (H : zRep xl xs p m σ) (h : g_jAbstractStringBuilder_length σ = some o) : zGo xl xs (fun p' => p = p') 1 273 0 (z_can 273 0 (lv_args 0 [.ref 129])) [] m (vI o.1) o.2 := by
  have hq : z_mth 273 = some z_r273 := rfl
  unfold g_jAbstractStringBuilder_length at h
  show zGo xl xs (fun p' => p = p') 1 273 0 [(0, .ref 129)] [] m (vI o.1) o.2
  refine r_p hq 1 (pc' := 1) (L' := [(0, .ref 129)]) (st' := [.ref 129]) rfl ?_
  refine r_gI (pc' := 4) (L' := [(0, .ref 129)]) H hq (z_at.mk 3 rfl rfl) rfl rfl rfl rfl ?_
  intro V_1 hV_1
  cases h
  exact r_ri hq (z_at.mk 1 rfl rfl) rfl rfl hV_1 rfl H
def g_jStringBuilder_length (σ : zS) : Option (Int × zS) :=
  (g_jAbstractStringBuilder_length σ).bind fun o_1 =>
  some (o_1.1, o_1.2)
set_option maxHeartbeats 4000000 in
theorem g_jStringBuilder_length_ok {xl : Nat} {xs : Nat → Int32} {σ : zS} {p : Nat} {m : zM} {o : Int × zS} (H : zRep xl xs p m σ) (h : g_jStringBuilder_length σ = some o) : zGo xl xs (fun p' => p = p') 2 307 0 (z_can 307 0 (lv_args 0 [.ref 129])) [] m (vI o.1) o.2 := by
  have hq : z_mth 307 = some z_r307 := rfl
  unfold g_jStringBuilder_length at h
  show zGo xl xs (fun p' => p = p') 2 307 0 [(0, .ref 129)] [] m (vI o.1) o.2
  refine r_p hq 1 (pc' := 1) (L' := [(0, .ref 129)]) (st' := [.ref 129]) rfl ?_
  obtain ⟨o_1, h_1, h⟩ := Option.bind_eq_some_iff.mp h
  refine r_cvI (pc' := 4) (L' := [(0, .ref 129)]) (Ps := []) (rest := []) hq (z_at.mk 3 rfl rfl) (Or.inr ⟨rfl, rfl, rfl⟩) rfl rfl (by decide) (by decide) rfl (Nat.not_lt.mpr (Nat.le_of_ble_eq_true rfl)) rfl rfl (z_cat_le 0 rfl (by decide)) (z_lgl_le 1 rfl (by decide)) (by decide) (H.tg rfl) (by omega) (g_jAbstractStringBuilder_length_ok H h_1) rfl rfl ?_
  intro R_1 m_1 p_1 e_1 hR_1 H_1
  subst e_1
  cases h
  exact r_ri hq (z_at.mk 1 rfl rfl) rfl rfl hR_1 rfl H_1
def g_c_spell_L38 (g10 : Int → zS → Option (Int × zS)) (x1 : Int) (σ : zS) : Option (Int × zS) :=
  if 0 ≤ x1 ∧ x1 < 181 then
  let v_50 := σ 52 x1
  (g_c_spellBox v_50 σ).bind fun o_51 =>
  g10 (w32 (x1 + 1)) o_51.2
  else none
set_option maxHeartbeats 4000000 in
theorem g_c_spell_L38_ok {xl : Nat} {xs : Nat → Int32} {g10 : Int → zS → Option (Int × zS)} (hg10 : ∀ {X1 : Int32} {x1 : Int} {σ : zS} {p : Nat} {m : zM} {o : Int × zS}, X1.toInt = x1 → zRep xl xs p m σ → g10 x1 σ = some o → zGo xl xs (fun _ => True) 14 127 10 [(0, .ref 39), (1, .int X1)] [] m (vI o.1) o.2) {X1 : Int32} {x1 : Int} (hx1 : X1.toInt = x1) {σ : zS} {p : Nat} {m : zM} {o : Int × zS} (H : zRep xl xs p m σ) (h : g_c_spell_L38 g10 x1 σ = some o) : zGo xl xs (fun _ => True) 14 127 38 [(0, .ref 39), (1, .int X1)] [] m (vI o.1) o.2 := by
  have hq : z_mth 127 = some z_r127 := rfl
  unfold g_c_spell_L38 at h
  refine r_p hq 2 (pc' := 40) (L' := [(0, .ref 39), (1, .int X1)]) (st' := [.ref 39, .ref 39]) rfl ?_
  refine r_gR (b := 40) (pc' := 43) (L' := [(0, .ref 39), (1, .int X1)]) H hq (z_at.mk 3 rfl rfl) rfl rfl rfl rfl ?_
  refine r_gR (b := 48) (pc' := 46) (L' := [(0, .ref 39), (1, .int X1)]) H hq (z_at.mk 3 rfl rfl) rfl rfl rfl rfl ?_
  refine r_gR (b := 52) (pc' := 49) (L' := [(0, .ref 39), (1, .int X1)]) H hq (z_at.mk 3 rfl rfl) rfl rfl rfl rfl ?_
  refine r_p hq 1 (pc' := 50) (L' := [(0, .ref 39), (1, .int X1)]) (st' := [.int X1, .ref 52, .ref 39]) rfl ?_
  obtain ⟨g_50, h⟩ := z_ifo_some h
  refine r_ia (pc' := 51) (L' := [(0, .ref 39), (1, .int X1)]) H hq (z_at.mk 1 rfl rfl) (show zAr 52 0 181 = true from rfl) hx1 g_50 rfl rfl ?_
  intro V_50 hV_50
  obtain ⟨o_51, h_51, h⟩ := Option.bind_eq_some_iff.mp h
  refine r_cvV (pc' := 54) (L' := [(0, .ref 39), (1, .int X1)]) (Ps := [.int V_50]) (rest := []) hq (z_at.mk 3 rfl rfl) (Or.inl ⟨rfl, rfl⟩) rfl rfl (by decide) (by decide) rfl (Nat.not_lt.mpr (Nat.le_of_ble_eq_true rfl)) rfl rfl (z_cat_le 0 rfl (by decide)) (z_lgl_le 2 rfl (by decide)) (by decide) (H.tg rfl) (by omega) (g_c_spellBox_ok hV_50 H h_51) rfl rfl ?_
  intro m_51 p_51 e_51 H_51
  refine r_p hq 2 (pc' := 10) (L' := [(0, .ref 39), (1, .int (X1 + (1 : Int32)))]) (st' := []) rfl ?_
  exact hg10 (tx_iadd hx1 (rfl : (1 : Int32).toInt = 1)) H_51 h
def g_c_spell_L10 : Nat → Int → zS → Option (Int × zS)
  | 0, _, _ => none
  | n + 1, x1, σ =>
    let v_18 := σ 48 2
    if v_18 ≤ x1 then
      (g_jStringBuilder_length σ).bind fun o_64 =>
      some (o_64.1, o_64.2)
    else
      if x1 ≤ 0 then
        g_c_spell_L38 ((g_c_spell_L10 n)) x1 σ
      else
        (g_jStringBuilder_append_303 59 σ).bind fun o_34 =>
        g_c_spell_L38 ((g_c_spell_L10 n)) x1 o_34.2
set_option maxHeartbeats 4000000 in
theorem g_c_spell_L10_ok {xl : Nat} {xs : Nat → Int32} : ∀ (n : Nat) {X1 : Int32} {x1 : Int} {σ : zS} {p : Nat} {m : zM} {o : Int × zS}, X1.toInt = x1 → zRep xl xs p m σ → g_c_spell_L10 n x1 σ = some o → zGo xl xs (fun _ => True) 14 127 10 [(0, .ref 39), (1, .int X1)] [] m (vI o.1) o.2
  | 0, _, _, _, _, _, _, _, _, h => by cases h
  | n + 1, X1, x1, σ, p, m, o, hx1, H, h => by
    have hq : z_mth 127 = some z_r127 := rfl
    have ih := fun {X1 : Int32} {x1 : Int} {σ : zS} {p : Nat} {m : zM} {o : Int × zS} => g_c_spell_L10_ok (xl := xl) (xs := xs) n (X1 := X1) (x1 := x1) (σ := σ) (p := p) (m := m) (o := o)
    unfold g_c_spell_L10 at h
    refine r_p hq 2 (pc' := 12) (L' := [(0, .ref 39), (1, .int X1)]) (st' := [.ref 39, .int X1]) rfl ?_
    refine r_gR (b := 40) (pc' := 15) (L' := [(0, .ref 39), (1, .int X1)]) H hq (z_at.mk 3 rfl rfl) rfl rfl rfl rfl ?_
    refine r_gR (b := 48) (pc' := 18) (L' := [(0, .ref 39), (1, .int X1)]) H hq (z_at.mk 3 rfl rfl) rfl rfl rfl rfl ?_
    refine r_gI (pc' := 21) (L' := [(0, .ref 39), (1, .int X1)]) H hq (z_at.mk 3 rfl rfl) rfl rfl rfl rfl ?_
    intro V_18 hV_18
    rcases z_ite h with ⟨c_21, h⟩ | ⟨c_21, h⟩
    · refine r_t2 (pc' := 60) (L' := [(0, .ref 39), (1, .int X1)]) hq (z_at.mk 3 rfl rfl) rfl hx1 hV_18 c_21 rfl rfl ?_
      refine r_p hq 1 (pc' := 61) (L' := [(0, .ref 39), (1, .int X1)]) (st' := [.ref 39]) rfl ?_
      refine r_gR (b := 129) (pc' := 64) (L' := [(0, .ref 39), (1, .int X1)]) H hq (z_at.mk 3 rfl rfl) rfl rfl rfl rfl ?_
      obtain ⟨o_64, h_64, h⟩ := Option.bind_eq_some_iff.mp h
      refine r_cvI (pc' := 67) (L' := [(0, .ref 39), (1, .int X1)]) (Ps := []) (rest := []) hq (z_at.mk 3 rfl rfl) (Or.inl ⟨rfl, rfl⟩) rfl rfl (by decide) (by decide) rfl (Nat.not_lt.mpr (Nat.le_of_ble_eq_true rfl)) rfl rfl (z_cat_le 0 rfl (by decide)) (z_lgl_le 1 rfl (by decide)) (by decide) (H.tg rfl) (by omega) (g_jStringBuilder_length_ok H h_64) rfl rfl ?_
      intro R_64 m_64 p_64 e_64 hR_64 H_64
      subst e_64
      cases h
      exact r_ri hq (z_at.mk 1 rfl rfl) rfl rfl hR_64 trivial H_64
    · refine r_f2 (pc' := 24) (L' := [(0, .ref 39), (1, .int X1)]) hq (z_at.mk 3 rfl rfl) rfl hx1 hV_18 c_21 rfl rfl ?_
      refine r_p hq 1 (pc' := 25) (L' := [(0, .ref 39), (1, .int X1)]) (st' := [.int X1]) rfl ?_
      rcases z_ite h with ⟨c_25, h⟩ | ⟨c_25, h⟩
      · refine r_t1 (pc' := 38) (L' := [(0, .ref 39), (1, .int X1)]) hq (z_at.mk 3 rfl rfl) rfl hx1 c_25 rfl rfl ?_
        exact g_c_spell_L38_ok ih hx1 H h
      · refine r_f1 (pc' := 28) (L' := [(0, .ref 39), (1, .int X1)]) hq (z_at.mk 3 rfl rfl) rfl hx1 c_25 rfl rfl ?_
        refine r_p hq 1 (pc' := 29) (L' := [(0, .ref 39), (1, .int X1)]) (st' := [.ref 39]) rfl ?_
        refine r_gR (b := 129) (pc' := 32) (L' := [(0, .ref 39), (1, .int X1)]) H hq (z_at.mk 3 rfl rfl) rfl rfl rfl rfl ?_
        refine r_p hq 1 (pc' := 34) (L' := [(0, .ref 39), (1, .int X1)]) (st' := [.int ((59 : Int32)), .ref 129]) rfl ?_
        obtain ⟨o_34, h_34, h⟩ := Option.bind_eq_some_iff.mp h
        refine r_cvR (pc' := 37) (L' := [(0, .ref 39), (1, .int X1)]) (Ps := [.int ((59 : Int32))]) (rest := []) hq (z_at.mk 3 rfl rfl) (Or.inl ⟨rfl, rfl⟩) rfl rfl (by decide) (by decide) rfl (Nat.not_lt.mpr (Nat.le_of_ble_eq_true rfl)) rfl rfl (z_cat_le 0 rfl (by decide)) (z_lgl_le 2 rfl (by decide)) (by decide) (H.tg rfl) (by omega) (g_jStringBuilder_append_303_ok (rfl : (59 : Int32).toInt = 59) H h_34) rfl rfl ?_
        intro m_34 p_34 e_34 H_34
        refine r_p hq 1 (pc' := 38) (L' := [(0, .ref 39), (1, .int X1)]) (st' := []) rfl ?_
        exact g_c_spell_L38_ok ih hx1 H_34 h
def g_c_spell (σ : zS) : Option (Int × zS) :=
  (g_jStringBuilder_setLength 0 σ).bind fun o_5 =>
  g_c_spell_L10 zK 0 o_5.2
set_option maxHeartbeats 4000000 in
theorem g_c_spell_ok {xl : Nat} {xs : Nat → Int32} {σ : zS} {p : Nat} {m : zM} {o : Int × zS} (H : zRep xl xs p m σ) (h : g_c_spell σ = some o) : zGo xl xs (fun _ => True) 14 127 0 (z_can 127 0 (lv_args 0 [.ref 39])) [] m (vI o.1) o.2 := by
  have hq : z_mth 127 = some z_r127 := rfl
  unfold g_c_spell at h
  show zGo xl xs (fun _ => True) 14 127 0 [(0, .ref 39)] [] m (vI o.1) o.2
  refine r_p hq 1 (pc' := 1) (L' := [(0, .ref 39)]) (st' := [.ref 39]) rfl ?_
  refine r_gR (b := 129) (pc' := 4) (L' := [(0, .ref 39)]) H hq (z_at.mk 3 rfl rfl) rfl rfl rfl rfl ?_
  refine r_p hq 1 (pc' := 5) (L' := [(0, .ref 39)]) (st' := [.int ((0 : Int32)), .ref 129]) rfl ?_
  obtain ⟨o_5, h_5, h⟩ := Option.bind_eq_some_iff.mp h
  refine r_cvV (pc' := 8) (L' := [(0, .ref 39)]) (Ps := [.int ((0 : Int32))]) (rest := []) hq (z_at.mk 3 rfl rfl) (Or.inl ⟨rfl, rfl⟩) rfl rfl (by decide) (by decide) rfl (Nat.not_lt.mpr (Nat.le_of_ble_eq_true rfl)) rfl rfl (z_cat_le 0 rfl (by decide)) (z_lgl_le 2 rfl (by decide)) (by decide) (H.tg rfl) (by omega) (g_jStringBuilder_setLength_ok (rfl : (0 : Int32).toInt = 0) H h_5) rfl rfl ?_
  intro m_5 p_5 e_5 H_5
  refine r_p hq 2 (pc' := 10) (L' := [(0, .ref 39), (1, .int ((0 : Int32)))]) (st' := []) rfl ?_
  exact g_c_spell_L10_ok zK (rfl : (0 : Int32).toInt = 0) H_5 h
def g_c_load_L59 (g19 : Int → Int → zS → Option (Int × zS)) (x2 : Int) (xs0 : Int) (σ : zS) : Option (Int × zS) :=
  (g_ta_another xs0 σ).bind fun o_59 =>
  g19 o_59.1 (w32 (x2 + 1)) o_59.2
set_option maxHeartbeats 4000000 in
theorem g_c_load_L59_ok {xl : Nat} {xs : Nat → Int32} {g19 : Int → Int → zS → Option (Int × zS)} (hg19 : ∀ {X1 : Int32} {x1 : Int} {X2 : Int32} {x2 : Int} {σ : zS} {p : Nat} {m : zM} {o : Int × zS}, X1.toInt = x1 → X2.toInt = x2 → zRep xl xs p m σ → g19 x1 x2 σ = some o → zGo xl xs (fun p' => p = p') 7 129 19 [(0, .ref 39), (1, .int X1), (2, .int X2)] [] m (vI o.1) o.2) {X2 : Int32} {x2 : Int} (hx2 : X2.toInt = x2) {Xs0 : Int32} {xs0 : Int} (hxs0 : Xs0.toInt = xs0) {σ : zS} {p : Nat} {m : zM} {o : Int × zS} (H : zRep xl xs p m σ) (h : g_c_load_L59 g19 x2 xs0 σ = some o) : zGo xl xs (fun p' => p = p') 7 129 59 [(0, .ref 39), (2, .int X2)] [.int Xs0, .ref 120] m (vI o.1) o.2 := by
  have hq : z_mth 129 = some z_r129 := rfl
  unfold g_c_load_L59 at h
  obtain ⟨o_59, h_59, h⟩ := Option.bind_eq_some_iff.mp h
  refine r_cvI (pc' := 62) (L' := [(0, .ref 39), (2, .int X2)]) (Ps := [.int Xs0]) (rest := []) hq (z_at.mk 3 rfl rfl) (Or.inl ⟨rfl, rfl⟩) rfl rfl (by decide) (by decide) rfl (Nat.not_lt.mpr (Nat.le_of_ble_eq_true rfl)) rfl rfl (z_cat_le 0 rfl (by decide)) (z_lgl_le 2 rfl (by decide)) (by decide) (H.tg rfl) (by omega) (g_ta_another_ok hxs0 H h_59) rfl rfl ?_
  intro R_59 m_59 p_59 e_59 hR_59 H_59
  subst e_59
  refine r_p hq 3 (pc' := 19) (L' := [(0, .ref 39), (1, .int R_59), (2, .int (X2 + (1 : Int32)))]) (st' := []) rfl ?_
  exact hg19 hR_59 (tx_iadd hx2 (rfl : (1 : Int32).toInt = 1)) H_59 h
def g_c_load_L101 (xs0 : Int) (σ : zS) : Option (Int × zS) :=
  (g_ta_end xs0 σ).bind fun o_101 =>
  some (o_101.1, o_101.2)
set_option maxHeartbeats 4000000 in
theorem g_c_load_L101_ok {xl : Nat} {xs : Nat → Int32} {Xs0 : Int32} {xs0 : Int} (hxs0 : Xs0.toInt = xs0) {σ : zS} {p : Nat} {m : zM} {o : Int × zS} (H : zRep xl xs p m σ) (h : g_c_load_L101 xs0 σ = some o) : zGo xl xs (fun p' => p = p') 7 129 101 [] [.int Xs0, .ref 120] m (vI o.1) o.2 := by
  have hq : z_mth 129 = some z_r129 := rfl
  unfold g_c_load_L101 at h
  obtain ⟨o_101, h_101, h⟩ := Option.bind_eq_some_iff.mp h
  refine r_cvI (pc' := 104) (L' := []) (Ps := [.int Xs0]) (rest := []) hq (z_at.mk 3 rfl rfl) (Or.inl ⟨rfl, rfl⟩) rfl rfl (by decide) (by decide) rfl (Nat.not_lt.mpr (Nat.le_of_ble_eq_true rfl)) rfl rfl (z_cat_le 0 rfl (by decide)) (z_lgl_le 2 rfl (by decide)) (by decide) (H.tg rfl) (by omega) (g_ta_end_ok hxs0 H h_101) rfl rfl ?_
  intro R_101 m_101 p_101 e_101 hR_101 H_101
  subst e_101
  cases h
  exact r_ri hq (z_at.mk 1 rfl rfl) rfl rfl hR_101 rfl H_101
def g_c_load_L69 (σ : zS) : Option (Int × zS) :=
  (g_ta_isSound σ).bind fun o_77 =>
  if o_77.1 = 0 then
    g_c_load_L101 0 o_77.2
  else
    (g_ca_admit 48 o_77.2).bind fun o_94 =>
    g_c_load_L101 o_94.1 o_94.2
set_option maxHeartbeats 4000000 in
theorem g_c_load_L69_ok {xl : Nat} {xs : Nat → Int32} {σ : zS} {p : Nat} {m : zM} {o : Int × zS} (H : zRep xl xs p m σ) (h : g_c_load_L69 σ = some o) : zGo xl xs (fun p' => p = p') 7 129 69 [(0, .ref 39)] [] m (vI o.1) o.2 := by
  have hq : z_mth 129 = some z_r129 := rfl
  unfold g_c_load_L69 at h
  refine r_p hq 1 (pc' := 70) (L' := [(0, .ref 39)]) (st' := [.ref 39]) rfl ?_
  refine r_gR (b := 120) (pc' := 73) (L' := [(0, .ref 39)]) H hq (z_at.mk 3 rfl rfl) rfl rfl rfl rfl ?_
  refine r_p hq 1 (pc' := 74) (L' := [(0, .ref 39)]) (st' := [.ref 39, .ref 120]) rfl ?_
  refine r_gR (b := 120) (pc' := 77) (L' := [(0, .ref 39)]) H hq (z_at.mk 3 rfl rfl) rfl rfl rfl rfl ?_
  obtain ⟨o_77, h_77, h⟩ := Option.bind_eq_some_iff.mp h
  refine r_cvI (pc' := 80) (L' := [(0, .ref 39)]) (Ps := []) (rest := [.ref 120]) hq (z_at.mk 3 rfl rfl) (Or.inl ⟨rfl, rfl⟩) rfl rfl (by decide) (by decide) rfl (Nat.not_lt.mpr (Nat.le_of_ble_eq_true rfl)) rfl rfl (z_cat_le 1 rfl (by decide)) (z_lgl_le 1 rfl (by decide)) (by decide) (H.tg rfl) (by omega) (g_ta_isSound_ok H h_77) rfl rfl ?_
  intro R_77 m_77 p_77 e_77 hR_77 H_77
  subst e_77
  rcases z_ite h with ⟨c_80, h⟩ | ⟨c_80, h⟩
  · refine r_t1 (pc' := 100) (L' := [(0, .ref 39)]) hq (z_at.mk 3 rfl rfl) rfl hR_77 c_80 rfl rfl ?_
    refine r_p hq 1 (pc' := 101) (L' := []) (st' := [.int ((0 : Int32)), .ref 120]) rfl ?_
    exact g_c_load_L101_ok (rfl : (0 : Int32).toInt = 0) H_77 h
  · refine r_f1 (pc' := 83) (L' := [(0, .ref 39)]) hq (z_at.mk 3 rfl rfl) rfl hR_77 c_80 rfl rfl ?_
    refine r_p hq 1 (pc' := 84) (L' := [(0, .ref 39)]) (st' := [.ref 39, .ref 120]) rfl ?_
    refine r_gR (b := 40) (pc' := 87) (L' := [(0, .ref 39)]) H_77 hq (z_at.mk 3 rfl rfl) rfl rfl rfl rfl ?_
    refine r_gR (b := 48) (pc' := 90) (L' := [(0, .ref 39)]) H_77 hq (z_at.mk 3 rfl rfl) rfl rfl rfl rfl ?_
    refine r_p hq 1 (pc' := 91) (L' := [(0, .ref 39)]) (st' := [.ref 39, .ref 48, .ref 120]) rfl ?_
    refine r_gR (b := 126) (pc' := 94) (L' := [(0, .ref 39)]) H_77 hq (z_at.mk 3 rfl rfl) rfl rfl rfl rfl ?_
    obtain ⟨o_94, h_94, h⟩ := Option.bind_eq_some_iff.mp h
    refine r_cvI (pc' := 97) (L' := [(0, .ref 39)]) (Ps := [.ref 126]) (rest := [.ref 120]) hq (z_at.mk 3 rfl rfl) (Or.inl ⟨rfl, rfl⟩) rfl rfl (by decide) (by decide) rfl (Nat.not_lt.mpr (Nat.le_of_ble_eq_true rfl)) rfl rfl (z_cat_le 1 rfl (by decide)) (z_lgl_le 2 rfl (by decide)) (by decide) (H_77.tg rfl) (by omega) (g_ca_admit_ok rfl H_77 h_94) rfl rfl ?_
    intro R_94 m_94 p_94 e_94 hR_94 H_94
    subst e_94
    refine r_p hq 1 (pc' := 101) (L' := []) (st' := [.int R_94, .ref 120]) rfl ?_
    exact g_c_load_L101_ok hR_94 H_94 h
def g_c_load_L19 : Nat → Int → Int → zS → Option (Int × zS)
  | 0, _, _, _ => none
  | n + 1, x1, x2, σ =>
    if x1 = 0 then
      g_c_load_L69 σ
    else
      if 12 < x2 then
        g_c_load_L69 σ
      else
        (g_ta_plainBox σ).bind fun o_37 =>
        (g_bs_add 126 o_37.1 o_37.2).bind fun o_40 =>
        if 12 ≤ x2 then
          g_c_load_L59 ((g_c_load_L19 n)) x2 0 o_40.2
        else
          g_c_load_L59 ((g_c_load_L19 n)) x2 1 o_40.2
set_option maxHeartbeats 4000000 in
theorem g_c_load_L19_ok {xl : Nat} {xs : Nat → Int32} : ∀ (n : Nat) {X1 : Int32} {x1 : Int} {X2 : Int32} {x2 : Int} {σ : zS} {p : Nat} {m : zM} {o : Int × zS}, X1.toInt = x1 → X2.toInt = x2 → zRep xl xs p m σ → g_c_load_L19 n x1 x2 σ = some o → zGo xl xs (fun p' => p = p') 7 129 19 [(0, .ref 39), (1, .int X1), (2, .int X2)] [] m (vI o.1) o.2
  | 0, _, _, _, _, _, _, _, _, _, _, _, h => by cases h
  | n + 1, X1, x1, X2, x2, σ, p, m, o, hx1, hx2, H, h => by
    have hq : z_mth 129 = some z_r129 := rfl
    have ih := fun {X1 : Int32} {x1 : Int} {X2 : Int32} {x2 : Int} {σ : zS} {p : Nat} {m : zM} {o : Int × zS} => g_c_load_L19_ok (xl := xl) (xs := xs) n (X1 := X1) (x1 := x1) (X2 := X2) (x2 := x2) (σ := σ) (p := p) (m := m) (o := o)
    unfold g_c_load_L19 at h
    refine r_p hq 1 (pc' := 20) (L' := [(0, .ref 39), (1, .int X1), (2, .int X2)]) (st' := [.int X1]) rfl ?_
    rcases z_ite h with ⟨c_20, h⟩ | ⟨c_20, h⟩
    · refine r_t1 (pc' := 69) (L' := [(0, .ref 39)]) hq (z_at.mk 3 rfl rfl) rfl hx1 c_20 rfl rfl ?_
      exact g_c_load_L69_ok  H h
    · refine r_f1 (pc' := 23) (L' := [(0, .ref 39), (1, .int X1), (2, .int X2)]) hq (z_at.mk 3 rfl rfl) rfl hx1 c_20 rfl rfl ?_
      refine r_p hq 2 (pc' := 26) (L' := [(0, .ref 39), (1, .int X1), (2, .int X2)]) (st' := [.int ((12 : Int32)), .int X2]) rfl ?_
      rcases z_ite h with ⟨c_26, h⟩ | ⟨c_26, h⟩
      · refine r_t2 (pc' := 69) (L' := [(0, .ref 39)]) hq (z_at.mk 3 rfl rfl) rfl hx2 (rfl : (12 : Int32).toInt = 12) c_26 rfl rfl ?_
        exact g_c_load_L69_ok  H h
      · refine r_f2 (pc' := 29) (L' := [(0, .ref 39), (1, .int X1), (2, .int X2)]) hq (z_at.mk 3 rfl rfl) rfl hx2 (rfl : (12 : Int32).toInt = 12) c_26 rfl rfl ?_
        refine r_p hq 1 (pc' := 30) (L' := [(0, .ref 39), (1, .int X1), (2, .int X2)]) (st' := [.ref 39]) rfl ?_
        refine r_gR (b := 126) (pc' := 33) (L' := [(0, .ref 39), (1, .int X1), (2, .int X2)]) H hq (z_at.mk 3 rfl rfl) rfl rfl rfl rfl ?_
        refine r_p hq 1 (pc' := 34) (L' := [(0, .ref 39), (1, .int X1), (2, .int X2)]) (st' := [.ref 39, .ref 126]) rfl ?_
        refine r_gR (b := 120) (pc' := 37) (L' := [(0, .ref 39), (1, .int X1), (2, .int X2)]) H hq (z_at.mk 3 rfl rfl) rfl rfl rfl rfl ?_
        obtain ⟨o_37, h_37, h⟩ := Option.bind_eq_some_iff.mp h
        refine r_cvI (pc' := 40) (L' := [(0, .ref 39), (1, .int X1), (2, .int X2)]) (Ps := []) (rest := [.ref 126]) hq (z_at.mk 3 rfl rfl) (Or.inl ⟨rfl, rfl⟩) rfl rfl (by decide) (by decide) rfl (Nat.not_lt.mpr (Nat.le_of_ble_eq_true rfl)) rfl rfl (z_cat_le 1 rfl (by decide)) (z_lgl_le 1 rfl (by decide)) (by decide) (H.tg rfl) (by omega) (g_ta_plainBox_ok H h_37) rfl rfl ?_
        intro R_37 m_37 p_37 e_37 hR_37 H_37
        subst e_37
        obtain ⟨o_40, h_40, h⟩ := Option.bind_eq_some_iff.mp h
        refine r_cvI (pc' := 43) (L' := [(0, .ref 39), (1, .int X1), (2, .int X2)]) (Ps := [.int R_37]) (rest := []) hq (z_at.mk 3 rfl rfl) (Or.inl ⟨rfl, rfl⟩) rfl rfl (by decide) (by decide) rfl (Nat.not_lt.mpr (Nat.le_of_ble_eq_true rfl)) rfl rfl (z_cat_le 0 rfl (by decide)) (z_lgl_le 2 rfl (by decide)) (by decide) (H_37.tg rfl) (by omega) (g_bs_add_ok rfl hR_37 H_37 h_40) rfl rfl ?_
        intro R_40 m_40 p_40 e_40 hR_40 H_40
        subst e_40
        refine r_p hq 2 (pc' := 45) (L' := [(0, .ref 39), (1, .int X1), (2, .int X2)]) (st' := [.ref 39]) rfl ?_
        refine r_gR (b := 120) (pc' := 48) (L' := [(0, .ref 39), (1, .int X1), (2, .int X2)]) H_40 hq (z_at.mk 3 rfl rfl) rfl rfl rfl rfl ?_
        refine r_p hq 2 (pc' := 51) (L' := [(0, .ref 39), (1, .int X1), (2, .int X2)]) (st' := [.int ((12 : Int32)), .int X2, .ref 120]) rfl ?_
        rcases z_ite h with ⟨c_51, h⟩ | ⟨c_51, h⟩
        · refine r_t2 (pc' := 58) (L' := [(0, .ref 39), (1, .int X1), (2, .int X2)]) hq (z_at.mk 3 rfl rfl) rfl hx2 (rfl : (12 : Int32).toInt = 12) c_51 rfl rfl ?_
          refine r_p hq 1 (pc' := 59) (L' := [(0, .ref 39), (2, .int X2)]) (st' := [.int ((0 : Int32)), .ref 120]) rfl ?_
          exact g_c_load_L59_ok ih hx2 (rfl : (0 : Int32).toInt = 0) H_40 h
        · refine r_f2 (pc' := 54) (L' := [(0, .ref 39), (1, .int X1), (2, .int X2)]) hq (z_at.mk 3 rfl rfl) rfl hx2 (rfl : (12 : Int32).toInt = 12) c_51 rfl rfl ?_
          refine r_p hq 2 (pc' := 59) (L' := [(0, .ref 39), (2, .int X2)]) (st' := [.int ((1 : Int32)), .ref 120]) rfl ?_
          exact g_c_load_L59_ok ih hx2 (rfl : (1 : Int32).toInt = 1) H_40 h
def g_c_load (σ : zS) : Option (Int × zS) :=
  (g_ta_begin σ).bind fun o_4 =>
  let s_12 := zu o_4.2 126 1 0
  g_c_load_L19 zK 1 1 s_12
set_option maxHeartbeats 4000000 in
theorem g_c_load_ok {xl : Nat} {xs : Nat → Int32} {σ : zS} {p : Nat} {m : zM} {o : Int × zS} (H : zRep xl xs p m σ) (h : g_c_load σ = some o) : zGo xl xs (fun p' => p = p') 7 129 0 (z_can 129 0 (lv_args 0 [.ref 39])) [] m (vI o.1) o.2 := by
  have hq : z_mth 129 = some z_r129 := rfl
  unfold g_c_load at h
  show zGo xl xs (fun p' => p = p') 7 129 0 [(0, .ref 39)] [] m (vI o.1) o.2
  refine r_p hq 1 (pc' := 1) (L' := [(0, .ref 39)]) (st' := [.ref 39]) rfl ?_
  refine r_gR (b := 120) (pc' := 4) (L' := [(0, .ref 39)]) H hq (z_at.mk 3 rfl rfl) rfl rfl rfl rfl ?_
  obtain ⟨o_4, h_4, h⟩ := Option.bind_eq_some_iff.mp h
  refine r_cvV (pc' := 7) (L' := [(0, .ref 39)]) (Ps := []) (rest := []) hq (z_at.mk 3 rfl rfl) (Or.inl ⟨rfl, rfl⟩) rfl rfl (by decide) (by decide) rfl (Nat.not_lt.mpr (Nat.le_of_ble_eq_true rfl)) rfl rfl (z_cat_le 0 rfl (by decide)) (z_lgl_le 1 rfl (by decide)) (by decide) (H.tg rfl) (by omega) (g_ta_begin_ok H h_4) rfl rfl ?_
  intro m_4 p_4 e_4 H_4
  subst e_4
  refine r_p hq 1 (pc' := 8) (L' := [(0, .ref 39)]) (st' := [.ref 39]) rfl ?_
  refine r_gR (b := 126) (pc' := 11) (L' := [(0, .ref 39)]) H_4 hq (z_at.mk 3 rfl rfl) rfl rfl rfl rfl ?_
  refine r_p hq 1 (pc' := 12) (L' := [(0, .ref 39)]) (st' := [.int ((0 : Int32)), .ref 126]) rfl ?_
  refine r_pI (X := (0 : Int32)) (pc' := 15) (L' := [(0, .ref 39)]) H_4 hq (z_at.mk 3 rfl rfl) rfl rfl (rfl : (0 : Int32).toInt = 0) (by decide) rfl rfl rfl rfl ?_
  intro m_12 H_12
  refine r_p hq 4 (pc' := 19) (L' := [(0, .ref 39), (1, .int ((1 : Int32))), (2, .int ((1 : Int32)))]) (st' := []) rfl ?_
  exact g_c_load_L19_ok zK (rfl : (1 : Int32).toInt = 1) (rfl : (1 : Int32).toInt = 1) H_12 h
def g_jString_getBytes (a0 : Nat) (x2 : Int) (x3 : Int) (σ : zS) : Option (Unit × zS) :=
  (g_jString_coder a0 σ).bind fun o_1 =>
  if o_1.1 ≠ x3 then
    none
  else
    if (0 : Int) ≤ 0 ∧ (0 : Int) ≤ iShl x2 x3 ∧ (0 : Int) ≤ zLI (a0 + 18) ∧ 0 + (zLI (a0 + 18)) ≤ zLI (a0 + 18) ∧ (iShl x2 x3) + (zLI (a0 + 18)) ≤ o_1.2 169 0 then
    let s_22 := zcP o_1.2 (a0 + 18) 0 (iShl x2 x3) (zLI (a0 + 18))
    some ((), s_22)
    else none
set_option maxHeartbeats 4000000 in
theorem g_jString_getBytes_ok {xl : Nat} {xs : Nat → Int32} {a0 : Nat} (ha0 : zIn [1, 2, 3, 4, 5, 6, 7, 8, 9, 10, 11, 12, 13, 14, 15, 16, 17, 18] a0 = true) {X2 : Int32} {x2 : Int} (hx2 : X2.toInt = x2) {X3 : Int32} {x3 : Int} (hx3 : X3.toInt = x3) {σ : zS} {p : Nat} {m : zM} {o : Unit × zS} (H : zRep xl xs p m σ) (h : g_jString_getBytes a0 x2 x3 σ = some o) : zGo xl xs (fun p' => p = p') 2 297 0 (z_can 297 0 (lv_args 0 [.ref a0, .ref p, .int X2, .int X3])) [] m vV o.2 := by
  have hq : z_mth 297 = some z_r297 := rfl
  unfold g_jString_getBytes at h
  show zGo xl xs (fun p' => p = p') 2 297 0 [(0, .ref a0), (1, .ref p), (2, .int X2), (3, .int X3)] [] m vV o.2
  refine r_p hq 1 (pc' := 1) (L' := [(0, .ref a0), (1, .ref p), (2, .int X2), (3, .int X3)]) (st' := [.ref a0]) rfl ?_
  obtain ⟨o_1, h_1, h⟩ := Option.bind_eq_some_iff.mp h
  refine r_cvI (pc' := 4) (L' := [(0, .ref a0), (1, .ref p), (2, .int X2), (3, .int X3)]) (Ps := []) (rest := []) hq (z_at.mk 3 rfl rfl) (Or.inl ⟨rfl, rfl⟩) rfl rfl (by decide) (by decide) rfl (Nat.not_lt.mpr (Nat.le_of_ble_eq_true rfl)) rfl rfl (z_cat_le 0 rfl (by decide)) (z_lgl_le 1 rfl (by decide)) (by decide) (H.tg9 (zIn_all (l := [1, 2, 3, 4, 5, 6, 7, 8, 9, 10, 11, 12, 13, 14, 15, 16, 17, 18]) (p := fun a => zIn [1, 2, 3, 4, 5, 6, 7, 8, 9, 10, 11, 12, 13, 14, 15, 16, 17, 18] a) rfl ha0)) (by omega) (g_jString_coder_ok (zIn_all (l := [1, 2, 3, 4, 5, 6, 7, 8, 9, 10, 11, 12, 13, 14, 15, 16, 17, 18]) (p := fun a => zIn [1, 2, 3, 4, 5, 6, 7, 8, 9, 10, 11, 12, 13, 14, 15, 16, 17, 18] a) rfl ha0) H h_1) rfl rfl ?_
  intro R_1 m_1 p_1 e_1 hR_1 H_1
  subst e_1
  refine r_p hq 1 (pc' := 5) (L' := [(0, .ref a0), (1, .ref p), (2, .int X2), (3, .int X3)]) (st' := [.int X3, .int R_1]) rfl ?_
  rcases z_ite h with ⟨c_5, h⟩ | ⟨c_5, h⟩
  · refine r_t2 (pc' := 28) (L' := [(0, .ref a0), (1, .ref p), (2, .int X2), (3, .int X3)]) hq (z_at.mk 3 rfl rfl) rfl hR_1 hx3 c_5 rfl rfl ?_
    refine r_p hq 1 (pc' := 29) (L' := [(0, .ref a0), (1, .ref p), (2, .int X2), (3, .int X3)]) (st' := [.ref a0]) rfl ?_
    refine r_gsR (pc' := 32) (L' := [(0, .ref a0), (1, .ref p), (2, .int X2), (3, .int X3)]) H_1 hq (z_at.mk 3 rfl rfl) rfl (zIn_all (l := [1, 2, 3, 4, 5, 6, 7, 8, 9, 10, 11, 12, 13, 14, 15, 16, 17, 18]) (p := fun a => zIn [1, 2, 3, 4, 5, 6, 7, 8, 9, 10, 11, 12, 13, 14, 15, 16, 17, 18] a) rfl ha0) rfl rfl ?_
    refine r_p hq 4 (pc' := 36) (L' := [(0, .ref a0), (1, .ref p), (2, .int X2), (3, .int X3)]) (st' := [.ref a0, .int X2, .ref p, .int ((0 : Int32)), .ref (a0 + 18)]) rfl ?_
    refine r_gsR (pc' := 39) (L' := [(0, .ref a0), (1, .ref p), (2, .int X2), (3, .int X3)]) H_1 hq (z_at.mk 3 rfl rfl) rfl (zIn_all (l := [1, 2, 3, 4, 5, 6, 7, 8, 9, 10, 11, 12, 13, 14, 15, 16, 17, 18]) (p := fun a => zIn [1, 2, 3, 4, 5, 6, 7, 8, 9, 10, 11, 12, 13, 14, 15, 16, 17, 18] a) rfl ha0) rfl rfl ?_
    refine r_le0 (pc' := 40) (L' := [(0, .ref a0), (1, .ref p), (2, .int X2), (3, .int X3)]) H_1 hq (z_at.mk 1 rfl rfl) (zIn_all (l := [1, 2, 3, 4, 5, 6, 7, 8, 9, 10, 11, 12, 13, 14, 15, 16, 17, 18]) (p := fun a => zAz (a + 18) 2 (zLI (a + 18))) rfl ha0) rfl rfl rfl ?_
    intro V_39 hV_39
    cases h
  · refine r_f2 (pc' := 8) (L' := [(0, .ref a0), (1, .ref p), (2, .int X2), (3, .int X3)]) hq (z_at.mk 3 rfl rfl) rfl hR_1 hx3 c_5 rfl rfl ?_
    refine r_p hq 1 (pc' := 9) (L' := [(0, .ref a0), (1, .ref p), (2, .int X2), (3, .int X3)]) (st' := [.ref a0]) rfl ?_
    refine r_gsR (pc' := 12) (L' := [(0, .ref a0), (1, .ref p), (2, .int X2), (3, .int X3)]) H_1 hq (z_at.mk 3 rfl rfl) rfl (zIn_all (l := [1, 2, 3, 4, 5, 6, 7, 8, 9, 10, 11, 12, 13, 14, 15, 16, 17, 18]) (p := fun a => zIn [1, 2, 3, 4, 5, 6, 7, 8, 9, 10, 11, 12, 13, 14, 15, 16, 17, 18] a) rfl ha0) rfl rfl ?_
    refine r_p hq 6 (pc' := 18) (L' := [(0, .ref a0), (1, .ref p), (2, .int X2), (3, .int X3)]) (st' := [.ref a0, .int (X2 <<< (X3 &&& 31)), .ref p, .int ((0 : Int32)), .ref (a0 + 18)]) rfl ?_
    refine r_gsR (pc' := 21) (L' := [(0, .ref a0), (1, .ref p), (2, .int X2), (3, .int X3)]) H_1 hq (z_at.mk 3 rfl rfl) rfl (zIn_all (l := [1, 2, 3, 4, 5, 6, 7, 8, 9, 10, 11, 12, 13, 14, 15, 16, 17, 18]) (p := fun a => zIn [1, 2, 3, 4, 5, 6, 7, 8, 9, 10, 11, 12, 13, 14, 15, 16, 17, 18] a) rfl ha0) rfl rfl ?_
    refine r_le0 (pc' := 22) (L' := [(0, .ref a0), (1, .ref p), (2, .int X2), (3, .int X3)]) H_1 hq (z_at.mk 1 rfl rfl) (zIn_all (l := [1, 2, 3, 4, 5, 6, 7, 8, 9, 10, 11, 12, 13, 14, 15, 16, 17, 18]) (p := fun a => zAz (a + 18) 2 (zLI (a + 18))) rfl ha0) rfl rfl rfl ?_
    intro V_21 hV_21
    obtain ⟨g_22, h⟩ := z_ifo_some h
    refine r_cpP (pc' := 25) (L' := [(0, .ref a0), (1, .ref p), (2, .int X2), (3, .int X3)]) H_1 hq (z_at.mk 3 rfl rfl) rfl (by decide) (zIn_all (l := [1, 2, 3, 4, 5, 6, 7, 8, 9, 10, 11, 12, 13, 14, 15, 16, 17, 18]) (p := fun a => zAz (a + 18) 2 (zLI (a + 18))) rfl ha0) (rfl : (0 : Int32).toInt = 0) (tx_ishl hx2 hx3) hV_21 g_22 rfl rfl ?_
    intro m_22 H_22
    refine r_p hq 1 (pc' := 43) (L' := []) (st' := []) rfl ?_
    cases h
    exact r_rv hq (z_at.mk 1 rfl rfl) rfl rfl H_22
def g_jAbstractStringBuilder_inflateIfNeededFor (a1 : Nat) (σ : zS) : Option (Unit × zS) :=
  if (1 : Int) = 0 then
    some ((), σ)
  else
    let v_7 := σ 129 1
    (g_jString_coder a1 σ).bind fun o_11 =>
    if v_7 = o_11.1 then
      some ((), o_11.2)
    else
      none
set_option maxHeartbeats 4000000 in
theorem g_jAbstractStringBuilder_inflateIfNeededFor_ok {xl : Nat} {xs : Nat → Int32} {a1 : Nat} (ha1 : zIn [1, 2, 3, 4, 5, 6, 7, 8, 9, 10, 11, 12, 13, 14, 15, 16, 17, 18] a1 = true) {σ : zS} {p : Nat} {m : zM} {o : Unit × zS} (H : zRep xl xs p m σ) (h : g_jAbstractStringBuilder_inflateIfNeededFor a1 σ = some o) : zGo xl xs (fun p' => p = p') 2 282 0 (z_can 282 0 (lv_args 0 [.ref 129, .ref a1])) [] m vV o.2 := by
  have hq : z_mth 282 = some z_r282 := rfl
  unfold g_jAbstractStringBuilder_inflateIfNeededFor at h
  show zGo xl xs (fun p' => p = p') 2 282 0 [(0, .ref 129), (1, .ref a1)] [] m vV o.2
  refine r_p hq 1 (pc' := 3) (L' := [(0, .ref 129), (1, .ref a1)]) (st' := [.int ((1 : Int32))]) rfl ?_
  rcases z_ite h with ⟨c_3, h⟩ | ⟨c_3, h⟩
  · refine r_t1 (pc' := 21) (L' := []) hq (z_at.mk 3 rfl rfl) rfl (show (1 : Int32).toInt = 1 from rfl) c_3 rfl rfl ?_
    cases h
    exact r_rv hq (z_at.mk 1 rfl rfl) rfl rfl H
  · refine r_f1 (pc' := 6) (L' := [(0, .ref 129), (1, .ref a1)]) hq (z_at.mk 3 rfl rfl) rfl (show (1 : Int32).toInt = 1 from rfl) c_3 rfl rfl ?_
    refine r_p hq 1 (pc' := 7) (L' := [(0, .ref 129), (1, .ref a1)]) (st' := [.ref 129]) rfl ?_
    refine r_gI (pc' := 10) (L' := [(0, .ref 129), (1, .ref a1)]) H hq (z_at.mk 3 rfl rfl) rfl rfl rfl rfl ?_
    intro V_7 hV_7
    refine r_p hq 1 (pc' := 11) (L' := [(0, .ref 129), (1, .ref a1)]) (st' := [.ref a1, .int V_7]) rfl ?_
    obtain ⟨o_11, h_11, h⟩ := Option.bind_eq_some_iff.mp h
    refine r_cvI (pc' := 14) (L' := [(0, .ref 129), (1, .ref a1)]) (Ps := []) (rest := [.int V_7]) hq (z_at.mk 3 rfl rfl) (Or.inl ⟨rfl, rfl⟩) rfl rfl (by decide) (by decide) rfl (Nat.not_lt.mpr (Nat.le_of_ble_eq_true rfl)) rfl rfl (z_cat_le 1 rfl (by decide)) (z_lgl_le 1 rfl (by decide)) (by decide) (H.tg9 (zIn_all (l := [1, 2, 3, 4, 5, 6, 7, 8, 9, 10, 11, 12, 13, 14, 15, 16, 17, 18]) (p := fun a => zIn [1, 2, 3, 4, 5, 6, 7, 8, 9, 10, 11, 12, 13, 14, 15, 16, 17, 18] a) rfl ha1)) (by omega) (g_jString_coder_ok (zIn_all (l := [1, 2, 3, 4, 5, 6, 7, 8, 9, 10, 11, 12, 13, 14, 15, 16, 17, 18]) (p := fun a => zIn [1, 2, 3, 4, 5, 6, 7, 8, 9, 10, 11, 12, 13, 14, 15, 16, 17, 18] a) rfl ha1) H h_11) rfl rfl ?_
    intro R_11 m_11 p_11 e_11 hR_11 H_11
    subst e_11
    rcases z_ite h with ⟨c_14, h⟩ | ⟨c_14, h⟩
    · refine r_t2 (pc' := 21) (L' := []) hq (z_at.mk 3 rfl rfl) rfl hV_7 hR_11 c_14 rfl rfl ?_
      cases h
      exact r_rv hq (z_at.mk 1 rfl rfl) rfl rfl H_11
    · refine r_f2 (pc' := 17) (L' := [(0, .ref 129), (1, .ref a1)]) hq (z_at.mk 3 rfl rfl) rfl hV_7 hR_11 c_14 rfl rfl ?_
      refine r_p hq 1 (pc' := 18) (L' := [(0, .ref 129), (1, .ref a1)]) (st' := [.ref 129]) rfl ?_
      cases h
def g_jAbstractStringBuilder_putStringAt (a2 : Nat) (x1 : Int) (σ : zS) : Option (Unit × zS) :=
  (g_jAbstractStringBuilder_inflateIfNeededFor a2 σ).bind fun o_2 =>
  let v_12 := o_2.2 129 1
  (g_jString_getBytes a2 x1 v_12 o_2.2).bind fun o_15 =>
  some ((), o_15.2)
set_option maxHeartbeats 4000000 in
theorem g_jAbstractStringBuilder_putStringAt_ok {xl : Nat} {xs : Nat → Int32} {a2 : Nat} (ha2 : zIn [1, 2, 3, 4, 5, 6, 7, 8, 9, 10, 11, 12, 13, 14, 15, 16, 17, 18] a2 = true) {X1 : Int32} {x1 : Int} (hx1 : X1.toInt = x1) {σ : zS} {p : Nat} {m : zM} {o : Unit × zS} (H : zRep xl xs p m σ) (h : g_jAbstractStringBuilder_putStringAt a2 x1 σ = some o) : zGo xl xs (fun p' => p = p') 3 283 0 (z_can 283 0 (lv_args 0 [.ref 129, .int X1, .ref a2])) [] m vV o.2 := by
  have hq : z_mth 283 = some z_r283 := rfl
  unfold g_jAbstractStringBuilder_putStringAt at h
  show zGo xl xs (fun p' => p = p') 3 283 0 [(0, .ref 129), (1, .int X1), (2, .ref a2)] [] m vV o.2
  refine r_p hq 2 (pc' := 2) (L' := [(0, .ref 129), (1, .int X1), (2, .ref a2)]) (st' := [.ref a2, .ref 129]) rfl ?_
  obtain ⟨o_2, h_2, h⟩ := Option.bind_eq_some_iff.mp h
  refine r_cvV (pc' := 5) (L' := [(0, .ref 129), (1, .int X1), (2, .ref a2)]) (Ps := [.ref a2]) (rest := []) hq (z_at.mk 3 rfl rfl) (Or.inl ⟨rfl, rfl⟩) rfl rfl (by decide) (by decide) rfl (Nat.not_lt.mpr (Nat.le_of_ble_eq_true rfl)) rfl rfl (z_cat_le 0 rfl (by decide)) (z_lgl_le 2 rfl (by decide)) (by decide) (H.tg rfl) (by omega) (g_jAbstractStringBuilder_inflateIfNeededFor_ok (zIn_all (l := [1, 2, 3, 4, 5, 6, 7, 8, 9, 10, 11, 12, 13, 14, 15, 16, 17, 18]) (p := fun a => zIn [1, 2, 3, 4, 5, 6, 7, 8, 9, 10, 11, 12, 13, 14, 15, 16, 17, 18] a) rfl ha2) H h_2) rfl rfl ?_
  intro m_2 p_2 e_2 H_2
  subst e_2
  refine r_p hq 2 (pc' := 7) (L' := [(0, .ref 129), (1, .int X1), (2, .ref a2)]) (st' := [.ref 129, .ref a2]) rfl ?_
  refine r_gP (pc' := 10) (L' := [(0, .ref 129), (1, .int X1), (2, .ref a2)]) H_2 hq (z_at.mk 3 rfl rfl) rfl rfl rfl ?_
  refine r_p hq 2 (pc' := 12) (L' := [(0, .ref 129), (1, .int X1), (2, .ref a2)]) (st' := [.ref 129, .int X1, .ref p, .ref a2]) rfl ?_
  refine r_gI (pc' := 15) (L' := [(0, .ref 129), (1, .int X1), (2, .ref a2)]) H_2 hq (z_at.mk 3 rfl rfl) rfl rfl rfl rfl ?_
  intro V_12 hV_12
  obtain ⟨o_15, h_15, h⟩ := Option.bind_eq_some_iff.mp h
  refine r_cvV (pc' := 18) (L' := [(0, .ref 129), (1, .int X1), (2, .ref a2)]) (Ps := [.ref p, .int X1, .int V_12]) (rest := []) hq (z_at.mk 3 rfl rfl) (Or.inl ⟨rfl, rfl⟩) rfl rfl (by decide) (by decide) rfl (Nat.not_lt.mpr (Nat.le_of_ble_eq_true rfl)) rfl rfl (z_cat_le 0 rfl (by decide)) (z_lgl_le 4 rfl (by decide)) (by decide) (H_2.tg9 (zIn_all (l := [1, 2, 3, 4, 5, 6, 7, 8, 9, 10, 11, 12, 13, 14, 15, 16, 17, 18]) (p := fun a => zIn [1, 2, 3, 4, 5, 6, 7, 8, 9, 10, 11, 12, 13, 14, 15, 16, 17, 18] a) rfl ha2)) (by omega) (g_jString_getBytes_ok (zIn_all (l := [1, 2, 3, 4, 5, 6, 7, 8, 9, 10, 11, 12, 13, 14, 15, 16, 17, 18]) (p := fun a => zIn [1, 2, 3, 4, 5, 6, 7, 8, 9, 10, 11, 12, 13, 14, 15, 16, 17, 18] a) rfl ha2) hx1 hV_12 H_2 h_15) rfl rfl ?_
  intro m_15 p_15 e_15 H_15
  subst e_15
  cases h
  exact r_rv hq (z_at.mk 1 rfl rfl) rfl rfl H_15
def g_jAbstractStringBuilder_append_278 (a1 : Nat) (σ : zS) : Option (Unit × zS) :=
  (g_jString_length a1 σ).bind fun o_10 =>
  let v_16 := o_10.2 129 3
  (g_sb_ensure (w32 (v_16 + o_10.1)) o_10.2).bind fun o_21 =>
  let v_26 := o_21.2 129 3
  (g_jAbstractStringBuilder_putStringAt a1 v_26 o_21.2).bind fun o_30 =>
  let v_35 := o_30.2 129 3
  let s_40 := zu o_30.2 129 3 (w32 (v_35 + o_10.1))
  some ((), s_40)
set_option maxHeartbeats 4000000 in
theorem g_jAbstractStringBuilder_append_278_ok {xl : Nat} {xs : Nat → Int32} {a1 : Nat} (ha1 : zIn [1, 2, 3, 4, 5, 6, 7, 8, 9, 10, 11, 12, 13, 14, 15, 16, 17, 18] a1 = true) {σ : zS} {p : Nat} {m : zM} {o : Unit × zS} (H : zRep xl xs p m σ) (h : g_jAbstractStringBuilder_append_278 a1 σ = some o) : zGo xl xs (fun _ => True) 11 278 0 (z_can 278 0 (lv_args 0 [.ref 129, .ref a1])) [] m (vR (129)) o.2 := by
  have hq : z_mth 278 = some z_r278 := rfl
  unfold g_jAbstractStringBuilder_append_278 at h
  show zGo xl xs (fun _ => True) 11 278 0 [(0, .ref 129), (1, .ref a1)] [] m (vR (129)) o.2
  refine r_p hq 3 (pc' := 10) (L' := [(0, .ref 129), (1, .ref a1)]) (st' := [.ref a1]) rfl ?_
  obtain ⟨o_10, h_10, h⟩ := Option.bind_eq_some_iff.mp h
  refine r_cvI (pc' := 13) (L' := [(0, .ref 129), (1, .ref a1)]) (Ps := []) (rest := []) hq (z_at.mk 3 rfl rfl) (Or.inl ⟨rfl, rfl⟩) rfl rfl (by decide) (by decide) rfl (Nat.not_lt.mpr (Nat.le_of_ble_eq_true rfl)) rfl rfl (z_cat_le 0 rfl (by decide)) (z_lgl_le 1 rfl (by decide)) (by decide) (H.tg9 (zIn_all (l := [1, 2, 3, 4, 5, 6, 7, 8, 9, 10, 11, 12, 13, 14, 15, 16, 17, 18]) (p := fun a => zIn [1, 2, 3, 4, 5, 6, 7, 8, 9, 10, 11, 12, 13, 14, 15, 16, 17, 18] a) rfl ha1)) (by omega) (g_jString_length_ok (zIn_all (l := [1, 2, 3, 4, 5, 6, 7, 8, 9, 10, 11, 12, 13, 14, 15, 16, 17, 18]) (p := fun a => zIn [1, 2, 3, 4, 5, 6, 7, 8, 9, 10, 11, 12, 13, 14, 15, 16, 17, 18] a) rfl ha1) H h_10) rfl rfl ?_
  intro R_10 m_10 p_10 e_10 hR_10 H_10
  subst e_10
  refine r_p hq 3 (pc' := 16) (L' := [(2, .int R_10), (0, .ref 129), (1, .ref a1)]) (st' := [.ref 129, .ref 129]) rfl ?_
  refine r_gI (pc' := 19) (L' := [(2, .int R_10), (0, .ref 129), (1, .ref a1)]) H_10 hq (z_at.mk 3 rfl rfl) rfl rfl rfl rfl ?_
  intro V_16 hV_16
  refine r_p hq 2 (pc' := 21) (L' := [(2, .int R_10), (0, .ref 129), (1, .ref a1)]) (st' := [.int (V_16 + R_10), .ref 129]) rfl ?_
  obtain ⟨o_21, h_21, h⟩ := Option.bind_eq_some_iff.mp h
  refine r_cvV (pc' := 24) (L' := [(2, .int R_10), (0, .ref 129), (1, .ref a1)]) (Ps := [.int (V_16 + R_10)]) (rest := []) hq (z_at.mk 3 rfl rfl) (Or.inl ⟨rfl, rfl⟩) rfl rfl (by decide) (by decide) rfl (Nat.not_lt.mpr (Nat.le_of_ble_eq_true rfl)) rfl rfl (z_cat_le 0 rfl (by decide)) (z_lgl_le 2 rfl (by decide)) (by decide) (H_10.tg rfl) (by omega) (g_sb_ensure_ok (tx_iadd hV_16 hR_10) H_10 h_21) rfl rfl ?_
  intro m_21 p_21 e_21 H_21
  refine r_p hq 2 (pc' := 26) (L' := [(2, .int R_10), (0, .ref 129), (1, .ref a1)]) (st' := [.ref 129, .ref 129]) rfl ?_
  refine r_gI (pc' := 29) (L' := [(2, .int R_10), (0, .ref 129), (1, .ref a1)]) H_21 hq (z_at.mk 3 rfl rfl) rfl rfl rfl rfl ?_
  intro V_26 hV_26
  refine r_p hq 1 (pc' := 30) (L' := [(2, .int R_10), (0, .ref 129), (1, .ref a1)]) (st' := [.ref a1, .int V_26, .ref 129]) rfl ?_
  obtain ⟨o_30, h_30, h⟩ := Option.bind_eq_some_iff.mp h
  refine r_cvV (pc' := 33) (L' := [(2, .int R_10), (0, .ref 129), (1, .ref a1)]) (Ps := [.int V_26, .ref a1]) (rest := []) hq (z_at.mk 3 rfl rfl) (Or.inl ⟨rfl, rfl⟩) rfl rfl (by decide) (by decide) rfl (Nat.not_lt.mpr (Nat.le_of_ble_eq_true rfl)) rfl rfl (z_cat_le 0 rfl (by decide)) (z_lgl_le 3 rfl (by decide)) (by decide) (H_21.tg rfl) (by omega) (g_jAbstractStringBuilder_putStringAt_ok (zIn_all (l := [1, 2, 3, 4, 5, 6, 7, 8, 9, 10, 11, 12, 13, 14, 15, 16, 17, 18]) (p := fun a => zIn [1, 2, 3, 4, 5, 6, 7, 8, 9, 10, 11, 12, 13, 14, 15, 16, 17, 18] a) rfl ha1) hV_26 H_21 h_30) rfl rfl ?_
  intro m_30 p_30 e_30 H_30
  subst e_30
  refine r_p hq 2 (pc' := 35) (L' := [(2, .int R_10), (0, .ref 129), (1, .ref a1)]) (st' := [.ref 129, .ref 129]) rfl ?_
  refine r_gI (pc' := 38) (L' := [(2, .int R_10), (0, .ref 129), (1, .ref a1)]) H_30 hq (z_at.mk 3 rfl rfl) rfl rfl rfl rfl ?_
  intro V_35 hV_35
  refine r_p hq 2 (pc' := 40) (L' := [(2, .int R_10), (0, .ref 129), (1, .ref a1)]) (st' := [.int (V_35 + R_10), .ref 129]) rfl ?_
  refine r_pI (X := V_35 + R_10) (pc' := 43) (L' := [(2, .int R_10), (0, .ref 129), (1, .ref a1)]) H_30 hq (z_at.mk 3 rfl rfl) rfl rfl (tx_iadd hV_35 hR_10) (by decide) rfl rfl rfl rfl ?_
  intro m_40 H_40
  refine r_p hq 1 (pc' := 44) (L' := [(2, .int R_10), (0, .ref 129), (1, .ref a1)]) (st' := [.ref 129]) rfl ?_
  cases h
  exact r_ra hq (z_at.mk 1 rfl rfl) rfl trivial H_40
def g_jStringBuilder_append_302 (a1 : Nat) (σ : zS) : Option (Unit × zS) :=
  (g_jAbstractStringBuilder_append_278 a1 σ).bind fun o_2 =>
  some ((), o_2.2)
set_option maxHeartbeats 4000000 in
theorem g_jStringBuilder_append_302_ok {xl : Nat} {xs : Nat → Int32} {a1 : Nat} (ha1 : zIn [1, 2, 3, 4, 5, 6, 7, 8, 9, 10, 11, 12, 13, 14, 15, 16, 17, 18] a1 = true) {σ : zS} {p : Nat} {m : zM} {o : Unit × zS} (H : zRep xl xs p m σ) (h : g_jStringBuilder_append_302 a1 σ = some o) : zGo xl xs (fun _ => True) 12 302 0 (z_can 302 0 (lv_args 0 [.ref 129, .ref a1])) [] m (vR (129)) o.2 := by
  have hq : z_mth 302 = some z_r302 := rfl
  unfold g_jStringBuilder_append_302 at h
  show zGo xl xs (fun _ => True) 12 302 0 [(0, .ref 129), (1, .ref a1)] [] m (vR (129)) o.2
  refine r_p hq 2 (pc' := 2) (L' := [(0, .ref 129), (1, .ref a1)]) (st' := [.ref a1, .ref 129]) rfl ?_
  obtain ⟨o_2, h_2, h⟩ := Option.bind_eq_some_iff.mp h
  refine r_cvR (pc' := 5) (L' := [(0, .ref 129), (1, .ref a1)]) (Ps := [.ref a1]) (rest := []) hq (z_at.mk 3 rfl rfl) (Or.inr ⟨rfl, rfl, rfl⟩) rfl rfl (by decide) (by decide) rfl (Nat.not_lt.mpr (Nat.le_of_ble_eq_true rfl)) rfl rfl (z_cat_le 0 rfl (by decide)) (z_lgl_le 2 rfl (by decide)) (by decide) (H.tg rfl) (by omega) (g_jAbstractStringBuilder_append_278_ok (zIn_all (l := [1, 2, 3, 4, 5, 6, 7, 8, 9, 10, 11, 12, 13, 14, 15, 16, 17, 18]) (p := fun a => zIn [1, 2, 3, 4, 5, 6, 7, 8, 9, 10, 11, 12, 13, 14, 15, 16, 17, 18] a) rfl ha1) H h_2) rfl rfl ?_
  intro m_2 p_2 e_2 H_2
  refine r_p hq 2 (pc' := 7) (L' := [(0, .ref 129), (1, .ref a1)]) (st' := [.ref 129]) rfl ?_
  cases h
  exact r_ra hq (z_at.mk 1 rfl rfl) rfl trivial H_2
def g_c_explainMissing_L17 : Nat → Int → Int → zS → Option (Int × zS)
  | 0, _, _, _ => none
  | n + 1, x3, x4, σ =>
    let v_20 := σ 56 1
    if v_20 ≤ x4 then
      some (x3, σ)
    else
      (g_bs_at 56 x4 σ).bind fun o_36 =>
      (g_ca_costOf 48 o_36.1 o_36.2).bind fun o_39 =>
      (g_jStringBuilder_append_302 9 o_39.2).bind fun o_51 =>
      (g_bs_at 56 x4 o_51.2).bind fun o_59 =>
      (g_c_spellBox o_59.1 o_59.2).bind fun o_62 =>
      (g_jStringBuilder_append_303 32 o_62.2).bind fun o_71 =>
      (g_jStringBuilder_append_304 o_39.1 o_71.2).bind fun o_76 =>
      (g_jStringBuilder_append_303 59 o_76.2).bind fun o_81 =>
      (g_c_explainMissing_L17 n) (w32 (x3 + o_39.1)) (w32 (x4 + 1)) o_81.2
set_option maxHeartbeats 4000000 in
theorem g_c_explainMissing_L17_ok {xl : Nat} {xs : Nat → Int32} : ∀ (n : Nat) {X3 : Int32} {x3 : Int} {X4 : Int32} {x4 : Int} {σ : zS} {p : Nat} {m : zM} {o : Int × zS}, X3.toInt = x3 → X4.toInt = x4 → zRep xl xs p m σ → g_c_explainMissing_L17 n x3 x4 σ = some o → zGo xl xs (fun _ => True) 14 131 17 [(0, .ref 39), (2, .ref 56), (3, .int X3), (4, .int X4)] [] m (vI o.1) o.2
  | 0, _, _, _, _, _, _, _, _, _, _, _, h => by cases h
  | n + 1, X3, x3, X4, x4, σ, p, m, o, hx3, hx4, H, h => by
    have hq : z_mth 131 = some z_r131 := rfl
    have ih := fun {X3 : Int32} {x3 : Int} {X4 : Int32} {x4 : Int} {σ : zS} {p : Nat} {m : zM} {o : Int × zS} => g_c_explainMissing_L17_ok (xl := xl) (xs := xs) n (X3 := X3) (x3 := x3) (X4 := X4) (x4 := x4) (σ := σ) (p := p) (m := m) (o := o)
    unfold g_c_explainMissing_L17 at h
    refine r_p hq 2 (pc' := 20) (L' := [(0, .ref 39), (2, .ref 56), (3, .int X3), (4, .int X4)]) (st' := [.ref 56, .int X4]) rfl ?_
    refine r_gI (pc' := 23) (L' := [(0, .ref 39), (2, .ref 56), (3, .int X3), (4, .int X4)]) H hq (z_at.mk 3 rfl rfl) rfl rfl rfl rfl ?_
    intro V_20 hV_20
    rcases z_ite h with ⟨c_23, h⟩ | ⟨c_23, h⟩
    · refine r_t2 (pc' := 96) (L' := [(0, .ref 39), (2, .ref 56), (3, .int X3), (4, .int X4)]) hq (z_at.mk 3 rfl rfl) rfl hx4 hV_20 c_23 rfl rfl ?_
      refine r_p hq 1 (pc' := 97) (L' := [(0, .ref 39), (2, .ref 56), (3, .int X3), (4, .int X4)]) (st' := [.int X3]) rfl ?_
      cases h
      exact r_ri hq (z_at.mk 1 rfl rfl) rfl rfl hx3 trivial H
    · refine r_f2 (pc' := 26) (L' := [(0, .ref 39), (2, .ref 56), (3, .int X3), (4, .int X4)]) hq (z_at.mk 3 rfl rfl) rfl hx4 hV_20 c_23 rfl rfl ?_
      refine r_p hq 1 (pc' := 27) (L' := [(0, .ref 39), (2, .ref 56), (3, .int X3), (4, .int X4)]) (st' := [.ref 39]) rfl ?_
      refine r_gR (b := 40) (pc' := 30) (L' := [(0, .ref 39), (2, .ref 56), (3, .int X3), (4, .int X4)]) H hq (z_at.mk 3 rfl rfl) rfl rfl rfl rfl ?_
      refine r_gR (b := 48) (pc' := 33) (L' := [(0, .ref 39), (2, .ref 56), (3, .int X3), (4, .int X4)]) H hq (z_at.mk 3 rfl rfl) rfl rfl rfl rfl ?_
      refine r_p hq 2 (pc' := 36) (L' := [(0, .ref 39), (2, .ref 56), (3, .int X3), (4, .int X4)]) (st' := [.int X4, .ref 56, .ref 48]) rfl ?_
      obtain ⟨o_36, h_36, h⟩ := Option.bind_eq_some_iff.mp h
      refine r_cvI (pc' := 39) (L' := [(0, .ref 39), (2, .ref 56), (3, .int X3), (4, .int X4)]) (Ps := [.int X4]) (rest := [.ref 48]) hq (z_at.mk 3 rfl rfl) (Or.inl ⟨rfl, rfl⟩) rfl rfl (by decide) (by decide) rfl (Nat.not_lt.mpr (Nat.le_of_ble_eq_true rfl)) rfl rfl (z_cat_le 1 rfl (by decide)) (z_lgl_le 2 rfl (by decide)) (by decide) (H.tg rfl) (by omega) (g_bs_at_ok rfl hx4 H h_36) rfl rfl ?_
      intro R_36 m_36 p_36 e_36 hR_36 H_36
      subst e_36
      obtain ⟨o_39, h_39, h⟩ := Option.bind_eq_some_iff.mp h
      refine r_cvI (pc' := 42) (L' := [(0, .ref 39), (2, .ref 56), (3, .int X3), (4, .int X4)]) (Ps := [.int R_36]) (rest := []) hq (z_at.mk 3 rfl rfl) (Or.inl ⟨rfl, rfl⟩) rfl rfl (by decide) (by decide) rfl (Nat.not_lt.mpr (Nat.le_of_ble_eq_true rfl)) rfl rfl (z_cat_le 0 rfl (by decide)) (z_lgl_le 2 rfl (by decide)) (by decide) (H_36.tg rfl) (by omega) (g_ca_costOf_ok rfl hR_36 H_36 h_39) rfl rfl ?_
      intro R_39 m_39 p_39 e_39 hR_39 H_39
      subst e_39
      refine r_p hq 2 (pc' := 45) (L' := [(5, .int R_39), (0, .ref 39), (2, .ref 56), (3, .int X3), (4, .int X4)]) (st' := [.ref 39]) rfl ?_
      refine r_gR (b := 129) (pc' := 48) (L' := [(5, .int R_39), (0, .ref 39), (2, .ref 56), (3, .int X3), (4, .int X4)]) H_39 hq (z_at.mk 3 rfl rfl) rfl rfl rfl rfl ?_
      refine r_p hq 1 (pc' := 51) (L' := [(5, .int R_39), (0, .ref 39), (2, .ref 56), (3, .int X3), (4, .int X4)]) (st' := [.ref 9, .ref 129]) rfl ?_
      obtain ⟨o_51, h_51, h⟩ := Option.bind_eq_some_iff.mp h
      refine r_cvR (pc' := 54) (L' := [(5, .int R_39), (0, .ref 39), (2, .ref 56), (3, .int X3), (4, .int X4)]) (Ps := [.ref 9]) (rest := []) hq (z_at.mk 3 rfl rfl) (Or.inl ⟨rfl, rfl⟩) rfl rfl (by decide) (by decide) rfl (Nat.not_lt.mpr (Nat.le_of_ble_eq_true rfl)) rfl rfl (z_cat_le 0 rfl (by decide)) (z_lgl_le 2 rfl (by decide)) (by decide) (H_39.tg rfl) (by omega) (g_jStringBuilder_append_302_ok rfl H_39 h_51) rfl rfl ?_
      intro m_51 p_51 e_51 H_51
      refine r_p hq 4 (pc' := 59) (L' := [(5, .int R_39), (0, .ref 39), (2, .ref 56), (3, .int X3), (4, .int X4)]) (st' := [.int X4, .ref 56, .ref 39]) rfl ?_
      obtain ⟨o_59, h_59, h⟩ := Option.bind_eq_some_iff.mp h
      refine r_cvI (pc' := 62) (L' := [(5, .int R_39), (0, .ref 39), (2, .ref 56), (3, .int X3), (4, .int X4)]) (Ps := [.int X4]) (rest := [.ref 39]) hq (z_at.mk 3 rfl rfl) (Or.inl ⟨rfl, rfl⟩) rfl rfl (by decide) (by decide) rfl (Nat.not_lt.mpr (Nat.le_of_ble_eq_true rfl)) rfl rfl (z_cat_le 1 rfl (by decide)) (z_lgl_le 2 rfl (by decide)) (by decide) (H_51.tg rfl) (by omega) (g_bs_at_ok rfl hx4 H_51 h_59) rfl rfl ?_
      intro R_59 m_59 p_59 e_59 hR_59 H_59
      subst e_59
      obtain ⟨o_62, h_62, h⟩ := Option.bind_eq_some_iff.mp h
      refine r_cvV (pc' := 65) (L' := [(5, .int R_39), (0, .ref 39), (2, .ref 56), (3, .int X3), (4, .int X4)]) (Ps := [.int R_59]) (rest := []) hq (z_at.mk 3 rfl rfl) (Or.inl ⟨rfl, rfl⟩) rfl rfl (by decide) (by decide) rfl (Nat.not_lt.mpr (Nat.le_of_ble_eq_true rfl)) rfl rfl (z_cat_le 0 rfl (by decide)) (z_lgl_le 2 rfl (by decide)) (by decide) (H_59.tg rfl) (by omega) (g_c_spellBox_ok hR_59 H_59 h_62) rfl rfl ?_
      intro m_62 p_62 e_62 H_62
      refine r_p hq 1 (pc' := 66) (L' := [(5, .int R_39), (0, .ref 39), (2, .ref 56), (3, .int X3), (4, .int X4)]) (st' := [.ref 39]) rfl ?_
      refine r_gR (b := 129) (pc' := 69) (L' := [(5, .int R_39), (0, .ref 39), (2, .ref 56), (3, .int X3), (4, .int X4)]) H_62 hq (z_at.mk 3 rfl rfl) rfl rfl rfl rfl ?_
      refine r_p hq 1 (pc' := 71) (L' := [(5, .int R_39), (0, .ref 39), (2, .ref 56), (3, .int X3), (4, .int X4)]) (st' := [.int ((32 : Int32)), .ref 129]) rfl ?_
      obtain ⟨o_71, h_71, h⟩ := Option.bind_eq_some_iff.mp h
      refine r_cvR (pc' := 74) (L' := [(5, .int R_39), (0, .ref 39), (2, .ref 56), (3, .int X3), (4, .int X4)]) (Ps := [.int ((32 : Int32))]) (rest := []) hq (z_at.mk 3 rfl rfl) (Or.inl ⟨rfl, rfl⟩) rfl rfl (by decide) (by decide) rfl (Nat.not_lt.mpr (Nat.le_of_ble_eq_true rfl)) rfl rfl (z_cat_le 0 rfl (by decide)) (z_lgl_le 2 rfl (by decide)) (by decide) (H_62.tg rfl) (by omega) (g_jStringBuilder_append_303_ok (rfl : (32 : Int32).toInt = 32) H_62 h_71) rfl rfl ?_
      intro m_71 p_71 e_71 H_71
      refine r_p hq 1 (pc' := 76) (L' := [(5, .int R_39), (0, .ref 39), (2, .ref 56), (3, .int X3), (4, .int X4)]) (st' := [.int R_39, .ref 129]) rfl ?_
      obtain ⟨o_76, h_76, h⟩ := Option.bind_eq_some_iff.mp h
      refine r_cvR (pc' := 79) (L' := [(5, .int R_39), (0, .ref 39), (2, .ref 56), (3, .int X3), (4, .int X4)]) (Ps := [.int R_39]) (rest := []) hq (z_at.mk 3 rfl rfl) (Or.inl ⟨rfl, rfl⟩) rfl rfl (by decide) (by decide) rfl (Nat.not_lt.mpr (Nat.le_of_ble_eq_true rfl)) rfl rfl (z_cat_le 0 rfl (by decide)) (z_lgl_le 2 rfl (by decide)) (by decide) (H_71.tg rfl) (by omega) (g_jStringBuilder_append_304_ok hR_39 H_71 h_76) rfl rfl ?_
      intro m_76 p_76 e_76 H_76
      refine r_p hq 1 (pc' := 81) (L' := [(5, .int R_39), (0, .ref 39), (2, .ref 56), (3, .int X3), (4, .int X4)]) (st' := [.int ((59 : Int32)), .ref 129]) rfl ?_
      obtain ⟨o_81, h_81, h⟩ := Option.bind_eq_some_iff.mp h
      refine r_cvR (pc' := 84) (L' := [(5, .int R_39), (0, .ref 39), (2, .ref 56), (3, .int X3), (4, .int X4)]) (Ps := [.int ((59 : Int32))]) (rest := []) hq (z_at.mk 3 rfl rfl) (Or.inl ⟨rfl, rfl⟩) rfl rfl (by decide) (by decide) rfl (Nat.not_lt.mpr (Nat.le_of_ble_eq_true rfl)) rfl rfl (z_cat_le 0 rfl (by decide)) (z_lgl_le 2 rfl (by decide)) (by decide) (H_76.tg rfl) (by omega) (g_jStringBuilder_append_303_ok (rfl : (59 : Int32).toInt = 59) H_76 h_81) rfl rfl ?_
      intro m_81 p_81 e_81 H_81
      refine r_p hq 7 (pc' := 17) (L' := [(0, .ref 39), (2, .ref 56), (3, .int (X3 + R_39)), (4, .int (X4 + (1 : Int32)))]) (st' := []) rfl ?_
      exact ih (tx_iadd hx3 hR_39) (tx_iadd hx4 (rfl : (1 : Int32).toInt = 1)) H_81 h
def g_c_explainMissing (x1 : Int) (σ : zS) : Option (Int × zS) :=
  (g_ca_missingOf 48 x1 σ).bind fun o_8 =>
  g_c_explainMissing_L17 zK 0 0 o_8.2
set_option maxHeartbeats 4000000 in
theorem g_c_explainMissing_ok {xl : Nat} {xs : Nat → Int32} {X1 : Int32} {x1 : Int} (hx1 : X1.toInt = x1) {σ : zS} {p : Nat} {m : zM} {o : Int × zS} (H : zRep xl xs p m σ) (h : g_c_explainMissing x1 σ = some o) : zGo xl xs (fun _ => True) 14 131 0 (z_can 131 0 (lv_args 0 [.ref 39, .int X1])) [] m (vI o.1) o.2 := by
  have hq : z_mth 131 = some z_r131 := rfl
  unfold g_c_explainMissing at h
  show zGo xl xs (fun _ => True) 14 131 0 [(0, .ref 39), (1, .int X1)] [] m (vI o.1) o.2
  refine r_p hq 1 (pc' := 1) (L' := [(0, .ref 39), (1, .int X1)]) (st' := [.ref 39]) rfl ?_
  refine r_gR (b := 40) (pc' := 4) (L' := [(0, .ref 39), (1, .int X1)]) H hq (z_at.mk 3 rfl rfl) rfl rfl rfl rfl ?_
  refine r_gR (b := 48) (pc' := 7) (L' := [(0, .ref 39), (1, .int X1)]) H hq (z_at.mk 3 rfl rfl) rfl rfl rfl rfl ?_
  refine r_p hq 1 (pc' := 8) (L' := [(0, .ref 39), (1, .int X1)]) (st' := [.int X1, .ref 48]) rfl ?_
  obtain ⟨o_8, h_8, h⟩ := Option.bind_eq_some_iff.mp h
  refine r_cvR (pc' := 11) (L' := [(0, .ref 39), (1, .int X1)]) (Ps := [.int X1]) (rest := []) hq (z_at.mk 3 rfl rfl) (Or.inl ⟨rfl, rfl⟩) rfl rfl (by decide) (by decide) rfl (Nat.not_lt.mpr (Nat.le_of_ble_eq_true rfl)) rfl rfl (z_cat_le 0 rfl (by decide)) (z_lgl_le 2 rfl (by decide)) (by decide) (H.tg rfl) (by omega) (g_ca_missingOf_ok rfl hx1 H h_8) rfl rfl ?_
  intro m_8 p_8 e_8 H_8
  subst e_8
  refine r_p hq 5 (pc' := 17) (L' := [(0, .ref 39), (2, .ref 56), (3, .int ((0 : Int32))), (4, .int ((0 : Int32)))]) (st' := []) rfl ?_
  exact g_c_explainMissing_L17_ok zK (rfl : (0 : Int32).toInt = 0) (rfl : (0 : Int32).toInt = 0) H_8 h
def g_c_explain_L135 (g35 : Int → Int → zS → Option (Int × zS)) (x5 : Int) (x6 : Int) (σ : zS) : Option (Int × zS) :=
  g35 x5 (w32 (x6 + 1)) σ
set_option maxHeartbeats 4000000 in
theorem g_c_explain_L135_ok {xl : Nat} {xs : Nat → Int32} {g35 : Int → Int → zS → Option (Int × zS)} (hg35 : ∀ {X5 : Int32} {x5 : Int} {X6 : Int32} {x6 : Int} {σ : zS} {p : Nat} {m : zM} {o : Int × zS}, X5.toInt = x5 → X6.toInt = x6 → zRep xl xs p m σ → g35 x5 x6 σ = some o → zGo xl xs (fun _ => True) 15 130 35 [(0, .ref 39), (5, .int X5), (6, .int X6)] [] m (vI o.1) o.2) {X5 : Int32} {x5 : Int} (hx5 : X5.toInt = x5) {X6 : Int32} {x6 : Int} (hx6 : X6.toInt = x6) {σ : zS} {p : Nat} {m : zM} {o : Int × zS} (H : zRep xl xs p m σ) (h : g_c_explain_L135 g35 x5 x6 σ = some o) : zGo xl xs (fun _ => True) 15 130 135 [(0, .ref 39), (5, .int X5), (6, .int X6)] [] m (vI o.1) o.2 := by
  have hq : z_mth 130 = some z_r130 := rfl
  unfold g_c_explain_L135 at h
  refine r_p hq 2 (pc' := 35) (L' := [(0, .ref 39), (5, .int X5), (6, .int (X6 + (1 : Int32)))]) (st' := []) rfl ?_
  exact hg35 hx5 (tx_iadd hx6 (rfl : (1 : Int32).toInt = 1)) H h
def g_c_explain_L35 : Nat → Int → Int → zS → Option (Int × zS)
  | 0, _, _, _ => none
  | n + 1, x5, x6, σ =>
    let v_44 := σ 48 2
    if v_44 ≤ x6 then
      (g_c_explainMissing x5 σ).bind fun o_144 =>
      (g_jStringBuilder_append_302 10 o_144.2).bind fun o_156 =>
      (g_jStringBuilder_append_304 o_144.1 o_156.2).bind fun o_161 =>
      (g_jStringBuilder_length o_161.2).bind fun o_169 =>
      some (o_169.1, o_169.2)
    else
      if 0 ≤ x6 ∧ x6 < 181 then
      let v_62 := σ 52 x6
      (g_b_meet v_62 x5 σ).bind fun o_65 =>
      if o_65.1 = 0 then
        g_c_explain_L135 ((g_c_explain_L35 n)) x5 x6 o_65.2
      else
        (g_jStringBuilder_append_302 8 o_65.2).bind fun o_78 =>
        if 0 ≤ x6 ∧ x6 < 181 then
        let v_93 := o_78.2 51 x6
        (g_jStringBuilder_append_304 v_93 o_78.2).bind fun o_94 =>
        (g_jStringBuilder_append_303 32 o_94.2).bind fun o_99 =>
        if 0 ≤ x6 ∧ x6 < 181 then
        let v_116 := o_99.2 52 x6
        (g_b_common v_116 x5 o_99.2).bind fun o_119 =>
        (g_c_spellBox o_119.1 o_119.2).bind fun o_122 =>
        (g_jStringBuilder_append_303 59 o_122.2).bind fun o_131 =>
        g_c_explain_L135 ((g_c_explain_L35 n)) x5 x6 o_131.2
        else none
        else none
      else none
set_option maxHeartbeats 4000000 in
theorem g_c_explain_L35_ok {xl : Nat} {xs : Nat → Int32} : ∀ (n : Nat) {X5 : Int32} {x5 : Int} {X6 : Int32} {x6 : Int} {σ : zS} {p : Nat} {m : zM} {o : Int × zS}, X5.toInt = x5 → X6.toInt = x6 → zRep xl xs p m σ → g_c_explain_L35 n x5 x6 σ = some o → zGo xl xs (fun _ => True) 15 130 35 [(0, .ref 39), (5, .int X5), (6, .int X6)] [] m (vI o.1) o.2
  | 0, _, _, _, _, _, _, _, _, _, _, _, h => by cases h
  | n + 1, X5, x5, X6, x6, σ, p, m, o, hx5, hx6, H, h => by
    have hq : z_mth 130 = some z_r130 := rfl
    have ih := fun {X5 : Int32} {x5 : Int} {X6 : Int32} {x6 : Int} {σ : zS} {p : Nat} {m : zM} {o : Int × zS} => g_c_explain_L35_ok (xl := xl) (xs := xs) n (X5 := X5) (x5 := x5) (X6 := X6) (x6 := x6) (σ := σ) (p := p) (m := m) (o := o)
    unfold g_c_explain_L35 at h
    refine r_p hq 2 (pc' := 38) (L' := [(0, .ref 39), (5, .int X5), (6, .int X6)]) (st' := [.ref 39, .int X6]) rfl ?_
    refine r_gR (b := 40) (pc' := 41) (L' := [(0, .ref 39), (5, .int X5), (6, .int X6)]) H hq (z_at.mk 3 rfl rfl) rfl rfl rfl rfl ?_
    refine r_gR (b := 48) (pc' := 44) (L' := [(0, .ref 39), (5, .int X5), (6, .int X6)]) H hq (z_at.mk 3 rfl rfl) rfl rfl rfl rfl ?_
    refine r_gI (pc' := 47) (L' := [(0, .ref 39), (5, .int X5), (6, .int X6)]) H hq (z_at.mk 3 rfl rfl) rfl rfl rfl rfl ?_
    intro V_44 hV_44
    rcases z_ite h with ⟨c_47, h⟩ | ⟨c_47, h⟩
    · refine r_t2 (pc' := 141) (L' := [(0, .ref 39), (5, .int X5), (6, .int X6)]) hq (z_at.mk 3 rfl rfl) rfl hx6 hV_44 c_47 rfl rfl ?_
      refine r_p hq 2 (pc' := 144) (L' := [(0, .ref 39), (5, .int X5), (6, .int X6)]) (st' := [.int X5, .ref 39]) rfl ?_
      obtain ⟨o_144, h_144, h⟩ := Option.bind_eq_some_iff.mp h
      refine r_cvI (pc' := 147) (L' := [(0, .ref 39), (5, .int X5), (6, .int X6)]) (Ps := [.int X5]) (rest := []) hq (z_at.mk 3 rfl rfl) (Or.inl ⟨rfl, rfl⟩) rfl rfl (by decide) (by decide) rfl (Nat.not_lt.mpr (Nat.le_of_ble_eq_true rfl)) rfl rfl (z_cat_le 0 rfl (by decide)) (z_lgl_le 2 rfl (by decide)) (by decide) (H.tg rfl) (by omega) (g_c_explainMissing_ok hx5 H h_144) rfl rfl ?_
      intro R_144 m_144 p_144 e_144 hR_144 H_144
      refine r_p hq 2 (pc' := 150) (L' := [(6, .int R_144), (0, .ref 39), (5, .int X5)]) (st' := [.ref 39]) rfl ?_
      refine r_gR (b := 129) (pc' := 153) (L' := [(6, .int R_144), (0, .ref 39), (5, .int X5)]) H_144 hq (z_at.mk 3 rfl rfl) rfl rfl rfl rfl ?_
      refine r_p hq 1 (pc' := 156) (L' := [(6, .int R_144), (0, .ref 39), (5, .int X5)]) (st' := [.ref 10, .ref 129]) rfl ?_
      obtain ⟨o_156, h_156, h⟩ := Option.bind_eq_some_iff.mp h
      refine r_cvR (pc' := 159) (L' := [(6, .int R_144), (0, .ref 39), (5, .int X5)]) (Ps := [.ref 10]) (rest := []) hq (z_at.mk 3 rfl rfl) (Or.inl ⟨rfl, rfl⟩) rfl rfl (by decide) (by decide) rfl (Nat.not_lt.mpr (Nat.le_of_ble_eq_true rfl)) rfl rfl (z_cat_le 0 rfl (by decide)) (z_lgl_le 2 rfl (by decide)) (by decide) (H_144.tg rfl) (by omega) (g_jStringBuilder_append_302_ok rfl H_144 h_156) rfl rfl ?_
      intro m_156 p_156 e_156 H_156
      refine r_p hq 1 (pc' := 161) (L' := [(6, .int R_144), (0, .ref 39), (5, .int X5)]) (st' := [.int R_144, .ref 129]) rfl ?_
      obtain ⟨o_161, h_161, h⟩ := Option.bind_eq_some_iff.mp h
      refine r_cvR (pc' := 164) (L' := [(6, .int R_144), (0, .ref 39), (5, .int X5)]) (Ps := [.int R_144]) (rest := []) hq (z_at.mk 3 rfl rfl) (Or.inl ⟨rfl, rfl⟩) rfl rfl (by decide) (by decide) rfl (Nat.not_lt.mpr (Nat.le_of_ble_eq_true rfl)) rfl rfl (z_cat_le 0 rfl (by decide)) (z_lgl_le 2 rfl (by decide)) (by decide) (H_156.tg rfl) (by omega) (g_jStringBuilder_append_304_ok hR_144 H_156 h_161) rfl rfl ?_
      intro m_161 p_161 e_161 H_161
      refine r_p hq 2 (pc' := 166) (L' := [(6, .int R_144), (0, .ref 39), (5, .int X5)]) (st' := [.ref 39]) rfl ?_
      refine r_gR (b := 129) (pc' := 169) (L' := [(6, .int R_144), (0, .ref 39), (5, .int X5)]) H_161 hq (z_at.mk 3 rfl rfl) rfl rfl rfl rfl ?_
      obtain ⟨o_169, h_169, h⟩ := Option.bind_eq_some_iff.mp h
      refine r_cvI (pc' := 172) (L' := [(6, .int R_144), (0, .ref 39), (5, .int X5)]) (Ps := []) (rest := []) hq (z_at.mk 3 rfl rfl) (Or.inl ⟨rfl, rfl⟩) rfl rfl (by decide) (by decide) rfl (Nat.not_lt.mpr (Nat.le_of_ble_eq_true rfl)) rfl rfl (z_cat_le 0 rfl (by decide)) (z_lgl_le 1 rfl (by decide)) (by decide) (H_161.tg rfl) (by omega) (g_jStringBuilder_length_ok H_161 h_169) rfl rfl ?_
      intro R_169 m_169 p_169 e_169 hR_169 H_169
      subst e_169
      cases h
      exact r_ri hq (z_at.mk 1 rfl rfl) rfl rfl hR_169 trivial H_169
    · refine r_f2 (pc' := 50) (L' := [(0, .ref 39), (5, .int X5), (6, .int X6)]) hq (z_at.mk 3 rfl rfl) rfl hx6 hV_44 c_47 rfl rfl ?_
      refine r_p hq 1 (pc' := 51) (L' := [(0, .ref 39), (5, .int X5), (6, .int X6)]) (st' := [.ref 39]) rfl ?_
      refine r_gR (b := 40) (pc' := 54) (L' := [(0, .ref 39), (5, .int X5), (6, .int X6)]) H hq (z_at.mk 3 rfl rfl) rfl rfl rfl rfl ?_
      refine r_gR (b := 48) (pc' := 57) (L' := [(0, .ref 39), (5, .int X5), (6, .int X6)]) H hq (z_at.mk 3 rfl rfl) rfl rfl rfl rfl ?_
      refine r_gR (b := 52) (pc' := 60) (L' := [(0, .ref 39), (5, .int X5), (6, .int X6)]) H hq (z_at.mk 3 rfl rfl) rfl rfl rfl rfl ?_
      refine r_p hq 1 (pc' := 62) (L' := [(0, .ref 39), (5, .int X5), (6, .int X6)]) (st' := [.int X6, .ref 52]) rfl ?_
      obtain ⟨g_62, h⟩ := z_ifo_some h
      refine r_ia (pc' := 63) (L' := [(0, .ref 39), (5, .int X5), (6, .int X6)]) H hq (z_at.mk 1 rfl rfl) (show zAr 52 0 181 = true from rfl) hx6 g_62 rfl rfl ?_
      intro V_62 hV_62
      refine r_p hq 1 (pc' := 65) (L' := [(0, .ref 39), (5, .int X5), (6, .int X6)]) (st' := [.int X5, .int V_62]) rfl ?_
      obtain ⟨o_65, h_65, h⟩ := Option.bind_eq_some_iff.mp h
      refine r_csI (pc' := 68) (L' := [(0, .ref 39), (5, .int X5), (6, .int X6)]) (As := [.int V_62, .int X5]) (rest := []) (j := 9) hq (z_at.mk 3 rfl rfl) (Or.inl ⟨rfl, rfl⟩) rfl rfl (by omega) (g_b_meet_ok hV_62 hx5 H h_65) rfl rfl ?_
      intro R_65 m_65 p_65 e_65 hR_65 H_65
      subst e_65
      rcases z_ite h with ⟨c_68, h⟩ | ⟨c_68, h⟩
      · refine r_t1 (pc' := 135) (L' := [(0, .ref 39), (5, .int X5), (6, .int X6)]) hq (z_at.mk 3 rfl rfl) rfl hR_65 c_68 rfl rfl ?_
        exact g_c_explain_L135_ok ih hx5 hx6 H_65 h
      · refine r_f1 (pc' := 71) (L' := [(0, .ref 39), (5, .int X5), (6, .int X6)]) hq (z_at.mk 3 rfl rfl) rfl hR_65 c_68 rfl rfl ?_
        refine r_p hq 1 (pc' := 72) (L' := [(0, .ref 39), (5, .int X5), (6, .int X6)]) (st' := [.ref 39]) rfl ?_
        refine r_gR (b := 129) (pc' := 75) (L' := [(0, .ref 39), (5, .int X5), (6, .int X6)]) H_65 hq (z_at.mk 3 rfl rfl) rfl rfl rfl rfl ?_
        refine r_p hq 1 (pc' := 78) (L' := [(0, .ref 39), (5, .int X5), (6, .int X6)]) (st' := [.ref 8, .ref 129]) rfl ?_
        obtain ⟨o_78, h_78, h⟩ := Option.bind_eq_some_iff.mp h
        refine r_cvR (pc' := 81) (L' := [(0, .ref 39), (5, .int X5), (6, .int X6)]) (Ps := [.ref 8]) (rest := []) hq (z_at.mk 3 rfl rfl) (Or.inl ⟨rfl, rfl⟩) rfl rfl (by decide) (by decide) rfl (Nat.not_lt.mpr (Nat.le_of_ble_eq_true rfl)) rfl rfl (z_cat_le 0 rfl (by decide)) (z_lgl_le 2 rfl (by decide)) (by decide) (H_65.tg rfl) (by omega) (g_jStringBuilder_append_302_ok rfl H_65 h_78) rfl rfl ?_
        intro m_78 p_78 e_78 H_78
        refine r_p hq 1 (pc' := 82) (L' := [(0, .ref 39), (5, .int X5), (6, .int X6)]) (st' := [.ref 39, .ref 129]) rfl ?_
        refine r_gR (b := 40) (pc' := 85) (L' := [(0, .ref 39), (5, .int X5), (6, .int X6)]) H_78 hq (z_at.mk 3 rfl rfl) rfl rfl rfl rfl ?_
        refine r_gR (b := 48) (pc' := 88) (L' := [(0, .ref 39), (5, .int X5), (6, .int X6)]) H_78 hq (z_at.mk 3 rfl rfl) rfl rfl rfl rfl ?_
        refine r_gR (b := 51) (pc' := 91) (L' := [(0, .ref 39), (5, .int X5), (6, .int X6)]) H_78 hq (z_at.mk 3 rfl rfl) rfl rfl rfl rfl ?_
        refine r_p hq 1 (pc' := 93) (L' := [(0, .ref 39), (5, .int X5), (6, .int X6)]) (st' := [.int X6, .ref 51, .ref 129]) rfl ?_
        obtain ⟨g_93, h⟩ := z_ifo_some h
        refine r_ia (pc' := 94) (L' := [(0, .ref 39), (5, .int X5), (6, .int X6)]) H_78 hq (z_at.mk 1 rfl rfl) (show zAr 51 0 181 = true from rfl) hx6 g_93 rfl rfl ?_
        intro V_93 hV_93
        obtain ⟨o_94, h_94, h⟩ := Option.bind_eq_some_iff.mp h
        refine r_cvR (pc' := 97) (L' := [(0, .ref 39), (5, .int X5), (6, .int X6)]) (Ps := [.int V_93]) (rest := []) hq (z_at.mk 3 rfl rfl) (Or.inl ⟨rfl, rfl⟩) rfl rfl (by decide) (by decide) rfl (Nat.not_lt.mpr (Nat.le_of_ble_eq_true rfl)) rfl rfl (z_cat_le 0 rfl (by decide)) (z_lgl_le 2 rfl (by decide)) (by decide) (H_78.tg rfl) (by omega) (g_jStringBuilder_append_304_ok hV_93 H_78 h_94) rfl rfl ?_
        intro m_94 p_94 e_94 H_94
        refine r_p hq 1 (pc' := 99) (L' := [(0, .ref 39), (5, .int X5), (6, .int X6)]) (st' := [.int ((32 : Int32)), .ref 129]) rfl ?_
        obtain ⟨o_99, h_99, h⟩ := Option.bind_eq_some_iff.mp h
        refine r_cvR (pc' := 102) (L' := [(0, .ref 39), (5, .int X5), (6, .int X6)]) (Ps := [.int ((32 : Int32))]) (rest := []) hq (z_at.mk 3 rfl rfl) (Or.inl ⟨rfl, rfl⟩) rfl rfl (by decide) (by decide) rfl (Nat.not_lt.mpr (Nat.le_of_ble_eq_true rfl)) rfl rfl (z_cat_le 0 rfl (by decide)) (z_lgl_le 2 rfl (by decide)) (by decide) (H_94.tg rfl) (by omega) (g_jStringBuilder_append_303_ok (rfl : (32 : Int32).toInt = 32) H_94 h_99) rfl rfl ?_
        intro m_99 p_99 e_99 H_99
        refine r_p hq 3 (pc' := 105) (L' := [(0, .ref 39), (5, .int X5), (6, .int X6)]) (st' := [.ref 39, .ref 39]) rfl ?_
        refine r_gR (b := 40) (pc' := 108) (L' := [(0, .ref 39), (5, .int X5), (6, .int X6)]) H_99 hq (z_at.mk 3 rfl rfl) rfl rfl rfl rfl ?_
        refine r_gR (b := 48) (pc' := 111) (L' := [(0, .ref 39), (5, .int X5), (6, .int X6)]) H_99 hq (z_at.mk 3 rfl rfl) rfl rfl rfl rfl ?_
        refine r_gR (b := 52) (pc' := 114) (L' := [(0, .ref 39), (5, .int X5), (6, .int X6)]) H_99 hq (z_at.mk 3 rfl rfl) rfl rfl rfl rfl ?_
        refine r_p hq 1 (pc' := 116) (L' := [(0, .ref 39), (5, .int X5), (6, .int X6)]) (st' := [.int X6, .ref 52, .ref 39]) rfl ?_
        obtain ⟨g_116, h⟩ := z_ifo_some h
        refine r_ia (pc' := 117) (L' := [(0, .ref 39), (5, .int X5), (6, .int X6)]) H_99 hq (z_at.mk 1 rfl rfl) (show zAr 52 0 181 = true from rfl) hx6 g_116 rfl rfl ?_
        intro V_116 hV_116
        refine r_p hq 1 (pc' := 119) (L' := [(0, .ref 39), (5, .int X5), (6, .int X6)]) (st' := [.int X5, .int V_116, .ref 39]) rfl ?_
        obtain ⟨o_119, h_119, h⟩ := Option.bind_eq_some_iff.mp h
        refine r_csI (pc' := 122) (L' := [(0, .ref 39), (5, .int X5), (6, .int X6)]) (As := [.int V_116, .int X5]) (rest := [.ref 39]) (j := 10) hq (z_at.mk 3 rfl rfl) (Or.inl ⟨rfl, rfl⟩) rfl rfl (by omega) (g_b_common_ok hV_116 hx5 H_99 h_119) rfl rfl ?_
        intro R_119 m_119 p_119 e_119 hR_119 H_119
        subst e_119
        obtain ⟨o_122, h_122, h⟩ := Option.bind_eq_some_iff.mp h
        refine r_cvV (pc' := 125) (L' := [(0, .ref 39), (5, .int X5), (6, .int X6)]) (Ps := [.int R_119]) (rest := []) hq (z_at.mk 3 rfl rfl) (Or.inl ⟨rfl, rfl⟩) rfl rfl (by decide) (by decide) rfl (Nat.not_lt.mpr (Nat.le_of_ble_eq_true rfl)) rfl rfl (z_cat_le 0 rfl (by decide)) (z_lgl_le 2 rfl (by decide)) (by decide) (H_119.tg rfl) (by omega) (g_c_spellBox_ok hR_119 H_119 h_122) rfl rfl ?_
        intro m_122 p_122 e_122 H_122
        refine r_p hq 1 (pc' := 126) (L' := [(0, .ref 39), (5, .int X5), (6, .int X6)]) (st' := [.ref 39]) rfl ?_
        refine r_gR (b := 129) (pc' := 129) (L' := [(0, .ref 39), (5, .int X5), (6, .int X6)]) H_122 hq (z_at.mk 3 rfl rfl) rfl rfl rfl rfl ?_
        refine r_p hq 1 (pc' := 131) (L' := [(0, .ref 39), (5, .int X5), (6, .int X6)]) (st' := [.int ((59 : Int32)), .ref 129]) rfl ?_
        obtain ⟨o_131, h_131, h⟩ := Option.bind_eq_some_iff.mp h
        refine r_cvR (pc' := 134) (L' := [(0, .ref 39), (5, .int X5), (6, .int X6)]) (Ps := [.int ((59 : Int32))]) (rest := []) hq (z_at.mk 3 rfl rfl) (Or.inl ⟨rfl, rfl⟩) rfl rfl (by decide) (by decide) rfl (Nat.not_lt.mpr (Nat.le_of_ble_eq_true rfl)) rfl rfl (z_cat_le 0 rfl (by decide)) (z_lgl_le 2 rfl (by decide)) (by decide) (H_122.tg rfl) (by omega) (g_jStringBuilder_append_303_ok (rfl : (59 : Int32).toInt = 59) H_122 h_131) rfl rfl ?_
        intro m_131 p_131 e_131 H_131
        refine r_p hq 1 (pc' := 135) (L' := [(0, .ref 39), (5, .int X5), (6, .int X6)]) (st' := []) rfl ?_
        exact g_c_explain_L135_ok ih hx5 hx6 H_131 h
def g_c_explain (x1 : Int) (x2 : Int) (x3 : Int) (x4 : Int) (σ : zS) : Option (Int × zS) :=
  (g_b_isBox x1 x2 x3 x4 σ).bind fun o_5 =>
  if o_5.1 ≠ 0 then
    (g_b_of x1 x2 x3 x4 o_5.2).bind fun o_19 =>
    (g_jStringBuilder_setLength 0 o_19.2).bind fun o_29 =>
    g_c_explain_L35 zK o_19.1 0 o_29.2
  else
    some (-2, o_5.2)
set_option maxHeartbeats 4000000 in
theorem g_c_explain_ok {xl : Nat} {xs : Nat → Int32} {X1 : Int32} {x1 : Int} (hx1 : X1.toInt = x1) {X2 : Int32} {x2 : Int} (hx2 : X2.toInt = x2) {X3 : Int32} {x3 : Int} (hx3 : X3.toInt = x3) {X4 : Int32} {x4 : Int} (hx4 : X4.toInt = x4) {σ : zS} {p : Nat} {m : zM} {o : Int × zS} (H : zRep xl xs p m σ) (h : g_c_explain x1 x2 x3 x4 σ = some o) : zGo xl xs (fun _ => True) 15 130 0 (z_can 130 0 (lv_args 0 [.ref 39, .int X1, .int X2, .int X3, .int X4])) [] m (vI o.1) o.2 := by
  have hq : z_mth 130 = some z_r130 := rfl
  unfold g_c_explain at h
  show zGo xl xs (fun _ => True) 15 130 0 [(0, .ref 39), (1, .int X1), (2, .int X2), (3, .int X3), (4, .int X4)] [] m (vI o.1) o.2
  refine r_p hq 4 (pc' := 5) (L' := [(0, .ref 39), (1, .int X1), (2, .int X2), (3, .int X3), (4, .int X4)]) (st' := [.int X4, .int X3, .int X2, .int X1]) rfl ?_
  obtain ⟨o_5, h_5, h⟩ := Option.bind_eq_some_iff.mp h
  refine r_csI (pc' := 8) (L' := [(0, .ref 39), (1, .int X1), (2, .int X2), (3, .int X3), (4, .int X4)]) (As := [.int X1, .int X2, .int X3, .int X4]) (rest := []) (j := 1) hq (z_at.mk 3 rfl rfl) (Or.inl ⟨rfl, rfl⟩) rfl rfl (by omega) (g_b_isBox_ok hx1 hx2 hx3 hx4 H h_5) rfl rfl ?_
  intro R_5 m_5 p_5 e_5 hR_5 H_5
  subst e_5
  rcases z_ite h with ⟨c_8, h⟩ | ⟨c_8, h⟩
  · refine r_t1 (pc' := 14) (L' := [(0, .ref 39), (1, .int X1), (2, .int X2), (3, .int X3), (4, .int X4)]) hq (z_at.mk 3 rfl rfl) rfl hR_5 c_8 rfl rfl ?_
    refine r_p hq 4 (pc' := 19) (L' := [(0, .ref 39), (1, .int X1), (2, .int X2), (3, .int X3), (4, .int X4)]) (st' := [.int X4, .int X3, .int X2, .int X1]) rfl ?_
    obtain ⟨o_19, h_19, h⟩ := Option.bind_eq_some_iff.mp h
    refine r_csI (pc' := 22) (L' := [(0, .ref 39), (1, .int X1), (2, .int X2), (3, .int X3), (4, .int X4)]) (As := [.int X1, .int X2, .int X3, .int X4]) (rest := []) (j := 2) hq (z_at.mk 3 rfl rfl) (Or.inl ⟨rfl, rfl⟩) rfl rfl (by omega) (g_b_of_ok hx1 hx2 hx3 hx4 H_5 h_19) rfl rfl ?_
    intro R_19 m_19 p_19 e_19 hR_19 H_19
    subst e_19
    refine r_p hq 2 (pc' := 25) (L' := [(5, .int R_19), (0, .ref 39), (1, .int X1), (2, .int X2), (3, .int X3), (4, .int X4)]) (st' := [.ref 39]) rfl ?_
    refine r_gR (b := 129) (pc' := 28) (L' := [(5, .int R_19), (0, .ref 39), (1, .int X1), (2, .int X2), (3, .int X3), (4, .int X4)]) H_19 hq (z_at.mk 3 rfl rfl) rfl rfl rfl rfl ?_
    refine r_p hq 1 (pc' := 29) (L' := [(5, .int R_19), (0, .ref 39), (1, .int X1), (2, .int X2), (3, .int X3), (4, .int X4)]) (st' := [.int ((0 : Int32)), .ref 129]) rfl ?_
    obtain ⟨o_29, h_29, h⟩ := Option.bind_eq_some_iff.mp h
    refine r_cvV (pc' := 32) (L' := [(5, .int R_19), (0, .ref 39), (1, .int X1), (2, .int X2), (3, .int X3), (4, .int X4)]) (Ps := [.int ((0 : Int32))]) (rest := []) hq (z_at.mk 3 rfl rfl) (Or.inl ⟨rfl, rfl⟩) rfl rfl (by decide) (by decide) rfl (Nat.not_lt.mpr (Nat.le_of_ble_eq_true rfl)) rfl rfl (z_cat_le 0 rfl (by decide)) (z_lgl_le 2 rfl (by decide)) (by decide) (H_19.tg rfl) (by omega) (g_jStringBuilder_setLength_ok (rfl : (0 : Int32).toInt = 0) H_19 h_29) rfl rfl ?_
    intro m_29 p_29 e_29 H_29
    refine r_p hq 2 (pc' := 35) (L' := [(0, .ref 39), (5, .int R_19), (6, .int ((0 : Int32)))]) (st' := []) rfl ?_
    exact g_c_explain_L35_ok zK hR_19 (rfl : (0 : Int32).toInt = 0) H_29 h
  · refine r_f1 (pc' := 11) (L' := [(0, .ref 39), (1, .int X1), (2, .int X2), (3, .int X3), (4, .int X4)]) hq (z_at.mk 3 rfl rfl) rfl hR_5 c_8 rfl rfl ?_
    refine r_p hq 1 (pc' := 13) (L' := [(0, .ref 39), (1, .int X1), (2, .int X2), (3, .int X3), (4, .int X4)]) (st' := [.int ((-2 : Int32))]) rfl ?_
    cases h
    exact r_ri hq (z_at.mk 1 rfl rfl) rfl rfl (rfl : (-2 : Int32).toInt = -2) trivial H_5
def g_jAbstractStringBuilder_charAt (x1 : Int) (σ : zS) : Option (Int × zS) :=
  let v_1 := σ 129 1
  let v_11 := σ 129 3
  (g_jMath_min_291 v_11 (iShr (σ 169 0) v_1) σ).bind fun o_18 =>
  if 0 ≤ x1 ∧ x1 < o_18.1 then
  if v_1 ≠ 0 then
    none
  else
    if 0 ≤ x1 ∧ x1 < o_18.2 169 0 then
    let v_35 := o_18.2 168 x1
    if 0 ≤ w16 (iAnd v_35 255) ∧ w16 (iAnd v_35 255) < 65536 then some (w16 (iAnd v_35 255), o_18.2) else none
    else none
  else none
set_option maxHeartbeats 4000000 in
theorem g_jAbstractStringBuilder_charAt_ok {xl : Nat} {xs : Nat → Int32} {X1 : Int32} {x1 : Int} (hx1 : X1.toInt = x1) {σ : zS} {p : Nat} {m : zM} {o : Int × zS} (H : zRep xl xs p m σ) (h : g_jAbstractStringBuilder_charAt x1 σ = some o) : zGo xl xs (fun p' => p = p') 2 277 0 (z_can 277 0 (lv_args 0 [.ref 129, .int X1])) [] m (vI o.1) o.2 := by
  have hq : z_mth 277 = some z_r277 := rfl
  unfold g_jAbstractStringBuilder_charAt at h
  show zGo xl xs (fun p' => p = p') 2 277 0 [(0, .ref 129), (1, .int X1)] [] m (vI o.1) o.2
  refine r_p hq 1 (pc' := 1) (L' := [(0, .ref 129), (1, .int X1)]) (st' := [.ref 129]) rfl ?_
  refine r_gI (pc' := 4) (L' := [(0, .ref 129), (1, .int X1)]) H hq (z_at.mk 3 rfl rfl) rfl rfl rfl rfl ?_
  intro V_1 hV_1
  refine r_p hq 2 (pc' := 6) (L' := [(2, .int V_1), (0, .ref 129), (1, .int X1)]) (st' := [.ref 129]) rfl ?_
  refine r_gP (pc' := 9) (L' := [(2, .int V_1), (0, .ref 129), (1, .int X1)]) H hq (z_at.mk 3 rfl rfl) rfl rfl rfl ?_
  refine r_p hq 2 (pc' := 11) (L' := [(3, .ref p), (2, .int V_1), (0, .ref 129), (1, .int X1)]) (st' := [.ref 129]) rfl ?_
  refine r_gI (pc' := 14) (L' := [(3, .ref p), (2, .int V_1), (0, .ref 129), (1, .int X1)]) H hq (z_at.mk 3 rfl rfl) rfl rfl rfl rfl ?_
  intro V_11 hV_11
  refine r_p hq 1 (pc' := 15) (L' := [(3, .ref p), (2, .int V_1), (0, .ref 129), (1, .int X1)]) (st' := [.ref p, .int V_11]) rfl ?_
  refine r_leP (pc' := 16) (L' := [(3, .ref p), (2, .int V_1), (0, .ref 129), (1, .int X1)]) H hq (z_at.mk 1 rfl rfl) rfl rfl ?_
  intro V_15 hV_15
  refine r_p hq 2 (pc' := 18) (L' := [(3, .ref p), (2, .int V_1), (0, .ref 129), (1, .int X1)]) (st' := [.int (V_15 >>> (V_1 &&& 31)), .int V_11]) rfl ?_
  obtain ⟨o_18, h_18, h⟩ := Option.bind_eq_some_iff.mp h
  refine r_csI (pc' := 21) (L' := [(3, .ref p), (2, .int V_1), (0, .ref 129), (1, .int X1)]) (As := [.int V_11, .int (V_15 >>> (V_1 &&& 31))]) (rest := []) (j := 291) hq (z_at.mk 3 rfl rfl) (Or.inl ⟨rfl, rfl⟩) rfl rfl (by omega) (g_jMath_min_291_ok hV_11 (tx_ishr hV_15 hV_1) H h_18) rfl rfl ?_
  intro R_18 m_18 p_18 e_18 hR_18 H_18
  subst e_18
  refine r_p hq 3 (pc' := 26) (L' := [(4, .int R_18), (3, .ref p), (2, .int V_1), (0, .ref 129), (1, .int X1)]) (st' := [.int R_18, .int X1]) rfl ?_
  obtain ⟨g_26, h⟩ := z_ifo_some h
  refine r_ci (pc' := 29) (L' := [(4, .int R_18), (3, .ref p), (2, .int V_1), (0, .ref 129), (1, .int X1)]) hq (z_at.mk 3 rfl rfl) rfl (z_cat_le 0 rfl (by decide)) hx1 hR_18 g_26 rfl rfl ?_
  refine r_p hq 1 (pc' := 30) (L' := [(4, .int R_18), (3, .ref p), (2, .int V_1), (0, .ref 129), (1, .int X1)]) (st' := [.int V_1]) rfl ?_
  rcases z_ite h with ⟨c_30, h⟩ | ⟨c_30, h⟩
  · refine r_t1 (pc' := 42) (L' := [(4, .int R_18), (3, .ref p), (2, .int V_1), (0, .ref 129), (1, .int X1)]) hq (z_at.mk 3 rfl rfl) rfl hV_1 c_30 rfl rfl ?_
    refine r_p hq 2 (pc' := 44) (L' := [(4, .int R_18), (3, .ref p), (2, .int V_1), (0, .ref 129), (1, .int X1)]) (st' := [.int X1, .ref p]) rfl ?_
    cases h
  · refine r_f1 (pc' := 33) (L' := [(4, .int R_18), (3, .ref p), (2, .int V_1), (0, .ref 129), (1, .int X1)]) hq (z_at.mk 3 rfl rfl) rfl hV_1 c_30 rfl rfl ?_
    refine r_p hq 2 (pc' := 35) (L' := [(4, .int R_18), (3, .ref p), (2, .int V_1), (0, .ref 129), (1, .int X1)]) (st' := [.int X1, .ref p]) rfl ?_
    obtain ⟨g_35, h⟩ := z_ifo_some h
    refine r_baP (pc' := 36) (L' := [(4, .int R_18), (3, .ref p), (2, .int V_1), (0, .ref 129), (1, .int X1)]) H_18 hq (z_at.mk 1 rfl rfl) hx1 g_35 rfl rfl ?_
    intro V_35 hV_35
    refine r_p hq 3 (pc' := 41) (L' := [(4, .int R_18), (3, .ref p), (2, .int V_1), (0, .ref 129), (1, .int X1)]) (st' := [.int (((V_35 &&& ((255 : Int32))).toUInt32 % 65536).toInt32)]) rfl ?_
    obtain ⟨g_41, h⟩ := z_if_some h
    cases h
    exact r_ri hq (z_at.mk 1 rfl rfl) rfl (z_rty_ch (tx_i2c (tx_iand hV_35 (rfl : (255 : Int32).toInt = 255))) g_41) (tx_i2c (tx_iand hV_35 (rfl : (255 : Int32).toInt = 255))) rfl H_18
def g_jStringBuilder_charAt (x1 : Int) (σ : zS) : Option (Int × zS) :=
  (g_jAbstractStringBuilder_charAt x1 σ).bind fun o_2 =>
  if 0 ≤ o_2.1 ∧ o_2.1 < 65536 then some (o_2.1, o_2.2) else none
set_option maxHeartbeats 4000000 in
theorem g_jStringBuilder_charAt_ok {xl : Nat} {xs : Nat → Int32} {X1 : Int32} {x1 : Int} (hx1 : X1.toInt = x1) {σ : zS} {p : Nat} {m : zM} {o : Int × zS} (H : zRep xl xs p m σ) (h : g_jStringBuilder_charAt x1 σ = some o) : zGo xl xs (fun p' => p = p') 3 305 0 (z_can 305 0 (lv_args 0 [.ref 129, .int X1])) [] m (vI o.1) o.2 := by
  have hq : z_mth 305 = some z_r305 := rfl
  unfold g_jStringBuilder_charAt at h
  show zGo xl xs (fun p' => p = p') 3 305 0 [(0, .ref 129), (1, .int X1)] [] m (vI o.1) o.2
  refine r_p hq 2 (pc' := 2) (L' := [(0, .ref 129), (1, .int X1)]) (st' := [.int X1, .ref 129]) rfl ?_
  obtain ⟨o_2, h_2, h⟩ := Option.bind_eq_some_iff.mp h
  refine r_cvI (pc' := 5) (L' := [(0, .ref 129), (1, .int X1)]) (Ps := [.int X1]) (rest := []) hq (z_at.mk 3 rfl rfl) (Or.inr ⟨rfl, rfl, rfl⟩) rfl rfl (by decide) (by decide) rfl (Nat.not_lt.mpr (Nat.le_of_ble_eq_true rfl)) rfl rfl (z_cat_le 0 rfl (by decide)) (z_lgl_le 2 rfl (by decide)) (by decide) (H.tg rfl) (by omega) (g_jAbstractStringBuilder_charAt_ok hx1 H h_2) rfl rfl ?_
  intro R_2 m_2 p_2 e_2 hR_2 H_2
  subst e_2
  obtain ⟨g_5, h⟩ := z_if_some h
  cases h
  exact r_ri hq (z_at.mk 1 rfl rfl) rfl (z_rty_ch hR_2 g_5) hR_2 rfl H_2
def g_c_paper (x1 : Int) (σ : zS) : Option (Int × zS) :=
  if x1 < 0 then
    some (-1, σ)
  else
    (g_jStringBuilder_length σ).bind fun o_9 =>
    if o_9.1 ≤ x1 then
      some (-1, o_9.2)
    else
      (g_jStringBuilder_charAt x1 o_9.2).bind fun o_20 =>
      some (o_20.1, o_20.2)
set_option maxHeartbeats 4000000 in
theorem g_c_paper_ok {xl : Nat} {xs : Nat → Int32} {X1 : Int32} {x1 : Int} (hx1 : X1.toInt = x1) {σ : zS} {p : Nat} {m : zM} {o : Int × zS} (H : zRep xl xs p m σ) (h : g_c_paper x1 σ = some o) : zGo xl xs (fun p' => p = p') 4 132 0 (z_can 132 0 (lv_args 0 [.ref 39, .int X1])) [] m (vI o.1) o.2 := by
  have hq : z_mth 132 = some z_r132 := rfl
  unfold g_c_paper at h
  show zGo xl xs (fun p' => p = p') 4 132 0 [(0, .ref 39), (1, .int X1)] [] m (vI o.1) o.2
  refine r_p hq 1 (pc' := 1) (L' := [(0, .ref 39), (1, .int X1)]) (st' := [.int X1]) rfl ?_
  rcases z_ite h with ⟨c_1, h⟩ | ⟨c_1, h⟩
  · refine r_t1 (pc' := 26) (L' := []) hq (z_at.mk 3 rfl rfl) rfl hx1 c_1 rfl rfl ?_
    refine r_p hq 1 (pc' := 27) (L' := []) (st' := [.int ((-1 : Int32))]) rfl ?_
    cases h
    exact r_ri hq (z_at.mk 1 rfl rfl) rfl rfl (rfl : (-1 : Int32).toInt = -1) rfl H
  · refine r_f1 (pc' := 4) (L' := [(0, .ref 39), (1, .int X1)]) hq (z_at.mk 3 rfl rfl) rfl hx1 c_1 rfl rfl ?_
    refine r_p hq 2 (pc' := 6) (L' := [(0, .ref 39), (1, .int X1)]) (st' := [.ref 39, .int X1]) rfl ?_
    refine r_gR (b := 129) (pc' := 9) (L' := [(0, .ref 39), (1, .int X1)]) H hq (z_at.mk 3 rfl rfl) rfl rfl rfl rfl ?_
    obtain ⟨o_9, h_9, h⟩ := Option.bind_eq_some_iff.mp h
    refine r_cvI (pc' := 12) (L' := [(0, .ref 39), (1, .int X1)]) (Ps := []) (rest := [.int X1]) hq (z_at.mk 3 rfl rfl) (Or.inl ⟨rfl, rfl⟩) rfl rfl (by decide) (by decide) rfl (Nat.not_lt.mpr (Nat.le_of_ble_eq_true rfl)) rfl rfl (z_cat_le 1 rfl (by decide)) (z_lgl_le 1 rfl (by decide)) (by decide) (H.tg rfl) (by omega) (g_jStringBuilder_length_ok H h_9) rfl rfl ?_
    intro R_9 m_9 p_9 e_9 hR_9 H_9
    subst e_9
    rcases z_ite h with ⟨c_12, h⟩ | ⟨c_12, h⟩
    · refine r_t2 (pc' := 26) (L' := []) hq (z_at.mk 3 rfl rfl) rfl hx1 hR_9 c_12 rfl rfl ?_
      refine r_p hq 1 (pc' := 27) (L' := []) (st' := [.int ((-1 : Int32))]) rfl ?_
      cases h
      exact r_ri hq (z_at.mk 1 rfl rfl) rfl rfl (rfl : (-1 : Int32).toInt = -1) rfl H_9
    · refine r_f2 (pc' := 15) (L' := [(0, .ref 39), (1, .int X1)]) hq (z_at.mk 3 rfl rfl) rfl hx1 hR_9 c_12 rfl rfl ?_
      refine r_p hq 1 (pc' := 16) (L' := [(0, .ref 39), (1, .int X1)]) (st' := [.ref 39]) rfl ?_
      refine r_gR (b := 129) (pc' := 19) (L' := [(0, .ref 39), (1, .int X1)]) H_9 hq (z_at.mk 3 rfl rfl) rfl rfl rfl rfl ?_
      refine r_p hq 1 (pc' := 20) (L' := [(0, .ref 39), (1, .int X1)]) (st' := [.int X1, .ref 129]) rfl ?_
      obtain ⟨o_20, h_20, h⟩ := Option.bind_eq_some_iff.mp h
      refine r_cvI (pc' := 23) (L' := [(0, .ref 39), (1, .int X1)]) (Ps := [.int X1]) (rest := []) hq (z_at.mk 3 rfl rfl) (Or.inl ⟨rfl, rfl⟩) rfl rfl (by decide) (by decide) rfl (Nat.not_lt.mpr (Nat.le_of_ble_eq_true rfl)) rfl rfl (z_cat_le 0 rfl (by decide)) (z_lgl_le 2 rfl (by decide)) (by decide) (H_9.tg rfl) (by omega) (g_jStringBuilder_charAt_ok hx1 H_9 h_20) rfl rfl ?_
      intro R_20 m_20 p_20 e_20 hR_20 H_20
      subst e_20
      refine r_p hq 1 (pc' := 27) (L' := []) (st' := [.int R_20]) rfl ?_
      cases h
      exact r_ri hq (z_at.mk 1 rfl rfl) rfl rfl hR_20 rfl H_20
def g_c_query (x1 : Int) (x2 : Int) (x3 : Int) (x4 : Int) (x5 : Int) (σ : zS) : Option (Int × zS) :=
  (g_fi_isMeasure x1 σ).bind fun o_1 =>
  if o_1.1 = 0 then
    some (-9223372036854775808, o_1.2)
  else
    (g_b_isBox x2 x3 x4 x5 o_1.2).bind fun o_13 =>
    if o_13.1 ≠ 0 then
      (g_b_of x2 x3 x4 x5 o_13.2).bind fun o_31 =>
      (g_c_done x1 o_31.1 (-1) o_31.2).bind fun o_37 =>
      some (o_37.1, o_37.2)
    else
      some (-9223372036854775808, o_13.2)
set_option maxHeartbeats 4000000 in
theorem g_c_query_ok {xl : Nat} {xs : Nat → Int32} {X1 : Int32} {x1 : Int} (hx1 : X1.toInt = x1) {X2 : Int32} {x2 : Int} (hx2 : X2.toInt = x2) {X3 : Int32} {x3 : Int} (hx3 : X3.toInt = x3) {X4 : Int32} {x4 : Int} (hx4 : X4.toInt = x4) {X5 : Int32} {x5 : Int} (hx5 : X5.toInt = x5) {σ : zS} {p : Nat} {m : zM} {o : Int × zS} (H : zRep xl xs p m σ) (h : g_c_query x1 x2 x3 x4 x5 σ = some o) : zGo xl xs (fun p' => p = p') 8 133 0 (z_can 133 0 (lv_args 0 [.ref 39, .int X1, .int X2, .int X3, .int X4, .int X5])) [] m (vL o.1) o.2 := by
  have hq : z_mth 133 = some z_r133 := rfl
  unfold g_c_query at h
  show zGo xl xs (fun p' => p = p') 8 133 0 [(0, .ref 39), (1, .int X1), (2, .int X2), (3, .int X3), (4, .int X4), (5, .int X5)] [] m (vL o.1) o.2
  refine r_p hq 1 (pc' := 1) (L' := [(0, .ref 39), (1, .int X1), (2, .int X2), (3, .int X3), (4, .int X4), (5, .int X5)]) (st' := [.int X1]) rfl ?_
  obtain ⟨o_1, h_1, h⟩ := Option.bind_eq_some_iff.mp h
  refine r_csI (pc' := 4) (L' := [(0, .ref 39), (1, .int X1), (2, .int X2), (3, .int X3), (4, .int X4), (5, .int X5)]) (As := [.int X1]) (rest := []) (j := 46) hq (z_at.mk 3 rfl rfl) (Or.inl ⟨rfl, rfl⟩) rfl rfl (by omega) (g_fi_isMeasure_ok hx1 H h_1) rfl rfl ?_
  intro R_1 m_1 p_1 e_1 hR_1 H_1
  subst e_1
  rcases z_ite h with ⟨c_4, h⟩ | ⟨c_4, h⟩
  · refine r_t1 (pc' := 19) (L' := []) hq (z_at.mk 3 rfl rfl) rfl hR_1 c_4 rfl rfl ?_
    refine r_p hq 1 (pc' := 22) (L' := []) (st' := [.long ((-9223372036854775808 : Int64))]) rfl ?_
    cases h
    exact r_rl hq (z_at.mk 1 rfl rfl) rfl (rfl : (-9223372036854775808 : Int64).toInt = -9223372036854775808) rfl H_1
  · refine r_f1 (pc' := 7) (L' := [(0, .ref 39), (1, .int X1), (2, .int X2), (3, .int X3), (4, .int X4), (5, .int X5)]) hq (z_at.mk 3 rfl rfl) rfl hR_1 c_4 rfl rfl ?_
    refine r_p hq 4 (pc' := 13) (L' := [(0, .ref 39), (1, .int X1), (2, .int X2), (3, .int X3), (4, .int X4), (5, .int X5)]) (st' := [.int X5, .int X4, .int X3, .int X2]) rfl ?_
    obtain ⟨o_13, h_13, h⟩ := Option.bind_eq_some_iff.mp h
    refine r_csI (pc' := 16) (L' := [(0, .ref 39), (1, .int X1), (2, .int X2), (3, .int X3), (4, .int X4), (5, .int X5)]) (As := [.int X2, .int X3, .int X4, .int X5]) (rest := []) (j := 1) hq (z_at.mk 3 rfl rfl) (Or.inl ⟨rfl, rfl⟩) rfl rfl (by omega) (g_b_isBox_ok hx2 hx3 hx4 hx5 H_1 h_13) rfl rfl ?_
    intro R_13 m_13 p_13 e_13 hR_13 H_13
    subst e_13
    rcases z_ite h with ⟨c_16, h⟩ | ⟨c_16, h⟩
    · refine r_t1 (pc' := 23) (L' := [(0, .ref 39), (1, .int X1), (2, .int X2), (3, .int X3), (4, .int X4), (5, .int X5)]) hq (z_at.mk 3 rfl rfl) rfl hR_13 c_16 rfl rfl ?_
      refine r_p hq 6 (pc' := 31) (L' := [(0, .ref 39), (1, .int X1), (2, .int X2), (3, .int X3), (4, .int X4), (5, .int X5)]) (st' := [.int X5, .int X4, .int X3, .int X2, .int X1, .ref 39]) rfl ?_
      obtain ⟨o_31, h_31, h⟩ := Option.bind_eq_some_iff.mp h
      refine r_csI (pc' := 34) (L' := [(0, .ref 39), (1, .int X1), (2, .int X2), (3, .int X3), (4, .int X4), (5, .int X5)]) (As := [.int X2, .int X3, .int X4, .int X5]) (rest := [.int X1, .ref 39]) (j := 2) hq (z_at.mk 3 rfl rfl) (Or.inl ⟨rfl, rfl⟩) rfl rfl (by omega) (g_b_of_ok hx2 hx3 hx4 hx5 H_13 h_31) rfl rfl ?_
      intro R_31 m_31 p_31 e_31 hR_31 H_31
      subst e_31
      refine r_p hq 1 (pc' := 37) (L' := [(0, .ref 39), (1, .int X1), (2, .int X2), (3, .int X3), (4, .int X4), (5, .int X5)]) (st' := [.long ((-1 : Int64)), .int R_31, .int X1, .ref 39]) rfl ?_
      obtain ⟨o_37, h_37, h⟩ := Option.bind_eq_some_iff.mp h
      refine r_cvL (pc' := 40) (L' := [(0, .ref 39), (1, .int X1), (2, .int X2), (3, .int X3), (4, .int X4), (5, .int X5)]) (Ps := [.int X1, .int R_31, .long ((-1 : Int64))]) (rest := []) hq (z_at.mk 3 rfl rfl) (Or.inl ⟨rfl, rfl⟩) rfl rfl (by decide) (by decide) rfl (Nat.not_lt.mpr (Nat.le_of_ble_eq_true rfl)) rfl rfl (z_cat_le 0 rfl (by decide)) (z_lgl_le 5 rfl (by decide)) (by decide) (H_31.tg rfl) (by omega) (g_c_done_ok hx1 hR_31 (rfl : (-1 : Int64).toInt = -1) H_31 h_37) rfl rfl ?_
      intro R_37 m_37 p_37 e_37 hR_37 H_37
      subst e_37
      cases h
      exact r_rl hq (z_at.mk 1 rfl rfl) rfl hR_37 rfl H_37
    · refine r_f1 (pc' := 19) (L' := []) hq (z_at.mk 3 rfl rfl) rfl hR_13 c_16 rfl rfl ?_
      refine r_p hq 1 (pc' := 22) (L' := []) (st' := [.long ((-9223372036854775808 : Int64))]) rfl ?_
      cases h
      exact r_rl hq (z_at.mk 1 rfl rfl) rfl (rfl : (-9223372036854775808 : Int64).toInt = -9223372036854775808) rfl H_13
def g_c_find (x1 : Int) (σ : zS) : Option (Int × zS) :=
  if x1 ≠ -1 then
    if x1 < 0 then
      some (-1, σ)
    else
      let v_28 := σ 60 2
      if v_28 ≤ x1 then
        some (-1, σ)
      else
        if 0 ≤ x1 ∧ x1 < 60 then
        let v_45 := σ 61 x1
        some (v_45, σ)
        else none
  else
    let v_12 := σ 60 2
    some (v_12, σ)
set_option maxHeartbeats 4000000 in
theorem g_c_find_ok {xl : Nat} {xs : Nat → Int32} {X1 : Int32} {x1 : Int} (hx1 : X1.toInt = x1) {σ : zS} {p : Nat} {m : zM} {o : Int × zS} (H : zRep xl xs p m σ) (h : g_c_find x1 σ = some o) : zGo xl xs (fun p' => p = p') 1 134 0 (z_can 134 0 (lv_args 0 [.ref 39, .int X1])) [] m (vI o.1) o.2 := by
  have hq : z_mth 134 = some z_r134 := rfl
  unfold g_c_find at h
  show zGo xl xs (fun p' => p = p') 1 134 0 [(0, .ref 39), (1, .int X1)] [] m (vI o.1) o.2
  refine r_p hq 2 (pc' := 2) (L' := [(0, .ref 39), (1, .int X1)]) (st' := [.int ((-1 : Int32)), .int X1]) rfl ?_
  rcases z_ite h with ⟨c_2, h⟩ | ⟨c_2, h⟩
  · refine r_t2 (pc' := 16) (L' := [(0, .ref 39), (1, .int X1)]) hq (z_at.mk 3 rfl rfl) rfl hx1 (rfl : (-1 : Int32).toInt = -1) c_2 rfl rfl ?_
    refine r_p hq 1 (pc' := 17) (L' := [(0, .ref 39), (1, .int X1)]) (st' := [.int X1]) rfl ?_
    rcases z_ite h with ⟨c_17, h⟩ | ⟨c_17, h⟩
    · refine r_t1 (pc' := 49) (L' := []) hq (z_at.mk 3 rfl rfl) rfl hx1 c_17 rfl rfl ?_
      refine r_p hq 1 (pc' := 50) (L' := []) (st' := [.int ((-1 : Int32))]) rfl ?_
      cases h
      exact r_ri hq (z_at.mk 1 rfl rfl) rfl rfl (rfl : (-1 : Int32).toInt = -1) rfl H
    · refine r_f1 (pc' := 20) (L' := [(0, .ref 39), (1, .int X1)]) hq (z_at.mk 3 rfl rfl) rfl hx1 c_17 rfl rfl ?_
      refine r_p hq 2 (pc' := 22) (L' := [(0, .ref 39), (1, .int X1)]) (st' := [.ref 39, .int X1]) rfl ?_
      refine r_gR (b := 40) (pc' := 25) (L' := [(0, .ref 39), (1, .int X1)]) H hq (z_at.mk 3 rfl rfl) rfl rfl rfl rfl ?_
      refine r_gR (b := 60) (pc' := 28) (L' := [(0, .ref 39), (1, .int X1)]) H hq (z_at.mk 3 rfl rfl) rfl rfl rfl rfl ?_
      refine r_gI (pc' := 31) (L' := [(0, .ref 39), (1, .int X1)]) H hq (z_at.mk 3 rfl rfl) rfl rfl rfl rfl ?_
      intro V_28 hV_28
      rcases z_ite h with ⟨c_31, h⟩ | ⟨c_31, h⟩
      · refine r_t2 (pc' := 49) (L' := []) hq (z_at.mk 3 rfl rfl) rfl hx1 hV_28 c_31 rfl rfl ?_
        refine r_p hq 1 (pc' := 50) (L' := []) (st' := [.int ((-1 : Int32))]) rfl ?_
        cases h
        exact r_ri hq (z_at.mk 1 rfl rfl) rfl rfl (rfl : (-1 : Int32).toInt = -1) rfl H
      · refine r_f2 (pc' := 34) (L' := [(0, .ref 39), (1, .int X1)]) hq (z_at.mk 3 rfl rfl) rfl hx1 hV_28 c_31 rfl rfl ?_
        refine r_p hq 1 (pc' := 35) (L' := [(0, .ref 39), (1, .int X1)]) (st' := [.ref 39]) rfl ?_
        refine r_gR (b := 40) (pc' := 38) (L' := [(0, .ref 39), (1, .int X1)]) H hq (z_at.mk 3 rfl rfl) rfl rfl rfl rfl ?_
        refine r_gR (b := 60) (pc' := 41) (L' := [(0, .ref 39), (1, .int X1)]) H hq (z_at.mk 3 rfl rfl) rfl rfl rfl rfl ?_
        refine r_gR (b := 61) (pc' := 44) (L' := [(0, .ref 39), (1, .int X1)]) H hq (z_at.mk 3 rfl rfl) rfl rfl rfl rfl ?_
        refine r_p hq 1 (pc' := 45) (L' := [(0, .ref 39), (1, .int X1)]) (st' := [.int X1, .ref 61]) rfl ?_
        obtain ⟨g_45, h⟩ := z_ifo_some h
        refine r_ia (pc' := 46) (L' := [(0, .ref 39), (1, .int X1)]) H hq (z_at.mk 1 rfl rfl) (show zAr 61 0 60 = true from rfl) hx1 g_45 rfl rfl ?_
        intro V_45 hV_45
        refine r_p hq 1 (pc' := 50) (L' := []) (st' := [.int V_45]) rfl ?_
        cases h
        exact r_ri hq (z_at.mk 1 rfl rfl) rfl rfl hV_45 rfl H
  · refine r_f2 (pc' := 5) (L' := [(0, .ref 39), (1, .int X1)]) hq (z_at.mk 3 rfl rfl) rfl hx1 (rfl : (-1 : Int32).toInt = -1) c_2 rfl rfl ?_
    refine r_p hq 1 (pc' := 6) (L' := [(0, .ref 39), (1, .int X1)]) (st' := [.ref 39]) rfl ?_
    refine r_gR (b := 40) (pc' := 9) (L' := [(0, .ref 39), (1, .int X1)]) H hq (z_at.mk 3 rfl rfl) rfl rfl rfl rfl ?_
    refine r_gR (b := 60) (pc' := 12) (L' := [(0, .ref 39), (1, .int X1)]) H hq (z_at.mk 3 rfl rfl) rfl rfl rfl rfl ?_
    refine r_gI (pc' := 15) (L' := [(0, .ref 39), (1, .int X1)]) H hq (z_at.mk 3 rfl rfl) rfl rfl rfl rfl ?_
    intro V_12 hV_12
    cases h
    exact r_ri hq (z_at.mk 1 rfl rfl) rfl rfl hV_12 rfl H
def g_c_addPiece_L28 (x1 : Int) (σ : zS) : Option (Unit × zS) :=
  (g_bs_add 131 x1 σ).bind fun o_33 =>
  some ((), o_33.2)
set_option maxHeartbeats 4000000 in
theorem g_c_addPiece_L28_ok {xl : Nat} {xs : Nat → Int32} {X1 : Int32} {x1 : Int} (hx1 : X1.toInt = x1) {σ : zS} {p : Nat} {m : zM} {o : Unit × zS} (H : zRep xl xs p m σ) (h : g_c_addPiece_L28 x1 σ = some o) : zGo xl xs (fun p' => p = p') 2 136 28 [(0, .ref 39), (1, .int X1)] [] m vV o.2 := by
  have hq : z_mth 136 = some z_r136 := rfl
  unfold g_c_addPiece_L28 at h
  refine r_p hq 1 (pc' := 29) (L' := [(0, .ref 39), (1, .int X1)]) (st' := [.ref 39]) rfl ?_
  refine r_gR (b := 131) (pc' := 32) (L' := [(0, .ref 39), (1, .int X1)]) H hq (z_at.mk 3 rfl rfl) rfl rfl rfl rfl ?_
  refine r_p hq 1 (pc' := 33) (L' := [(0, .ref 39), (1, .int X1)]) (st' := [.int X1, .ref 131]) rfl ?_
  obtain ⟨o_33, h_33, h⟩ := Option.bind_eq_some_iff.mp h
  refine r_cvI (pc' := 36) (L' := [(0, .ref 39), (1, .int X1)]) (Ps := [.int X1]) (rest := []) hq (z_at.mk 3 rfl rfl) (Or.inl ⟨rfl, rfl⟩) rfl rfl (by decide) (by decide) rfl (Nat.not_lt.mpr (Nat.le_of_ble_eq_true rfl)) rfl rfl (z_cat_le 0 rfl (by decide)) (z_lgl_le 2 rfl (by decide)) (by decide) (H.tg rfl) (by omega) (g_bs_add_ok rfl hx1 H h_33) rfl rfl ?_
  intro R_33 m_33 p_33 e_33 hR_33 H_33
  subst e_33
  refine r_p hq 1 (pc' := 37) (L' := [(0, .ref 39), (1, .int X1)]) (st' := []) rfl ?_
  cases h
  exact r_rv hq (z_at.mk 1 rfl rfl) rfl rfl H_33
def g_c_addPiece (x1 : Int) (x2 : Int) (σ : zS) : Option (Unit × zS) :=
  let v_4 := σ 131 1
  if 181 ≤ v_4 then
    g_c_addPiece_L28 x1 σ
  else
    let v_23 := σ 131 1
    if 0 ≤ v_23 ∧ v_23 < 181 then
    let s_27 := zu σ 133 v_23 x2
    g_c_addPiece_L28 x1 s_27
    else none
set_option maxHeartbeats 4000000 in
theorem g_c_addPiece_ok {xl : Nat} {xs : Nat → Int32} {X1 : Int32} {x1 : Int} (hx1 : X1.toInt = x1) {X2 : Int32} {x2 : Int} (hx2 : X2.toInt = x2) {σ : zS} {p : Nat} {m : zM} {o : Unit × zS} (H : zRep xl xs p m σ) (h : g_c_addPiece x1 x2 σ = some o) : zGo xl xs (fun p' => p = p') 2 136 0 (z_can 136 0 (lv_args 0 [.ref 39, .int X1, .int X2])) [] m vV o.2 := by
  have hq : z_mth 136 = some z_r136 := rfl
  unfold g_c_addPiece at h
  show zGo xl xs (fun p' => p = p') 2 136 0 [(0, .ref 39), (1, .int X1), (2, .int X2)] [] m vV o.2
  refine r_p hq 1 (pc' := 1) (L' := [(0, .ref 39), (1, .int X1), (2, .int X2)]) (st' := [.ref 39]) rfl ?_
  refine r_gR (b := 131) (pc' := 4) (L' := [(0, .ref 39), (1, .int X1), (2, .int X2)]) H hq (z_at.mk 3 rfl rfl) rfl rfl rfl rfl ?_
  refine r_gI (pc' := 7) (L' := [(0, .ref 39), (1, .int X1), (2, .int X2)]) H hq (z_at.mk 3 rfl rfl) rfl rfl rfl rfl ?_
  intro V_4 hV_4
  refine r_p hq 1 (pc' := 8) (L' := [(0, .ref 39), (1, .int X1), (2, .int X2)]) (st' := [.ref 39, .int V_4]) rfl ?_
  refine r_gR (b := 133) (pc' := 11) (L' := [(0, .ref 39), (1, .int X1), (2, .int X2)]) H hq (z_at.mk 3 rfl rfl) rfl rfl rfl rfl ?_
  refine r_le (pc' := 12) (L' := [(0, .ref 39), (1, .int X1), (2, .int X2)]) H hq (z_at.mk 1 rfl rfl) (show zAr 133 0 181 = true from rfl) rfl rfl rfl ?_
  intro V_11 hV_11
  rcases z_ite h with ⟨c_12, h⟩ | ⟨c_12, h⟩
  · refine r_t2 (pc' := 28) (L' := [(0, .ref 39), (1, .int X1)]) hq (z_at.mk 3 rfl rfl) rfl hV_4 hV_11 c_12 rfl rfl ?_
    exact g_c_addPiece_L28_ok hx1 H h
  · refine r_f2 (pc' := 15) (L' := [(0, .ref 39), (1, .int X1), (2, .int X2)]) hq (z_at.mk 3 rfl rfl) rfl hV_4 hV_11 c_12 rfl rfl ?_
    refine r_p hq 1 (pc' := 16) (L' := [(0, .ref 39), (1, .int X1), (2, .int X2)]) (st' := [.ref 39]) rfl ?_
    refine r_gR (b := 133) (pc' := 19) (L' := [(0, .ref 39), (1, .int X1), (2, .int X2)]) H hq (z_at.mk 3 rfl rfl) rfl rfl rfl rfl ?_
    refine r_p hq 1 (pc' := 20) (L' := [(0, .ref 39), (1, .int X1), (2, .int X2)]) (st' := [.ref 39, .ref 133]) rfl ?_
    refine r_gR (b := 131) (pc' := 23) (L' := [(0, .ref 39), (1, .int X1), (2, .int X2)]) H hq (z_at.mk 3 rfl rfl) rfl rfl rfl rfl ?_
    refine r_gI (pc' := 26) (L' := [(0, .ref 39), (1, .int X1), (2, .int X2)]) H hq (z_at.mk 3 rfl rfl) rfl rfl rfl rfl ?_
    intro V_23 hV_23
    refine r_p hq 1 (pc' := 27) (L' := [(0, .ref 39), (1, .int X1), (2, .int X2)]) (st' := [.int X2, .int V_23, .ref 133]) rfl ?_
    obtain ⟨g_27, h⟩ := z_ifo_some h
    refine r_is (pc' := 28) (L' := [(0, .ref 39), (1, .int X1)]) H hq (z_at.mk 1 rfl rfl) (show zAr 133 0 181 = true from rfl) hV_23 g_27 hx2 rfl rfl ?_
    intro m_27 H_27
    exact g_c_addPiece_L28_ok hx1 H_27 h
def g_c_probe_L129 : Nat → Int → zS → Option (Int × zS)
  | 0, _, _ => none
  | n + 1, x7, σ =>
    let v_133 := σ 56 1
    if v_133 ≤ x7 then
      let v_162 := σ 131 1
      some (v_162, σ)
    else
      (g_bs_at 56 x7 σ).bind fun o_144 =>
      (g_c_addPiece o_144.1 (-5) o_144.2).bind fun o_149 =>
      (g_c_probe_L129 n) (w32 (x7 + 1)) o_149.2
set_option maxHeartbeats 4000000 in
theorem g_c_probe_L129_ok {xl : Nat} {xs : Nat → Int32} : ∀ (n : Nat) {X7 : Int32} {x7 : Int} {σ : zS} {p : Nat} {m : zM} {o : Int × zS}, X7.toInt = x7 → zRep xl xs p m σ → g_c_probe_L129 n x7 σ = some o → zGo xl xs (fun p' => p = p') 6 135 129 [(0, .ref 39), (6, .ref 56), (7, .int X7)] [] m (vI o.1) o.2
  | 0, _, _, _, _, _, _, _, _, h => by cases h
  | n + 1, X7, x7, σ, p, m, o, hx7, H, h => by
    have hq : z_mth 135 = some z_r135 := rfl
    have ih := fun {X7 : Int32} {x7 : Int} {σ : zS} {p : Nat} {m : zM} {o : Int × zS} => g_c_probe_L129_ok (xl := xl) (xs := xs) n (X7 := X7) (x7 := x7) (σ := σ) (p := p) (m := m) (o := o)
    unfold g_c_probe_L129 at h
    refine r_p hq 2 (pc' := 133) (L' := [(0, .ref 39), (6, .ref 56), (7, .int X7)]) (st' := [.ref 56, .int X7]) rfl ?_
    refine r_gI (pc' := 136) (L' := [(0, .ref 39), (6, .ref 56), (7, .int X7)]) H hq (z_at.mk 3 rfl rfl) rfl rfl rfl rfl ?_
    intro V_133 hV_133
    rcases z_ite h with ⟨c_136, h⟩ | ⟨c_136, h⟩
    · refine r_t2 (pc' := 158) (L' := [(0, .ref 39), (6, .ref 56), (7, .int X7)]) hq (z_at.mk 3 rfl rfl) rfl hx7 hV_133 c_136 rfl rfl ?_
      refine r_p hq 1 (pc' := 159) (L' := [(0, .ref 39), (6, .ref 56), (7, .int X7)]) (st' := [.ref 39]) rfl ?_
      refine r_gR (b := 131) (pc' := 162) (L' := [(0, .ref 39), (6, .ref 56), (7, .int X7)]) H hq (z_at.mk 3 rfl rfl) rfl rfl rfl rfl ?_
      refine r_gI (pc' := 165) (L' := [(0, .ref 39), (6, .ref 56), (7, .int X7)]) H hq (z_at.mk 3 rfl rfl) rfl rfl rfl rfl ?_
      intro V_162 hV_162
      cases h
      exact r_ri hq (z_at.mk 1 rfl rfl) rfl rfl hV_162 rfl H
    · refine r_f2 (pc' := 139) (L' := [(0, .ref 39), (6, .ref 56), (7, .int X7)]) hq (z_at.mk 3 rfl rfl) rfl hx7 hV_133 c_136 rfl rfl ?_
      refine r_p hq 3 (pc' := 144) (L' := [(0, .ref 39), (6, .ref 56), (7, .int X7)]) (st' := [.int X7, .ref 56, .ref 39]) rfl ?_
      obtain ⟨o_144, h_144, h⟩ := Option.bind_eq_some_iff.mp h
      refine r_cvI (pc' := 147) (L' := [(0, .ref 39), (6, .ref 56), (7, .int X7)]) (Ps := [.int X7]) (rest := [.ref 39]) hq (z_at.mk 3 rfl rfl) (Or.inl ⟨rfl, rfl⟩) rfl rfl (by decide) (by decide) rfl (Nat.not_lt.mpr (Nat.le_of_ble_eq_true rfl)) rfl rfl (z_cat_le 1 rfl (by decide)) (z_lgl_le 2 rfl (by decide)) (by decide) (H.tg rfl) (by omega) (g_bs_at_ok rfl hx7 H h_144) rfl rfl ?_
      intro R_144 m_144 p_144 e_144 hR_144 H_144
      subst e_144
      refine r_p hq 1 (pc' := 149) (L' := [(0, .ref 39), (6, .ref 56), (7, .int X7)]) (st' := [.int ((-5 : Int32)), .int R_144, .ref 39]) rfl ?_
      obtain ⟨o_149, h_149, h⟩ := Option.bind_eq_some_iff.mp h
      refine r_cvV (pc' := 152) (L' := [(0, .ref 39), (6, .ref 56), (7, .int X7)]) (Ps := [.int R_144, .int ((-5 : Int32))]) (rest := []) hq (z_at.mk 3 rfl rfl) (Or.inl ⟨rfl, rfl⟩) rfl rfl (by decide) (by decide) rfl (Nat.not_lt.mpr (Nat.le_of_ble_eq_true rfl)) rfl rfl (z_cat_le 0 rfl (by decide)) (z_lgl_le 3 rfl (by decide)) (by decide) (H_144.tg rfl) (by omega) (g_c_addPiece_ok hR_144 (rfl : (-5 : Int32).toInt = -5) H_144 h_149) rfl rfl ?_
      intro m_149 p_149 e_149 H_149
      subst e_149
      refine r_p hq 2 (pc' := 129) (L' := [(0, .ref 39), (6, .ref 56), (7, .int (X7 + (1 : Int32)))]) (st' := []) rfl ?_
      exact ih (tx_iadd hx7 (rfl : (1 : Int32).toInt = 1)) H_149 h
def g_c_probe_L106 (g35 : Int → Int → zS → Option (Int × zS)) (x5 : Int) (x6 : Int) (σ : zS) : Option (Int × zS) :=
  g35 x5 (w32 (x6 + 1)) σ
set_option maxHeartbeats 4000000 in
theorem g_c_probe_L106_ok {xl : Nat} {xs : Nat → Int32} {g35 : Int → Int → zS → Option (Int × zS)} (hg35 : ∀ {X5 : Int32} {x5 : Int} {X6 : Int32} {x6 : Int} {σ : zS} {p : Nat} {m : zM} {o : Int × zS}, X5.toInt = x5 → X6.toInt = x6 → zRep xl xs p m σ → g35 x5 x6 σ = some o → zGo xl xs (fun p' => p = p') 6 135 35 [(0, .ref 39), (5, .int X5), (6, .int X6)] [] m (vI o.1) o.2) {X5 : Int32} {x5 : Int} (hx5 : X5.toInt = x5) {X6 : Int32} {x6 : Int} (hx6 : X6.toInt = x6) {σ : zS} {p : Nat} {m : zM} {o : Int × zS} (H : zRep xl xs p m σ) (h : g_c_probe_L106 g35 x5 x6 σ = some o) : zGo xl xs (fun p' => p = p') 6 135 106 [(0, .ref 39), (5, .int X5), (6, .int X6)] [] m (vI o.1) o.2 := by
  have hq : z_mth 135 = some z_r135 := rfl
  unfold g_c_probe_L106 at h
  refine r_p hq 2 (pc' := 35) (L' := [(0, .ref 39), (5, .int X5), (6, .int (X6 + (1 : Int32)))]) (st' := []) rfl ?_
  exact hg35 hx5 (tx_iadd hx6 (rfl : (1 : Int32).toInt = 1)) H h
def g_c_probe_L35 : Nat → Int → Int → zS → Option (Int × zS)
  | 0, _, _, _ => none
  | n + 1, x5, x6, σ =>
    let v_44 := σ 48 2
    if v_44 ≤ x6 then
      (g_ca_missingOf 48 x5 σ).bind fun o_121 =>
      g_c_probe_L129 zK 0 o_121.2
    else
      if 0 ≤ x6 ∧ x6 < 181 then
      let v_62 := σ 52 x6
      (g_b_meet v_62 x5 σ).bind fun o_65 =>
      if o_65.1 = 0 then
        g_c_probe_L106 ((g_c_probe_L35 n)) x5 x6 o_65.2
      else
        if 0 ≤ x6 ∧ x6 < 181 then
        let v_84 := o_65.2 52 x6
        (g_b_common v_84 x5 o_65.2).bind fun o_87 =>
        if 0 ≤ x6 ∧ x6 < 181 then
        let v_102 := o_87.2 51 x6
        (g_c_addPiece o_87.1 v_102 o_87.2).bind fun o_103 =>
        g_c_probe_L106 ((g_c_probe_L35 n)) x5 x6 o_103.2
        else none
        else none
      else none
set_option maxHeartbeats 4000000 in
theorem g_c_probe_L35_ok {xl : Nat} {xs : Nat → Int32} : ∀ (n : Nat) {X5 : Int32} {x5 : Int} {X6 : Int32} {x6 : Int} {σ : zS} {p : Nat} {m : zM} {o : Int × zS}, X5.toInt = x5 → X6.toInt = x6 → zRep xl xs p m σ → g_c_probe_L35 n x5 x6 σ = some o → zGo xl xs (fun p' => p = p') 6 135 35 [(0, .ref 39), (5, .int X5), (6, .int X6)] [] m (vI o.1) o.2
  | 0, _, _, _, _, _, _, _, _, _, _, _, h => by cases h
  | n + 1, X5, x5, X6, x6, σ, p, m, o, hx5, hx6, H, h => by
    have hq : z_mth 135 = some z_r135 := rfl
    have ih := fun {X5 : Int32} {x5 : Int} {X6 : Int32} {x6 : Int} {σ : zS} {p : Nat} {m : zM} {o : Int × zS} => g_c_probe_L35_ok (xl := xl) (xs := xs) n (X5 := X5) (x5 := x5) (X6 := X6) (x6 := x6) (σ := σ) (p := p) (m := m) (o := o)
    unfold g_c_probe_L35 at h
    refine r_p hq 2 (pc' := 38) (L' := [(0, .ref 39), (5, .int X5), (6, .int X6)]) (st' := [.ref 39, .int X6]) rfl ?_
    refine r_gR (b := 40) (pc' := 41) (L' := [(0, .ref 39), (5, .int X5), (6, .int X6)]) H hq (z_at.mk 3 rfl rfl) rfl rfl rfl rfl ?_
    refine r_gR (b := 48) (pc' := 44) (L' := [(0, .ref 39), (5, .int X5), (6, .int X6)]) H hq (z_at.mk 3 rfl rfl) rfl rfl rfl rfl ?_
    refine r_gI (pc' := 47) (L' := [(0, .ref 39), (5, .int X5), (6, .int X6)]) H hq (z_at.mk 3 rfl rfl) rfl rfl rfl rfl ?_
    intro V_44 hV_44
    rcases z_ite h with ⟨c_47, h⟩ | ⟨c_47, h⟩
    · refine r_t2 (pc' := 112) (L' := [(0, .ref 39), (5, .int X5), (6, .int X6)]) hq (z_at.mk 3 rfl rfl) rfl hx6 hV_44 c_47 rfl rfl ?_
      refine r_p hq 1 (pc' := 113) (L' := [(0, .ref 39), (5, .int X5), (6, .int X6)]) (st' := [.ref 39]) rfl ?_
      refine r_gR (b := 40) (pc' := 116) (L' := [(0, .ref 39), (5, .int X5), (6, .int X6)]) H hq (z_at.mk 3 rfl rfl) rfl rfl rfl rfl ?_
      refine r_gR (b := 48) (pc' := 119) (L' := [(0, .ref 39), (5, .int X5), (6, .int X6)]) H hq (z_at.mk 3 rfl rfl) rfl rfl rfl rfl ?_
      refine r_p hq 1 (pc' := 121) (L' := [(0, .ref 39), (5, .int X5), (6, .int X6)]) (st' := [.int X5, .ref 48]) rfl ?_
      obtain ⟨o_121, h_121, h⟩ := Option.bind_eq_some_iff.mp h
      refine r_cvR (pc' := 124) (L' := [(0, .ref 39), (5, .int X5), (6, .int X6)]) (Ps := [.int X5]) (rest := []) hq (z_at.mk 3 rfl rfl) (Or.inl ⟨rfl, rfl⟩) rfl rfl (by decide) (by decide) rfl (Nat.not_lt.mpr (Nat.le_of_ble_eq_true rfl)) rfl rfl (z_cat_le 0 rfl (by decide)) (z_lgl_le 2 rfl (by decide)) (by decide) (H.tg rfl) (by omega) (g_ca_missingOf_ok rfl hx5 H h_121) rfl rfl ?_
      intro m_121 p_121 e_121 H_121
      subst e_121
      refine r_p hq 3 (pc' := 129) (L' := [(0, .ref 39), (6, .ref 56), (7, .int ((0 : Int32)))]) (st' := []) rfl ?_
      exact g_c_probe_L129_ok zK (rfl : (0 : Int32).toInt = 0) H_121 h
    · refine r_f2 (pc' := 50) (L' := [(0, .ref 39), (5, .int X5), (6, .int X6)]) hq (z_at.mk 3 rfl rfl) rfl hx6 hV_44 c_47 rfl rfl ?_
      refine r_p hq 1 (pc' := 51) (L' := [(0, .ref 39), (5, .int X5), (6, .int X6)]) (st' := [.ref 39]) rfl ?_
      refine r_gR (b := 40) (pc' := 54) (L' := [(0, .ref 39), (5, .int X5), (6, .int X6)]) H hq (z_at.mk 3 rfl rfl) rfl rfl rfl rfl ?_
      refine r_gR (b := 48) (pc' := 57) (L' := [(0, .ref 39), (5, .int X5), (6, .int X6)]) H hq (z_at.mk 3 rfl rfl) rfl rfl rfl rfl ?_
      refine r_gR (b := 52) (pc' := 60) (L' := [(0, .ref 39), (5, .int X5), (6, .int X6)]) H hq (z_at.mk 3 rfl rfl) rfl rfl rfl rfl ?_
      refine r_p hq 1 (pc' := 62) (L' := [(0, .ref 39), (5, .int X5), (6, .int X6)]) (st' := [.int X6, .ref 52]) rfl ?_
      obtain ⟨g_62, h⟩ := z_ifo_some h
      refine r_ia (pc' := 63) (L' := [(0, .ref 39), (5, .int X5), (6, .int X6)]) H hq (z_at.mk 1 rfl rfl) (show zAr 52 0 181 = true from rfl) hx6 g_62 rfl rfl ?_
      intro V_62 hV_62
      refine r_p hq 1 (pc' := 65) (L' := [(0, .ref 39), (5, .int X5), (6, .int X6)]) (st' := [.int X5, .int V_62]) rfl ?_
      obtain ⟨o_65, h_65, h⟩ := Option.bind_eq_some_iff.mp h
      refine r_csI (pc' := 68) (L' := [(0, .ref 39), (5, .int X5), (6, .int X6)]) (As := [.int V_62, .int X5]) (rest := []) (j := 9) hq (z_at.mk 3 rfl rfl) (Or.inl ⟨rfl, rfl⟩) rfl rfl (by omega) (g_b_meet_ok hV_62 hx5 H h_65) rfl rfl ?_
      intro R_65 m_65 p_65 e_65 hR_65 H_65
      subst e_65
      rcases z_ite h with ⟨c_68, h⟩ | ⟨c_68, h⟩
      · refine r_t1 (pc' := 106) (L' := [(0, .ref 39), (5, .int X5), (6, .int X6)]) hq (z_at.mk 3 rfl rfl) rfl hR_65 c_68 rfl rfl ?_
        exact g_c_probe_L106_ok ih hx5 hx6 H_65 h
      · refine r_f1 (pc' := 71) (L' := [(0, .ref 39), (5, .int X5), (6, .int X6)]) hq (z_at.mk 3 rfl rfl) rfl hR_65 c_68 rfl rfl ?_
        refine r_p hq 2 (pc' := 73) (L' := [(0, .ref 39), (5, .int X5), (6, .int X6)]) (st' := [.ref 39, .ref 39]) rfl ?_
        refine r_gR (b := 40) (pc' := 76) (L' := [(0, .ref 39), (5, .int X5), (6, .int X6)]) H_65 hq (z_at.mk 3 rfl rfl) rfl rfl rfl rfl ?_
        refine r_gR (b := 48) (pc' := 79) (L' := [(0, .ref 39), (5, .int X5), (6, .int X6)]) H_65 hq (z_at.mk 3 rfl rfl) rfl rfl rfl rfl ?_
        refine r_gR (b := 52) (pc' := 82) (L' := [(0, .ref 39), (5, .int X5), (6, .int X6)]) H_65 hq (z_at.mk 3 rfl rfl) rfl rfl rfl rfl ?_
        refine r_p hq 1 (pc' := 84) (L' := [(0, .ref 39), (5, .int X5), (6, .int X6)]) (st' := [.int X6, .ref 52, .ref 39]) rfl ?_
        obtain ⟨g_84, h⟩ := z_ifo_some h
        refine r_ia (pc' := 85) (L' := [(0, .ref 39), (5, .int X5), (6, .int X6)]) H_65 hq (z_at.mk 1 rfl rfl) (show zAr 52 0 181 = true from rfl) hx6 g_84 rfl rfl ?_
        intro V_84 hV_84
        refine r_p hq 1 (pc' := 87) (L' := [(0, .ref 39), (5, .int X5), (6, .int X6)]) (st' := [.int X5, .int V_84, .ref 39]) rfl ?_
        obtain ⟨o_87, h_87, h⟩ := Option.bind_eq_some_iff.mp h
        refine r_csI (pc' := 90) (L' := [(0, .ref 39), (5, .int X5), (6, .int X6)]) (As := [.int V_84, .int X5]) (rest := [.ref 39]) (j := 10) hq (z_at.mk 3 rfl rfl) (Or.inl ⟨rfl, rfl⟩) rfl rfl (by omega) (g_b_common_ok hV_84 hx5 H_65 h_87) rfl rfl ?_
        intro R_87 m_87 p_87 e_87 hR_87 H_87
        subst e_87
        refine r_p hq 1 (pc' := 91) (L' := [(0, .ref 39), (5, .int X5), (6, .int X6)]) (st' := [.ref 39, .int R_87, .ref 39]) rfl ?_
        refine r_gR (b := 40) (pc' := 94) (L' := [(0, .ref 39), (5, .int X5), (6, .int X6)]) H_87 hq (z_at.mk 3 rfl rfl) rfl rfl rfl rfl ?_
        refine r_gR (b := 48) (pc' := 97) (L' := [(0, .ref 39), (5, .int X5), (6, .int X6)]) H_87 hq (z_at.mk 3 rfl rfl) rfl rfl rfl rfl ?_
        refine r_gR (b := 51) (pc' := 100) (L' := [(0, .ref 39), (5, .int X5), (6, .int X6)]) H_87 hq (z_at.mk 3 rfl rfl) rfl rfl rfl rfl ?_
        refine r_p hq 1 (pc' := 102) (L' := [(0, .ref 39), (5, .int X5), (6, .int X6)]) (st' := [.int X6, .ref 51, .int R_87, .ref 39]) rfl ?_
        obtain ⟨g_102, h⟩ := z_ifo_some h
        refine r_ia (pc' := 103) (L' := [(0, .ref 39), (5, .int X5), (6, .int X6)]) H_87 hq (z_at.mk 1 rfl rfl) (show zAr 51 0 181 = true from rfl) hx6 g_102 rfl rfl ?_
        intro V_102 hV_102
        obtain ⟨o_103, h_103, h⟩ := Option.bind_eq_some_iff.mp h
        refine r_cvV (pc' := 106) (L' := [(0, .ref 39), (5, .int X5), (6, .int X6)]) (Ps := [.int R_87, .int V_102]) (rest := []) hq (z_at.mk 3 rfl rfl) (Or.inl ⟨rfl, rfl⟩) rfl rfl (by decide) (by decide) rfl (Nat.not_lt.mpr (Nat.le_of_ble_eq_true rfl)) rfl rfl (z_cat_le 0 rfl (by decide)) (z_lgl_le 3 rfl (by decide)) (by decide) (H_87.tg rfl) (by omega) (g_c_addPiece_ok hR_87 hV_102 H_87 h_103) rfl rfl ?_
        intro m_103 p_103 e_103 H_103
        subst e_103
        exact g_c_probe_L106_ok ih hx5 hx6 H_103 h
def g_c_probe (x1 : Int) (x2 : Int) (x3 : Int) (x4 : Int) (σ : zS) : Option (Int × zS) :=
  (g_b_isBox x1 x2 x3 x4 σ).bind fun o_5 =>
  if o_5.1 ≠ 0 then
    (g_b_of x1 x2 x3 x4 o_5.2).bind fun o_19 =>
    let s_29 := zu o_19.2 131 1 0
    g_c_probe_L35 zK o_19.1 0 s_29
  else
    some (-2, o_5.2)
set_option maxHeartbeats 4000000 in
theorem g_c_probe_ok {xl : Nat} {xs : Nat → Int32} {X1 : Int32} {x1 : Int} (hx1 : X1.toInt = x1) {X2 : Int32} {x2 : Int} (hx2 : X2.toInt = x2) {X3 : Int32} {x3 : Int} (hx3 : X3.toInt = x3) {X4 : Int32} {x4 : Int} (hx4 : X4.toInt = x4) {σ : zS} {p : Nat} {m : zM} {o : Int × zS} (H : zRep xl xs p m σ) (h : g_c_probe x1 x2 x3 x4 σ = some o) : zGo xl xs (fun p' => p = p') 6 135 0 (z_can 135 0 (lv_args 0 [.ref 39, .int X1, .int X2, .int X3, .int X4])) [] m (vI o.1) o.2 := by
  have hq : z_mth 135 = some z_r135 := rfl
  unfold g_c_probe at h
  show zGo xl xs (fun p' => p = p') 6 135 0 [(0, .ref 39), (1, .int X1), (2, .int X2), (3, .int X3), (4, .int X4)] [] m (vI o.1) o.2
  refine r_p hq 4 (pc' := 5) (L' := [(0, .ref 39), (1, .int X1), (2, .int X2), (3, .int X3), (4, .int X4)]) (st' := [.int X4, .int X3, .int X2, .int X1]) rfl ?_
  obtain ⟨o_5, h_5, h⟩ := Option.bind_eq_some_iff.mp h
  refine r_csI (pc' := 8) (L' := [(0, .ref 39), (1, .int X1), (2, .int X2), (3, .int X3), (4, .int X4)]) (As := [.int X1, .int X2, .int X3, .int X4]) (rest := []) (j := 1) hq (z_at.mk 3 rfl rfl) (Or.inl ⟨rfl, rfl⟩) rfl rfl (by omega) (g_b_isBox_ok hx1 hx2 hx3 hx4 H h_5) rfl rfl ?_
  intro R_5 m_5 p_5 e_5 hR_5 H_5
  subst e_5
  rcases z_ite h with ⟨c_8, h⟩ | ⟨c_8, h⟩
  · refine r_t1 (pc' := 14) (L' := [(0, .ref 39), (1, .int X1), (2, .int X2), (3, .int X3), (4, .int X4)]) hq (z_at.mk 3 rfl rfl) rfl hR_5 c_8 rfl rfl ?_
    refine r_p hq 4 (pc' := 19) (L' := [(0, .ref 39), (1, .int X1), (2, .int X2), (3, .int X3), (4, .int X4)]) (st' := [.int X4, .int X3, .int X2, .int X1]) rfl ?_
    obtain ⟨o_19, h_19, h⟩ := Option.bind_eq_some_iff.mp h
    refine r_csI (pc' := 22) (L' := [(0, .ref 39), (1, .int X1), (2, .int X2), (3, .int X3), (4, .int X4)]) (As := [.int X1, .int X2, .int X3, .int X4]) (rest := []) (j := 2) hq (z_at.mk 3 rfl rfl) (Or.inl ⟨rfl, rfl⟩) rfl rfl (by omega) (g_b_of_ok hx1 hx2 hx3 hx4 H_5 h_19) rfl rfl ?_
    intro R_19 m_19 p_19 e_19 hR_19 H_19
    subst e_19
    refine r_p hq 2 (pc' := 25) (L' := [(5, .int R_19), (0, .ref 39), (1, .int X1), (2, .int X2), (3, .int X3), (4, .int X4)]) (st' := [.ref 39]) rfl ?_
    refine r_gR (b := 131) (pc' := 28) (L' := [(5, .int R_19), (0, .ref 39), (1, .int X1), (2, .int X2), (3, .int X3), (4, .int X4)]) H_19 hq (z_at.mk 3 rfl rfl) rfl rfl rfl rfl ?_
    refine r_p hq 1 (pc' := 29) (L' := [(5, .int R_19), (0, .ref 39), (1, .int X1), (2, .int X2), (3, .int X3), (4, .int X4)]) (st' := [.int ((0 : Int32)), .ref 131]) rfl ?_
    refine r_pI (X := (0 : Int32)) (pc' := 32) (L' := [(5, .int R_19), (0, .ref 39), (1, .int X1), (2, .int X2), (3, .int X3), (4, .int X4)]) H_19 hq (z_at.mk 3 rfl rfl) rfl rfl (rfl : (0 : Int32).toInt = 0) (by decide) rfl rfl rfl rfl ?_
    intro m_29 H_29
    refine r_p hq 2 (pc' := 35) (L' := [(0, .ref 39), (5, .int R_19), (6, .int ((0 : Int32)))]) (st' := []) rfl ?_
    exact g_c_probe_L35_ok zK hR_19 (rfl : (0 : Int32).toInt = 0) H_29 h
  · refine r_f1 (pc' := 11) (L' := [(0, .ref 39), (1, .int X1), (2, .int X2), (3, .int X3), (4, .int X4)]) hq (z_at.mk 3 rfl rfl) rfl hR_5 c_8 rfl rfl ?_
    refine r_p hq 1 (pc' := 13) (L' := [(0, .ref 39), (1, .int X1), (2, .int X2), (3, .int X3), (4, .int X4)]) (st' := [.int ((-2 : Int32))]) rfl ?_
    cases h
    exact r_ri hq (z_at.mk 1 rfl rfl) rfl rfl (rfl : (-2 : Int32).toInt = -2) rfl H_5
