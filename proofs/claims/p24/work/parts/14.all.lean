section
/-! 21.g07 -/
/-! THE METHODS over the typed memory, 7 (by wip/zg.py) -/
def g_jStringBuilder_append_304 (x1 : Int) (σ : zS) : Option (Unit × zS) :=
  (g_jAbstractStringBuilder_append_280 x1 σ).bind fun o_2 =>
  some ((), o_2.2)
set_option maxHeartbeats 4000000 in
theorem g_jStringBuilder_append_304_ok {xl : Nat} {xs : Nat → Int32} {X1 : Int32} {x1 : Int} (hx1 : X1.toInt = x1) {σ : zS} {p : Nat} {m : zM} {o : Unit × zS} (H : zRep xl xs p m σ) (h : g_jStringBuilder_append_304 x1 σ = some o) : zGo xl xs (fun _ => True) 12 304 0 (z_can 304 0 (lv_args 0 [.ref 129, .int X1])) [] m (vR (129)) o.2 := by
  have hq : z_mth 304 = some z_r304 := rfl
  unfold g_jStringBuilder_append_304 at h
  show zGo xl xs (fun _ => True) 12 304 0 [(0, .ref 129), (1, .int X1)] [] m (vR (129)) o.2
  refine r_p hq 2 (pc' := 2) (L' := [(0, .ref 129), (1, .int X1)]) (st' := [.int X1, .ref 129]) rfl ?_
  obtain ⟨o_2, h_2, h⟩ := Option.bind_eq_some_iff.mp h
  refine r_cvR (pc' := 5) (L' := [(0, .ref 129), (1, .int X1)]) (Ps := [.int X1]) (rest := []) hq (z_at.mk 3 rfl rfl) (Or.inr ⟨rfl, rfl, rfl⟩) rfl rfl (by decide) (by decide) rfl (Nat.not_lt.mpr (Nat.le_of_ble_eq_true rfl)) rfl rfl (z_cat_le 0 rfl (by decide)) (z_lgl_le 2 rfl (by decide)) (by decide) (H.tg rfl) (by omega) (g_jAbstractStringBuilder_append_280_ok hx1 H h_2) rfl rfl ?_
  intro m_2 p_2 e_2 H_2
  refine r_p hq 2 (pc' := 7) (L' := [(0, .ref 129), (1, .int X1)]) (st' := [.ref 129]) rfl ?_
  cases h
  exact r_ra hq (z_at.mk 1 rfl rfl) rfl trivial H_2
def g_jStringLatin1_canEncode_309 (x0 : Int) (σ : zS) : Option (Int × zS) :=
  if 255 < x0 then
    some (0, σ)
  else
    some (1, σ)
set_option maxHeartbeats 4000000 in
theorem g_jStringLatin1_canEncode_309_ok {xl : Nat} {xs : Nat → Int32} {X0 : Int32} {x0 : Int} (hx0 : X0.toInt = x0) {σ : zS} {p : Nat} {m : zM} {o : Int × zS} (H : zRep xl xs p m σ) (h : g_jStringLatin1_canEncode_309 x0 σ = some o) : zGo xl xs (fun p' => p = p') 1 309 0 (z_can 309 0 (lv_args 0 [.int X0])) [] m (vI o.1) o.2 := by
  have hq : z_mth 309 = some z_r309 := rfl
  unfold g_jStringLatin1_canEncode_309 at h
  show zGo xl xs (fun p' => p = p') 1 309 0 [(0, .int X0)] [] m (vI o.1) o.2
  refine r_p hq 2 (pc' := 4) (L' := [(0, .int X0)]) (st' := [.int ((255 : Int32)), .int X0]) rfl ?_
  rcases z_ite h with ⟨c_4, h⟩ | ⟨c_4, h⟩
  · refine r_t2 (pc' := 11) (L' := [(0, .int X0)]) hq (z_at.mk 3 rfl rfl) rfl hx0 (rfl : (255 : Int32).toInt = 255) c_4 rfl rfl ?_
    refine r_p hq 1 (pc' := 12) (L' := []) (st' := [.int ((0 : Int32))]) rfl ?_
    cases h
    exact r_ri hq (z_at.mk 1 rfl rfl) rfl rfl (rfl : (0 : Int32).toInt = 0) rfl H
  · refine r_f2 (pc' := 7) (L' := [(0, .int X0)]) hq (z_at.mk 3 rfl rfl) rfl hx0 (rfl : (255 : Int32).toInt = 255) c_4 rfl rfl ?_
    refine r_p hq 2 (pc' := 12) (L' := []) (st' := [.int ((1 : Int32))]) rfl ?_
    cases h
    exact r_ri hq (z_at.mk 1 rfl rfl) rfl rfl (rfl : (1 : Int32).toInt = 1) rfl H
def g_jAbstractStringBuilder_append_279_L56 (x1 : Int) (σ : zS) : Option (Unit × zS) :=
  let v_62 := σ 129 3
  let s_68 := zu σ 129 3 (w32 (v_62 + 1))
  none
set_option maxHeartbeats 4000000 in
theorem g_jAbstractStringBuilder_append_279_L56_ok {xl : Nat} {xs : Nat → Int32} {X1 : Int32} {x1 : Int} (hx1 : X1.toInt = x1) {σ : zS} {p : Nat} {m : zM} {o : Unit × zS} (H : zRep xl xs p m σ) (h : g_jAbstractStringBuilder_append_279_L56 x1 σ = some o) : zGo xl xs (fun _ => True) 11 279 56 [(0, .ref 129), (1, .int X1)] [] m (vR (129)) o.2 := by
  have hq : z_mth 279 = some z_r279 := rfl
  unfold g_jAbstractStringBuilder_append_279_L56 at h
  refine r_p hq 1 (pc' := 57) (L' := [(0, .ref 129), (1, .int X1)]) (st' := [.ref 129]) rfl ?_
  refine r_gP (pc' := 60) (L' := [(0, .ref 129), (1, .int X1)]) H hq (z_at.mk 3 rfl rfl) rfl rfl rfl ?_
  refine r_p hq 2 (pc' := 62) (L' := [(0, .ref 129), (1, .int X1)]) (st' := [.ref 129, .ref 129, .ref p]) rfl ?_
  refine r_gI (pc' := 65) (L' := [(0, .ref 129), (1, .int X1)]) H hq (z_at.mk 3 rfl rfl) rfl rfl rfl rfl ?_
  intro V_62 hV_62
  refine r_p hq 3 (pc' := 68) (L' := [(0, .ref 129), (1, .int X1)]) (st' := [.int (V_62 + ((1 : Int32))), .ref 129, .int V_62, .ref p]) rfl ?_
  refine r_pI (X := V_62 + ((1 : Int32))) (pc' := 71) (L' := [(0, .ref 129), (1, .int X1)]) H hq (z_at.mk 3 rfl rfl) rfl rfl (tx_iadd hV_62 (rfl : (1 : Int32).toInt = 1)) (by decide) rfl rfl rfl rfl ?_
  intro m_68 H_68
  refine r_p hq 1 (pc' := 72) (L' := [(0, .ref 129), (1, .int X1)]) (st' := [.int X1, .int V_62, .ref p]) rfl ?_
  cases h
def g_jAbstractStringBuilder_append_279_L45 (x1 : Int) (σ : zS) : Option (Unit × zS) :=
  (g_jAbstractStringBuilder_isLatin1 σ).bind fun o_46 =>
  if o_46.1 = 0 then
    g_jAbstractStringBuilder_append_279_L56 x1 o_46.2
  else
    none
set_option maxHeartbeats 4000000 in
theorem g_jAbstractStringBuilder_append_279_L45_ok {xl : Nat} {xs : Nat → Int32} {X1 : Int32} {x1 : Int} (hx1 : X1.toInt = x1) {σ : zS} {p : Nat} {m : zM} {o : Unit × zS} (H : zRep xl xs p m σ) (h : g_jAbstractStringBuilder_append_279_L45 x1 σ = some o) : zGo xl xs (fun _ => True) 11 279 45 [(0, .ref 129), (1, .int X1)] [] m (vR (129)) o.2 := by
  have hq : z_mth 279 = some z_r279 := rfl
  unfold g_jAbstractStringBuilder_append_279_L45 at h
  refine r_p hq 1 (pc' := 46) (L' := [(0, .ref 129), (1, .int X1)]) (st' := [.ref 129]) rfl ?_
  obtain ⟨o_46, h_46, h⟩ := Option.bind_eq_some_iff.mp h
  refine r_cvI (pc' := 49) (L' := [(0, .ref 129), (1, .int X1)]) (Ps := []) (rest := []) hq (z_at.mk 3 rfl rfl) (Or.inl ⟨rfl, rfl⟩) rfl rfl (by decide) (by decide) rfl (Nat.not_lt.mpr (Nat.le_of_ble_eq_true rfl)) rfl rfl (z_cat_le 0 rfl (by decide)) (z_lgl_le 1 rfl (by decide)) (by decide) (H.tg rfl) (by omega) (g_jAbstractStringBuilder_isLatin1_ok H h_46) rfl rfl ?_
  intro R_46 m_46 p_46 e_46 hR_46 H_46
  subst e_46
  rcases z_ite h with ⟨c_49, h⟩ | ⟨c_49, h⟩
  · refine r_t1 (pc' := 56) (L' := [(0, .ref 129), (1, .int X1)]) hq (z_at.mk 3 rfl rfl) rfl hR_46 c_49 rfl rfl ?_
    exact g_jAbstractStringBuilder_append_279_L56_ok hx1 H_46 h
  · refine r_f1 (pc' := 52) (L' := [(0, .ref 129), (1, .int X1)]) hq (z_at.mk 3 rfl rfl) rfl hR_46 c_49 rfl rfl ?_
    refine r_p hq 1 (pc' := 53) (L' := [(0, .ref 129), (1, .int X1)]) (st' := [.ref 129]) rfl ?_
    cases h
def g_jAbstractStringBuilder_append_279 (x1 : Int) (σ : zS) : Option (Unit × zS) :=
  let v_2 := σ 129 3
  (g_sb_ensure (w32 (v_2 + 1)) σ).bind fun o_7 =>
  (g_jAbstractStringBuilder_isLatin1 o_7.2).bind fun o_11 =>
  if o_11.1 = 0 then
    g_jAbstractStringBuilder_append_279_L45 x1 o_11.2
  else
    (g_jStringLatin1_canEncode_309 x1 o_11.2).bind fun o_18 =>
    if o_18.1 = 0 then
      g_jAbstractStringBuilder_append_279_L45 x1 o_18.2
    else
      let v_30 := o_18.2 129 3
      let s_36 := zu o_18.2 129 3 (w32 (v_30 + 1))
      if 0 ≤ v_30 ∧ v_30 < s_36 169 0 then
      let s_41 := zu s_36 168 v_30 (w8 (w8 x1))
      some ((), s_41)
      else none
set_option maxHeartbeats 4000000 in
theorem g_jAbstractStringBuilder_append_279_ok {xl : Nat} {xs : Nat → Int32} {X1 : Int32} {x1 : Int} (hx1 : X1.toInt = x1) {σ : zS} {p : Nat} {m : zM} {o : Unit × zS} (H : zRep xl xs p m σ) (h : g_jAbstractStringBuilder_append_279 x1 σ = some o) : zGo xl xs (fun _ => True) 11 279 0 (z_can 279 0 (lv_args 0 [.ref 129, .int X1])) [] m (vR (129)) o.2 := by
  have hq : z_mth 279 = some z_r279 := rfl
  unfold g_jAbstractStringBuilder_append_279 at h
  show zGo xl xs (fun _ => True) 11 279 0 [(0, .ref 129), (1, .int X1)] [] m (vR (129)) o.2
  refine r_p hq 2 (pc' := 2) (L' := [(0, .ref 129), (1, .int X1)]) (st' := [.ref 129, .ref 129]) rfl ?_
  refine r_gI (pc' := 5) (L' := [(0, .ref 129), (1, .int X1)]) H hq (z_at.mk 3 rfl rfl) rfl rfl rfl rfl ?_
  intro V_2 hV_2
  refine r_p hq 2 (pc' := 7) (L' := [(0, .ref 129), (1, .int X1)]) (st' := [.int (V_2 + ((1 : Int32))), .ref 129]) rfl ?_
  obtain ⟨o_7, h_7, h⟩ := Option.bind_eq_some_iff.mp h
  refine r_cvV (pc' := 10) (L' := [(0, .ref 129), (1, .int X1)]) (Ps := [.int (V_2 + ((1 : Int32)))]) (rest := []) hq (z_at.mk 3 rfl rfl) (Or.inl ⟨rfl, rfl⟩) rfl rfl (by decide) (by decide) rfl (Nat.not_lt.mpr (Nat.le_of_ble_eq_true rfl)) rfl rfl (z_cat_le 0 rfl (by decide)) (z_lgl_le 2 rfl (by decide)) (by decide) (H.tg rfl) (by omega) (g_sb_ensure_ok (tx_iadd hV_2 (rfl : (1 : Int32).toInt = 1)) H h_7) rfl rfl ?_
  intro m_7 p_7 e_7 H_7
  refine r_p hq 1 (pc' := 11) (L' := [(0, .ref 129), (1, .int X1)]) (st' := [.ref 129]) rfl ?_
  obtain ⟨o_11, h_11, h⟩ := Option.bind_eq_some_iff.mp h
  refine r_cvI (pc' := 14) (L' := [(0, .ref 129), (1, .int X1)]) (Ps := []) (rest := []) hq (z_at.mk 3 rfl rfl) (Or.inl ⟨rfl, rfl⟩) rfl rfl (by decide) (by decide) rfl (Nat.not_lt.mpr (Nat.le_of_ble_eq_true rfl)) rfl rfl (z_cat_le 0 rfl (by decide)) (z_lgl_le 1 rfl (by decide)) (by decide) (H_7.tg rfl) (by omega) (g_jAbstractStringBuilder_isLatin1_ok H_7 h_11) rfl rfl ?_
  intro R_11 m_11 p_11 e_11 hR_11 H_11
  subst e_11
  rcases z_ite h with ⟨c_14, h⟩ | ⟨c_14, h⟩
  · refine r_t1 (pc' := 45) (L' := [(0, .ref 129), (1, .int X1)]) hq (z_at.mk 3 rfl rfl) rfl hR_11 c_14 rfl rfl ?_
    exact g_jAbstractStringBuilder_append_279_L45_ok hx1 H_11 h
  · refine r_f1 (pc' := 17) (L' := [(0, .ref 129), (1, .int X1)]) hq (z_at.mk 3 rfl rfl) rfl hR_11 c_14 rfl rfl ?_
    refine r_p hq 1 (pc' := 18) (L' := [(0, .ref 129), (1, .int X1)]) (st' := [.int X1]) rfl ?_
    obtain ⟨o_18, h_18, h⟩ := Option.bind_eq_some_iff.mp h
    refine r_csI (pc' := 21) (L' := [(0, .ref 129), (1, .int X1)]) (As := [.int X1]) (rest := []) (j := 309) hq (z_at.mk 3 rfl rfl) (Or.inl ⟨rfl, rfl⟩) rfl rfl (by omega) (g_jStringLatin1_canEncode_309_ok hx1 H_11 h_18) rfl rfl ?_
    intro R_18 m_18 p_18 e_18 hR_18 H_18
    subst e_18
    rcases z_ite h with ⟨c_21, h⟩ | ⟨c_21, h⟩
    · refine r_t1 (pc' := 45) (L' := [(0, .ref 129), (1, .int X1)]) hq (z_at.mk 3 rfl rfl) rfl hR_18 c_21 rfl rfl ?_
      exact g_jAbstractStringBuilder_append_279_L45_ok hx1 H_18 h
    · refine r_f1 (pc' := 24) (L' := [(0, .ref 129), (1, .int X1)]) hq (z_at.mk 3 rfl rfl) rfl hR_18 c_21 rfl rfl ?_
      refine r_p hq 1 (pc' := 25) (L' := [(0, .ref 129), (1, .int X1)]) (st' := [.ref 129]) rfl ?_
      refine r_gP (pc' := 28) (L' := [(0, .ref 129), (1, .int X1)]) H_18 hq (z_at.mk 3 rfl rfl) rfl rfl rfl ?_
      refine r_p hq 2 (pc' := 30) (L' := [(0, .ref 129), (1, .int X1)]) (st' := [.ref 129, .ref 129, .ref p_7]) rfl ?_
      refine r_gI (pc' := 33) (L' := [(0, .ref 129), (1, .int X1)]) H_18 hq (z_at.mk 3 rfl rfl) rfl rfl rfl rfl ?_
      intro V_30 hV_30
      refine r_p hq 3 (pc' := 36) (L' := [(0, .ref 129), (1, .int X1)]) (st' := [.int (V_30 + ((1 : Int32))), .ref 129, .int V_30, .ref p_7]) rfl ?_
      refine r_pI (X := V_30 + ((1 : Int32))) (pc' := 39) (L' := [(0, .ref 129), (1, .int X1)]) H_18 hq (z_at.mk 3 rfl rfl) rfl rfl (tx_iadd hV_30 (rfl : (1 : Int32).toInt = 1)) (by decide) rfl rfl rfl rfl ?_
      intro m_36 H_36
      refine r_p hq 2 (pc' := 41) (L' := [(0, .ref 129), (1, .int X1)]) (st' := [.int X1.toInt8.toInt32, .int V_30, .ref p_7]) rfl ?_
      obtain ⟨g_41, h⟩ := z_ifo_some h
      refine r_bsP (pc' := 42) (L' := [(0, .ref 129), (1, .int X1)]) H_36 hq (z_at.mk 1 rfl rfl) hV_30 g_41 (tx_i2b hx1) rfl rfl ?_
      intro m_41 H_41
      refine r_p hq 2 (pc' := 76) (L' := [(0, .ref 129)]) (st' := [.ref 129]) rfl ?_
      cases h
      exact r_ra hq (z_at.mk 1 rfl rfl) rfl trivial H_41
def g_jStringBuilder_append_303 (x1 : Int) (σ : zS) : Option (Unit × zS) :=
  (g_jAbstractStringBuilder_append_279 x1 σ).bind fun o_2 =>
  some ((), o_2.2)
set_option maxHeartbeats 4000000 in
theorem g_jStringBuilder_append_303_ok {xl : Nat} {xs : Nat → Int32} {X1 : Int32} {x1 : Int} (hx1 : X1.toInt = x1) {σ : zS} {p : Nat} {m : zM} {o : Unit × zS} (H : zRep xl xs p m σ) (h : g_jStringBuilder_append_303 x1 σ = some o) : zGo xl xs (fun _ => True) 12 303 0 (z_can 303 0 (lv_args 0 [.ref 129, .int X1])) [] m (vR (129)) o.2 := by
  have hq : z_mth 303 = some z_r303 := rfl
  unfold g_jStringBuilder_append_303 at h
  show zGo xl xs (fun _ => True) 12 303 0 [(0, .ref 129), (1, .int X1)] [] m (vR (129)) o.2
  refine r_p hq 2 (pc' := 2) (L' := [(0, .ref 129), (1, .int X1)]) (st' := [.int X1, .ref 129]) rfl ?_
  obtain ⟨o_2, h_2, h⟩ := Option.bind_eq_some_iff.mp h
  refine r_cvR (pc' := 5) (L' := [(0, .ref 129), (1, .int X1)]) (Ps := [.int X1]) (rest := []) hq (z_at.mk 3 rfl rfl) (Or.inr ⟨rfl, rfl, rfl⟩) rfl rfl (by decide) (by decide) rfl (Nat.not_lt.mpr (Nat.le_of_ble_eq_true rfl)) rfl rfl (z_cat_le 0 rfl (by decide)) (z_lgl_le 2 rfl (by decide)) (by decide) (H.tg rfl) (by omega) (g_jAbstractStringBuilder_append_279_ok hx1 H h_2) rfl rfl ?_
  intro m_2 p_2 e_2 H_2
  refine r_p hq 2 (pc' := 7) (L' := [(0, .ref 129), (1, .int X1)]) (st' := [.ref 129]) rfl ?_
  cases h
  exact r_ra hq (z_at.mk 1 rfl rfl) rfl trivial H_2
def g_c_spellBox (x1 : Int) (σ : zS) : Option (Unit × zS) :=
  (g_b_side x1 0 σ).bind fun o_6 =>
  (g_jStringBuilder_append_304 o_6.1 o_6.2).bind fun o_9 =>
  (g_jStringBuilder_append_303 45 o_9.2).bind fun o_14 =>
  (g_b_side x1 1 o_14.2).bind fun o_19 =>
  (g_jStringBuilder_append_304 o_19.1 o_19.2).bind fun o_22 =>
  (g_jStringBuilder_append_303 44 o_22.2).bind fun o_27 =>
  (g_b_side x1 2 o_27.2).bind fun o_37 =>
  (g_jStringBuilder_append_304 o_37.1 o_37.2).bind fun o_40 =>
  (g_jStringBuilder_append_303 45 o_40.2).bind fun o_45 =>
  (g_b_side x1 3 o_45.2).bind fun o_50 =>
  (g_jStringBuilder_append_304 o_50.1 o_50.2).bind fun o_53 =>
  some ((), o_53.2)
set_option maxHeartbeats 4000000 in
theorem g_c_spellBox_ok {xl : Nat} {xs : Nat → Int32} {X1 : Int32} {x1 : Int} (hx1 : X1.toInt = x1) {σ : zS} {p : Nat} {m : zM} {o : Unit × zS} (H : zRep xl xs p m σ) (h : g_c_spellBox x1 σ = some o) : zGo xl xs (fun _ => True) 13 128 0 (z_can 128 0 (lv_args 0 [.ref 39, .int X1])) [] m vV o.2 := by
  have hq : z_mth 128 = some z_r128 := rfl
  unfold g_c_spellBox at h
  show zGo xl xs (fun _ => True) 13 128 0 [(0, .ref 39), (1, .int X1)] [] m vV o.2
  refine r_p hq 1 (pc' := 1) (L' := [(0, .ref 39), (1, .int X1)]) (st' := [.ref 39]) rfl ?_
  refine r_gR (b := 129) (pc' := 4) (L' := [(0, .ref 39), (1, .int X1)]) H hq (z_at.mk 3 rfl rfl) rfl rfl rfl rfl ?_
  refine r_p hq 2 (pc' := 6) (L' := [(0, .ref 39), (1, .int X1)]) (st' := [.int ((0 : Int32)), .int X1, .ref 129]) rfl ?_
  obtain ⟨o_6, h_6, h⟩ := Option.bind_eq_some_iff.mp h
  refine r_csI (pc' := 9) (L' := [(0, .ref 39), (1, .int X1)]) (As := [.int X1, .int ((0 : Int32))]) (rest := [.ref 129]) (j := 3) hq (z_at.mk 3 rfl rfl) (Or.inl ⟨rfl, rfl⟩) rfl rfl (by omega) (g_b_side_ok hx1 (rfl : (0 : Int32).toInt = 0) H h_6) rfl rfl ?_
  intro R_6 m_6 p_6 e_6 hR_6 H_6
  subst e_6
  obtain ⟨o_9, h_9, h⟩ := Option.bind_eq_some_iff.mp h
  refine r_cvR (pc' := 12) (L' := [(0, .ref 39), (1, .int X1)]) (Ps := [.int R_6]) (rest := []) hq (z_at.mk 3 rfl rfl) (Or.inl ⟨rfl, rfl⟩) rfl rfl (by decide) (by decide) rfl (Nat.not_lt.mpr (Nat.le_of_ble_eq_true rfl)) rfl rfl (z_cat_le 0 rfl (by decide)) (z_lgl_le 2 rfl (by decide)) (by decide) (H_6.tg rfl) (by omega) (g_jStringBuilder_append_304_ok hR_6 H_6 h_9) rfl rfl ?_
  intro m_9 p_9 e_9 H_9
  refine r_p hq 1 (pc' := 14) (L' := [(0, .ref 39), (1, .int X1)]) (st' := [.int ((45 : Int32)), .ref 129]) rfl ?_
  obtain ⟨o_14, h_14, h⟩ := Option.bind_eq_some_iff.mp h
  refine r_cvR (pc' := 17) (L' := [(0, .ref 39), (1, .int X1)]) (Ps := [.int ((45 : Int32))]) (rest := []) hq (z_at.mk 3 rfl rfl) (Or.inl ⟨rfl, rfl⟩) rfl rfl (by decide) (by decide) rfl (Nat.not_lt.mpr (Nat.le_of_ble_eq_true rfl)) rfl rfl (z_cat_le 0 rfl (by decide)) (z_lgl_le 2 rfl (by decide)) (by decide) (H_9.tg rfl) (by omega) (g_jStringBuilder_append_303_ok (rfl : (45 : Int32).toInt = 45) H_9 h_14) rfl rfl ?_
  intro m_14 p_14 e_14 H_14
  refine r_p hq 2 (pc' := 19) (L' := [(0, .ref 39), (1, .int X1)]) (st' := [.int ((1 : Int32)), .int X1, .ref 129]) rfl ?_
  obtain ⟨o_19, h_19, h⟩ := Option.bind_eq_some_iff.mp h
  refine r_csI (pc' := 22) (L' := [(0, .ref 39), (1, .int X1)]) (As := [.int X1, .int ((1 : Int32))]) (rest := [.ref 129]) (j := 3) hq (z_at.mk 3 rfl rfl) (Or.inl ⟨rfl, rfl⟩) rfl rfl (by omega) (g_b_side_ok hx1 (rfl : (1 : Int32).toInt = 1) H_14 h_19) rfl rfl ?_
  intro R_19 m_19 p_19 e_19 hR_19 H_19
  subst e_19
  obtain ⟨o_22, h_22, h⟩ := Option.bind_eq_some_iff.mp h
  refine r_cvR (pc' := 25) (L' := [(0, .ref 39), (1, .int X1)]) (Ps := [.int R_19]) (rest := []) hq (z_at.mk 3 rfl rfl) (Or.inl ⟨rfl, rfl⟩) rfl rfl (by decide) (by decide) rfl (Nat.not_lt.mpr (Nat.le_of_ble_eq_true rfl)) rfl rfl (z_cat_le 0 rfl (by decide)) (z_lgl_le 2 rfl (by decide)) (by decide) (H_19.tg rfl) (by omega) (g_jStringBuilder_append_304_ok hR_19 H_19 h_22) rfl rfl ?_
  intro m_22 p_22 e_22 H_22
  refine r_p hq 1 (pc' := 27) (L' := [(0, .ref 39), (1, .int X1)]) (st' := [.int ((44 : Int32)), .ref 129]) rfl ?_
  obtain ⟨o_27, h_27, h⟩ := Option.bind_eq_some_iff.mp h
  refine r_cvR (pc' := 30) (L' := [(0, .ref 39), (1, .int X1)]) (Ps := [.int ((44 : Int32))]) (rest := []) hq (z_at.mk 3 rfl rfl) (Or.inl ⟨rfl, rfl⟩) rfl rfl (by decide) (by decide) rfl (Nat.not_lt.mpr (Nat.le_of_ble_eq_true rfl)) rfl rfl (z_cat_le 0 rfl (by decide)) (z_lgl_le 2 rfl (by decide)) (by decide) (H_22.tg rfl) (by omega) (g_jStringBuilder_append_303_ok (rfl : (44 : Int32).toInt = 44) H_22 h_27) rfl rfl ?_
  intro m_27 p_27 e_27 H_27
  refine r_p hq 2 (pc' := 32) (L' := [(0, .ref 39), (1, .int X1)]) (st' := [.ref 39]) rfl ?_
  refine r_gR (b := 129) (pc' := 35) (L' := [(0, .ref 39), (1, .int X1)]) H_27 hq (z_at.mk 3 rfl rfl) rfl rfl rfl rfl ?_
  refine r_p hq 2 (pc' := 37) (L' := [(0, .ref 39), (1, .int X1)]) (st' := [.int ((2 : Int32)), .int X1, .ref 129]) rfl ?_
  obtain ⟨o_37, h_37, h⟩ := Option.bind_eq_some_iff.mp h
  refine r_csI (pc' := 40) (L' := [(0, .ref 39), (1, .int X1)]) (As := [.int X1, .int ((2 : Int32))]) (rest := [.ref 129]) (j := 3) hq (z_at.mk 3 rfl rfl) (Or.inl ⟨rfl, rfl⟩) rfl rfl (by omega) (g_b_side_ok hx1 (rfl : (2 : Int32).toInt = 2) H_27 h_37) rfl rfl ?_
  intro R_37 m_37 p_37 e_37 hR_37 H_37
  subst e_37
  obtain ⟨o_40, h_40, h⟩ := Option.bind_eq_some_iff.mp h
  refine r_cvR (pc' := 43) (L' := [(0, .ref 39), (1, .int X1)]) (Ps := [.int R_37]) (rest := []) hq (z_at.mk 3 rfl rfl) (Or.inl ⟨rfl, rfl⟩) rfl rfl (by decide) (by decide) rfl (Nat.not_lt.mpr (Nat.le_of_ble_eq_true rfl)) rfl rfl (z_cat_le 0 rfl (by decide)) (z_lgl_le 2 rfl (by decide)) (by decide) (H_37.tg rfl) (by omega) (g_jStringBuilder_append_304_ok hR_37 H_37 h_40) rfl rfl ?_
  intro m_40 p_40 e_40 H_40
  refine r_p hq 1 (pc' := 45) (L' := [(0, .ref 39), (1, .int X1)]) (st' := [.int ((45 : Int32)), .ref 129]) rfl ?_
  obtain ⟨o_45, h_45, h⟩ := Option.bind_eq_some_iff.mp h
  refine r_cvR (pc' := 48) (L' := [(0, .ref 39), (1, .int X1)]) (Ps := [.int ((45 : Int32))]) (rest := []) hq (z_at.mk 3 rfl rfl) (Or.inl ⟨rfl, rfl⟩) rfl rfl (by decide) (by decide) rfl (Nat.not_lt.mpr (Nat.le_of_ble_eq_true rfl)) rfl rfl (z_cat_le 0 rfl (by decide)) (z_lgl_le 2 rfl (by decide)) (by decide) (H_40.tg rfl) (by omega) (g_jStringBuilder_append_303_ok (rfl : (45 : Int32).toInt = 45) H_40 h_45) rfl rfl ?_
  intro m_45 p_45 e_45 H_45
  refine r_p hq 2 (pc' := 50) (L' := [(0, .ref 39), (1, .int X1)]) (st' := [.int ((3 : Int32)), .int X1, .ref 129]) rfl ?_
  obtain ⟨o_50, h_50, h⟩ := Option.bind_eq_some_iff.mp h
  refine r_csI (pc' := 53) (L' := [(0, .ref 39), (1, .int X1)]) (As := [.int X1, .int ((3 : Int32))]) (rest := [.ref 129]) (j := 3) hq (z_at.mk 3 rfl rfl) (Or.inl ⟨rfl, rfl⟩) rfl rfl (by omega) (g_b_side_ok hx1 (rfl : (3 : Int32).toInt = 3) H_45 h_50) rfl rfl ?_
  intro R_50 m_50 p_50 e_50 hR_50 H_50
  subst e_50
  obtain ⟨o_53, h_53, h⟩ := Option.bind_eq_some_iff.mp h
  refine r_cvR (pc' := 56) (L' := [(0, .ref 39), (1, .int X1)]) (Ps := [.int R_50]) (rest := []) hq (z_at.mk 3 rfl rfl) (Or.inl ⟨rfl, rfl⟩) rfl rfl (by decide) (by decide) rfl (Nat.not_lt.mpr (Nat.le_of_ble_eq_true rfl)) rfl rfl (z_cat_le 0 rfl (by decide)) (z_lgl_le 2 rfl (by decide)) (by decide) (H_50.tg rfl) (by omega) (g_jStringBuilder_append_304_ok hR_50 H_50 h_53) rfl rfl ?_
  intro m_53 p_53 e_53 H_53
  refine r_p hq 1 (pc' := 57) (L' := [(0, .ref 39), (1, .int X1)]) (st' := []) rfl ?_
  cases h
  exact r_rv hq (z_at.mk 1 rfl rfl) rfl trivial H_53
def g_jAbstractStringBuilder_setLength_L76 (x1 : Int) (σ : zS) : Option (Unit × zS) :=
  let s_78 := zu σ 129 3 x1
  some ((), s_78)
set_option maxHeartbeats 4000000 in
theorem g_jAbstractStringBuilder_setLength_L76_ok {xl : Nat} {xs : Nat → Int32} {X1 : Int32} {x1 : Int} (hx1 : X1.toInt = x1) {σ : zS} {p : Nat} {m : zM} {o : Unit × zS} (H : zRep xl xs p m σ) (h : g_jAbstractStringBuilder_setLength_L76 x1 σ = some o) : zGo xl xs (fun _ => True) 11 276 76 [(0, .ref 129), (1, .int X1)] [] m vV o.2 := by
  have hq : z_mth 276 = some z_r276 := rfl
  unfold g_jAbstractStringBuilder_setLength_L76 at h
  refine r_p hq 2 (pc' := 78) (L' := [(0, .ref 129), (1, .int X1)]) (st' := [.int X1, .ref 129]) rfl ?_
  refine r_pI (X := X1) (pc' := 81) (L' := [(0, .ref 129), (1, .int X1)]) H hq (z_at.mk 3 rfl rfl) rfl rfl hx1 (by decide) rfl rfl rfl rfl ?_
  intro m_78 H_78
  cases h
  exact r_rv hq (z_at.mk 1 rfl rfl) rfl trivial H_78
def g_jAbstractStringBuilder_setLength (x1 : Int) (σ : zS) : Option (Unit × zS) :=
  if 0 ≤ x1 then
    (g_sb_ensure x1 σ).bind fun o_15 =>
    let v_19 := o_15.2 129 3
    if x1 ≤ v_19 then
      let v_64 := o_15.2 129 3
      if v_64 ≤ x1 then
        g_jAbstractStringBuilder_setLength_L76 x1 o_15.2
      else
        let s_73 := zu o_15.2 129 2 1
        g_jAbstractStringBuilder_setLength_L76 x1 s_73
    else
      (g_jAbstractStringBuilder_isLatin1 o_15.2).bind fun o_27 =>
      if o_27.1 = 0 then
        let v_53 := o_27.2 129 3
        none
      else
        let v_38 := o_27.2 129 3
        none
  else
    none
set_option maxHeartbeats 4000000 in
theorem g_jAbstractStringBuilder_setLength_ok {xl : Nat} {xs : Nat → Int32} {X1 : Int32} {x1 : Int} (hx1 : X1.toInt = x1) {σ : zS} {p : Nat} {m : zM} {o : Unit × zS} (H : zRep xl xs p m σ) (h : g_jAbstractStringBuilder_setLength x1 σ = some o) : zGo xl xs (fun _ => True) 11 276 0 (z_can 276 0 (lv_args 0 [.ref 129, .int X1])) [] m vV o.2 := by
  have hq : z_mth 276 = some z_r276 := rfl
  unfold g_jAbstractStringBuilder_setLength at h
  show zGo xl xs (fun _ => True) 11 276 0 [(0, .ref 129), (1, .int X1)] [] m vV o.2
  refine r_p hq 1 (pc' := 1) (L' := [(0, .ref 129), (1, .int X1)]) (st' := [.int X1]) rfl ?_
  rcases z_ite h with ⟨c_1, h⟩ | ⟨c_1, h⟩
  · refine r_t1 (pc' := 13) (L' := [(0, .ref 129), (1, .int X1)]) hq (z_at.mk 3 rfl rfl) rfl hx1 c_1 rfl rfl ?_
    refine r_p hq 2 (pc' := 15) (L' := [(0, .ref 129), (1, .int X1)]) (st' := [.int X1, .ref 129]) rfl ?_
    obtain ⟨o_15, h_15, h⟩ := Option.bind_eq_some_iff.mp h
    refine r_cvV (pc' := 18) (L' := [(0, .ref 129), (1, .int X1)]) (Ps := [.int X1]) (rest := []) hq (z_at.mk 3 rfl rfl) (Or.inl ⟨rfl, rfl⟩) rfl rfl (by decide) (by decide) rfl (Nat.not_lt.mpr (Nat.le_of_ble_eq_true rfl)) rfl rfl (z_cat_le 0 rfl (by decide)) (z_lgl_le 2 rfl (by decide)) (by decide) (H.tg rfl) (by omega) (g_sb_ensure_ok hx1 H h_15) rfl rfl ?_
    intro m_15 p_15 e_15 H_15
    refine r_p hq 1 (pc' := 19) (L' := [(0, .ref 129), (1, .int X1)]) (st' := [.ref 129]) rfl ?_
    refine r_gI (pc' := 22) (L' := [(0, .ref 129), (1, .int X1)]) H_15 hq (z_at.mk 3 rfl rfl) rfl rfl rfl rfl ?_
    intro V_19 hV_19
    refine r_p hq 1 (pc' := 23) (L' := [(0, .ref 129), (1, .int X1)]) (st' := [.int X1, .int V_19]) rfl ?_
    rcases z_ite h with ⟨c_23, h⟩ | ⟨c_23, h⟩
    · refine r_t2 (pc' := 63) (L' := [(0, .ref 129), (1, .int X1)]) hq (z_at.mk 3 rfl rfl) rfl hV_19 hx1 c_23 rfl rfl ?_
      refine r_p hq 1 (pc' := 64) (L' := [(0, .ref 129), (1, .int X1)]) (st' := [.ref 129]) rfl ?_
      refine r_gI (pc' := 67) (L' := [(0, .ref 129), (1, .int X1)]) H_15 hq (z_at.mk 3 rfl rfl) rfl rfl rfl rfl ?_
      intro V_64 hV_64
      refine r_p hq 1 (pc' := 68) (L' := [(0, .ref 129), (1, .int X1)]) (st' := [.int X1, .int V_64]) rfl ?_
      rcases z_ite h with ⟨c_68, h⟩ | ⟨c_68, h⟩
      · refine r_t2 (pc' := 76) (L' := [(0, .ref 129), (1, .int X1)]) hq (z_at.mk 3 rfl rfl) rfl hV_64 hx1 c_68 rfl rfl ?_
        exact g_jAbstractStringBuilder_setLength_L76_ok hx1 H_15 h
      · refine r_f2 (pc' := 71) (L' := [(0, .ref 129), (1, .int X1)]) hq (z_at.mk 3 rfl rfl) rfl hV_64 hx1 c_68 rfl rfl ?_
        refine r_p hq 2 (pc' := 73) (L' := [(0, .ref 129), (1, .int X1)]) (st' := [.int ((1 : Int32)), .ref 129]) rfl ?_
        refine r_pI (X := (1 : Int32)) (pc' := 76) (L' := [(0, .ref 129), (1, .int X1)]) H_15 hq (z_at.mk 3 rfl rfl) rfl rfl (rfl : (1 : Int32).toInt = 1) (by decide) rfl rfl rfl rfl ?_
        intro m_73 H_73
        exact g_jAbstractStringBuilder_setLength_L76_ok hx1 H_73 h
    · refine r_f2 (pc' := 26) (L' := [(0, .ref 129), (1, .int X1)]) hq (z_at.mk 3 rfl rfl) rfl hV_19 hx1 c_23 rfl rfl ?_
      refine r_p hq 1 (pc' := 27) (L' := [(0, .ref 129), (1, .int X1)]) (st' := [.ref 129]) rfl ?_
      obtain ⟨o_27, h_27, h⟩ := Option.bind_eq_some_iff.mp h
      refine r_cvI (pc' := 30) (L' := [(0, .ref 129), (1, .int X1)]) (Ps := []) (rest := []) hq (z_at.mk 3 rfl rfl) (Or.inl ⟨rfl, rfl⟩) rfl rfl (by decide) (by decide) rfl (Nat.not_lt.mpr (Nat.le_of_ble_eq_true rfl)) rfl rfl (z_cat_le 0 rfl (by decide)) (z_lgl_le 1 rfl (by decide)) (by decide) (H_15.tg rfl) (by omega) (g_jAbstractStringBuilder_isLatin1_ok H_15 h_27) rfl rfl ?_
      intro R_27 m_27 p_27 e_27 hR_27 H_27
      subst e_27
      rcases z_ite h with ⟨c_30, h⟩ | ⟨c_30, h⟩
      · refine r_t1 (pc' := 48) (L' := [(0, .ref 129), (1, .int X1)]) hq (z_at.mk 3 rfl rfl) rfl hR_27 c_30 rfl rfl ?_
        refine r_p hq 1 (pc' := 49) (L' := [(0, .ref 129), (1, .int X1)]) (st' := [.ref 129]) rfl ?_
        refine r_gP (pc' := 52) (L' := [(0, .ref 129), (1, .int X1)]) H_27 hq (z_at.mk 3 rfl rfl) rfl rfl rfl ?_
        refine r_p hq 1 (pc' := 53) (L' := [(0, .ref 129), (1, .int X1)]) (st' := [.ref 129, .ref p_15]) rfl ?_
        refine r_gI (pc' := 56) (L' := [(0, .ref 129), (1, .int X1)]) H_27 hq (z_at.mk 3 rfl rfl) rfl rfl rfl rfl ?_
        intro V_53 hV_53
        refine r_p hq 1 (pc' := 57) (L' := [(0, .ref 129), (1, .int X1)]) (st' := [.int X1, .int V_53, .ref p_15]) rfl ?_
        cases h
      · refine r_f1 (pc' := 33) (L' := [(0, .ref 129), (1, .int X1)]) hq (z_at.mk 3 rfl rfl) rfl hR_27 c_30 rfl rfl ?_
        refine r_p hq 1 (pc' := 34) (L' := [(0, .ref 129), (1, .int X1)]) (st' := [.ref 129]) rfl ?_
        refine r_gP (pc' := 37) (L' := [(0, .ref 129), (1, .int X1)]) H_27 hq (z_at.mk 3 rfl rfl) rfl rfl rfl ?_
        refine r_p hq 1 (pc' := 38) (L' := [(0, .ref 129), (1, .int X1)]) (st' := [.ref 129, .ref p_15]) rfl ?_
        refine r_gI (pc' := 41) (L' := [(0, .ref 129), (1, .int X1)]) H_27 hq (z_at.mk 3 rfl rfl) rfl rfl rfl rfl ?_
        intro V_38 hV_38
        refine r_p hq 1 (pc' := 42) (L' := [(0, .ref 129), (1, .int X1)]) (st' := [.int X1, .int V_38, .ref p_15]) rfl ?_
        cases h
  · refine r_f1 (pc' := 4) (L' := [(0, .ref 129), (1, .int X1)]) hq (z_at.mk 3 rfl rfl) rfl hx1 c_1 rfl rfl ?_
    cases h
def g_jStringBuilder_setLength (x1 : Int) (σ : zS) : Option (Unit × zS) :=
  (g_jAbstractStringBuilder_setLength x1 σ).bind fun o_2 =>
  some ((), o_2.2)
set_option maxHeartbeats 4000000 in
theorem g_jStringBuilder_setLength_ok {xl : Nat} {xs : Nat → Int32} {X1 : Int32} {x1 : Int} (hx1 : X1.toInt = x1) {σ : zS} {p : Nat} {m : zM} {o : Unit × zS} (H : zRep xl xs p m σ) (h : g_jStringBuilder_setLength x1 σ = some o) : zGo xl xs (fun _ => True) 12 306 0 (z_can 306 0 (lv_args 0 [.ref 129, .int X1])) [] m vV o.2 := by
  have hq : z_mth 306 = some z_r306 := rfl
  unfold g_jStringBuilder_setLength at h
  show zGo xl xs (fun _ => True) 12 306 0 [(0, .ref 129), (1, .int X1)] [] m vV o.2
  refine r_p hq 2 (pc' := 2) (L' := [(0, .ref 129), (1, .int X1)]) (st' := [.int X1, .ref 129]) rfl ?_
  obtain ⟨o_2, h_2, h⟩ := Option.bind_eq_some_iff.mp h
  refine r_cvV (pc' := 5) (L' := [(0, .ref 129), (1, .int X1)]) (Ps := [.int X1]) (rest := []) hq (z_at.mk 3 rfl rfl) (Or.inr ⟨rfl, rfl, rfl⟩) rfl rfl (by decide) (by decide) rfl (Nat.not_lt.mpr (Nat.le_of_ble_eq_true rfl)) rfl rfl (z_cat_le 0 rfl (by decide)) (z_lgl_le 2 rfl (by decide)) (by decide) (H.tg rfl) (by omega) (g_jAbstractStringBuilder_setLength_ok hx1 H h_2) rfl rfl ?_
  intro m_2 p_2 e_2 H_2
  cases h
  exact r_rv hq (z_at.mk 1 rfl rfl) rfl trivial H_2
def g_jAbstractStringBuilder_length (σ : zS) : Option (Int × zS) :=
  let v_1 := σ 129 3
  some (v_1, σ)
set_option maxHeartbeats 4000000 in
theorem g_jAbstractStringBuilder_length_ok {xl : Nat} {xs : Nat → Int32} {σ : zS} {p : Nat} {m : zM} {o : Int × zS} (H : zRep xl xs p m σ) (h : g_jAbstractStringBuilder_length σ = some o) : zGo xl xs (fun p' => p = p') 1 273 0 (z_can 273 0 (lv_args 0 [.ref 129])) [] m (vI o.1) o.2 := by
  have hq : z_mth 273 = some z_r273 := rfl
  unfold g_jAbstractStringBuilder_length at h
  show zGo xl xs (fun p' => p = p') 1 273 0 [(0, .ref 129)] [] m (vI o.1) o.2
  refine r_p hq 1 (pc' := 1) (L' := [(0, .ref 129)]) (st' := [.ref 129]) rfl ?_
  refine r_gI (pc' := 4) (L' := [(0, .ref 129)]) H hq (z_at.mk 3 rfl rfl) rfl rfl rfl rfl ?_
  intro V_1 hV_1
  cases h
  exact r_ri hq (z_at.mk 1 rfl rfl) rfl rfl hV_1 rfl H
def g_jStringBuilder_length (σ : zS) : Option (Int × zS) :=
  (g_jAbstractStringBuilder_length σ).bind fun o_1 =>
  some (o_1.1, o_1.2)
set_option maxHeartbeats 4000000 in
theorem g_jStringBuilder_length_ok {xl : Nat} {xs : Nat → Int32} {σ : zS} {p : Nat} {m : zM} {o : Int × zS} (H : zRep xl xs p m σ) (h : g_jStringBuilder_length σ = some o) : zGo xl xs (fun p' => p = p') 2 307 0 (z_can 307 0 (lv_args 0 [.ref 129])) [] m (vI o.1) o.2 := by
  have hq : z_mth 307 = some z_r307 := rfl
  unfold g_jStringBuilder_length at h
  show zGo xl xs (fun p' => p = p') 2 307 0 [(0, .ref 129)] [] m (vI o.1) o.2
  refine r_p hq 1 (pc' := 1) (L' := [(0, .ref 129)]) (st' := [.ref 129]) rfl ?_
  obtain ⟨o_1, h_1, h⟩ := Option.bind_eq_some_iff.mp h
  refine r_cvI (pc' := 4) (L' := [(0, .ref 129)]) (Ps := []) (rest := []) hq (z_at.mk 3 rfl rfl) (Or.inr ⟨rfl, rfl, rfl⟩) rfl rfl (by decide) (by decide) rfl (Nat.not_lt.mpr (Nat.le_of_ble_eq_true rfl)) rfl rfl (z_cat_le 0 rfl (by decide)) (z_lgl_le 1 rfl (by decide)) (by decide) (H.tg rfl) (by omega) (g_jAbstractStringBuilder_length_ok H h_1) rfl rfl ?_
  intro R_1 m_1 p_1 e_1 hR_1 H_1
  subst e_1
  cases h
  exact r_ri hq (z_at.mk 1 rfl rfl) rfl rfl hR_1 rfl H_1
def g_c_spell_L38 (g10 : Int → zS → Option (Int × zS)) (x1 : Int) (σ : zS) : Option (Int × zS) :=
  if 0 ≤ x1 ∧ x1 < 181 then
  let v_50 := σ 52 x1
  (g_c_spellBox v_50 σ).bind fun o_51 =>
  g10 (w32 (x1 + 1)) o_51.2
  else none
set_option maxHeartbeats 4000000 in
theorem g_c_spell_L38_ok {xl : Nat} {xs : Nat → Int32} {g10 : Int → zS → Option (Int × zS)} (hg10 : ∀ {X1 : Int32} {x1 : Int} {σ : zS} {p : Nat} {m : zM} {o : Int × zS}, X1.toInt = x1 → zRep xl xs p m σ → g10 x1 σ = some o → zGo xl xs (fun _ => True) 14 127 10 [(0, .ref 39), (1, .int X1)] [] m (vI o.1) o.2) {X1 : Int32} {x1 : Int} (hx1 : X1.toInt = x1) {σ : zS} {p : Nat} {m : zM} {o : Int × zS} (H : zRep xl xs p m σ) (h : g_c_spell_L38 g10 x1 σ = some o) : zGo xl xs (fun _ => True) 14 127 38 [(0, .ref 39), (1, .int X1)] [] m (vI o.1) o.2 := by
  have hq : z_mth 127 = some z_r127 := rfl
  unfold g_c_spell_L38 at h
  refine r_p hq 2 (pc' := 40) (L' := [(0, .ref 39), (1, .int X1)]) (st' := [.ref 39, .ref 39]) rfl ?_
  refine r_gR (b := 40) (pc' := 43) (L' := [(0, .ref 39), (1, .int X1)]) H hq (z_at.mk 3 rfl rfl) rfl rfl rfl rfl ?_
  refine r_gR (b := 48) (pc' := 46) (L' := [(0, .ref 39), (1, .int X1)]) H hq (z_at.mk 3 rfl rfl) rfl rfl rfl rfl ?_
  refine r_gR (b := 52) (pc' := 49) (L' := [(0, .ref 39), (1, .int X1)]) H hq (z_at.mk 3 rfl rfl) rfl rfl rfl rfl ?_
  refine r_p hq 1 (pc' := 50) (L' := [(0, .ref 39), (1, .int X1)]) (st' := [.int X1, .ref 52, .ref 39]) rfl ?_
  obtain ⟨g_50, h⟩ := z_ifo_some h
  refine r_ia (pc' := 51) (L' := [(0, .ref 39), (1, .int X1)]) H hq (z_at.mk 1 rfl rfl) (show zAr 52 0 181 = true from rfl) hx1 g_50 rfl rfl ?_
  intro V_50 hV_50
  obtain ⟨o_51, h_51, h⟩ := Option.bind_eq_some_iff.mp h
  refine r_cvV (pc' := 54) (L' := [(0, .ref 39), (1, .int X1)]) (Ps := [.int V_50]) (rest := []) hq (z_at.mk 3 rfl rfl) (Or.inl ⟨rfl, rfl⟩) rfl rfl (by decide) (by decide) rfl (Nat.not_lt.mpr (Nat.le_of_ble_eq_true rfl)) rfl rfl (z_cat_le 0 rfl (by decide)) (z_lgl_le 2 rfl (by decide)) (by decide) (H.tg rfl) (by omega) (g_c_spellBox_ok hV_50 H h_51) rfl rfl ?_
  intro m_51 p_51 e_51 H_51
  refine r_p hq 2 (pc' := 10) (L' := [(0, .ref 39), (1, .int (X1 + (1 : Int32)))]) (st' := []) rfl ?_
  exact hg10 (tx_iadd hx1 (rfl : (1 : Int32).toInt = 1)) H_51 h
def g_c_spell_L10 : Nat → Int → zS → Option (Int × zS)
  | 0, _, _ => none
  | n + 1, x1, σ =>
    let v_18 := σ 48 2
    if v_18 ≤ x1 then
      (g_jStringBuilder_length σ).bind fun o_64 =>
      some (o_64.1, o_64.2)
    else
      if x1 ≤ 0 then
        g_c_spell_L38 ((g_c_spell_L10 n)) x1 σ
      else
        (g_jStringBuilder_append_303 59 σ).bind fun o_34 =>
        g_c_spell_L38 ((g_c_spell_L10 n)) x1 o_34.2
set_option maxHeartbeats 4000000 in
theorem g_c_spell_L10_ok {xl : Nat} {xs : Nat → Int32} : ∀ (n : Nat) {X1 : Int32} {x1 : Int} {σ : zS} {p : Nat} {m : zM} {o : Int × zS}, X1.toInt = x1 → zRep xl xs p m σ → g_c_spell_L10 n x1 σ = some o → zGo xl xs (fun _ => True) 14 127 10 [(0, .ref 39), (1, .int X1)] [] m (vI o.1) o.2
  | 0, _, _, _, _, _, _, _, _, h => by cases h
  | n + 1, X1, x1, σ, p, m, o, hx1, H, h => by
    have hq : z_mth 127 = some z_r127 := rfl
    have ih := fun {X1 : Int32} {x1 : Int} {σ : zS} {p : Nat} {m : zM} {o : Int × zS} => g_c_spell_L10_ok (xl := xl) (xs := xs) n (X1 := X1) (x1 := x1) (σ := σ) (p := p) (m := m) (o := o)
    unfold g_c_spell_L10 at h
    refine r_p hq 2 (pc' := 12) (L' := [(0, .ref 39), (1, .int X1)]) (st' := [.ref 39, .int X1]) rfl ?_
    refine r_gR (b := 40) (pc' := 15) (L' := [(0, .ref 39), (1, .int X1)]) H hq (z_at.mk 3 rfl rfl) rfl rfl rfl rfl ?_
    refine r_gR (b := 48) (pc' := 18) (L' := [(0, .ref 39), (1, .int X1)]) H hq (z_at.mk 3 rfl rfl) rfl rfl rfl rfl ?_
    refine r_gI (pc' := 21) (L' := [(0, .ref 39), (1, .int X1)]) H hq (z_at.mk 3 rfl rfl) rfl rfl rfl rfl ?_
    intro V_18 hV_18
    rcases z_ite h with ⟨c_21, h⟩ | ⟨c_21, h⟩
    · refine r_t2 (pc' := 60) (L' := [(0, .ref 39), (1, .int X1)]) hq (z_at.mk 3 rfl rfl) rfl hx1 hV_18 c_21 rfl rfl ?_
      refine r_p hq 1 (pc' := 61) (L' := [(0, .ref 39), (1, .int X1)]) (st' := [.ref 39]) rfl ?_
      refine r_gR (b := 129) (pc' := 64) (L' := [(0, .ref 39), (1, .int X1)]) H hq (z_at.mk 3 rfl rfl) rfl rfl rfl rfl ?_
      obtain ⟨o_64, h_64, h⟩ := Option.bind_eq_some_iff.mp h
      refine r_cvI (pc' := 67) (L' := [(0, .ref 39), (1, .int X1)]) (Ps := []) (rest := []) hq (z_at.mk 3 rfl rfl) (Or.inl ⟨rfl, rfl⟩) rfl rfl (by decide) (by decide) rfl (Nat.not_lt.mpr (Nat.le_of_ble_eq_true rfl)) rfl rfl (z_cat_le 0 rfl (by decide)) (z_lgl_le 1 rfl (by decide)) (by decide) (H.tg rfl) (by omega) (g_jStringBuilder_length_ok H h_64) rfl rfl ?_
      intro R_64 m_64 p_64 e_64 hR_64 H_64
      subst e_64
      cases h
      exact r_ri hq (z_at.mk 1 rfl rfl) rfl rfl hR_64 trivial H_64
    · refine r_f2 (pc' := 24) (L' := [(0, .ref 39), (1, .int X1)]) hq (z_at.mk 3 rfl rfl) rfl hx1 hV_18 c_21 rfl rfl ?_
      refine r_p hq 1 (pc' := 25) (L' := [(0, .ref 39), (1, .int X1)]) (st' := [.int X1]) rfl ?_
      rcases z_ite h with ⟨c_25, h⟩ | ⟨c_25, h⟩
      · refine r_t1 (pc' := 38) (L' := [(0, .ref 39), (1, .int X1)]) hq (z_at.mk 3 rfl rfl) rfl hx1 c_25 rfl rfl ?_
        exact g_c_spell_L38_ok ih hx1 H h
      · refine r_f1 (pc' := 28) (L' := [(0, .ref 39), (1, .int X1)]) hq (z_at.mk 3 rfl rfl) rfl hx1 c_25 rfl rfl ?_
        refine r_p hq 1 (pc' := 29) (L' := [(0, .ref 39), (1, .int X1)]) (st' := [.ref 39]) rfl ?_
        refine r_gR (b := 129) (pc' := 32) (L' := [(0, .ref 39), (1, .int X1)]) H hq (z_at.mk 3 rfl rfl) rfl rfl rfl rfl ?_
        refine r_p hq 1 (pc' := 34) (L' := [(0, .ref 39), (1, .int X1)]) (st' := [.int ((59 : Int32)), .ref 129]) rfl ?_
        obtain ⟨o_34, h_34, h⟩ := Option.bind_eq_some_iff.mp h
        refine r_cvR (pc' := 37) (L' := [(0, .ref 39), (1, .int X1)]) (Ps := [.int ((59 : Int32))]) (rest := []) hq (z_at.mk 3 rfl rfl) (Or.inl ⟨rfl, rfl⟩) rfl rfl (by decide) (by decide) rfl (Nat.not_lt.mpr (Nat.le_of_ble_eq_true rfl)) rfl rfl (z_cat_le 0 rfl (by decide)) (z_lgl_le 2 rfl (by decide)) (by decide) (H.tg rfl) (by omega) (g_jStringBuilder_append_303_ok (rfl : (59 : Int32).toInt = 59) H h_34) rfl rfl ?_
        intro m_34 p_34 e_34 H_34
        refine r_p hq 1 (pc' := 38) (L' := [(0, .ref 39), (1, .int X1)]) (st' := []) rfl ?_
        exact g_c_spell_L38_ok ih hx1 H_34 h
def g_c_spell (σ : zS) : Option (Int × zS) :=
  (g_jStringBuilder_setLength 0 σ).bind fun o_5 =>
  g_c_spell_L10 zK 0 o_5.2
set_option maxHeartbeats 4000000 in
theorem g_c_spell_ok {xl : Nat} {xs : Nat → Int32} {σ : zS} {p : Nat} {m : zM} {o : Int × zS} (H : zRep xl xs p m σ) (h : g_c_spell σ = some o) : zGo xl xs (fun _ => True) 14 127 0 (z_can 127 0 (lv_args 0 [.ref 39])) [] m (vI o.1) o.2 := by
  have hq : z_mth 127 = some z_r127 := rfl
  unfold g_c_spell at h
  show zGo xl xs (fun _ => True) 14 127 0 [(0, .ref 39)] [] m (vI o.1) o.2
  refine r_p hq 1 (pc' := 1) (L' := [(0, .ref 39)]) (st' := [.ref 39]) rfl ?_
  refine r_gR (b := 129) (pc' := 4) (L' := [(0, .ref 39)]) H hq (z_at.mk 3 rfl rfl) rfl rfl rfl rfl ?_
  refine r_p hq 1 (pc' := 5) (L' := [(0, .ref 39)]) (st' := [.int ((0 : Int32)), .ref 129]) rfl ?_
  obtain ⟨o_5, h_5, h⟩ := Option.bind_eq_some_iff.mp h
  refine r_cvV (pc' := 8) (L' := [(0, .ref 39)]) (Ps := [.int ((0 : Int32))]) (rest := []) hq (z_at.mk 3 rfl rfl) (Or.inl ⟨rfl, rfl⟩) rfl rfl (by decide) (by decide) rfl (Nat.not_lt.mpr (Nat.le_of_ble_eq_true rfl)) rfl rfl (z_cat_le 0 rfl (by decide)) (z_lgl_le 2 rfl (by decide)) (by decide) (H.tg rfl) (by omega) (g_jStringBuilder_setLength_ok (rfl : (0 : Int32).toInt = 0) H h_5) rfl rfl ?_
  intro m_5 p_5 e_5 H_5
  refine r_p hq 2 (pc' := 10) (L' := [(0, .ref 39), (1, .int ((0 : Int32)))]) (st' := []) rfl ?_
  exact g_c_spell_L10_ok zK (rfl : (0 : Int32).toInt = 0) H_5 h
def g_c_load_L59 (g19 : Int → Int → zS → Option (Int × zS)) (x2 : Int) (xs0 : Int) (σ : zS) : Option (Int × zS) :=
  (g_ta_another xs0 σ).bind fun o_59 =>
  g19 o_59.1 (w32 (x2 + 1)) o_59.2
set_option maxHeartbeats 4000000 in
theorem g_c_load_L59_ok {xl : Nat} {xs : Nat → Int32} {g19 : Int → Int → zS → Option (Int × zS)} (hg19 : ∀ {X1 : Int32} {x1 : Int} {X2 : Int32} {x2 : Int} {σ : zS} {p : Nat} {m : zM} {o : Int × zS}, X1.toInt = x1 → X2.toInt = x2 → zRep xl xs p m σ → g19 x1 x2 σ = some o → zGo xl xs (fun p' => p = p') 7 129 19 [(0, .ref 39), (1, .int X1), (2, .int X2)] [] m (vI o.1) o.2) {X2 : Int32} {x2 : Int} (hx2 : X2.toInt = x2) {Xs0 : Int32} {xs0 : Int} (hxs0 : Xs0.toInt = xs0) {σ : zS} {p : Nat} {m : zM} {o : Int × zS} (H : zRep xl xs p m σ) (h : g_c_load_L59 g19 x2 xs0 σ = some o) : zGo xl xs (fun p' => p = p') 7 129 59 [(0, .ref 39), (2, .int X2)] [.int Xs0, .ref 120] m (vI o.1) o.2 := by
  have hq : z_mth 129 = some z_r129 := rfl
  unfold g_c_load_L59 at h
  obtain ⟨o_59, h_59, h⟩ := Option.bind_eq_some_iff.mp h
  refine r_cvI (pc' := 62) (L' := [(0, .ref 39), (2, .int X2)]) (Ps := [.int Xs0]) (rest := []) hq (z_at.mk 3 rfl rfl) (Or.inl ⟨rfl, rfl⟩) rfl rfl (by decide) (by decide) rfl (Nat.not_lt.mpr (Nat.le_of_ble_eq_true rfl)) rfl rfl (z_cat_le 0 rfl (by decide)) (z_lgl_le 2 rfl (by decide)) (by decide) (H.tg rfl) (by omega) (g_ta_another_ok hxs0 H h_59) rfl rfl ?_
  intro R_59 m_59 p_59 e_59 hR_59 H_59
  subst e_59
  refine r_p hq 3 (pc' := 19) (L' := [(0, .ref 39), (1, .int R_59), (2, .int (X2 + (1 : Int32)))]) (st' := []) rfl ?_
  exact hg19 hR_59 (tx_iadd hx2 (rfl : (1 : Int32).toInt = 1)) H_59 h
def g_c_load_L101 (xs0 : Int) (σ : zS) : Option (Int × zS) :=
  (g_ta_end xs0 σ).bind fun o_101 =>
  some (o_101.1, o_101.2)
set_option maxHeartbeats 4000000 in
theorem g_c_load_L101_ok {xl : Nat} {xs : Nat → Int32} {Xs0 : Int32} {xs0 : Int} (hxs0 : Xs0.toInt = xs0) {σ : zS} {p : Nat} {m : zM} {o : Int × zS} (H : zRep xl xs p m σ) (h : g_c_load_L101 xs0 σ = some o) : zGo xl xs (fun p' => p = p') 7 129 101 [] [.int Xs0, .ref 120] m (vI o.1) o.2 := by
  have hq : z_mth 129 = some z_r129 := rfl
  unfold g_c_load_L101 at h
  obtain ⟨o_101, h_101, h⟩ := Option.bind_eq_some_iff.mp h
  refine r_cvI (pc' := 104) (L' := []) (Ps := [.int Xs0]) (rest := []) hq (z_at.mk 3 rfl rfl) (Or.inl ⟨rfl, rfl⟩) rfl rfl (by decide) (by decide) rfl (Nat.not_lt.mpr (Nat.le_of_ble_eq_true rfl)) rfl rfl (z_cat_le 0 rfl (by decide)) (z_lgl_le 2 rfl (by decide)) (by decide) (H.tg rfl) (by omega) (g_ta_end_ok hxs0 H h_101) rfl rfl ?_
  intro R_101 m_101 p_101 e_101 hR_101 H_101
  subst e_101
  cases h
  exact r_ri hq (z_at.mk 1 rfl rfl) rfl rfl hR_101 rfl H_101
def g_c_load_L69 (σ : zS) : Option (Int × zS) :=
  (g_ta_isSound σ).bind fun o_77 =>
  if o_77.1 = 0 then
    g_c_load_L101 0 o_77.2
  else
    (g_ca_admit 48 o_77.2).bind fun o_94 =>
    g_c_load_L101 o_94.1 o_94.2
set_option maxHeartbeats 4000000 in
theorem g_c_load_L69_ok {xl : Nat} {xs : Nat → Int32} {σ : zS} {p : Nat} {m : zM} {o : Int × zS} (H : zRep xl xs p m σ) (h : g_c_load_L69 σ = some o) : zGo xl xs (fun p' => p = p') 7 129 69 [(0, .ref 39)] [] m (vI o.1) o.2 := by
  have hq : z_mth 129 = some z_r129 := rfl
  unfold g_c_load_L69 at h
  refine r_p hq 1 (pc' := 70) (L' := [(0, .ref 39)]) (st' := [.ref 39]) rfl ?_
  refine r_gR (b := 120) (pc' := 73) (L' := [(0, .ref 39)]) H hq (z_at.mk 3 rfl rfl) rfl rfl rfl rfl ?_
  refine r_p hq 1 (pc' := 74) (L' := [(0, .ref 39)]) (st' := [.ref 39, .ref 120]) rfl ?_
  refine r_gR (b := 120) (pc' := 77) (L' := [(0, .ref 39)]) H hq (z_at.mk 3 rfl rfl) rfl rfl rfl rfl ?_
  obtain ⟨o_77, h_77, h⟩ := Option.bind_eq_some_iff.mp h
  refine r_cvI (pc' := 80) (L' := [(0, .ref 39)]) (Ps := []) (rest := [.ref 120]) hq (z_at.mk 3 rfl rfl) (Or.inl ⟨rfl, rfl⟩) rfl rfl (by decide) (by decide) rfl (Nat.not_lt.mpr (Nat.le_of_ble_eq_true rfl)) rfl rfl (z_cat_le 1 rfl (by decide)) (z_lgl_le 1 rfl (by decide)) (by decide) (H.tg rfl) (by omega) (g_ta_isSound_ok H h_77) rfl rfl ?_
  intro R_77 m_77 p_77 e_77 hR_77 H_77
  subst e_77
  rcases z_ite h with ⟨c_80, h⟩ | ⟨c_80, h⟩
  · refine r_t1 (pc' := 100) (L' := [(0, .ref 39)]) hq (z_at.mk 3 rfl rfl) rfl hR_77 c_80 rfl rfl ?_
    refine r_p hq 1 (pc' := 101) (L' := []) (st' := [.int ((0 : Int32)), .ref 120]) rfl ?_
    exact g_c_load_L101_ok (rfl : (0 : Int32).toInt = 0) H_77 h
  · refine r_f1 (pc' := 83) (L' := [(0, .ref 39)]) hq (z_at.mk 3 rfl rfl) rfl hR_77 c_80 rfl rfl ?_
    refine r_p hq 1 (pc' := 84) (L' := [(0, .ref 39)]) (st' := [.ref 39, .ref 120]) rfl ?_
    refine r_gR (b := 40) (pc' := 87) (L' := [(0, .ref 39)]) H_77 hq (z_at.mk 3 rfl rfl) rfl rfl rfl rfl ?_
    refine r_gR (b := 48) (pc' := 90) (L' := [(0, .ref 39)]) H_77 hq (z_at.mk 3 rfl rfl) rfl rfl rfl rfl ?_
    refine r_p hq 1 (pc' := 91) (L' := [(0, .ref 39)]) (st' := [.ref 39, .ref 48, .ref 120]) rfl ?_
    refine r_gR (b := 126) (pc' := 94) (L' := [(0, .ref 39)]) H_77 hq (z_at.mk 3 rfl rfl) rfl rfl rfl rfl ?_
    obtain ⟨o_94, h_94, h⟩ := Option.bind_eq_some_iff.mp h
    refine r_cvI (pc' := 97) (L' := [(0, .ref 39)]) (Ps := [.ref 126]) (rest := [.ref 120]) hq (z_at.mk 3 rfl rfl) (Or.inl ⟨rfl, rfl⟩) rfl rfl (by decide) (by decide) rfl (Nat.not_lt.mpr (Nat.le_of_ble_eq_true rfl)) rfl rfl (z_cat_le 1 rfl (by decide)) (z_lgl_le 2 rfl (by decide)) (by decide) (H_77.tg rfl) (by omega) (g_ca_admit_ok rfl H_77 h_94) rfl rfl ?_
    intro R_94 m_94 p_94 e_94 hR_94 H_94
    subst e_94
    refine r_p hq 1 (pc' := 101) (L' := []) (st' := [.int R_94, .ref 120]) rfl ?_
    exact g_c_load_L101_ok hR_94 H_94 h
def g_c_load_L19 : Nat → Int → Int → zS → Option (Int × zS)
  | 0, _, _, _ => none
  | n + 1, x1, x2, σ =>
    if x1 = 0 then
      g_c_load_L69 σ
    else
      if 12 < x2 then
        g_c_load_L69 σ
      else
        (g_ta_plainBox σ).bind fun o_37 =>
        (g_bs_add 126 o_37.1 o_37.2).bind fun o_40 =>
        if 12 ≤ x2 then
          g_c_load_L59 ((g_c_load_L19 n)) x2 0 o_40.2
        else
          g_c_load_L59 ((g_c_load_L19 n)) x2 1 o_40.2
set_option maxHeartbeats 4000000 in
theorem g_c_load_L19_ok {xl : Nat} {xs : Nat → Int32} : ∀ (n : Nat) {X1 : Int32} {x1 : Int} {X2 : Int32} {x2 : Int} {σ : zS} {p : Nat} {m : zM} {o : Int × zS}, X1.toInt = x1 → X2.toInt = x2 → zRep xl xs p m σ → g_c_load_L19 n x1 x2 σ = some o → zGo xl xs (fun p' => p = p') 7 129 19 [(0, .ref 39), (1, .int X1), (2, .int X2)] [] m (vI o.1) o.2
  | 0, _, _, _, _, _, _, _, _, _, _, _, h => by cases h
  | n + 1, X1, x1, X2, x2, σ, p, m, o, hx1, hx2, H, h => by
    have hq : z_mth 129 = some z_r129 := rfl
    have ih := fun {X1 : Int32} {x1 : Int} {X2 : Int32} {x2 : Int} {σ : zS} {p : Nat} {m : zM} {o : Int × zS} => g_c_load_L19_ok (xl := xl) (xs := xs) n (X1 := X1) (x1 := x1) (X2 := X2) (x2 := x2) (σ := σ) (p := p) (m := m) (o := o)
    unfold g_c_load_L19 at h
    refine r_p hq 1 (pc' := 20) (L' := [(0, .ref 39), (1, .int X1), (2, .int X2)]) (st' := [.int X1]) rfl ?_
    rcases z_ite h with ⟨c_20, h⟩ | ⟨c_20, h⟩
    · refine r_t1 (pc' := 69) (L' := [(0, .ref 39)]) hq (z_at.mk 3 rfl rfl) rfl hx1 c_20 rfl rfl ?_
      exact g_c_load_L69_ok  H h
    · refine r_f1 (pc' := 23) (L' := [(0, .ref 39), (1, .int X1), (2, .int X2)]) hq (z_at.mk 3 rfl rfl) rfl hx1 c_20 rfl rfl ?_
      refine r_p hq 2 (pc' := 26) (L' := [(0, .ref 39), (1, .int X1), (2, .int X2)]) (st' := [.int ((12 : Int32)), .int X2]) rfl ?_
      rcases z_ite h with ⟨c_26, h⟩ | ⟨c_26, h⟩
      · refine r_t2 (pc' := 69) (L' := [(0, .ref 39)]) hq (z_at.mk 3 rfl rfl) rfl hx2 (rfl : (12 : Int32).toInt = 12) c_26 rfl rfl ?_
        exact g_c_load_L69_ok  H h
      · refine r_f2 (pc' := 29) (L' := [(0, .ref 39), (1, .int X1), (2, .int X2)]) hq (z_at.mk 3 rfl rfl) rfl hx2 (rfl : (12 : Int32).toInt = 12) c_26 rfl rfl ?_
        refine r_p hq 1 (pc' := 30) (L' := [(0, .ref 39), (1, .int X1), (2, .int X2)]) (st' := [.ref 39]) rfl ?_
        refine r_gR (b := 126) (pc' := 33) (L' := [(0, .ref 39), (1, .int X1), (2, .int X2)]) H hq (z_at.mk 3 rfl rfl) rfl rfl rfl rfl ?_
        refine r_p hq 1 (pc' := 34) (L' := [(0, .ref 39), (1, .int X1), (2, .int X2)]) (st' := [.ref 39, .ref 126]) rfl ?_
        refine r_gR (b := 120) (pc' := 37) (L' := [(0, .ref 39), (1, .int X1), (2, .int X2)]) H hq (z_at.mk 3 rfl rfl) rfl rfl rfl rfl ?_
        obtain ⟨o_37, h_37, h⟩ := Option.bind_eq_some_iff.mp h
        refine r_cvI (pc' := 40) (L' := [(0, .ref 39), (1, .int X1), (2, .int X2)]) (Ps := []) (rest := [.ref 126]) hq (z_at.mk 3 rfl rfl) (Or.inl ⟨rfl, rfl⟩) rfl rfl (by decide) (by decide) rfl (Nat.not_lt.mpr (Nat.le_of_ble_eq_true rfl)) rfl rfl (z_cat_le 1 rfl (by decide)) (z_lgl_le 1 rfl (by decide)) (by decide) (H.tg rfl) (by omega) (g_ta_plainBox_ok H h_37) rfl rfl ?_
        intro R_37 m_37 p_37 e_37 hR_37 H_37
        subst e_37
        obtain ⟨o_40, h_40, h⟩ := Option.bind_eq_some_iff.mp h
        refine r_cvI (pc' := 43) (L' := [(0, .ref 39), (1, .int X1), (2, .int X2)]) (Ps := [.int R_37]) (rest := []) hq (z_at.mk 3 rfl rfl) (Or.inl ⟨rfl, rfl⟩) rfl rfl (by decide) (by decide) rfl (Nat.not_lt.mpr (Nat.le_of_ble_eq_true rfl)) rfl rfl (z_cat_le 0 rfl (by decide)) (z_lgl_le 2 rfl (by decide)) (by decide) (H_37.tg rfl) (by omega) (g_bs_add_ok rfl hR_37 H_37 h_40) rfl rfl ?_
        intro R_40 m_40 p_40 e_40 hR_40 H_40
        subst e_40
        refine r_p hq 2 (pc' := 45) (L' := [(0, .ref 39), (1, .int X1), (2, .int X2)]) (st' := [.ref 39]) rfl ?_
        refine r_gR (b := 120) (pc' := 48) (L' := [(0, .ref 39), (1, .int X1), (2, .int X2)]) H_40 hq (z_at.mk 3 rfl rfl) rfl rfl rfl rfl ?_
        refine r_p hq 2 (pc' := 51) (L' := [(0, .ref 39), (1, .int X1), (2, .int X2)]) (st' := [.int ((12 : Int32)), .int X2, .ref 120]) rfl ?_
        rcases z_ite h with ⟨c_51, h⟩ | ⟨c_51, h⟩
        · refine r_t2 (pc' := 58) (L' := [(0, .ref 39), (1, .int X1), (2, .int X2)]) hq (z_at.mk 3 rfl rfl) rfl hx2 (rfl : (12 : Int32).toInt = 12) c_51 rfl rfl ?_
          refine r_p hq 1 (pc' := 59) (L' := [(0, .ref 39), (2, .int X2)]) (st' := [.int ((0 : Int32)), .ref 120]) rfl ?_
          exact g_c_load_L59_ok ih hx2 (rfl : (0 : Int32).toInt = 0) H_40 h
        · refine r_f2 (pc' := 54) (L' := [(0, .ref 39), (1, .int X1), (2, .int X2)]) hq (z_at.mk 3 rfl rfl) rfl hx2 (rfl : (12 : Int32).toInt = 12) c_51 rfl rfl ?_
          refine r_p hq 2 (pc' := 59) (L' := [(0, .ref 39), (2, .int X2)]) (st' := [.int ((1 : Int32)), .ref 120]) rfl ?_
          exact g_c_load_L59_ok ih hx2 (rfl : (1 : Int32).toInt = 1) H_40 h
def g_c_load (σ : zS) : Option (Int × zS) :=
  (g_ta_begin σ).bind fun o_4 =>
  let s_12 := zu o_4.2 126 1 0
  g_c_load_L19 zK 1 1 s_12
set_option maxHeartbeats 4000000 in
theorem g_c_load_ok {xl : Nat} {xs : Nat → Int32} {σ : zS} {p : Nat} {m : zM} {o : Int × zS} (H : zRep xl xs p m σ) (h : g_c_load σ = some o) : zGo xl xs (fun p' => p = p') 7 129 0 (z_can 129 0 (lv_args 0 [.ref 39])) [] m (vI o.1) o.2 := by
  have hq : z_mth 129 = some z_r129 := rfl
  unfold g_c_load at h
  show zGo xl xs (fun p' => p = p') 7 129 0 [(0, .ref 39)] [] m (vI o.1) o.2
  refine r_p hq 1 (pc' := 1) (L' := [(0, .ref 39)]) (st' := [.ref 39]) rfl ?_
  refine r_gR (b := 120) (pc' := 4) (L' := [(0, .ref 39)]) H hq (z_at.mk 3 rfl rfl) rfl rfl rfl rfl ?_
  obtain ⟨o_4, h_4, h⟩ := Option.bind_eq_some_iff.mp h
  refine r_cvV (pc' := 7) (L' := [(0, .ref 39)]) (Ps := []) (rest := []) hq (z_at.mk 3 rfl rfl) (Or.inl ⟨rfl, rfl⟩) rfl rfl (by decide) (by decide) rfl (Nat.not_lt.mpr (Nat.le_of_ble_eq_true rfl)) rfl rfl (z_cat_le 0 rfl (by decide)) (z_lgl_le 1 rfl (by decide)) (by decide) (H.tg rfl) (by omega) (g_ta_begin_ok H h_4) rfl rfl ?_
  intro m_4 p_4 e_4 H_4
  subst e_4
  refine r_p hq 1 (pc' := 8) (L' := [(0, .ref 39)]) (st' := [.ref 39]) rfl ?_
  refine r_gR (b := 126) (pc' := 11) (L' := [(0, .ref 39)]) H_4 hq (z_at.mk 3 rfl rfl) rfl rfl rfl rfl ?_
  refine r_p hq 1 (pc' := 12) (L' := [(0, .ref 39)]) (st' := [.int ((0 : Int32)), .ref 126]) rfl ?_
  refine r_pI (X := (0 : Int32)) (pc' := 15) (L' := [(0, .ref 39)]) H_4 hq (z_at.mk 3 rfl rfl) rfl rfl (rfl : (0 : Int32).toInt = 0) (by decide) rfl rfl rfl rfl ?_
  intro m_12 H_12
  refine r_p hq 4 (pc' := 19) (L' := [(0, .ref 39), (1, .int ((1 : Int32))), (2, .int ((1 : Int32)))]) (st' := []) rfl ?_
  exact g_c_load_L19_ok zK (rfl : (1 : Int32).toInt = 1) (rfl : (1 : Int32).toInt = 1) H_12 h
def g_jString_getBytes (a0 : Nat) (x2 : Int) (x3 : Int) (σ : zS) : Option (Unit × zS) :=
  (g_jString_coder a0 σ).bind fun o_1 =>
  if o_1.1 ≠ x3 then
    none
  else
    if (0 : Int) ≤ 0 ∧ (0 : Int) ≤ iShl x2 x3 ∧ (0 : Int) ≤ zLI (a0 + 18) ∧ 0 + (zLI (a0 + 18)) ≤ zLI (a0 + 18) ∧ (iShl x2 x3) + (zLI (a0 + 18)) ≤ o_1.2 169 0 then
    let s_22 := zcP o_1.2 (a0 + 18) 0 (iShl x2 x3) (zLI (a0 + 18))
    some ((), s_22)
    else none
set_option maxHeartbeats 4000000 in
theorem g_jString_getBytes_ok {xl : Nat} {xs : Nat → Int32} {a0 : Nat} (ha0 : zIn [1, 2, 3, 4, 5, 6, 7, 8, 9, 10, 11, 12, 13, 14, 15, 16, 17, 18] a0 = true) {X2 : Int32} {x2 : Int} (hx2 : X2.toInt = x2) {X3 : Int32} {x3 : Int} (hx3 : X3.toInt = x3) {σ : zS} {p : Nat} {m : zM} {o : Unit × zS} (H : zRep xl xs p m σ) (h : g_jString_getBytes a0 x2 x3 σ = some o) : zGo xl xs (fun p' => p = p') 2 297 0 (z_can 297 0 (lv_args 0 [.ref a0, .ref p, .int X2, .int X3])) [] m vV o.2 := by
  have hq : z_mth 297 = some z_r297 := rfl
  unfold g_jString_getBytes at h
  show zGo xl xs (fun p' => p = p') 2 297 0 [(0, .ref a0), (1, .ref p), (2, .int X2), (3, .int X3)] [] m vV o.2
  refine r_p hq 1 (pc' := 1) (L' := [(0, .ref a0), (1, .ref p), (2, .int X2), (3, .int X3)]) (st' := [.ref a0]) rfl ?_
  obtain ⟨o_1, h_1, h⟩ := Option.bind_eq_some_iff.mp h
  refine r_cvI (pc' := 4) (L' := [(0, .ref a0), (1, .ref p), (2, .int X2), (3, .int X3)]) (Ps := []) (rest := []) hq (z_at.mk 3 rfl rfl) (Or.inl ⟨rfl, rfl⟩) rfl rfl (by decide) (by decide) rfl (Nat.not_lt.mpr (Nat.le_of_ble_eq_true rfl)) rfl rfl (z_cat_le 0 rfl (by decide)) (z_lgl_le 1 rfl (by decide)) (by decide) (H.tg9 (zIn_all (l := [1, 2, 3, 4, 5, 6, 7, 8, 9, 10, 11, 12, 13, 14, 15, 16, 17, 18]) (p := fun a => zIn [1, 2, 3, 4, 5, 6, 7, 8, 9, 10, 11, 12, 13, 14, 15, 16, 17, 18] a) rfl ha0)) (by omega) (g_jString_coder_ok (zIn_all (l := [1, 2, 3, 4, 5, 6, 7, 8, 9, 10, 11, 12, 13, 14, 15, 16, 17, 18]) (p := fun a => zIn [1, 2, 3, 4, 5, 6, 7, 8, 9, 10, 11, 12, 13, 14, 15, 16, 17, 18] a) rfl ha0) H h_1) rfl rfl ?_
  intro R_1 m_1 p_1 e_1 hR_1 H_1
  subst e_1
  refine r_p hq 1 (pc' := 5) (L' := [(0, .ref a0), (1, .ref p), (2, .int X2), (3, .int X3)]) (st' := [.int X3, .int R_1]) rfl ?_
  rcases z_ite h with ⟨c_5, h⟩ | ⟨c_5, h⟩
  · refine r_t2 (pc' := 28) (L' := [(0, .ref a0), (1, .ref p), (2, .int X2), (3, .int X3)]) hq (z_at.mk 3 rfl rfl) rfl hR_1 hx3 c_5 rfl rfl ?_
    refine r_p hq 1 (pc' := 29) (L' := [(0, .ref a0), (1, .ref p), (2, .int X2), (3, .int X3)]) (st' := [.ref a0]) rfl ?_
    refine r_gsR (pc' := 32) (L' := [(0, .ref a0), (1, .ref p), (2, .int X2), (3, .int X3)]) H_1 hq (z_at.mk 3 rfl rfl) rfl (zIn_all (l := [1, 2, 3, 4, 5, 6, 7, 8, 9, 10, 11, 12, 13, 14, 15, 16, 17, 18]) (p := fun a => zIn [1, 2, 3, 4, 5, 6, 7, 8, 9, 10, 11, 12, 13, 14, 15, 16, 17, 18] a) rfl ha0) rfl rfl ?_
    refine r_p hq 4 (pc' := 36) (L' := [(0, .ref a0), (1, .ref p), (2, .int X2), (3, .int X3)]) (st' := [.ref a0, .int X2, .ref p, .int ((0 : Int32)), .ref (a0 + 18)]) rfl ?_
    refine r_gsR (pc' := 39) (L' := [(0, .ref a0), (1, .ref p), (2, .int X2), (3, .int X3)]) H_1 hq (z_at.mk 3 rfl rfl) rfl (zIn_all (l := [1, 2, 3, 4, 5, 6, 7, 8, 9, 10, 11, 12, 13, 14, 15, 16, 17, 18]) (p := fun a => zIn [1, 2, 3, 4, 5, 6, 7, 8, 9, 10, 11, 12, 13, 14, 15, 16, 17, 18] a) rfl ha0) rfl rfl ?_
    refine r_le0 (pc' := 40) (L' := [(0, .ref a0), (1, .ref p), (2, .int X2), (3, .int X3)]) H_1 hq (z_at.mk 1 rfl rfl) (zIn_all (l := [1, 2, 3, 4, 5, 6, 7, 8, 9, 10, 11, 12, 13, 14, 15, 16, 17, 18]) (p := fun a => zAz (a + 18) 2 (zLI (a + 18))) rfl ha0) rfl rfl rfl ?_
    intro V_39 hV_39
    cases h
  · refine r_f2 (pc' := 8) (L' := [(0, .ref a0), (1, .ref p), (2, .int X2), (3, .int X3)]) hq (z_at.mk 3 rfl rfl) rfl hR_1 hx3 c_5 rfl rfl ?_
    refine r_p hq 1 (pc' := 9) (L' := [(0, .ref a0), (1, .ref p), (2, .int X2), (3, .int X3)]) (st' := [.ref a0]) rfl ?_
    refine r_gsR (pc' := 12) (L' := [(0, .ref a0), (1, .ref p), (2, .int X2), (3, .int X3)]) H_1 hq (z_at.mk 3 rfl rfl) rfl (zIn_all (l := [1, 2, 3, 4, 5, 6, 7, 8, 9, 10, 11, 12, 13, 14, 15, 16, 17, 18]) (p := fun a => zIn [1, 2, 3, 4, 5, 6, 7, 8, 9, 10, 11, 12, 13, 14, 15, 16, 17, 18] a) rfl ha0) rfl rfl ?_
    refine r_p hq 6 (pc' := 18) (L' := [(0, .ref a0), (1, .ref p), (2, .int X2), (3, .int X3)]) (st' := [.ref a0, .int (X2 <<< (X3 &&& 31)), .ref p, .int ((0 : Int32)), .ref (a0 + 18)]) rfl ?_
    refine r_gsR (pc' := 21) (L' := [(0, .ref a0), (1, .ref p), (2, .int X2), (3, .int X3)]) H_1 hq (z_at.mk 3 rfl rfl) rfl (zIn_all (l := [1, 2, 3, 4, 5, 6, 7, 8, 9, 10, 11, 12, 13, 14, 15, 16, 17, 18]) (p := fun a => zIn [1, 2, 3, 4, 5, 6, 7, 8, 9, 10, 11, 12, 13, 14, 15, 16, 17, 18] a) rfl ha0) rfl rfl ?_
    refine r_le0 (pc' := 22) (L' := [(0, .ref a0), (1, .ref p), (2, .int X2), (3, .int X3)]) H_1 hq (z_at.mk 1 rfl rfl) (zIn_all (l := [1, 2, 3, 4, 5, 6, 7, 8, 9, 10, 11, 12, 13, 14, 15, 16, 17, 18]) (p := fun a => zAz (a + 18) 2 (zLI (a + 18))) rfl ha0) rfl rfl rfl ?_
    intro V_21 hV_21
    obtain ⟨g_22, h⟩ := z_ifo_some h
    refine r_cpP (pc' := 25) (L' := [(0, .ref a0), (1, .ref p), (2, .int X2), (3, .int X3)]) H_1 hq (z_at.mk 3 rfl rfl) rfl (by decide) (zIn_all (l := [1, 2, 3, 4, 5, 6, 7, 8, 9, 10, 11, 12, 13, 14, 15, 16, 17, 18]) (p := fun a => zAz (a + 18) 2 (zLI (a + 18))) rfl ha0) (rfl : (0 : Int32).toInt = 0) (tx_ishl hx2 hx3) hV_21 g_22 rfl rfl ?_
    intro m_22 H_22
    refine r_p hq 1 (pc' := 43) (L' := []) (st' := []) rfl ?_
    cases h
    exact r_rv hq (z_at.mk 1 rfl rfl) rfl rfl H_22
def g_jAbstractStringBuilder_inflateIfNeededFor (a1 : Nat) (σ : zS) : Option (Unit × zS) :=
  if (1 : Int) = 0 then
    some ((), σ)
  else
    let v_7 := σ 129 1
    (g_jString_coder a1 σ).bind fun o_11 =>
    if v_7 = o_11.1 then
      some ((), o_11.2)
    else
      none
set_option maxHeartbeats 4000000 in
theorem g_jAbstractStringBuilder_inflateIfNeededFor_ok {xl : Nat} {xs : Nat → Int32} {a1 : Nat} (ha1 : zIn [1, 2, 3, 4, 5, 6, 7, 8, 9, 10, 11, 12, 13, 14, 15, 16, 17, 18] a1 = true) {σ : zS} {p : Nat} {m : zM} {o : Unit × zS} (H : zRep xl xs p m σ) (h : g_jAbstractStringBuilder_inflateIfNeededFor a1 σ = some o) : zGo xl xs (fun p' => p = p') 2 282 0 (z_can 282 0 (lv_args 0 [.ref 129, .ref a1])) [] m vV o.2 := by
  have hq : z_mth 282 = some z_r282 := rfl
  unfold g_jAbstractStringBuilder_inflateIfNeededFor at h
  show zGo xl xs (fun p' => p = p') 2 282 0 [(0, .ref 129), (1, .ref a1)] [] m vV o.2
  refine r_p hq 1 (pc' := 3) (L' := [(0, .ref 129), (1, .ref a1)]) (st' := [.int ((1 : Int32))]) rfl ?_
  rcases z_ite h with ⟨c_3, h⟩ | ⟨c_3, h⟩
  · refine r_t1 (pc' := 21) (L' := []) hq (z_at.mk 3 rfl rfl) rfl (show (1 : Int32).toInt = 1 from rfl) c_3 rfl rfl ?_
    cases h
    exact r_rv hq (z_at.mk 1 rfl rfl) rfl rfl H
  · refine r_f1 (pc' := 6) (L' := [(0, .ref 129), (1, .ref a1)]) hq (z_at.mk 3 rfl rfl) rfl (show (1 : Int32).toInt = 1 from rfl) c_3 rfl rfl ?_
    refine r_p hq 1 (pc' := 7) (L' := [(0, .ref 129), (1, .ref a1)]) (st' := [.ref 129]) rfl ?_
    refine r_gI (pc' := 10) (L' := [(0, .ref 129), (1, .ref a1)]) H hq (z_at.mk 3 rfl rfl) rfl rfl rfl rfl ?_
    intro V_7 hV_7
    refine r_p hq 1 (pc' := 11) (L' := [(0, .ref 129), (1, .ref a1)]) (st' := [.ref a1, .int V_7]) rfl ?_
    obtain ⟨o_11, h_11, h⟩ := Option.bind_eq_some_iff.mp h
    refine r_cvI (pc' := 14) (L' := [(0, .ref 129), (1, .ref a1)]) (Ps := []) (rest := [.int V_7]) hq (z_at.mk 3 rfl rfl) (Or.inl ⟨rfl, rfl⟩) rfl rfl (by decide) (by decide) rfl (Nat.not_lt.mpr (Nat.le_of_ble_eq_true rfl)) rfl rfl (z_cat_le 1 rfl (by decide)) (z_lgl_le 1 rfl (by decide)) (by decide) (H.tg9 (zIn_all (l := [1, 2, 3, 4, 5, 6, 7, 8, 9, 10, 11, 12, 13, 14, 15, 16, 17, 18]) (p := fun a => zIn [1, 2, 3, 4, 5, 6, 7, 8, 9, 10, 11, 12, 13, 14, 15, 16, 17, 18] a) rfl ha1)) (by omega) (g_jString_coder_ok (zIn_all (l := [1, 2, 3, 4, 5, 6, 7, 8, 9, 10, 11, 12, 13, 14, 15, 16, 17, 18]) (p := fun a => zIn [1, 2, 3, 4, 5, 6, 7, 8, 9, 10, 11, 12, 13, 14, 15, 16, 17, 18] a) rfl ha1) H h_11) rfl rfl ?_
    intro R_11 m_11 p_11 e_11 hR_11 H_11
    subst e_11
    rcases z_ite h with ⟨c_14, h⟩ | ⟨c_14, h⟩
    · refine r_t2 (pc' := 21) (L' := []) hq (z_at.mk 3 rfl rfl) rfl hV_7 hR_11 c_14 rfl rfl ?_
      cases h
      exact r_rv hq (z_at.mk 1 rfl rfl) rfl rfl H_11
    · refine r_f2 (pc' := 17) (L' := [(0, .ref 129), (1, .ref a1)]) hq (z_at.mk 3 rfl rfl) rfl hV_7 hR_11 c_14 rfl rfl ?_
      refine r_p hq 1 (pc' := 18) (L' := [(0, .ref 129), (1, .ref a1)]) (st' := [.ref 129]) rfl ?_
      cases h
def g_jAbstractStringBuilder_putStringAt (a2 : Nat) (x1 : Int) (σ : zS) : Option (Unit × zS) :=
  (g_jAbstractStringBuilder_inflateIfNeededFor a2 σ).bind fun o_2 =>
  let v_12 := o_2.2 129 1
  (g_jString_getBytes a2 x1 v_12 o_2.2).bind fun o_15 =>
  some ((), o_15.2)
set_option maxHeartbeats 4000000 in
theorem g_jAbstractStringBuilder_putStringAt_ok {xl : Nat} {xs : Nat → Int32} {a2 : Nat} (ha2 : zIn [1, 2, 3, 4, 5, 6, 7, 8, 9, 10, 11, 12, 13, 14, 15, 16, 17, 18] a2 = true) {X1 : Int32} {x1 : Int} (hx1 : X1.toInt = x1) {σ : zS} {p : Nat} {m : zM} {o : Unit × zS} (H : zRep xl xs p m σ) (h : g_jAbstractStringBuilder_putStringAt a2 x1 σ = some o) : zGo xl xs (fun p' => p = p') 3 283 0 (z_can 283 0 (lv_args 0 [.ref 129, .int X1, .ref a2])) [] m vV o.2 := by
  have hq : z_mth 283 = some z_r283 := rfl
  unfold g_jAbstractStringBuilder_putStringAt at h
  show zGo xl xs (fun p' => p = p') 3 283 0 [(0, .ref 129), (1, .int X1), (2, .ref a2)] [] m vV o.2
  refine r_p hq 2 (pc' := 2) (L' := [(0, .ref 129), (1, .int X1), (2, .ref a2)]) (st' := [.ref a2, .ref 129]) rfl ?_
  obtain ⟨o_2, h_2, h⟩ := Option.bind_eq_some_iff.mp h
  refine r_cvV (pc' := 5) (L' := [(0, .ref 129), (1, .int X1), (2, .ref a2)]) (Ps := [.ref a2]) (rest := []) hq (z_at.mk 3 rfl rfl) (Or.inl ⟨rfl, rfl⟩) rfl rfl (by decide) (by decide) rfl (Nat.not_lt.mpr (Nat.le_of_ble_eq_true rfl)) rfl rfl (z_cat_le 0 rfl (by decide)) (z_lgl_le 2 rfl (by decide)) (by decide) (H.tg rfl) (by omega) (g_jAbstractStringBuilder_inflateIfNeededFor_ok (zIn_all (l := [1, 2, 3, 4, 5, 6, 7, 8, 9, 10, 11, 12, 13, 14, 15, 16, 17, 18]) (p := fun a => zIn [1, 2, 3, 4, 5, 6, 7, 8, 9, 10, 11, 12, 13, 14, 15, 16, 17, 18] a) rfl ha2) H h_2) rfl rfl ?_
  intro m_2 p_2 e_2 H_2
  subst e_2
  refine r_p hq 2 (pc' := 7) (L' := [(0, .ref 129), (1, .int X1), (2, .ref a2)]) (st' := [.ref 129, .ref a2]) rfl ?_
  refine r_gP (pc' := 10) (L' := [(0, .ref 129), (1, .int X1), (2, .ref a2)]) H_2 hq (z_at.mk 3 rfl rfl) rfl rfl rfl ?_
  refine r_p hq 2 (pc' := 12) (L' := [(0, .ref 129), (1, .int X1), (2, .ref a2)]) (st' := [.ref 129, .int X1, .ref p, .ref a2]) rfl ?_
  refine r_gI (pc' := 15) (L' := [(0, .ref 129), (1, .int X1), (2, .ref a2)]) H_2 hq (z_at.mk 3 rfl rfl) rfl rfl rfl rfl ?_
  intro V_12 hV_12
  obtain ⟨o_15, h_15, h⟩ := Option.bind_eq_some_iff.mp h
  refine r_cvV (pc' := 18) (L' := [(0, .ref 129), (1, .int X1), (2, .ref a2)]) (Ps := [.ref p, .int X1, .int V_12]) (rest := []) hq (z_at.mk 3 rfl rfl) (Or.inl ⟨rfl, rfl⟩) rfl rfl (by decide) (by decide) rfl (Nat.not_lt.mpr (Nat.le_of_ble_eq_true rfl)) rfl rfl (z_cat_le 0 rfl (by decide)) (z_lgl_le 4 rfl (by decide)) (by decide) (H_2.tg9 (zIn_all (l := [1, 2, 3, 4, 5, 6, 7, 8, 9, 10, 11, 12, 13, 14, 15, 16, 17, 18]) (p := fun a => zIn [1, 2, 3, 4, 5, 6, 7, 8, 9, 10, 11, 12, 13, 14, 15, 16, 17, 18] a) rfl ha2)) (by omega) (g_jString_getBytes_ok (zIn_all (l := [1, 2, 3, 4, 5, 6, 7, 8, 9, 10, 11, 12, 13, 14, 15, 16, 17, 18]) (p := fun a => zIn [1, 2, 3, 4, 5, 6, 7, 8, 9, 10, 11, 12, 13, 14, 15, 16, 17, 18] a) rfl ha2) hx1 hV_12 H_2 h_15) rfl rfl ?_
  intro m_15 p_15 e_15 H_15
  subst e_15
  cases h
  exact r_rv hq (z_at.mk 1 rfl rfl) rfl rfl H_15
def g_jAbstractStringBuilder_append_278 (a1 : Nat) (σ : zS) : Option (Unit × zS) :=
  (g_jString_length a1 σ).bind fun o_10 =>
  let v_16 := o_10.2 129 3
  (g_sb_ensure (w32 (v_16 + o_10.1)) o_10.2).bind fun o_21 =>
  let v_26 := o_21.2 129 3
  (g_jAbstractStringBuilder_putStringAt a1 v_26 o_21.2).bind fun o_30 =>
  let v_35 := o_30.2 129 3
  let s_40 := zu o_30.2 129 3 (w32 (v_35 + o_10.1))
  some ((), s_40)
set_option maxHeartbeats 4000000 in
theorem g_jAbstractStringBuilder_append_278_ok {xl : Nat} {xs : Nat → Int32} {a1 : Nat} (ha1 : zIn [1, 2, 3, 4, 5, 6, 7, 8, 9, 10, 11, 12, 13, 14, 15, 16, 17, 18] a1 = true) {σ : zS} {p : Nat} {m : zM} {o : Unit × zS} (H : zRep xl xs p m σ) (h : g_jAbstractStringBuilder_append_278 a1 σ = some o) : zGo xl xs (fun _ => True) 11 278 0 (z_can 278 0 (lv_args 0 [.ref 129, .ref a1])) [] m (vR (129)) o.2 := by
  have hq : z_mth 278 = some z_r278 := rfl
  unfold g_jAbstractStringBuilder_append_278 at h
  show zGo xl xs (fun _ => True) 11 278 0 [(0, .ref 129), (1, .ref a1)] [] m (vR (129)) o.2
  refine r_p hq 3 (pc' := 10) (L' := [(0, .ref 129), (1, .ref a1)]) (st' := [.ref a1]) rfl ?_
  obtain ⟨o_10, h_10, h⟩ := Option.bind_eq_some_iff.mp h
  refine r_cvI (pc' := 13) (L' := [(0, .ref 129), (1, .ref a1)]) (Ps := []) (rest := []) hq (z_at.mk 3 rfl rfl) (Or.inl ⟨rfl, rfl⟩) rfl rfl (by decide) (by decide) rfl (Nat.not_lt.mpr (Nat.le_of_ble_eq_true rfl)) rfl rfl (z_cat_le 0 rfl (by decide)) (z_lgl_le 1 rfl (by decide)) (by decide) (H.tg9 (zIn_all (l := [1, 2, 3, 4, 5, 6, 7, 8, 9, 10, 11, 12, 13, 14, 15, 16, 17, 18]) (p := fun a => zIn [1, 2, 3, 4, 5, 6, 7, 8, 9, 10, 11, 12, 13, 14, 15, 16, 17, 18] a) rfl ha1)) (by omega) (g_jString_length_ok (zIn_all (l := [1, 2, 3, 4, 5, 6, 7, 8, 9, 10, 11, 12, 13, 14, 15, 16, 17, 18]) (p := fun a => zIn [1, 2, 3, 4, 5, 6, 7, 8, 9, 10, 11, 12, 13, 14, 15, 16, 17, 18] a) rfl ha1) H h_10) rfl rfl ?_
  intro R_10 m_10 p_10 e_10 hR_10 H_10
  subst e_10
  refine r_p hq 3 (pc' := 16) (L' := [(2, .int R_10), (0, .ref 129), (1, .ref a1)]) (st' := [.ref 129, .ref 129]) rfl ?_
  refine r_gI (pc' := 19) (L' := [(2, .int R_10), (0, .ref 129), (1, .ref a1)]) H_10 hq (z_at.mk 3 rfl rfl) rfl rfl rfl rfl ?_
  intro V_16 hV_16
  refine r_p hq 2 (pc' := 21) (L' := [(2, .int R_10), (0, .ref 129), (1, .ref a1)]) (st' := [.int (V_16 + R_10), .ref 129]) rfl ?_
  obtain ⟨o_21, h_21, h⟩ := Option.bind_eq_some_iff.mp h
  refine r_cvV (pc' := 24) (L' := [(2, .int R_10), (0, .ref 129), (1, .ref a1)]) (Ps := [.int (V_16 + R_10)]) (rest := []) hq (z_at.mk 3 rfl rfl) (Or.inl ⟨rfl, rfl⟩) rfl rfl (by decide) (by decide) rfl (Nat.not_lt.mpr (Nat.le_of_ble_eq_true rfl)) rfl rfl (z_cat_le 0 rfl (by decide)) (z_lgl_le 2 rfl (by decide)) (by decide) (H_10.tg rfl) (by omega) (g_sb_ensure_ok (tx_iadd hV_16 hR_10) H_10 h_21) rfl rfl ?_
  intro m_21 p_21 e_21 H_21
  refine r_p hq 2 (pc' := 26) (L' := [(2, .int R_10), (0, .ref 129), (1, .ref a1)]) (st' := [.ref 129, .ref 129]) rfl ?_
  refine r_gI (pc' := 29) (L' := [(2, .int R_10), (0, .ref 129), (1, .ref a1)]) H_21 hq (z_at.mk 3 rfl rfl) rfl rfl rfl rfl ?_
  intro V_26 hV_26
  refine r_p hq 1 (pc' := 30) (L' := [(2, .int R_10), (0, .ref 129), (1, .ref a1)]) (st' := [.ref a1, .int V_26, .ref 129]) rfl ?_
  obtain ⟨o_30, h_30, h⟩ := Option.bind_eq_some_iff.mp h
  refine r_cvV (pc' := 33) (L' := [(2, .int R_10), (0, .ref 129), (1, .ref a1)]) (Ps := [.int V_26, .ref a1]) (rest := []) hq (z_at.mk 3 rfl rfl) (Or.inl ⟨rfl, rfl⟩) rfl rfl (by decide) (by decide) rfl (Nat.not_lt.mpr (Nat.le_of_ble_eq_true rfl)) rfl rfl (z_cat_le 0 rfl (by decide)) (z_lgl_le 3 rfl (by decide)) (by decide) (H_21.tg rfl) (by omega) (g_jAbstractStringBuilder_putStringAt_ok (zIn_all (l := [1, 2, 3, 4, 5, 6, 7, 8, 9, 10, 11, 12, 13, 14, 15, 16, 17, 18]) (p := fun a => zIn [1, 2, 3, 4, 5, 6, 7, 8, 9, 10, 11, 12, 13, 14, 15, 16, 17, 18] a) rfl ha1) hV_26 H_21 h_30) rfl rfl ?_
  intro m_30 p_30 e_30 H_30
  subst e_30
  refine r_p hq 2 (pc' := 35) (L' := [(2, .int R_10), (0, .ref 129), (1, .ref a1)]) (st' := [.ref 129, .ref 129]) rfl ?_
  refine r_gI (pc' := 38) (L' := [(2, .int R_10), (0, .ref 129), (1, .ref a1)]) H_30 hq (z_at.mk 3 rfl rfl) rfl rfl rfl rfl ?_
  intro V_35 hV_35
  refine r_p hq 2 (pc' := 40) (L' := [(2, .int R_10), (0, .ref 129), (1, .ref a1)]) (st' := [.int (V_35 + R_10), .ref 129]) rfl ?_
  refine r_pI (X := V_35 + R_10) (pc' := 43) (L' := [(2, .int R_10), (0, .ref 129), (1, .ref a1)]) H_30 hq (z_at.mk 3 rfl rfl) rfl rfl (tx_iadd hV_35 hR_10) (by decide) rfl rfl rfl rfl ?_
  intro m_40 H_40
  refine r_p hq 1 (pc' := 44) (L' := [(2, .int R_10), (0, .ref 129), (1, .ref a1)]) (st' := [.ref 129]) rfl ?_
  cases h
  exact r_ra hq (z_at.mk 1 rfl rfl) rfl trivial H_40
def g_jStringBuilder_append_302 (a1 : Nat) (σ : zS) : Option (Unit × zS) :=
  (g_jAbstractStringBuilder_append_278 a1 σ).bind fun o_2 =>
  some ((), o_2.2)
set_option maxHeartbeats 4000000 in
theorem g_jStringBuilder_append_302_ok {xl : Nat} {xs : Nat → Int32} {a1 : Nat} (ha1 : zIn [1, 2, 3, 4, 5, 6, 7, 8, 9, 10, 11, 12, 13, 14, 15, 16, 17, 18] a1 = true) {σ : zS} {p : Nat} {m : zM} {o : Unit × zS} (H : zRep xl xs p m σ) (h : g_jStringBuilder_append_302 a1 σ = some o) : zGo xl xs (fun _ => True) 12 302 0 (z_can 302 0 (lv_args 0 [.ref 129, .ref a1])) [] m (vR (129)) o.2 := by
  have hq : z_mth 302 = some z_r302 := rfl
  unfold g_jStringBuilder_append_302 at h
  show zGo xl xs (fun _ => True) 12 302 0 [(0, .ref 129), (1, .ref a1)] [] m (vR (129)) o.2
  refine r_p hq 2 (pc' := 2) (L' := [(0, .ref 129), (1, .ref a1)]) (st' := [.ref a1, .ref 129]) rfl ?_
  obtain ⟨o_2, h_2, h⟩ := Option.bind_eq_some_iff.mp h
  refine r_cvR (pc' := 5) (L' := [(0, .ref 129), (1, .ref a1)]) (Ps := [.ref a1]) (rest := []) hq (z_at.mk 3 rfl rfl) (Or.inr ⟨rfl, rfl, rfl⟩) rfl rfl (by decide) (by decide) rfl (Nat.not_lt.mpr (Nat.le_of_ble_eq_true rfl)) rfl rfl (z_cat_le 0 rfl (by decide)) (z_lgl_le 2 rfl (by decide)) (by decide) (H.tg rfl) (by omega) (g_jAbstractStringBuilder_append_278_ok (zIn_all (l := [1, 2, 3, 4, 5, 6, 7, 8, 9, 10, 11, 12, 13, 14, 15, 16, 17, 18]) (p := fun a => zIn [1, 2, 3, 4, 5, 6, 7, 8, 9, 10, 11, 12, 13, 14, 15, 16, 17, 18] a) rfl ha1) H h_2) rfl rfl ?_
  intro m_2 p_2 e_2 H_2
  refine r_p hq 2 (pc' := 7) (L' := [(0, .ref 129), (1, .ref a1)]) (st' := [.ref 129]) rfl ?_
  cases h
  exact r_ra hq (z_at.mk 1 rfl rfl) rfl trivial H_2
def g_c_explainMissing_L17 : Nat → Int → Int → zS → Option (Int × zS)
  | 0, _, _, _ => none
  | n + 1, x3, x4, σ =>
    let v_20 := σ 56 1
    if v_20 ≤ x4 then
      some (x3, σ)
    else
      (g_bs_at 56 x4 σ).bind fun o_36 =>
      (g_ca_costOf 48 o_36.1 o_36.2).bind fun o_39 =>
      (g_jStringBuilder_append_302 9 o_39.2).bind fun o_51 =>
      (g_bs_at 56 x4 o_51.2).bind fun o_59 =>
      (g_c_spellBox o_59.1 o_59.2).bind fun o_62 =>
      (g_jStringBuilder_append_303 32 o_62.2).bind fun o_71 =>
      (g_jStringBuilder_append_304 o_39.1 o_71.2).bind fun o_76 =>
      (g_jStringBuilder_append_303 59 o_76.2).bind fun o_81 =>
      (g_c_explainMissing_L17 n) (w32 (x3 + o_39.1)) (w32 (x4 + 1)) o_81.2
set_option maxHeartbeats 4000000 in
theorem g_c_explainMissing_L17_ok {xl : Nat} {xs : Nat → Int32} : ∀ (n : Nat) {X3 : Int32} {x3 : Int} {X4 : Int32} {x4 : Int} {σ : zS} {p : Nat} {m : zM} {o : Int × zS}, X3.toInt = x3 → X4.toInt = x4 → zRep xl xs p m σ → g_c_explainMissing_L17 n x3 x4 σ = some o → zGo xl xs (fun _ => True) 14 131 17 [(0, .ref 39), (2, .ref 56), (3, .int X3), (4, .int X4)] [] m (vI o.1) o.2
  | 0, _, _, _, _, _, _, _, _, _, _, _, h => by cases h
  | n + 1, X3, x3, X4, x4, σ, p, m, o, hx3, hx4, H, h => by
    have hq : z_mth 131 = some z_r131 := rfl
    have ih := fun {X3 : Int32} {x3 : Int} {X4 : Int32} {x4 : Int} {σ : zS} {p : Nat} {m : zM} {o : Int × zS} => g_c_explainMissing_L17_ok (xl := xl) (xs := xs) n (X3 := X3) (x3 := x3) (X4 := X4) (x4 := x4) (σ := σ) (p := p) (m := m) (o := o)
    unfold g_c_explainMissing_L17 at h
    refine r_p hq 2 (pc' := 20) (L' := [(0, .ref 39), (2, .ref 56), (3, .int X3), (4, .int X4)]) (st' := [.ref 56, .int X4]) rfl ?_
    refine r_gI (pc' := 23) (L' := [(0, .ref 39), (2, .ref 56), (3, .int X3), (4, .int X4)]) H hq (z_at.mk 3 rfl rfl) rfl rfl rfl rfl ?_
    intro V_20 hV_20
    rcases z_ite h with ⟨c_23, h⟩ | ⟨c_23, h⟩
    · refine r_t2 (pc' := 96) (L' := [(0, .ref 39), (2, .ref 56), (3, .int X3), (4, .int X4)]) hq (z_at.mk 3 rfl rfl) rfl hx4 hV_20 c_23 rfl rfl ?_
      refine r_p hq 1 (pc' := 97) (L' := [(0, .ref 39), (2, .ref 56), (3, .int X3), (4, .int X4)]) (st' := [.int X3]) rfl ?_
      cases h
      exact r_ri hq (z_at.mk 1 rfl rfl) rfl rfl hx3 trivial H
    · refine r_f2 (pc' := 26) (L' := [(0, .ref 39), (2, .ref 56), (3, .int X3), (4, .int X4)]) hq (z_at.mk 3 rfl rfl) rfl hx4 hV_20 c_23 rfl rfl ?_
      refine r_p hq 1 (pc' := 27) (L' := [(0, .ref 39), (2, .ref 56), (3, .int X3), (4, .int X4)]) (st' := [.ref 39]) rfl ?_
      refine r_gR (b := 40) (pc' := 30) (L' := [(0, .ref 39), (2, .ref 56), (3, .int X3), (4, .int X4)]) H hq (z_at.mk 3 rfl rfl) rfl rfl rfl rfl ?_
      refine r_gR (b := 48) (pc' := 33) (L' := [(0, .ref 39), (2, .ref 56), (3, .int X3), (4, .int X4)]) H hq (z_at.mk 3 rfl rfl) rfl rfl rfl rfl ?_
      refine r_p hq 2 (pc' := 36) (L' := [(0, .ref 39), (2, .ref 56), (3, .int X3), (4, .int X4)]) (st' := [.int X4, .ref 56, .ref 48]) rfl ?_
      obtain ⟨o_36, h_36, h⟩ := Option.bind_eq_some_iff.mp h
      refine r_cvI (pc' := 39) (L' := [(0, .ref 39), (2, .ref 56), (3, .int X3), (4, .int X4)]) (Ps := [.int X4]) (rest := [.ref 48]) hq (z_at.mk 3 rfl rfl) (Or.inl ⟨rfl, rfl⟩) rfl rfl (by decide) (by decide) rfl (Nat.not_lt.mpr (Nat.le_of_ble_eq_true rfl)) rfl rfl (z_cat_le 1 rfl (by decide)) (z_lgl_le 2 rfl (by decide)) (by decide) (H.tg rfl) (by omega) (g_bs_at_ok rfl hx4 H h_36) rfl rfl ?_
      intro R_36 m_36 p_36 e_36 hR_36 H_36
      subst e_36
      obtain ⟨o_39, h_39, h⟩ := Option.bind_eq_some_iff.mp h
      refine r_cvI (pc' := 42) (L' := [(0, .ref 39), (2, .ref 56), (3, .int X3), (4, .int X4)]) (Ps := [.int R_36]) (rest := []) hq (z_at.mk 3 rfl rfl) (Or.inl ⟨rfl, rfl⟩) rfl rfl (by decide) (by decide) rfl (Nat.not_lt.mpr (Nat.le_of_ble_eq_true rfl)) rfl rfl (z_cat_le 0 rfl (by decide)) (z_lgl_le 2 rfl (by decide)) (by decide) (H_36.tg rfl) (by omega) (g_ca_costOf_ok rfl hR_36 H_36 h_39) rfl rfl ?_
      intro R_39 m_39 p_39 e_39 hR_39 H_39
      subst e_39
      refine r_p hq 2 (pc' := 45) (L' := [(5, .int R_39), (0, .ref 39), (2, .ref 56), (3, .int X3), (4, .int X4)]) (st' := [.ref 39]) rfl ?_
      refine r_gR (b := 129) (pc' := 48) (L' := [(5, .int R_39), (0, .ref 39), (2, .ref 56), (3, .int X3), (4, .int X4)]) H_39 hq (z_at.mk 3 rfl rfl) rfl rfl rfl rfl ?_
      refine r_p hq 1 (pc' := 51) (L' := [(5, .int R_39), (0, .ref 39), (2, .ref 56), (3, .int X3), (4, .int X4)]) (st' := [.ref 9, .ref 129]) rfl ?_
      obtain ⟨o_51, h_51, h⟩ := Option.bind_eq_some_iff.mp h
      refine r_cvR (pc' := 54) (L' := [(5, .int R_39), (0, .ref 39), (2, .ref 56), (3, .int X3), (4, .int X4)]) (Ps := [.ref 9]) (rest := []) hq (z_at.mk 3 rfl rfl) (Or.inl ⟨rfl, rfl⟩) rfl rfl (by decide) (by decide) rfl (Nat.not_lt.mpr (Nat.le_of_ble_eq_true rfl)) rfl rfl (z_cat_le 0 rfl (by decide)) (z_lgl_le 2 rfl (by decide)) (by decide) (H_39.tg rfl) (by omega) (g_jStringBuilder_append_302_ok rfl H_39 h_51) rfl rfl ?_
      intro m_51 p_51 e_51 H_51
      refine r_p hq 4 (pc' := 59) (L' := [(5, .int R_39), (0, .ref 39), (2, .ref 56), (3, .int X3), (4, .int X4)]) (st' := [.int X4, .ref 56, .ref 39]) rfl ?_
      obtain ⟨o_59, h_59, h⟩ := Option.bind_eq_some_iff.mp h
      refine r_cvI (pc' := 62) (L' := [(5, .int R_39), (0, .ref 39), (2, .ref 56), (3, .int X3), (4, .int X4)]) (Ps := [.int X4]) (rest := [.ref 39]) hq (z_at.mk 3 rfl rfl) (Or.inl ⟨rfl, rfl⟩) rfl rfl (by decide) (by decide) rfl (Nat.not_lt.mpr (Nat.le_of_ble_eq_true rfl)) rfl rfl (z_cat_le 1 rfl (by decide)) (z_lgl_le 2 rfl (by decide)) (by decide) (H_51.tg rfl) (by omega) (g_bs_at_ok rfl hx4 H_51 h_59) rfl rfl ?_
      intro R_59 m_59 p_59 e_59 hR_59 H_59
      subst e_59
      obtain ⟨o_62, h_62, h⟩ := Option.bind_eq_some_iff.mp h
      refine r_cvV (pc' := 65) (L' := [(5, .int R_39), (0, .ref 39), (2, .ref 56), (3, .int X3), (4, .int X4)]) (Ps := [.int R_59]) (rest := []) hq (z_at.mk 3 rfl rfl) (Or.inl ⟨rfl, rfl⟩) rfl rfl (by decide) (by decide) rfl (Nat.not_lt.mpr (Nat.le_of_ble_eq_true rfl)) rfl rfl (z_cat_le 0 rfl (by decide)) (z_lgl_le 2 rfl (by decide)) (by decide) (H_59.tg rfl) (by omega) (g_c_spellBox_ok hR_59 H_59 h_62) rfl rfl ?_
      intro m_62 p_62 e_62 H_62
      refine r_p hq 1 (pc' := 66) (L' := [(5, .int R_39), (0, .ref 39), (2, .ref 56), (3, .int X3), (4, .int X4)]) (st' := [.ref 39]) rfl ?_
      refine r_gR (b := 129) (pc' := 69) (L' := [(5, .int R_39), (0, .ref 39), (2, .ref 56), (3, .int X3), (4, .int X4)]) H_62 hq (z_at.mk 3 rfl rfl) rfl rfl rfl rfl ?_
      refine r_p hq 1 (pc' := 71) (L' := [(5, .int R_39), (0, .ref 39), (2, .ref 56), (3, .int X3), (4, .int X4)]) (st' := [.int ((32 : Int32)), .ref 129]) rfl ?_
      obtain ⟨o_71, h_71, h⟩ := Option.bind_eq_some_iff.mp h
      refine r_cvR (pc' := 74) (L' := [(5, .int R_39), (0, .ref 39), (2, .ref 56), (3, .int X3), (4, .int X4)]) (Ps := [.int ((32 : Int32))]) (rest := []) hq (z_at.mk 3 rfl rfl) (Or.inl ⟨rfl, rfl⟩) rfl rfl (by decide) (by decide) rfl (Nat.not_lt.mpr (Nat.le_of_ble_eq_true rfl)) rfl rfl (z_cat_le 0 rfl (by decide)) (z_lgl_le 2 rfl (by decide)) (by decide) (H_62.tg rfl) (by omega) (g_jStringBuilder_append_303_ok (rfl : (32 : Int32).toInt = 32) H_62 h_71) rfl rfl ?_
      intro m_71 p_71 e_71 H_71
      refine r_p hq 1 (pc' := 76) (L' := [(5, .int R_39), (0, .ref 39), (2, .ref 56), (3, .int X3), (4, .int X4)]) (st' := [.int R_39, .ref 129]) rfl ?_
      obtain ⟨o_76, h_76, h⟩ := Option.bind_eq_some_iff.mp h
      refine r_cvR (pc' := 79) (L' := [(5, .int R_39), (0, .ref 39), (2, .ref 56), (3, .int X3), (4, .int X4)]) (Ps := [.int R_39]) (rest := []) hq (z_at.mk 3 rfl rfl) (Or.inl ⟨rfl, rfl⟩) rfl rfl (by decide) (by decide) rfl (Nat.not_lt.mpr (Nat.le_of_ble_eq_true rfl)) rfl rfl (z_cat_le 0 rfl (by decide)) (z_lgl_le 2 rfl (by decide)) (by decide) (H_71.tg rfl) (by omega) (g_jStringBuilder_append_304_ok hR_39 H_71 h_76) rfl rfl ?_
      intro m_76 p_76 e_76 H_76
      refine r_p hq 1 (pc' := 81) (L' := [(5, .int R_39), (0, .ref 39), (2, .ref 56), (3, .int X3), (4, .int X4)]) (st' := [.int ((59 : Int32)), .ref 129]) rfl ?_
      obtain ⟨o_81, h_81, h⟩ := Option.bind_eq_some_iff.mp h
      refine r_cvR (pc' := 84) (L' := [(5, .int R_39), (0, .ref 39), (2, .ref 56), (3, .int X3), (4, .int X4)]) (Ps := [.int ((59 : Int32))]) (rest := []) hq (z_at.mk 3 rfl rfl) (Or.inl ⟨rfl, rfl⟩) rfl rfl (by decide) (by decide) rfl (Nat.not_lt.mpr (Nat.le_of_ble_eq_true rfl)) rfl rfl (z_cat_le 0 rfl (by decide)) (z_lgl_le 2 rfl (by decide)) (by decide) (H_76.tg rfl) (by omega) (g_jStringBuilder_append_303_ok (rfl : (59 : Int32).toInt = 59) H_76 h_81) rfl rfl ?_
      intro m_81 p_81 e_81 H_81
      refine r_p hq 7 (pc' := 17) (L' := [(0, .ref 39), (2, .ref 56), (3, .int (X3 + R_39)), (4, .int (X4 + (1 : Int32)))]) (st' := []) rfl ?_
      exact ih (tx_iadd hx3 hR_39) (tx_iadd hx4 (rfl : (1 : Int32).toInt = 1)) H_81 h
def g_c_explainMissing (x1 : Int) (σ : zS) : Option (Int × zS) :=
  (g_ca_missingOf 48 x1 σ).bind fun o_8 =>
  g_c_explainMissing_L17 zK 0 0 o_8.2
set_option maxHeartbeats 4000000 in
theorem g_c_explainMissing_ok {xl : Nat} {xs : Nat → Int32} {X1 : Int32} {x1 : Int} (hx1 : X1.toInt = x1) {σ : zS} {p : Nat} {m : zM} {o : Int × zS} (H : zRep xl xs p m σ) (h : g_c_explainMissing x1 σ = some o) : zGo xl xs (fun _ => True) 14 131 0 (z_can 131 0 (lv_args 0 [.ref 39, .int X1])) [] m (vI o.1) o.2 := by
  have hq : z_mth 131 = some z_r131 := rfl
  unfold g_c_explainMissing at h
  show zGo xl xs (fun _ => True) 14 131 0 [(0, .ref 39), (1, .int X1)] [] m (vI o.1) o.2
  refine r_p hq 1 (pc' := 1) (L' := [(0, .ref 39), (1, .int X1)]) (st' := [.ref 39]) rfl ?_
  refine r_gR (b := 40) (pc' := 4) (L' := [(0, .ref 39), (1, .int X1)]) H hq (z_at.mk 3 rfl rfl) rfl rfl rfl rfl ?_
  refine r_gR (b := 48) (pc' := 7) (L' := [(0, .ref 39), (1, .int X1)]) H hq (z_at.mk 3 rfl rfl) rfl rfl rfl rfl ?_
  refine r_p hq 1 (pc' := 8) (L' := [(0, .ref 39), (1, .int X1)]) (st' := [.int X1, .ref 48]) rfl ?_
  obtain ⟨o_8, h_8, h⟩ := Option.bind_eq_some_iff.mp h
  refine r_cvR (pc' := 11) (L' := [(0, .ref 39), (1, .int X1)]) (Ps := [.int X1]) (rest := []) hq (z_at.mk 3 rfl rfl) (Or.inl ⟨rfl, rfl⟩) rfl rfl (by decide) (by decide) rfl (Nat.not_lt.mpr (Nat.le_of_ble_eq_true rfl)) rfl rfl (z_cat_le 0 rfl (by decide)) (z_lgl_le 2 rfl (by decide)) (by decide) (H.tg rfl) (by omega) (g_ca_missingOf_ok rfl hx1 H h_8) rfl rfl ?_
  intro m_8 p_8 e_8 H_8
  subst e_8
  refine r_p hq 5 (pc' := 17) (L' := [(0, .ref 39), (2, .ref 56), (3, .int ((0 : Int32))), (4, .int ((0 : Int32)))]) (st' := []) rfl ?_
  exact g_c_explainMissing_L17_ok zK (rfl : (0 : Int32).toInt = 0) (rfl : (0 : Int32).toInt = 0) H_8 h
def g_c_explain_L135 (g35 : Int → Int → zS → Option (Int × zS)) (x5 : Int) (x6 : Int) (σ : zS) : Option (Int × zS) :=
  g35 x5 (w32 (x6 + 1)) σ
set_option maxHeartbeats 4000000 in
theorem g_c_explain_L135_ok {xl : Nat} {xs : Nat → Int32} {g35 : Int → Int → zS → Option (Int × zS)} (hg35 : ∀ {X5 : Int32} {x5 : Int} {X6 : Int32} {x6 : Int} {σ : zS} {p : Nat} {m : zM} {o : Int × zS}, X5.toInt = x5 → X6.toInt = x6 → zRep xl xs p m σ → g35 x5 x6 σ = some o → zGo xl xs (fun _ => True) 15 130 35 [(0, .ref 39), (5, .int X5), (6, .int X6)] [] m (vI o.1) o.2) {X5 : Int32} {x5 : Int} (hx5 : X5.toInt = x5) {X6 : Int32} {x6 : Int} (hx6 : X6.toInt = x6) {σ : zS} {p : Nat} {m : zM} {o : Int × zS} (H : zRep xl xs p m σ) (h : g_c_explain_L135 g35 x5 x6 σ = some o) : zGo xl xs (fun _ => True) 15 130 135 [(0, .ref 39), (5, .int X5), (6, .int X6)] [] m (vI o.1) o.2 := by
  have hq : z_mth 130 = some z_r130 := rfl
  unfold g_c_explain_L135 at h
  refine r_p hq 2 (pc' := 35) (L' := [(0, .ref 39), (5, .int X5), (6, .int (X6 + (1 : Int32)))]) (st' := []) rfl ?_
  exact hg35 hx5 (tx_iadd hx6 (rfl : (1 : Int32).toInt = 1)) H h
def g_c_explain_L35 : Nat → Int → Int → zS → Option (Int × zS)
  | 0, _, _, _ => none
  | n + 1, x5, x6, σ =>
    let v_44 := σ 48 2
    if v_44 ≤ x6 then
      (g_c_explainMissing x5 σ).bind fun o_144 =>
      (g_jStringBuilder_append_302 10 o_144.2).bind fun o_156 =>
      (g_jStringBuilder_append_304 o_144.1 o_156.2).bind fun o_161 =>
      (g_jStringBuilder_length o_161.2).bind fun o_169 =>
      some (o_169.1, o_169.2)
    else
      if 0 ≤ x6 ∧ x6 < 181 then
      let v_62 := σ 52 x6
      (g_b_meet v_62 x5 σ).bind fun o_65 =>
      if o_65.1 = 0 then
        g_c_explain_L135 ((g_c_explain_L35 n)) x5 x6 o_65.2
      else
        (g_jStringBuilder_append_302 8 o_65.2).bind fun o_78 =>
        if 0 ≤ x6 ∧ x6 < 181 then
        let v_93 := o_78.2 51 x6
        (g_jStringBuilder_append_304 v_93 o_78.2).bind fun o_94 =>
        (g_jStringBuilder_append_303 32 o_94.2).bind fun o_99 =>
        if 0 ≤ x6 ∧ x6 < 181 then
        let v_116 := o_99.2 52 x6
        (g_b_common v_116 x5 o_99.2).bind fun o_119 =>
        (g_c_spellBox o_119.1 o_119.2).bind fun o_122 =>
        (g_jStringBuilder_append_303 59 o_122.2).bind fun o_131 =>
        g_c_explain_L135 ((g_c_explain_L35 n)) x5 x6 o_131.2
        else none
        else none
      else none
set_option maxHeartbeats 4000000 in
theorem g_c_explain_L35_ok {xl : Nat} {xs : Nat → Int32} : ∀ (n : Nat) {X5 : Int32} {x5 : Int} {X6 : Int32} {x6 : Int} {σ : zS} {p : Nat} {m : zM} {o : Int × zS}, X5.toInt = x5 → X6.toInt = x6 → zRep xl xs p m σ → g_c_explain_L35 n x5 x6 σ = some o → zGo xl xs (fun _ => True) 15 130 35 [(0, .ref 39), (5, .int X5), (6, .int X6)] [] m (vI o.1) o.2
  | 0, _, _, _, _, _, _, _, _, _, _, _, h => by cases h
  | n + 1, X5, x5, X6, x6, σ, p, m, o, hx5, hx6, H, h => by
    have hq : z_mth 130 = some z_r130 := rfl
    have ih := fun {X5 : Int32} {x5 : Int} {X6 : Int32} {x6 : Int} {σ : zS} {p : Nat} {m : zM} {o : Int × zS} => g_c_explain_L35_ok (xl := xl) (xs := xs) n (X5 := X5) (x5 := x5) (X6 := X6) (x6 := x6) (σ := σ) (p := p) (m := m) (o := o)
    unfold g_c_explain_L35 at h
    refine r_p hq 2 (pc' := 38) (L' := [(0, .ref 39), (5, .int X5), (6, .int X6)]) (st' := [.ref 39, .int X6]) rfl ?_
    refine r_gR (b := 40) (pc' := 41) (L' := [(0, .ref 39), (5, .int X5), (6, .int X6)]) H hq (z_at.mk 3 rfl rfl) rfl rfl rfl rfl ?_
    refine r_gR (b := 48) (pc' := 44) (L' := [(0, .ref 39), (5, .int X5), (6, .int X6)]) H hq (z_at.mk 3 rfl rfl) rfl rfl rfl rfl ?_
    refine r_gI (pc' := 47) (L' := [(0, .ref 39), (5, .int X5), (6, .int X6)]) H hq (z_at.mk 3 rfl rfl) rfl rfl rfl rfl ?_
    intro V_44 hV_44
    rcases z_ite h with ⟨c_47, h⟩ | ⟨c_47, h⟩
    · refine r_t2 (pc' := 141) (L' := [(0, .ref 39), (5, .int X5), (6, .int X6)]) hq (z_at.mk 3 rfl rfl) rfl hx6 hV_44 c_47 rfl rfl ?_
      refine r_p hq 2 (pc' := 144) (L' := [(0, .ref 39), (5, .int X5), (6, .int X6)]) (st' := [.int X5, .ref 39]) rfl ?_
      obtain ⟨o_144, h_144, h⟩ := Option.bind_eq_some_iff.mp h
      refine r_cvI (pc' := 147) (L' := [(0, .ref 39), (5, .int X5), (6, .int X6)]) (Ps := [.int X5]) (rest := []) hq (z_at.mk 3 rfl rfl) (Or.inl ⟨rfl, rfl⟩) rfl rfl (by decide) (by decide) rfl (Nat.not_lt.mpr (Nat.le_of_ble_eq_true rfl)) rfl rfl (z_cat_le 0 rfl (by decide)) (z_lgl_le 2 rfl (by decide)) (by decide) (H.tg rfl) (by omega) (g_c_explainMissing_ok hx5 H h_144) rfl rfl ?_
      intro R_144 m_144 p_144 e_144 hR_144 H_144
      refine r_p hq 2 (pc' := 150) (L' := [(6, .int R_144), (0, .ref 39), (5, .int X5)]) (st' := [.ref 39]) rfl ?_
      refine r_gR (b := 129) (pc' := 153) (L' := [(6, .int R_144), (0, .ref 39), (5, .int X5)]) H_144 hq (z_at.mk 3 rfl rfl) rfl rfl rfl rfl ?_
      refine r_p hq 1 (pc' := 156) (L' := [(6, .int R_144), (0, .ref 39), (5, .int X5)]) (st' := [.ref 10, .ref 129]) rfl ?_
      obtain ⟨o_156, h_156, h⟩ := Option.bind_eq_some_iff.mp h
      refine r_cvR (pc' := 159) (L' := [(6, .int R_144), (0, .ref 39), (5, .int X5)]) (Ps := [.ref 10]) (rest := []) hq (z_at.mk 3 rfl rfl) (Or.inl ⟨rfl, rfl⟩) rfl rfl (by decide) (by decide) rfl (Nat.not_lt.mpr (Nat.le_of_ble_eq_true rfl)) rfl rfl (z_cat_le 0 rfl (by decide)) (z_lgl_le 2 rfl (by decide)) (by decide) (H_144.tg rfl) (by omega) (g_jStringBuilder_append_302_ok rfl H_144 h_156) rfl rfl ?_
      intro m_156 p_156 e_156 H_156
      refine r_p hq 1 (pc' := 161) (L' := [(6, .int R_144), (0, .ref 39), (5, .int X5)]) (st' := [.int R_144, .ref 129]) rfl ?_
      obtain ⟨o_161, h_161, h⟩ := Option.bind_eq_some_iff.mp h
      refine r_cvR (pc' := 164) (L' := [(6, .int R_144), (0, .ref 39), (5, .int X5)]) (Ps := [.int R_144]) (rest := []) hq (z_at.mk 3 rfl rfl) (Or.inl ⟨rfl, rfl⟩) rfl rfl (by decide) (by decide) rfl (Nat.not_lt.mpr (Nat.le_of_ble_eq_true rfl)) rfl rfl (z_cat_le 0 rfl (by decide)) (z_lgl_le 2 rfl (by decide)) (by decide) (H_156.tg rfl) (by omega) (g_jStringBuilder_append_304_ok hR_144 H_156 h_161) rfl rfl ?_
      intro m_161 p_161 e_161 H_161
      refine r_p hq 2 (pc' := 166) (L' := [(6, .int R_144), (0, .ref 39), (5, .int X5)]) (st' := [.ref 39]) rfl ?_
      refine r_gR (b := 129) (pc' := 169) (L' := [(6, .int R_144), (0, .ref 39), (5, .int X5)]) H_161 hq (z_at.mk 3 rfl rfl) rfl rfl rfl rfl ?_
      obtain ⟨o_169, h_169, h⟩ := Option.bind_eq_some_iff.mp h
      refine r_cvI (pc' := 172) (L' := [(6, .int R_144), (0, .ref 39), (5, .int X5)]) (Ps := []) (rest := []) hq (z_at.mk 3 rfl rfl) (Or.inl ⟨rfl, rfl⟩) rfl rfl (by decide) (by decide) rfl (Nat.not_lt.mpr (Nat.le_of_ble_eq_true rfl)) rfl rfl (z_cat_le 0 rfl (by decide)) (z_lgl_le 1 rfl (by decide)) (by decide) (H_161.tg rfl) (by omega) (g_jStringBuilder_length_ok H_161 h_169) rfl rfl ?_
      intro R_169 m_169 p_169 e_169 hR_169 H_169
      subst e_169
      cases h
      exact r_ri hq (z_at.mk 1 rfl rfl) rfl rfl hR_169 trivial H_169
    · refine r_f2 (pc' := 50) (L' := [(0, .ref 39), (5, .int X5), (6, .int X6)]) hq (z_at.mk 3 rfl rfl) rfl hx6 hV_44 c_47 rfl rfl ?_
      refine r_p hq 1 (pc' := 51) (L' := [(0, .ref 39), (5, .int X5), (6, .int X6)]) (st' := [.ref 39]) rfl ?_
      refine r_gR (b := 40) (pc' := 54) (L' := [(0, .ref 39), (5, .int X5), (6, .int X6)]) H hq (z_at.mk 3 rfl rfl) rfl rfl rfl rfl ?_
      refine r_gR (b := 48) (pc' := 57) (L' := [(0, .ref 39), (5, .int X5), (6, .int X6)]) H hq (z_at.mk 3 rfl rfl) rfl rfl rfl rfl ?_
      refine r_gR (b := 52) (pc' := 60) (L' := [(0, .ref 39), (5, .int X5), (6, .int X6)]) H hq (z_at.mk 3 rfl rfl) rfl rfl rfl rfl ?_
      refine r_p hq 1 (pc' := 62) (L' := [(0, .ref 39), (5, .int X5), (6, .int X6)]) (st' := [.int X6, .ref 52]) rfl ?_
      obtain ⟨g_62, h⟩ := z_ifo_some h
      refine r_ia (pc' := 63) (L' := [(0, .ref 39), (5, .int X5), (6, .int X6)]) H hq (z_at.mk 1 rfl rfl) (show zAr 52 0 181 = true from rfl) hx6 g_62 rfl rfl ?_
      intro V_62 hV_62
      refine r_p hq 1 (pc' := 65) (L' := [(0, .ref 39), (5, .int X5), (6, .int X6)]) (st' := [.int X5, .int V_62]) rfl ?_
      obtain ⟨o_65, h_65, h⟩ := Option.bind_eq_some_iff.mp h
      refine r_csI (pc' := 68) (L' := [(0, .ref 39), (5, .int X5), (6, .int X6)]) (As := [.int V_62, .int X5]) (rest := []) (j := 9) hq (z_at.mk 3 rfl rfl) (Or.inl ⟨rfl, rfl⟩) rfl rfl (by omega) (g_b_meet_ok hV_62 hx5 H h_65) rfl rfl ?_
      intro R_65 m_65 p_65 e_65 hR_65 H_65
      subst e_65
      rcases z_ite h with ⟨c_68, h⟩ | ⟨c_68, h⟩
      · refine r_t1 (pc' := 135) (L' := [(0, .ref 39), (5, .int X5), (6, .int X6)]) hq (z_at.mk 3 rfl rfl) rfl hR_65 c_68 rfl rfl ?_
        exact g_c_explain_L135_ok ih hx5 hx6 H_65 h
      · refine r_f1 (pc' := 71) (L' := [(0, .ref 39), (5, .int X5), (6, .int X6)]) hq (z_at.mk 3 rfl rfl) rfl hR_65 c_68 rfl rfl ?_
        refine r_p hq 1 (pc' := 72) (L' := [(0, .ref 39), (5, .int X5), (6, .int X6)]) (st' := [.ref 39]) rfl ?_
        refine r_gR (b := 129) (pc' := 75) (L' := [(0, .ref 39), (5, .int X5), (6, .int X6)]) H_65 hq (z_at.mk 3 rfl rfl) rfl rfl rfl rfl ?_
        refine r_p hq 1 (pc' := 78) (L' := [(0, .ref 39), (5, .int X5), (6, .int X6)]) (st' := [.ref 8, .ref 129]) rfl ?_
        obtain ⟨o_78, h_78, h⟩ := Option.bind_eq_some_iff.mp h
        refine r_cvR (pc' := 81) (L' := [(0, .ref 39), (5, .int X5), (6, .int X6)]) (Ps := [.ref 8]) (rest := []) hq (z_at.mk 3 rfl rfl) (Or.inl ⟨rfl, rfl⟩) rfl rfl (by decide) (by decide) rfl (Nat.not_lt.mpr (Nat.le_of_ble_eq_true rfl)) rfl rfl (z_cat_le 0 rfl (by decide)) (z_lgl_le 2 rfl (by decide)) (by decide) (H_65.tg rfl) (by omega) (g_jStringBuilder_append_302_ok rfl H_65 h_78) rfl rfl ?_
        intro m_78 p_78 e_78 H_78
        refine r_p hq 1 (pc' := 82) (L' := [(0, .ref 39), (5, .int X5), (6, .int X6)]) (st' := [.ref 39, .ref 129]) rfl ?_
        refine r_gR (b := 40) (pc' := 85) (L' := [(0, .ref 39), (5, .int X5), (6, .int X6)]) H_78 hq (z_at.mk 3 rfl rfl) rfl rfl rfl rfl ?_
        refine r_gR (b := 48) (pc' := 88) (L' := [(0, .ref 39), (5, .int X5), (6, .int X6)]) H_78 hq (z_at.mk 3 rfl rfl) rfl rfl rfl rfl ?_
        refine r_gR (b := 51) (pc' := 91) (L' := [(0, .ref 39), (5, .int X5), (6, .int X6)]) H_78 hq (z_at.mk 3 rfl rfl) rfl rfl rfl rfl ?_
        refine r_p hq 1 (pc' := 93) (L' := [(0, .ref 39), (5, .int X5), (6, .int X6)]) (st' := [.int X6, .ref 51, .ref 129]) rfl ?_
        obtain ⟨g_93, h⟩ := z_ifo_some h
        refine r_ia (pc' := 94) (L' := [(0, .ref 39), (5, .int X5), (6, .int X6)]) H_78 hq (z_at.mk 1 rfl rfl) (show zAr 51 0 181 = true from rfl) hx6 g_93 rfl rfl ?_
        intro V_93 hV_93
        obtain ⟨o_94, h_94, h⟩ := Option.bind_eq_some_iff.mp h
        refine r_cvR (pc' := 97) (L' := [(0, .ref 39), (5, .int X5), (6, .int X6)]) (Ps := [.int V_93]) (rest := []) hq (z_at.mk 3 rfl rfl) (Or.inl ⟨rfl, rfl⟩) rfl rfl (by decide) (by decide) rfl (Nat.not_lt.mpr (Nat.le_of_ble_eq_true rfl)) rfl rfl (z_cat_le 0 rfl (by decide)) (z_lgl_le 2 rfl (by decide)) (by decide) (H_78.tg rfl) (by omega) (g_jStringBuilder_append_304_ok hV_93 H_78 h_94) rfl rfl ?_
        intro m_94 p_94 e_94 H_94
        refine r_p hq 1 (pc' := 99) (L' := [(0, .ref 39), (5, .int X5), (6, .int X6)]) (st' := [.int ((32 : Int32)), .ref 129]) rfl ?_
        obtain ⟨o_99, h_99, h⟩ := Option.bind_eq_some_iff.mp h
        refine r_cvR (pc' := 102) (L' := [(0, .ref 39), (5, .int X5), (6, .int X6)]) (Ps := [.int ((32 : Int32))]) (rest := []) hq (z_at.mk 3 rfl rfl) (Or.inl ⟨rfl, rfl⟩) rfl rfl (by decide) (by decide) rfl (Nat.not_lt.mpr (Nat.le_of_ble_eq_true rfl)) rfl rfl (z_cat_le 0 rfl (by decide)) (z_lgl_le 2 rfl (by decide)) (by decide) (H_94.tg rfl) (by omega) (g_jStringBuilder_append_303_ok (rfl : (32 : Int32).toInt = 32) H_94 h_99) rfl rfl ?_
        intro m_99 p_99 e_99 H_99
        refine r_p hq 3 (pc' := 105) (L' := [(0, .ref 39), (5, .int X5), (6, .int X6)]) (st' := [.ref 39, .ref 39]) rfl ?_
        refine r_gR (b := 40) (pc' := 108) (L' := [(0, .ref 39), (5, .int X5), (6, .int X6)]) H_99 hq (z_at.mk 3 rfl rfl) rfl rfl rfl rfl ?_
        refine r_gR (b := 48) (pc' := 111) (L' := [(0, .ref 39), (5, .int X5), (6, .int X6)]) H_99 hq (z_at.mk 3 rfl rfl) rfl rfl rfl rfl ?_
        refine r_gR (b := 52) (pc' := 114) (L' := [(0, .ref 39), (5, .int X5), (6, .int X6)]) H_99 hq (z_at.mk 3 rfl rfl) rfl rfl rfl rfl ?_
        refine r_p hq 1 (pc' := 116) (L' := [(0, .ref 39), (5, .int X5), (6, .int X6)]) (st' := [.int X6, .ref 52, .ref 39]) rfl ?_
        obtain ⟨g_116, h⟩ := z_ifo_some h
        refine r_ia (pc' := 117) (L' := [(0, .ref 39), (5, .int X5), (6, .int X6)]) H_99 hq (z_at.mk 1 rfl rfl) (show zAr 52 0 181 = true from rfl) hx6 g_116 rfl rfl ?_
        intro V_116 hV_116
        refine r_p hq 1 (pc' := 119) (L' := [(0, .ref 39), (5, .int X5), (6, .int X6)]) (st' := [.int X5, .int V_116, .ref 39]) rfl ?_
        obtain ⟨o_119, h_119, h⟩ := Option.bind_eq_some_iff.mp h
        refine r_csI (pc' := 122) (L' := [(0, .ref 39), (5, .int X5), (6, .int X6)]) (As := [.int V_116, .int X5]) (rest := [.ref 39]) (j := 10) hq (z_at.mk 3 rfl rfl) (Or.inl ⟨rfl, rfl⟩) rfl rfl (by omega) (g_b_common_ok hV_116 hx5 H_99 h_119) rfl rfl ?_
        intro R_119 m_119 p_119 e_119 hR_119 H_119
        subst e_119
        obtain ⟨o_122, h_122, h⟩ := Option.bind_eq_some_iff.mp h
        refine r_cvV (pc' := 125) (L' := [(0, .ref 39), (5, .int X5), (6, .int X6)]) (Ps := [.int R_119]) (rest := []) hq (z_at.mk 3 rfl rfl) (Or.inl ⟨rfl, rfl⟩) rfl rfl (by decide) (by decide) rfl (Nat.not_lt.mpr (Nat.le_of_ble_eq_true rfl)) rfl rfl (z_cat_le 0 rfl (by decide)) (z_lgl_le 2 rfl (by decide)) (by decide) (H_119.tg rfl) (by omega) (g_c_spellBox_ok hR_119 H_119 h_122) rfl rfl ?_
        intro m_122 p_122 e_122 H_122
        refine r_p hq 1 (pc' := 126) (L' := [(0, .ref 39), (5, .int X5), (6, .int X6)]) (st' := [.ref 39]) rfl ?_
        refine r_gR (b := 129) (pc' := 129) (L' := [(0, .ref 39), (5, .int X5), (6, .int X6)]) H_122 hq (z_at.mk 3 rfl rfl) rfl rfl rfl rfl ?_
        refine r_p hq 1 (pc' := 131) (L' := [(0, .ref 39), (5, .int X5), (6, .int X6)]) (st' := [.int ((59 : Int32)), .ref 129]) rfl ?_
        obtain ⟨o_131, h_131, h⟩ := Option.bind_eq_some_iff.mp h
        refine r_cvR (pc' := 134) (L' := [(0, .ref 39), (5, .int X5), (6, .int X6)]) (Ps := [.int ((59 : Int32))]) (rest := []) hq (z_at.mk 3 rfl rfl) (Or.inl ⟨rfl, rfl⟩) rfl rfl (by decide) (by decide) rfl (Nat.not_lt.mpr (Nat.le_of_ble_eq_true rfl)) rfl rfl (z_cat_le 0 rfl (by decide)) (z_lgl_le 2 rfl (by decide)) (by decide) (H_122.tg rfl) (by omega) (g_jStringBuilder_append_303_ok (rfl : (59 : Int32).toInt = 59) H_122 h_131) rfl rfl ?_
        intro m_131 p_131 e_131 H_131
        refine r_p hq 1 (pc' := 135) (L' := [(0, .ref 39), (5, .int X5), (6, .int X6)]) (st' := []) rfl ?_
        exact g_c_explain_L135_ok ih hx5 hx6 H_131 h
def g_c_explain (x1 : Int) (x2 : Int) (x3 : Int) (x4 : Int) (σ : zS) : Option (Int × zS) :=
  (g_b_isBox x1 x2 x3 x4 σ).bind fun o_5 =>
  if o_5.1 ≠ 0 then
    (g_b_of x1 x2 x3 x4 o_5.2).bind fun o_19 =>
    (g_jStringBuilder_setLength 0 o_19.2).bind fun o_29 =>
    g_c_explain_L35 zK o_19.1 0 o_29.2
  else
    some (-2, o_5.2)
set_option maxHeartbeats 4000000 in
theorem g_c_explain_ok {xl : Nat} {xs : Nat → Int32} {X1 : Int32} {x1 : Int} (hx1 : X1.toInt = x1) {X2 : Int32} {x2 : Int} (hx2 : X2.toInt = x2) {X3 : Int32} {x3 : Int} (hx3 : X3.toInt = x3) {X4 : Int32} {x4 : Int} (hx4 : X4.toInt = x4) {σ : zS} {p : Nat} {m : zM} {o : Int × zS} (H : zRep xl xs p m σ) (h : g_c_explain x1 x2 x3 x4 σ = some o) : zGo xl xs (fun _ => True) 15 130 0 (z_can 130 0 (lv_args 0 [.ref 39, .int X1, .int X2, .int X3, .int X4])) [] m (vI o.1) o.2 := by
  have hq : z_mth 130 = some z_r130 := rfl
  unfold g_c_explain at h
  show zGo xl xs (fun _ => True) 15 130 0 [(0, .ref 39), (1, .int X1), (2, .int X2), (3, .int X3), (4, .int X4)] [] m (vI o.1) o.2
  refine r_p hq 4 (pc' := 5) (L' := [(0, .ref 39), (1, .int X1), (2, .int X2), (3, .int X3), (4, .int X4)]) (st' := [.int X4, .int X3, .int X2, .int X1]) rfl ?_
  obtain ⟨o_5, h_5, h⟩ := Option.bind_eq_some_iff.mp h
  refine r_csI (pc' := 8) (L' := [(0, .ref 39), (1, .int X1), (2, .int X2), (3, .int X3), (4, .int X4)]) (As := [.int X1, .int X2, .int X3, .int X4]) (rest := []) (j := 1) hq (z_at.mk 3 rfl rfl) (Or.inl ⟨rfl, rfl⟩) rfl rfl (by omega) (g_b_isBox_ok hx1 hx2 hx3 hx4 H h_5) rfl rfl ?_
  intro R_5 m_5 p_5 e_5 hR_5 H_5
  subst e_5
  rcases z_ite h with ⟨c_8, h⟩ | ⟨c_8, h⟩
  · refine r_t1 (pc' := 14) (L' := [(0, .ref 39), (1, .int X1), (2, .int X2), (3, .int X3), (4, .int X4)]) hq (z_at.mk 3 rfl rfl) rfl hR_5 c_8 rfl rfl ?_
    refine r_p hq 4 (pc' := 19) (L' := [(0, .ref 39), (1, .int X1), (2, .int X2), (3, .int X3), (4, .int X4)]) (st' := [.int X4, .int X3, .int X2, .int X1]) rfl ?_
    obtain ⟨o_19, h_19, h⟩ := Option.bind_eq_some_iff.mp h
    refine r_csI (pc' := 22) (L' := [(0, .ref 39), (1, .int X1), (2, .int X2), (3, .int X3), (4, .int X4)]) (As := [.int X1, .int X2, .int X3, .int X4]) (rest := []) (j := 2) hq (z_at.mk 3 rfl rfl) (Or.inl ⟨rfl, rfl⟩) rfl rfl (by omega) (g_b_of_ok hx1 hx2 hx3 hx4 H_5 h_19) rfl rfl ?_
    intro R_19 m_19 p_19 e_19 hR_19 H_19
    subst e_19
    refine r_p hq 2 (pc' := 25) (L' := [(5, .int R_19), (0, .ref 39), (1, .int X1), (2, .int X2), (3, .int X3), (4, .int X4)]) (st' := [.ref 39]) rfl ?_
    refine r_gR (b := 129) (pc' := 28) (L' := [(5, .int R_19), (0, .ref 39), (1, .int X1), (2, .int X2), (3, .int X3), (4, .int X4)]) H_19 hq (z_at.mk 3 rfl rfl) rfl rfl rfl rfl ?_
    refine r_p hq 1 (pc' := 29) (L' := [(5, .int R_19), (0, .ref 39), (1, .int X1), (2, .int X2), (3, .int X3), (4, .int X4)]) (st' := [.int ((0 : Int32)), .ref 129]) rfl ?_
    obtain ⟨o_29, h_29, h⟩ := Option.bind_eq_some_iff.mp h
    refine r_cvV (pc' := 32) (L' := [(5, .int R_19), (0, .ref 39), (1, .int X1), (2, .int X2), (3, .int X3), (4, .int X4)]) (Ps := [.int ((0 : Int32))]) (rest := []) hq (z_at.mk 3 rfl rfl) (Or.inl ⟨rfl, rfl⟩) rfl rfl (by decide) (by decide) rfl (Nat.not_lt.mpr (Nat.le_of_ble_eq_true rfl)) rfl rfl (z_cat_le 0 rfl (by decide)) (z_lgl_le 2 rfl (by decide)) (by decide) (H_19.tg rfl) (by omega) (g_jStringBuilder_setLength_ok (rfl : (0 : Int32).toInt = 0) H_19 h_29) rfl rfl ?_
    intro m_29 p_29 e_29 H_29
    refine r_p hq 2 (pc' := 35) (L' := [(0, .ref 39), (5, .int R_19), (6, .int ((0 : Int32)))]) (st' := []) rfl ?_
    exact g_c_explain_L35_ok zK hR_19 (rfl : (0 : Int32).toInt = 0) H_29 h
  · refine r_f1 (pc' := 11) (L' := [(0, .ref 39), (1, .int X1), (2, .int X2), (3, .int X3), (4, .int X4)]) hq (z_at.mk 3 rfl rfl) rfl hR_5 c_8 rfl rfl ?_
    refine r_p hq 1 (pc' := 13) (L' := [(0, .ref 39), (1, .int X1), (2, .int X2), (3, .int X3), (4, .int X4)]) (st' := [.int ((-2 : Int32))]) rfl ?_
    cases h
    exact r_ri hq (z_at.mk 1 rfl rfl) rfl rfl (rfl : (-2 : Int32).toInt = -2) trivial H_5
def g_jAbstractStringBuilder_charAt (x1 : Int) (σ : zS) : Option (Int × zS) :=
  let v_1 := σ 129 1
  let v_11 := σ 129 3
  (g_jMath_min_291 v_11 (iShr (σ 169 0) v_1) σ).bind fun o_18 =>
  if 0 ≤ x1 ∧ x1 < o_18.1 then
  if v_1 ≠ 0 then
    none
  else
    if 0 ≤ x1 ∧ x1 < o_18.2 169 0 then
    let v_35 := o_18.2 168 x1
    if 0 ≤ w16 (iAnd v_35 255) ∧ w16 (iAnd v_35 255) < 65536 then some (w16 (iAnd v_35 255), o_18.2) else none
    else none
  else none
set_option maxHeartbeats 4000000 in
theorem g_jAbstractStringBuilder_charAt_ok {xl : Nat} {xs : Nat → Int32} {X1 : Int32} {x1 : Int} (hx1 : X1.toInt = x1) {σ : zS} {p : Nat} {m : zM} {o : Int × zS} (H : zRep xl xs p m σ) (h : g_jAbstractStringBuilder_charAt x1 σ = some o) : zGo xl xs (fun p' => p = p') 2 277 0 (z_can 277 0 (lv_args 0 [.ref 129, .int X1])) [] m (vI o.1) o.2 := by
  have hq : z_mth 277 = some z_r277 := rfl
  unfold g_jAbstractStringBuilder_charAt at h
  show zGo xl xs (fun p' => p = p') 2 277 0 [(0, .ref 129), (1, .int X1)] [] m (vI o.1) o.2
  refine r_p hq 1 (pc' := 1) (L' := [(0, .ref 129), (1, .int X1)]) (st' := [.ref 129]) rfl ?_
  refine r_gI (pc' := 4) (L' := [(0, .ref 129), (1, .int X1)]) H hq (z_at.mk 3 rfl rfl) rfl rfl rfl rfl ?_
  intro V_1 hV_1
  refine r_p hq 2 (pc' := 6) (L' := [(2, .int V_1), (0, .ref 129), (1, .int X1)]) (st' := [.ref 129]) rfl ?_
  refine r_gP (pc' := 9) (L' := [(2, .int V_1), (0, .ref 129), (1, .int X1)]) H hq (z_at.mk 3 rfl rfl) rfl rfl rfl ?_
  refine r_p hq 2 (pc' := 11) (L' := [(3, .ref p), (2, .int V_1), (0, .ref 129), (1, .int X1)]) (st' := [.ref 129]) rfl ?_
  refine r_gI (pc' := 14) (L' := [(3, .ref p), (2, .int V_1), (0, .ref 129), (1, .int X1)]) H hq (z_at.mk 3 rfl rfl) rfl rfl rfl rfl ?_
  intro V_11 hV_11
  refine r_p hq 1 (pc' := 15) (L' := [(3, .ref p), (2, .int V_1), (0, .ref 129), (1, .int X1)]) (st' := [.ref p, .int V_11]) rfl ?_
  refine r_leP (pc' := 16) (L' := [(3, .ref p), (2, .int V_1), (0, .ref 129), (1, .int X1)]) H hq (z_at.mk 1 rfl rfl) rfl rfl ?_
  intro V_15 hV_15
  refine r_p hq 2 (pc' := 18) (L' := [(3, .ref p), (2, .int V_1), (0, .ref 129), (1, .int X1)]) (st' := [.int (V_15 >>> (V_1 &&& 31)), .int V_11]) rfl ?_
  obtain ⟨o_18, h_18, h⟩ := Option.bind_eq_some_iff.mp h
  refine r_csI (pc' := 21) (L' := [(3, .ref p), (2, .int V_1), (0, .ref 129), (1, .int X1)]) (As := [.int V_11, .int (V_15 >>> (V_1 &&& 31))]) (rest := []) (j := 291) hq (z_at.mk 3 rfl rfl) (Or.inl ⟨rfl, rfl⟩) rfl rfl (by omega) (g_jMath_min_291_ok hV_11 (tx_ishr hV_15 hV_1) H h_18) rfl rfl ?_
  intro R_18 m_18 p_18 e_18 hR_18 H_18
  subst e_18
  refine r_p hq 3 (pc' := 26) (L' := [(4, .int R_18), (3, .ref p), (2, .int V_1), (0, .ref 129), (1, .int X1)]) (st' := [.int R_18, .int X1]) rfl ?_
  obtain ⟨g_26, h⟩ := z_ifo_some h
  refine r_ci (pc' := 29) (L' := [(4, .int R_18), (3, .ref p), (2, .int V_1), (0, .ref 129), (1, .int X1)]) hq (z_at.mk 3 rfl rfl) rfl (z_cat_le 0 rfl (by decide)) hx1 hR_18 g_26 rfl rfl ?_
  refine r_p hq 1 (pc' := 30) (L' := [(4, .int R_18), (3, .ref p), (2, .int V_1), (0, .ref 129), (1, .int X1)]) (st' := [.int V_1]) rfl ?_
  rcases z_ite h with ⟨c_30, h⟩ | ⟨c_30, h⟩
  · refine r_t1 (pc' := 42) (L' := [(4, .int R_18), (3, .ref p), (2, .int V_1), (0, .ref 129), (1, .int X1)]) hq (z_at.mk 3 rfl rfl) rfl hV_1 c_30 rfl rfl ?_
    refine r_p hq 2 (pc' := 44) (L' := [(4, .int R_18), (3, .ref p), (2, .int V_1), (0, .ref 129), (1, .int X1)]) (st' := [.int X1, .ref p]) rfl ?_
    cases h
  · refine r_f1 (pc' := 33) (L' := [(4, .int R_18), (3, .ref p), (2, .int V_1), (0, .ref 129), (1, .int X1)]) hq (z_at.mk 3 rfl rfl) rfl hV_1 c_30 rfl rfl ?_
    refine r_p hq 2 (pc' := 35) (L' := [(4, .int R_18), (3, .ref p), (2, .int V_1), (0, .ref 129), (1, .int X1)]) (st' := [.int X1, .ref p]) rfl ?_
    obtain ⟨g_35, h⟩ := z_ifo_some h
    refine r_baP (pc' := 36) (L' := [(4, .int R_18), (3, .ref p), (2, .int V_1), (0, .ref 129), (1, .int X1)]) H_18 hq (z_at.mk 1 rfl rfl) hx1 g_35 rfl rfl ?_
    intro V_35 hV_35
    refine r_p hq 3 (pc' := 41) (L' := [(4, .int R_18), (3, .ref p), (2, .int V_1), (0, .ref 129), (1, .int X1)]) (st' := [.int (((V_35 &&& ((255 : Int32))).toUInt32 % 65536).toInt32)]) rfl ?_
    obtain ⟨g_41, h⟩ := z_if_some h
    cases h
    exact r_ri hq (z_at.mk 1 rfl rfl) rfl (z_rty_ch (tx_i2c (tx_iand hV_35 (rfl : (255 : Int32).toInt = 255))) g_41) (tx_i2c (tx_iand hV_35 (rfl : (255 : Int32).toInt = 255))) rfl H_18
def g_jStringBuilder_charAt (x1 : Int) (σ : zS) : Option (Int × zS) :=
  (g_jAbstractStringBuilder_charAt x1 σ).bind fun o_2 =>
  if 0 ≤ o_2.1 ∧ o_2.1 < 65536 then some (o_2.1, o_2.2) else none
set_option maxHeartbeats 4000000 in
theorem g_jStringBuilder_charAt_ok {xl : Nat} {xs : Nat → Int32} {X1 : Int32} {x1 : Int} (hx1 : X1.toInt = x1) {σ : zS} {p : Nat} {m : zM} {o : Int × zS} (H : zRep xl xs p m σ) (h : g_jStringBuilder_charAt x1 σ = some o) : zGo xl xs (fun p' => p = p') 3 305 0 (z_can 305 0 (lv_args 0 [.ref 129, .int X1])) [] m (vI o.1) o.2 := by
  have hq : z_mth 305 = some z_r305 := rfl
  unfold g_jStringBuilder_charAt at h
  show zGo xl xs (fun p' => p = p') 3 305 0 [(0, .ref 129), (1, .int X1)] [] m (vI o.1) o.2
  refine r_p hq 2 (pc' := 2) (L' := [(0, .ref 129), (1, .int X1)]) (st' := [.int X1, .ref 129]) rfl ?_
  obtain ⟨o_2, h_2, h⟩ := Option.bind_eq_some_iff.mp h
  refine r_cvI (pc' := 5) (L' := [(0, .ref 129), (1, .int X1)]) (Ps := [.int X1]) (rest := []) hq (z_at.mk 3 rfl rfl) (Or.inr ⟨rfl, rfl, rfl⟩) rfl rfl (by decide) (by decide) rfl (Nat.not_lt.mpr (Nat.le_of_ble_eq_true rfl)) rfl rfl (z_cat_le 0 rfl (by decide)) (z_lgl_le 2 rfl (by decide)) (by decide) (H.tg rfl) (by omega) (g_jAbstractStringBuilder_charAt_ok hx1 H h_2) rfl rfl ?_
  intro R_2 m_2 p_2 e_2 hR_2 H_2
  subst e_2
  obtain ⟨g_5, h⟩ := z_if_some h
  cases h
  exact r_ri hq (z_at.mk 1 rfl rfl) rfl (z_rty_ch hR_2 g_5) hR_2 rfl H_2
def g_c_paper (x1 : Int) (σ : zS) : Option (Int × zS) :=
  if x1 < 0 then
    some (-1, σ)
  else
    (g_jStringBuilder_length σ).bind fun o_9 =>
    if o_9.1 ≤ x1 then
      some (-1, o_9.2)
    else
      (g_jStringBuilder_charAt x1 o_9.2).bind fun o_20 =>
      some (o_20.1, o_20.2)
set_option maxHeartbeats 4000000 in
theorem g_c_paper_ok {xl : Nat} {xs : Nat → Int32} {X1 : Int32} {x1 : Int} (hx1 : X1.toInt = x1) {σ : zS} {p : Nat} {m : zM} {o : Int × zS} (H : zRep xl xs p m σ) (h : g_c_paper x1 σ = some o) : zGo xl xs (fun p' => p = p') 4 132 0 (z_can 132 0 (lv_args 0 [.ref 39, .int X1])) [] m (vI o.1) o.2 := by
  have hq : z_mth 132 = some z_r132 := rfl
  unfold g_c_paper at h
  show zGo xl xs (fun p' => p = p') 4 132 0 [(0, .ref 39), (1, .int X1)] [] m (vI o.1) o.2
  refine r_p hq 1 (pc' := 1) (L' := [(0, .ref 39), (1, .int X1)]) (st' := [.int X1]) rfl ?_
  rcases z_ite h with ⟨c_1, h⟩ | ⟨c_1, h⟩
  · refine r_t1 (pc' := 26) (L' := []) hq (z_at.mk 3 rfl rfl) rfl hx1 c_1 rfl rfl ?_
    refine r_p hq 1 (pc' := 27) (L' := []) (st' := [.int ((-1 : Int32))]) rfl ?_
    cases h
    exact r_ri hq (z_at.mk 1 rfl rfl) rfl rfl (rfl : (-1 : Int32).toInt = -1) rfl H
  · refine r_f1 (pc' := 4) (L' := [(0, .ref 39), (1, .int X1)]) hq (z_at.mk 3 rfl rfl) rfl hx1 c_1 rfl rfl ?_
    refine r_p hq 2 (pc' := 6) (L' := [(0, .ref 39), (1, .int X1)]) (st' := [.ref 39, .int X1]) rfl ?_
    refine r_gR (b := 129) (pc' := 9) (L' := [(0, .ref 39), (1, .int X1)]) H hq (z_at.mk 3 rfl rfl) rfl rfl rfl rfl ?_
    obtain ⟨o_9, h_9, h⟩ := Option.bind_eq_some_iff.mp h
    refine r_cvI (pc' := 12) (L' := [(0, .ref 39), (1, .int X1)]) (Ps := []) (rest := [.int X1]) hq (z_at.mk 3 rfl rfl) (Or.inl ⟨rfl, rfl⟩) rfl rfl (by decide) (by decide) rfl (Nat.not_lt.mpr (Nat.le_of_ble_eq_true rfl)) rfl rfl (z_cat_le 1 rfl (by decide)) (z_lgl_le 1 rfl (by decide)) (by decide) (H.tg rfl) (by omega) (g_jStringBuilder_length_ok H h_9) rfl rfl ?_
    intro R_9 m_9 p_9 e_9 hR_9 H_9
    subst e_9
    rcases z_ite h with ⟨c_12, h⟩ | ⟨c_12, h⟩
    · refine r_t2 (pc' := 26) (L' := []) hq (z_at.mk 3 rfl rfl) rfl hx1 hR_9 c_12 rfl rfl ?_
      refine r_p hq 1 (pc' := 27) (L' := []) (st' := [.int ((-1 : Int32))]) rfl ?_
      cases h
      exact r_ri hq (z_at.mk 1 rfl rfl) rfl rfl (rfl : (-1 : Int32).toInt = -1) rfl H_9
    · refine r_f2 (pc' := 15) (L' := [(0, .ref 39), (1, .int X1)]) hq (z_at.mk 3 rfl rfl) rfl hx1 hR_9 c_12 rfl rfl ?_
      refine r_p hq 1 (pc' := 16) (L' := [(0, .ref 39), (1, .int X1)]) (st' := [.ref 39]) rfl ?_
      refine r_gR (b := 129) (pc' := 19) (L' := [(0, .ref 39), (1, .int X1)]) H_9 hq (z_at.mk 3 rfl rfl) rfl rfl rfl rfl ?_
      refine r_p hq 1 (pc' := 20) (L' := [(0, .ref 39), (1, .int X1)]) (st' := [.int X1, .ref 129]) rfl ?_
      obtain ⟨o_20, h_20, h⟩ := Option.bind_eq_some_iff.mp h
      refine r_cvI (pc' := 23) (L' := [(0, .ref 39), (1, .int X1)]) (Ps := [.int X1]) (rest := []) hq (z_at.mk 3 rfl rfl) (Or.inl ⟨rfl, rfl⟩) rfl rfl (by decide) (by decide) rfl (Nat.not_lt.mpr (Nat.le_of_ble_eq_true rfl)) rfl rfl (z_cat_le 0 rfl (by decide)) (z_lgl_le 2 rfl (by decide)) (by decide) (H_9.tg rfl) (by omega) (g_jStringBuilder_charAt_ok hx1 H_9 h_20) rfl rfl ?_
      intro R_20 m_20 p_20 e_20 hR_20 H_20
      subst e_20
      refine r_p hq 1 (pc' := 27) (L' := []) (st' := [.int R_20]) rfl ?_
      cases h
      exact r_ri hq (z_at.mk 1 rfl rfl) rfl rfl hR_20 rfl H_20
def g_c_query (x1 : Int) (x2 : Int) (x3 : Int) (x4 : Int) (x5 : Int) (σ : zS) : Option (Int × zS) :=
  (g_fi_isMeasure x1 σ).bind fun o_1 =>
  if o_1.1 = 0 then
    some (-9223372036854775808, o_1.2)
  else
    (g_b_isBox x2 x3 x4 x5 o_1.2).bind fun o_13 =>
    if o_13.1 ≠ 0 then
      (g_b_of x2 x3 x4 x5 o_13.2).bind fun o_31 =>
      (g_c_done x1 o_31.1 (-1) o_31.2).bind fun o_37 =>
      some (o_37.1, o_37.2)
    else
      some (-9223372036854775808, o_13.2)
set_option maxHeartbeats 4000000 in
theorem g_c_query_ok {xl : Nat} {xs : Nat → Int32} {X1 : Int32} {x1 : Int} (hx1 : X1.toInt = x1) {X2 : Int32} {x2 : Int} (hx2 : X2.toInt = x2) {X3 : Int32} {x3 : Int} (hx3 : X3.toInt = x3) {X4 : Int32} {x4 : Int} (hx4 : X4.toInt = x4) {X5 : Int32} {x5 : Int} (hx5 : X5.toInt = x5) {σ : zS} {p : Nat} {m : zM} {o : Int × zS} (H : zRep xl xs p m σ) (h : g_c_query x1 x2 x3 x4 x5 σ = some o) : zGo xl xs (fun p' => p = p') 8 133 0 (z_can 133 0 (lv_args 0 [.ref 39, .int X1, .int X2, .int X3, .int X4, .int X5])) [] m (vL o.1) o.2 := by
  have hq : z_mth 133 = some z_r133 := rfl
  unfold g_c_query at h
  show zGo xl xs (fun p' => p = p') 8 133 0 [(0, .ref 39), (1, .int X1), (2, .int X2), (3, .int X3), (4, .int X4), (5, .int X5)] [] m (vL o.1) o.2
  refine r_p hq 1 (pc' := 1) (L' := [(0, .ref 39), (1, .int X1), (2, .int X2), (3, .int X3), (4, .int X4), (5, .int X5)]) (st' := [.int X1]) rfl ?_
  obtain ⟨o_1, h_1, h⟩ := Option.bind_eq_some_iff.mp h
  refine r_csI (pc' := 4) (L' := [(0, .ref 39), (1, .int X1), (2, .int X2), (3, .int X3), (4, .int X4), (5, .int X5)]) (As := [.int X1]) (rest := []) (j := 46) hq (z_at.mk 3 rfl rfl) (Or.inl ⟨rfl, rfl⟩) rfl rfl (by omega) (g_fi_isMeasure_ok hx1 H h_1) rfl rfl ?_
  intro R_1 m_1 p_1 e_1 hR_1 H_1
  subst e_1
  rcases z_ite h with ⟨c_4, h⟩ | ⟨c_4, h⟩
  · refine r_t1 (pc' := 19) (L' := []) hq (z_at.mk 3 rfl rfl) rfl hR_1 c_4 rfl rfl ?_
    refine r_p hq 1 (pc' := 22) (L' := []) (st' := [.long ((-9223372036854775808 : Int64))]) rfl ?_
    cases h
    exact r_rl hq (z_at.mk 1 rfl rfl) rfl (rfl : (-9223372036854775808 : Int64).toInt = -9223372036854775808) rfl H_1
  · refine r_f1 (pc' := 7) (L' := [(0, .ref 39), (1, .int X1), (2, .int X2), (3, .int X3), (4, .int X4), (5, .int X5)]) hq (z_at.mk 3 rfl rfl) rfl hR_1 c_4 rfl rfl ?_
    refine r_p hq 4 (pc' := 13) (L' := [(0, .ref 39), (1, .int X1), (2, .int X2), (3, .int X3), (4, .int X4), (5, .int X5)]) (st' := [.int X5, .int X4, .int X3, .int X2]) rfl ?_
    obtain ⟨o_13, h_13, h⟩ := Option.bind_eq_some_iff.mp h
    refine r_csI (pc' := 16) (L' := [(0, .ref 39), (1, .int X1), (2, .int X2), (3, .int X3), (4, .int X4), (5, .int X5)]) (As := [.int X2, .int X3, .int X4, .int X5]) (rest := []) (j := 1) hq (z_at.mk 3 rfl rfl) (Or.inl ⟨rfl, rfl⟩) rfl rfl (by omega) (g_b_isBox_ok hx2 hx3 hx4 hx5 H_1 h_13) rfl rfl ?_
    intro R_13 m_13 p_13 e_13 hR_13 H_13
    subst e_13
    rcases z_ite h with ⟨c_16, h⟩ | ⟨c_16, h⟩
    · refine r_t1 (pc' := 23) (L' := [(0, .ref 39), (1, .int X1), (2, .int X2), (3, .int X3), (4, .int X4), (5, .int X5)]) hq (z_at.mk 3 rfl rfl) rfl hR_13 c_16 rfl rfl ?_
      refine r_p hq 6 (pc' := 31) (L' := [(0, .ref 39), (1, .int X1), (2, .int X2), (3, .int X3), (4, .int X4), (5, .int X5)]) (st' := [.int X5, .int X4, .int X3, .int X2, .int X1, .ref 39]) rfl ?_
      obtain ⟨o_31, h_31, h⟩ := Option.bind_eq_some_iff.mp h
      refine r_csI (pc' := 34) (L' := [(0, .ref 39), (1, .int X1), (2, .int X2), (3, .int X3), (4, .int X4), (5, .int X5)]) (As := [.int X2, .int X3, .int X4, .int X5]) (rest := [.int X1, .ref 39]) (j := 2) hq (z_at.mk 3 rfl rfl) (Or.inl ⟨rfl, rfl⟩) rfl rfl (by omega) (g_b_of_ok hx2 hx3 hx4 hx5 H_13 h_31) rfl rfl ?_
      intro R_31 m_31 p_31 e_31 hR_31 H_31
      subst e_31
      refine r_p hq 1 (pc' := 37) (L' := [(0, .ref 39), (1, .int X1), (2, .int X2), (3, .int X3), (4, .int X4), (5, .int X5)]) (st' := [.long ((-1 : Int64)), .int R_31, .int X1, .ref 39]) rfl ?_
      obtain ⟨o_37, h_37, h⟩ := Option.bind_eq_some_iff.mp h
      refine r_cvL (pc' := 40) (L' := [(0, .ref 39), (1, .int X1), (2, .int X2), (3, .int X3), (4, .int X4), (5, .int X5)]) (Ps := [.int X1, .int R_31, .long ((-1 : Int64))]) (rest := []) hq (z_at.mk 3 rfl rfl) (Or.inl ⟨rfl, rfl⟩) rfl rfl (by decide) (by decide) rfl (Nat.not_lt.mpr (Nat.le_of_ble_eq_true rfl)) rfl rfl (z_cat_le 0 rfl (by decide)) (z_lgl_le 5 rfl (by decide)) (by decide) (H_31.tg rfl) (by omega) (g_c_done_ok hx1 hR_31 (rfl : (-1 : Int64).toInt = -1) H_31 h_37) rfl rfl ?_
      intro R_37 m_37 p_37 e_37 hR_37 H_37
      subst e_37
      cases h
      exact r_rl hq (z_at.mk 1 rfl rfl) rfl hR_37 rfl H_37
    · refine r_f1 (pc' := 19) (L' := []) hq (z_at.mk 3 rfl rfl) rfl hR_13 c_16 rfl rfl ?_
      refine r_p hq 1 (pc' := 22) (L' := []) (st' := [.long ((-9223372036854775808 : Int64))]) rfl ?_
      cases h
      exact r_rl hq (z_at.mk 1 rfl rfl) rfl (rfl : (-9223372036854775808 : Int64).toInt = -9223372036854775808) rfl H_13
def g_c_find (x1 : Int) (σ : zS) : Option (Int × zS) :=
  if x1 ≠ -1 then
    if x1 < 0 then
      some (-1, σ)
    else
      let v_28 := σ 60 2
      if v_28 ≤ x1 then
        some (-1, σ)
      else
        if 0 ≤ x1 ∧ x1 < 60 then
        let v_45 := σ 61 x1
        some (v_45, σ)
        else none
  else
    let v_12 := σ 60 2
    some (v_12, σ)
set_option maxHeartbeats 4000000 in
theorem g_c_find_ok {xl : Nat} {xs : Nat → Int32} {X1 : Int32} {x1 : Int} (hx1 : X1.toInt = x1) {σ : zS} {p : Nat} {m : zM} {o : Int × zS} (H : zRep xl xs p m σ) (h : g_c_find x1 σ = some o) : zGo xl xs (fun p' => p = p') 1 134 0 (z_can 134 0 (lv_args 0 [.ref 39, .int X1])) [] m (vI o.1) o.2 := by
  have hq : z_mth 134 = some z_r134 := rfl
  unfold g_c_find at h
  show zGo xl xs (fun p' => p = p') 1 134 0 [(0, .ref 39), (1, .int X1)] [] m (vI o.1) o.2
  refine r_p hq 2 (pc' := 2) (L' := [(0, .ref 39), (1, .int X1)]) (st' := [.int ((-1 : Int32)), .int X1]) rfl ?_
  rcases z_ite h with ⟨c_2, h⟩ | ⟨c_2, h⟩
  · refine r_t2 (pc' := 16) (L' := [(0, .ref 39), (1, .int X1)]) hq (z_at.mk 3 rfl rfl) rfl hx1 (rfl : (-1 : Int32).toInt = -1) c_2 rfl rfl ?_
    refine r_p hq 1 (pc' := 17) (L' := [(0, .ref 39), (1, .int X1)]) (st' := [.int X1]) rfl ?_
    rcases z_ite h with ⟨c_17, h⟩ | ⟨c_17, h⟩
    · refine r_t1 (pc' := 49) (L' := []) hq (z_at.mk 3 rfl rfl) rfl hx1 c_17 rfl rfl ?_
      refine r_p hq 1 (pc' := 50) (L' := []) (st' := [.int ((-1 : Int32))]) rfl ?_
      cases h
      exact r_ri hq (z_at.mk 1 rfl rfl) rfl rfl (rfl : (-1 : Int32).toInt = -1) rfl H
    · refine r_f1 (pc' := 20) (L' := [(0, .ref 39), (1, .int X1)]) hq (z_at.mk 3 rfl rfl) rfl hx1 c_17 rfl rfl ?_
      refine r_p hq 2 (pc' := 22) (L' := [(0, .ref 39), (1, .int X1)]) (st' := [.ref 39, .int X1]) rfl ?_
      refine r_gR (b := 40) (pc' := 25) (L' := [(0, .ref 39), (1, .int X1)]) H hq (z_at.mk 3 rfl rfl) rfl rfl rfl rfl ?_
      refine r_gR (b := 60) (pc' := 28) (L' := [(0, .ref 39), (1, .int X1)]) H hq (z_at.mk 3 rfl rfl) rfl rfl rfl rfl ?_
      refine r_gI (pc' := 31) (L' := [(0, .ref 39), (1, .int X1)]) H hq (z_at.mk 3 rfl rfl) rfl rfl rfl rfl ?_
      intro V_28 hV_28
      rcases z_ite h with ⟨c_31, h⟩ | ⟨c_31, h⟩
      · refine r_t2 (pc' := 49) (L' := []) hq (z_at.mk 3 rfl rfl) rfl hx1 hV_28 c_31 rfl rfl ?_
        refine r_p hq 1 (pc' := 50) (L' := []) (st' := [.int ((-1 : Int32))]) rfl ?_
        cases h
        exact r_ri hq (z_at.mk 1 rfl rfl) rfl rfl (rfl : (-1 : Int32).toInt = -1) rfl H
      · refine r_f2 (pc' := 34) (L' := [(0, .ref 39), (1, .int X1)]) hq (z_at.mk 3 rfl rfl) rfl hx1 hV_28 c_31 rfl rfl ?_
        refine r_p hq 1 (pc' := 35) (L' := [(0, .ref 39), (1, .int X1)]) (st' := [.ref 39]) rfl ?_
        refine r_gR (b := 40) (pc' := 38) (L' := [(0, .ref 39), (1, .int X1)]) H hq (z_at.mk 3 rfl rfl) rfl rfl rfl rfl ?_
        refine r_gR (b := 60) (pc' := 41) (L' := [(0, .ref 39), (1, .int X1)]) H hq (z_at.mk 3 rfl rfl) rfl rfl rfl rfl ?_
        refine r_gR (b := 61) (pc' := 44) (L' := [(0, .ref 39), (1, .int X1)]) H hq (z_at.mk 3 rfl rfl) rfl rfl rfl rfl ?_
        refine r_p hq 1 (pc' := 45) (L' := [(0, .ref 39), (1, .int X1)]) (st' := [.int X1, .ref 61]) rfl ?_
        obtain ⟨g_45, h⟩ := z_ifo_some h
        refine r_ia (pc' := 46) (L' := [(0, .ref 39), (1, .int X1)]) H hq (z_at.mk 1 rfl rfl) (show zAr 61 0 60 = true from rfl) hx1 g_45 rfl rfl ?_
        intro V_45 hV_45
        refine r_p hq 1 (pc' := 50) (L' := []) (st' := [.int V_45]) rfl ?_
        cases h
        exact r_ri hq (z_at.mk 1 rfl rfl) rfl rfl hV_45 rfl H
  · refine r_f2 (pc' := 5) (L' := [(0, .ref 39), (1, .int X1)]) hq (z_at.mk 3 rfl rfl) rfl hx1 (rfl : (-1 : Int32).toInt = -1) c_2 rfl rfl ?_
    refine r_p hq 1 (pc' := 6) (L' := [(0, .ref 39), (1, .int X1)]) (st' := [.ref 39]) rfl ?_
    refine r_gR (b := 40) (pc' := 9) (L' := [(0, .ref 39), (1, .int X1)]) H hq (z_at.mk 3 rfl rfl) rfl rfl rfl rfl ?_
    refine r_gR (b := 60) (pc' := 12) (L' := [(0, .ref 39), (1, .int X1)]) H hq (z_at.mk 3 rfl rfl) rfl rfl rfl rfl ?_
    refine r_gI (pc' := 15) (L' := [(0, .ref 39), (1, .int X1)]) H hq (z_at.mk 3 rfl rfl) rfl rfl rfl rfl ?_
    intro V_12 hV_12
    cases h
    exact r_ri hq (z_at.mk 1 rfl rfl) rfl rfl hV_12 rfl H
def g_c_addPiece_L28 (x1 : Int) (σ : zS) : Option (Unit × zS) :=
  (g_bs_add 131 x1 σ).bind fun o_33 =>
  some ((), o_33.2)
set_option maxHeartbeats 4000000 in
theorem g_c_addPiece_L28_ok {xl : Nat} {xs : Nat → Int32} {X1 : Int32} {x1 : Int} (hx1 : X1.toInt = x1) {σ : zS} {p : Nat} {m : zM} {o : Unit × zS} (H : zRep xl xs p m σ) (h : g_c_addPiece_L28 x1 σ = some o) : zGo xl xs (fun p' => p = p') 2 136 28 [(0, .ref 39), (1, .int X1)] [] m vV o.2 := by
  have hq : z_mth 136 = some z_r136 := rfl
  unfold g_c_addPiece_L28 at h
  refine r_p hq 1 (pc' := 29) (L' := [(0, .ref 39), (1, .int X1)]) (st' := [.ref 39]) rfl ?_
  refine r_gR (b := 131) (pc' := 32) (L' := [(0, .ref 39), (1, .int X1)]) H hq (z_at.mk 3 rfl rfl) rfl rfl rfl rfl ?_
  refine r_p hq 1 (pc' := 33) (L' := [(0, .ref 39), (1, .int X1)]) (st' := [.int X1, .ref 131]) rfl ?_
  obtain ⟨o_33, h_33, h⟩ := Option.bind_eq_some_iff.mp h
  refine r_cvI (pc' := 36) (L' := [(0, .ref 39), (1, .int X1)]) (Ps := [.int X1]) (rest := []) hq (z_at.mk 3 rfl rfl) (Or.inl ⟨rfl, rfl⟩) rfl rfl (by decide) (by decide) rfl (Nat.not_lt.mpr (Nat.le_of_ble_eq_true rfl)) rfl rfl (z_cat_le 0 rfl (by decide)) (z_lgl_le 2 rfl (by decide)) (by decide) (H.tg rfl) (by omega) (g_bs_add_ok rfl hx1 H h_33) rfl rfl ?_
  intro R_33 m_33 p_33 e_33 hR_33 H_33
  subst e_33
  refine r_p hq 1 (pc' := 37) (L' := [(0, .ref 39), (1, .int X1)]) (st' := []) rfl ?_
  cases h
  exact r_rv hq (z_at.mk 1 rfl rfl) rfl rfl H_33
def g_c_addPiece (x1 : Int) (x2 : Int) (σ : zS) : Option (Unit × zS) :=
  let v_4 := σ 131 1
  if 181 ≤ v_4 then
    g_c_addPiece_L28 x1 σ
  else
    let v_23 := σ 131 1
    if 0 ≤ v_23 ∧ v_23 < 181 then
    let s_27 := zu σ 133 v_23 x2
    g_c_addPiece_L28 x1 s_27
    else none
set_option maxHeartbeats 4000000 in
theorem g_c_addPiece_ok {xl : Nat} {xs : Nat → Int32} {X1 : Int32} {x1 : Int} (hx1 : X1.toInt = x1) {X2 : Int32} {x2 : Int} (hx2 : X2.toInt = x2) {σ : zS} {p : Nat} {m : zM} {o : Unit × zS} (H : zRep xl xs p m σ) (h : g_c_addPiece x1 x2 σ = some o) : zGo xl xs (fun p' => p = p') 2 136 0 (z_can 136 0 (lv_args 0 [.ref 39, .int X1, .int X2])) [] m vV o.2 := by
  have hq : z_mth 136 = some z_r136 := rfl
  unfold g_c_addPiece at h
  show zGo xl xs (fun p' => p = p') 2 136 0 [(0, .ref 39), (1, .int X1), (2, .int X2)] [] m vV o.2
  refine r_p hq 1 (pc' := 1) (L' := [(0, .ref 39), (1, .int X1), (2, .int X2)]) (st' := [.ref 39]) rfl ?_
  refine r_gR (b := 131) (pc' := 4) (L' := [(0, .ref 39), (1, .int X1), (2, .int X2)]) H hq (z_at.mk 3 rfl rfl) rfl rfl rfl rfl ?_
  refine r_gI (pc' := 7) (L' := [(0, .ref 39), (1, .int X1), (2, .int X2)]) H hq (z_at.mk 3 rfl rfl) rfl rfl rfl rfl ?_
  intro V_4 hV_4
  refine r_p hq 1 (pc' := 8) (L' := [(0, .ref 39), (1, .int X1), (2, .int X2)]) (st' := [.ref 39, .int V_4]) rfl ?_
  refine r_gR (b := 133) (pc' := 11) (L' := [(0, .ref 39), (1, .int X1), (2, .int X2)]) H hq (z_at.mk 3 rfl rfl) rfl rfl rfl rfl ?_
  refine r_le (pc' := 12) (L' := [(0, .ref 39), (1, .int X1), (2, .int X2)]) H hq (z_at.mk 1 rfl rfl) (show zAr 133 0 181 = true from rfl) rfl rfl rfl ?_
  intro V_11 hV_11
  rcases z_ite h with ⟨c_12, h⟩ | ⟨c_12, h⟩
  · refine r_t2 (pc' := 28) (L' := [(0, .ref 39), (1, .int X1)]) hq (z_at.mk 3 rfl rfl) rfl hV_4 hV_11 c_12 rfl rfl ?_
    exact g_c_addPiece_L28_ok hx1 H h
  · refine r_f2 (pc' := 15) (L' := [(0, .ref 39), (1, .int X1), (2, .int X2)]) hq (z_at.mk 3 rfl rfl) rfl hV_4 hV_11 c_12 rfl rfl ?_
    refine r_p hq 1 (pc' := 16) (L' := [(0, .ref 39), (1, .int X1), (2, .int X2)]) (st' := [.ref 39]) rfl ?_
    refine r_gR (b := 133) (pc' := 19) (L' := [(0, .ref 39), (1, .int X1), (2, .int X2)]) H hq (z_at.mk 3 rfl rfl) rfl rfl rfl rfl ?_
    refine r_p hq 1 (pc' := 20) (L' := [(0, .ref 39), (1, .int X1), (2, .int X2)]) (st' := [.ref 39, .ref 133]) rfl ?_
    refine r_gR (b := 131) (pc' := 23) (L' := [(0, .ref 39), (1, .int X1), (2, .int X2)]) H hq (z_at.mk 3 rfl rfl) rfl rfl rfl rfl ?_
    refine r_gI (pc' := 26) (L' := [(0, .ref 39), (1, .int X1), (2, .int X2)]) H hq (z_at.mk 3 rfl rfl) rfl rfl rfl rfl ?_
    intro V_23 hV_23
    refine r_p hq 1 (pc' := 27) (L' := [(0, .ref 39), (1, .int X1), (2, .int X2)]) (st' := [.int X2, .int V_23, .ref 133]) rfl ?_
    obtain ⟨g_27, h⟩ := z_ifo_some h
    refine r_is (pc' := 28) (L' := [(0, .ref 39), (1, .int X1)]) H hq (z_at.mk 1 rfl rfl) (show zAr 133 0 181 = true from rfl) hV_23 g_27 hx2 rfl rfl ?_
    intro m_27 H_27
    exact g_c_addPiece_L28_ok hx1 H_27 h
def g_c_probe_L129 : Nat → Int → zS → Option (Int × zS)
  | 0, _, _ => none
  | n + 1, x7, σ =>
    let v_133 := σ 56 1
    if v_133 ≤ x7 then
      let v_162 := σ 131 1
      some (v_162, σ)
    else
      (g_bs_at 56 x7 σ).bind fun o_144 =>
      (g_c_addPiece o_144.1 (-5) o_144.2).bind fun o_149 =>
      (g_c_probe_L129 n) (w32 (x7 + 1)) o_149.2
set_option maxHeartbeats 4000000 in
theorem g_c_probe_L129_ok {xl : Nat} {xs : Nat → Int32} : ∀ (n : Nat) {X7 : Int32} {x7 : Int} {σ : zS} {p : Nat} {m : zM} {o : Int × zS}, X7.toInt = x7 → zRep xl xs p m σ → g_c_probe_L129 n x7 σ = some o → zGo xl xs (fun p' => p = p') 6 135 129 [(0, .ref 39), (6, .ref 56), (7, .int X7)] [] m (vI o.1) o.2
  | 0, _, _, _, _, _, _, _, _, h => by cases h
  | n + 1, X7, x7, σ, p, m, o, hx7, H, h => by
    have hq : z_mth 135 = some z_r135 := rfl
    have ih := fun {X7 : Int32} {x7 : Int} {σ : zS} {p : Nat} {m : zM} {o : Int × zS} => g_c_probe_L129_ok (xl := xl) (xs := xs) n (X7 := X7) (x7 := x7) (σ := σ) (p := p) (m := m) (o := o)
    unfold g_c_probe_L129 at h
    refine r_p hq 2 (pc' := 133) (L' := [(0, .ref 39), (6, .ref 56), (7, .int X7)]) (st' := [.ref 56, .int X7]) rfl ?_
    refine r_gI (pc' := 136) (L' := [(0, .ref 39), (6, .ref 56), (7, .int X7)]) H hq (z_at.mk 3 rfl rfl) rfl rfl rfl rfl ?_
    intro V_133 hV_133
    rcases z_ite h with ⟨c_136, h⟩ | ⟨c_136, h⟩
    · refine r_t2 (pc' := 158) (L' := [(0, .ref 39), (6, .ref 56), (7, .int X7)]) hq (z_at.mk 3 rfl rfl) rfl hx7 hV_133 c_136 rfl rfl ?_
      refine r_p hq 1 (pc' := 159) (L' := [(0, .ref 39), (6, .ref 56), (7, .int X7)]) (st' := [.ref 39]) rfl ?_
      refine r_gR (b := 131) (pc' := 162) (L' := [(0, .ref 39), (6, .ref 56), (7, .int X7)]) H hq (z_at.mk 3 rfl rfl) rfl rfl rfl rfl ?_
      refine r_gI (pc' := 165) (L' := [(0, .ref 39), (6, .ref 56), (7, .int X7)]) H hq (z_at.mk 3 rfl rfl) rfl rfl rfl rfl ?_
      intro V_162 hV_162
      cases h
      exact r_ri hq (z_at.mk 1 rfl rfl) rfl rfl hV_162 rfl H
    · refine r_f2 (pc' := 139) (L' := [(0, .ref 39), (6, .ref 56), (7, .int X7)]) hq (z_at.mk 3 rfl rfl) rfl hx7 hV_133 c_136 rfl rfl ?_
      refine r_p hq 3 (pc' := 144) (L' := [(0, .ref 39), (6, .ref 56), (7, .int X7)]) (st' := [.int X7, .ref 56, .ref 39]) rfl ?_
      obtain ⟨o_144, h_144, h⟩ := Option.bind_eq_some_iff.mp h
      refine r_cvI (pc' := 147) (L' := [(0, .ref 39), (6, .ref 56), (7, .int X7)]) (Ps := [.int X7]) (rest := [.ref 39]) hq (z_at.mk 3 rfl rfl) (Or.inl ⟨rfl, rfl⟩) rfl rfl (by decide) (by decide) rfl (Nat.not_lt.mpr (Nat.le_of_ble_eq_true rfl)) rfl rfl (z_cat_le 1 rfl (by decide)) (z_lgl_le 2 rfl (by decide)) (by decide) (H.tg rfl) (by omega) (g_bs_at_ok rfl hx7 H h_144) rfl rfl ?_
      intro R_144 m_144 p_144 e_144 hR_144 H_144
      subst e_144
      refine r_p hq 1 (pc' := 149) (L' := [(0, .ref 39), (6, .ref 56), (7, .int X7)]) (st' := [.int ((-5 : Int32)), .int R_144, .ref 39]) rfl ?_
      obtain ⟨o_149, h_149, h⟩ := Option.bind_eq_some_iff.mp h
      refine r_cvV (pc' := 152) (L' := [(0, .ref 39), (6, .ref 56), (7, .int X7)]) (Ps := [.int R_144, .int ((-5 : Int32))]) (rest := []) hq (z_at.mk 3 rfl rfl) (Or.inl ⟨rfl, rfl⟩) rfl rfl (by decide) (by decide) rfl (Nat.not_lt.mpr (Nat.le_of_ble_eq_true rfl)) rfl rfl (z_cat_le 0 rfl (by decide)) (z_lgl_le 3 rfl (by decide)) (by decide) (H_144.tg rfl) (by omega) (g_c_addPiece_ok hR_144 (rfl : (-5 : Int32).toInt = -5) H_144 h_149) rfl rfl ?_
      intro m_149 p_149 e_149 H_149
      subst e_149
      refine r_p hq 2 (pc' := 129) (L' := [(0, .ref 39), (6, .ref 56), (7, .int (X7 + (1 : Int32)))]) (st' := []) rfl ?_
      exact ih (tx_iadd hx7 (rfl : (1 : Int32).toInt = 1)) H_149 h
def g_c_probe_L106 (g35 : Int → Int → zS → Option (Int × zS)) (x5 : Int) (x6 : Int) (σ : zS) : Option (Int × zS) :=
  g35 x5 (w32 (x6 + 1)) σ
set_option maxHeartbeats 4000000 in
theorem g_c_probe_L106_ok {xl : Nat} {xs : Nat → Int32} {g35 : Int → Int → zS → Option (Int × zS)} (hg35 : ∀ {X5 : Int32} {x5 : Int} {X6 : Int32} {x6 : Int} {σ : zS} {p : Nat} {m : zM} {o : Int × zS}, X5.toInt = x5 → X6.toInt = x6 → zRep xl xs p m σ → g35 x5 x6 σ = some o → zGo xl xs (fun p' => p = p') 6 135 35 [(0, .ref 39), (5, .int X5), (6, .int X6)] [] m (vI o.1) o.2) {X5 : Int32} {x5 : Int} (hx5 : X5.toInt = x5) {X6 : Int32} {x6 : Int} (hx6 : X6.toInt = x6) {σ : zS} {p : Nat} {m : zM} {o : Int × zS} (H : zRep xl xs p m σ) (h : g_c_probe_L106 g35 x5 x6 σ = some o) : zGo xl xs (fun p' => p = p') 6 135 106 [(0, .ref 39), (5, .int X5), (6, .int X6)] [] m (vI o.1) o.2 := by
  have hq : z_mth 135 = some z_r135 := rfl
  unfold g_c_probe_L106 at h
  refine r_p hq 2 (pc' := 35) (L' := [(0, .ref 39), (5, .int X5), (6, .int (X6 + (1 : Int32)))]) (st' := []) rfl ?_
  exact hg35 hx5 (tx_iadd hx6 (rfl : (1 : Int32).toInt = 1)) H h
def g_c_probe_L35 : Nat → Int → Int → zS → Option (Int × zS)
  | 0, _, _, _ => none
  | n + 1, x5, x6, σ =>
    let v_44 := σ 48 2
    if v_44 ≤ x6 then
      (g_ca_missingOf 48 x5 σ).bind fun o_121 =>
      g_c_probe_L129 zK 0 o_121.2
    else
      if 0 ≤ x6 ∧ x6 < 181 then
      let v_62 := σ 52 x6
      (g_b_meet v_62 x5 σ).bind fun o_65 =>
      if o_65.1 = 0 then
        g_c_probe_L106 ((g_c_probe_L35 n)) x5 x6 o_65.2
      else
        if 0 ≤ x6 ∧ x6 < 181 then
        let v_84 := o_65.2 52 x6
        (g_b_common v_84 x5 o_65.2).bind fun o_87 =>
        if 0 ≤ x6 ∧ x6 < 181 then
        let v_102 := o_87.2 51 x6
        (g_c_addPiece o_87.1 v_102 o_87.2).bind fun o_103 =>
        g_c_probe_L106 ((g_c_probe_L35 n)) x5 x6 o_103.2
        else none
        else none
      else none
set_option maxHeartbeats 4000000 in
theorem g_c_probe_L35_ok {xl : Nat} {xs : Nat → Int32} : ∀ (n : Nat) {X5 : Int32} {x5 : Int} {X6 : Int32} {x6 : Int} {σ : zS} {p : Nat} {m : zM} {o : Int × zS}, X5.toInt = x5 → X6.toInt = x6 → zRep xl xs p m σ → g_c_probe_L35 n x5 x6 σ = some o → zGo xl xs (fun p' => p = p') 6 135 35 [(0, .ref 39), (5, .int X5), (6, .int X6)] [] m (vI o.1) o.2
  | 0, _, _, _, _, _, _, _, _, _, _, _, h => by cases h
  | n + 1, X5, x5, X6, x6, σ, p, m, o, hx5, hx6, H, h => by
    have hq : z_mth 135 = some z_r135 := rfl
    have ih := fun {X5 : Int32} {x5 : Int} {X6 : Int32} {x6 : Int} {σ : zS} {p : Nat} {m : zM} {o : Int × zS} => g_c_probe_L35_ok (xl := xl) (xs := xs) n (X5 := X5) (x5 := x5) (X6 := X6) (x6 := x6) (σ := σ) (p := p) (m := m) (o := o)
    unfold g_c_probe_L35 at h
    refine r_p hq 2 (pc' := 38) (L' := [(0, .ref 39), (5, .int X5), (6, .int X6)]) (st' := [.ref 39, .int X6]) rfl ?_
    refine r_gR (b := 40) (pc' := 41) (L' := [(0, .ref 39), (5, .int X5), (6, .int X6)]) H hq (z_at.mk 3 rfl rfl) rfl rfl rfl rfl ?_
    refine r_gR (b := 48) (pc' := 44) (L' := [(0, .ref 39), (5, .int X5), (6, .int X6)]) H hq (z_at.mk 3 rfl rfl) rfl rfl rfl rfl ?_
    refine r_gI (pc' := 47) (L' := [(0, .ref 39), (5, .int X5), (6, .int X6)]) H hq (z_at.mk 3 rfl rfl) rfl rfl rfl rfl ?_
    intro V_44 hV_44
    rcases z_ite h with ⟨c_47, h⟩ | ⟨c_47, h⟩
    · refine r_t2 (pc' := 112) (L' := [(0, .ref 39), (5, .int X5), (6, .int X6)]) hq (z_at.mk 3 rfl rfl) rfl hx6 hV_44 c_47 rfl rfl ?_
      refine r_p hq 1 (pc' := 113) (L' := [(0, .ref 39), (5, .int X5), (6, .int X6)]) (st' := [.ref 39]) rfl ?_
      refine r_gR (b := 40) (pc' := 116) (L' := [(0, .ref 39), (5, .int X5), (6, .int X6)]) H hq (z_at.mk 3 rfl rfl) rfl rfl rfl rfl ?_
      refine r_gR (b := 48) (pc' := 119) (L' := [(0, .ref 39), (5, .int X5), (6, .int X6)]) H hq (z_at.mk 3 rfl rfl) rfl rfl rfl rfl ?_
      refine r_p hq 1 (pc' := 121) (L' := [(0, .ref 39), (5, .int X5), (6, .int X6)]) (st' := [.int X5, .ref 48]) rfl ?_
      obtain ⟨o_121, h_121, h⟩ := Option.bind_eq_some_iff.mp h
      refine r_cvR (pc' := 124) (L' := [(0, .ref 39), (5, .int X5), (6, .int X6)]) (Ps := [.int X5]) (rest := []) hq (z_at.mk 3 rfl rfl) (Or.inl ⟨rfl, rfl⟩) rfl rfl (by decide) (by decide) rfl (Nat.not_lt.mpr (Nat.le_of_ble_eq_true rfl)) rfl rfl (z_cat_le 0 rfl (by decide)) (z_lgl_le 2 rfl (by decide)) (by decide) (H.tg rfl) (by omega) (g_ca_missingOf_ok rfl hx5 H h_121) rfl rfl ?_
      intro m_121 p_121 e_121 H_121
      subst e_121
      refine r_p hq 3 (pc' := 129) (L' := [(0, .ref 39), (6, .ref 56), (7, .int ((0 : Int32)))]) (st' := []) rfl ?_
      exact g_c_probe_L129_ok zK (rfl : (0 : Int32).toInt = 0) H_121 h
    · refine r_f2 (pc' := 50) (L' := [(0, .ref 39), (5, .int X5), (6, .int X6)]) hq (z_at.mk 3 rfl rfl) rfl hx6 hV_44 c_47 rfl rfl ?_
      refine r_p hq 1 (pc' := 51) (L' := [(0, .ref 39), (5, .int X5), (6, .int X6)]) (st' := [.ref 39]) rfl ?_
      refine r_gR (b := 40) (pc' := 54) (L' := [(0, .ref 39), (5, .int X5), (6, .int X6)]) H hq (z_at.mk 3 rfl rfl) rfl rfl rfl rfl ?_
      refine r_gR (b := 48) (pc' := 57) (L' := [(0, .ref 39), (5, .int X5), (6, .int X6)]) H hq (z_at.mk 3 rfl rfl) rfl rfl rfl rfl ?_
      refine r_gR (b := 52) (pc' := 60) (L' := [(0, .ref 39), (5, .int X5), (6, .int X6)]) H hq (z_at.mk 3 rfl rfl) rfl rfl rfl rfl ?_
      refine r_p hq 1 (pc' := 62) (L' := [(0, .ref 39), (5, .int X5), (6, .int X6)]) (st' := [.int X6, .ref 52]) rfl ?_
      obtain ⟨g_62, h⟩ := z_ifo_some h
      refine r_ia (pc' := 63) (L' := [(0, .ref 39), (5, .int X5), (6, .int X6)]) H hq (z_at.mk 1 rfl rfl) (show zAr 52 0 181 = true from rfl) hx6 g_62 rfl rfl ?_
      intro V_62 hV_62
      refine r_p hq 1 (pc' := 65) (L' := [(0, .ref 39), (5, .int X5), (6, .int X6)]) (st' := [.int X5, .int V_62]) rfl ?_
      obtain ⟨o_65, h_65, h⟩ := Option.bind_eq_some_iff.mp h
      refine r_csI (pc' := 68) (L' := [(0, .ref 39), (5, .int X5), (6, .int X6)]) (As := [.int V_62, .int X5]) (rest := []) (j := 9) hq (z_at.mk 3 rfl rfl) (Or.inl ⟨rfl, rfl⟩) rfl rfl (by omega) (g_b_meet_ok hV_62 hx5 H h_65) rfl rfl ?_
      intro R_65 m_65 p_65 e_65 hR_65 H_65
      subst e_65
      rcases z_ite h with ⟨c_68, h⟩ | ⟨c_68, h⟩
      · refine r_t1 (pc' := 106) (L' := [(0, .ref 39), (5, .int X5), (6, .int X6)]) hq (z_at.mk 3 rfl rfl) rfl hR_65 c_68 rfl rfl ?_
        exact g_c_probe_L106_ok ih hx5 hx6 H_65 h
      · refine r_f1 (pc' := 71) (L' := [(0, .ref 39), (5, .int X5), (6, .int X6)]) hq (z_at.mk 3 rfl rfl) rfl hR_65 c_68 rfl rfl ?_
        refine r_p hq 2 (pc' := 73) (L' := [(0, .ref 39), (5, .int X5), (6, .int X6)]) (st' := [.ref 39, .ref 39]) rfl ?_
        refine r_gR (b := 40) (pc' := 76) (L' := [(0, .ref 39), (5, .int X5), (6, .int X6)]) H_65 hq (z_at.mk 3 rfl rfl) rfl rfl rfl rfl ?_
        refine r_gR (b := 48) (pc' := 79) (L' := [(0, .ref 39), (5, .int X5), (6, .int X6)]) H_65 hq (z_at.mk 3 rfl rfl) rfl rfl rfl rfl ?_
        refine r_gR (b := 52) (pc' := 82) (L' := [(0, .ref 39), (5, .int X5), (6, .int X6)]) H_65 hq (z_at.mk 3 rfl rfl) rfl rfl rfl rfl ?_
        refine r_p hq 1 (pc' := 84) (L' := [(0, .ref 39), (5, .int X5), (6, .int X6)]) (st' := [.int X6, .ref 52, .ref 39]) rfl ?_
        obtain ⟨g_84, h⟩ := z_ifo_some h
        refine r_ia (pc' := 85) (L' := [(0, .ref 39), (5, .int X5), (6, .int X6)]) H_65 hq (z_at.mk 1 rfl rfl) (show zAr 52 0 181 = true from rfl) hx6 g_84 rfl rfl ?_
        intro V_84 hV_84
        refine r_p hq 1 (pc' := 87) (L' := [(0, .ref 39), (5, .int X5), (6, .int X6)]) (st' := [.int X5, .int V_84, .ref 39]) rfl ?_
        obtain ⟨o_87, h_87, h⟩ := Option.bind_eq_some_iff.mp h
        refine r_csI (pc' := 90) (L' := [(0, .ref 39), (5, .int X5), (6, .int X6)]) (As := [.int V_84, .int X5]) (rest := [.ref 39]) (j := 10) hq (z_at.mk 3 rfl rfl) (Or.inl ⟨rfl, rfl⟩) rfl rfl (by omega) (g_b_common_ok hV_84 hx5 H_65 h_87) rfl rfl ?_
        intro R_87 m_87 p_87 e_87 hR_87 H_87
        subst e_87
        refine r_p hq 1 (pc' := 91) (L' := [(0, .ref 39), (5, .int X5), (6, .int X6)]) (st' := [.ref 39, .int R_87, .ref 39]) rfl ?_
        refine r_gR (b := 40) (pc' := 94) (L' := [(0, .ref 39), (5, .int X5), (6, .int X6)]) H_87 hq (z_at.mk 3 rfl rfl) rfl rfl rfl rfl ?_
        refine r_gR (b := 48) (pc' := 97) (L' := [(0, .ref 39), (5, .int X5), (6, .int X6)]) H_87 hq (z_at.mk 3 rfl rfl) rfl rfl rfl rfl ?_
        refine r_gR (b := 51) (pc' := 100) (L' := [(0, .ref 39), (5, .int X5), (6, .int X6)]) H_87 hq (z_at.mk 3 rfl rfl) rfl rfl rfl rfl ?_
        refine r_p hq 1 (pc' := 102) (L' := [(0, .ref 39), (5, .int X5), (6, .int X6)]) (st' := [.int X6, .ref 51, .int R_87, .ref 39]) rfl ?_
        obtain ⟨g_102, h⟩ := z_ifo_some h
        refine r_ia (pc' := 103) (L' := [(0, .ref 39), (5, .int X5), (6, .int X6)]) H_87 hq (z_at.mk 1 rfl rfl) (show zAr 51 0 181 = true from rfl) hx6 g_102 rfl rfl ?_
        intro V_102 hV_102
        obtain ⟨o_103, h_103, h⟩ := Option.bind_eq_some_iff.mp h
        refine r_cvV (pc' := 106) (L' := [(0, .ref 39), (5, .int X5), (6, .int X6)]) (Ps := [.int R_87, .int V_102]) (rest := []) hq (z_at.mk 3 rfl rfl) (Or.inl ⟨rfl, rfl⟩) rfl rfl (by decide) (by decide) rfl (Nat.not_lt.mpr (Nat.le_of_ble_eq_true rfl)) rfl rfl (z_cat_le 0 rfl (by decide)) (z_lgl_le 3 rfl (by decide)) (by decide) (H_87.tg rfl) (by omega) (g_c_addPiece_ok hR_87 hV_102 H_87 h_103) rfl rfl ?_
        intro m_103 p_103 e_103 H_103
        subst e_103
        exact g_c_probe_L106_ok ih hx5 hx6 H_103 h
def g_c_probe (x1 : Int) (x2 : Int) (x3 : Int) (x4 : Int) (σ : zS) : Option (Int × zS) :=
  (g_b_isBox x1 x2 x3 x4 σ).bind fun o_5 =>
  if o_5.1 ≠ 0 then
    (g_b_of x1 x2 x3 x4 o_5.2).bind fun o_19 =>
    let s_29 := zu o_19.2 131 1 0
    g_c_probe_L35 zK o_19.1 0 s_29
  else
    some (-2, o_5.2)
set_option maxHeartbeats 4000000 in
theorem g_c_probe_ok {xl : Nat} {xs : Nat → Int32} {X1 : Int32} {x1 : Int} (hx1 : X1.toInt = x1) {X2 : Int32} {x2 : Int} (hx2 : X2.toInt = x2) {X3 : Int32} {x3 : Int} (hx3 : X3.toInt = x3) {X4 : Int32} {x4 : Int} (hx4 : X4.toInt = x4) {σ : zS} {p : Nat} {m : zM} {o : Int × zS} (H : zRep xl xs p m σ) (h : g_c_probe x1 x2 x3 x4 σ = some o) : zGo xl xs (fun p' => p = p') 6 135 0 (z_can 135 0 (lv_args 0 [.ref 39, .int X1, .int X2, .int X3, .int X4])) [] m (vI o.1) o.2 := by
  have hq : z_mth 135 = some z_r135 := rfl
  unfold g_c_probe at h
  show zGo xl xs (fun p' => p = p') 6 135 0 [(0, .ref 39), (1, .int X1), (2, .int X2), (3, .int X3), (4, .int X4)] [] m (vI o.1) o.2
  refine r_p hq 4 (pc' := 5) (L' := [(0, .ref 39), (1, .int X1), (2, .int X2), (3, .int X3), (4, .int X4)]) (st' := [.int X4, .int X3, .int X2, .int X1]) rfl ?_
  obtain ⟨o_5, h_5, h⟩ := Option.bind_eq_some_iff.mp h
  refine r_csI (pc' := 8) (L' := [(0, .ref 39), (1, .int X1), (2, .int X2), (3, .int X3), (4, .int X4)]) (As := [.int X1, .int X2, .int X3, .int X4]) (rest := []) (j := 1) hq (z_at.mk 3 rfl rfl) (Or.inl ⟨rfl, rfl⟩) rfl rfl (by omega) (g_b_isBox_ok hx1 hx2 hx3 hx4 H h_5) rfl rfl ?_
  intro R_5 m_5 p_5 e_5 hR_5 H_5
  subst e_5
  rcases z_ite h with ⟨c_8, h⟩ | ⟨c_8, h⟩
  · refine r_t1 (pc' := 14) (L' := [(0, .ref 39), (1, .int X1), (2, .int X2), (3, .int X3), (4, .int X4)]) hq (z_at.mk 3 rfl rfl) rfl hR_5 c_8 rfl rfl ?_
    refine r_p hq 4 (pc' := 19) (L' := [(0, .ref 39), (1, .int X1), (2, .int X2), (3, .int X3), (4, .int X4)]) (st' := [.int X4, .int X3, .int X2, .int X1]) rfl ?_
    obtain ⟨o_19, h_19, h⟩ := Option.bind_eq_some_iff.mp h
    refine r_csI (pc' := 22) (L' := [(0, .ref 39), (1, .int X1), (2, .int X2), (3, .int X3), (4, .int X4)]) (As := [.int X1, .int X2, .int X3, .int X4]) (rest := []) (j := 2) hq (z_at.mk 3 rfl rfl) (Or.inl ⟨rfl, rfl⟩) rfl rfl (by omega) (g_b_of_ok hx1 hx2 hx3 hx4 H_5 h_19) rfl rfl ?_
    intro R_19 m_19 p_19 e_19 hR_19 H_19
    subst e_19
    refine r_p hq 2 (pc' := 25) (L' := [(5, .int R_19), (0, .ref 39), (1, .int X1), (2, .int X2), (3, .int X3), (4, .int X4)]) (st' := [.ref 39]) rfl ?_
    refine r_gR (b := 131) (pc' := 28) (L' := [(5, .int R_19), (0, .ref 39), (1, .int X1), (2, .int X2), (3, .int X3), (4, .int X4)]) H_19 hq (z_at.mk 3 rfl rfl) rfl rfl rfl rfl ?_
    refine r_p hq 1 (pc' := 29) (L' := [(5, .int R_19), (0, .ref 39), (1, .int X1), (2, .int X2), (3, .int X3), (4, .int X4)]) (st' := [.int ((0 : Int32)), .ref 131]) rfl ?_
    refine r_pI (X := (0 : Int32)) (pc' := 32) (L' := [(5, .int R_19), (0, .ref 39), (1, .int X1), (2, .int X2), (3, .int X3), (4, .int X4)]) H_19 hq (z_at.mk 3 rfl rfl) rfl rfl (rfl : (0 : Int32).toInt = 0) (by decide) rfl rfl rfl rfl ?_
    intro m_29 H_29
    refine r_p hq 2 (pc' := 35) (L' := [(0, .ref 39), (5, .int R_19), (6, .int ((0 : Int32)))]) (st' := []) rfl ?_
    exact g_c_probe_L35_ok zK hR_19 (rfl : (0 : Int32).toInt = 0) H_29 h
  · refine r_f1 (pc' := 11) (L' := [(0, .ref 39), (1, .int X1), (2, .int X2), (3, .int X3), (4, .int X4)]) hq (z_at.mk 3 rfl rfl) rfl hR_5 c_8 rfl rfl ?_
    refine r_p hq 1 (pc' := 13) (L' := [(0, .ref 39), (1, .int X1), (2, .int X2), (3, .int X3), (4, .int X4)]) (st' := [.int ((-2 : Int32))]) rfl ?_
    cases h
    exact r_ri hq (z_at.mk 1 rfl rfl) rfl rfl (rfl : (-2 : Int32).toInt = -2) rfl H_5
end
section
/-! 21.g08 -/
/-! THE METHODS over the typed memory, 8 (by wip/zg.py) -/
def g_c_piece (x1 : Int) (x2 : Int) (σ : zS) : Option (Int × zS) :=
  if x1 < 0 then
    some (-1, σ)
  else
    let v_9 := σ 131 1
    if v_9 ≤ x1 then
      some (-1, σ)
    else
      if x2 < 0 then
        some (-1, σ)
      else
        if x2 ≤ 4 then
          if 4 ≤ x2 then
            if 0 ≤ x1 ∧ x1 < 181 then
            let v_51 := σ 133 x1
            some (v_51, σ)
            else none
          else
            (g_bs_at 131 x1 σ).bind fun o_36 =>
            (g_b_side o_36.1 x2 o_36.2).bind fun o_40 =>
            some (o_40.1, o_40.2)
        else
          some (-1, σ)
set_option maxHeartbeats 4000000 in
theorem g_c_piece_ok {xl : Nat} {xs : Nat → Int32} {X1 : Int32} {x1 : Int} (hx1 : X1.toInt = x1) {X2 : Int32} {x2 : Int} (hx2 : X2.toInt = x2) {σ : zS} {p : Nat} {m : zM} {o : Int × zS} (H : zRep xl xs p m σ) (h : g_c_piece x1 x2 σ = some o) : zGo xl xs (fun p' => p = p') 2 137 0 (z_can 137 0 (lv_args 0 [.ref 39, .int X1, .int X2])) [] m (vI o.1) o.2 := by
  have hq : z_mth 137 = some z_r137 := rfl
  unfold g_c_piece at h
  show zGo xl xs (fun p' => p = p') 2 137 0 [(0, .ref 39), (1, .int X1), (2, .int X2)] [] m (vI o.1) o.2
  refine r_p hq 1 (pc' := 1) (L' := [(0, .ref 39), (1, .int X1), (2, .int X2)]) (st' := [.int X1]) rfl ?_
  rcases z_ite h with ⟨c_1, h⟩ | ⟨c_1, h⟩
  · refine r_t1 (pc' := 24) (L' := []) hq (z_at.mk 3 rfl rfl) rfl hx1 c_1 rfl rfl ?_
    refine r_p hq 1 (pc' := 25) (L' := []) (st' := [.int ((-1 : Int32))]) rfl ?_
    cases h
    exact r_ri hq (z_at.mk 1 rfl rfl) rfl rfl (rfl : (-1 : Int32).toInt = -1) rfl H
  · refine r_f1 (pc' := 4) (L' := [(0, .ref 39), (1, .int X1), (2, .int X2)]) hq (z_at.mk 3 rfl rfl) rfl hx1 c_1 rfl rfl ?_
    refine r_p hq 2 (pc' := 6) (L' := [(0, .ref 39), (1, .int X1), (2, .int X2)]) (st' := [.ref 39, .int X1]) rfl ?_
    refine r_gR (b := 131) (pc' := 9) (L' := [(0, .ref 39), (1, .int X1), (2, .int X2)]) H hq (z_at.mk 3 rfl rfl) rfl rfl rfl rfl ?_
    refine r_gI (pc' := 12) (L' := [(0, .ref 39), (1, .int X1), (2, .int X2)]) H hq (z_at.mk 3 rfl rfl) rfl rfl rfl rfl ?_
    intro V_9 hV_9
    rcases z_ite h with ⟨c_12, h⟩ | ⟨c_12, h⟩
    · refine r_t2 (pc' := 24) (L' := []) hq (z_at.mk 3 rfl rfl) rfl hx1 hV_9 c_12 rfl rfl ?_
      refine r_p hq 1 (pc' := 25) (L' := []) (st' := [.int ((-1 : Int32))]) rfl ?_
      cases h
      exact r_ri hq (z_at.mk 1 rfl rfl) rfl rfl (rfl : (-1 : Int32).toInt = -1) rfl H
    · refine r_f2 (pc' := 15) (L' := [(0, .ref 39), (1, .int X1), (2, .int X2)]) hq (z_at.mk 3 rfl rfl) rfl hx1 hV_9 c_12 rfl rfl ?_
      refine r_p hq 1 (pc' := 16) (L' := [(0, .ref 39), (1, .int X1), (2, .int X2)]) (st' := [.int X2]) rfl ?_
      rcases z_ite h with ⟨c_16, h⟩ | ⟨c_16, h⟩
      · refine r_t1 (pc' := 24) (L' := []) hq (z_at.mk 3 rfl rfl) rfl hx2 c_16 rfl rfl ?_
        refine r_p hq 1 (pc' := 25) (L' := []) (st' := [.int ((-1 : Int32))]) rfl ?_
        cases h
        exact r_ri hq (z_at.mk 1 rfl rfl) rfl rfl (rfl : (-1 : Int32).toInt = -1) rfl H
      · refine r_f1 (pc' := 19) (L' := [(0, .ref 39), (1, .int X1), (2, .int X2)]) hq (z_at.mk 3 rfl rfl) rfl hx2 c_16 rfl rfl ?_
        refine r_p hq 2 (pc' := 21) (L' := [(0, .ref 39), (1, .int X1), (2, .int X2)]) (st' := [.int ((4 : Int32)), .int X2]) rfl ?_
        rcases z_ite h with ⟨c_21, h⟩ | ⟨c_21, h⟩
        · refine r_t2 (pc' := 26) (L' := [(0, .ref 39), (1, .int X1), (2, .int X2)]) hq (z_at.mk 3 rfl rfl) rfl hx2 (rfl : (4 : Int32).toInt = 4) c_21 rfl rfl ?_
          refine r_p hq 2 (pc' := 28) (L' := [(0, .ref 39), (1, .int X1), (2, .int X2)]) (st' := [.int ((4 : Int32)), .int X2]) rfl ?_
          rcases z_ite h with ⟨c_28, h⟩ | ⟨c_28, h⟩
          · refine r_t2 (pc' := 46) (L' := [(0, .ref 39), (1, .int X1), (2, .int X2)]) hq (z_at.mk 3 rfl rfl) rfl hx2 (rfl : (4 : Int32).toInt = 4) c_28 rfl rfl ?_
            refine r_p hq 1 (pc' := 47) (L' := [(0, .ref 39), (1, .int X1), (2, .int X2)]) (st' := [.ref 39]) rfl ?_
            refine r_gR (b := 133) (pc' := 50) (L' := [(0, .ref 39), (1, .int X1), (2, .int X2)]) H hq (z_at.mk 3 rfl rfl) rfl rfl rfl rfl ?_
            refine r_p hq 1 (pc' := 51) (L' := [(0, .ref 39), (1, .int X1), (2, .int X2)]) (st' := [.int X1, .ref 133]) rfl ?_
            obtain ⟨g_51, h⟩ := z_ifo_some h
            refine r_ia (pc' := 52) (L' := []) H hq (z_at.mk 1 rfl rfl) (show zAr 133 0 181 = true from rfl) hx1 g_51 rfl rfl ?_
            intro V_51 hV_51
            cases h
            exact r_ri hq (z_at.mk 1 rfl rfl) rfl rfl hV_51 rfl H
          · refine r_f2 (pc' := 31) (L' := [(0, .ref 39), (1, .int X1), (2, .int X2)]) hq (z_at.mk 3 rfl rfl) rfl hx2 (rfl : (4 : Int32).toInt = 4) c_28 rfl rfl ?_
            refine r_p hq 1 (pc' := 32) (L' := [(0, .ref 39), (1, .int X1), (2, .int X2)]) (st' := [.ref 39]) rfl ?_
            refine r_gR (b := 131) (pc' := 35) (L' := [(0, .ref 39), (1, .int X1), (2, .int X2)]) H hq (z_at.mk 3 rfl rfl) rfl rfl rfl rfl ?_
            refine r_p hq 1 (pc' := 36) (L' := [(0, .ref 39), (1, .int X1), (2, .int X2)]) (st' := [.int X1, .ref 131]) rfl ?_
            obtain ⟨o_36, h_36, h⟩ := Option.bind_eq_some_iff.mp h
            refine r_cvI (pc' := 39) (L' := [(0, .ref 39), (1, .int X1), (2, .int X2)]) (Ps := [.int X1]) (rest := []) hq (z_at.mk 3 rfl rfl) (Or.inl ⟨rfl, rfl⟩) rfl rfl (by decide) (by decide) rfl (Nat.not_lt.mpr (Nat.le_of_ble_eq_true rfl)) rfl rfl (z_cat_le 0 rfl (by decide)) (z_lgl_le 2 rfl (by decide)) (by decide) (H.tg rfl) (by omega) (g_bs_at_ok rfl hx1 H h_36) rfl rfl ?_
            intro R_36 m_36 p_36 e_36 hR_36 H_36
            subst e_36
            refine r_p hq 1 (pc' := 40) (L' := [(0, .ref 39), (1, .int X1), (2, .int X2)]) (st' := [.int X2, .int R_36]) rfl ?_
            obtain ⟨o_40, h_40, h⟩ := Option.bind_eq_some_iff.mp h
            refine r_csI (pc' := 43) (L' := [(0, .ref 39), (1, .int X1), (2, .int X2)]) (As := [.int R_36, .int X2]) (rest := []) (j := 3) hq (z_at.mk 3 rfl rfl) (Or.inl ⟨rfl, rfl⟩) rfl rfl (by omega) (g_b_side_ok hR_36 hx2 H_36 h_40) rfl rfl ?_
            intro R_40 m_40 p_40 e_40 hR_40 H_40
            subst e_40
            refine r_p hq 1 (pc' := 52) (L' := []) (st' := [.int R_40]) rfl ?_
            cases h
            exact r_ri hq (z_at.mk 1 rfl rfl) rfl rfl hR_40 rfl H_40
        · refine r_f2 (pc' := 24) (L' := []) hq (z_at.mk 3 rfl rfl) rfl hx2 (rfl : (4 : Int32).toInt = 4) c_21 rfl rfl ?_
          refine r_p hq 1 (pc' := 25) (L' := []) (st' := [.int ((-1 : Int32))]) rfl ?_
          cases h
          exact r_ri hq (z_at.mk 1 rfl rfl) rfl rfl (rfl : (-1 : Int32).toInt = -1) rfl H
def g_c_region (x1 : Int) (x2 : Int) (σ : zS) : Option (Int × zS) :=
  if x1 < 0 then
    some (-1, σ)
  else
    let v_14 := σ 48 2
    if v_14 ≤ x1 then
      some (-1, σ)
    else
      if x2 < 0 then
        some (-1, σ)
      else
        if x2 ≤ 11 then
          if 4 ≤ x2 then
            if x2 ≠ 4 then
              if x2 ≠ 5 then
                if 10 ≤ x2 then
                  if x2 ≠ 10 then
                    if 0 ≤ x1 ∧ x1 < 181 then
                    let v_132 := σ 52 x1
                    (g_ca_costOf 48 v_132 σ).bind fun o_133 =>
                    some (o_133.1, o_133.2)
                    else none
                  else
                    if 0 ≤ x1 ∧ x1 < 181 then
                    let v_119 := σ 52 x1
                    (g_ca_sizeOf 48 v_119 σ).bind fun o_120 =>
                    some (o_120.1, o_120.2)
                    else none
                else
                  if 0 ≤ x1 ∧ x1 < 181 then
                  let v_83 := σ 54 x1
                  if v_83 ≠ -1 then
                    if 0 ≤ x1 ∧ x1 < 181 then
                    let v_98 := σ 54 x1
                    (g_b_side v_98 (w32 (x2 - 6)) σ).bind fun o_103 =>
                    some (o_103.1, o_103.2)
                    else none
                  else
                    some (-5, σ)
                  else none
              else
                if 0 ≤ x1 ∧ x1 < 181 then
                let v_70 := σ 53 x1
                some (v_70, σ)
                else none
            else
              if 0 ≤ x1 ∧ x1 < 181 then
              let v_58 := σ 51 x1
              some (v_58, σ)
              else none
          else
            if 0 ≤ x1 ∧ x1 < 181 then
            let v_42 := σ 52 x1
            (g_b_side v_42 x2 σ).bind fun o_44 =>
            some (o_44.1, o_44.2)
            else none
        else
          some (-1, σ)
set_option maxHeartbeats 4000000 in
theorem g_c_region_ok {xl : Nat} {xs : Nat → Int32} {X1 : Int32} {x1 : Int} (hx1 : X1.toInt = x1) {X2 : Int32} {x2 : Int} (hx2 : X2.toInt = x2) {σ : zS} {p : Nat} {m : zM} {o : Int × zS} (H : zRep xl xs p m σ) (h : g_c_region x1 x2 σ = some o) : zGo xl xs (fun p' => p = p') 4 138 0 (z_can 138 0 (lv_args 0 [.ref 39, .int X1, .int X2])) [] m (vI o.1) o.2 := by
  have hq : z_mth 138 = some z_r138 := rfl
  unfold g_c_region at h
  show zGo xl xs (fun p' => p = p') 4 138 0 [(0, .ref 39), (1, .int X1), (2, .int X2)] [] m (vI o.1) o.2
  refine r_p hq 1 (pc' := 1) (L' := [(0, .ref 39), (1, .int X1), (2, .int X2)]) (st' := [.ref 39]) rfl ?_
  refine r_gR (b := 40) (pc' := 4) (L' := [(0, .ref 39), (1, .int X1), (2, .int X2)]) H hq (z_at.mk 3 rfl rfl) rfl rfl rfl rfl ?_
  refine r_gR (b := 48) (pc' := 7) (L' := [(0, .ref 39), (1, .int X1), (2, .int X2)]) H hq (z_at.mk 3 rfl rfl) rfl rfl rfl rfl ?_
  refine r_p hq 2 (pc' := 9) (L' := [(3, .ref 48), (0, .ref 39), (1, .int X1), (2, .int X2)]) (st' := [.int X1]) rfl ?_
  rcases z_ite h with ⟨c_9, h⟩ | ⟨c_9, h⟩
  · refine r_t1 (pc' := 30) (L' := []) hq (z_at.mk 3 rfl rfl) rfl hx1 c_9 rfl rfl ?_
    refine r_p hq 1 (pc' := 31) (L' := []) (st' := [.int ((-1 : Int32))]) rfl ?_
    cases h
    exact r_ri hq (z_at.mk 1 rfl rfl) rfl rfl (rfl : (-1 : Int32).toInt = -1) rfl H
  · refine r_f1 (pc' := 12) (L' := [(3, .ref 48), (0, .ref 39), (1, .int X1), (2, .int X2)]) hq (z_at.mk 3 rfl rfl) rfl hx1 c_9 rfl rfl ?_
    refine r_p hq 2 (pc' := 14) (L' := [(3, .ref 48), (0, .ref 39), (1, .int X1), (2, .int X2)]) (st' := [.ref 48, .int X1]) rfl ?_
    refine r_gI (pc' := 17) (L' := [(3, .ref 48), (0, .ref 39), (1, .int X1), (2, .int X2)]) H hq (z_at.mk 3 rfl rfl) rfl rfl rfl rfl ?_
    intro V_14 hV_14
    rcases z_ite h with ⟨c_17, h⟩ | ⟨c_17, h⟩
    · refine r_t2 (pc' := 30) (L' := []) hq (z_at.mk 3 rfl rfl) rfl hx1 hV_14 c_17 rfl rfl ?_
      refine r_p hq 1 (pc' := 31) (L' := []) (st' := [.int ((-1 : Int32))]) rfl ?_
      cases h
      exact r_ri hq (z_at.mk 1 rfl rfl) rfl rfl (rfl : (-1 : Int32).toInt = -1) rfl H
    · refine r_f2 (pc' := 20) (L' := [(3, .ref 48), (0, .ref 39), (1, .int X1), (2, .int X2)]) hq (z_at.mk 3 rfl rfl) rfl hx1 hV_14 c_17 rfl rfl ?_
      refine r_p hq 1 (pc' := 21) (L' := [(3, .ref 48), (0, .ref 39), (1, .int X1), (2, .int X2)]) (st' := [.int X2]) rfl ?_
      rcases z_ite h with ⟨c_21, h⟩ | ⟨c_21, h⟩
      · refine r_t1 (pc' := 30) (L' := []) hq (z_at.mk 3 rfl rfl) rfl hx2 c_21 rfl rfl ?_
        refine r_p hq 1 (pc' := 31) (L' := []) (st' := [.int ((-1 : Int32))]) rfl ?_
        cases h
        exact r_ri hq (z_at.mk 1 rfl rfl) rfl rfl (rfl : (-1 : Int32).toInt = -1) rfl H
      · refine r_f1 (pc' := 24) (L' := [(3, .ref 48), (0, .ref 39), (1, .int X1), (2, .int X2)]) hq (z_at.mk 3 rfl rfl) rfl hx2 c_21 rfl rfl ?_
        refine r_p hq 2 (pc' := 27) (L' := [(3, .ref 48), (0, .ref 39), (1, .int X1), (2, .int X2)]) (st' := [.int ((11 : Int32)), .int X2]) rfl ?_
        rcases z_ite h with ⟨c_27, h⟩ | ⟨c_27, h⟩
        · refine r_t2 (pc' := 32) (L' := [(3, .ref 48), (0, .ref 39), (1, .int X1), (2, .int X2)]) hq (z_at.mk 3 rfl rfl) rfl hx2 (rfl : (11 : Int32).toInt = 11) c_27 rfl rfl ?_
          refine r_p hq 2 (pc' := 34) (L' := [(3, .ref 48), (0, .ref 39), (1, .int X1), (2, .int X2)]) (st' := [.int ((4 : Int32)), .int X2]) rfl ?_
          rcases z_ite h with ⟨c_34, h⟩ | ⟨c_34, h⟩
          · refine r_t2 (pc' := 48) (L' := [(3, .ref 48), (0, .ref 39), (1, .int X1), (2, .int X2)]) hq (z_at.mk 3 rfl rfl) rfl hx2 (rfl : (4 : Int32).toInt = 4) c_34 rfl rfl ?_
            refine r_p hq 2 (pc' := 50) (L' := [(3, .ref 48), (0, .ref 39), (1, .int X1), (2, .int X2)]) (st' := [.int ((4 : Int32)), .int X2]) rfl ?_
            rcases z_ite h with ⟨c_50, h⟩ | ⟨c_50, h⟩
            · refine r_t2 (pc' := 60) (L' := [(3, .ref 48), (0, .ref 39), (1, .int X1), (2, .int X2)]) hq (z_at.mk 3 rfl rfl) rfl hx2 (rfl : (4 : Int32).toInt = 4) c_50 rfl rfl ?_
              refine r_p hq 2 (pc' := 62) (L' := [(3, .ref 48), (0, .ref 39), (1, .int X1), (2, .int X2)]) (st' := [.int ((5 : Int32)), .int X2]) rfl ?_
              rcases z_ite h with ⟨c_62, h⟩ | ⟨c_62, h⟩
              · refine r_t2 (pc' := 72) (L' := [(3, .ref 48), (0, .ref 39), (1, .int X1), (2, .int X2)]) hq (z_at.mk 3 rfl rfl) rfl hx2 (rfl : (5 : Int32).toInt = 5) c_62 rfl rfl ?_
                refine r_p hq 2 (pc' := 75) (L' := [(3, .ref 48), (0, .ref 39), (1, .int X1), (2, .int X2)]) (st' := [.int ((10 : Int32)), .int X2]) rfl ?_
                rcases z_ite h with ⟨c_75, h⟩ | ⟨c_75, h⟩
                · refine r_t2 (pc' := 107) (L' := [(3, .ref 48), (0, .ref 39), (1, .int X1), (2, .int X2)]) hq (z_at.mk 3 rfl rfl) rfl hx2 (rfl : (10 : Int32).toInt = 10) c_75 rfl rfl ?_
                  refine r_p hq 2 (pc' := 110) (L' := [(3, .ref 48), (0, .ref 39), (1, .int X1), (2, .int X2)]) (st' := [.int ((10 : Int32)), .int X2]) rfl ?_
                  rcases z_ite h with ⟨c_110, h⟩ | ⟨c_110, h⟩
                  · refine r_t2 (pc' := 126) (L' := [(3, .ref 48), (0, .ref 39), (1, .int X1), (2, .int X2)]) hq (z_at.mk 3 rfl rfl) rfl hx2 (rfl : (10 : Int32).toInt = 10) c_110 rfl rfl ?_
                    refine r_p hq 2 (pc' := 128) (L' := [(3, .ref 48), (0, .ref 39), (1, .int X1), (2, .int X2)]) (st' := [.ref 48, .ref 48]) rfl ?_
                    refine r_gR (b := 52) (pc' := 131) (L' := [(3, .ref 48), (0, .ref 39), (1, .int X1), (2, .int X2)]) H hq (z_at.mk 3 rfl rfl) rfl rfl rfl rfl ?_
                    refine r_p hq 1 (pc' := 132) (L' := [(3, .ref 48), (0, .ref 39), (1, .int X1), (2, .int X2)]) (st' := [.int X1, .ref 52, .ref 48]) rfl ?_
                    obtain ⟨g_132, h⟩ := z_ifo_some h
                    refine r_ia (pc' := 133) (L' := [(3, .ref 48), (0, .ref 39), (1, .int X1), (2, .int X2)]) H hq (z_at.mk 1 rfl rfl) (show zAr 52 0 181 = true from rfl) hx1 g_132 rfl rfl ?_
                    intro V_132 hV_132
                    obtain ⟨o_133, h_133, h⟩ := Option.bind_eq_some_iff.mp h
                    refine r_cvI (pc' := 136) (L' := []) (Ps := [.int V_132]) (rest := []) hq (z_at.mk 3 rfl rfl) (Or.inl ⟨rfl, rfl⟩) rfl rfl (by decide) (by decide) rfl (Nat.not_lt.mpr (Nat.le_of_ble_eq_true rfl)) rfl rfl (z_cat_le 0 rfl (by decide)) (z_lgl_le 2 rfl (by decide)) (by decide) (H.tg rfl) (by omega) (g_ca_costOf_ok rfl hV_132 H h_133) rfl rfl ?_
                    intro R_133 m_133 p_133 e_133 hR_133 H_133
                    subst e_133
                    cases h
                    exact r_ri hq (z_at.mk 1 rfl rfl) rfl rfl hR_133 rfl H_133
                  · refine r_f2 (pc' := 113) (L' := [(3, .ref 48), (0, .ref 39), (1, .int X1), (2, .int X2)]) hq (z_at.mk 3 rfl rfl) rfl hx2 (rfl : (10 : Int32).toInt = 10) c_110 rfl rfl ?_
                    refine r_p hq 2 (pc' := 115) (L' := [(3, .ref 48), (0, .ref 39), (1, .int X1), (2, .int X2)]) (st' := [.ref 48, .ref 48]) rfl ?_
                    refine r_gR (b := 52) (pc' := 118) (L' := [(3, .ref 48), (0, .ref 39), (1, .int X1), (2, .int X2)]) H hq (z_at.mk 3 rfl rfl) rfl rfl rfl rfl ?_
                    refine r_p hq 1 (pc' := 119) (L' := [(3, .ref 48), (0, .ref 39), (1, .int X1), (2, .int X2)]) (st' := [.int X1, .ref 52, .ref 48]) rfl ?_
                    obtain ⟨g_119, h⟩ := z_ifo_some h
                    refine r_ia (pc' := 120) (L' := [(3, .ref 48), (0, .ref 39), (1, .int X1), (2, .int X2)]) H hq (z_at.mk 1 rfl rfl) (show zAr 52 0 181 = true from rfl) hx1 g_119 rfl rfl ?_
                    intro V_119 hV_119
                    obtain ⟨o_120, h_120, h⟩ := Option.bind_eq_some_iff.mp h
                    refine r_cvI (pc' := 123) (L' := [(3, .ref 48), (0, .ref 39), (1, .int X1), (2, .int X2)]) (Ps := [.int V_119]) (rest := []) hq (z_at.mk 3 rfl rfl) (Or.inl ⟨rfl, rfl⟩) rfl rfl (by decide) (by decide) rfl (Nat.not_lt.mpr (Nat.le_of_ble_eq_true rfl)) rfl rfl (z_cat_le 0 rfl (by decide)) (z_lgl_le 2 rfl (by decide)) (by decide) (H.tg rfl) (by omega) (g_ca_sizeOf_ok rfl hV_119 H h_120) rfl rfl ?_
                    intro R_120 m_120 p_120 e_120 hR_120 H_120
                    subst e_120
                    refine r_p hq 1 (pc' := 136) (L' := []) (st' := [.int R_120]) rfl ?_
                    cases h
                    exact r_ri hq (z_at.mk 1 rfl rfl) rfl rfl hR_120 rfl H_120
                · refine r_f2 (pc' := 78) (L' := [(3, .ref 48), (0, .ref 39), (1, .int X1), (2, .int X2)]) hq (z_at.mk 3 rfl rfl) rfl hx2 (rfl : (10 : Int32).toInt = 10) c_75 rfl rfl ?_
                  refine r_p hq 1 (pc' := 79) (L' := [(3, .ref 48), (0, .ref 39), (1, .int X1), (2, .int X2)]) (st' := [.ref 48]) rfl ?_
                  refine r_gR (b := 54) (pc' := 82) (L' := [(3, .ref 48), (0, .ref 39), (1, .int X1), (2, .int X2)]) H hq (z_at.mk 3 rfl rfl) rfl rfl rfl rfl ?_
                  refine r_p hq 1 (pc' := 83) (L' := [(3, .ref 48), (0, .ref 39), (1, .int X1), (2, .int X2)]) (st' := [.int X1, .ref 54]) rfl ?_
                  obtain ⟨g_83, h⟩ := z_ifo_some h
                  refine r_ia (pc' := 84) (L' := [(3, .ref 48), (0, .ref 39), (1, .int X1), (2, .int X2)]) H hq (z_at.mk 1 rfl rfl) (show zAr 54 0 181 = true from rfl) hx1 g_83 rfl rfl ?_
                  intro V_83 hV_83
                  refine r_p hq 1 (pc' := 85) (L' := [(3, .ref 48), (0, .ref 39), (1, .int X1), (2, .int X2)]) (st' := [.int ((-1 : Int32)), .int V_83]) rfl ?_
                  rcases z_ite h with ⟨c_85, h⟩ | ⟨c_85, h⟩
                  · refine r_t2 (pc' := 93) (L' := [(3, .ref 48), (0, .ref 39), (1, .int X1), (2, .int X2)]) hq (z_at.mk 3 rfl rfl) rfl hV_83 (rfl : (-1 : Int32).toInt = -1) c_85 rfl rfl ?_
                    refine r_p hq 1 (pc' := 94) (L' := [(3, .ref 48), (0, .ref 39), (1, .int X1), (2, .int X2)]) (st' := [.ref 48]) rfl ?_
                    refine r_gR (b := 54) (pc' := 97) (L' := [(3, .ref 48), (0, .ref 39), (1, .int X1), (2, .int X2)]) H hq (z_at.mk 3 rfl rfl) rfl rfl rfl rfl ?_
                    refine r_p hq 1 (pc' := 98) (L' := [(3, .ref 48), (0, .ref 39), (1, .int X1), (2, .int X2)]) (st' := [.int X1, .ref 54]) rfl ?_
                    obtain ⟨g_98, h⟩ := z_ifo_some h
                    refine r_ia (pc' := 99) (L' := [(3, .ref 48), (0, .ref 39), (1, .int X1), (2, .int X2)]) H hq (z_at.mk 1 rfl rfl) (show zAr 54 0 181 = true from rfl) hx1 g_98 rfl rfl ?_
                    intro V_98 hV_98
                    refine r_p hq 3 (pc' := 103) (L' := [(3, .ref 48), (0, .ref 39), (1, .int X1), (2, .int X2)]) (st' := [.int (X2 - ((6 : Int32))), .int V_98]) rfl ?_
                    obtain ⟨o_103, h_103, h⟩ := Option.bind_eq_some_iff.mp h
                    refine r_csI (pc' := 106) (L' := []) (As := [.int V_98, .int (X2 - ((6 : Int32)))]) (rest := []) (j := 3) hq (z_at.mk 3 rfl rfl) (Or.inl ⟨rfl, rfl⟩) rfl rfl (by omega) (g_b_side_ok hV_98 (tx_isub hx2 (rfl : (6 : Int32).toInt = 6)) H h_103) rfl rfl ?_
                    intro R_103 m_103 p_103 e_103 hR_103 H_103
                    subst e_103
                    cases h
                    exact r_ri hq (z_at.mk 1 rfl rfl) rfl rfl hR_103 rfl H_103
                  · refine r_f2 (pc' := 88) (L' := [(3, .ref 48), (0, .ref 39), (1, .int X1), (2, .int X2)]) hq (z_at.mk 3 rfl rfl) rfl hV_83 (rfl : (-1 : Int32).toInt = -1) c_85 rfl rfl ?_
                    refine r_p hq 2 (pc' := 106) (L' := []) (st' := [.int ((-5 : Int32))]) rfl ?_
                    cases h
                    exact r_ri hq (z_at.mk 1 rfl rfl) rfl rfl (rfl : (-5 : Int32).toInt = -5) rfl H
              · refine r_f2 (pc' := 65) (L' := [(3, .ref 48), (0, .ref 39), (1, .int X1), (2, .int X2)]) hq (z_at.mk 3 rfl rfl) rfl hx2 (rfl : (5 : Int32).toInt = 5) c_62 rfl rfl ?_
                refine r_p hq 1 (pc' := 66) (L' := [(3, .ref 48), (0, .ref 39), (1, .int X1), (2, .int X2)]) (st' := [.ref 48]) rfl ?_
                refine r_gR (b := 53) (pc' := 69) (L' := [(3, .ref 48), (0, .ref 39), (1, .int X1), (2, .int X2)]) H hq (z_at.mk 3 rfl rfl) rfl rfl rfl rfl ?_
                refine r_p hq 1 (pc' := 70) (L' := [(3, .ref 48), (0, .ref 39), (1, .int X1), (2, .int X2)]) (st' := [.int X1, .ref 53]) rfl ?_
                obtain ⟨g_70, h⟩ := z_ifo_some h
                refine r_ia (pc' := 71) (L' := [(3, .ref 48), (0, .ref 39), (1, .int X1), (2, .int X2)]) H hq (z_at.mk 1 rfl rfl) (show zAr 53 0 181 = true from rfl) hx1 g_70 rfl rfl ?_
                intro V_70 hV_70
                cases h
                exact r_ri hq (z_at.mk 1 rfl rfl) rfl rfl hV_70 rfl H
            · refine r_f2 (pc' := 53) (L' := [(3, .ref 48), (0, .ref 39), (1, .int X1), (2, .int X2)]) hq (z_at.mk 3 rfl rfl) rfl hx2 (rfl : (4 : Int32).toInt = 4) c_50 rfl rfl ?_
              refine r_p hq 1 (pc' := 54) (L' := [(3, .ref 48), (0, .ref 39), (1, .int X1), (2, .int X2)]) (st' := [.ref 48]) rfl ?_
              refine r_gR (b := 51) (pc' := 57) (L' := [(3, .ref 48), (0, .ref 39), (1, .int X1), (2, .int X2)]) H hq (z_at.mk 3 rfl rfl) rfl rfl rfl rfl ?_
              refine r_p hq 1 (pc' := 58) (L' := [(3, .ref 48), (0, .ref 39), (1, .int X1), (2, .int X2)]) (st' := [.int X1, .ref 51]) rfl ?_
              obtain ⟨g_58, h⟩ := z_ifo_some h
              refine r_ia (pc' := 59) (L' := [(3, .ref 48), (0, .ref 39), (1, .int X1), (2, .int X2)]) H hq (z_at.mk 1 rfl rfl) (show zAr 51 0 181 = true from rfl) hx1 g_58 rfl rfl ?_
              intro V_58 hV_58
              cases h
              exact r_ri hq (z_at.mk 1 rfl rfl) rfl rfl hV_58 rfl H
          · refine r_f2 (pc' := 37) (L' := [(3, .ref 48), (0, .ref 39), (1, .int X1), (2, .int X2)]) hq (z_at.mk 3 rfl rfl) rfl hx2 (rfl : (4 : Int32).toInt = 4) c_34 rfl rfl ?_
            refine r_p hq 1 (pc' := 38) (L' := [(3, .ref 48), (0, .ref 39), (1, .int X1), (2, .int X2)]) (st' := [.ref 48]) rfl ?_
            refine r_gR (b := 52) (pc' := 41) (L' := [(3, .ref 48), (0, .ref 39), (1, .int X1), (2, .int X2)]) H hq (z_at.mk 3 rfl rfl) rfl rfl rfl rfl ?_
            refine r_p hq 1 (pc' := 42) (L' := [(3, .ref 48), (0, .ref 39), (1, .int X1), (2, .int X2)]) (st' := [.int X1, .ref 52]) rfl ?_
            obtain ⟨g_42, h⟩ := z_ifo_some h
            refine r_ia (pc' := 43) (L' := [(3, .ref 48), (0, .ref 39), (1, .int X1), (2, .int X2)]) H hq (z_at.mk 1 rfl rfl) (show zAr 52 0 181 = true from rfl) hx1 g_42 rfl rfl ?_
            intro V_42 hV_42
            refine r_p hq 1 (pc' := 44) (L' := [(3, .ref 48), (0, .ref 39), (1, .int X1), (2, .int X2)]) (st' := [.int X2, .int V_42]) rfl ?_
            obtain ⟨o_44, h_44, h⟩ := Option.bind_eq_some_iff.mp h
            refine r_csI (pc' := 47) (L' := [(3, .ref 48), (0, .ref 39), (1, .int X1), (2, .int X2)]) (As := [.int V_42, .int X2]) (rest := []) (j := 3) hq (z_at.mk 3 rfl rfl) (Or.inl ⟨rfl, rfl⟩) rfl rfl (by omega) (g_b_side_ok hV_42 hx2 H h_44) rfl rfl ?_
            intro R_44 m_44 p_44 e_44 hR_44 H_44
            subst e_44
            cases h
            exact r_ri hq (z_at.mk 1 rfl rfl) rfl rfl hR_44 rfl H_44
        · refine r_f2 (pc' := 30) (L' := []) hq (z_at.mk 3 rfl rfl) rfl hx2 (rfl : (11 : Int32).toInt = 11) c_27 rfl rfl ?_
          refine r_p hq 1 (pc' := 31) (L' := []) (st' := [.int ((-1 : Int32))]) rfl ?_
          cases h
          exact r_ri hq (z_at.mk 1 rfl rfl) rfl rfl (rfl : (-1 : Int32).toInt = -1) rfl H
def g_c_weight (x1 : Int) (σ : zS) : Option (Int × zS) :=
  if x1 < 0 then
    some (-9223372036854775808, σ)
  else
    let v_12 := σ 48 2
    if v_12 ≤ x1 then
      some (-9223372036854775808, σ)
    else
      if 0 ≤ x1 ∧ x1 < 181 then
      let v_29 := σ 55 x1
      some (v_29, σ)
      else none
set_option maxHeartbeats 4000000 in
theorem g_c_weight_ok {xl : Nat} {xs : Nat → Int32} {X1 : Int32} {x1 : Int} (hx1 : X1.toInt = x1) {σ : zS} {p : Nat} {m : zM} {o : Int × zS} (H : zRep xl xs p m σ) (h : g_c_weight x1 σ = some o) : zGo xl xs (fun p' => p = p') 1 139 0 (z_can 139 0 (lv_args 0 [.ref 39, .int X1])) [] m (vL o.1) o.2 := by
  have hq : z_mth 139 = some z_r139 := rfl
  unfold g_c_weight at h
  show zGo xl xs (fun p' => p = p') 1 139 0 [(0, .ref 39), (1, .int X1)] [] m (vL o.1) o.2
  refine r_p hq 1 (pc' := 1) (L' := [(0, .ref 39), (1, .int X1)]) (st' := [.int X1]) rfl ?_
  rcases z_ite h with ⟨c_1, h⟩ | ⟨c_1, h⟩
  · refine r_t1 (pc' := 33) (L' := []) hq (z_at.mk 3 rfl rfl) rfl hx1 c_1 rfl rfl ?_
    refine r_p hq 1 (pc' := 36) (L' := []) (st' := [.long ((-9223372036854775808 : Int64))]) rfl ?_
    cases h
    exact r_rl hq (z_at.mk 1 rfl rfl) rfl (rfl : (-9223372036854775808 : Int64).toInt = -9223372036854775808) rfl H
  · refine r_f1 (pc' := 4) (L' := [(0, .ref 39), (1, .int X1)]) hq (z_at.mk 3 rfl rfl) rfl hx1 c_1 rfl rfl ?_
    refine r_p hq 2 (pc' := 6) (L' := [(0, .ref 39), (1, .int X1)]) (st' := [.ref 39, .int X1]) rfl ?_
    refine r_gR (b := 40) (pc' := 9) (L' := [(0, .ref 39), (1, .int X1)]) H hq (z_at.mk 3 rfl rfl) rfl rfl rfl rfl ?_
    refine r_gR (b := 48) (pc' := 12) (L' := [(0, .ref 39), (1, .int X1)]) H hq (z_at.mk 3 rfl rfl) rfl rfl rfl rfl ?_
    refine r_gI (pc' := 15) (L' := [(0, .ref 39), (1, .int X1)]) H hq (z_at.mk 3 rfl rfl) rfl rfl rfl rfl ?_
    intro V_12 hV_12
    rcases z_ite h with ⟨c_15, h⟩ | ⟨c_15, h⟩
    · refine r_t2 (pc' := 33) (L' := []) hq (z_at.mk 3 rfl rfl) rfl hx1 hV_12 c_15 rfl rfl ?_
      refine r_p hq 1 (pc' := 36) (L' := []) (st' := [.long ((-9223372036854775808 : Int64))]) rfl ?_
      cases h
      exact r_rl hq (z_at.mk 1 rfl rfl) rfl (rfl : (-9223372036854775808 : Int64).toInt = -9223372036854775808) rfl H
    · refine r_f2 (pc' := 18) (L' := [(0, .ref 39), (1, .int X1)]) hq (z_at.mk 3 rfl rfl) rfl hx1 hV_12 c_15 rfl rfl ?_
      refine r_p hq 1 (pc' := 19) (L' := [(0, .ref 39), (1, .int X1)]) (st' := [.ref 39]) rfl ?_
      refine r_gR (b := 40) (pc' := 22) (L' := [(0, .ref 39), (1, .int X1)]) H hq (z_at.mk 3 rfl rfl) rfl rfl rfl rfl ?_
      refine r_gR (b := 48) (pc' := 25) (L' := [(0, .ref 39), (1, .int X1)]) H hq (z_at.mk 3 rfl rfl) rfl rfl rfl rfl ?_
      refine r_gR (b := 55) (pc' := 28) (L' := [(0, .ref 39), (1, .int X1)]) H hq (z_at.mk 3 rfl rfl) rfl rfl rfl rfl ?_
      refine r_p hq 1 (pc' := 29) (L' := [(0, .ref 39), (1, .int X1)]) (st' := [.int X1, .ref 55]) rfl ?_
      obtain ⟨g_29, h⟩ := z_ifo_some h
      refine r_la (pc' := 30) (L' := [(0, .ref 39), (1, .int X1)]) H hq (z_at.mk 1 rfl rfl) (show zAr 55 1 181 = true from rfl) hx1 g_29 rfl rfl ?_
      intro V_29 hV_29
      refine r_p hq 1 (pc' := 36) (L' := []) (st' := [.long V_29]) rfl ?_
      cases h
      exact r_rl hq (z_at.mk 1 rfl rfl) rfl hV_29 rfl H
def g_c_told (x1 : Int) (σ : zS) : Option (Int × zS) :=
  if x1 = 0 then
    let v_67 := σ 48 2
    some (v_67, σ)
  else
  if x1 = 1 then
    (g_ca_sizes 48 σ).bind fun o_79 =>
    some (o_79.1, o_79.2)
  else
  if x1 = 2 then
    let v_91 := σ 48 10
    some (v_91, σ)
  else
  if x1 = 3 then
    let v_103 := σ 48 11
    some (v_103, σ)
  else
  if x1 = 4 then
    let v_115 := σ 48 12
    some (v_115, σ)
  else
  if x1 = 5 then
    let v_127 := σ 48 13
    some (v_127, σ)
  else
  if x1 = 6 then
    let v_139 := σ 48 14
    some (v_139, σ)
  else
  if x1 = 7 then
    let v_151 := σ 48 15
    some (v_151, σ)
  else
  if x1 = 8 then
    let v_163 := σ 48 9
    some (v_163, σ)
  else
  if x1 = 9 then
    let v_174 := σ 41 4
    some (v_174, σ)
  else
  if x1 = 10 then
    (g_jStringBuilder_length σ).bind fun o_183 =>
    some (o_183.1, o_183.2)
  else
  some (-9223372036854775808, σ)
set_option maxHeartbeats 4000000 in
theorem g_c_told_ok {xl : Nat} {xs : Nat → Int32} {X1 : Int32} {x1 : Int} (hx1 : X1.toInt = x1) {σ : zS} {p : Nat} {m : zM} {o : Int × zS} (H : zRep xl xs p m σ) (h : g_c_told x1 σ = some o) : zGo xl xs (fun p' => p = p') 4 140 0 (z_can 140 0 (lv_args 0 [.ref 39, .int X1])) [] m (vL o.1) o.2 := by
  have hq : z_mth 140 = some z_r140 := rfl
  unfold g_c_told at h
  show zGo xl xs (fun p' => p = p') 4 140 0 [(0, .ref 39), (1, .int X1)] [] m (vL o.1) o.2
  refine r_p hq 1 (pc' := 1) (L' := [(0, .ref 39), (1, .int X1)]) (st' := [.int X1]) rfl ?_
  rcases z_ite h with ⟨c_1_0, h⟩ | ⟨c_1_0, h⟩
  · refine r_sw (off := 59) (pc' := 60) (L' := [(0, .ref 39), (1, .int X1)]) hq (z_at.mk 59 rfl rfl) (z_off_v (hx1.trans c_1_0) rfl) rfl rfl rfl ?_
    refine r_p hq 1 (pc' := 61) (L' := [(0, .ref 39), (1, .int X1)]) (st' := [.ref 39]) rfl ?_
    refine r_gR (b := 40) (pc' := 64) (L' := [(0, .ref 39), (1, .int X1)]) H hq (z_at.mk 3 rfl rfl) rfl rfl rfl rfl ?_
    refine r_gR (b := 48) (pc' := 67) (L' := [(0, .ref 39), (1, .int X1)]) H hq (z_at.mk 3 rfl rfl) rfl rfl rfl rfl ?_
    refine r_gI (pc' := 70) (L' := [(0, .ref 39), (1, .int X1)]) H hq (z_at.mk 3 rfl rfl) rfl rfl rfl rfl ?_
    intro V_67 hV_67
    refine r_p hq 1 (pc' := 71) (L' := [(0, .ref 39), (1, .int X1)]) (st' := [.long V_67.toInt64]) rfl ?_
    cases h
    exact r_rl hq (z_at.mk 1 rfl rfl) rfl (tx_i2l hV_67) rfl H
  rcases z_ite h with ⟨c_1_1, h⟩ | ⟨c_1_1, h⟩
  · refine r_sw (off := 71) (pc' := 72) (L' := [(0, .ref 39), (1, .int X1)]) hq (z_at.mk 59 rfl rfl) (z_off_v (hx1.trans c_1_1) rfl) rfl rfl rfl ?_
    refine r_p hq 1 (pc' := 73) (L' := [(0, .ref 39), (1, .int X1)]) (st' := [.ref 39]) rfl ?_
    refine r_gR (b := 40) (pc' := 76) (L' := [(0, .ref 39), (1, .int X1)]) H hq (z_at.mk 3 rfl rfl) rfl rfl rfl rfl ?_
    refine r_gR (b := 48) (pc' := 79) (L' := [(0, .ref 39), (1, .int X1)]) H hq (z_at.mk 3 rfl rfl) rfl rfl rfl rfl ?_
    obtain ⟨o_79, h_79, h⟩ := Option.bind_eq_some_iff.mp h
    refine r_cvI (pc' := 82) (L' := [(0, .ref 39), (1, .int X1)]) (Ps := []) (rest := []) hq (z_at.mk 3 rfl rfl) (Or.inl ⟨rfl, rfl⟩) rfl rfl (by decide) (by decide) rfl (Nat.not_lt.mpr (Nat.le_of_ble_eq_true rfl)) rfl rfl (z_cat_le 0 rfl (by decide)) (z_lgl_le 1 rfl (by decide)) (by decide) (H.tg rfl) (by omega) (g_ca_sizes_ok rfl H h_79) rfl rfl ?_
    intro R_79 m_79 p_79 e_79 hR_79 H_79
    subst e_79
    refine r_p hq 1 (pc' := 83) (L' := [(0, .ref 39), (1, .int X1)]) (st' := [.long R_79.toInt64]) rfl ?_
    cases h
    exact r_rl hq (z_at.mk 1 rfl rfl) rfl (tx_i2l hR_79) rfl H_79
  rcases z_ite h with ⟨c_1_2, h⟩ | ⟨c_1_2, h⟩
  · refine r_sw (off := 83) (pc' := 84) (L' := [(0, .ref 39), (1, .int X1)]) hq (z_at.mk 59 rfl rfl) (z_off_v (hx1.trans c_1_2) rfl) rfl rfl rfl ?_
    refine r_p hq 1 (pc' := 85) (L' := [(0, .ref 39), (1, .int X1)]) (st' := [.ref 39]) rfl ?_
    refine r_gR (b := 40) (pc' := 88) (L' := [(0, .ref 39), (1, .int X1)]) H hq (z_at.mk 3 rfl rfl) rfl rfl rfl rfl ?_
    refine r_gR (b := 48) (pc' := 91) (L' := [(0, .ref 39), (1, .int X1)]) H hq (z_at.mk 3 rfl rfl) rfl rfl rfl rfl ?_
    refine r_gI (pc' := 94) (L' := [(0, .ref 39), (1, .int X1)]) H hq (z_at.mk 3 rfl rfl) rfl rfl rfl rfl ?_
    intro V_91 hV_91
    refine r_p hq 1 (pc' := 95) (L' := [(0, .ref 39), (1, .int X1)]) (st' := [.long V_91.toInt64]) rfl ?_
    cases h
    exact r_rl hq (z_at.mk 1 rfl rfl) rfl (tx_i2l hV_91) rfl H
  rcases z_ite h with ⟨c_1_3, h⟩ | ⟨c_1_3, h⟩
  · refine r_sw (off := 95) (pc' := 96) (L' := [(0, .ref 39), (1, .int X1)]) hq (z_at.mk 59 rfl rfl) (z_off_v (hx1.trans c_1_3) rfl) rfl rfl rfl ?_
    refine r_p hq 1 (pc' := 97) (L' := [(0, .ref 39), (1, .int X1)]) (st' := [.ref 39]) rfl ?_
    refine r_gR (b := 40) (pc' := 100) (L' := [(0, .ref 39), (1, .int X1)]) H hq (z_at.mk 3 rfl rfl) rfl rfl rfl rfl ?_
    refine r_gR (b := 48) (pc' := 103) (L' := [(0, .ref 39), (1, .int X1)]) H hq (z_at.mk 3 rfl rfl) rfl rfl rfl rfl ?_
    refine r_gI (pc' := 106) (L' := [(0, .ref 39), (1, .int X1)]) H hq (z_at.mk 3 rfl rfl) rfl rfl rfl rfl ?_
    intro V_103 hV_103
    refine r_p hq 1 (pc' := 107) (L' := [(0, .ref 39), (1, .int X1)]) (st' := [.long V_103.toInt64]) rfl ?_
    cases h
    exact r_rl hq (z_at.mk 1 rfl rfl) rfl (tx_i2l hV_103) rfl H
  rcases z_ite h with ⟨c_1_4, h⟩ | ⟨c_1_4, h⟩
  · refine r_sw (off := 107) (pc' := 108) (L' := [(0, .ref 39), (1, .int X1)]) hq (z_at.mk 59 rfl rfl) (z_off_v (hx1.trans c_1_4) rfl) rfl rfl rfl ?_
    refine r_p hq 1 (pc' := 109) (L' := [(0, .ref 39), (1, .int X1)]) (st' := [.ref 39]) rfl ?_
    refine r_gR (b := 40) (pc' := 112) (L' := [(0, .ref 39), (1, .int X1)]) H hq (z_at.mk 3 rfl rfl) rfl rfl rfl rfl ?_
    refine r_gR (b := 48) (pc' := 115) (L' := [(0, .ref 39), (1, .int X1)]) H hq (z_at.mk 3 rfl rfl) rfl rfl rfl rfl ?_
    refine r_gI (pc' := 118) (L' := [(0, .ref 39), (1, .int X1)]) H hq (z_at.mk 3 rfl rfl) rfl rfl rfl rfl ?_
    intro V_115 hV_115
    refine r_p hq 1 (pc' := 119) (L' := [(0, .ref 39), (1, .int X1)]) (st' := [.long V_115.toInt64]) rfl ?_
    cases h
    exact r_rl hq (z_at.mk 1 rfl rfl) rfl (tx_i2l hV_115) rfl H
  rcases z_ite h with ⟨c_1_5, h⟩ | ⟨c_1_5, h⟩
  · refine r_sw (off := 119) (pc' := 120) (L' := [(0, .ref 39), (1, .int X1)]) hq (z_at.mk 59 rfl rfl) (z_off_v (hx1.trans c_1_5) rfl) rfl rfl rfl ?_
    refine r_p hq 1 (pc' := 121) (L' := [(0, .ref 39), (1, .int X1)]) (st' := [.ref 39]) rfl ?_
    refine r_gR (b := 40) (pc' := 124) (L' := [(0, .ref 39), (1, .int X1)]) H hq (z_at.mk 3 rfl rfl) rfl rfl rfl rfl ?_
    refine r_gR (b := 48) (pc' := 127) (L' := [(0, .ref 39), (1, .int X1)]) H hq (z_at.mk 3 rfl rfl) rfl rfl rfl rfl ?_
    refine r_gI (pc' := 130) (L' := [(0, .ref 39), (1, .int X1)]) H hq (z_at.mk 3 rfl rfl) rfl rfl rfl rfl ?_
    intro V_127 hV_127
    refine r_p hq 1 (pc' := 131) (L' := [(0, .ref 39), (1, .int X1)]) (st' := [.long V_127.toInt64]) rfl ?_
    cases h
    exact r_rl hq (z_at.mk 1 rfl rfl) rfl (tx_i2l hV_127) rfl H
  rcases z_ite h with ⟨c_1_6, h⟩ | ⟨c_1_6, h⟩
  · refine r_sw (off := 131) (pc' := 132) (L' := [(0, .ref 39), (1, .int X1)]) hq (z_at.mk 59 rfl rfl) (z_off_v (hx1.trans c_1_6) rfl) rfl rfl rfl ?_
    refine r_p hq 1 (pc' := 133) (L' := [(0, .ref 39), (1, .int X1)]) (st' := [.ref 39]) rfl ?_
    refine r_gR (b := 40) (pc' := 136) (L' := [(0, .ref 39), (1, .int X1)]) H hq (z_at.mk 3 rfl rfl) rfl rfl rfl rfl ?_
    refine r_gR (b := 48) (pc' := 139) (L' := [(0, .ref 39), (1, .int X1)]) H hq (z_at.mk 3 rfl rfl) rfl rfl rfl rfl ?_
    refine r_gI (pc' := 142) (L' := [(0, .ref 39), (1, .int X1)]) H hq (z_at.mk 3 rfl rfl) rfl rfl rfl rfl ?_
    intro V_139 hV_139
    refine r_p hq 1 (pc' := 143) (L' := [(0, .ref 39), (1, .int X1)]) (st' := [.long V_139.toInt64]) rfl ?_
    cases h
    exact r_rl hq (z_at.mk 1 rfl rfl) rfl (tx_i2l hV_139) rfl H
  rcases z_ite h with ⟨c_1_7, h⟩ | ⟨c_1_7, h⟩
  · refine r_sw (off := 143) (pc' := 144) (L' := [(0, .ref 39), (1, .int X1)]) hq (z_at.mk 59 rfl rfl) (z_off_v (hx1.trans c_1_7) rfl) rfl rfl rfl ?_
    refine r_p hq 1 (pc' := 145) (L' := [(0, .ref 39), (1, .int X1)]) (st' := [.ref 39]) rfl ?_
    refine r_gR (b := 40) (pc' := 148) (L' := [(0, .ref 39), (1, .int X1)]) H hq (z_at.mk 3 rfl rfl) rfl rfl rfl rfl ?_
    refine r_gR (b := 48) (pc' := 151) (L' := [(0, .ref 39), (1, .int X1)]) H hq (z_at.mk 3 rfl rfl) rfl rfl rfl rfl ?_
    refine r_gI (pc' := 154) (L' := [(0, .ref 39), (1, .int X1)]) H hq (z_at.mk 3 rfl rfl) rfl rfl rfl rfl ?_
    intro V_151 hV_151
    refine r_p hq 1 (pc' := 155) (L' := [(0, .ref 39), (1, .int X1)]) (st' := [.long V_151.toInt64]) rfl ?_
    cases h
    exact r_rl hq (z_at.mk 1 rfl rfl) rfl (tx_i2l hV_151) rfl H
  rcases z_ite h with ⟨c_1_8, h⟩ | ⟨c_1_8, h⟩
  · refine r_sw (off := 155) (pc' := 156) (L' := [(0, .ref 39), (1, .int X1)]) hq (z_at.mk 59 rfl rfl) (z_off_v (hx1.trans c_1_8) rfl) rfl rfl rfl ?_
    refine r_p hq 1 (pc' := 157) (L' := [(0, .ref 39), (1, .int X1)]) (st' := [.ref 39]) rfl ?_
    refine r_gR (b := 40) (pc' := 160) (L' := [(0, .ref 39), (1, .int X1)]) H hq (z_at.mk 3 rfl rfl) rfl rfl rfl rfl ?_
    refine r_gR (b := 48) (pc' := 163) (L' := [(0, .ref 39), (1, .int X1)]) H hq (z_at.mk 3 rfl rfl) rfl rfl rfl rfl ?_
    refine r_gL (pc' := 166) (L' := [(0, .ref 39), (1, .int X1)]) H hq (z_at.mk 3 rfl rfl) rfl rfl rfl rfl ?_
    intro V_163 hV_163
    cases h
    exact r_rl hq (z_at.mk 1 rfl rfl) rfl hV_163 rfl H
  rcases z_ite h with ⟨c_1_9, h⟩ | ⟨c_1_9, h⟩
  · refine r_sw (off := 166) (pc' := 167) (L' := [(0, .ref 39), (1, .int X1)]) hq (z_at.mk 59 rfl rfl) (z_off_v (hx1.trans c_1_9) rfl) rfl rfl rfl ?_
    refine r_p hq 1 (pc' := 168) (L' := [(0, .ref 39), (1, .int X1)]) (st' := [.ref 39]) rfl ?_
    refine r_gR (b := 40) (pc' := 171) (L' := [(0, .ref 39), (1, .int X1)]) H hq (z_at.mk 3 rfl rfl) rfl rfl rfl rfl ?_
    refine r_gR (b := 41) (pc' := 174) (L' := [(0, .ref 39), (1, .int X1)]) H hq (z_at.mk 3 rfl rfl) rfl rfl rfl rfl ?_
    refine r_gI (pc' := 177) (L' := [(0, .ref 39), (1, .int X1)]) H hq (z_at.mk 3 rfl rfl) rfl rfl rfl rfl ?_
    intro V_174 hV_174
    refine r_p hq 1 (pc' := 178) (L' := [(0, .ref 39), (1, .int X1)]) (st' := [.long V_174.toInt64]) rfl ?_
    cases h
    exact r_rl hq (z_at.mk 1 rfl rfl) rfl (tx_i2l hV_174) rfl H
  rcases z_ite h with ⟨c_1_10, h⟩ | ⟨c_1_10, h⟩
  · refine r_sw (off := 178) (pc' := 179) (L' := [(0, .ref 39), (1, .int X1)]) hq (z_at.mk 59 rfl rfl) (z_off_v (hx1.trans c_1_10) rfl) rfl rfl rfl ?_
    refine r_p hq 1 (pc' := 180) (L' := [(0, .ref 39), (1, .int X1)]) (st' := [.ref 39]) rfl ?_
    refine r_gR (b := 129) (pc' := 183) (L' := [(0, .ref 39), (1, .int X1)]) H hq (z_at.mk 3 rfl rfl) rfl rfl rfl rfl ?_
    obtain ⟨o_183, h_183, h⟩ := Option.bind_eq_some_iff.mp h
    refine r_cvI (pc' := 186) (L' := [(0, .ref 39), (1, .int X1)]) (Ps := []) (rest := []) hq (z_at.mk 3 rfl rfl) (Or.inl ⟨rfl, rfl⟩) rfl rfl (by decide) (by decide) rfl (Nat.not_lt.mpr (Nat.le_of_ble_eq_true rfl)) rfl rfl (z_cat_le 0 rfl (by decide)) (z_lgl_le 1 rfl (by decide)) (by decide) (H.tg rfl) (by omega) (g_jStringBuilder_length_ok H h_183) rfl rfl ?_
    intro R_183 m_183 p_183 e_183 hR_183 H_183
    subst e_183
    refine r_p hq 1 (pc' := 187) (L' := [(0, .ref 39), (1, .int X1)]) (st' := [.long R_183.toInt64]) rfl ?_
    cases h
    exact r_rl hq (z_at.mk 1 rfl rfl) rfl (tx_i2l hR_183) rfl H_183
  have hx_1 : X1.toInt = x1 := hx1
  refine r_sw (off := 187) (pc' := 188) (L' := [(0, .ref 39), (1, .int X1)]) hq (z_at.mk 59 rfl rfl) (z_off_out (by omega)) rfl rfl rfl ?_
  refine r_p hq 1 (pc' := 191) (L' := [(0, .ref 39), (1, .int X1)]) (st' := [.long ((-9223372036854775808 : Int64))]) rfl ?_
  cases h
  exact r_rl hq (z_at.mk 1 rfl rfl) rfl (rfl : (-9223372036854775808 : Int64).toInt = -9223372036854775808) rfl H
def g_c_flush (σ : zS) : Option (Int × zS) :=
  let v_7 := σ 48 2
  let s_19 := zu σ 48 2 0
  some (v_7, s_19)
set_option maxHeartbeats 4000000 in
theorem g_c_flush_ok {xl : Nat} {xs : Nat → Int32} {σ : zS} {p : Nat} {m : zM} {o : Int × zS} (H : zRep xl xs p m σ) (h : g_c_flush σ = some o) : zGo xl xs (fun p' => p = p') 1 141 0 (z_can 141 0 (lv_args 0 [.ref 39])) [] m (vI o.1) o.2 := by
  have hq : z_mth 141 = some z_r141 := rfl
  unfold g_c_flush at h
  show zGo xl xs (fun p' => p = p') 1 141 0 [(0, .ref 39)] [] m (vI o.1) o.2
  refine r_p hq 1 (pc' := 1) (L' := [(0, .ref 39)]) (st' := [.ref 39]) rfl ?_
  refine r_gR (b := 40) (pc' := 4) (L' := [(0, .ref 39)]) H hq (z_at.mk 3 rfl rfl) rfl rfl rfl rfl ?_
  refine r_gR (b := 48) (pc' := 7) (L' := [(0, .ref 39)]) H hq (z_at.mk 3 rfl rfl) rfl rfl rfl rfl ?_
  refine r_gI (pc' := 10) (L' := [(0, .ref 39)]) H hq (z_at.mk 3 rfl rfl) rfl rfl rfl rfl ?_
  intro V_7 hV_7
  refine r_p hq 2 (pc' := 12) (L' := [(1, .int V_7), (0, .ref 39)]) (st' := [.ref 39]) rfl ?_
  refine r_gR (b := 40) (pc' := 15) (L' := [(1, .int V_7), (0, .ref 39)]) H hq (z_at.mk 3 rfl rfl) rfl rfl rfl rfl ?_
  refine r_gR (b := 48) (pc' := 18) (L' := [(1, .int V_7), (0, .ref 39)]) H hq (z_at.mk 3 rfl rfl) rfl rfl rfl rfl ?_
  refine r_p hq 1 (pc' := 19) (L' := [(1, .int V_7), (0, .ref 39)]) (st' := [.int ((0 : Int32)), .ref 48]) rfl ?_
  refine r_pI (X := (0 : Int32)) (pc' := 22) (L' := [(1, .int V_7), (0, .ref 39)]) H hq (z_at.mk 3 rfl rfl) rfl rfl (rfl : (0 : Int32).toInt = 0) (by decide) rfl rfl rfl rfl ?_
  intro m_19 H_19
  refine r_p hq 1 (pc' := 23) (L' := [(1, .int V_7), (0, .ref 39)]) (st' := [.int V_7]) rfl ?_
  cases h
  exact r_ri hq (z_at.mk 1 rfl rfl) rfl rfl hV_7 rfl H_19
def g_c_keep (x1 : Int) (σ : zS) : Option (Int × zS) :=
  if 0 ≤ x1 then
    (g_ca_bestSet 48 x1 σ).bind fun o_17 =>
    some (o_17.1, o_17.2)
  else
    some (-2, σ)
set_option maxHeartbeats 4000000 in
theorem g_c_keep_ok {xl : Nat} {xs : Nat → Int32} {X1 : Int32} {x1 : Int} (hx1 : X1.toInt = x1) {σ : zS} {p : Nat} {m : zM} {o : Int × zS} (H : zRep xl xs p m σ) (h : g_c_keep x1 σ = some o) : zGo xl xs (fun p' => p = p') 4 142 0 (z_can 142 0 (lv_args 0 [.ref 39, .int X1])) [] m (vI o.1) o.2 := by
  have hq : z_mth 142 = some z_r142 := rfl
  unfold g_c_keep at h
  show zGo xl xs (fun p' => p = p') 4 142 0 [(0, .ref 39), (1, .int X1)] [] m (vI o.1) o.2
  refine r_p hq 1 (pc' := 1) (L' := [(0, .ref 39), (1, .int X1)]) (st' := [.int X1]) rfl ?_
  rcases z_ite h with ⟨c_1, h⟩ | ⟨c_1, h⟩
  · refine r_t1 (pc' := 9) (L' := [(0, .ref 39), (1, .int X1)]) hq (z_at.mk 3 rfl rfl) rfl hx1 c_1 rfl rfl ?_
    refine r_p hq 1 (pc' := 10) (L' := [(0, .ref 39), (1, .int X1)]) (st' := [.ref 39]) rfl ?_
    refine r_gR (b := 40) (pc' := 13) (L' := [(0, .ref 39), (1, .int X1)]) H hq (z_at.mk 3 rfl rfl) rfl rfl rfl rfl ?_
    refine r_gR (b := 48) (pc' := 16) (L' := [(0, .ref 39), (1, .int X1)]) H hq (z_at.mk 3 rfl rfl) rfl rfl rfl rfl ?_
    refine r_p hq 1 (pc' := 17) (L' := [(0, .ref 39), (1, .int X1)]) (st' := [.int X1, .ref 48]) rfl ?_
    obtain ⟨o_17, h_17, h⟩ := Option.bind_eq_some_iff.mp h
    refine r_cvI (pc' := 20) (L' := []) (Ps := [.int X1]) (rest := []) hq (z_at.mk 3 rfl rfl) (Or.inl ⟨rfl, rfl⟩) rfl rfl (by decide) (by decide) rfl (Nat.not_lt.mpr (Nat.le_of_ble_eq_true rfl)) rfl rfl (z_cat_le 0 rfl (by decide)) (z_lgl_le 2 rfl (by decide)) (by decide) (H.tg rfl) (by omega) (g_ca_bestSet_ok rfl hx1 H h_17) rfl rfl ?_
    intro R_17 m_17 p_17 e_17 hR_17 H_17
    subst e_17
    cases h
    exact r_ri hq (z_at.mk 1 rfl rfl) rfl rfl hR_17 rfl H_17
  · refine r_f1 (pc' := 4) (L' := [(0, .ref 39), (1, .int X1)]) hq (z_at.mk 3 rfl rfl) rfl hx1 c_1 rfl rfl ?_
    refine r_p hq 2 (pc' := 20) (L' := []) (st' := [.int ((-2 : Int32))]) rfl ?_
    cases h
    exact r_ri hq (z_at.mk 1 rfl rfl) rfl rfl (rfl : (-2 : Int32).toInt = -2) rfl H
def g_c_trace (x1 : Int) (x2 : Int) (x3 : Int) (x4 : Int) (σ : zS) : Option (Int × zS) :=
  if x1 ≠ -1 then
    (g_b_isBox x1 x2 x3 x4 σ).bind fun o_23 =>
    if o_23.1 ≠ 0 then
      (g_b_of x1 x2 x3 x4 o_23.2).bind fun o_44 =>
      (g_bs_add 63 o_44.1 o_44.2).bind fun o_47 =>
      if o_47.1 = 0 then
        some (-4, o_47.2)
      else
        let v_60 := o_47.2 63 1
        some (v_60, o_47.2)
    else
      some (-2, o_23.2)
  else
    let s_13 := zu σ 63 1 0
    some (0, s_13)
set_option maxHeartbeats 4000000 in
theorem g_c_trace_ok {xl : Nat} {xs : Nat → Int32} {X1 : Int32} {x1 : Int} (hx1 : X1.toInt = x1) {X2 : Int32} {x2 : Int} (hx2 : X2.toInt = x2) {X3 : Int32} {x3 : Int} (hx3 : X3.toInt = x3) {X4 : Int32} {x4 : Int} (hx4 : X4.toInt = x4) {σ : zS} {p : Nat} {m : zM} {o : Int × zS} (H : zRep xl xs p m σ) (h : g_c_trace x1 x2 x3 x4 σ = some o) : zGo xl xs (fun p' => p = p') 3 143 0 (z_can 143 0 (lv_args 0 [.ref 39, .int X1, .int X2, .int X3, .int X4])) [] m (vI o.1) o.2 := by
  have hq : z_mth 143 = some z_r143 := rfl
  unfold g_c_trace at h
  show zGo xl xs (fun p' => p = p') 3 143 0 [(0, .ref 39), (1, .int X1), (2, .int X2), (3, .int X3), (4, .int X4)] [] m (vI o.1) o.2
  refine r_p hq 2 (pc' := 2) (L' := [(0, .ref 39), (1, .int X1), (2, .int X2), (3, .int X3), (4, .int X4)]) (st' := [.int ((-1 : Int32)), .int X1]) rfl ?_
  rcases z_ite h with ⟨c_2, h⟩ | ⟨c_2, h⟩
  · refine r_t2 (pc' := 18) (L' := [(0, .ref 39), (1, .int X1), (2, .int X2), (3, .int X3), (4, .int X4)]) hq (z_at.mk 3 rfl rfl) rfl hx1 (rfl : (-1 : Int32).toInt = -1) c_2 rfl rfl ?_
    refine r_p hq 4 (pc' := 23) (L' := [(0, .ref 39), (1, .int X1), (2, .int X2), (3, .int X3), (4, .int X4)]) (st' := [.int X4, .int X3, .int X2, .int X1]) rfl ?_
    obtain ⟨o_23, h_23, h⟩ := Option.bind_eq_some_iff.mp h
    refine r_csI (pc' := 26) (L' := [(0, .ref 39), (1, .int X1), (2, .int X2), (3, .int X3), (4, .int X4)]) (As := [.int X1, .int X2, .int X3, .int X4]) (rest := []) (j := 1) hq (z_at.mk 3 rfl rfl) (Or.inl ⟨rfl, rfl⟩) rfl rfl (by omega) (g_b_isBox_ok hx1 hx2 hx3 hx4 H h_23) rfl rfl ?_
    intro R_23 m_23 p_23 e_23 hR_23 H_23
    subst e_23
    rcases z_ite h with ⟨c_26, h⟩ | ⟨c_26, h⟩
    · refine r_t1 (pc' := 32) (L' := [(0, .ref 39), (1, .int X1), (2, .int X2), (3, .int X3), (4, .int X4)]) hq (z_at.mk 3 rfl rfl) rfl hR_23 c_26 rfl rfl ?_
      refine r_p hq 1 (pc' := 33) (L' := [(0, .ref 39), (1, .int X1), (2, .int X2), (3, .int X3), (4, .int X4)]) (st' := [.ref 39]) rfl ?_
      refine r_gR (b := 40) (pc' := 36) (L' := [(0, .ref 39), (1, .int X1), (2, .int X2), (3, .int X3), (4, .int X4)]) H_23 hq (z_at.mk 3 rfl rfl) rfl rfl rfl rfl ?_
      refine r_gR (b := 63) (pc' := 39) (L' := [(0, .ref 39), (1, .int X1), (2, .int X2), (3, .int X3), (4, .int X4)]) H_23 hq (z_at.mk 3 rfl rfl) rfl rfl rfl rfl ?_
      refine r_p hq 4 (pc' := 44) (L' := [(0, .ref 39), (1, .int X1), (2, .int X2), (3, .int X3), (4, .int X4)]) (st' := [.int X4, .int X3, .int X2, .int X1, .ref 63]) rfl ?_
      obtain ⟨o_44, h_44, h⟩ := Option.bind_eq_some_iff.mp h
      refine r_csI (pc' := 47) (L' := [(0, .ref 39), (1, .int X1), (2, .int X2), (3, .int X3), (4, .int X4)]) (As := [.int X1, .int X2, .int X3, .int X4]) (rest := [.ref 63]) (j := 2) hq (z_at.mk 3 rfl rfl) (Or.inl ⟨rfl, rfl⟩) rfl rfl (by omega) (g_b_of_ok hx1 hx2 hx3 hx4 H_23 h_44) rfl rfl ?_
      intro R_44 m_44 p_44 e_44 hR_44 H_44
      subst e_44
      obtain ⟨o_47, h_47, h⟩ := Option.bind_eq_some_iff.mp h
      refine r_cvI (pc' := 50) (L' := [(0, .ref 39), (1, .int X1), (2, .int X2), (3, .int X3), (4, .int X4)]) (Ps := [.int R_44]) (rest := []) hq (z_at.mk 3 rfl rfl) (Or.inl ⟨rfl, rfl⟩) rfl rfl (by decide) (by decide) rfl (Nat.not_lt.mpr (Nat.le_of_ble_eq_true rfl)) rfl rfl (z_cat_le 0 rfl (by decide)) (z_lgl_le 2 rfl (by decide)) (by decide) (H_44.tg rfl) (by omega) (g_bs_add_ok rfl hR_44 H_44 h_47) rfl rfl ?_
      intro R_47 m_47 p_47 e_47 hR_47 H_47
      subst e_47
      rcases z_ite h with ⟨c_50, h⟩ | ⟨c_50, h⟩
      · refine r_t1 (pc' := 66) (L' := [(0, .ref 39), (1, .int X1), (2, .int X2), (3, .int X3), (4, .int X4)]) hq (z_at.mk 3 rfl rfl) rfl hR_47 c_50 rfl rfl ?_
        refine r_p hq 1 (pc' := 68) (L' := []) (st' := [.int ((-4 : Int32))]) rfl ?_
        cases h
        exact r_ri hq (z_at.mk 1 rfl rfl) rfl rfl (rfl : (-4 : Int32).toInt = -4) rfl H_47
      · refine r_f1 (pc' := 53) (L' := [(0, .ref 39), (1, .int X1), (2, .int X2), (3, .int X3), (4, .int X4)]) hq (z_at.mk 3 rfl rfl) rfl hR_47 c_50 rfl rfl ?_
        refine r_p hq 1 (pc' := 54) (L' := [(0, .ref 39), (1, .int X1), (2, .int X2), (3, .int X3), (4, .int X4)]) (st' := [.ref 39]) rfl ?_
        refine r_gR (b := 40) (pc' := 57) (L' := [(0, .ref 39), (1, .int X1), (2, .int X2), (3, .int X3), (4, .int X4)]) H_47 hq (z_at.mk 3 rfl rfl) rfl rfl rfl rfl ?_
        refine r_gR (b := 63) (pc' := 60) (L' := [(0, .ref 39), (1, .int X1), (2, .int X2), (3, .int X3), (4, .int X4)]) H_47 hq (z_at.mk 3 rfl rfl) rfl rfl rfl rfl ?_
        refine r_gI (pc' := 63) (L' := [(0, .ref 39), (1, .int X1), (2, .int X2), (3, .int X3), (4, .int X4)]) H_47 hq (z_at.mk 3 rfl rfl) rfl rfl rfl rfl ?_
        intro V_60 hV_60
        refine r_p hq 1 (pc' := 68) (L' := []) (st' := [.int V_60]) rfl ?_
        cases h
        exact r_ri hq (z_at.mk 1 rfl rfl) rfl rfl hV_60 rfl H_47
    · refine r_f1 (pc' := 29) (L' := [(0, .ref 39), (1, .int X1), (2, .int X2), (3, .int X3), (4, .int X4)]) hq (z_at.mk 3 rfl rfl) rfl hR_23 c_26 rfl rfl ?_
      refine r_p hq 1 (pc' := 31) (L' := [(0, .ref 39), (1, .int X1), (2, .int X2), (3, .int X3), (4, .int X4)]) (st' := [.int ((-2 : Int32))]) rfl ?_
      cases h
      exact r_ri hq (z_at.mk 1 rfl rfl) rfl rfl (rfl : (-2 : Int32).toInt = -2) rfl H_23
  · refine r_f2 (pc' := 5) (L' := [(0, .ref 39), (1, .int X1), (2, .int X2), (3, .int X3), (4, .int X4)]) hq (z_at.mk 3 rfl rfl) rfl hx1 (rfl : (-1 : Int32).toInt = -1) c_2 rfl rfl ?_
    refine r_p hq 1 (pc' := 6) (L' := [(0, .ref 39), (1, .int X1), (2, .int X2), (3, .int X3), (4, .int X4)]) (st' := [.ref 39]) rfl ?_
    refine r_gR (b := 40) (pc' := 9) (L' := [(0, .ref 39), (1, .int X1), (2, .int X2), (3, .int X3), (4, .int X4)]) H hq (z_at.mk 3 rfl rfl) rfl rfl rfl rfl ?_
    refine r_gR (b := 63) (pc' := 12) (L' := [(0, .ref 39), (1, .int X1), (2, .int X2), (3, .int X3), (4, .int X4)]) H hq (z_at.mk 3 rfl rfl) rfl rfl rfl rfl ?_
    refine r_p hq 1 (pc' := 13) (L' := [(0, .ref 39), (1, .int X1), (2, .int X2), (3, .int X3), (4, .int X4)]) (st' := [.int ((0 : Int32)), .ref 63]) rfl ?_
    refine r_pI (X := (0 : Int32)) (pc' := 16) (L' := [(0, .ref 39), (1, .int X1), (2, .int X2), (3, .int X3), (4, .int X4)]) H hq (z_at.mk 3 rfl rfl) rfl rfl (rfl : (0 : Int32).toInt = 0) (by decide) rfl rfl rfl rfl ?_
    intro m_13 H_13
    refine r_p hq 1 (pc' := 17) (L' := [(0, .ref 39), (1, .int X1), (2, .int X2), (3, .int X3), (4, .int X4)]) (st' := [.int ((0 : Int32))]) rfl ?_
    cases h
    exact r_ri hq (z_at.mk 1 rfl rfl) rfl rfl (rfl : (0 : Int32).toInt = 0) rfl H_13
def g_c_doAgain_L41 : Nat → Int → zS → Option (Unit × zS)
  | 0, _, _ => none
  | n + 1, x2, σ =>
    let v_49 := σ 63 1
    if v_49 ≤ x2 then
      some ((), σ)
    else
      (g_bs_at 63 x2 σ).bind fun o_67 =>
      (g_ca_serve 106 o_67.1 o_67.2).bind fun o_70 =>
      (g_c_doAgain_L41 n) (w32 (x2 + 1)) o_70.2
set_option maxHeartbeats 4000000 in
theorem g_c_doAgain_L41_ok {xl : Nat} {xs : Nat → Int32} : ∀ (n : Nat) {X2 : Int32} {x2 : Int} {σ : zS} {p : Nat} {m : zM} {o : Unit × zS}, X2.toInt = x2 → zRep xl xs p m σ → g_c_doAgain_L41 n x2 σ = some o → zGo xl xs (fun p' => p = p') 7 145 41 [(0, .ref 39), (2, .int X2)] [] m vV o.2
  | 0, _, _, _, _, _, _, _, _, h => by cases h
  | n + 1, X2, x2, σ, p, m, o, hx2, H, h => by
    have hq : z_mth 145 = some z_r145 := rfl
    have ih := fun {X2 : Int32} {x2 : Int} {σ : zS} {p : Nat} {m : zM} {o : Unit × zS} => g_c_doAgain_L41_ok (xl := xl) (xs := xs) n (X2 := X2) (x2 := x2) (σ := σ) (p := p) (m := m) (o := o)
    unfold g_c_doAgain_L41 at h
    refine r_p hq 2 (pc' := 43) (L' := [(0, .ref 39), (2, .int X2)]) (st' := [.ref 39, .int X2]) rfl ?_
    refine r_gR (b := 40) (pc' := 46) (L' := [(0, .ref 39), (2, .int X2)]) H hq (z_at.mk 3 rfl rfl) rfl rfl rfl rfl ?_
    refine r_gR (b := 63) (pc' := 49) (L' := [(0, .ref 39), (2, .int X2)]) H hq (z_at.mk 3 rfl rfl) rfl rfl rfl rfl ?_
    refine r_gI (pc' := 52) (L' := [(0, .ref 39), (2, .int X2)]) H hq (z_at.mk 3 rfl rfl) rfl rfl rfl rfl ?_
    intro V_49 hV_49
    rcases z_ite h with ⟨c_52, h⟩ | ⟨c_52, h⟩
    · refine r_t2 (pc' := 79) (L' := [(0, .ref 39), (2, .int X2)]) hq (z_at.mk 3 rfl rfl) rfl hx2 hV_49 c_52 rfl rfl ?_
      cases h
      exact r_rv hq (z_at.mk 1 rfl rfl) rfl rfl H
    · refine r_f2 (pc' := 55) (L' := [(0, .ref 39), (2, .int X2)]) hq (z_at.mk 3 rfl rfl) rfl hx2 hV_49 c_52 rfl rfl ?_
      refine r_p hq 1 (pc' := 56) (L' := [(0, .ref 39), (2, .int X2)]) (st' := [.ref 39]) rfl ?_
      refine r_gR (b := 106) (pc' := 59) (L' := [(0, .ref 39), (2, .int X2)]) H hq (z_at.mk 3 rfl rfl) rfl rfl rfl rfl ?_
      refine r_p hq 1 (pc' := 60) (L' := [(0, .ref 39), (2, .int X2)]) (st' := [.ref 39, .ref 106]) rfl ?_
      refine r_gR (b := 40) (pc' := 63) (L' := [(0, .ref 39), (2, .int X2)]) H hq (z_at.mk 3 rfl rfl) rfl rfl rfl rfl ?_
      refine r_gR (b := 63) (pc' := 66) (L' := [(0, .ref 39), (2, .int X2)]) H hq (z_at.mk 3 rfl rfl) rfl rfl rfl rfl ?_
      refine r_p hq 1 (pc' := 67) (L' := [(0, .ref 39), (2, .int X2)]) (st' := [.int X2, .ref 63, .ref 106]) rfl ?_
      obtain ⟨o_67, h_67, h⟩ := Option.bind_eq_some_iff.mp h
      refine r_cvI (pc' := 70) (L' := [(0, .ref 39), (2, .int X2)]) (Ps := [.int X2]) (rest := [.ref 106]) hq (z_at.mk 3 rfl rfl) (Or.inl ⟨rfl, rfl⟩) rfl rfl (by decide) (by decide) rfl (Nat.not_lt.mpr (Nat.le_of_ble_eq_true rfl)) rfl rfl (z_cat_le 1 rfl (by decide)) (z_lgl_le 2 rfl (by decide)) (by decide) (H.tg rfl) (by omega) (g_bs_at_ok rfl hx2 H h_67) rfl rfl ?_
      intro R_67 m_67 p_67 e_67 hR_67 H_67
      subst e_67
      obtain ⟨o_70, h_70, h⟩ := Option.bind_eq_some_iff.mp h
      refine r_cvV (pc' := 73) (L' := [(0, .ref 39), (2, .int X2)]) (Ps := [.int R_67]) (rest := []) hq (z_at.mk 3 rfl rfl) (Or.inl ⟨rfl, rfl⟩) rfl rfl (by decide) (by decide) rfl (Nat.not_lt.mpr (Nat.le_of_ble_eq_true rfl)) rfl rfl (z_cat_le 0 rfl (by decide)) (z_lgl_le 2 rfl (by decide)) (by decide) (H_67.tg rfl) (by omega) (g_ca_serve_ok rfl hR_67 H_67 h_70) rfl rfl ?_
      intro m_70 p_70 e_70 H_70
      subst e_70
      refine r_p hq 2 (pc' := 41) (L' := [(0, .ref 39), (2, .int (X2 + (1 : Int32)))]) (st' := []) rfl ?_
      exact ih (tx_iadd hx2 (rfl : (1 : Int32).toInt = 1)) H_70 h
def g_c_doAgain (x1 : Int) (σ : zS) : Option (Unit × zS) :=
  (g_ca_forgetAll 106 σ).bind fun o_4 =>
  (g_se_copyFrom 107 49 o_4.2).bind fun o_24 =>
  (g_se_become 107 1 x1 o_24.2).bind fun o_36 =>
  g_c_doAgain_L41 zK 0 o_36.2
set_option maxHeartbeats 4000000 in
theorem g_c_doAgain_ok {xl : Nat} {xs : Nat → Int32} {X1 : Int32} {x1 : Int} (hx1 : X1.toInt = x1) {σ : zS} {p : Nat} {m : zM} {o : Unit × zS} (H : zRep xl xs p m σ) (h : g_c_doAgain x1 σ = some o) : zGo xl xs (fun p' => p = p') 7 145 0 (z_can 145 0 (lv_args 0 [.ref 39, .int X1])) [] m vV o.2 := by
  have hq : z_mth 145 = some z_r145 := rfl
  unfold g_c_doAgain at h
  show zGo xl xs (fun p' => p = p') 7 145 0 [(0, .ref 39), (1, .int X1)] [] m vV o.2
  refine r_p hq 1 (pc' := 1) (L' := [(0, .ref 39), (1, .int X1)]) (st' := [.ref 39]) rfl ?_
  refine r_gR (b := 106) (pc' := 4) (L' := [(0, .ref 39), (1, .int X1)]) H hq (z_at.mk 3 rfl rfl) rfl rfl rfl rfl ?_
  obtain ⟨o_4, h_4, h⟩ := Option.bind_eq_some_iff.mp h
  refine r_cvV (pc' := 7) (L' := [(0, .ref 39), (1, .int X1)]) (Ps := []) (rest := []) hq (z_at.mk 3 rfl rfl) (Or.inl ⟨rfl, rfl⟩) rfl rfl (by decide) (by decide) rfl (Nat.not_lt.mpr (Nat.le_of_ble_eq_true rfl)) rfl rfl (z_cat_le 0 rfl (by decide)) (z_lgl_le 1 rfl (by decide)) (by decide) (H.tg rfl) (by omega) (g_ca_forgetAll_ok rfl H h_4) rfl rfl ?_
  intro m_4 p_4 e_4 H_4
  subst e_4
  refine r_p hq 1 (pc' := 8) (L' := [(0, .ref 39), (1, .int X1)]) (st' := [.ref 39]) rfl ?_
  refine r_gR (b := 106) (pc' := 11) (L' := [(0, .ref 39), (1, .int X1)]) H_4 hq (z_at.mk 3 rfl rfl) rfl rfl rfl rfl ?_
  refine r_gR (b := 107) (pc' := 14) (L' := [(0, .ref 39), (1, .int X1)]) H_4 hq (z_at.mk 3 rfl rfl) rfl rfl rfl rfl ?_
  refine r_p hq 1 (pc' := 15) (L' := [(0, .ref 39), (1, .int X1)]) (st' := [.ref 39, .ref 107]) rfl ?_
  refine r_gR (b := 40) (pc' := 18) (L' := [(0, .ref 39), (1, .int X1)]) H_4 hq (z_at.mk 3 rfl rfl) rfl rfl rfl rfl ?_
  refine r_gR (b := 48) (pc' := 21) (L' := [(0, .ref 39), (1, .int X1)]) H_4 hq (z_at.mk 3 rfl rfl) rfl rfl rfl rfl ?_
  refine r_gR (b := 49) (pc' := 24) (L' := [(0, .ref 39), (1, .int X1)]) H_4 hq (z_at.mk 3 rfl rfl) rfl rfl rfl rfl ?_
  obtain ⟨o_24, h_24, h⟩ := Option.bind_eq_some_iff.mp h
  refine r_cvV (pc' := 27) (L' := [(0, .ref 39), (1, .int X1)]) (Ps := [.ref 49]) (rest := []) hq (z_at.mk 3 rfl rfl) (Or.inl ⟨rfl, rfl⟩) rfl rfl (by decide) (by decide) rfl (Nat.not_lt.mpr (Nat.le_of_ble_eq_true rfl)) rfl rfl (z_cat_le 0 rfl (by decide)) (z_lgl_le 2 rfl (by decide)) (by decide) (H_4.tg rfl) (by omega) (g_se_copyFrom_ok rfl rfl H_4 h_24) rfl rfl ?_
  intro m_24 p_24 e_24 H_24
  subst e_24
  refine r_p hq 1 (pc' := 28) (L' := [(0, .ref 39), (1, .int X1)]) (st' := [.ref 39]) rfl ?_
  refine r_gR (b := 106) (pc' := 31) (L' := [(0, .ref 39), (1, .int X1)]) H_24 hq (z_at.mk 3 rfl rfl) rfl rfl rfl rfl ?_
  refine r_gR (b := 107) (pc' := 34) (L' := [(0, .ref 39), (1, .int X1)]) H_24 hq (z_at.mk 3 rfl rfl) rfl rfl rfl rfl ?_
  refine r_p hq 2 (pc' := 36) (L' := [(0, .ref 39), (1, .int X1)]) (st' := [.int X1, .int ((1 : Int32)), .ref 107]) rfl ?_
  obtain ⟨o_36, h_36, h⟩ := Option.bind_eq_some_iff.mp h
  refine r_cvV (pc' := 39) (L' := [(0, .ref 39), (1, .int X1)]) (Ps := [.int ((1 : Int32)), .int X1]) (rest := []) hq (z_at.mk 3 rfl rfl) (Or.inl ⟨rfl, rfl⟩) rfl rfl (by decide) (by decide) rfl (Nat.not_lt.mpr (Nat.le_of_ble_eq_true rfl)) rfl rfl (z_cat_le 0 rfl (by decide)) (z_lgl_le 3 rfl (by decide)) (by decide) (H_24.tg rfl) (by omega) (g_se_become_ok rfl (rfl : (1 : Int32).toInt = 1) hx1 H_24 h_36) rfl rfl ?_
  intro m_36 p_36 e_36 H_36
  subst e_36
  refine r_p hq 2 (pc' := 41) (L' := [(0, .ref 39), (2, .int ((0 : Int32)))]) (st' := []) rfl ?_
  exact g_c_doAgain_L41_ok zK (rfl : (0 : Int32).toInt = 0) H_36 h
def g_c_again (x1 : Int) (x2 : Int) (σ : zS) : Option (Int × zS) :=
  if x2 < 0 then
    some (-1, σ)
  else
    if x2 ≤ 5 then
      if x1 < 1 then
        some (-2, σ)
      else
        if x1 ≤ 99 then
          (g_c_doAgain x1 σ).bind fun o_27 =>
          if x2 = 0 then
            let v_68 := o_27.2 106 11
            some (v_68, o_27.2)
          else
          if x2 = 1 then
            let v_76 := o_27.2 106 10
            some (v_76, o_27.2)
          else
          if x2 = 2 then
            let v_84 := o_27.2 106 12
            some (v_84, o_27.2)
          else
          if x2 = 3 then
            let v_92 := o_27.2 106 13
            some (v_92, o_27.2)
          else
          if x2 = 4 then
            let v_100 := o_27.2 106 14
            some (v_100, o_27.2)
          else
          let v_108 := o_27.2 106 2
          some (v_108, o_27.2)
        else
          some (-2, σ)
    else
      some (-1, σ)
set_option maxHeartbeats 4000000 in
theorem g_c_again_ok {xl : Nat} {xs : Nat → Int32} {X1 : Int32} {x1 : Int} (hx1 : X1.toInt = x1) {X2 : Int32} {x2 : Int} (hx2 : X2.toInt = x2) {σ : zS} {p : Nat} {m : zM} {o : Int × zS} (H : zRep xl xs p m σ) (h : g_c_again x1 x2 σ = some o) : zGo xl xs (fun p' => p = p') 8 144 0 (z_can 144 0 (lv_args 0 [.ref 39, .int X1, .int X2])) [] m (vI o.1) o.2 := by
  have hq : z_mth 144 = some z_r144 := rfl
  unfold g_c_again at h
  show zGo xl xs (fun p' => p = p') 8 144 0 [(0, .ref 39), (1, .int X1), (2, .int X2)] [] m (vI o.1) o.2
  refine r_p hq 1 (pc' := 1) (L' := [(0, .ref 39), (1, .int X1), (2, .int X2)]) (st' := [.int X2]) rfl ?_
  rcases z_ite h with ⟨c_1, h⟩ | ⟨c_1, h⟩
  · refine r_t1 (pc' := 9) (L' := []) hq (z_at.mk 3 rfl rfl) rfl hx2 c_1 rfl rfl ?_
    refine r_p hq 1 (pc' := 10) (L' := []) (st' := [.int ((-1 : Int32))]) rfl ?_
    cases h
    exact r_ri hq (z_at.mk 1 rfl rfl) rfl rfl (rfl : (-1 : Int32).toInt = -1) rfl H
  · refine r_f1 (pc' := 4) (L' := [(0, .ref 39), (1, .int X1), (2, .int X2)]) hq (z_at.mk 3 rfl rfl) rfl hx2 c_1 rfl rfl ?_
    refine r_p hq 2 (pc' := 6) (L' := [(0, .ref 39), (1, .int X1), (2, .int X2)]) (st' := [.int ((5 : Int32)), .int X2]) rfl ?_
    rcases z_ite h with ⟨c_6, h⟩ | ⟨c_6, h⟩
    · refine r_t2 (pc' := 11) (L' := [(0, .ref 39), (1, .int X1), (2, .int X2)]) hq (z_at.mk 3 rfl rfl) rfl hx2 (rfl : (5 : Int32).toInt = 5) c_6 rfl rfl ?_
      refine r_p hq 2 (pc' := 13) (L' := [(0, .ref 39), (1, .int X1), (2, .int X2)]) (st' := [.int ((1 : Int32)), .int X1]) rfl ?_
      rcases z_ite h with ⟨c_13, h⟩ | ⟨c_13, h⟩
      · refine r_t2 (pc' := 22) (L' := []) hq (z_at.mk 3 rfl rfl) rfl hx1 (rfl : (1 : Int32).toInt = 1) c_13 rfl rfl ?_
        refine r_p hq 1 (pc' := 24) (L' := []) (st' := [.int ((-2 : Int32))]) rfl ?_
        cases h
        exact r_ri hq (z_at.mk 1 rfl rfl) rfl rfl (rfl : (-2 : Int32).toInt = -2) rfl H
      · refine r_f2 (pc' := 16) (L' := [(0, .ref 39), (1, .int X1), (2, .int X2)]) hq (z_at.mk 3 rfl rfl) rfl hx1 (rfl : (1 : Int32).toInt = 1) c_13 rfl rfl ?_
        refine r_p hq 2 (pc' := 19) (L' := [(0, .ref 39), (1, .int X1), (2, .int X2)]) (st' := [.int ((99 : Int32)), .int X1]) rfl ?_
        rcases z_ite h with ⟨c_19, h⟩ | ⟨c_19, h⟩
        · refine r_t2 (pc' := 25) (L' := [(0, .ref 39), (1, .int X1), (2, .int X2)]) hq (z_at.mk 3 rfl rfl) rfl hx1 (rfl : (99 : Int32).toInt = 99) c_19 rfl rfl ?_
          refine r_p hq 2 (pc' := 27) (L' := [(0, .ref 39), (1, .int X1), (2, .int X2)]) (st' := [.int X1, .ref 39]) rfl ?_
          obtain ⟨o_27, h_27, h⟩ := Option.bind_eq_some_iff.mp h
          refine r_cvV (pc' := 30) (L' := [(0, .ref 39), (1, .int X1), (2, .int X2)]) (Ps := [.int X1]) (rest := []) hq (z_at.mk 3 rfl rfl) (Or.inl ⟨rfl, rfl⟩) rfl rfl (by decide) (by decide) rfl (Nat.not_lt.mpr (Nat.le_of_ble_eq_true rfl)) rfl rfl (z_cat_le 0 rfl (by decide)) (z_lgl_le 2 rfl (by decide)) (by decide) (H.tg rfl) (by omega) (g_c_doAgain_ok hx1 H h_27) rfl rfl ?_
          intro m_27 p_27 e_27 H_27
          subst e_27
          refine r_p hq 1 (pc' := 31) (L' := [(0, .ref 39), (1, .int X1), (2, .int X2)]) (st' := [.int X2]) rfl ?_
          rcases z_ite h with ⟨c_31_0, h⟩ | ⟨c_31_0, h⟩
          · refine r_sw (off := 33) (pc' := 64) (L' := [(0, .ref 39), (1, .int X1), (2, .int X2)]) hq (z_at.mk 33 rfl rfl) (z_off_v (hx2.trans c_31_0) rfl) rfl rfl rfl ?_
            refine r_p hq 1 (pc' := 65) (L' := [(0, .ref 39), (1, .int X1), (2, .int X2)]) (st' := [.ref 39]) rfl ?_
            refine r_gR (b := 106) (pc' := 68) (L' := [(0, .ref 39), (1, .int X1), (2, .int X2)]) H_27 hq (z_at.mk 3 rfl rfl) rfl rfl rfl rfl ?_
            refine r_gI (pc' := 71) (L' := [(0, .ref 39), (1, .int X1), (2, .int X2)]) H_27 hq (z_at.mk 3 rfl rfl) rfl rfl rfl rfl ?_
            intro V_68 hV_68
            cases h
            exact r_ri hq (z_at.mk 1 rfl rfl) rfl rfl hV_68 rfl H_27
          rcases z_ite h with ⟨c_31_1, h⟩ | ⟨c_31_1, h⟩
          · refine r_sw (off := 41) (pc' := 72) (L' := [(0, .ref 39), (1, .int X1), (2, .int X2)]) hq (z_at.mk 33 rfl rfl) (z_off_v (hx2.trans c_31_1) rfl) rfl rfl rfl ?_
            refine r_p hq 1 (pc' := 73) (L' := [(0, .ref 39), (1, .int X1), (2, .int X2)]) (st' := [.ref 39]) rfl ?_
            refine r_gR (b := 106) (pc' := 76) (L' := [(0, .ref 39), (1, .int X1), (2, .int X2)]) H_27 hq (z_at.mk 3 rfl rfl) rfl rfl rfl rfl ?_
            refine r_gI (pc' := 79) (L' := [(0, .ref 39), (1, .int X1), (2, .int X2)]) H_27 hq (z_at.mk 3 rfl rfl) rfl rfl rfl rfl ?_
            intro V_76 hV_76
            cases h
            exact r_ri hq (z_at.mk 1 rfl rfl) rfl rfl hV_76 rfl H_27
          rcases z_ite h with ⟨c_31_2, h⟩ | ⟨c_31_2, h⟩
          · refine r_sw (off := 49) (pc' := 80) (L' := [(0, .ref 39), (1, .int X1), (2, .int X2)]) hq (z_at.mk 33 rfl rfl) (z_off_v (hx2.trans c_31_2) rfl) rfl rfl rfl ?_
            refine r_p hq 1 (pc' := 81) (L' := [(0, .ref 39), (1, .int X1), (2, .int X2)]) (st' := [.ref 39]) rfl ?_
            refine r_gR (b := 106) (pc' := 84) (L' := [(0, .ref 39), (1, .int X1), (2, .int X2)]) H_27 hq (z_at.mk 3 rfl rfl) rfl rfl rfl rfl ?_
            refine r_gI (pc' := 87) (L' := [(0, .ref 39), (1, .int X1), (2, .int X2)]) H_27 hq (z_at.mk 3 rfl rfl) rfl rfl rfl rfl ?_
            intro V_84 hV_84
            cases h
            exact r_ri hq (z_at.mk 1 rfl rfl) rfl rfl hV_84 rfl H_27
          rcases z_ite h with ⟨c_31_3, h⟩ | ⟨c_31_3, h⟩
          · refine r_sw (off := 57) (pc' := 88) (L' := [(0, .ref 39), (1, .int X1), (2, .int X2)]) hq (z_at.mk 33 rfl rfl) (z_off_v (hx2.trans c_31_3) rfl) rfl rfl rfl ?_
            refine r_p hq 1 (pc' := 89) (L' := [(0, .ref 39), (1, .int X1), (2, .int X2)]) (st' := [.ref 39]) rfl ?_
            refine r_gR (b := 106) (pc' := 92) (L' := [(0, .ref 39), (1, .int X1), (2, .int X2)]) H_27 hq (z_at.mk 3 rfl rfl) rfl rfl rfl rfl ?_
            refine r_gI (pc' := 95) (L' := [(0, .ref 39), (1, .int X1), (2, .int X2)]) H_27 hq (z_at.mk 3 rfl rfl) rfl rfl rfl rfl ?_
            intro V_92 hV_92
            cases h
            exact r_ri hq (z_at.mk 1 rfl rfl) rfl rfl hV_92 rfl H_27
          rcases z_ite h with ⟨c_31_4, h⟩ | ⟨c_31_4, h⟩
          · refine r_sw (off := 65) (pc' := 96) (L' := [(0, .ref 39), (1, .int X1), (2, .int X2)]) hq (z_at.mk 33 rfl rfl) (z_off_v (hx2.trans c_31_4) rfl) rfl rfl rfl ?_
            refine r_p hq 1 (pc' := 97) (L' := [(0, .ref 39), (1, .int X1), (2, .int X2)]) (st' := [.ref 39]) rfl ?_
            refine r_gR (b := 106) (pc' := 100) (L' := [(0, .ref 39), (1, .int X1), (2, .int X2)]) H_27 hq (z_at.mk 3 rfl rfl) rfl rfl rfl rfl ?_
            refine r_gI (pc' := 103) (L' := [(0, .ref 39), (1, .int X1), (2, .int X2)]) H_27 hq (z_at.mk 3 rfl rfl) rfl rfl rfl rfl ?_
            intro V_100 hV_100
            cases h
            exact r_ri hq (z_at.mk 1 rfl rfl) rfl rfl hV_100 rfl H_27
          have hx_31 : X2.toInt = x2 := hx2
          refine r_sw (off := 73) (pc' := 104) (L' := [(0, .ref 39), (1, .int X1), (2, .int X2)]) hq (z_at.mk 33 rfl rfl) (z_off_out (by omega)) rfl rfl rfl ?_
          refine r_p hq 1 (pc' := 105) (L' := [(0, .ref 39), (1, .int X1), (2, .int X2)]) (st' := [.ref 39]) rfl ?_
          refine r_gR (b := 106) (pc' := 108) (L' := [(0, .ref 39), (1, .int X1), (2, .int X2)]) H_27 hq (z_at.mk 3 rfl rfl) rfl rfl rfl rfl ?_
          refine r_gI (pc' := 111) (L' := [(0, .ref 39), (1, .int X1), (2, .int X2)]) H_27 hq (z_at.mk 3 rfl rfl) rfl rfl rfl rfl ?_
          intro V_108 hV_108
          cases h
          exact r_ri hq (z_at.mk 1 rfl rfl) rfl rfl hV_108 rfl H_27
        · refine r_f2 (pc' := 22) (L' := []) hq (z_at.mk 3 rfl rfl) rfl hx1 (rfl : (99 : Int32).toInt = 99) c_19 rfl rfl ?_
          refine r_p hq 1 (pc' := 24) (L' := []) (st' := [.int ((-2 : Int32))]) rfl ?_
          cases h
          exact r_ri hq (z_at.mk 1 rfl rfl) rfl rfl (rfl : (-2 : Int32).toInt = -2) rfl H
    · refine r_f2 (pc' := 9) (L' := []) hq (z_at.mk 3 rfl rfl) rfl hx2 (rfl : (5 : Int32).toInt = 5) c_6 rfl rfl ?_
      refine r_p hq 1 (pc' := 10) (L' := []) (st' := [.int ((-1 : Int32))]) rfl ?_
      cases h
      exact r_ri hq (z_at.mk 1 rfl rfl) rfl rfl (rfl : (-1 : Int32).toInt = -1) rfl H
def g_c_least_L2 : Nat → Int → Int → zS → Option (Int × zS)
  | 0, _, _, _ => none
  | n + 1, x1, x2, σ =>
    if 99 < x2 then
      some (-5, σ)
    else
      (g_c_doAgain x2 σ).bind fun o_10 =>
      let v_17 := o_10.2 106 11
      if x1 < v_17 then
        (g_c_least_L2 n) x1 (w32 (x2 + 1)) o_10.2
      else
        some (x2, o_10.2)
set_option maxHeartbeats 4000000 in
theorem g_c_least_L2_ok {xl : Nat} {xs : Nat → Int32} : ∀ (n : Nat) {X1 : Int32} {x1 : Int} {X2 : Int32} {x2 : Int} {σ : zS} {p : Nat} {m : zM} {o : Int × zS}, X1.toInt = x1 → X2.toInt = x2 → zRep xl xs p m σ → g_c_least_L2 n x1 x2 σ = some o → zGo xl xs (fun p' => p = p') 8 146 2 [(0, .ref 39), (1, .int X1), (2, .int X2)] [] m (vI o.1) o.2
  | 0, _, _, _, _, _, _, _, _, _, _, _, h => by cases h
  | n + 1, X1, x1, X2, x2, σ, p, m, o, hx1, hx2, H, h => by
    have hq : z_mth 146 = some z_r146 := rfl
    have ih := fun {X1 : Int32} {x1 : Int} {X2 : Int32} {x2 : Int} {σ : zS} {p : Nat} {m : zM} {o : Int × zS} => g_c_least_L2_ok (xl := xl) (xs := xs) n (X1 := X1) (x1 := x1) (X2 := X2) (x2 := x2) (σ := σ) (p := p) (m := m) (o := o)
    unfold g_c_least_L2 at h
    refine r_p hq 2 (pc' := 5) (L' := [(0, .ref 39), (1, .int X1), (2, .int X2)]) (st' := [.int ((99 : Int32)), .int X2]) rfl ?_
    rcases z_ite h with ⟨c_5, h⟩ | ⟨c_5, h⟩
    · refine r_t2 (pc' := 32) (L' := [(0, .ref 39), (1, .int X1), (2, .int X2)]) hq (z_at.mk 3 rfl rfl) rfl hx2 (rfl : (99 : Int32).toInt = 99) c_5 rfl rfl ?_
      refine r_p hq 1 (pc' := 34) (L' := [(0, .ref 39), (1, .int X1), (2, .int X2)]) (st' := [.int ((-5 : Int32))]) rfl ?_
      cases h
      exact r_ri hq (z_at.mk 1 rfl rfl) rfl rfl (rfl : (-5 : Int32).toInt = -5) rfl H
    · refine r_f2 (pc' := 8) (L' := [(0, .ref 39), (1, .int X1), (2, .int X2)]) hq (z_at.mk 3 rfl rfl) rfl hx2 (rfl : (99 : Int32).toInt = 99) c_5 rfl rfl ?_
      refine r_p hq 2 (pc' := 10) (L' := [(0, .ref 39), (1, .int X1), (2, .int X2)]) (st' := [.int X2, .ref 39]) rfl ?_
      obtain ⟨o_10, h_10, h⟩ := Option.bind_eq_some_iff.mp h
      refine r_cvV (pc' := 13) (L' := [(0, .ref 39), (1, .int X1), (2, .int X2)]) (Ps := [.int X2]) (rest := []) hq (z_at.mk 3 rfl rfl) (Or.inl ⟨rfl, rfl⟩) rfl rfl (by decide) (by decide) rfl (Nat.not_lt.mpr (Nat.le_of_ble_eq_true rfl)) rfl rfl (z_cat_le 0 rfl (by decide)) (z_lgl_le 2 rfl (by decide)) (by decide) (H.tg rfl) (by omega) (g_c_doAgain_ok hx2 H h_10) rfl rfl ?_
      intro m_10 p_10 e_10 H_10
      subst e_10
      refine r_p hq 1 (pc' := 14) (L' := [(0, .ref 39), (1, .int X1), (2, .int X2)]) (st' := [.ref 39]) rfl ?_
      refine r_gR (b := 106) (pc' := 17) (L' := [(0, .ref 39), (1, .int X1), (2, .int X2)]) H_10 hq (z_at.mk 3 rfl rfl) rfl rfl rfl rfl ?_
      refine r_gI (pc' := 20) (L' := [(0, .ref 39), (1, .int X1), (2, .int X2)]) H_10 hq (z_at.mk 3 rfl rfl) rfl rfl rfl rfl ?_
      intro V_17 hV_17
      refine r_p hq 1 (pc' := 21) (L' := [(0, .ref 39), (1, .int X1), (2, .int X2)]) (st' := [.int X1, .int V_17]) rfl ?_
      rcases z_ite h with ⟨c_21, h⟩ | ⟨c_21, h⟩
      · refine r_t2 (pc' := 26) (L' := [(0, .ref 39), (1, .int X1), (2, .int X2)]) hq (z_at.mk 3 rfl rfl) rfl hV_17 hx1 c_21 rfl rfl ?_
        refine r_p hq 2 (pc' := 2) (L' := [(0, .ref 39), (1, .int X1), (2, .int (X2 + (1 : Int32)))]) (st' := []) rfl ?_
        exact ih hx1 (tx_iadd hx2 (rfl : (1 : Int32).toInt = 1)) H_10 h
      · refine r_f2 (pc' := 24) (L' := [(0, .ref 39), (1, .int X1), (2, .int X2)]) hq (z_at.mk 3 rfl rfl) rfl hV_17 hx1 c_21 rfl rfl ?_
        refine r_p hq 1 (pc' := 25) (L' := [(0, .ref 39), (1, .int X1), (2, .int X2)]) (st' := [.int X2]) rfl ?_
        cases h
        exact r_ri hq (z_at.mk 1 rfl rfl) rfl rfl hx2 rfl H_10
def g_c_least (x1 : Int) (σ : zS) : Option (Int × zS) :=
  g_c_least_L2 zK x1 1 σ
set_option maxHeartbeats 4000000 in
theorem g_c_least_ok {xl : Nat} {xs : Nat → Int32} {X1 : Int32} {x1 : Int} (hx1 : X1.toInt = x1) {σ : zS} {p : Nat} {m : zM} {o : Int × zS} (H : zRep xl xs p m σ) (h : g_c_least x1 σ = some o) : zGo xl xs (fun p' => p = p') 8 146 0 (z_can 146 0 (lv_args 0 [.ref 39, .int X1])) [] m (vI o.1) o.2 := by
  have hq : z_mth 146 = some z_r146 := rfl
  unfold g_c_least at h
  show zGo xl xs (fun p' => p = p') 8 146 0 [(0, .ref 39), (1, .int X1)] [] m (vI o.1) o.2
  refine r_p hq 2 (pc' := 2) (L' := [(0, .ref 39), (1, .int X1), (2, .int ((1 : Int32)))]) (st' := []) rfl ?_
  exact g_c_least_L2_ok zK hx1 (rfl : (1 : Int32).toInt = 1) H h
def g_c_watch (x1 : Int) (x2 : Int) (x3 : Int) (x4 : Int) (x5 : Int) (σ : zS) : Option (Int × zS) :=
  (g_fi_isMeasure x1 σ).bind fun o_1 =>
  if o_1.1 ≠ 0 then
    (g_b_isBox x2 x3 x4 x5 o_1.2).bind fun o_15 =>
    if o_15.1 ≠ 0 then
      (g_b_of x2 x3 x4 x5 o_15.2).bind fun o_38 =>
      (g_wa_add x1 o_38.1 o_38.2).bind fun o_41 =>
      if o_41.1 = 0 then
        some (-4, o_41.2)
      else
        let v_54 := o_41.2 65 5
        some (w32 (v_54 - 1), o_41.2)
    else
      some (-2, o_15.2)
  else
    some (-1, o_1.2)
set_option maxHeartbeats 4000000 in
theorem g_c_watch_ok {xl : Nat} {xs : Nat → Int32} {X1 : Int32} {x1 : Int} (hx1 : X1.toInt = x1) {X2 : Int32} {x2 : Int} (hx2 : X2.toInt = x2) {X3 : Int32} {x3 : Int} (hx3 : X3.toInt = x3) {X4 : Int32} {x4 : Int} (hx4 : X4.toInt = x4) {X5 : Int32} {x5 : Int} (hx5 : X5.toInt = x5) {σ : zS} {p : Nat} {m : zM} {o : Int × zS} (H : zRep xl xs p m σ) (h : g_c_watch x1 x2 x3 x4 x5 σ = some o) : zGo xl xs (fun p' => p = p') 3 147 0 (z_can 147 0 (lv_args 0 [.ref 39, .int X1, .int X2, .int X3, .int X4, .int X5])) [] m (vI o.1) o.2 := by
  have hq : z_mth 147 = some z_r147 := rfl
  unfold g_c_watch at h
  show zGo xl xs (fun p' => p = p') 3 147 0 [(0, .ref 39), (1, .int X1), (2, .int X2), (3, .int X3), (4, .int X4), (5, .int X5)] [] m (vI o.1) o.2
  refine r_p hq 1 (pc' := 1) (L' := [(0, .ref 39), (1, .int X1), (2, .int X2), (3, .int X3), (4, .int X4), (5, .int X5)]) (st' := [.int X1]) rfl ?_
  obtain ⟨o_1, h_1, h⟩ := Option.bind_eq_some_iff.mp h
  refine r_csI (pc' := 4) (L' := [(0, .ref 39), (1, .int X1), (2, .int X2), (3, .int X3), (4, .int X4), (5, .int X5)]) (As := [.int X1]) (rest := []) (j := 46) hq (z_at.mk 3 rfl rfl) (Or.inl ⟨rfl, rfl⟩) rfl rfl (by omega) (g_fi_isMeasure_ok hx1 H h_1) rfl rfl ?_
  intro R_1 m_1 p_1 e_1 hR_1 H_1
  subst e_1
  rcases z_ite h with ⟨c_4, h⟩ | ⟨c_4, h⟩
  · refine r_t1 (pc' := 9) (L' := [(0, .ref 39), (1, .int X1), (2, .int X2), (3, .int X3), (4, .int X4), (5, .int X5)]) hq (z_at.mk 3 rfl rfl) rfl hR_1 c_4 rfl rfl ?_
    refine r_p hq 4 (pc' := 15) (L' := [(0, .ref 39), (1, .int X1), (2, .int X2), (3, .int X3), (4, .int X4), (5, .int X5)]) (st' := [.int X5, .int X4, .int X3, .int X2]) rfl ?_
    obtain ⟨o_15, h_15, h⟩ := Option.bind_eq_some_iff.mp h
    refine r_csI (pc' := 18) (L' := [(0, .ref 39), (1, .int X1), (2, .int X2), (3, .int X3), (4, .int X4), (5, .int X5)]) (As := [.int X2, .int X3, .int X4, .int X5]) (rest := []) (j := 1) hq (z_at.mk 3 rfl rfl) (Or.inl ⟨rfl, rfl⟩) rfl rfl (by omega) (g_b_isBox_ok hx2 hx3 hx4 hx5 H_1 h_15) rfl rfl ?_
    intro R_15 m_15 p_15 e_15 hR_15 H_15
    subst e_15
    rcases z_ite h with ⟨c_18, h⟩ | ⟨c_18, h⟩
    · refine r_t1 (pc' := 24) (L' := [(0, .ref 39), (1, .int X1), (2, .int X2), (3, .int X3), (4, .int X4), (5, .int X5)]) hq (z_at.mk 3 rfl rfl) rfl hR_15 c_18 rfl rfl ?_
      refine r_p hq 1 (pc' := 25) (L' := [(0, .ref 39), (1, .int X1), (2, .int X2), (3, .int X3), (4, .int X4), (5, .int X5)]) (st' := [.ref 39]) rfl ?_
      refine r_gR (b := 40) (pc' := 28) (L' := [(0, .ref 39), (1, .int X1), (2, .int X2), (3, .int X3), (4, .int X4), (5, .int X5)]) H_15 hq (z_at.mk 3 rfl rfl) rfl rfl rfl rfl ?_
      refine r_gR (b := 65) (pc' := 31) (L' := [(0, .ref 39), (1, .int X1), (2, .int X2), (3, .int X3), (4, .int X4), (5, .int X5)]) H_15 hq (z_at.mk 3 rfl rfl) rfl rfl rfl rfl ?_
      refine r_p hq 5 (pc' := 38) (L' := [(0, .ref 39), (1, .int X1), (2, .int X2), (3, .int X3), (4, .int X4), (5, .int X5)]) (st' := [.int X5, .int X4, .int X3, .int X2, .int X1, .ref 65]) rfl ?_
      obtain ⟨o_38, h_38, h⟩ := Option.bind_eq_some_iff.mp h
      refine r_csI (pc' := 41) (L' := [(0, .ref 39), (1, .int X1), (2, .int X2), (3, .int X3), (4, .int X4), (5, .int X5)]) (As := [.int X2, .int X3, .int X4, .int X5]) (rest := [.int X1, .ref 65]) (j := 2) hq (z_at.mk 3 rfl rfl) (Or.inl ⟨rfl, rfl⟩) rfl rfl (by omega) (g_b_of_ok hx2 hx3 hx4 hx5 H_15 h_38) rfl rfl ?_
      intro R_38 m_38 p_38 e_38 hR_38 H_38
      subst e_38
      obtain ⟨o_41, h_41, h⟩ := Option.bind_eq_some_iff.mp h
      refine r_cvI (pc' := 44) (L' := [(0, .ref 39), (1, .int X1), (2, .int X2), (3, .int X3), (4, .int X4), (5, .int X5)]) (Ps := [.int X1, .int R_38]) (rest := []) hq (z_at.mk 3 rfl rfl) (Or.inl ⟨rfl, rfl⟩) rfl rfl (by decide) (by decide) rfl (Nat.not_lt.mpr (Nat.le_of_ble_eq_true rfl)) rfl rfl (z_cat_le 0 rfl (by decide)) (z_lgl_le 3 rfl (by decide)) (by decide) (H_38.tg rfl) (by omega) (g_wa_add_ok hx1 hR_38 H_38 h_41) rfl rfl ?_
      intro R_41 m_41 p_41 e_41 hR_41 H_41
      subst e_41
      rcases z_ite h with ⟨c_44, h⟩ | ⟨c_44, h⟩
      · refine r_t1 (pc' := 62) (L' := [(0, .ref 39), (1, .int X1), (2, .int X2), (3, .int X3), (4, .int X4), (5, .int X5)]) hq (z_at.mk 3 rfl rfl) rfl hR_41 c_44 rfl rfl ?_
        refine r_p hq 1 (pc' := 64) (L' := []) (st' := [.int ((-4 : Int32))]) rfl ?_
        cases h
        exact r_ri hq (z_at.mk 1 rfl rfl) rfl rfl (rfl : (-4 : Int32).toInt = -4) rfl H_41
      · refine r_f1 (pc' := 47) (L' := [(0, .ref 39), (1, .int X1), (2, .int X2), (3, .int X3), (4, .int X4), (5, .int X5)]) hq (z_at.mk 3 rfl rfl) rfl hR_41 c_44 rfl rfl ?_
        refine r_p hq 1 (pc' := 48) (L' := [(0, .ref 39), (1, .int X1), (2, .int X2), (3, .int X3), (4, .int X4), (5, .int X5)]) (st' := [.ref 39]) rfl ?_
        refine r_gR (b := 40) (pc' := 51) (L' := [(0, .ref 39), (1, .int X1), (2, .int X2), (3, .int X3), (4, .int X4), (5, .int X5)]) H_41 hq (z_at.mk 3 rfl rfl) rfl rfl rfl rfl ?_
        refine r_gR (b := 65) (pc' := 54) (L' := [(0, .ref 39), (1, .int X1), (2, .int X2), (3, .int X3), (4, .int X4), (5, .int X5)]) H_41 hq (z_at.mk 3 rfl rfl) rfl rfl rfl rfl ?_
        refine r_gI (pc' := 57) (L' := [(0, .ref 39), (1, .int X1), (2, .int X2), (3, .int X3), (4, .int X4), (5, .int X5)]) H_41 hq (z_at.mk 3 rfl rfl) rfl rfl rfl rfl ?_
        intro V_54 hV_54
        refine r_p hq 3 (pc' := 64) (L' := []) (st' := [.int (V_54 - ((1 : Int32)))]) rfl ?_
        cases h
        exact r_ri hq (z_at.mk 1 rfl rfl) rfl rfl (tx_isub hV_54 (rfl : (1 : Int32).toInt = 1)) rfl H_41
    · refine r_f1 (pc' := 21) (L' := [(0, .ref 39), (1, .int X1), (2, .int X2), (3, .int X3), (4, .int X4), (5, .int X5)]) hq (z_at.mk 3 rfl rfl) rfl hR_15 c_18 rfl rfl ?_
      refine r_p hq 1 (pc' := 23) (L' := [(0, .ref 39), (1, .int X1), (2, .int X2), (3, .int X3), (4, .int X4), (5, .int X5)]) (st' := [.int ((-2 : Int32))]) rfl ?_
      cases h
      exact r_ri hq (z_at.mk 1 rfl rfl) rfl rfl (rfl : (-2 : Int32).toInt = -2) rfl H_15
  · refine r_f1 (pc' := 7) (L' := [(0, .ref 39), (1, .int X1), (2, .int X2), (3, .int X3), (4, .int X4), (5, .int X5)]) hq (z_at.mk 3 rfl rfl) rfl hR_1 c_4 rfl rfl ?_
    refine r_p hq 1 (pc' := 8) (L' := [(0, .ref 39), (1, .int X1), (2, .int X2), (3, .int X3), (4, .int X4), (5, .int X5)]) (st' := [.int ((-1 : Int32))]) rfl ?_
    cases h
    exact r_ri hq (z_at.mk 1 rfl rfl) rfl rfl (rfl : (-1 : Int32).toInt = -1) rfl H_1
def g_c_value (x1 : Int) (σ : zS) : Option (Int × zS) :=
  (g_wa_has x1 σ).bind fun o_8 =>
  if o_8.1 = 0 then
    some (-9223372036854775808, o_8.2)
  else
    (g_wa_valueOf x1 o_8.2).bind fun o_29 =>
    some (o_29.1, o_29.2)
set_option maxHeartbeats 4000000 in
theorem g_c_value_ok {xl : Nat} {xs : Nat → Int32} {X1 : Int32} {x1 : Int} (hx1 : X1.toInt = x1) {σ : zS} {p : Nat} {m : zM} {o : Int × zS} (H : zRep xl xs p m σ) (h : g_c_value x1 σ = some o) : zGo xl xs (fun p' => p = p') 6 148 0 (z_can 148 0 (lv_args 0 [.ref 39, .int X1])) [] m (vL o.1) o.2 := by
  have hq : z_mth 148 = some z_r148 := rfl
  unfold g_c_value at h
  show zGo xl xs (fun p' => p = p') 6 148 0 [(0, .ref 39), (1, .int X1)] [] m (vL o.1) o.2
  refine r_p hq 1 (pc' := 1) (L' := [(0, .ref 39), (1, .int X1)]) (st' := [.ref 39]) rfl ?_
  refine r_gR (b := 40) (pc' := 4) (L' := [(0, .ref 39), (1, .int X1)]) H hq (z_at.mk 3 rfl rfl) rfl rfl rfl rfl ?_
  refine r_gR (b := 65) (pc' := 7) (L' := [(0, .ref 39), (1, .int X1)]) H hq (z_at.mk 3 rfl rfl) rfl rfl rfl rfl ?_
  refine r_p hq 1 (pc' := 8) (L' := [(0, .ref 39), (1, .int X1)]) (st' := [.int X1, .ref 65]) rfl ?_
  obtain ⟨o_8, h_8, h⟩ := Option.bind_eq_some_iff.mp h
  refine r_cvI (pc' := 11) (L' := [(0, .ref 39), (1, .int X1)]) (Ps := [.int X1]) (rest := []) hq (z_at.mk 3 rfl rfl) (Or.inl ⟨rfl, rfl⟩) rfl rfl (by decide) (by decide) rfl (Nat.not_lt.mpr (Nat.le_of_ble_eq_true rfl)) rfl rfl (z_cat_le 0 rfl (by decide)) (z_lgl_le 2 rfl (by decide)) (by decide) (H.tg rfl) (by omega) (g_wa_has_ok hx1 H h_8) rfl rfl ?_
  intro R_8 m_8 p_8 e_8 hR_8 H_8
  subst e_8
  rcases z_ite h with ⟨c_11, h⟩ | ⟨c_11, h⟩
  · refine r_t1 (pc' := 35) (L' := [(0, .ref 39), (1, .int X1)]) hq (z_at.mk 3 rfl rfl) rfl hR_8 c_11 rfl rfl ?_
    refine r_p hq 1 (pc' := 38) (L' := []) (st' := [.long ((-9223372036854775808 : Int64))]) rfl ?_
    cases h
    exact r_rl hq (z_at.mk 1 rfl rfl) rfl (rfl : (-9223372036854775808 : Int64).toInt = -9223372036854775808) rfl H_8
  · refine r_f1 (pc' := 14) (L' := [(0, .ref 39), (1, .int X1)]) hq (z_at.mk 3 rfl rfl) rfl hR_8 c_11 rfl rfl ?_
    refine r_p hq 1 (pc' := 15) (L' := [(0, .ref 39), (1, .int X1)]) (st' := [.ref 39]) rfl ?_
    refine r_gR (b := 40) (pc' := 18) (L' := [(0, .ref 39), (1, .int X1)]) H_8 hq (z_at.mk 3 rfl rfl) rfl rfl rfl rfl ?_
    refine r_gR (b := 65) (pc' := 21) (L' := [(0, .ref 39), (1, .int X1)]) H_8 hq (z_at.mk 3 rfl rfl) rfl rfl rfl rfl ?_
    refine r_p hq 2 (pc' := 23) (L' := [(0, .ref 39), (1, .int X1)]) (st' := [.ref 39, .int X1, .ref 65]) rfl ?_
    refine r_gR (b := 40) (pc' := 26) (L' := [(0, .ref 39), (1, .int X1)]) H_8 hq (z_at.mk 3 rfl rfl) rfl rfl rfl rfl ?_
    refine r_gR (b := 41) (pc' := 29) (L' := [(0, .ref 39), (1, .int X1)]) H_8 hq (z_at.mk 3 rfl rfl) rfl rfl rfl rfl ?_
    obtain ⟨o_29, h_29, h⟩ := Option.bind_eq_some_iff.mp h
    refine r_cvL (pc' := 32) (L' := [(0, .ref 39), (1, .int X1)]) (Ps := [.int X1, .ref 41]) (rest := []) hq (z_at.mk 3 rfl rfl) (Or.inl ⟨rfl, rfl⟩) rfl rfl (by decide) (by decide) rfl (Nat.not_lt.mpr (Nat.le_of_ble_eq_true rfl)) rfl rfl (z_cat_le 0 rfl (by decide)) (z_lgl_le 3 rfl (by decide)) (by decide) (H_8.tg rfl) (by omega) (g_wa_valueOf_ok hx1 H_8 h_29) rfl rfl ?_
    intro R_29 m_29 p_29 e_29 hR_29 H_29
    subst e_29
    refine r_p hq 1 (pc' := 38) (L' := []) (st' := [.long R_29]) rfl ?_
    cases h
    exact r_rl hq (z_at.mk 1 rfl rfl) rfl hR_29 rfl H_29
def g_c_changes (x1 : Int) (σ : zS) : Option (Int × zS) :=
  (g_wa_has x1 σ).bind fun o_8 =>
  if o_8.1 = 0 then
    some (-1, o_8.2)
  else
    if 0 ≤ x1 ∧ x1 < 6 then
    let v_25 := o_8.2 68 x1
    some (v_25, o_8.2)
    else none
set_option maxHeartbeats 4000000 in
theorem g_c_changes_ok {xl : Nat} {xs : Nat → Int32} {X1 : Int32} {x1 : Int} (hx1 : X1.toInt = x1) {σ : zS} {p : Nat} {m : zM} {o : Int × zS} (H : zRep xl xs p m σ) (h : g_c_changes x1 σ = some o) : zGo xl xs (fun p' => p = p') 2 149 0 (z_can 149 0 (lv_args 0 [.ref 39, .int X1])) [] m (vI o.1) o.2 := by
  have hq : z_mth 149 = some z_r149 := rfl
  unfold g_c_changes at h
  show zGo xl xs (fun p' => p = p') 2 149 0 [(0, .ref 39), (1, .int X1)] [] m (vI o.1) o.2
  refine r_p hq 1 (pc' := 1) (L' := [(0, .ref 39), (1, .int X1)]) (st' := [.ref 39]) rfl ?_
  refine r_gR (b := 40) (pc' := 4) (L' := [(0, .ref 39), (1, .int X1)]) H hq (z_at.mk 3 rfl rfl) rfl rfl rfl rfl ?_
  refine r_gR (b := 65) (pc' := 7) (L' := [(0, .ref 39), (1, .int X1)]) H hq (z_at.mk 3 rfl rfl) rfl rfl rfl rfl ?_
  refine r_p hq 1 (pc' := 8) (L' := [(0, .ref 39), (1, .int X1)]) (st' := [.int X1, .ref 65]) rfl ?_
  obtain ⟨o_8, h_8, h⟩ := Option.bind_eq_some_iff.mp h
  refine r_cvI (pc' := 11) (L' := [(0, .ref 39), (1, .int X1)]) (Ps := [.int X1]) (rest := []) hq (z_at.mk 3 rfl rfl) (Or.inl ⟨rfl, rfl⟩) rfl rfl (by decide) (by decide) rfl (Nat.not_lt.mpr (Nat.le_of_ble_eq_true rfl)) rfl rfl (z_cat_le 0 rfl (by decide)) (z_lgl_le 2 rfl (by decide)) (by decide) (H.tg rfl) (by omega) (g_wa_has_ok hx1 H h_8) rfl rfl ?_
  intro R_8 m_8 p_8 e_8 hR_8 H_8
  subst e_8
  rcases z_ite h with ⟨c_11, h⟩ | ⟨c_11, h⟩
  · refine r_t1 (pc' := 29) (L' := [(0, .ref 39), (1, .int X1)]) hq (z_at.mk 3 rfl rfl) rfl hR_8 c_11 rfl rfl ?_
    refine r_p hq 1 (pc' := 30) (L' := []) (st' := [.int ((-1 : Int32))]) rfl ?_
    cases h
    exact r_ri hq (z_at.mk 1 rfl rfl) rfl rfl (rfl : (-1 : Int32).toInt = -1) rfl H_8
  · refine r_f1 (pc' := 14) (L' := [(0, .ref 39), (1, .int X1)]) hq (z_at.mk 3 rfl rfl) rfl hR_8 c_11 rfl rfl ?_
    refine r_p hq 1 (pc' := 15) (L' := [(0, .ref 39), (1, .int X1)]) (st' := [.ref 39]) rfl ?_
    refine r_gR (b := 40) (pc' := 18) (L' := [(0, .ref 39), (1, .int X1)]) H_8 hq (z_at.mk 3 rfl rfl) rfl rfl rfl rfl ?_
    refine r_gR (b := 65) (pc' := 21) (L' := [(0, .ref 39), (1, .int X1)]) H_8 hq (z_at.mk 3 rfl rfl) rfl rfl rfl rfl ?_
    refine r_gR (b := 68) (pc' := 24) (L' := [(0, .ref 39), (1, .int X1)]) H_8 hq (z_at.mk 3 rfl rfl) rfl rfl rfl rfl ?_
    refine r_p hq 1 (pc' := 25) (L' := [(0, .ref 39), (1, .int X1)]) (st' := [.int X1, .ref 68]) rfl ?_
    obtain ⟨g_25, h⟩ := z_ifo_some h
    refine r_ia (pc' := 26) (L' := [(0, .ref 39), (1, .int X1)]) H_8 hq (z_at.mk 1 rfl rfl) (show zAr 68 0 6 = true from rfl) hx1 g_25 rfl rfl ?_
    intro V_25 hV_25
    refine r_p hq 1 (pc' := 30) (L' := []) (st' := [.int V_25]) rfl ?_
    cases h
    exact r_ri hq (z_at.mk 1 rfl rfl) rfl rfl hV_25 rfl H_8
def g_c_list (x1 : Int) (x2 : Int) (σ : zS) : Option (Int × zS) :=
  (g_li_isList x1 σ).bind fun o_1 =>
  if o_1.1 ≠ 0 then
    if x2 ≤ 60 then
      if 0 ≤ x2 then
        (g_li_make x1 x2 o_1.2).bind fun o_31 =>
        some (1, o_31.2)
      else
        some (-14, o_1.2)
    else
      some (-2, o_1.2)
  else
    some (-1, o_1.2)
set_option maxHeartbeats 4000000 in
theorem g_c_list_ok {xl : Nat} {xs : Nat → Int32} {X1 : Int32} {x1 : Int} (hx1 : X1.toInt = x1) {X2 : Int32} {x2 : Int} (hx2 : X2.toInt = x2) {σ : zS} {p : Nat} {m : zM} {o : Int × zS} (H : zRep xl xs p m σ) (h : g_c_list x1 x2 σ = some o) : zGo xl xs (fun p' => p = p') 3 150 0 (z_can 150 0 (lv_args 0 [.ref 39, .int X1, .int X2])) [] m (vI o.1) o.2 := by
  have hq : z_mth 150 = some z_r150 := rfl
  unfold g_c_list at h
  show zGo xl xs (fun p' => p = p') 3 150 0 [(0, .ref 39), (1, .int X1), (2, .int X2)] [] m (vI o.1) o.2
  refine r_p hq 1 (pc' := 1) (L' := [(0, .ref 39), (1, .int X1), (2, .int X2)]) (st' := [.int X1]) rfl ?_
  obtain ⟨o_1, h_1, h⟩ := Option.bind_eq_some_iff.mp h
  refine r_csI (pc' := 4) (L' := [(0, .ref 39), (1, .int X1), (2, .int X2)]) (As := [.int X1]) (rest := []) (j := 58) hq (z_at.mk 3 rfl rfl) (Or.inl ⟨rfl, rfl⟩) rfl rfl (by omega) (g_li_isList_ok hx1 H h_1) rfl rfl ?_
  intro R_1 m_1 p_1 e_1 hR_1 H_1
  subst e_1
  rcases z_ite h with ⟨c_4, h⟩ | ⟨c_4, h⟩
  · refine r_t1 (pc' := 9) (L' := [(0, .ref 39), (1, .int X1), (2, .int X2)]) hq (z_at.mk 3 rfl rfl) rfl hR_1 c_4 rfl rfl ?_
    refine r_p hq 2 (pc' := 12) (L' := [(0, .ref 39), (1, .int X1), (2, .int X2)]) (st' := [.int ((60 : Int32)), .int X2]) rfl ?_
    rcases z_ite h with ⟨c_12, h⟩ | ⟨c_12, h⟩
    · refine r_t2 (pc' := 18) (L' := [(0, .ref 39), (1, .int X1), (2, .int X2)]) hq (z_at.mk 3 rfl rfl) rfl hx2 (rfl : (60 : Int32).toInt = 60) c_12 rfl rfl ?_
      refine r_p hq 1 (pc' := 19) (L' := [(0, .ref 39), (1, .int X1), (2, .int X2)]) (st' := [.int X2]) rfl ?_
      rcases z_ite h with ⟨c_19, h⟩ | ⟨c_19, h⟩
      · refine r_t1 (pc' := 25) (L' := [(0, .ref 39), (1, .int X1), (2, .int X2)]) hq (z_at.mk 3 rfl rfl) rfl hx2 c_19 rfl rfl ?_
        refine r_p hq 1 (pc' := 26) (L' := [(0, .ref 39), (1, .int X1), (2, .int X2)]) (st' := [.ref 39]) rfl ?_
        refine r_gR (b := 134) (pc' := 29) (L' := [(0, .ref 39), (1, .int X1), (2, .int X2)]) H_1 hq (z_at.mk 3 rfl rfl) rfl rfl rfl rfl ?_
        refine r_p hq 2 (pc' := 31) (L' := [(0, .ref 39), (1, .int X1), (2, .int X2)]) (st' := [.int X2, .int X1, .ref 134]) rfl ?_
        obtain ⟨o_31, h_31, h⟩ := Option.bind_eq_some_iff.mp h
        refine r_cvV (pc' := 34) (L' := [(0, .ref 39), (1, .int X1), (2, .int X2)]) (Ps := [.int X1, .int X2]) (rest := []) hq (z_at.mk 3 rfl rfl) (Or.inl ⟨rfl, rfl⟩) rfl rfl (by decide) (by decide) rfl (Nat.not_lt.mpr (Nat.le_of_ble_eq_true rfl)) rfl rfl (z_cat_le 0 rfl (by decide)) (z_lgl_le 3 rfl (by decide)) (by decide) (H_1.tg rfl) (by omega) (g_li_make_ok hx1 hx2 H_1 h_31) rfl rfl ?_
        intro m_31 p_31 e_31 H_31
        subst e_31
        refine r_p hq 1 (pc' := 35) (L' := [(0, .ref 39), (1, .int X1), (2, .int X2)]) (st' := [.int ((1 : Int32))]) rfl ?_
        cases h
        exact r_ri hq (z_at.mk 1 rfl rfl) rfl rfl (rfl : (1 : Int32).toInt = 1) rfl H_31
      · refine r_f1 (pc' := 22) (L' := [(0, .ref 39), (1, .int X1), (2, .int X2)]) hq (z_at.mk 3 rfl rfl) rfl hx2 c_19 rfl rfl ?_
        refine r_p hq 1 (pc' := 24) (L' := [(0, .ref 39), (1, .int X1), (2, .int X2)]) (st' := [.int ((-14 : Int32))]) rfl ?_
        cases h
        exact r_ri hq (z_at.mk 1 rfl rfl) rfl rfl (rfl : (-14 : Int32).toInt = -14) rfl H_1
    · refine r_f2 (pc' := 15) (L' := [(0, .ref 39), (1, .int X1), (2, .int X2)]) hq (z_at.mk 3 rfl rfl) rfl hx2 (rfl : (60 : Int32).toInt = 60) c_12 rfl rfl ?_
      refine r_p hq 1 (pc' := 17) (L' := [(0, .ref 39), (1, .int X1), (2, .int X2)]) (st' := [.int ((-2 : Int32))]) rfl ?_
      cases h
      exact r_ri hq (z_at.mk 1 rfl rfl) rfl rfl (rfl : (-2 : Int32).toInt = -2) rfl H_1
  · refine r_f1 (pc' := 7) (L' := [(0, .ref 39), (1, .int X1), (2, .int X2)]) hq (z_at.mk 3 rfl rfl) rfl hR_1 c_4 rfl rfl ?_
    refine r_p hq 1 (pc' := 8) (L' := [(0, .ref 39), (1, .int X1), (2, .int X2)]) (st' := [.int ((-1 : Int32))]) rfl ?_
    cases h
    exact r_ri hq (z_at.mk 1 rfl rfl) rfl rfl (rfl : (-1 : Int32).toInt = -1) rfl H_1
def g_c_set (x1 : Int) (x2 : Int) (y3 : Int) (σ : zS) : Option (Int × zS) :=
  (g_li_refusal x1 σ).bind fun o_5 =>
  if o_5.1 = 0 then
    (g_li_hasPlace x1 x2 o_5.2).bind fun o_24 =>
    if o_24.1 ≠ 0 then
      if 0 ≤ x1 ∧ x1 < 6 then
      let A_41 := 136 + (x1).toNat
      if 0 ≤ x2 ∧ x2 < 60 then
      let s_44 := zu o_24.2 A_41 x2 y3
      some (1, s_44)
      else none
      else none
    else
      some (-13, o_24.2)
  else
    some (o_5.1, o_5.2)
set_option maxHeartbeats 4000000 in
theorem g_c_set_ok {xl : Nat} {xs : Nat → Int32} {X1 : Int32} {x1 : Int} (hx1 : X1.toInt = x1) {X2 : Int32} {x2 : Int} (hx2 : X2.toInt = x2) {Y3 : Int64} {y3 : Int} (hy3 : Y3.toInt = y3) {σ : zS} {p : Nat} {m : zM} {o : Int × zS} (H : zRep xl xs p m σ) (h : g_c_set x1 x2 y3 σ = some o) : zGo xl xs (fun p' => p = p') 3 151 0 (z_can 151 0 (lv_args 0 [.ref 39, .int X1, .int X2, .long Y3])) [] m (vI o.1) o.2 := by
  have hq : z_mth 151 = some z_r151 := rfl
  unfold g_c_set at h
  show zGo xl xs (fun p' => p = p') 3 151 0 [(0, .ref 39), (1, .int X1), (2, .int X2), (3, .long Y3)] [] m (vI o.1) o.2
  refine r_p hq 1 (pc' := 1) (L' := [(0, .ref 39), (1, .int X1), (2, .int X2), (3, .long Y3)]) (st' := [.ref 39]) rfl ?_
  refine r_gR (b := 134) (pc' := 4) (L' := [(0, .ref 39), (1, .int X1), (2, .int X2), (3, .long Y3)]) H hq (z_at.mk 3 rfl rfl) rfl rfl rfl rfl ?_
  refine r_p hq 1 (pc' := 5) (L' := [(0, .ref 39), (1, .int X1), (2, .int X2), (3, .long Y3)]) (st' := [.int X1, .ref 134]) rfl ?_
  obtain ⟨o_5, h_5, h⟩ := Option.bind_eq_some_iff.mp h
  refine r_cvI (pc' := 8) (L' := [(0, .ref 39), (1, .int X1), (2, .int X2), (3, .long Y3)]) (Ps := [.int X1]) (rest := []) hq (z_at.mk 3 rfl rfl) (Or.inl ⟨rfl, rfl⟩) rfl rfl (by decide) (by decide) rfl (Nat.not_lt.mpr (Nat.le_of_ble_eq_true rfl)) rfl rfl (z_cat_le 0 rfl (by decide)) (z_lgl_le 2 rfl (by decide)) (by decide) (H.tg rfl) (by omega) (g_li_refusal_ok hx1 H h_5) rfl rfl ?_
  intro R_5 m_5 p_5 e_5 hR_5 H_5
  subst e_5
  refine r_p hq 2 (pc' := 12) (L' := [(5, .int R_5), (0, .ref 39), (1, .int X1), (2, .int X2), (3, .long Y3)]) (st' := [.int R_5]) rfl ?_
  rcases z_ite h with ⟨c_12, h⟩ | ⟨c_12, h⟩
  · refine r_t1 (pc' := 18) (L' := [(5, .int R_5), (0, .ref 39), (1, .int X1), (2, .int X2), (3, .long Y3)]) hq (z_at.mk 3 rfl rfl) rfl hR_5 c_12 rfl rfl ?_
    refine r_p hq 1 (pc' := 19) (L' := [(5, .int R_5), (0, .ref 39), (1, .int X1), (2, .int X2), (3, .long Y3)]) (st' := [.ref 39]) rfl ?_
    refine r_gR (b := 134) (pc' := 22) (L' := [(5, .int R_5), (0, .ref 39), (1, .int X1), (2, .int X2), (3, .long Y3)]) H_5 hq (z_at.mk 3 rfl rfl) rfl rfl rfl rfl ?_
    refine r_p hq 2 (pc' := 24) (L' := [(5, .int R_5), (0, .ref 39), (1, .int X1), (2, .int X2), (3, .long Y3)]) (st' := [.int X2, .int X1, .ref 134]) rfl ?_
    obtain ⟨o_24, h_24, h⟩ := Option.bind_eq_some_iff.mp h
    refine r_cvI (pc' := 27) (L' := [(5, .int R_5), (0, .ref 39), (1, .int X1), (2, .int X2), (3, .long Y3)]) (Ps := [.int X1, .int X2]) (rest := []) hq (z_at.mk 3 rfl rfl) (Or.inl ⟨rfl, rfl⟩) rfl rfl (by decide) (by decide) rfl (Nat.not_lt.mpr (Nat.le_of_ble_eq_true rfl)) rfl rfl (z_cat_le 0 rfl (by decide)) (z_lgl_le 3 rfl (by decide)) (by decide) (H_5.tg rfl) (by omega) (g_li_hasPlace_ok hx1 hx2 H_5 h_24) rfl rfl ?_
    intro R_24 m_24 p_24 e_24 hR_24 H_24
    subst e_24
    rcases z_ite h with ⟨c_27, h⟩ | ⟨c_27, h⟩
    · refine r_t1 (pc' := 33) (L' := [(5, .int R_5), (0, .ref 39), (1, .int X1), (2, .int X2), (3, .long Y3)]) hq (z_at.mk 3 rfl rfl) rfl hR_24 c_27 rfl rfl ?_
      refine r_p hq 1 (pc' := 34) (L' := [(5, .int R_5), (0, .ref 39), (1, .int X1), (2, .int X2), (3, .long Y3)]) (st' := [.ref 39]) rfl ?_
      refine r_gR (b := 134) (pc' := 37) (L' := [(5, .int R_5), (0, .ref 39), (1, .int X1), (2, .int X2), (3, .long Y3)]) H_24 hq (z_at.mk 3 rfl rfl) rfl rfl rfl rfl ?_
      refine r_gR (b := 135) (pc' := 40) (L' := [(5, .int R_5), (0, .ref 39), (1, .int X1), (2, .int X2), (3, .long Y3)]) H_24 hq (z_at.mk 3 rfl rfl) rfl rfl rfl rfl ?_
      refine r_p hq 1 (pc' := 41) (L' := [(5, .int R_5), (0, .ref 39), (1, .int X1), (2, .int X2), (3, .long Y3)]) (st' := [.int X1, .ref 135]) rfl ?_
      obtain ⟨g_41, h⟩ := z_ifo_some h
      refine r_aa (pc' := 42) (L' := [(5, .int R_5), (0, .ref 39), (1, .int X1), (2, .int X2), (3, .long Y3)]) H_24 hq (z_at.mk 1 rfl rfl) hx1 g_41 rfl rfl ?_
      intro A_41 hE_41 hA_41
      rw [← hE_41] at h
      refine r_p hq 2 (pc' := 44) (L' := [(5, .int R_5), (0, .ref 39), (1, .int X1), (2, .int X2), (3, .long Y3)]) (st' := [.long Y3, .int X2, .ref A_41]) rfl ?_
      obtain ⟨g_44, h⟩ := z_ifo_some h
      refine r_ls (pc' := 45) (L' := [(5, .int R_5), (0, .ref 39), (1, .int X1), (2, .int X2), (3, .long Y3)]) H_24 hq (z_at.mk 1 rfl rfl) (zIn_all (l := [136, 137, 138, 139, 140, 141]) (p := fun a => zAr a 1 60) rfl hA_41) hx2 g_44 hy3 rfl rfl ?_
      intro m_44 H_44
      refine r_p hq 1 (pc' := 46) (L' := [(5, .int R_5), (0, .ref 39), (1, .int X1), (2, .int X2), (3, .long Y3)]) (st' := [.int ((1 : Int32))]) rfl ?_
      cases h
      exact r_ri hq (z_at.mk 1 rfl rfl) rfl rfl (rfl : (1 : Int32).toInt = 1) rfl H_44
    · refine r_f1 (pc' := 30) (L' := [(5, .int R_5), (0, .ref 39), (1, .int X1), (2, .int X2), (3, .long Y3)]) hq (z_at.mk 3 rfl rfl) rfl hR_24 c_27 rfl rfl ?_
      refine r_p hq 1 (pc' := 32) (L' := [(5, .int R_5), (0, .ref 39), (1, .int X1), (2, .int X2), (3, .long Y3)]) (st' := [.int ((-13 : Int32))]) rfl ?_
      cases h
      exact r_ri hq (z_at.mk 1 rfl rfl) rfl rfl (rfl : (-13 : Int32).toInt = -13) rfl H_24
  · refine r_f1 (pc' := 15) (L' := [(5, .int R_5), (0, .ref 39), (1, .int X1), (2, .int X2), (3, .long Y3)]) hq (z_at.mk 3 rfl rfl) rfl hR_5 c_12 rfl rfl ?_
    refine r_p hq 1 (pc' := 17) (L' := [(5, .int R_5), (0, .ref 39), (1, .int X1), (2, .int X2), (3, .long Y3)]) (st' := [.int R_5]) rfl ?_
    cases h
    exact r_ri hq (z_at.mk 1 rfl rfl) rfl rfl hR_5 rfl H_5
def g_c_get (x1 : Int) (x2 : Int) (σ : zS) : Option (Int × zS) :=
  (g_li_hasPlace x1 x2 σ).bind fun o_6 =>
  if o_6.1 = 0 then
    some (-9223372036854775808, o_6.2)
  else
    if 0 ≤ x1 ∧ x1 < 6 then
    let A_20 := 136 + (x1).toNat
    if 0 ≤ x2 ∧ x2 < 60 then
    let v_22 := o_6.2 A_20 x2
    some (v_22, o_6.2)
    else none
    else none
set_option maxHeartbeats 4000000 in
theorem g_c_get_ok {xl : Nat} {xs : Nat → Int32} {X1 : Int32} {x1 : Int} (hx1 : X1.toInt = x1) {X2 : Int32} {x2 : Int} (hx2 : X2.toInt = x2) {σ : zS} {p : Nat} {m : zM} {o : Int × zS} (H : zRep xl xs p m σ) (h : g_c_get x1 x2 σ = some o) : zGo xl xs (fun p' => p = p') 3 152 0 (z_can 152 0 (lv_args 0 [.ref 39, .int X1, .int X2])) [] m (vL o.1) o.2 := by
  have hq : z_mth 152 = some z_r152 := rfl
  unfold g_c_get at h
  show zGo xl xs (fun p' => p = p') 3 152 0 [(0, .ref 39), (1, .int X1), (2, .int X2)] [] m (vL o.1) o.2
  refine r_p hq 1 (pc' := 1) (L' := [(0, .ref 39), (1, .int X1), (2, .int X2)]) (st' := [.ref 39]) rfl ?_
  refine r_gR (b := 134) (pc' := 4) (L' := [(0, .ref 39), (1, .int X1), (2, .int X2)]) H hq (z_at.mk 3 rfl rfl) rfl rfl rfl rfl ?_
  refine r_p hq 2 (pc' := 6) (L' := [(0, .ref 39), (1, .int X1), (2, .int X2)]) (st' := [.int X2, .int X1, .ref 134]) rfl ?_
  obtain ⟨o_6, h_6, h⟩ := Option.bind_eq_some_iff.mp h
  refine r_cvI (pc' := 9) (L' := [(0, .ref 39), (1, .int X1), (2, .int X2)]) (Ps := [.int X1, .int X2]) (rest := []) hq (z_at.mk 3 rfl rfl) (Or.inl ⟨rfl, rfl⟩) rfl rfl (by decide) (by decide) rfl (Nat.not_lt.mpr (Nat.le_of_ble_eq_true rfl)) rfl rfl (z_cat_le 0 rfl (by decide)) (z_lgl_le 3 rfl (by decide)) (by decide) (H.tg rfl) (by omega) (g_li_hasPlace_ok hx1 hx2 H h_6) rfl rfl ?_
  intro R_6 m_6 p_6 e_6 hR_6 H_6
  subst e_6
  rcases z_ite h with ⟨c_9, h⟩ | ⟨c_9, h⟩
  · refine r_t1 (pc' := 26) (L' := [(0, .ref 39), (1, .int X1), (2, .int X2)]) hq (z_at.mk 3 rfl rfl) rfl hR_6 c_9 rfl rfl ?_
    refine r_p hq 1 (pc' := 29) (L' := []) (st' := [.long ((-9223372036854775808 : Int64))]) rfl ?_
    cases h
    exact r_rl hq (z_at.mk 1 rfl rfl) rfl (rfl : (-9223372036854775808 : Int64).toInt = -9223372036854775808) rfl H_6
  · refine r_f1 (pc' := 12) (L' := [(0, .ref 39), (1, .int X1), (2, .int X2)]) hq (z_at.mk 3 rfl rfl) rfl hR_6 c_9 rfl rfl ?_
    refine r_p hq 1 (pc' := 13) (L' := [(0, .ref 39), (1, .int X1), (2, .int X2)]) (st' := [.ref 39]) rfl ?_
    refine r_gR (b := 134) (pc' := 16) (L' := [(0, .ref 39), (1, .int X1), (2, .int X2)]) H_6 hq (z_at.mk 3 rfl rfl) rfl rfl rfl rfl ?_
    refine r_gR (b := 135) (pc' := 19) (L' := [(0, .ref 39), (1, .int X1), (2, .int X2)]) H_6 hq (z_at.mk 3 rfl rfl) rfl rfl rfl rfl ?_
    refine r_p hq 1 (pc' := 20) (L' := [(0, .ref 39), (1, .int X1), (2, .int X2)]) (st' := [.int X1, .ref 135]) rfl ?_
    obtain ⟨g_20, h⟩ := z_ifo_some h
    refine r_aa (pc' := 21) (L' := [(0, .ref 39), (1, .int X1), (2, .int X2)]) H_6 hq (z_at.mk 1 rfl rfl) hx1 g_20 rfl rfl ?_
    intro A_20 hE_20 hA_20
    rw [← hE_20] at h
    refine r_p hq 1 (pc' := 22) (L' := [(0, .ref 39), (1, .int X1), (2, .int X2)]) (st' := [.int X2, .ref A_20]) rfl ?_
    obtain ⟨g_22, h⟩ := z_ifo_some h
    refine r_la (pc' := 23) (L' := [(0, .ref 39), (1, .int X1), (2, .int X2)]) H_6 hq (z_at.mk 1 rfl rfl) (zIn_all (l := [136, 137, 138, 139, 140, 141]) (p := fun a => zAr a 1 60) rfl hA_20) hx2 g_22 rfl rfl ?_
    intro V_22 hV_22
    refine r_p hq 1 (pc' := 29) (L' := []) (st' := [.long V_22]) rfl ?_
    cases h
    exact r_rl hq (z_at.mk 1 rfl rfl) rfl hV_22 rfl H_6
def g_c_move (x1 : Int) (x2 : Int) (x3 : Int) (x4 : Int) (x5 : Int) (σ : zS) : Option (Int × zS) :=
  (g_li_isList x1 σ).bind fun o_1 =>
  if o_1.1 = 0 then
    some (-1, o_1.2)
  else
    (g_li_isList x3 o_1.2).bind fun o_8 =>
    if o_8.1 ≠ 0 then
      (g_li_refusal x1 o_8.2).bind fun o_21 =>
      if o_21.1 ≠ 0 then
        some (-11, o_21.2)
      else
        (g_li_refusal x3 o_21.2).bind fun o_32 =>
        if o_32.1 = 0 then
          (g_li_hasSpan x1 x2 x5 o_32.2).bind fun o_49 =>
          if o_49.1 = 0 then
            some (-13, o_49.2)
          else
            (g_li_hasSpan x3 x4 x5 o_49.2).bind fun o_64 =>
            if o_64.1 ≠ 0 then
              if 0 ≤ x1 ∧ x1 < 6 then
              let A_81 := 136 + (x1).toNat
              if 0 ≤ x3 ∧ x3 < 6 then
              let A_91 := 136 + (x3).toNat
              if (0 : Int) ≤ x2 ∧ (0 : Int) ≤ x4 ∧ (0 : Int) ≤ x5 ∧ x2 + x5 ≤ 60 ∧ x4 + x5 ≤ 60 then
              let s_96 := zcp o_64.2 A_81 x2 A_91 x4 x5
              some (x5, s_96)
              else none
              else none
              else none
            else
              some (-13, o_64.2)
        else
          some (-11, o_32.2)
    else
      some (-1, o_8.2)
set_option maxHeartbeats 4000000 in
theorem g_c_move_ok {xl : Nat} {xs : Nat → Int32} {X1 : Int32} {x1 : Int} (hx1 : X1.toInt = x1) {X2 : Int32} {x2 : Int} (hx2 : X2.toInt = x2) {X3 : Int32} {x3 : Int} (hx3 : X3.toInt = x3) {X4 : Int32} {x4 : Int} (hx4 : X4.toInt = x4) {X5 : Int32} {x5 : Int} (hx5 : X5.toInt = x5) {σ : zS} {p : Nat} {m : zM} {o : Int × zS} (H : zRep xl xs p m σ) (h : g_c_move x1 x2 x3 x4 x5 σ = some o) : zGo xl xs (fun p' => p = p') 3 153 0 (z_can 153 0 (lv_args 0 [.ref 39, .int X1, .int X2, .int X3, .int X4, .int X5])) [] m (vI o.1) o.2 := by
  have hq : z_mth 153 = some z_r153 := rfl
  unfold g_c_move at h
  show zGo xl xs (fun p' => p = p') 3 153 0 [(0, .ref 39), (1, .int X1), (2, .int X2), (3, .int X3), (4, .int X4), (5, .int X5)] [] m (vI o.1) o.2
  refine r_p hq 1 (pc' := 1) (L' := [(0, .ref 39), (1, .int X1), (2, .int X2), (3, .int X3), (4, .int X4), (5, .int X5)]) (st' := [.int X1]) rfl ?_
  obtain ⟨o_1, h_1, h⟩ := Option.bind_eq_some_iff.mp h
  refine r_csI (pc' := 4) (L' := [(0, .ref 39), (1, .int X1), (2, .int X2), (3, .int X3), (4, .int X4), (5, .int X5)]) (As := [.int X1]) (rest := []) (j := 58) hq (z_at.mk 3 rfl rfl) (Or.inl ⟨rfl, rfl⟩) rfl rfl (by omega) (g_li_isList_ok hx1 H h_1) rfl rfl ?_
  intro R_1 m_1 p_1 e_1 hR_1 H_1
  subst e_1
  rcases z_ite h with ⟨c_4, h⟩ | ⟨c_4, h⟩
  · refine r_t1 (pc' := 14) (L' := []) hq (z_at.mk 3 rfl rfl) rfl hR_1 c_4 rfl rfl ?_
    refine r_p hq 1 (pc' := 15) (L' := []) (st' := [.int ((-1 : Int32))]) rfl ?_
    cases h
    exact r_ri hq (z_at.mk 1 rfl rfl) rfl rfl (rfl : (-1 : Int32).toInt = -1) rfl H_1
  · refine r_f1 (pc' := 7) (L' := [(0, .ref 39), (1, .int X1), (2, .int X2), (3, .int X3), (4, .int X4), (5, .int X5)]) hq (z_at.mk 3 rfl rfl) rfl hR_1 c_4 rfl rfl ?_
    refine r_p hq 1 (pc' := 8) (L' := [(0, .ref 39), (1, .int X1), (2, .int X2), (3, .int X3), (4, .int X4), (5, .int X5)]) (st' := [.int X3]) rfl ?_
    obtain ⟨o_8, h_8, h⟩ := Option.bind_eq_some_iff.mp h
    refine r_csI (pc' := 11) (L' := [(0, .ref 39), (1, .int X1), (2, .int X2), (3, .int X3), (4, .int X4), (5, .int X5)]) (As := [.int X3]) (rest := []) (j := 58) hq (z_at.mk 3 rfl rfl) (Or.inl ⟨rfl, rfl⟩) rfl rfl (by omega) (g_li_isList_ok hx3 H_1 h_8) rfl rfl ?_
    intro R_8 m_8 p_8 e_8 hR_8 H_8
    subst e_8
    rcases z_ite h with ⟨c_11, h⟩ | ⟨c_11, h⟩
    · refine r_t1 (pc' := 16) (L' := [(0, .ref 39), (1, .int X1), (2, .int X2), (3, .int X3), (4, .int X4), (5, .int X5)]) hq (z_at.mk 3 rfl rfl) rfl hR_8 c_11 rfl rfl ?_
      refine r_p hq 1 (pc' := 17) (L' := [(0, .ref 39), (1, .int X1), (2, .int X2), (3, .int X3), (4, .int X4), (5, .int X5)]) (st' := [.ref 39]) rfl ?_
      refine r_gR (b := 134) (pc' := 20) (L' := [(0, .ref 39), (1, .int X1), (2, .int X2), (3, .int X3), (4, .int X4), (5, .int X5)]) H_8 hq (z_at.mk 3 rfl rfl) rfl rfl rfl rfl ?_
      refine r_p hq 1 (pc' := 21) (L' := [(0, .ref 39), (1, .int X1), (2, .int X2), (3, .int X3), (4, .int X4), (5, .int X5)]) (st' := [.int X1, .ref 134]) rfl ?_
      obtain ⟨o_21, h_21, h⟩ := Option.bind_eq_some_iff.mp h
      refine r_cvI (pc' := 24) (L' := [(0, .ref 39), (1, .int X1), (2, .int X2), (3, .int X3), (4, .int X4), (5, .int X5)]) (Ps := [.int X1]) (rest := []) hq (z_at.mk 3 rfl rfl) (Or.inl ⟨rfl, rfl⟩) rfl rfl (by decide) (by decide) rfl (Nat.not_lt.mpr (Nat.le_of_ble_eq_true rfl)) rfl rfl (z_cat_le 0 rfl (by decide)) (z_lgl_le 2 rfl (by decide)) (by decide) (H_8.tg rfl) (by omega) (g_li_refusal_ok hx1 H_8 h_21) rfl rfl ?_
      intro R_21 m_21 p_21 e_21 hR_21 H_21
      subst e_21
      rcases z_ite h with ⟨c_24, h⟩ | ⟨c_24, h⟩
      · refine r_t1 (pc' := 38) (L' := []) hq (z_at.mk 3 rfl rfl) rfl hR_21 c_24 rfl rfl ?_
        refine r_p hq 1 (pc' := 40) (L' := []) (st' := [.int ((-11 : Int32))]) rfl ?_
        cases h
        exact r_ri hq (z_at.mk 1 rfl rfl) rfl rfl (rfl : (-11 : Int32).toInt = -11) rfl H_21
      · refine r_f1 (pc' := 27) (L' := [(0, .ref 39), (1, .int X1), (2, .int X2), (3, .int X3), (4, .int X4), (5, .int X5)]) hq (z_at.mk 3 rfl rfl) rfl hR_21 c_24 rfl rfl ?_
        refine r_p hq 1 (pc' := 28) (L' := [(0, .ref 39), (1, .int X1), (2, .int X2), (3, .int X3), (4, .int X4), (5, .int X5)]) (st' := [.ref 39]) rfl ?_
        refine r_gR (b := 134) (pc' := 31) (L' := [(0, .ref 39), (1, .int X1), (2, .int X2), (3, .int X3), (4, .int X4), (5, .int X5)]) H_21 hq (z_at.mk 3 rfl rfl) rfl rfl rfl rfl ?_
        refine r_p hq 1 (pc' := 32) (L' := [(0, .ref 39), (1, .int X1), (2, .int X2), (3, .int X3), (4, .int X4), (5, .int X5)]) (st' := [.int X3, .ref 134]) rfl ?_
        obtain ⟨o_32, h_32, h⟩ := Option.bind_eq_some_iff.mp h
        refine r_cvI (pc' := 35) (L' := [(0, .ref 39), (1, .int X1), (2, .int X2), (3, .int X3), (4, .int X4), (5, .int X5)]) (Ps := [.int X3]) (rest := []) hq (z_at.mk 3 rfl rfl) (Or.inl ⟨rfl, rfl⟩) rfl rfl (by decide) (by decide) rfl (Nat.not_lt.mpr (Nat.le_of_ble_eq_true rfl)) rfl rfl (z_cat_le 0 rfl (by decide)) (z_lgl_le 2 rfl (by decide)) (by decide) (H_21.tg rfl) (by omega) (g_li_refusal_ok hx3 H_21 h_32) rfl rfl ?_
        intro R_32 m_32 p_32 e_32 hR_32 H_32
        subst e_32
        rcases z_ite h with ⟨c_35, h⟩ | ⟨c_35, h⟩
        · refine r_t1 (pc' := 41) (L' := [(0, .ref 39), (1, .int X1), (2, .int X2), (3, .int X3), (4, .int X4), (5, .int X5)]) hq (z_at.mk 3 rfl rfl) rfl hR_32 c_35 rfl rfl ?_
          refine r_p hq 1 (pc' := 42) (L' := [(0, .ref 39), (1, .int X1), (2, .int X2), (3, .int X3), (4, .int X4), (5, .int X5)]) (st' := [.ref 39]) rfl ?_
          refine r_gR (b := 134) (pc' := 45) (L' := [(0, .ref 39), (1, .int X1), (2, .int X2), (3, .int X3), (4, .int X4), (5, .int X5)]) H_32 hq (z_at.mk 3 rfl rfl) rfl rfl rfl rfl ?_
          refine r_p hq 3 (pc' := 49) (L' := [(0, .ref 39), (1, .int X1), (2, .int X2), (3, .int X3), (4, .int X4), (5, .int X5)]) (st' := [.int X5, .int X2, .int X1, .ref 134]) rfl ?_
          obtain ⟨o_49, h_49, h⟩ := Option.bind_eq_some_iff.mp h
          refine r_cvI (pc' := 52) (L' := [(0, .ref 39), (1, .int X1), (2, .int X2), (3, .int X3), (4, .int X4), (5, .int X5)]) (Ps := [.int X1, .int X2, .int X5]) (rest := []) hq (z_at.mk 3 rfl rfl) (Or.inl ⟨rfl, rfl⟩) rfl rfl (by decide) (by decide) rfl (Nat.not_lt.mpr (Nat.le_of_ble_eq_true rfl)) rfl rfl (z_cat_le 0 rfl (by decide)) (z_lgl_le 4 rfl (by decide)) (by decide) (H_32.tg rfl) (by omega) (g_li_hasSpan_ok hx1 hx2 hx5 H_32 h_49) rfl rfl ?_
          intro R_49 m_49 p_49 e_49 hR_49 H_49
          subst e_49
          rcases z_ite h with ⟨c_52, h⟩ | ⟨c_52, h⟩
          · refine r_t1 (pc' := 70) (L' := []) hq (z_at.mk 3 rfl rfl) rfl hR_49 c_52 rfl rfl ?_
            refine r_p hq 1 (pc' := 72) (L' := []) (st' := [.int ((-13 : Int32))]) rfl ?_
            cases h
            exact r_ri hq (z_at.mk 1 rfl rfl) rfl rfl (rfl : (-13 : Int32).toInt = -13) rfl H_49
          · refine r_f1 (pc' := 55) (L' := [(0, .ref 39), (1, .int X1), (2, .int X2), (3, .int X3), (4, .int X4), (5, .int X5)]) hq (z_at.mk 3 rfl rfl) rfl hR_49 c_52 rfl rfl ?_
            refine r_p hq 1 (pc' := 56) (L' := [(0, .ref 39), (1, .int X1), (2, .int X2), (3, .int X3), (4, .int X4), (5, .int X5)]) (st' := [.ref 39]) rfl ?_
            refine r_gR (b := 134) (pc' := 59) (L' := [(0, .ref 39), (1, .int X1), (2, .int X2), (3, .int X3), (4, .int X4), (5, .int X5)]) H_49 hq (z_at.mk 3 rfl rfl) rfl rfl rfl rfl ?_
            refine r_p hq 3 (pc' := 64) (L' := [(0, .ref 39), (1, .int X1), (2, .int X2), (3, .int X3), (4, .int X4), (5, .int X5)]) (st' := [.int X5, .int X4, .int X3, .ref 134]) rfl ?_
            obtain ⟨o_64, h_64, h⟩ := Option.bind_eq_some_iff.mp h
            refine r_cvI (pc' := 67) (L' := [(0, .ref 39), (1, .int X1), (2, .int X2), (3, .int X3), (4, .int X4), (5, .int X5)]) (Ps := [.int X3, .int X4, .int X5]) (rest := []) hq (z_at.mk 3 rfl rfl) (Or.inl ⟨rfl, rfl⟩) rfl rfl (by decide) (by decide) rfl (Nat.not_lt.mpr (Nat.le_of_ble_eq_true rfl)) rfl rfl (z_cat_le 0 rfl (by decide)) (z_lgl_le 4 rfl (by decide)) (by decide) (H_49.tg rfl) (by omega) (g_li_hasSpan_ok hx3 hx4 hx5 H_49 h_64) rfl rfl ?_
            intro R_64 m_64 p_64 e_64 hR_64 H_64
            subst e_64
            rcases z_ite h with ⟨c_67, h⟩ | ⟨c_67, h⟩
            · refine r_t1 (pc' := 73) (L' := [(0, .ref 39), (1, .int X1), (2, .int X2), (3, .int X3), (4, .int X4), (5, .int X5)]) hq (z_at.mk 3 rfl rfl) rfl hR_64 c_67 rfl rfl ?_
              refine r_p hq 1 (pc' := 74) (L' := [(0, .ref 39), (1, .int X1), (2, .int X2), (3, .int X3), (4, .int X4), (5, .int X5)]) (st' := [.ref 39]) rfl ?_
              refine r_gR (b := 134) (pc' := 77) (L' := [(0, .ref 39), (1, .int X1), (2, .int X2), (3, .int X3), (4, .int X4), (5, .int X5)]) H_64 hq (z_at.mk 3 rfl rfl) rfl rfl rfl rfl ?_
              refine r_gR (b := 135) (pc' := 80) (L' := [(0, .ref 39), (1, .int X1), (2, .int X2), (3, .int X3), (4, .int X4), (5, .int X5)]) H_64 hq (z_at.mk 3 rfl rfl) rfl rfl rfl rfl ?_
              refine r_p hq 1 (pc' := 81) (L' := [(0, .ref 39), (1, .int X1), (2, .int X2), (3, .int X3), (4, .int X4), (5, .int X5)]) (st' := [.int X1, .ref 135]) rfl ?_
              obtain ⟨g_81, h⟩ := z_ifo_some h
              refine r_aa (pc' := 82) (L' := [(0, .ref 39), (1, .int X1), (2, .int X2), (3, .int X3), (4, .int X4), (5, .int X5)]) H_64 hq (z_at.mk 1 rfl rfl) hx1 g_81 rfl rfl ?_
              intro A_81 hE_81 hA_81
              rw [← hE_81] at h
              refine r_p hq 2 (pc' := 84) (L' := [(0, .ref 39), (1, .int X1), (2, .int X2), (3, .int X3), (4, .int X4), (5, .int X5)]) (st' := [.ref 39, .int X2, .ref A_81]) rfl ?_
              refine r_gR (b := 134) (pc' := 87) (L' := [(0, .ref 39), (1, .int X1), (2, .int X2), (3, .int X3), (4, .int X4), (5, .int X5)]) H_64 hq (z_at.mk 3 rfl rfl) rfl rfl rfl rfl ?_
              refine r_gR (b := 135) (pc' := 90) (L' := [(0, .ref 39), (1, .int X1), (2, .int X2), (3, .int X3), (4, .int X4), (5, .int X5)]) H_64 hq (z_at.mk 3 rfl rfl) rfl rfl rfl rfl ?_
              refine r_p hq 1 (pc' := 91) (L' := [(0, .ref 39), (1, .int X1), (2, .int X2), (3, .int X3), (4, .int X4), (5, .int X5)]) (st' := [.int X3, .ref 135, .int X2, .ref A_81]) rfl ?_
              obtain ⟨g_91, h⟩ := z_ifo_some h
              refine r_aa (pc' := 92) (L' := [(0, .ref 39), (1, .int X1), (2, .int X2), (3, .int X3), (4, .int X4), (5, .int X5)]) H_64 hq (z_at.mk 1 rfl rfl) hx3 g_91 rfl rfl ?_
              intro A_91 hE_91 hA_91
              rw [← hE_91] at h
              refine r_p hq 2 (pc' := 96) (L' := [(0, .ref 39), (1, .int X1), (2, .int X2), (3, .int X3), (4, .int X4), (5, .int X5)]) (st' := [.int X5, .int X4, .ref A_91, .int X2, .ref A_81]) rfl ?_
              obtain ⟨g_96, h⟩ := z_ifo_some h
              refine r_cp (t := 1) (pc' := 99) (L' := [(0, .ref 39), (1, .int X1), (2, .int X2), (3, .int X3), (4, .int X4), (5, .int X5)]) H_64 hq (z_at.mk 3 rfl rfl) rfl (by decide) (by decide) (zIn_all (l := [136, 137, 138, 139, 140, 141]) (p := fun a => zAr a 1 60) rfl hA_81) (zIn_all (l := [136, 137, 138, 139, 140, 141]) (p := fun a => zAr a 1 60) rfl hA_91) hx2 hx4 hx5 g_96 rfl rfl ?_
              intro m_96 H_96
              refine r_p hq 1 (pc' := 101) (L' := [(0, .ref 39), (1, .int X1), (2, .int X2), (3, .int X3), (4, .int X4), (5, .int X5)]) (st' := [.int X5]) rfl ?_
              cases h
              exact r_ri hq (z_at.mk 1 rfl rfl) rfl rfl hx5 rfl H_96
            · refine r_f1 (pc' := 70) (L' := []) hq (z_at.mk 3 rfl rfl) rfl hR_64 c_67 rfl rfl ?_
              refine r_p hq 1 (pc' := 72) (L' := []) (st' := [.int ((-13 : Int32))]) rfl ?_
              cases h
              exact r_ri hq (z_at.mk 1 rfl rfl) rfl rfl (rfl : (-13 : Int32).toInt = -13) rfl H_64
        · refine r_f1 (pc' := 38) (L' := []) hq (z_at.mk 3 rfl rfl) rfl hR_32 c_35 rfl rfl ?_
          refine r_p hq 1 (pc' := 40) (L' := []) (st' := [.int ((-11 : Int32))]) rfl ?_
          cases h
          exact r_ri hq (z_at.mk 1 rfl rfl) rfl rfl (rfl : (-11 : Int32).toInt = -11) rfl H_32
    · refine r_f1 (pc' := 14) (L' := []) hq (z_at.mk 3 rfl rfl) rfl hR_8 c_11 rfl rfl ?_
      refine r_p hq 1 (pc' := 15) (L' := []) (st' := [.int ((-1 : Int32))]) rfl ?_
      cases h
      exact r_ri hq (z_at.mk 1 rfl rfl) rfl rfl (rfl : (-1 : Int32).toInt = -1) rfl H_8
end
section
/-! 21.g09 -/
/-! THE METHODS over the typed memory, 9 (by wip/zg.py) -/
def g_c_lay (x1 : Int) (x2 : Int) (σ : zS) : Option (Int × zS) :=
  (g_li_refusal x1 σ).bind fun o_5 =>
  if o_5.1 = 0 then
    (g_li_layFrom x1 x2 o_5.2).bind fun o_30 =>
    some (o_30.1, o_30.2)
  else
    some (o_5.1, o_5.2)
set_option maxHeartbeats 4000000 in
theorem g_c_lay_ok {xl : Nat} {xs : Nat → Int32} {X1 : Int32} {x1 : Int} (hx1 : X1.toInt = x1) {X2 : Int32} {x2 : Int} (hx2 : X2.toInt = x2) {σ : zS} {p : Nat} {m : zM} {o : Int × zS} (H : zRep xl xs p m σ) (h : g_c_lay x1 x2 σ = some o) : zGo xl xs (fun p' => p = p') 4 154 0 (z_can 154 0 (lv_args 0 [.ref 39, .int X1, .int X2])) [] m (vI o.1) o.2 := by
  have hq : z_mth 154 = some z_r154 := rfl
  unfold g_c_lay at h
  show zGo xl xs (fun p' => p = p') 4 154 0 [(0, .ref 39), (1, .int X1), (2, .int X2)] [] m (vI o.1) o.2
  refine r_p hq 1 (pc' := 1) (L' := [(0, .ref 39), (1, .int X1), (2, .int X2)]) (st' := [.ref 39]) rfl ?_
  refine r_gR (b := 134) (pc' := 4) (L' := [(0, .ref 39), (1, .int X1), (2, .int X2)]) H hq (z_at.mk 3 rfl rfl) rfl rfl rfl rfl ?_
  refine r_p hq 1 (pc' := 5) (L' := [(0, .ref 39), (1, .int X1), (2, .int X2)]) (st' := [.int X1, .ref 134]) rfl ?_
  obtain ⟨o_5, h_5, h⟩ := Option.bind_eq_some_iff.mp h
  refine r_cvI (pc' := 8) (L' := [(0, .ref 39), (1, .int X1), (2, .int X2)]) (Ps := [.int X1]) (rest := []) hq (z_at.mk 3 rfl rfl) (Or.inl ⟨rfl, rfl⟩) rfl rfl (by decide) (by decide) rfl (Nat.not_lt.mpr (Nat.le_of_ble_eq_true rfl)) rfl rfl (z_cat_le 0 rfl (by decide)) (z_lgl_le 2 rfl (by decide)) (by decide) (H.tg rfl) (by omega) (g_li_refusal_ok hx1 H h_5) rfl rfl ?_
  intro R_5 m_5 p_5 e_5 hR_5 H_5
  subst e_5
  refine r_p hq 2 (pc' := 10) (L' := [(3, .int R_5), (0, .ref 39), (1, .int X1), (2, .int X2)]) (st' := [.int R_5]) rfl ?_
  rcases z_ite h with ⟨c_10, h⟩ | ⟨c_10, h⟩
  · refine r_t1 (pc' := 17) (L' := [(3, .int R_5), (0, .ref 39), (1, .int X1), (2, .int X2)]) hq (z_at.mk 3 rfl rfl) rfl hR_5 c_10 rfl rfl ?_
    refine r_p hq 1 (pc' := 18) (L' := [(3, .int R_5), (0, .ref 39), (1, .int X1), (2, .int X2)]) (st' := [.ref 39]) rfl ?_
    refine r_gR (b := 134) (pc' := 21) (L' := [(3, .int R_5), (0, .ref 39), (1, .int X1), (2, .int X2)]) H_5 hq (z_at.mk 3 rfl rfl) rfl rfl rfl rfl ?_
    refine r_p hq 3 (pc' := 24) (L' := [(3, .int R_5), (0, .ref 39), (1, .int X1), (2, .int X2)]) (st' := [.ref 39, .int X2, .int X1, .ref 134]) rfl ?_
    refine r_gR (b := 40) (pc' := 27) (L' := [(3, .int R_5), (0, .ref 39), (1, .int X1), (2, .int X2)]) H_5 hq (z_at.mk 3 rfl rfl) rfl rfl rfl rfl ?_
    refine r_gR (b := 60) (pc' := 30) (L' := [(3, .int R_5), (0, .ref 39), (1, .int X1), (2, .int X2)]) H_5 hq (z_at.mk 3 rfl rfl) rfl rfl rfl rfl ?_
    obtain ⟨o_30, h_30, h⟩ := Option.bind_eq_some_iff.mp h
    refine r_cvI (pc' := 33) (L' := []) (Ps := [.int X1, .int X2, .ref 60]) (rest := []) hq (z_at.mk 3 rfl rfl) (Or.inl ⟨rfl, rfl⟩) rfl rfl (by decide) (by decide) rfl (Nat.not_lt.mpr (Nat.le_of_ble_eq_true rfl)) rfl rfl (z_cat_le 0 rfl (by decide)) (z_lgl_le 4 rfl (by decide)) (by decide) (H_5.tg rfl) (by omega) (g_li_layFrom_ok hx1 hx2 H_5 h_30) rfl rfl ?_
    intro R_30 m_30 p_30 e_30 hR_30 H_30
    subst e_30
    cases h
    exact r_ri hq (z_at.mk 1 rfl rfl) rfl rfl hR_30 rfl H_30
  · refine r_f1 (pc' := 13) (L' := [(3, .int R_5), (0, .ref 39), (1, .int X1), (2, .int X2)]) hq (z_at.mk 3 rfl rfl) rfl hR_5 c_10 rfl rfl ?_
    refine r_p hq 2 (pc' := 33) (L' := []) (st' := [.int R_5]) rfl ?_
    cases h
    exact r_ri hq (z_at.mk 1 rfl rfl) rfl rfl hR_5 rfl H_5
def g_c_judge (x1 : Int) (x2 : Int) (σ : zS) : Option (Int × zS) :=
  (g_li_refusal x1 σ).bind fun o_5 =>
  if o_5.1 = 0 then
    (g_li_judgeFrom x1 x2 o_5.2).bind fun o_30 =>
    some (o_30.1, o_30.2)
  else
    some (o_5.1, o_5.2)
set_option maxHeartbeats 4000000 in
theorem g_c_judge_ok {xl : Nat} {xs : Nat → Int32} {X1 : Int32} {x1 : Int} (hx1 : X1.toInt = x1) {X2 : Int32} {x2 : Int} (hx2 : X2.toInt = x2) {σ : zS} {p : Nat} {m : zM} {o : Int × zS} (H : zRep xl xs p m σ) (h : g_c_judge x1 x2 σ = some o) : zGo xl xs (fun p' => p = p') 4 155 0 (z_can 155 0 (lv_args 0 [.ref 39, .int X1, .int X2])) [] m (vI o.1) o.2 := by
  have hq : z_mth 155 = some z_r155 := rfl
  unfold g_c_judge at h
  show zGo xl xs (fun p' => p = p') 4 155 0 [(0, .ref 39), (1, .int X1), (2, .int X2)] [] m (vI o.1) o.2
  refine r_p hq 1 (pc' := 1) (L' := [(0, .ref 39), (1, .int X1), (2, .int X2)]) (st' := [.ref 39]) rfl ?_
  refine r_gR (b := 134) (pc' := 4) (L' := [(0, .ref 39), (1, .int X1), (2, .int X2)]) H hq (z_at.mk 3 rfl rfl) rfl rfl rfl rfl ?_
  refine r_p hq 1 (pc' := 5) (L' := [(0, .ref 39), (1, .int X1), (2, .int X2)]) (st' := [.int X1, .ref 134]) rfl ?_
  obtain ⟨o_5, h_5, h⟩ := Option.bind_eq_some_iff.mp h
  refine r_cvI (pc' := 8) (L' := [(0, .ref 39), (1, .int X1), (2, .int X2)]) (Ps := [.int X1]) (rest := []) hq (z_at.mk 3 rfl rfl) (Or.inl ⟨rfl, rfl⟩) rfl rfl (by decide) (by decide) rfl (Nat.not_lt.mpr (Nat.le_of_ble_eq_true rfl)) rfl rfl (z_cat_le 0 rfl (by decide)) (z_lgl_le 2 rfl (by decide)) (by decide) (H.tg rfl) (by omega) (g_li_refusal_ok hx1 H h_5) rfl rfl ?_
  intro R_5 m_5 p_5 e_5 hR_5 H_5
  subst e_5
  refine r_p hq 2 (pc' := 10) (L' := [(3, .int R_5), (0, .ref 39), (1, .int X1), (2, .int X2)]) (st' := [.int R_5]) rfl ?_
  rcases z_ite h with ⟨c_10, h⟩ | ⟨c_10, h⟩
  · refine r_t1 (pc' := 17) (L' := [(3, .int R_5), (0, .ref 39), (1, .int X1), (2, .int X2)]) hq (z_at.mk 3 rfl rfl) rfl hR_5 c_10 rfl rfl ?_
    refine r_p hq 1 (pc' := 18) (L' := [(3, .int R_5), (0, .ref 39), (1, .int X1), (2, .int X2)]) (st' := [.ref 39]) rfl ?_
    refine r_gR (b := 134) (pc' := 21) (L' := [(3, .int R_5), (0, .ref 39), (1, .int X1), (2, .int X2)]) H_5 hq (z_at.mk 3 rfl rfl) rfl rfl rfl rfl ?_
    refine r_p hq 3 (pc' := 24) (L' := [(3, .int R_5), (0, .ref 39), (1, .int X1), (2, .int X2)]) (st' := [.ref 39, .int X2, .int X1, .ref 134]) rfl ?_
    refine r_gR (b := 40) (pc' := 27) (L' := [(3, .int R_5), (0, .ref 39), (1, .int X1), (2, .int X2)]) H_5 hq (z_at.mk 3 rfl rfl) rfl rfl rfl rfl ?_
    refine r_gR (b := 60) (pc' := 30) (L' := [(3, .int R_5), (0, .ref 39), (1, .int X1), (2, .int X2)]) H_5 hq (z_at.mk 3 rfl rfl) rfl rfl rfl rfl ?_
    obtain ⟨o_30, h_30, h⟩ := Option.bind_eq_some_iff.mp h
    refine r_cvI (pc' := 33) (L' := []) (Ps := [.int X1, .int X2, .ref 60]) (rest := []) hq (z_at.mk 3 rfl rfl) (Or.inl ⟨rfl, rfl⟩) rfl rfl (by decide) (by decide) rfl (Nat.not_lt.mpr (Nat.le_of_ble_eq_true rfl)) rfl rfl (z_cat_le 0 rfl (by decide)) (z_lgl_le 4 rfl (by decide)) (by decide) (H_5.tg rfl) (by omega) (g_li_judgeFrom_ok hx1 hx2 H_5 h_30) rfl rfl ?_
    intro R_30 m_30 p_30 e_30 hR_30 H_30
    subst e_30
    cases h
    exact r_ri hq (z_at.mk 1 rfl rfl) rfl rfl hR_30 rfl H_30
  · refine r_f1 (pc' := 13) (L' := [(3, .int R_5), (0, .ref 39), (1, .int X1), (2, .int X2)]) hq (z_at.mk 3 rfl rfl) rfl hR_5 c_10 rfl rfl ?_
    refine r_p hq 2 (pc' := 33) (L' := []) (st' := [.int R_5]) rfl ?_
    cases h
    exact r_ri hq (z_at.mk 1 rfl rfl) rfl rfl hR_5 rfl H_5
def g_c_image (σ : zS) : Option (Int × zS) :=
  (g_st_copyFrom 73 40 σ).bind fun o_8 =>
  let s_13 := zu o_8.2 39 2 1
  let v_23 := s_13 48 2
  some (v_23, s_13)
set_option maxHeartbeats 4000000 in
theorem g_c_image_ok {xl : Nat} {xs : Nat → Int32} {σ : zS} {p : Nat} {m : zM} {o : Int × zS} (H : zRep xl xs p m σ) (h : g_c_image σ = some o) : zGo xl xs (fun p' => p = p') 4 156 0 (z_can 156 0 (lv_args 0 [.ref 39])) [] m (vI o.1) o.2 := by
  have hq : z_mth 156 = some z_r156 := rfl
  unfold g_c_image at h
  show zGo xl xs (fun p' => p = p') 4 156 0 [(0, .ref 39)] [] m (vI o.1) o.2
  refine r_p hq 1 (pc' := 1) (L' := [(0, .ref 39)]) (st' := [.ref 39]) rfl ?_
  refine r_gR (b := 73) (pc' := 4) (L' := [(0, .ref 39)]) H hq (z_at.mk 3 rfl rfl) rfl rfl rfl rfl ?_
  refine r_p hq 1 (pc' := 5) (L' := [(0, .ref 39)]) (st' := [.ref 39, .ref 73]) rfl ?_
  refine r_gR (b := 40) (pc' := 8) (L' := [(0, .ref 39)]) H hq (z_at.mk 3 rfl rfl) rfl rfl rfl rfl ?_
  obtain ⟨o_8, h_8, h⟩ := Option.bind_eq_some_iff.mp h
  refine r_cvV (pc' := 11) (L' := [(0, .ref 39)]) (Ps := [.ref 40]) (rest := []) hq (z_at.mk 3 rfl rfl) (Or.inl ⟨rfl, rfl⟩) rfl rfl (by decide) (by decide) rfl (Nat.not_lt.mpr (Nat.le_of_ble_eq_true rfl)) rfl rfl (z_cat_le 0 rfl (by decide)) (z_lgl_le 2 rfl (by decide)) (by decide) (H.tg rfl) (by omega) (g_st_copyFrom_ok rfl rfl H h_8) rfl rfl ?_
  intro m_8 p_8 e_8 H_8
  subst e_8
  refine r_p hq 2 (pc' := 13) (L' := [(0, .ref 39)]) (st' := [.int ((1 : Int32)), .ref 39]) rfl ?_
  refine r_pI (X := (1 : Int32)) (pc' := 16) (L' := [(0, .ref 39)]) H_8 hq (z_at.mk 3 rfl rfl) rfl rfl (rfl : (1 : Int32).toInt = 1) (by decide) rfl rfl rfl rfl ?_
  intro m_13 H_13
  refine r_p hq 1 (pc' := 17) (L' := [(0, .ref 39)]) (st' := [.ref 39]) rfl ?_
  refine r_gR (b := 40) (pc' := 20) (L' := [(0, .ref 39)]) H_13 hq (z_at.mk 3 rfl rfl) rfl rfl rfl rfl ?_
  refine r_gR (b := 48) (pc' := 23) (L' := [(0, .ref 39)]) H_13 hq (z_at.mk 3 rfl rfl) rfl rfl rfl rfl ?_
  refine r_gI (pc' := 26) (L' := [(0, .ref 39)]) H_13 hq (z_at.mk 3 rfl rfl) rfl rfl rfl rfl ?_
  intro V_23 hV_23
  cases h
  exact r_ri hq (z_at.mk 1 rfl rfl) rfl rfl hV_23 rfl H_13
def g_c_undo (σ : zS) : Option (Int × zS) :=
  let v_1 := σ 39 2
  if v_1 ≠ 0 then
    (g_st_copyFrom 40 73 σ).bind fun o_18 =>
    let v_28 := o_18.2 48 2
    some (v_28, o_18.2)
  else
    some (-3, σ)
set_option maxHeartbeats 4000000 in
theorem g_c_undo_ok {xl : Nat} {xs : Nat → Int32} {σ : zS} {p : Nat} {m : zM} {o : Int × zS} (H : zRep xl xs p m σ) (h : g_c_undo σ = some o) : zGo xl xs (fun p' => p = p') 4 157 0 (z_can 157 0 (lv_args 0 [.ref 39])) [] m (vI o.1) o.2 := by
  have hq : z_mth 157 = some z_r157 := rfl
  unfold g_c_undo at h
  show zGo xl xs (fun p' => p = p') 4 157 0 [(0, .ref 39)] [] m (vI o.1) o.2
  refine r_p hq 1 (pc' := 1) (L' := [(0, .ref 39)]) (st' := [.ref 39]) rfl ?_
  refine r_gI (pc' := 4) (L' := [(0, .ref 39)]) H hq (z_at.mk 3 rfl rfl) rfl rfl rfl rfl ?_
  intro V_1 hV_1
  rcases z_ite h with ⟨c_4, h⟩ | ⟨c_4, h⟩
  · refine r_t1 (pc' := 10) (L' := [(0, .ref 39)]) hq (z_at.mk 3 rfl rfl) rfl hV_1 c_4 rfl rfl ?_
    refine r_p hq 1 (pc' := 11) (L' := [(0, .ref 39)]) (st' := [.ref 39]) rfl ?_
    refine r_gR (b := 40) (pc' := 14) (L' := [(0, .ref 39)]) H hq (z_at.mk 3 rfl rfl) rfl rfl rfl rfl ?_
    refine r_p hq 1 (pc' := 15) (L' := [(0, .ref 39)]) (st' := [.ref 39, .ref 40]) rfl ?_
    refine r_gR (b := 73) (pc' := 18) (L' := [(0, .ref 39)]) H hq (z_at.mk 3 rfl rfl) rfl rfl rfl rfl ?_
    obtain ⟨o_18, h_18, h⟩ := Option.bind_eq_some_iff.mp h
    refine r_cvV (pc' := 21) (L' := [(0, .ref 39)]) (Ps := [.ref 73]) (rest := []) hq (z_at.mk 3 rfl rfl) (Or.inl ⟨rfl, rfl⟩) rfl rfl (by decide) (by decide) rfl (Nat.not_lt.mpr (Nat.le_of_ble_eq_true rfl)) rfl rfl (z_cat_le 0 rfl (by decide)) (z_lgl_le 2 rfl (by decide)) (by decide) (H.tg rfl) (by omega) (g_st_copyFrom_ok rfl rfl H h_18) rfl rfl ?_
    intro m_18 p_18 e_18 H_18
    subst e_18
    refine r_p hq 1 (pc' := 22) (L' := [(0, .ref 39)]) (st' := [.ref 39]) rfl ?_
    refine r_gR (b := 40) (pc' := 25) (L' := [(0, .ref 39)]) H_18 hq (z_at.mk 3 rfl rfl) rfl rfl rfl rfl ?_
    refine r_gR (b := 48) (pc' := 28) (L' := [(0, .ref 39)]) H_18 hq (z_at.mk 3 rfl rfl) rfl rfl rfl rfl ?_
    refine r_gI (pc' := 31) (L' := [(0, .ref 39)]) H_18 hq (z_at.mk 3 rfl rfl) rfl rfl rfl rfl ?_
    intro V_28 hV_28
    cases h
    exact r_ri hq (z_at.mk 1 rfl rfl) rfl rfl hV_28 rfl H_18
  · refine r_f1 (pc' := 7) (L' := [(0, .ref 39)]) hq (z_at.mk 3 rfl rfl) rfl hV_1 c_4 rfl rfl ?_
    refine r_p hq 1 (pc' := 9) (L' := [(0, .ref 39)]) (st' := [.int ((-3 : Int32))]) rfl ?_
    cases h
    exact r_ri hq (z_at.mk 1 rfl rfl) rfl rfl (rfl : (-3 : Int32).toInt = -3) rfl H
def g_m_isIn (x0 : Int) (x1 : Int) (x2 : Int) (σ : zS) : Option (Int × zS) :=
  if x0 < x1 then
    some (0, σ)
  else
    if x2 < x0 then
      some (0, σ)
    else
      some (1, σ)
set_option maxHeartbeats 4000000 in
theorem g_m_isIn_ok {xl : Nat} {xs : Nat → Int32} {X0 : Int32} {x0 : Int} (hx0 : X0.toInt = x0) {X1 : Int32} {x1 : Int} (hx1 : X1.toInt = x1) {X2 : Int32} {x2 : Int} (hx2 : X2.toInt = x2) {σ : zS} {p : Nat} {m : zM} {o : Int × zS} (H : zRep xl xs p m σ) (h : g_m_isIn x0 x1 x2 σ = some o) : zGo xl xs (fun p' => p = p') 1 159 0 (z_can 159 0 (lv_args 0 [.int X0, .int X1, .int X2])) [] m (vI o.1) o.2 := by
  have hq : z_mth 159 = some z_r159 := rfl
  unfold g_m_isIn at h
  show zGo xl xs (fun p' => p = p') 1 159 0 [(0, .int X0), (1, .int X1), (2, .int X2)] [] m (vI o.1) o.2
  refine r_p hq 2 (pc' := 2) (L' := [(0, .int X0), (1, .int X1), (2, .int X2)]) (st' := [.int X1, .int X0]) rfl ?_
  rcases z_ite h with ⟨c_2, h⟩ | ⟨c_2, h⟩
  · refine r_t2 (pc' := 14) (L' := []) hq (z_at.mk 3 rfl rfl) rfl hx0 hx1 c_2 rfl rfl ?_
    refine r_p hq 1 (pc' := 15) (L' := []) (st' := [.int ((0 : Int32))]) rfl ?_
    cases h
    exact r_ri hq (z_at.mk 1 rfl rfl) rfl rfl (rfl : (0 : Int32).toInt = 0) rfl H
  · refine r_f2 (pc' := 5) (L' := [(0, .int X0), (1, .int X1), (2, .int X2)]) hq (z_at.mk 3 rfl rfl) rfl hx0 hx1 c_2 rfl rfl ?_
    refine r_p hq 2 (pc' := 7) (L' := [(0, .int X0), (1, .int X1), (2, .int X2)]) (st' := [.int X2, .int X0]) rfl ?_
    rcases z_ite h with ⟨c_7, h⟩ | ⟨c_7, h⟩
    · refine r_t2 (pc' := 14) (L' := []) hq (z_at.mk 3 rfl rfl) rfl hx0 hx2 c_7 rfl rfl ?_
      refine r_p hq 1 (pc' := 15) (L' := []) (st' := [.int ((0 : Int32))]) rfl ?_
      cases h
      exact r_ri hq (z_at.mk 1 rfl rfl) rfl rfl (rfl : (0 : Int32).toInt = 0) rfl H
    · refine r_f2 (pc' := 10) (L' := [(0, .int X0), (1, .int X1), (2, .int X2)]) hq (z_at.mk 3 rfl rfl) rfl hx0 hx2 c_7 rfl rfl ?_
      refine r_p hq 2 (pc' := 15) (L' := []) (st' := [.int ((1 : Int32))]) rfl ?_
      cases h
      exact r_ri hq (z_at.mk 1 rfl rfl) rfl rfl (rfl : (1 : Int32).toInt = 1) rfl H
def g_m_less (x0 : Int) (x1 : Int) (σ : zS) : Option (Int × zS) :=
  if x1 ≤ x0 then
    some (x1, σ)
  else
    some (x0, σ)
set_option maxHeartbeats 4000000 in
theorem g_m_less_ok {xl : Nat} {xs : Nat → Int32} {X0 : Int32} {x0 : Int} (hx0 : X0.toInt = x0) {X1 : Int32} {x1 : Int} (hx1 : X1.toInt = x1) {σ : zS} {p : Nat} {m : zM} {o : Int × zS} (H : zRep xl xs p m σ) (h : g_m_less x0 x1 σ = some o) : zGo xl xs (fun p' => p = p') 1 160 0 (z_can 160 0 (lv_args 0 [.int X0, .int X1])) [] m (vI o.1) o.2 := by
  have hq : z_mth 160 = some z_r160 := rfl
  unfold g_m_less at h
  show zGo xl xs (fun p' => p = p') 1 160 0 [(0, .int X0), (1, .int X1)] [] m (vI o.1) o.2
  refine r_p hq 2 (pc' := 2) (L' := [(0, .int X0), (1, .int X1)]) (st' := [.int X1, .int X0]) rfl ?_
  rcases z_ite h with ⟨c_2, h⟩ | ⟨c_2, h⟩
  · refine r_t2 (pc' := 9) (L' := [(0, .int X0), (1, .int X1)]) hq (z_at.mk 3 rfl rfl) rfl hx0 hx1 c_2 rfl rfl ?_
    refine r_p hq 1 (pc' := 10) (L' := []) (st' := [.int X1]) rfl ?_
    cases h
    exact r_ri hq (z_at.mk 1 rfl rfl) rfl rfl hx1 rfl H
  · refine r_f2 (pc' := 5) (L' := [(0, .int X0), (1, .int X1)]) hq (z_at.mk 3 rfl rfl) rfl hx0 hx1 c_2 rfl rfl ?_
    refine r_p hq 2 (pc' := 10) (L' := []) (st' := [.int X0]) rfl ?_
    cases h
    exact r_ri hq (z_at.mk 1 rfl rfl) rfl rfl hx0 rfl H
def g_m_more (x0 : Int) (x1 : Int) (σ : zS) : Option (Int × zS) :=
  if x0 ≤ x1 then
    some (x1, σ)
  else
    some (x0, σ)
set_option maxHeartbeats 4000000 in
theorem g_m_more_ok {xl : Nat} {xs : Nat → Int32} {X0 : Int32} {x0 : Int} (hx0 : X0.toInt = x0) {X1 : Int32} {x1 : Int} (hx1 : X1.toInt = x1) {σ : zS} {p : Nat} {m : zM} {o : Int × zS} (H : zRep xl xs p m σ) (h : g_m_more x0 x1 σ = some o) : zGo xl xs (fun p' => p = p') 1 161 0 (z_can 161 0 (lv_args 0 [.int X0, .int X1])) [] m (vI o.1) o.2 := by
  have hq : z_mth 161 = some z_r161 := rfl
  unfold g_m_more at h
  show zGo xl xs (fun p' => p = p') 1 161 0 [(0, .int X0), (1, .int X1)] [] m (vI o.1) o.2
  refine r_p hq 2 (pc' := 2) (L' := [(0, .int X0), (1, .int X1)]) (st' := [.int X1, .int X0]) rfl ?_
  rcases z_ite h with ⟨c_2, h⟩ | ⟨c_2, h⟩
  · refine r_t2 (pc' := 9) (L' := [(0, .int X0), (1, .int X1)]) hq (z_at.mk 3 rfl rfl) rfl hx0 hx1 c_2 rfl rfl ?_
    refine r_p hq 1 (pc' := 10) (L' := []) (st' := [.int X1]) rfl ?_
    cases h
    exact r_ri hq (z_at.mk 1 rfl rfl) rfl rfl hx1 rfl H
  · refine r_f2 (pc' := 5) (L' := [(0, .int X0), (1, .int X1)]) hq (z_at.mk 3 rfl rfl) rfl hx0 hx1 c_2 rfl rfl ?_
    refine r_p hq 2 (pc' := 10) (L' := []) (st' := [.int X0]) rfl ?_
    cases h
    exact r_ri hq (z_at.mk 1 rfl rfl) rfl rfl hx0 rfl H
def g_m_keeps_L26 (a1 : Nat) (a2 : Nat) : Nat → Int → zS → Option (Unit × zS)
  | 0, _, _ => none
  | n + 1, x3, σ =>
    if 361 ≤ x3 then
      some ((), σ)
    else
      if 0 ≤ x3 ∧ x3 < 361 then
      let v_40 := σ 147 x3
      if 0 ≤ x3 ∧ x3 < 361 then
      let s_41 := zu σ a2 x3 v_40
      (g_m_keeps_L26 a1 a2 n) (w32 (x3 + 1)) s_41
      else none
      else none
set_option maxHeartbeats 4000000 in
theorem g_m_keeps_L26_ok {xl : Nat} {xs : Nat → Int32} {a1 : Nat} (ha1 : zIn [145, 146] a1 = true) {a2 : Nat} (ha2 : zIn [148, 149] a2 = true) : ∀ (n : Nat) {X3 : Int32} {x3 : Int} {σ : zS} {p : Nat} {m : zM} {o : Unit × zS}, X3.toInt = x3 → zRep xl xs p m σ → g_m_keeps_L26 a1 a2 n x3 σ = some o → zGo xl xs (fun p' => p = p') 1 162 26 [(0, .ref 143), (2, .ref a2), (3, .int X3)] [] m vV o.2
  | 0, _, _, _, _, _, _, _, _, h => by cases h
  | n + 1, X3, x3, σ, p, m, o, hx3, H, h => by
    have hq : z_mth 162 = some z_r162 := rfl
    have ih := fun {X3 : Int32} {x3 : Int} {σ : zS} {p : Nat} {m : zM} {o : Unit × zS} => g_m_keeps_L26_ok (xl := xl) (xs := xs) ha1 ha2 n (X3 := X3) (x3 := x3) (σ := σ) (p := p) (m := m) (o := o)
    unfold g_m_keeps_L26 at h
    refine r_p hq 2 (pc' := 30) (L' := [(0, .ref 143), (2, .ref a2), (3, .int X3)]) (st' := [.int ((361 : Int32)), .int X3]) rfl ?_
    rcases z_ite h with ⟨c_30, h⟩ | ⟨c_30, h⟩
    · refine r_t2 (pc' := 48) (L' := [(0, .ref 143), (2, .ref a2), (3, .int X3)]) hq (z_at.mk 3 rfl rfl) rfl hx3 (rfl : (361 : Int32).toInt = 361) c_30 rfl rfl ?_
      cases h
      exact r_rv hq (z_at.mk 1 rfl rfl) rfl rfl H
    · refine r_f2 (pc' := 33) (L' := [(0, .ref 143), (2, .ref a2), (3, .int X3)]) hq (z_at.mk 3 rfl rfl) rfl hx3 (rfl : (361 : Int32).toInt = 361) c_30 rfl rfl ?_
      refine r_p hq 3 (pc' := 36) (L' := [(0, .ref 143), (2, .ref a2), (3, .int X3)]) (st' := [.ref 143, .int X3, .ref a2]) rfl ?_
      refine r_gR (b := 147) (pc' := 39) (L' := [(0, .ref 143), (2, .ref a2), (3, .int X3)]) H hq (z_at.mk 3 rfl rfl) rfl rfl rfl rfl ?_
      refine r_p hq 1 (pc' := 40) (L' := [(0, .ref 143), (2, .ref a2), (3, .int X3)]) (st' := [.int X3, .ref 147, .int X3, .ref a2]) rfl ?_
      obtain ⟨g_40, h⟩ := z_ifo_some h
      refine r_la (pc' := 41) (L' := [(0, .ref 143), (2, .ref a2), (3, .int X3)]) H hq (z_at.mk 1 rfl rfl) (show zAr 147 1 361 = true from rfl) hx3 g_40 rfl rfl ?_
      intro V_40 hV_40
      obtain ⟨g_41, h⟩ := z_ifo_some h
      refine r_ls (pc' := 42) (L' := [(0, .ref 143), (2, .ref a2), (3, .int X3)]) H hq (z_at.mk 1 rfl rfl) (zIn_all (l := [148, 149]) (p := fun a => zAr a 1 361) rfl ha2) hx3 g_41 hV_40 rfl rfl ?_
      intro m_41 H_41
      refine r_p hq 2 (pc' := 26) (L' := [(0, .ref 143), (2, .ref a2), (3, .int (X3 + (1 : Int32)))]) (st' := []) rfl ?_
      exact ih (tx_iadd hx3 (rfl : (1 : Int32).toInt = 1)) H_41 h
def g_m_keeps_L2 (a1 : Nat) (a2 : Nat) : Nat → Int → zS → Option (Unit × zS)
  | 0, _, _ => none
  | n + 1, x3, σ =>
    if 2740 ≤ x3 then
      g_m_keeps_L26 a1 a2 zK 0 σ
    else
      if 0 ≤ x3 ∧ x3 < 2740 then
      let v_16 := σ 144 x3
      if 0 ≤ x3 ∧ x3 < 2740 then
      let s_17 := zu σ a1 x3 v_16
      (g_m_keeps_L2 a1 a2 n) (w32 (x3 + 1)) s_17
      else none
      else none
set_option maxHeartbeats 4000000 in
theorem g_m_keeps_L2_ok {xl : Nat} {xs : Nat → Int32} {a1 : Nat} (ha1 : zIn [145, 146] a1 = true) {a2 : Nat} (ha2 : zIn [148, 149] a2 = true) : ∀ (n : Nat) {X3 : Int32} {x3 : Int} {σ : zS} {p : Nat} {m : zM} {o : Unit × zS}, X3.toInt = x3 → zRep xl xs p m σ → g_m_keeps_L2 a1 a2 n x3 σ = some o → zGo xl xs (fun p' => p = p') 1 162 2 [(0, .ref 143), (1, .ref a1), (2, .ref a2), (3, .int X3)] [] m vV o.2
  | 0, _, _, _, _, _, _, _, _, h => by cases h
  | n + 1, X3, x3, σ, p, m, o, hx3, H, h => by
    have hq : z_mth 162 = some z_r162 := rfl
    have ih := fun {X3 : Int32} {x3 : Int} {σ : zS} {p : Nat} {m : zM} {o : Unit × zS} => g_m_keeps_L2_ok (xl := xl) (xs := xs) ha1 ha2 n (X3 := X3) (x3 := x3) (σ := σ) (p := p) (m := m) (o := o)
    unfold g_m_keeps_L2 at h
    refine r_p hq 2 (pc' := 6) (L' := [(0, .ref 143), (1, .ref a1), (2, .ref a2), (3, .int X3)]) (st' := [.int ((2740 : Int32)), .int X3]) rfl ?_
    rcases z_ite h with ⟨c_6, h⟩ | ⟨c_6, h⟩
    · refine r_t2 (pc' := 24) (L' := [(0, .ref 143), (1, .ref a1), (2, .ref a2), (3, .int X3)]) hq (z_at.mk 3 rfl rfl) rfl hx3 (rfl : (2740 : Int32).toInt = 2740) c_6 rfl rfl ?_
      refine r_p hq 2 (pc' := 26) (L' := [(0, .ref 143), (2, .ref a2), (3, .int ((0 : Int32)))]) (st' := []) rfl ?_
      exact g_m_keeps_L26_ok ha1 ha2 zK (rfl : (0 : Int32).toInt = 0) H h
    · refine r_f2 (pc' := 9) (L' := [(0, .ref 143), (1, .ref a1), (2, .ref a2), (3, .int X3)]) hq (z_at.mk 3 rfl rfl) rfl hx3 (rfl : (2740 : Int32).toInt = 2740) c_6 rfl rfl ?_
      refine r_p hq 3 (pc' := 12) (L' := [(0, .ref 143), (1, .ref a1), (2, .ref a2), (3, .int X3)]) (st' := [.ref 143, .int X3, .ref a1]) rfl ?_
      refine r_gR (b := 144) (pc' := 15) (L' := [(0, .ref 143), (1, .ref a1), (2, .ref a2), (3, .int X3)]) H hq (z_at.mk 3 rfl rfl) rfl rfl rfl rfl ?_
      refine r_p hq 1 (pc' := 16) (L' := [(0, .ref 143), (1, .ref a1), (2, .ref a2), (3, .int X3)]) (st' := [.int X3, .ref 144, .int X3, .ref a1]) rfl ?_
      obtain ⟨g_16, h⟩ := z_ifo_some h
      refine r_ia (pc' := 17) (L' := [(0, .ref 143), (1, .ref a1), (2, .ref a2), (3, .int X3)]) H hq (z_at.mk 1 rfl rfl) (show zAr 144 0 2740 = true from rfl) hx3 g_16 rfl rfl ?_
      intro V_16 hV_16
      obtain ⟨g_17, h⟩ := z_ifo_some h
      refine r_is (pc' := 18) (L' := [(0, .ref 143), (1, .ref a1), (2, .ref a2), (3, .int X3)]) H hq (z_at.mk 1 rfl rfl) (zIn_all (l := [145, 146]) (p := fun a => zAr a 0 2740) rfl ha1) hx3 g_17 hV_16 rfl rfl ?_
      intro m_17 H_17
      refine r_p hq 2 (pc' := 2) (L' := [(0, .ref 143), (1, .ref a1), (2, .ref a2), (3, .int (X3 + (1 : Int32)))]) (st' := []) rfl ?_
      exact ih (tx_iadd hx3 (rfl : (1 : Int32).toInt = 1)) H_17 h
def g_m_keeps (a1 : Nat) (a2 : Nat) (σ : zS) : Option (Unit × zS) :=
  g_m_keeps_L2 a1 a2 zK 0 σ
set_option maxHeartbeats 4000000 in
theorem g_m_keeps_ok {xl : Nat} {xs : Nat → Int32} {a1 : Nat} (ha1 : zIn [145, 146] a1 = true) {a2 : Nat} (ha2 : zIn [148, 149] a2 = true) {σ : zS} {p : Nat} {m : zM} {o : Unit × zS} (H : zRep xl xs p m σ) (h : g_m_keeps a1 a2 σ = some o) : zGo xl xs (fun p' => p = p') 1 162 0 (z_can 162 0 (lv_args 0 [.ref 143, .ref a1, .ref a2])) [] m vV o.2 := by
  have hq : z_mth 162 = some z_r162 := rfl
  unfold g_m_keeps at h
  show zGo xl xs (fun p' => p = p') 1 162 0 [(0, .ref 143), (1, .ref a1), (2, .ref a2)] [] m vV o.2
  refine r_p hq 2 (pc' := 2) (L' := [(0, .ref 143), (1, .ref a1), (2, .ref a2), (3, .int ((0 : Int32)))]) (st' := []) rfl ?_
  exact g_m_keeps_L2_ok ha1 ha2 zK (rfl : (0 : Int32).toInt = 0) H h
def g_m_back_L26 (a1 : Nat) (a2 : Nat) : Nat → Int → zS → Option (Unit × zS)
  | 0, _, _ => none
  | n + 1, x3, σ =>
    if 361 ≤ x3 then
      some ((), σ)
    else
      if 0 ≤ x3 ∧ x3 < 361 then
      let v_40 := σ a2 x3
      if 0 ≤ x3 ∧ x3 < 361 then
      let s_41 := zu σ 147 x3 v_40
      (g_m_back_L26 a1 a2 n) (w32 (x3 + 1)) s_41
      else none
      else none
set_option maxHeartbeats 4000000 in
theorem g_m_back_L26_ok {xl : Nat} {xs : Nat → Int32} {a1 : Nat} (ha1 : zIn [145, 146] a1 = true) {a2 : Nat} (ha2 : zIn [148, 149] a2 = true) : ∀ (n : Nat) {X3 : Int32} {x3 : Int} {σ : zS} {p : Nat} {m : zM} {o : Unit × zS}, X3.toInt = x3 → zRep xl xs p m σ → g_m_back_L26 a1 a2 n x3 σ = some o → zGo xl xs (fun p' => p = p') 1 163 26 [(0, .ref 143), (2, .ref a2), (3, .int X3)] [] m vV o.2
  | 0, _, _, _, _, _, _, _, _, h => by cases h
  | n + 1, X3, x3, σ, p, m, o, hx3, H, h => by
    have hq : z_mth 163 = some z_r163 := rfl
    have ih := fun {X3 : Int32} {x3 : Int} {σ : zS} {p : Nat} {m : zM} {o : Unit × zS} => g_m_back_L26_ok (xl := xl) (xs := xs) ha1 ha2 n (X3 := X3) (x3 := x3) (σ := σ) (p := p) (m := m) (o := o)
    unfold g_m_back_L26 at h
    refine r_p hq 2 (pc' := 30) (L' := [(0, .ref 143), (2, .ref a2), (3, .int X3)]) (st' := [.int ((361 : Int32)), .int X3]) rfl ?_
    rcases z_ite h with ⟨c_30, h⟩ | ⟨c_30, h⟩
    · refine r_t2 (pc' := 48) (L' := [(0, .ref 143), (2, .ref a2), (3, .int X3)]) hq (z_at.mk 3 rfl rfl) rfl hx3 (rfl : (361 : Int32).toInt = 361) c_30 rfl rfl ?_
      cases h
      exact r_rv hq (z_at.mk 1 rfl rfl) rfl rfl H
    · refine r_f2 (pc' := 33) (L' := [(0, .ref 143), (2, .ref a2), (3, .int X3)]) hq (z_at.mk 3 rfl rfl) rfl hx3 (rfl : (361 : Int32).toInt = 361) c_30 rfl rfl ?_
      refine r_p hq 1 (pc' := 34) (L' := [(0, .ref 143), (2, .ref a2), (3, .int X3)]) (st' := [.ref 143]) rfl ?_
      refine r_gR (b := 147) (pc' := 37) (L' := [(0, .ref 143), (2, .ref a2), (3, .int X3)]) H hq (z_at.mk 3 rfl rfl) rfl rfl rfl rfl ?_
      refine r_p hq 3 (pc' := 40) (L' := [(0, .ref 143), (2, .ref a2), (3, .int X3)]) (st' := [.int X3, .ref a2, .int X3, .ref 147]) rfl ?_
      obtain ⟨g_40, h⟩ := z_ifo_some h
      refine r_la (pc' := 41) (L' := [(0, .ref 143), (2, .ref a2), (3, .int X3)]) H hq (z_at.mk 1 rfl rfl) (zIn_all (l := [148, 149]) (p := fun a => zAr a 1 361) rfl ha2) hx3 g_40 rfl rfl ?_
      intro V_40 hV_40
      obtain ⟨g_41, h⟩ := z_ifo_some h
      refine r_ls (pc' := 42) (L' := [(0, .ref 143), (2, .ref a2), (3, .int X3)]) H hq (z_at.mk 1 rfl rfl) (show zAr 147 1 361 = true from rfl) hx3 g_41 hV_40 rfl rfl ?_
      intro m_41 H_41
      refine r_p hq 2 (pc' := 26) (L' := [(0, .ref 143), (2, .ref a2), (3, .int (X3 + (1 : Int32)))]) (st' := []) rfl ?_
      exact ih (tx_iadd hx3 (rfl : (1 : Int32).toInt = 1)) H_41 h
def g_m_back_L2 (a1 : Nat) (a2 : Nat) : Nat → Int → zS → Option (Unit × zS)
  | 0, _, _ => none
  | n + 1, x3, σ =>
    if 2740 ≤ x3 then
      g_m_back_L26 a1 a2 zK 0 σ
    else
      if 0 ≤ x3 ∧ x3 < 2740 then
      let v_16 := σ a1 x3
      if 0 ≤ x3 ∧ x3 < 2740 then
      let s_17 := zu σ 144 x3 v_16
      (g_m_back_L2 a1 a2 n) (w32 (x3 + 1)) s_17
      else none
      else none
set_option maxHeartbeats 4000000 in
theorem g_m_back_L2_ok {xl : Nat} {xs : Nat → Int32} {a1 : Nat} (ha1 : zIn [145, 146] a1 = true) {a2 : Nat} (ha2 : zIn [148, 149] a2 = true) : ∀ (n : Nat) {X3 : Int32} {x3 : Int} {σ : zS} {p : Nat} {m : zM} {o : Unit × zS}, X3.toInt = x3 → zRep xl xs p m σ → g_m_back_L2 a1 a2 n x3 σ = some o → zGo xl xs (fun p' => p = p') 1 163 2 [(0, .ref 143), (1, .ref a1), (2, .ref a2), (3, .int X3)] [] m vV o.2
  | 0, _, _, _, _, _, _, _, _, h => by cases h
  | n + 1, X3, x3, σ, p, m, o, hx3, H, h => by
    have hq : z_mth 163 = some z_r163 := rfl
    have ih := fun {X3 : Int32} {x3 : Int} {σ : zS} {p : Nat} {m : zM} {o : Unit × zS} => g_m_back_L2_ok (xl := xl) (xs := xs) ha1 ha2 n (X3 := X3) (x3 := x3) (σ := σ) (p := p) (m := m) (o := o)
    unfold g_m_back_L2 at h
    refine r_p hq 2 (pc' := 6) (L' := [(0, .ref 143), (1, .ref a1), (2, .ref a2), (3, .int X3)]) (st' := [.int ((2740 : Int32)), .int X3]) rfl ?_
    rcases z_ite h with ⟨c_6, h⟩ | ⟨c_6, h⟩
    · refine r_t2 (pc' := 24) (L' := [(0, .ref 143), (1, .ref a1), (2, .ref a2), (3, .int X3)]) hq (z_at.mk 3 rfl rfl) rfl hx3 (rfl : (2740 : Int32).toInt = 2740) c_6 rfl rfl ?_
      refine r_p hq 2 (pc' := 26) (L' := [(0, .ref 143), (2, .ref a2), (3, .int ((0 : Int32)))]) (st' := []) rfl ?_
      exact g_m_back_L26_ok ha1 ha2 zK (rfl : (0 : Int32).toInt = 0) H h
    · refine r_f2 (pc' := 9) (L' := [(0, .ref 143), (1, .ref a1), (2, .ref a2), (3, .int X3)]) hq (z_at.mk 3 rfl rfl) rfl hx3 (rfl : (2740 : Int32).toInt = 2740) c_6 rfl rfl ?_
      refine r_p hq 1 (pc' := 10) (L' := [(0, .ref 143), (1, .ref a1), (2, .ref a2), (3, .int X3)]) (st' := [.ref 143]) rfl ?_
      refine r_gR (b := 144) (pc' := 13) (L' := [(0, .ref 143), (1, .ref a1), (2, .ref a2), (3, .int X3)]) H hq (z_at.mk 3 rfl rfl) rfl rfl rfl rfl ?_
      refine r_p hq 3 (pc' := 16) (L' := [(0, .ref 143), (1, .ref a1), (2, .ref a2), (3, .int X3)]) (st' := [.int X3, .ref a1, .int X3, .ref 144]) rfl ?_
      obtain ⟨g_16, h⟩ := z_ifo_some h
      refine r_ia (pc' := 17) (L' := [(0, .ref 143), (1, .ref a1), (2, .ref a2), (3, .int X3)]) H hq (z_at.mk 1 rfl rfl) (zIn_all (l := [145, 146]) (p := fun a => zAr a 0 2740) rfl ha1) hx3 g_16 rfl rfl ?_
      intro V_16 hV_16
      obtain ⟨g_17, h⟩ := z_ifo_some h
      refine r_is (pc' := 18) (L' := [(0, .ref 143), (1, .ref a1), (2, .ref a2), (3, .int X3)]) H hq (z_at.mk 1 rfl rfl) (show zAr 144 0 2740 = true from rfl) hx3 g_17 hV_16 rfl rfl ?_
      intro m_17 H_17
      refine r_p hq 2 (pc' := 2) (L' := [(0, .ref 143), (1, .ref a1), (2, .ref a2), (3, .int (X3 + (1 : Int32)))]) (st' := []) rfl ?_
      exact ih (tx_iadd hx3 (rfl : (1 : Int32).toInt = 1)) H_17 h
def g_m_back (a1 : Nat) (a2 : Nat) (σ : zS) : Option (Unit × zS) :=
  g_m_back_L2 a1 a2 zK 0 σ
set_option maxHeartbeats 4000000 in
theorem g_m_back_ok {xl : Nat} {xs : Nat → Int32} {a1 : Nat} (ha1 : zIn [145, 146] a1 = true) {a2 : Nat} (ha2 : zIn [148, 149] a2 = true) {σ : zS} {p : Nat} {m : zM} {o : Unit × zS} (H : zRep xl xs p m σ) (h : g_m_back a1 a2 σ = some o) : zGo xl xs (fun p' => p = p') 1 163 0 (z_can 163 0 (lv_args 0 [.ref 143, .ref a1, .ref a2])) [] m vV o.2 := by
  have hq : z_mth 163 = some z_r163 := rfl
  unfold g_m_back at h
  show zGo xl xs (fun p' => p = p') 1 163 0 [(0, .ref 143), (1, .ref a1), (2, .ref a2)] [] m vV o.2
  refine r_p hq 2 (pc' := 2) (L' := [(0, .ref 143), (1, .ref a1), (2, .ref a2), (3, .int ((0 : Int32)))]) (st' := []) rfl ?_
  exact g_m_back_L2_ok ha1 ha2 zK (rfl : (0 : Int32).toInt = 0) H h
def g_m_isBox (x0 : Int) (x1 : Int) (x2 : Int) (x3 : Int) (σ : zS) : Option (Int × zS) :=
  (g_m_isIn x0 0 31 σ).bind fun o_4 =>
  if o_4.1 = 0 then
    some (0, o_4.2)
  else
    (g_m_isIn x1 x0 31 o_4.2).bind fun o_14 =>
    if o_14.1 = 0 then
      some (0, o_14.2)
    else
      (g_m_isIn x2 0 31 o_14.2).bind fun o_24 =>
      if o_24.1 = 0 then
        some (0, o_24.2)
      else
        (g_m_isIn x3 x2 31 o_24.2).bind fun o_34 =>
        if o_34.1 = 0 then
          some (0, o_34.2)
        else
          some (1, o_34.2)
set_option maxHeartbeats 4000000 in
theorem g_m_isBox_ok {xl : Nat} {xs : Nat → Int32} {X0 : Int32} {x0 : Int} (hx0 : X0.toInt = x0) {X1 : Int32} {x1 : Int} (hx1 : X1.toInt = x1) {X2 : Int32} {x2 : Int} (hx2 : X2.toInt = x2) {X3 : Int32} {x3 : Int} (hx3 : X3.toInt = x3) {σ : zS} {p : Nat} {m : zM} {o : Int × zS} (H : zRep xl xs p m σ) (h : g_m_isBox x0 x1 x2 x3 σ = some o) : zGo xl xs (fun p' => p = p') 2 164 0 (z_can 164 0 (lv_args 0 [.int X0, .int X1, .int X2, .int X3])) [] m (vI o.1) o.2 := by
  have hq : z_mth 164 = some z_r164 := rfl
  unfold g_m_isBox at h
  show zGo xl xs (fun p' => p = p') 2 164 0 [(0, .int X0), (1, .int X1), (2, .int X2), (3, .int X3)] [] m (vI o.1) o.2
  refine r_p hq 3 (pc' := 4) (L' := [(0, .int X0), (1, .int X1), (2, .int X2), (3, .int X3)]) (st' := [.int ((31 : Int32)), .int ((0 : Int32)), .int X0]) rfl ?_
  obtain ⟨o_4, h_4, h⟩ := Option.bind_eq_some_iff.mp h
  refine r_csI (pc' := 7) (L' := [(0, .int X0), (1, .int X1), (2, .int X2), (3, .int X3)]) (As := [.int X0, .int ((0 : Int32)), .int ((31 : Int32))]) (rest := []) (j := 159) hq (z_at.mk 3 rfl rfl) (Or.inl ⟨rfl, rfl⟩) rfl rfl (by omega) (g_m_isIn_ok hx0 (rfl : (0 : Int32).toInt = 0) (rfl : (31 : Int32).toInt = 31) H h_4) rfl rfl ?_
  intro R_4 m_4 p_4 e_4 hR_4 H_4
  subst e_4
  rcases z_ite h with ⟨c_7, h⟩ | ⟨c_7, h⟩
  · refine r_t1 (pc' := 44) (L' := []) hq (z_at.mk 3 rfl rfl) rfl hR_4 c_7 rfl rfl ?_
    refine r_p hq 1 (pc' := 45) (L' := []) (st' := [.int ((0 : Int32))]) rfl ?_
    cases h
    exact r_ri hq (z_at.mk 1 rfl rfl) rfl rfl (rfl : (0 : Int32).toInt = 0) rfl H_4
  · refine r_f1 (pc' := 10) (L' := [(0, .int X0), (1, .int X1), (2, .int X2), (3, .int X3)]) hq (z_at.mk 3 rfl rfl) rfl hR_4 c_7 rfl rfl ?_
    refine r_p hq 3 (pc' := 14) (L' := [(0, .int X0), (1, .int X1), (2, .int X2), (3, .int X3)]) (st' := [.int ((31 : Int32)), .int X0, .int X1]) rfl ?_
    obtain ⟨o_14, h_14, h⟩ := Option.bind_eq_some_iff.mp h
    refine r_csI (pc' := 17) (L' := [(0, .int X0), (1, .int X1), (2, .int X2), (3, .int X3)]) (As := [.int X1, .int X0, .int ((31 : Int32))]) (rest := []) (j := 159) hq (z_at.mk 3 rfl rfl) (Or.inl ⟨rfl, rfl⟩) rfl rfl (by omega) (g_m_isIn_ok hx1 hx0 (rfl : (31 : Int32).toInt = 31) H_4 h_14) rfl rfl ?_
    intro R_14 m_14 p_14 e_14 hR_14 H_14
    subst e_14
    rcases z_ite h with ⟨c_17, h⟩ | ⟨c_17, h⟩
    · refine r_t1 (pc' := 44) (L' := []) hq (z_at.mk 3 rfl rfl) rfl hR_14 c_17 rfl rfl ?_
      refine r_p hq 1 (pc' := 45) (L' := []) (st' := [.int ((0 : Int32))]) rfl ?_
      cases h
      exact r_ri hq (z_at.mk 1 rfl rfl) rfl rfl (rfl : (0 : Int32).toInt = 0) rfl H_14
    · refine r_f1 (pc' := 20) (L' := [(0, .int X0), (1, .int X1), (2, .int X2), (3, .int X3)]) hq (z_at.mk 3 rfl rfl) rfl hR_14 c_17 rfl rfl ?_
      refine r_p hq 3 (pc' := 24) (L' := [(0, .int X0), (1, .int X1), (2, .int X2), (3, .int X3)]) (st' := [.int ((31 : Int32)), .int ((0 : Int32)), .int X2]) rfl ?_
      obtain ⟨o_24, h_24, h⟩ := Option.bind_eq_some_iff.mp h
      refine r_csI (pc' := 27) (L' := [(0, .int X0), (1, .int X1), (2, .int X2), (3, .int X3)]) (As := [.int X2, .int ((0 : Int32)), .int ((31 : Int32))]) (rest := []) (j := 159) hq (z_at.mk 3 rfl rfl) (Or.inl ⟨rfl, rfl⟩) rfl rfl (by omega) (g_m_isIn_ok hx2 (rfl : (0 : Int32).toInt = 0) (rfl : (31 : Int32).toInt = 31) H_14 h_24) rfl rfl ?_
      intro R_24 m_24 p_24 e_24 hR_24 H_24
      subst e_24
      rcases z_ite h with ⟨c_27, h⟩ | ⟨c_27, h⟩
      · refine r_t1 (pc' := 44) (L' := []) hq (z_at.mk 3 rfl rfl) rfl hR_24 c_27 rfl rfl ?_
        refine r_p hq 1 (pc' := 45) (L' := []) (st' := [.int ((0 : Int32))]) rfl ?_
        cases h
        exact r_ri hq (z_at.mk 1 rfl rfl) rfl rfl (rfl : (0 : Int32).toInt = 0) rfl H_24
      · refine r_f1 (pc' := 30) (L' := [(0, .int X0), (1, .int X1), (2, .int X2), (3, .int X3)]) hq (z_at.mk 3 rfl rfl) rfl hR_24 c_27 rfl rfl ?_
        refine r_p hq 3 (pc' := 34) (L' := [(0, .int X0), (1, .int X1), (2, .int X2), (3, .int X3)]) (st' := [.int ((31 : Int32)), .int X2, .int X3]) rfl ?_
        obtain ⟨o_34, h_34, h⟩ := Option.bind_eq_some_iff.mp h
        refine r_csI (pc' := 37) (L' := [(0, .int X0), (1, .int X1), (2, .int X2), (3, .int X3)]) (As := [.int X3, .int X2, .int ((31 : Int32))]) (rest := []) (j := 159) hq (z_at.mk 3 rfl rfl) (Or.inl ⟨rfl, rfl⟩) rfl rfl (by omega) (g_m_isIn_ok hx3 hx2 (rfl : (31 : Int32).toInt = 31) H_24 h_34) rfl rfl ?_
        intro R_34 m_34 p_34 e_34 hR_34 H_34
        subst e_34
        rcases z_ite h with ⟨c_37, h⟩ | ⟨c_37, h⟩
        · refine r_t1 (pc' := 44) (L' := []) hq (z_at.mk 3 rfl rfl) rfl hR_34 c_37 rfl rfl ?_
          refine r_p hq 1 (pc' := 45) (L' := []) (st' := [.int ((0 : Int32))]) rfl ?_
          cases h
          exact r_ri hq (z_at.mk 1 rfl rfl) rfl rfl (rfl : (0 : Int32).toInt = 0) rfl H_34
        · refine r_f1 (pc' := 40) (L' := [(0, .int X0), (1, .int X1), (2, .int X2), (3, .int X3)]) hq (z_at.mk 3 rfl rfl) rfl hR_34 c_37 rfl rfl ?_
          refine r_p hq 2 (pc' := 45) (L' := []) (st' := [.int ((1 : Int32))]) rfl ?_
          cases h
          exact r_ri hq (z_at.mk 1 rfl rfl) rfl rfl (rfl : (1 : Int32).toInt = 1) rfl H_34
def g_m_sets (a0 : Nat) (x1 : Int) (x2 : Int) (x3 : Int) (x4 : Int) (x5 : Int) (σ : zS) : Option (Unit × zS) :=
  if 0 ≤ x1 ∧ x1 < zLI a0 then
  let s_3 := zu σ a0 x1 x2
  if 0 ≤ w32 (x1 + 1) ∧ w32 (x1 + 1) < zLI a0 then
  let s_9 := zu s_3 a0 (w32 (x1 + 1)) x3
  if 0 ≤ w32 (x1 + 2) ∧ w32 (x1 + 2) < zLI a0 then
  let s_16 := zu s_9 a0 (w32 (x1 + 2)) x4
  if 0 ≤ w32 (x1 + 3) ∧ w32 (x1 + 3) < zLI a0 then
  let s_23 := zu s_16 a0 (w32 (x1 + 3)) x5
  some ((), s_23)
  else none
  else none
  else none
  else none
set_option maxHeartbeats 4000000 in
theorem g_m_sets_ok {xl : Nat} {xs : Nat → Int32} {a0 : Nat} (ha0 : zIn [144, 150, 151, 152, 153, 156, 157, 161, 164, 165] a0 = true) {X1 : Int32} {x1 : Int} (hx1 : X1.toInt = x1) {X2 : Int32} {x2 : Int} (hx2 : X2.toInt = x2) {X3 : Int32} {x3 : Int} (hx3 : X3.toInt = x3) {X4 : Int32} {x4 : Int} (hx4 : X4.toInt = x4) {X5 : Int32} {x5 : Int} (hx5 : X5.toInt = x5) {σ : zS} {p : Nat} {m : zM} {o : Unit × zS} (H : zRep xl xs p m σ) (h : g_m_sets a0 x1 x2 x3 x4 x5 σ = some o) : zGo xl xs (fun p' => p = p') 1 165 0 (z_can 165 0 (lv_args 0 [.ref a0, .int X1, .int X2, .int X3, .int X4, .int X5])) [] m vV o.2 := by
  have hq : z_mth 165 = some z_r165 := rfl
  unfold g_m_sets at h
  show zGo xl xs (fun p' => p = p') 1 165 0 [(0, .ref a0), (1, .int X1), (2, .int X2), (3, .int X3), (4, .int X4), (5, .int X5)] [] m vV o.2
  refine r_p hq 3 (pc' := 3) (L' := [(0, .ref a0), (1, .int X1), (2, .int X2), (3, .int X3), (4, .int X4), (5, .int X5)]) (st' := [.int X2, .int X1, .ref a0]) rfl ?_
  obtain ⟨g_3, h⟩ := z_ifo_some h
  refine r_is (pc' := 4) (L' := [(0, .ref a0), (1, .int X1), (2, .int X2), (3, .int X3), (4, .int X4), (5, .int X5)]) H hq (z_at.mk 1 rfl rfl) (zIn_all (l := [144, 150, 151, 152, 153, 156, 157, 161, 164, 165]) (p := fun a => zAr a 0 (zLI a)) rfl ha0) hx1 g_3 hx2 rfl rfl ?_
  intro m_3 H_3
  refine r_p hq 5 (pc' := 9) (L' := [(0, .ref a0), (1, .int X1), (2, .int X2), (3, .int X3), (4, .int X4), (5, .int X5)]) (st' := [.int X3, .int (X1 + ((1 : Int32))), .ref a0]) rfl ?_
  obtain ⟨g_9, h⟩ := z_ifo_some h
  refine r_is (pc' := 10) (L' := [(0, .ref a0), (1, .int X1), (2, .int X2), (3, .int X3), (4, .int X4), (5, .int X5)]) H_3 hq (z_at.mk 1 rfl rfl) (zIn_all (l := [144, 150, 151, 152, 153, 156, 157, 161, 164, 165]) (p := fun a => zAr a 0 (zLI a)) rfl ha0) (tx_iadd hx1 (rfl : (1 : Int32).toInt = 1)) g_9 hx3 rfl rfl ?_
  intro m_9 H_9
  refine r_p hq 5 (pc' := 16) (L' := [(0, .ref a0), (1, .int X1), (2, .int X2), (3, .int X3), (4, .int X4), (5, .int X5)]) (st' := [.int X4, .int (X1 + ((2 : Int32))), .ref a0]) rfl ?_
  obtain ⟨g_16, h⟩ := z_ifo_some h
  refine r_is (pc' := 17) (L' := [(0, .ref a0), (1, .int X1), (2, .int X2), (3, .int X3), (4, .int X4), (5, .int X5)]) H_9 hq (z_at.mk 1 rfl rfl) (zIn_all (l := [144, 150, 151, 152, 153, 156, 157, 161, 164, 165]) (p := fun a => zAr a 0 (zLI a)) rfl ha0) (tx_iadd hx1 (rfl : (2 : Int32).toInt = 2)) g_16 hx4 rfl rfl ?_
  intro m_16 H_16
  refine r_p hq 5 (pc' := 23) (L' := [(0, .ref a0), (1, .int X1), (2, .int X2), (3, .int X3), (4, .int X4), (5, .int X5)]) (st' := [.int X5, .int (X1 + ((3 : Int32))), .ref a0]) rfl ?_
  obtain ⟨g_23, h⟩ := z_ifo_some h
  refine r_is (pc' := 24) (L' := [(0, .ref a0), (1, .int X1), (2, .int X2), (3, .int X3), (4, .int X4), (5, .int X5)]) H_16 hq (z_at.mk 1 rfl rfl) (zIn_all (l := [144, 150, 151, 152, 153, 156, 157, 161, 164, 165]) (p := fun a => zAr a 0 (zLI a)) rfl ha0) (tx_iadd hx1 (rfl : (3 : Int32).toInt = 3)) g_23 hx5 rfl rfl ?_
  intro m_23 H_23
  cases h
  exact r_rv hq (z_at.mk 1 rfl rfl) rfl rfl H_23
def g_m_copies (a0 : Nat) (a2 : Nat) (x1 : Int) (x3 : Int) (σ : zS) : Option (Unit × zS) :=
  if 0 ≤ x1 ∧ x1 < zLI a0 then
  let v_4 := σ a0 x1
  if 0 ≤ w32 (x1 + 1) ∧ w32 (x1 + 1) < zLI a0 then
  let v_9 := σ a0 (w32 (x1 + 1))
  if 0 ≤ w32 (x1 + 2) ∧ w32 (x1 + 2) < zLI a0 then
  let v_14 := σ a0 (w32 (x1 + 2))
  if 0 ≤ w32 (x1 + 3) ∧ w32 (x1 + 3) < zLI a0 then
  let v_19 := σ a0 (w32 (x1 + 3))
  (g_m_sets a2 x3 v_4 v_9 v_14 v_19 σ).bind fun o_20 =>
  some ((), o_20.2)
  else none
  else none
  else none
  else none
set_option maxHeartbeats 4000000 in
theorem g_m_copies_ok {xl : Nat} {xs : Nat → Int32} {a0 : Nat} (ha0 : zIn [144, 150, 151, 152, 153, 156, 157, 161, 164, 165] a0 = true) {a2 : Nat} (ha2 : zIn [144, 150, 151, 152, 153, 156, 157, 161, 164, 165] a2 = true) {X1 : Int32} {x1 : Int} (hx1 : X1.toInt = x1) {X3 : Int32} {x3 : Int} (hx3 : X3.toInt = x3) {σ : zS} {p : Nat} {m : zM} {o : Unit × zS} (H : zRep xl xs p m σ) (h : g_m_copies a0 a2 x1 x3 σ = some o) : zGo xl xs (fun p' => p = p') 2 166 0 (z_can 166 0 (lv_args 0 [.ref a0, .int X1, .ref a2, .int X3])) [] m vV o.2 := by
  have hq : z_mth 166 = some z_r166 := rfl
  unfold g_m_copies at h
  show zGo xl xs (fun p' => p = p') 2 166 0 [(0, .ref a0), (1, .int X1), (2, .ref a2), (3, .int X3)] [] m vV o.2
  refine r_p hq 4 (pc' := 4) (L' := [(0, .ref a0), (1, .int X1), (2, .ref a2), (3, .int X3)]) (st' := [.int X1, .ref a0, .int X3, .ref a2]) rfl ?_
  obtain ⟨g_4, h⟩ := z_ifo_some h
  refine r_ia (pc' := 5) (L' := [(0, .ref a0), (1, .int X1), (2, .ref a2), (3, .int X3)]) H hq (z_at.mk 1 rfl rfl) (zIn_all (l := [144, 150, 151, 152, 153, 156, 157, 161, 164, 165]) (p := fun a => zAr a 0 (zLI a)) rfl ha0) hx1 g_4 rfl rfl ?_
  intro V_4 hV_4
  refine r_p hq 4 (pc' := 9) (L' := [(0, .ref a0), (1, .int X1), (2, .ref a2), (3, .int X3)]) (st' := [.int (X1 + ((1 : Int32))), .ref a0, .int V_4, .int X3, .ref a2]) rfl ?_
  obtain ⟨g_9, h⟩ := z_ifo_some h
  refine r_ia (pc' := 10) (L' := [(0, .ref a0), (1, .int X1), (2, .ref a2), (3, .int X3)]) H hq (z_at.mk 1 rfl rfl) (zIn_all (l := [144, 150, 151, 152, 153, 156, 157, 161, 164, 165]) (p := fun a => zAr a 0 (zLI a)) rfl ha0) (tx_iadd hx1 (rfl : (1 : Int32).toInt = 1)) g_9 rfl rfl ?_
  intro V_9 hV_9
  refine r_p hq 4 (pc' := 14) (L' := [(0, .ref a0), (1, .int X1), (2, .ref a2), (3, .int X3)]) (st' := [.int (X1 + ((2 : Int32))), .ref a0, .int V_9, .int V_4, .int X3, .ref a2]) rfl ?_
  obtain ⟨g_14, h⟩ := z_ifo_some h
  refine r_ia (pc' := 15) (L' := [(0, .ref a0), (1, .int X1), (2, .ref a2), (3, .int X3)]) H hq (z_at.mk 1 rfl rfl) (zIn_all (l := [144, 150, 151, 152, 153, 156, 157, 161, 164, 165]) (p := fun a => zAr a 0 (zLI a)) rfl ha0) (tx_iadd hx1 (rfl : (2 : Int32).toInt = 2)) g_14 rfl rfl ?_
  intro V_14 hV_14
  refine r_p hq 4 (pc' := 19) (L' := [(0, .ref a0), (1, .int X1), (2, .ref a2), (3, .int X3)]) (st' := [.int (X1 + ((3 : Int32))), .ref a0, .int V_14, .int V_9, .int V_4, .int X3, .ref a2]) rfl ?_
  obtain ⟨g_19, h⟩ := z_ifo_some h
  refine r_ia (pc' := 20) (L' := [(0, .ref a0), (1, .int X1), (2, .ref a2), (3, .int X3)]) H hq (z_at.mk 1 rfl rfl) (zIn_all (l := [144, 150, 151, 152, 153, 156, 157, 161, 164, 165]) (p := fun a => zAr a 0 (zLI a)) rfl ha0) (tx_iadd hx1 (rfl : (3 : Int32).toInt = 3)) g_19 rfl rfl ?_
  intro V_19 hV_19
  obtain ⟨o_20, h_20, h⟩ := Option.bind_eq_some_iff.mp h
  refine r_csV (pc' := 23) (L' := [(0, .ref a0), (1, .int X1), (2, .ref a2), (3, .int X3)]) (As := [.ref a2, .int X3, .int V_4, .int V_9, .int V_14, .int V_19]) (rest := []) (j := 165) hq (z_at.mk 3 rfl rfl) (Or.inl ⟨rfl, rfl⟩) rfl rfl (by omega) (g_m_sets_ok (zIn_all (l := [144, 150, 151, 152, 153, 156, 157, 161, 164, 165]) (p := fun a => zIn [144, 150, 151, 152, 153, 156, 157, 161, 164, 165] a) rfl ha2) hx3 hV_4 hV_9 hV_14 hV_19 H h_20) rfl rfl ?_
  intro m_20 p_20 e_20 H_20
  subst e_20
  cases h
  exact r_rv hq (z_at.mk 1 rfl rfl) rfl rfl H_20
def g_m_area (a0 : Nat) (x1 : Int) (σ : zS) : Option (Int × zS) :=
  if 0 ≤ w32 (x1 + 1) ∧ w32 (x1 + 1) < zLI a0 then
  let v_4 := σ a0 (w32 (x1 + 1))
  if 0 ≤ x1 ∧ x1 < zLI a0 then
  let v_7 := σ a0 x1
  if 0 ≤ w32 (x1 + 3) ∧ w32 (x1 + 3) < zLI a0 then
  let v_15 := σ a0 (w32 (x1 + 3))
  if 0 ≤ w32 (x1 + 2) ∧ w32 (x1 + 2) < zLI a0 then
  let v_20 := σ a0 (w32 (x1 + 2))
  some (w32 ((w32 ((w32 (v_4 - v_7)) + 1)) * (w32 ((w32 (v_15 - v_20)) + 1))), σ)
  else none
  else none
  else none
  else none
set_option maxHeartbeats 4000000 in
theorem g_m_area_ok {xl : Nat} {xs : Nat → Int32} {a0 : Nat} (ha0 : zIn [144, 150, 151, 152, 153, 156, 157, 161, 164, 165] a0 = true) {X1 : Int32} {x1 : Int} (hx1 : X1.toInt = x1) {σ : zS} {p : Nat} {m : zM} {o : Int × zS} (H : zRep xl xs p m σ) (h : g_m_area a0 x1 σ = some o) : zGo xl xs (fun p' => p = p') 1 167 0 (z_can 167 0 (lv_args 0 [.ref a0, .int X1])) [] m (vI o.1) o.2 := by
  have hq : z_mth 167 = some z_r167 := rfl
  unfold g_m_area at h
  show zGo xl xs (fun p' => p = p') 1 167 0 [(0, .ref a0), (1, .int X1)] [] m (vI o.1) o.2
  refine r_p hq 4 (pc' := 4) (L' := [(0, .ref a0), (1, .int X1)]) (st' := [.int (X1 + ((1 : Int32))), .ref a0]) rfl ?_
  obtain ⟨g_4, h⟩ := z_ifo_some h
  refine r_ia (pc' := 5) (L' := [(0, .ref a0), (1, .int X1)]) H hq (z_at.mk 1 rfl rfl) (zIn_all (l := [144, 150, 151, 152, 153, 156, 157, 161, 164, 165]) (p := fun a => zAr a 0 (zLI a)) rfl ha0) (tx_iadd hx1 (rfl : (1 : Int32).toInt = 1)) g_4 rfl rfl ?_
  intro V_4 hV_4
  refine r_p hq 2 (pc' := 7) (L' := [(0, .ref a0), (1, .int X1)]) (st' := [.int X1, .ref a0, .int V_4]) rfl ?_
  obtain ⟨g_7, h⟩ := z_ifo_some h
  refine r_ia (pc' := 8) (L' := [(0, .ref a0), (1, .int X1)]) H hq (z_at.mk 1 rfl rfl) (zIn_all (l := [144, 150, 151, 152, 153, 156, 157, 161, 164, 165]) (p := fun a => zAr a 0 (zLI a)) rfl ha0) hx1 g_7 rfl rfl ?_
  intro V_7 hV_7
  refine r_p hq 7 (pc' := 15) (L' := [(0, .ref a0), (1, .int X1)]) (st' := [.int (X1 + ((3 : Int32))), .ref a0, .int ((V_4 - V_7) + ((1 : Int32)))]) rfl ?_
  obtain ⟨g_15, h⟩ := z_ifo_some h
  refine r_ia (pc' := 16) (L' := [(0, .ref a0), (1, .int X1)]) H hq (z_at.mk 1 rfl rfl) (zIn_all (l := [144, 150, 151, 152, 153, 156, 157, 161, 164, 165]) (p := fun a => zAr a 0 (zLI a)) rfl ha0) (tx_iadd hx1 (rfl : (3 : Int32).toInt = 3)) g_15 rfl rfl ?_
  intro V_15 hV_15
  refine r_p hq 4 (pc' := 20) (L' := [(0, .ref a0), (1, .int X1)]) (st' := [.int (X1 + ((2 : Int32))), .ref a0, .int V_15, .int ((V_4 - V_7) + ((1 : Int32)))]) rfl ?_
  obtain ⟨g_20, h⟩ := z_ifo_some h
  refine r_ia (pc' := 21) (L' := [(0, .ref a0), (1, .int X1)]) H hq (z_at.mk 1 rfl rfl) (zIn_all (l := [144, 150, 151, 152, 153, 156, 157, 161, 164, 165]) (p := fun a => zAr a 0 (zLI a)) rfl ha0) (tx_iadd hx1 (rfl : (2 : Int32).toInt = 2)) g_20 rfl rfl ?_
  intro V_20 hV_20
  refine r_p hq 4 (pc' := 25) (L' := [(0, .ref a0), (1, .int X1)]) (st' := [.int (((V_4 - V_7) + ((1 : Int32))) * ((V_15 - V_20) + ((1 : Int32))))]) rfl ?_
  cases h
  exact r_ri hq (z_at.mk 1 rfl rfl) rfl rfl (tx_imul (tx_iadd (tx_isub hV_4 hV_7) (rfl : (1 : Int32).toInt = 1)) (tx_iadd (tx_isub hV_15 hV_20) (rfl : (1 : Int32).toInt = 1))) rfl H
def g_m_has (a0 : Nat) (x1 : Int) (x2 : Int) (x3 : Int) (σ : zS) : Option (Int × zS) :=
  if 0 ≤ x1 ∧ x1 < zLI a0 then
  let v_3 := σ a0 x1
  if 0 ≤ w32 (x1 + 1) ∧ w32 (x1 + 1) < zLI a0 then
  let v_8 := σ a0 (w32 (x1 + 1))
  (g_m_isIn x2 v_3 v_8 σ).bind fun o_9 =>
  if o_9.1 = 0 then
    some (0, o_9.2)
  else
    if 0 ≤ w32 (x1 + 2) ∧ w32 (x1 + 2) < zLI a0 then
    let v_20 := o_9.2 a0 (w32 (x1 + 2))
    if 0 ≤ w32 (x1 + 3) ∧ w32 (x1 + 3) < zLI a0 then
    let v_25 := o_9.2 a0 (w32 (x1 + 3))
    (g_m_isIn x3 v_20 v_25 o_9.2).bind fun o_26 =>
    if o_26.1 = 0 then
      some (0, o_26.2)
    else
      some (1, o_26.2)
    else none
    else none
  else none
  else none
set_option maxHeartbeats 4000000 in
theorem g_m_has_ok {xl : Nat} {xs : Nat → Int32} {a0 : Nat} (ha0 : zIn [144, 150, 151, 152, 153, 156, 157, 161, 164, 165] a0 = true) {X1 : Int32} {x1 : Int} (hx1 : X1.toInt = x1) {X2 : Int32} {x2 : Int} (hx2 : X2.toInt = x2) {X3 : Int32} {x3 : Int} (hx3 : X3.toInt = x3) {σ : zS} {p : Nat} {m : zM} {o : Int × zS} (H : zRep xl xs p m σ) (h : g_m_has a0 x1 x2 x3 σ = some o) : zGo xl xs (fun p' => p = p') 2 168 0 (z_can 168 0 (lv_args 0 [.ref a0, .int X1, .int X2, .int X3])) [] m (vI o.1) o.2 := by
  have hq : z_mth 168 = some z_r168 := rfl
  unfold g_m_has at h
  show zGo xl xs (fun p' => p = p') 2 168 0 [(0, .ref a0), (1, .int X1), (2, .int X2), (3, .int X3)] [] m (vI o.1) o.2
  refine r_p hq 3 (pc' := 3) (L' := [(0, .ref a0), (1, .int X1), (2, .int X2), (3, .int X3)]) (st' := [.int X1, .ref a0, .int X2]) rfl ?_
  obtain ⟨g_3, h⟩ := z_ifo_some h
  refine r_ia (pc' := 4) (L' := [(0, .ref a0), (1, .int X1), (2, .int X2), (3, .int X3)]) H hq (z_at.mk 1 rfl rfl) (zIn_all (l := [144, 150, 151, 152, 153, 156, 157, 161, 164, 165]) (p := fun a => zAr a 0 (zLI a)) rfl ha0) hx1 g_3 rfl rfl ?_
  intro V_3 hV_3
  refine r_p hq 4 (pc' := 8) (L' := [(0, .ref a0), (1, .int X1), (2, .int X2), (3, .int X3)]) (st' := [.int (X1 + ((1 : Int32))), .ref a0, .int V_3, .int X2]) rfl ?_
  obtain ⟨g_8, h⟩ := z_ifo_some h
  refine r_ia (pc' := 9) (L' := [(0, .ref a0), (1, .int X1), (2, .int X2), (3, .int X3)]) H hq (z_at.mk 1 rfl rfl) (zIn_all (l := [144, 150, 151, 152, 153, 156, 157, 161, 164, 165]) (p := fun a => zAr a 0 (zLI a)) rfl ha0) (tx_iadd hx1 (rfl : (1 : Int32).toInt = 1)) g_8 rfl rfl ?_
  intro V_8 hV_8
  obtain ⟨o_9, h_9, h⟩ := Option.bind_eq_some_iff.mp h
  refine r_csI (pc' := 12) (L' := [(0, .ref a0), (1, .int X1), (2, .int X2), (3, .int X3)]) (As := [.int X2, .int V_3, .int V_8]) (rest := []) (j := 159) hq (z_at.mk 3 rfl rfl) (Or.inl ⟨rfl, rfl⟩) rfl rfl (by omega) (g_m_isIn_ok hx2 hV_3 hV_8 H h_9) rfl rfl ?_
  intro R_9 m_9 p_9 e_9 hR_9 H_9
  subst e_9
  rcases z_ite h with ⟨c_12, h⟩ | ⟨c_12, h⟩
  · refine r_t1 (pc' := 36) (L' := []) hq (z_at.mk 3 rfl rfl) rfl hR_9 c_12 rfl rfl ?_
    refine r_p hq 1 (pc' := 37) (L' := []) (st' := [.int ((0 : Int32))]) rfl ?_
    cases h
    exact r_ri hq (z_at.mk 1 rfl rfl) rfl rfl (rfl : (0 : Int32).toInt = 0) rfl H_9
  · refine r_f1 (pc' := 15) (L' := [(0, .ref a0), (1, .int X1), (2, .int X2), (3, .int X3)]) hq (z_at.mk 3 rfl rfl) rfl hR_9 c_12 rfl rfl ?_
    refine r_p hq 5 (pc' := 20) (L' := [(0, .ref a0), (1, .int X1), (2, .int X2), (3, .int X3)]) (st' := [.int (X1 + ((2 : Int32))), .ref a0, .int X3]) rfl ?_
    obtain ⟨g_20, h⟩ := z_ifo_some h
    refine r_ia (pc' := 21) (L' := [(0, .ref a0), (1, .int X1), (2, .int X2), (3, .int X3)]) H_9 hq (z_at.mk 1 rfl rfl) (zIn_all (l := [144, 150, 151, 152, 153, 156, 157, 161, 164, 165]) (p := fun a => zAr a 0 (zLI a)) rfl ha0) (tx_iadd hx1 (rfl : (2 : Int32).toInt = 2)) g_20 rfl rfl ?_
    intro V_20 hV_20
    refine r_p hq 4 (pc' := 25) (L' := [(0, .ref a0), (1, .int X1), (2, .int X2), (3, .int X3)]) (st' := [.int (X1 + ((3 : Int32))), .ref a0, .int V_20, .int X3]) rfl ?_
    obtain ⟨g_25, h⟩ := z_ifo_some h
    refine r_ia (pc' := 26) (L' := [(0, .ref a0), (1, .int X1), (2, .int X2), (3, .int X3)]) H_9 hq (z_at.mk 1 rfl rfl) (zIn_all (l := [144, 150, 151, 152, 153, 156, 157, 161, 164, 165]) (p := fun a => zAr a 0 (zLI a)) rfl ha0) (tx_iadd hx1 (rfl : (3 : Int32).toInt = 3)) g_25 rfl rfl ?_
    intro V_25 hV_25
    obtain ⟨o_26, h_26, h⟩ := Option.bind_eq_some_iff.mp h
    refine r_csI (pc' := 29) (L' := [(0, .ref a0), (1, .int X1), (2, .int X2), (3, .int X3)]) (As := [.int X3, .int V_20, .int V_25]) (rest := []) (j := 159) hq (z_at.mk 3 rfl rfl) (Or.inl ⟨rfl, rfl⟩) rfl rfl (by omega) (g_m_isIn_ok hx3 hV_20 hV_25 H_9 h_26) rfl rfl ?_
    intro R_26 m_26 p_26 e_26 hR_26 H_26
    subst e_26
    rcases z_ite h with ⟨c_29, h⟩ | ⟨c_29, h⟩
    · refine r_t1 (pc' := 36) (L' := []) hq (z_at.mk 3 rfl rfl) rfl hR_26 c_29 rfl rfl ?_
      refine r_p hq 1 (pc' := 37) (L' := []) (st' := [.int ((0 : Int32))]) rfl ?_
      cases h
      exact r_ri hq (z_at.mk 1 rfl rfl) rfl rfl (rfl : (0 : Int32).toInt = 0) rfl H_26
    · refine r_f1 (pc' := 32) (L' := [(0, .ref a0), (1, .int X1), (2, .int X2), (3, .int X3)]) hq (z_at.mk 3 rfl rfl) rfl hR_26 c_29 rfl rfl ?_
      refine r_p hq 2 (pc' := 37) (L' := []) (st' := [.int ((1 : Int32))]) rfl ?_
      cases h
      exact r_ri hq (z_at.mk 1 rfl rfl) rfl rfl (rfl : (1 : Int32).toInt = 1) rfl H_26
def g_m_doMeet (a0 : Nat) (a2 : Nat) (x1 : Int) (x3 : Int) (σ : zS) : Option (Int × zS) :=
  if 0 ≤ x1 ∧ x1 < zLI a0 then
  let v_2 := σ a0 x1
  if 0 ≤ w32 (x3 + 1) ∧ w32 (x3 + 1) < zLI a2 then
  let v_7 := σ a2 (w32 (x3 + 1))
  if v_7 < v_2 then
    some (0, σ)
  else
    if 0 ≤ x3 ∧ x3 < zLI a2 then
    let v_13 := σ a2 x3
    if 0 ≤ w32 (x1 + 1) ∧ w32 (x1 + 1) < zLI a0 then
    let v_18 := σ a0 (w32 (x1 + 1))
    if v_18 < v_13 then
      some (0, σ)
    else
      if 0 ≤ w32 (x1 + 2) ∧ w32 (x1 + 2) < zLI a0 then
      let v_26 := σ a0 (w32 (x1 + 2))
      if 0 ≤ w32 (x3 + 3) ∧ w32 (x3 + 3) < zLI a2 then
      let v_31 := σ a2 (w32 (x3 + 3))
      if v_31 < v_26 then
        some (0, σ)
      else
        if 0 ≤ w32 (x3 + 2) ∧ w32 (x3 + 2) < zLI a2 then
        let v_39 := σ a2 (w32 (x3 + 2))
        if 0 ≤ w32 (x1 + 3) ∧ w32 (x1 + 3) < zLI a0 then
        let v_44 := σ a0 (w32 (x1 + 3))
        if v_44 < v_39 then
          some (0, σ)
        else
          some (1, σ)
        else none
        else none
      else none
      else none
    else none
    else none
  else none
  else none
set_option maxHeartbeats 4000000 in
theorem g_m_doMeet_ok {xl : Nat} {xs : Nat → Int32} {a0 : Nat} (ha0 : zIn [144, 150, 151, 152, 153, 156, 157, 161, 164, 165] a0 = true) {a2 : Nat} (ha2 : zIn [144, 150, 151, 152, 153, 156, 157, 161, 164, 165] a2 = true) {X1 : Int32} {x1 : Int} (hx1 : X1.toInt = x1) {X3 : Int32} {x3 : Int} (hx3 : X3.toInt = x3) {σ : zS} {p : Nat} {m : zM} {o : Int × zS} (H : zRep xl xs p m σ) (h : g_m_doMeet a0 a2 x1 x3 σ = some o) : zGo xl xs (fun p' => p = p') 1 169 0 (z_can 169 0 (lv_args 0 [.ref a0, .int X1, .ref a2, .int X3])) [] m (vI o.1) o.2 := by
  have hq : z_mth 169 = some z_r169 := rfl
  unfold g_m_doMeet at h
  show zGo xl xs (fun p' => p = p') 1 169 0 [(0, .ref a0), (1, .int X1), (2, .ref a2), (3, .int X3)] [] m (vI o.1) o.2
  refine r_p hq 2 (pc' := 2) (L' := [(0, .ref a0), (1, .int X1), (2, .ref a2), (3, .int X3)]) (st' := [.int X1, .ref a0]) rfl ?_
  obtain ⟨g_2, h⟩ := z_ifo_some h
  refine r_ia (pc' := 3) (L' := [(0, .ref a0), (1, .int X1), (2, .ref a2), (3, .int X3)]) H hq (z_at.mk 1 rfl rfl) (zIn_all (l := [144, 150, 151, 152, 153, 156, 157, 161, 164, 165]) (p := fun a => zAr a 0 (zLI a)) rfl ha0) hx1 g_2 rfl rfl ?_
  intro V_2 hV_2
  refine r_p hq 4 (pc' := 7) (L' := [(0, .ref a0), (1, .int X1), (2, .ref a2), (3, .int X3)]) (st' := [.int (X3 + ((1 : Int32))), .ref a2, .int V_2]) rfl ?_
  obtain ⟨g_7, h⟩ := z_ifo_some h
  refine r_ia (pc' := 8) (L' := [(0, .ref a0), (1, .int X1), (2, .ref a2), (3, .int X3)]) H hq (z_at.mk 1 rfl rfl) (zIn_all (l := [144, 150, 151, 152, 153, 156, 157, 161, 164, 165]) (p := fun a => zAr a 0 (zLI a)) rfl ha2) (tx_iadd hx3 (rfl : (1 : Int32).toInt = 1)) g_7 rfl rfl ?_
  intro V_7 hV_7
  rcases z_ite h with ⟨c_8, h⟩ | ⟨c_8, h⟩
  · refine r_t2 (pc' := 52) (L' := []) hq (z_at.mk 3 rfl rfl) rfl hV_2 hV_7 c_8 rfl rfl ?_
    refine r_p hq 1 (pc' := 53) (L' := []) (st' := [.int ((0 : Int32))]) rfl ?_
    cases h
    exact r_ri hq (z_at.mk 1 rfl rfl) rfl rfl (rfl : (0 : Int32).toInt = 0) rfl H
  · refine r_f2 (pc' := 11) (L' := [(0, .ref a0), (1, .int X1), (2, .ref a2), (3, .int X3)]) hq (z_at.mk 3 rfl rfl) rfl hV_2 hV_7 c_8 rfl rfl ?_
    refine r_p hq 2 (pc' := 13) (L' := [(0, .ref a0), (1, .int X1), (2, .ref a2), (3, .int X3)]) (st' := [.int X3, .ref a2]) rfl ?_
    obtain ⟨g_13, h⟩ := z_ifo_some h
    refine r_ia (pc' := 14) (L' := [(0, .ref a0), (1, .int X1), (2, .ref a2), (3, .int X3)]) H hq (z_at.mk 1 rfl rfl) (zIn_all (l := [144, 150, 151, 152, 153, 156, 157, 161, 164, 165]) (p := fun a => zAr a 0 (zLI a)) rfl ha2) hx3 g_13 rfl rfl ?_
    intro V_13 hV_13
    refine r_p hq 4 (pc' := 18) (L' := [(0, .ref a0), (1, .int X1), (2, .ref a2), (3, .int X3)]) (st' := [.int (X1 + ((1 : Int32))), .ref a0, .int V_13]) rfl ?_
    obtain ⟨g_18, h⟩ := z_ifo_some h
    refine r_ia (pc' := 19) (L' := [(0, .ref a0), (1, .int X1), (2, .ref a2), (3, .int X3)]) H hq (z_at.mk 1 rfl rfl) (zIn_all (l := [144, 150, 151, 152, 153, 156, 157, 161, 164, 165]) (p := fun a => zAr a 0 (zLI a)) rfl ha0) (tx_iadd hx1 (rfl : (1 : Int32).toInt = 1)) g_18 rfl rfl ?_
    intro V_18 hV_18
    rcases z_ite h with ⟨c_19, h⟩ | ⟨c_19, h⟩
    · refine r_t2 (pc' := 52) (L' := []) hq (z_at.mk 3 rfl rfl) rfl hV_13 hV_18 c_19 rfl rfl ?_
      refine r_p hq 1 (pc' := 53) (L' := []) (st' := [.int ((0 : Int32))]) rfl ?_
      cases h
      exact r_ri hq (z_at.mk 1 rfl rfl) rfl rfl (rfl : (0 : Int32).toInt = 0) rfl H
    · refine r_f2 (pc' := 22) (L' := [(0, .ref a0), (1, .int X1), (2, .ref a2), (3, .int X3)]) hq (z_at.mk 3 rfl rfl) rfl hV_13 hV_18 c_19 rfl rfl ?_
      refine r_p hq 4 (pc' := 26) (L' := [(0, .ref a0), (1, .int X1), (2, .ref a2), (3, .int X3)]) (st' := [.int (X1 + ((2 : Int32))), .ref a0]) rfl ?_
      obtain ⟨g_26, h⟩ := z_ifo_some h
      refine r_ia (pc' := 27) (L' := [(0, .ref a0), (1, .int X1), (2, .ref a2), (3, .int X3)]) H hq (z_at.mk 1 rfl rfl) (zIn_all (l := [144, 150, 151, 152, 153, 156, 157, 161, 164, 165]) (p := fun a => zAr a 0 (zLI a)) rfl ha0) (tx_iadd hx1 (rfl : (2 : Int32).toInt = 2)) g_26 rfl rfl ?_
      intro V_26 hV_26
      refine r_p hq 4 (pc' := 31) (L' := [(0, .ref a0), (1, .int X1), (2, .ref a2), (3, .int X3)]) (st' := [.int (X3 + ((3 : Int32))), .ref a2, .int V_26]) rfl ?_
      obtain ⟨g_31, h⟩ := z_ifo_some h
      refine r_ia (pc' := 32) (L' := [(0, .ref a0), (1, .int X1), (2, .ref a2), (3, .int X3)]) H hq (z_at.mk 1 rfl rfl) (zIn_all (l := [144, 150, 151, 152, 153, 156, 157, 161, 164, 165]) (p := fun a => zAr a 0 (zLI a)) rfl ha2) (tx_iadd hx3 (rfl : (3 : Int32).toInt = 3)) g_31 rfl rfl ?_
      intro V_31 hV_31
      rcases z_ite h with ⟨c_32, h⟩ | ⟨c_32, h⟩
      · refine r_t2 (pc' := 52) (L' := []) hq (z_at.mk 3 rfl rfl) rfl hV_26 hV_31 c_32 rfl rfl ?_
        refine r_p hq 1 (pc' := 53) (L' := []) (st' := [.int ((0 : Int32))]) rfl ?_
        cases h
        exact r_ri hq (z_at.mk 1 rfl rfl) rfl rfl (rfl : (0 : Int32).toInt = 0) rfl H
      · refine r_f2 (pc' := 35) (L' := [(0, .ref a0), (1, .int X1), (2, .ref a2), (3, .int X3)]) hq (z_at.mk 3 rfl rfl) rfl hV_26 hV_31 c_32 rfl rfl ?_
        refine r_p hq 4 (pc' := 39) (L' := [(0, .ref a0), (1, .int X1), (2, .ref a2), (3, .int X3)]) (st' := [.int (X3 + ((2 : Int32))), .ref a2]) rfl ?_
        obtain ⟨g_39, h⟩ := z_ifo_some h
        refine r_ia (pc' := 40) (L' := [(0, .ref a0), (1, .int X1), (2, .ref a2), (3, .int X3)]) H hq (z_at.mk 1 rfl rfl) (zIn_all (l := [144, 150, 151, 152, 153, 156, 157, 161, 164, 165]) (p := fun a => zAr a 0 (zLI a)) rfl ha2) (tx_iadd hx3 (rfl : (2 : Int32).toInt = 2)) g_39 rfl rfl ?_
        intro V_39 hV_39
        refine r_p hq 4 (pc' := 44) (L' := [(0, .ref a0), (1, .int X1), (2, .ref a2), (3, .int X3)]) (st' := [.int (X1 + ((3 : Int32))), .ref a0, .int V_39]) rfl ?_
        obtain ⟨g_44, h⟩ := z_ifo_some h
        refine r_ia (pc' := 45) (L' := [(0, .ref a0), (1, .int X1), (2, .ref a2), (3, .int X3)]) H hq (z_at.mk 1 rfl rfl) (zIn_all (l := [144, 150, 151, 152, 153, 156, 157, 161, 164, 165]) (p := fun a => zAr a 0 (zLI a)) rfl ha0) (tx_iadd hx1 (rfl : (3 : Int32).toInt = 3)) g_44 rfl rfl ?_
        intro V_44 hV_44
        rcases z_ite h with ⟨c_45, h⟩ | ⟨c_45, h⟩
        · refine r_t2 (pc' := 52) (L' := []) hq (z_at.mk 3 rfl rfl) rfl hV_39 hV_44 c_45 rfl rfl ?_
          refine r_p hq 1 (pc' := 53) (L' := []) (st' := [.int ((0 : Int32))]) rfl ?_
          cases h
          exact r_ri hq (z_at.mk 1 rfl rfl) rfl rfl (rfl : (0 : Int32).toInt = 0) rfl H
        · refine r_f2 (pc' := 48) (L' := [(0, .ref a0), (1, .int X1), (2, .ref a2), (3, .int X3)]) hq (z_at.mk 3 rfl rfl) rfl hV_39 hV_44 c_45 rfl rfl ?_
          refine r_p hq 2 (pc' := 53) (L' := []) (st' := [.int ((1 : Int32))]) rfl ?_
          cases h
          exact r_ri hq (z_at.mk 1 rfl rfl) rfl rfl (rfl : (1 : Int32).toInt = 1) rfl H
def g_m_commons (a0 : Nat) (a2 : Nat) (a4 : Nat) (x1 : Int) (x3 : Int) (x5 : Int) (σ : zS) : Option (Unit × zS) :=
  if 0 ≤ x1 ∧ x1 < zLI a0 then
  let v_6 := σ a0 x1
  if 0 ≤ x3 ∧ x3 < zLI a2 then
  let v_9 := σ a2 x3
  (g_m_more v_6 v_9 σ).bind fun o_10 =>
  if 0 ≤ w32 (x1 + 1) ∧ w32 (x1 + 1) < zLI a0 then
  let v_17 := o_10.2 a0 (w32 (x1 + 1))
  if 0 ≤ w32 (x3 + 1) ∧ w32 (x3 + 1) < zLI a2 then
  let v_22 := o_10.2 a2 (w32 (x3 + 1))
  (g_m_less v_17 v_22 o_10.2).bind fun o_23 =>
  if 0 ≤ w32 (x1 + 2) ∧ w32 (x1 + 2) < zLI a0 then
  let v_30 := o_23.2 a0 (w32 (x1 + 2))
  if 0 ≤ w32 (x3 + 2) ∧ w32 (x3 + 2) < zLI a2 then
  let v_35 := o_23.2 a2 (w32 (x3 + 2))
  (g_m_more v_30 v_35 o_23.2).bind fun o_36 =>
  if 0 ≤ w32 (x1 + 3) ∧ w32 (x1 + 3) < zLI a0 then
  let v_43 := o_36.2 a0 (w32 (x1 + 3))
  if 0 ≤ w32 (x3 + 3) ∧ w32 (x3 + 3) < zLI a2 then
  let v_48 := o_36.2 a2 (w32 (x3 + 3))
  (g_m_less v_43 v_48 o_36.2).bind fun o_49 =>
  (g_m_sets a4 x5 o_10.1 o_23.1 o_36.1 o_49.1 o_49.2).bind fun o_52 =>
  some ((), o_52.2)
  else none
  else none
  else none
  else none
  else none
  else none
  else none
  else none
set_option maxHeartbeats 4000000 in
theorem g_m_commons_ok {xl : Nat} {xs : Nat → Int32} {a0 : Nat} (ha0 : zIn [144, 150, 151, 152, 153, 156, 157, 161, 164, 165] a0 = true) {a2 : Nat} (ha2 : zIn [144, 150, 151, 152, 153, 156, 157, 161, 164, 165] a2 = true) {a4 : Nat} (ha4 : zIn [144, 150, 151, 152, 153, 156, 157, 161, 164, 165] a4 = true) {X1 : Int32} {x1 : Int} (hx1 : X1.toInt = x1) {X3 : Int32} {x3 : Int} (hx3 : X3.toInt = x3) {X5 : Int32} {x5 : Int} (hx5 : X5.toInt = x5) {σ : zS} {p : Nat} {m : zM} {o : Unit × zS} (H : zRep xl xs p m σ) (h : g_m_commons a0 a2 a4 x1 x3 x5 σ = some o) : zGo xl xs (fun p' => p = p') 2 170 0 (z_can 170 0 (lv_args 0 [.ref a0, .int X1, .ref a2, .int X3, .ref a4, .int X5])) [] m vV o.2 := by
  have hq : z_mth 170 = some z_r170 := rfl
  unfold g_m_commons at h
  show zGo xl xs (fun p' => p = p') 2 170 0 [(0, .ref a0), (1, .int X1), (2, .ref a2), (3, .int X3), (4, .ref a4), (5, .int X5)] [] m vV o.2
  refine r_p hq 4 (pc' := 6) (L' := [(0, .ref a0), (1, .int X1), (2, .ref a2), (3, .int X3), (4, .ref a4), (5, .int X5)]) (st' := [.int X1, .ref a0, .int X5, .ref a4]) rfl ?_
  obtain ⟨g_6, h⟩ := z_ifo_some h
  refine r_ia (pc' := 7) (L' := [(0, .ref a0), (1, .int X1), (2, .ref a2), (3, .int X3), (4, .ref a4), (5, .int X5)]) H hq (z_at.mk 1 rfl rfl) (zIn_all (l := [144, 150, 151, 152, 153, 156, 157, 161, 164, 165]) (p := fun a => zAr a 0 (zLI a)) rfl ha0) hx1 g_6 rfl rfl ?_
  intro V_6 hV_6
  refine r_p hq 2 (pc' := 9) (L' := [(0, .ref a0), (1, .int X1), (2, .ref a2), (3, .int X3), (4, .ref a4), (5, .int X5)]) (st' := [.int X3, .ref a2, .int V_6, .int X5, .ref a4]) rfl ?_
  obtain ⟨g_9, h⟩ := z_ifo_some h
  refine r_ia (pc' := 10) (L' := [(0, .ref a0), (1, .int X1), (2, .ref a2), (3, .int X3), (4, .ref a4), (5, .int X5)]) H hq (z_at.mk 1 rfl rfl) (zIn_all (l := [144, 150, 151, 152, 153, 156, 157, 161, 164, 165]) (p := fun a => zAr a 0 (zLI a)) rfl ha2) hx3 g_9 rfl rfl ?_
  intro V_9 hV_9
  obtain ⟨o_10, h_10, h⟩ := Option.bind_eq_some_iff.mp h
  refine r_csI (pc' := 13) (L' := [(0, .ref a0), (1, .int X1), (2, .ref a2), (3, .int X3), (4, .ref a4), (5, .int X5)]) (As := [.int V_6, .int V_9]) (rest := [.int X5, .ref a4]) (j := 161) hq (z_at.mk 3 rfl rfl) (Or.inl ⟨rfl, rfl⟩) rfl rfl (by omega) (g_m_more_ok hV_6 hV_9 H h_10) rfl rfl ?_
  intro R_10 m_10 p_10 e_10 hR_10 H_10
  subst e_10
  refine r_p hq 4 (pc' := 17) (L' := [(0, .ref a0), (1, .int X1), (2, .ref a2), (3, .int X3), (4, .ref a4), (5, .int X5)]) (st' := [.int (X1 + ((1 : Int32))), .ref a0, .int R_10, .int X5, .ref a4]) rfl ?_
  obtain ⟨g_17, h⟩ := z_ifo_some h
  refine r_ia (pc' := 18) (L' := [(0, .ref a0), (1, .int X1), (2, .ref a2), (3, .int X3), (4, .ref a4), (5, .int X5)]) H_10 hq (z_at.mk 1 rfl rfl) (zIn_all (l := [144, 150, 151, 152, 153, 156, 157, 161, 164, 165]) (p := fun a => zAr a 0 (zLI a)) rfl ha0) (tx_iadd hx1 (rfl : (1 : Int32).toInt = 1)) g_17 rfl rfl ?_
  intro V_17 hV_17
  refine r_p hq 4 (pc' := 22) (L' := [(0, .ref a0), (1, .int X1), (2, .ref a2), (3, .int X3), (4, .ref a4), (5, .int X5)]) (st' := [.int (X3 + ((1 : Int32))), .ref a2, .int V_17, .int R_10, .int X5, .ref a4]) rfl ?_
  obtain ⟨g_22, h⟩ := z_ifo_some h
  refine r_ia (pc' := 23) (L' := [(0, .ref a0), (1, .int X1), (2, .ref a2), (3, .int X3), (4, .ref a4), (5, .int X5)]) H_10 hq (z_at.mk 1 rfl rfl) (zIn_all (l := [144, 150, 151, 152, 153, 156, 157, 161, 164, 165]) (p := fun a => zAr a 0 (zLI a)) rfl ha2) (tx_iadd hx3 (rfl : (1 : Int32).toInt = 1)) g_22 rfl rfl ?_
  intro V_22 hV_22
  obtain ⟨o_23, h_23, h⟩ := Option.bind_eq_some_iff.mp h
  refine r_csI (pc' := 26) (L' := [(0, .ref a0), (1, .int X1), (2, .ref a2), (3, .int X3), (4, .ref a4), (5, .int X5)]) (As := [.int V_17, .int V_22]) (rest := [.int R_10, .int X5, .ref a4]) (j := 160) hq (z_at.mk 3 rfl rfl) (Or.inl ⟨rfl, rfl⟩) rfl rfl (by omega) (g_m_less_ok hV_17 hV_22 H_10 h_23) rfl rfl ?_
  intro R_23 m_23 p_23 e_23 hR_23 H_23
  subst e_23
  refine r_p hq 4 (pc' := 30) (L' := [(0, .ref a0), (1, .int X1), (2, .ref a2), (3, .int X3), (4, .ref a4), (5, .int X5)]) (st' := [.int (X1 + ((2 : Int32))), .ref a0, .int R_23, .int R_10, .int X5, .ref a4]) rfl ?_
  obtain ⟨g_30, h⟩ := z_ifo_some h
  refine r_ia (pc' := 31) (L' := [(0, .ref a0), (1, .int X1), (2, .ref a2), (3, .int X3), (4, .ref a4), (5, .int X5)]) H_23 hq (z_at.mk 1 rfl rfl) (zIn_all (l := [144, 150, 151, 152, 153, 156, 157, 161, 164, 165]) (p := fun a => zAr a 0 (zLI a)) rfl ha0) (tx_iadd hx1 (rfl : (2 : Int32).toInt = 2)) g_30 rfl rfl ?_
  intro V_30 hV_30
  refine r_p hq 4 (pc' := 35) (L' := [(0, .ref a0), (1, .int X1), (2, .ref a2), (3, .int X3), (4, .ref a4), (5, .int X5)]) (st' := [.int (X3 + ((2 : Int32))), .ref a2, .int V_30, .int R_23, .int R_10, .int X5, .ref a4]) rfl ?_
  obtain ⟨g_35, h⟩ := z_ifo_some h
  refine r_ia (pc' := 36) (L' := [(0, .ref a0), (1, .int X1), (2, .ref a2), (3, .int X3), (4, .ref a4), (5, .int X5)]) H_23 hq (z_at.mk 1 rfl rfl) (zIn_all (l := [144, 150, 151, 152, 153, 156, 157, 161, 164, 165]) (p := fun a => zAr a 0 (zLI a)) rfl ha2) (tx_iadd hx3 (rfl : (2 : Int32).toInt = 2)) g_35 rfl rfl ?_
  intro V_35 hV_35
  obtain ⟨o_36, h_36, h⟩ := Option.bind_eq_some_iff.mp h
  refine r_csI (pc' := 39) (L' := [(0, .ref a0), (1, .int X1), (2, .ref a2), (3, .int X3), (4, .ref a4), (5, .int X5)]) (As := [.int V_30, .int V_35]) (rest := [.int R_23, .int R_10, .int X5, .ref a4]) (j := 161) hq (z_at.mk 3 rfl rfl) (Or.inl ⟨rfl, rfl⟩) rfl rfl (by omega) (g_m_more_ok hV_30 hV_35 H_23 h_36) rfl rfl ?_
  intro R_36 m_36 p_36 e_36 hR_36 H_36
  subst e_36
  refine r_p hq 4 (pc' := 43) (L' := [(0, .ref a0), (1, .int X1), (2, .ref a2), (3, .int X3), (4, .ref a4), (5, .int X5)]) (st' := [.int (X1 + ((3 : Int32))), .ref a0, .int R_36, .int R_23, .int R_10, .int X5, .ref a4]) rfl ?_
  obtain ⟨g_43, h⟩ := z_ifo_some h
  refine r_ia (pc' := 44) (L' := [(0, .ref a0), (1, .int X1), (2, .ref a2), (3, .int X3), (4, .ref a4), (5, .int X5)]) H_36 hq (z_at.mk 1 rfl rfl) (zIn_all (l := [144, 150, 151, 152, 153, 156, 157, 161, 164, 165]) (p := fun a => zAr a 0 (zLI a)) rfl ha0) (tx_iadd hx1 (rfl : (3 : Int32).toInt = 3)) g_43 rfl rfl ?_
  intro V_43 hV_43
  refine r_p hq 4 (pc' := 48) (L' := [(0, .ref a0), (1, .int X1), (2, .ref a2), (3, .int X3), (4, .ref a4), (5, .int X5)]) (st' := [.int (X3 + ((3 : Int32))), .ref a2, .int V_43, .int R_36, .int R_23, .int R_10, .int X5, .ref a4]) rfl ?_
  obtain ⟨g_48, h⟩ := z_ifo_some h
  refine r_ia (pc' := 49) (L' := [(0, .ref a0), (1, .int X1), (2, .ref a2), (3, .int X3), (4, .ref a4), (5, .int X5)]) H_36 hq (z_at.mk 1 rfl rfl) (zIn_all (l := [144, 150, 151, 152, 153, 156, 157, 161, 164, 165]) (p := fun a => zAr a 0 (zLI a)) rfl ha2) (tx_iadd hx3 (rfl : (3 : Int32).toInt = 3)) g_48 rfl rfl ?_
  intro V_48 hV_48
  obtain ⟨o_49, h_49, h⟩ := Option.bind_eq_some_iff.mp h
  refine r_csI (pc' := 52) (L' := [(0, .ref a0), (1, .int X1), (2, .ref a2), (3, .int X3), (4, .ref a4), (5, .int X5)]) (As := [.int V_43, .int V_48]) (rest := [.int R_36, .int R_23, .int R_10, .int X5, .ref a4]) (j := 160) hq (z_at.mk 3 rfl rfl) (Or.inl ⟨rfl, rfl⟩) rfl rfl (by omega) (g_m_less_ok hV_43 hV_48 H_36 h_49) rfl rfl ?_
  intro R_49 m_49 p_49 e_49 hR_49 H_49
  subst e_49
  obtain ⟨o_52, h_52, h⟩ := Option.bind_eq_some_iff.mp h
  refine r_csV (pc' := 55) (L' := [(0, .ref a0), (1, .int X1), (2, .ref a2), (3, .int X3), (4, .ref a4), (5, .int X5)]) (As := [.ref a4, .int X5, .int R_10, .int R_23, .int R_36, .int R_49]) (rest := []) (j := 165) hq (z_at.mk 3 rfl rfl) (Or.inl ⟨rfl, rfl⟩) rfl rfl (by omega) (g_m_sets_ok (zIn_all (l := [144, 150, 151, 152, 153, 156, 157, 161, 164, 165]) (p := fun a => zIn [144, 150, 151, 152, 153, 156, 157, 161, 164, 165] a) rfl ha4) hx5 hR_10 hR_23 hR_36 hR_49 H_49 h_52) rfl rfl ?_
  intro m_52 p_52 e_52 H_52
  subst e_52
  cases h
  exact r_rv hq (z_at.mk 1 rfl rfl) rfl rfl H_52
def g_m_arounds (a0 : Nat) (a2 : Nat) (x1 : Int) (x3 : Int) (σ : zS) : Option (Unit × zS) :=
  if 0 ≤ x1 ∧ x1 < zLI a0 then
  let v_2 := σ a0 x1
  if 0 ≤ v_2 then
    if 0 ≤ x1 ∧ x1 < zLI a0 then
    let v_20 := σ a0 x1
    if 0 ≤ x3 ∧ x3 < zLI a2 then
    let v_23 := σ a2 x3
    (g_m_less v_20 v_23 σ).bind fun o_24 =>
    if 0 ≤ w32 (x1 + 1) ∧ w32 (x1 + 1) < zLI a0 then
    let v_31 := o_24.2 a0 (w32 (x1 + 1))
    if 0 ≤ w32 (x3 + 1) ∧ w32 (x3 + 1) < zLI a2 then
    let v_36 := o_24.2 a2 (w32 (x3 + 1))
    (g_m_more v_31 v_36 o_24.2).bind fun o_37 =>
    if 0 ≤ w32 (x1 + 2) ∧ w32 (x1 + 2) < zLI a0 then
    let v_44 := o_37.2 a0 (w32 (x1 + 2))
    if 0 ≤ w32 (x3 + 2) ∧ w32 (x3 + 2) < zLI a2 then
    let v_49 := o_37.2 a2 (w32 (x3 + 2))
    (g_m_less v_44 v_49 o_37.2).bind fun o_50 =>
    if 0 ≤ w32 (x1 + 3) ∧ w32 (x1 + 3) < zLI a0 then
    let v_57 := o_50.2 a0 (w32 (x1 + 3))
    if 0 ≤ w32 (x3 + 3) ∧ w32 (x3 + 3) < zLI a2 then
    let v_62 := o_50.2 a2 (w32 (x3 + 3))
    (g_m_more v_57 v_62 o_50.2).bind fun o_63 =>
    (g_m_sets a0 x1 o_24.1 o_37.1 o_50.1 o_63.1 o_63.2).bind fun o_66 =>
    some ((), o_66.2)
    else none
    else none
    else none
    else none
    else none
    else none
    else none
    else none
  else
    (g_m_copies a2 a0 x3 x1 σ).bind fun o_10 =>
    some ((), o_10.2)
  else none
set_option maxHeartbeats 4000000 in
theorem g_m_arounds_ok {xl : Nat} {xs : Nat → Int32} {a0 : Nat} (ha0 : zIn [144, 150, 151, 152, 153, 156, 157, 161, 164, 165] a0 = true) {a2 : Nat} (ha2 : zIn [144, 150, 151, 152, 153, 156, 157, 161, 164, 165] a2 = true) {X1 : Int32} {x1 : Int} (hx1 : X1.toInt = x1) {X3 : Int32} {x3 : Int} (hx3 : X3.toInt = x3) {σ : zS} {p : Nat} {m : zM} {o : Unit × zS} (H : zRep xl xs p m σ) (h : g_m_arounds a0 a2 x1 x3 σ = some o) : zGo xl xs (fun p' => p = p') 3 171 0 (z_can 171 0 (lv_args 0 [.ref a0, .int X1, .ref a2, .int X3])) [] m vV o.2 := by
  have hq : z_mth 171 = some z_r171 := rfl
  unfold g_m_arounds at h
  show zGo xl xs (fun p' => p = p') 3 171 0 [(0, .ref a0), (1, .int X1), (2, .ref a2), (3, .int X3)] [] m vV o.2
  refine r_p hq 2 (pc' := 2) (L' := [(0, .ref a0), (1, .int X1), (2, .ref a2), (3, .int X3)]) (st' := [.int X1, .ref a0]) rfl ?_
  obtain ⟨g_2, h⟩ := z_ifo_some h
  refine r_ia (pc' := 3) (L' := [(0, .ref a0), (1, .int X1), (2, .ref a2), (3, .int X3)]) H hq (z_at.mk 1 rfl rfl) (zIn_all (l := [144, 150, 151, 152, 153, 156, 157, 161, 164, 165]) (p := fun a => zAr a 0 (zLI a)) rfl ha0) hx1 g_2 rfl rfl ?_
  intro V_2 hV_2
  rcases z_ite h with ⟨c_3, h⟩ | ⟨c_3, h⟩
  · refine r_t1 (pc' := 16) (L' := [(0, .ref a0), (1, .int X1), (2, .ref a2), (3, .int X3)]) hq (z_at.mk 3 rfl rfl) rfl hV_2 c_3 rfl rfl ?_
    refine r_p hq 4 (pc' := 20) (L' := [(0, .ref a0), (1, .int X1), (2, .ref a2), (3, .int X3)]) (st' := [.int X1, .ref a0, .int X1, .ref a0]) rfl ?_
    obtain ⟨g_20, h⟩ := z_ifo_some h
    refine r_ia (pc' := 21) (L' := [(0, .ref a0), (1, .int X1), (2, .ref a2), (3, .int X3)]) H hq (z_at.mk 1 rfl rfl) (zIn_all (l := [144, 150, 151, 152, 153, 156, 157, 161, 164, 165]) (p := fun a => zAr a 0 (zLI a)) rfl ha0) hx1 g_20 rfl rfl ?_
    intro V_20 hV_20
    refine r_p hq 2 (pc' := 23) (L' := [(0, .ref a0), (1, .int X1), (2, .ref a2), (3, .int X3)]) (st' := [.int X3, .ref a2, .int V_20, .int X1, .ref a0]) rfl ?_
    obtain ⟨g_23, h⟩ := z_ifo_some h
    refine r_ia (pc' := 24) (L' := [(0, .ref a0), (1, .int X1), (2, .ref a2), (3, .int X3)]) H hq (z_at.mk 1 rfl rfl) (zIn_all (l := [144, 150, 151, 152, 153, 156, 157, 161, 164, 165]) (p := fun a => zAr a 0 (zLI a)) rfl ha2) hx3 g_23 rfl rfl ?_
    intro V_23 hV_23
    obtain ⟨o_24, h_24, h⟩ := Option.bind_eq_some_iff.mp h
    refine r_csI (pc' := 27) (L' := [(0, .ref a0), (1, .int X1), (2, .ref a2), (3, .int X3)]) (As := [.int V_20, .int V_23]) (rest := [.int X1, .ref a0]) (j := 160) hq (z_at.mk 3 rfl rfl) (Or.inl ⟨rfl, rfl⟩) rfl rfl (by omega) (g_m_less_ok hV_20 hV_23 H h_24) rfl rfl ?_
    intro R_24 m_24 p_24 e_24 hR_24 H_24
    subst e_24
    refine r_p hq 4 (pc' := 31) (L' := [(0, .ref a0), (1, .int X1), (2, .ref a2), (3, .int X3)]) (st' := [.int (X1 + ((1 : Int32))), .ref a0, .int R_24, .int X1, .ref a0]) rfl ?_
    obtain ⟨g_31, h⟩ := z_ifo_some h
    refine r_ia (pc' := 32) (L' := [(0, .ref a0), (1, .int X1), (2, .ref a2), (3, .int X3)]) H_24 hq (z_at.mk 1 rfl rfl) (zIn_all (l := [144, 150, 151, 152, 153, 156, 157, 161, 164, 165]) (p := fun a => zAr a 0 (zLI a)) rfl ha0) (tx_iadd hx1 (rfl : (1 : Int32).toInt = 1)) g_31 rfl rfl ?_
    intro V_31 hV_31
    refine r_p hq 4 (pc' := 36) (L' := [(0, .ref a0), (1, .int X1), (2, .ref a2), (3, .int X3)]) (st' := [.int (X3 + ((1 : Int32))), .ref a2, .int V_31, .int R_24, .int X1, .ref a0]) rfl ?_
    obtain ⟨g_36, h⟩ := z_ifo_some h
    refine r_ia (pc' := 37) (L' := [(0, .ref a0), (1, .int X1), (2, .ref a2), (3, .int X3)]) H_24 hq (z_at.mk 1 rfl rfl) (zIn_all (l := [144, 150, 151, 152, 153, 156, 157, 161, 164, 165]) (p := fun a => zAr a 0 (zLI a)) rfl ha2) (tx_iadd hx3 (rfl : (1 : Int32).toInt = 1)) g_36 rfl rfl ?_
    intro V_36 hV_36
    obtain ⟨o_37, h_37, h⟩ := Option.bind_eq_some_iff.mp h
    refine r_csI (pc' := 40) (L' := [(0, .ref a0), (1, .int X1), (2, .ref a2), (3, .int X3)]) (As := [.int V_31, .int V_36]) (rest := [.int R_24, .int X1, .ref a0]) (j := 161) hq (z_at.mk 3 rfl rfl) (Or.inl ⟨rfl, rfl⟩) rfl rfl (by omega) (g_m_more_ok hV_31 hV_36 H_24 h_37) rfl rfl ?_
    intro R_37 m_37 p_37 e_37 hR_37 H_37
    subst e_37
    refine r_p hq 4 (pc' := 44) (L' := [(0, .ref a0), (1, .int X1), (2, .ref a2), (3, .int X3)]) (st' := [.int (X1 + ((2 : Int32))), .ref a0, .int R_37, .int R_24, .int X1, .ref a0]) rfl ?_
    obtain ⟨g_44, h⟩ := z_ifo_some h
    refine r_ia (pc' := 45) (L' := [(0, .ref a0), (1, .int X1), (2, .ref a2), (3, .int X3)]) H_37 hq (z_at.mk 1 rfl rfl) (zIn_all (l := [144, 150, 151, 152, 153, 156, 157, 161, 164, 165]) (p := fun a => zAr a 0 (zLI a)) rfl ha0) (tx_iadd hx1 (rfl : (2 : Int32).toInt = 2)) g_44 rfl rfl ?_
    intro V_44 hV_44
    refine r_p hq 4 (pc' := 49) (L' := [(0, .ref a0), (1, .int X1), (2, .ref a2), (3, .int X3)]) (st' := [.int (X3 + ((2 : Int32))), .ref a2, .int V_44, .int R_37, .int R_24, .int X1, .ref a0]) rfl ?_
    obtain ⟨g_49, h⟩ := z_ifo_some h
    refine r_ia (pc' := 50) (L' := [(0, .ref a0), (1, .int X1), (2, .ref a2), (3, .int X3)]) H_37 hq (z_at.mk 1 rfl rfl) (zIn_all (l := [144, 150, 151, 152, 153, 156, 157, 161, 164, 165]) (p := fun a => zAr a 0 (zLI a)) rfl ha2) (tx_iadd hx3 (rfl : (2 : Int32).toInt = 2)) g_49 rfl rfl ?_
    intro V_49 hV_49
    obtain ⟨o_50, h_50, h⟩ := Option.bind_eq_some_iff.mp h
    refine r_csI (pc' := 53) (L' := [(0, .ref a0), (1, .int X1), (2, .ref a2), (3, .int X3)]) (As := [.int V_44, .int V_49]) (rest := [.int R_37, .int R_24, .int X1, .ref a0]) (j := 160) hq (z_at.mk 3 rfl rfl) (Or.inl ⟨rfl, rfl⟩) rfl rfl (by omega) (g_m_less_ok hV_44 hV_49 H_37 h_50) rfl rfl ?_
    intro R_50 m_50 p_50 e_50 hR_50 H_50
    subst e_50
    refine r_p hq 4 (pc' := 57) (L' := [(0, .ref a0), (1, .int X1), (2, .ref a2), (3, .int X3)]) (st' := [.int (X1 + ((3 : Int32))), .ref a0, .int R_50, .int R_37, .int R_24, .int X1, .ref a0]) rfl ?_
    obtain ⟨g_57, h⟩ := z_ifo_some h
    refine r_ia (pc' := 58) (L' := [(0, .ref a0), (1, .int X1), (2, .ref a2), (3, .int X3)]) H_50 hq (z_at.mk 1 rfl rfl) (zIn_all (l := [144, 150, 151, 152, 153, 156, 157, 161, 164, 165]) (p := fun a => zAr a 0 (zLI a)) rfl ha0) (tx_iadd hx1 (rfl : (3 : Int32).toInt = 3)) g_57 rfl rfl ?_
    intro V_57 hV_57
    refine r_p hq 4 (pc' := 62) (L' := [(0, .ref a0), (1, .int X1), (2, .ref a2), (3, .int X3)]) (st' := [.int (X3 + ((3 : Int32))), .ref a2, .int V_57, .int R_50, .int R_37, .int R_24, .int X1, .ref a0]) rfl ?_
    obtain ⟨g_62, h⟩ := z_ifo_some h
    refine r_ia (pc' := 63) (L' := [(0, .ref a0), (1, .int X1), (2, .ref a2), (3, .int X3)]) H_50 hq (z_at.mk 1 rfl rfl) (zIn_all (l := [144, 150, 151, 152, 153, 156, 157, 161, 164, 165]) (p := fun a => zAr a 0 (zLI a)) rfl ha2) (tx_iadd hx3 (rfl : (3 : Int32).toInt = 3)) g_62 rfl rfl ?_
    intro V_62 hV_62
    obtain ⟨o_63, h_63, h⟩ := Option.bind_eq_some_iff.mp h
    refine r_csI (pc' := 66) (L' := [(0, .ref a0), (1, .int X1), (2, .ref a2), (3, .int X3)]) (As := [.int V_57, .int V_62]) (rest := [.int R_50, .int R_37, .int R_24, .int X1, .ref a0]) (j := 161) hq (z_at.mk 3 rfl rfl) (Or.inl ⟨rfl, rfl⟩) rfl rfl (by omega) (g_m_more_ok hV_57 hV_62 H_50 h_63) rfl rfl ?_
    intro R_63 m_63 p_63 e_63 hR_63 H_63
    subst e_63
    obtain ⟨o_66, h_66, h⟩ := Option.bind_eq_some_iff.mp h
    refine r_csV (pc' := 69) (L' := []) (As := [.ref a0, .int X1, .int R_24, .int R_37, .int R_50, .int R_63]) (rest := []) (j := 165) hq (z_at.mk 3 rfl rfl) (Or.inl ⟨rfl, rfl⟩) rfl rfl (by omega) (g_m_sets_ok (zIn_all (l := [144, 150, 151, 152, 153, 156, 157, 161, 164, 165]) (p := fun a => zIn [144, 150, 151, 152, 153, 156, 157, 161, 164, 165] a) rfl ha0) hx1 hR_24 hR_37 hR_50 hR_63 H_63 h_66) rfl rfl ?_
    intro m_66 p_66 e_66 H_66
    subst e_66
    cases h
    exact r_rv hq (z_at.mk 1 rfl rfl) rfl rfl H_66
  · refine r_f1 (pc' := 6) (L' := [(0, .ref a0), (1, .int X1), (2, .ref a2), (3, .int X3)]) hq (z_at.mk 3 rfl rfl) rfl hV_2 c_3 rfl rfl ?_
    refine r_p hq 4 (pc' := 10) (L' := [(0, .ref a0), (1, .int X1), (2, .ref a2), (3, .int X3)]) (st' := [.int X1, .ref a0, .int X3, .ref a2]) rfl ?_
    obtain ⟨o_10, h_10, h⟩ := Option.bind_eq_some_iff.mp h
    refine r_csV (pc' := 13) (L' := [(0, .ref a0), (1, .int X1), (2, .ref a2), (3, .int X3)]) (As := [.ref a2, .int X3, .ref a0, .int X1]) (rest := []) (j := 166) hq (z_at.mk 3 rfl rfl) (Or.inl ⟨rfl, rfl⟩) rfl rfl (by omega) (g_m_copies_ok (zIn_all (l := [144, 150, 151, 152, 153, 156, 157, 161, 164, 165]) (p := fun a => zIn [144, 150, 151, 152, 153, 156, 157, 161, 164, 165] a) rfl ha2) (zIn_all (l := [144, 150, 151, 152, 153, 156, 157, 161, 164, 165]) (p := fun a => zIn [144, 150, 151, 152, 153, 156, 157, 161, 164, 165] a) rfl ha0) hx3 hx1 H h_10) rfl rfl ?_
    intro m_10 p_10 e_10 H_10
    subst e_10
    refine r_p hq 1 (pc' := 69) (L' := []) (st' := []) rfl ?_
    cases h
    exact r_rv hq (z_at.mk 1 rfl rfl) rfl rfl H_10
def g_m_rests_L199 (a0 : Nat) (a2 : Nat) (a4 : Nat) (x5 : Int) (x6 : Int) (σ : zS) : Option (Int × zS) :=
  some (w32 (Int.tdiv (w32 (x6 - x5)) 4), σ)
set_option maxHeartbeats 4000000 in
theorem g_m_rests_L199_ok {xl : Nat} {xs : Nat → Int32} {a0 : Nat} (ha0 : zIn [144, 150, 151, 152, 153, 156, 157, 161, 164, 165] a0 = true) {a2 : Nat} (ha2 : zIn [144, 150, 151, 152, 153, 156, 157, 161, 164, 165] a2 = true) {a4 : Nat} (ha4 : zIn [144, 150, 151, 152, 153, 156, 157, 161, 164, 165] a4 = true) {X5 : Int32} {x5 : Int} (hx5 : X5.toInt = x5) {X6 : Int32} {x6 : Int} (hx6 : X6.toInt = x6) {σ : zS} {p : Nat} {m : zM} {o : Int × zS} (H : zRep xl xs p m σ) (h : g_m_rests_L199 a0 a2 a4 x5 x6 σ = some o) : zGo xl xs (fun p' => p = p') 3 172 199 [(5, .int X5), (6, .int X6)] [] m (vI o.1) o.2 := by
  have hq : z_mth 172 = some z_r172 := rfl
  unfold g_m_rests_L199 at h
  refine r_p hq 4 (pc' := 205) (L' := [(5, .int X5), (6, .int X6)]) (st' := [.int ((4 : Int32)), .int (X6 - X5)]) rfl ?_
  refine r_idiv (pc' := 206) (L' := [(5, .int X5), (6, .int X6)]) hq (z_at.mk 1 rfl rfl) (tx_isub hx6 hx5) (rfl : (4 : Int32).toInt = 4) (by decide) rfl rfl ?_
  intro V_205 hV_205
  cases h
  exact r_ri hq (z_at.mk 1 rfl rfl) rfl rfl hV_205 rfl H
def g_m_rests_L160 (a0 : Nat) (a2 : Nat) (a4 : Nat) (x1 : Int) (x3 : Int) (x5 : Int) (x6 : Int) (x7 : Int) (x8 : Int) (σ : zS) : Option (Int × zS) :=
  if 0 ≤ w32 (x1 + 1) ∧ w32 (x1 + 1) < zLI a0 then
  let v_164 := σ a0 (w32 (x1 + 1))
  if 0 ≤ w32 (x3 + 1) ∧ w32 (x3 + 1) < zLI a2 then
  let v_169 := σ a2 (w32 (x3 + 1))
  if v_164 ≤ v_169 then
    g_m_rests_L199 a0 a2 a4 x5 x6 σ
  else
    if 0 ≤ w32 (x3 + 1) ∧ w32 (x3 + 1) < zLI a2 then
    let v_181 := σ a2 (w32 (x3 + 1))
    if 0 ≤ w32 (x1 + 1) ∧ w32 (x1 + 1) < zLI a0 then
    let v_188 := σ a0 (w32 (x1 + 1))
    (g_m_sets a4 x6 (w32 (v_181 + 1)) v_188 x7 x8 σ).bind fun o_193 =>
    g_m_rests_L199 a0 a2 a4 x5 (w32 (x6 + 4)) o_193.2
    else none
    else none
  else none
  else none
set_option maxHeartbeats 4000000 in
theorem g_m_rests_L160_ok {xl : Nat} {xs : Nat → Int32} {a0 : Nat} (ha0 : zIn [144, 150, 151, 152, 153, 156, 157, 161, 164, 165] a0 = true) {a2 : Nat} (ha2 : zIn [144, 150, 151, 152, 153, 156, 157, 161, 164, 165] a2 = true) {a4 : Nat} (ha4 : zIn [144, 150, 151, 152, 153, 156, 157, 161, 164, 165] a4 = true) {X1 : Int32} {x1 : Int} (hx1 : X1.toInt = x1) {X3 : Int32} {x3 : Int} (hx3 : X3.toInt = x3) {X5 : Int32} {x5 : Int} (hx5 : X5.toInt = x5) {X6 : Int32} {x6 : Int} (hx6 : X6.toInt = x6) {X7 : Int32} {x7 : Int} (hx7 : X7.toInt = x7) {X8 : Int32} {x8 : Int} (hx8 : X8.toInt = x8) {σ : zS} {p : Nat} {m : zM} {o : Int × zS} (H : zRep xl xs p m σ) (h : g_m_rests_L160 a0 a2 a4 x1 x3 x5 x6 x7 x8 σ = some o) : zGo xl xs (fun p' => p = p') 3 172 160 [(0, .ref a0), (1, .int X1), (2, .ref a2), (3, .int X3), (4, .ref a4), (5, .int X5), (6, .int X6), (7, .int X7), (8, .int X8)] [] m (vI o.1) o.2 := by
  have hq : z_mth 172 = some z_r172 := rfl
  unfold g_m_rests_L160 at h
  refine r_p hq 4 (pc' := 164) (L' := [(0, .ref a0), (1, .int X1), (2, .ref a2), (3, .int X3), (4, .ref a4), (5, .int X5), (6, .int X6), (7, .int X7), (8, .int X8)]) (st' := [.int (X1 + ((1 : Int32))), .ref a0]) rfl ?_
  obtain ⟨g_164, h⟩ := z_ifo_some h
  refine r_ia (pc' := 165) (L' := [(0, .ref a0), (1, .int X1), (2, .ref a2), (3, .int X3), (4, .ref a4), (5, .int X5), (6, .int X6), (7, .int X7), (8, .int X8)]) H hq (z_at.mk 1 rfl rfl) (zIn_all (l := [144, 150, 151, 152, 153, 156, 157, 161, 164, 165]) (p := fun a => zAr a 0 (zLI a)) rfl ha0) (tx_iadd hx1 (rfl : (1 : Int32).toInt = 1)) g_164 rfl rfl ?_
  intro V_164 hV_164
  refine r_p hq 4 (pc' := 169) (L' := [(0, .ref a0), (1, .int X1), (2, .ref a2), (3, .int X3), (4, .ref a4), (5, .int X5), (6, .int X6), (7, .int X7), (8, .int X8)]) (st' := [.int (X3 + ((1 : Int32))), .ref a2, .int V_164]) rfl ?_
  obtain ⟨g_169, h⟩ := z_ifo_some h
  refine r_ia (pc' := 170) (L' := [(0, .ref a0), (1, .int X1), (2, .ref a2), (3, .int X3), (4, .ref a4), (5, .int X5), (6, .int X6), (7, .int X7), (8, .int X8)]) H hq (z_at.mk 1 rfl rfl) (zIn_all (l := [144, 150, 151, 152, 153, 156, 157, 161, 164, 165]) (p := fun a => zAr a 0 (zLI a)) rfl ha2) (tx_iadd hx3 (rfl : (1 : Int32).toInt = 1)) g_169 rfl rfl ?_
  intro V_169 hV_169
  rcases z_ite h with ⟨c_170, h⟩ | ⟨c_170, h⟩
  · refine r_t2 (pc' := 199) (L' := [(5, .int X5), (6, .int X6)]) hq (z_at.mk 3 rfl rfl) rfl hV_164 hV_169 c_170 rfl rfl ?_
    exact g_m_rests_L199_ok ha0 ha2 ha4 hx5 hx6 H h
  · refine r_f2 (pc' := 173) (L' := [(0, .ref a0), (1, .int X1), (2, .ref a2), (3, .int X3), (4, .ref a4), (5, .int X5), (6, .int X6), (7, .int X7), (8, .int X8)]) hq (z_at.mk 3 rfl rfl) rfl hV_164 hV_169 c_170 rfl rfl ?_
    refine r_p hq 6 (pc' := 181) (L' := [(0, .ref a0), (1, .int X1), (2, .ref a2), (3, .int X3), (4, .ref a4), (5, .int X5), (6, .int X6), (7, .int X7), (8, .int X8)]) (st' := [.int (X3 + ((1 : Int32))), .ref a2, .int X6, .ref a4]) rfl ?_
    obtain ⟨g_181, h⟩ := z_ifo_some h
    refine r_ia (pc' := 182) (L' := [(0, .ref a0), (1, .int X1), (2, .ref a2), (3, .int X3), (4, .ref a4), (5, .int X5), (6, .int X6), (7, .int X7), (8, .int X8)]) H hq (z_at.mk 1 rfl rfl) (zIn_all (l := [144, 150, 151, 152, 153, 156, 157, 161, 164, 165]) (p := fun a => zAr a 0 (zLI a)) rfl ha2) (tx_iadd hx3 (rfl : (1 : Int32).toInt = 1)) g_181 rfl rfl ?_
    intro V_181 hV_181
    refine r_p hq 6 (pc' := 188) (L' := [(0, .ref a0), (1, .int X1), (2, .ref a2), (3, .int X3), (4, .ref a4), (5, .int X5), (6, .int X6), (7, .int X7), (8, .int X8)]) (st' := [.int (X1 + ((1 : Int32))), .ref a0, .int (V_181 + ((1 : Int32))), .int X6, .ref a4]) rfl ?_
    obtain ⟨g_188, h⟩ := z_ifo_some h
    refine r_ia (pc' := 189) (L' := [(0, .ref a0), (1, .int X1), (2, .ref a2), (3, .int X3), (4, .ref a4), (5, .int X5), (6, .int X6), (7, .int X7), (8, .int X8)]) H hq (z_at.mk 1 rfl rfl) (zIn_all (l := [144, 150, 151, 152, 153, 156, 157, 161, 164, 165]) (p := fun a => zAr a 0 (zLI a)) rfl ha0) (tx_iadd hx1 (rfl : (1 : Int32).toInt = 1)) g_188 rfl rfl ?_
    intro V_188 hV_188
    refine r_p hq 2 (pc' := 193) (L' := [(0, .ref a0), (1, .int X1), (2, .ref a2), (3, .int X3), (4, .ref a4), (5, .int X5), (6, .int X6), (7, .int X7), (8, .int X8)]) (st' := [.int X8, .int X7, .int V_188, .int (V_181 + ((1 : Int32))), .int X6, .ref a4]) rfl ?_
    obtain ⟨o_193, h_193, h⟩ := Option.bind_eq_some_iff.mp h
    refine r_csV (pc' := 196) (L' := [(0, .ref a0), (1, .int X1), (2, .ref a2), (3, .int X3), (4, .ref a4), (5, .int X5), (6, .int X6), (7, .int X7), (8, .int X8)]) (As := [.ref a4, .int X6, .int (V_181 + ((1 : Int32))), .int V_188, .int X7, .int X8]) (rest := []) (j := 165) hq (z_at.mk 3 rfl rfl) (Or.inl ⟨rfl, rfl⟩) rfl rfl (by omega) (g_m_sets_ok (zIn_all (l := [144, 150, 151, 152, 153, 156, 157, 161, 164, 165]) (p := fun a => zIn [144, 150, 151, 152, 153, 156, 157, 161, 164, 165] a) rfl ha4) hx6 (tx_iadd hV_181 (rfl : (1 : Int32).toInt = 1)) hV_188 hx7 hx8 H h_193) rfl rfl ?_
    intro m_193 p_193 e_193 H_193
    subst e_193
    refine r_p hq 1 (pc' := 199) (L' := [(5, .int X5), (6, .int (X6 + (4 : Int32)))]) (st' := []) rfl ?_
    exact g_m_rests_L199_ok ha0 ha2 ha4 hx5 (tx_iadd hx6 (rfl : (4 : Int32).toInt = 4)) H_193 h
def g_m_rests_L129 (a0 : Nat) (a2 : Nat) (a4 : Nat) (x1 : Int) (x3 : Int) (x5 : Int) (x6 : Int) (x7 : Int) (x8 : Int) (σ : zS) : Option (Int × zS) :=
  if 0 ≤ x1 ∧ x1 < zLI a0 then
  let v_131 := σ a0 x1
  if 0 ≤ x3 ∧ x3 < zLI a2 then
  let v_134 := σ a2 x3
  if v_134 ≤ v_131 then
    g_m_rests_L160 a0 a2 a4 x1 x3 x5 x6 x7 x8 σ
  else
    if 0 ≤ x1 ∧ x1 < zLI a0 then
    let v_144 := σ a0 x1
    if 0 ≤ x3 ∧ x3 < zLI a2 then
    let v_147 := σ a2 x3
    (g_m_sets a4 x6 v_144 (w32 (v_147 - 1)) x7 x8 σ).bind fun o_154 =>
    g_m_rests_L160 a0 a2 a4 x1 x3 x5 (w32 (x6 + 4)) x7 x8 o_154.2
    else none
    else none
  else none
  else none
set_option maxHeartbeats 4000000 in
theorem g_m_rests_L129_ok {xl : Nat} {xs : Nat → Int32} {a0 : Nat} (ha0 : zIn [144, 150, 151, 152, 153, 156, 157, 161, 164, 165] a0 = true) {a2 : Nat} (ha2 : zIn [144, 150, 151, 152, 153, 156, 157, 161, 164, 165] a2 = true) {a4 : Nat} (ha4 : zIn [144, 150, 151, 152, 153, 156, 157, 161, 164, 165] a4 = true) {X1 : Int32} {x1 : Int} (hx1 : X1.toInt = x1) {X3 : Int32} {x3 : Int} (hx3 : X3.toInt = x3) {X5 : Int32} {x5 : Int} (hx5 : X5.toInt = x5) {X6 : Int32} {x6 : Int} (hx6 : X6.toInt = x6) {X7 : Int32} {x7 : Int} (hx7 : X7.toInt = x7) {X8 : Int32} {x8 : Int} (hx8 : X8.toInt = x8) {σ : zS} {p : Nat} {m : zM} {o : Int × zS} (H : zRep xl xs p m σ) (h : g_m_rests_L129 a0 a2 a4 x1 x3 x5 x6 x7 x8 σ = some o) : zGo xl xs (fun p' => p = p') 3 172 129 [(0, .ref a0), (1, .int X1), (2, .ref a2), (3, .int X3), (4, .ref a4), (5, .int X5), (6, .int X6), (7, .int X7), (8, .int X8)] [] m (vI o.1) o.2 := by
  have hq : z_mth 172 = some z_r172 := rfl
  unfold g_m_rests_L129 at h
  refine r_p hq 2 (pc' := 131) (L' := [(0, .ref a0), (1, .int X1), (2, .ref a2), (3, .int X3), (4, .ref a4), (5, .int X5), (6, .int X6), (7, .int X7), (8, .int X8)]) (st' := [.int X1, .ref a0]) rfl ?_
  obtain ⟨g_131, h⟩ := z_ifo_some h
  refine r_ia (pc' := 132) (L' := [(0, .ref a0), (1, .int X1), (2, .ref a2), (3, .int X3), (4, .ref a4), (5, .int X5), (6, .int X6), (7, .int X7), (8, .int X8)]) H hq (z_at.mk 1 rfl rfl) (zIn_all (l := [144, 150, 151, 152, 153, 156, 157, 161, 164, 165]) (p := fun a => zAr a 0 (zLI a)) rfl ha0) hx1 g_131 rfl rfl ?_
  intro V_131 hV_131
  refine r_p hq 2 (pc' := 134) (L' := [(0, .ref a0), (1, .int X1), (2, .ref a2), (3, .int X3), (4, .ref a4), (5, .int X5), (6, .int X6), (7, .int X7), (8, .int X8)]) (st' := [.int X3, .ref a2, .int V_131]) rfl ?_
  obtain ⟨g_134, h⟩ := z_ifo_some h
  refine r_ia (pc' := 135) (L' := [(0, .ref a0), (1, .int X1), (2, .ref a2), (3, .int X3), (4, .ref a4), (5, .int X5), (6, .int X6), (7, .int X7), (8, .int X8)]) H hq (z_at.mk 1 rfl rfl) (zIn_all (l := [144, 150, 151, 152, 153, 156, 157, 161, 164, 165]) (p := fun a => zAr a 0 (zLI a)) rfl ha2) hx3 g_134 rfl rfl ?_
  intro V_134 hV_134
  rcases z_ite h with ⟨c_135, h⟩ | ⟨c_135, h⟩
  · refine r_t2 (pc' := 160) (L' := [(0, .ref a0), (1, .int X1), (2, .ref a2), (3, .int X3), (4, .ref a4), (5, .int X5), (6, .int X6), (7, .int X7), (8, .int X8)]) hq (z_at.mk 3 rfl rfl) rfl hV_131 hV_134 c_135 rfl rfl ?_
    exact g_m_rests_L160_ok ha0 ha2 ha4 hx1 hx3 hx5 hx6 hx7 hx8 H h
  · refine r_f2 (pc' := 138) (L' := [(0, .ref a0), (1, .int X1), (2, .ref a2), (3, .int X3), (4, .ref a4), (5, .int X5), (6, .int X6), (7, .int X7), (8, .int X8)]) hq (z_at.mk 3 rfl rfl) rfl hV_131 hV_134 c_135 rfl rfl ?_
    refine r_p hq 4 (pc' := 144) (L' := [(0, .ref a0), (1, .int X1), (2, .ref a2), (3, .int X3), (4, .ref a4), (5, .int X5), (6, .int X6), (7, .int X7), (8, .int X8)]) (st' := [.int X1, .ref a0, .int X6, .ref a4]) rfl ?_
    obtain ⟨g_144, h⟩ := z_ifo_some h
    refine r_ia (pc' := 145) (L' := [(0, .ref a0), (1, .int X1), (2, .ref a2), (3, .int X3), (4, .ref a4), (5, .int X5), (6, .int X6), (7, .int X7), (8, .int X8)]) H hq (z_at.mk 1 rfl rfl) (zIn_all (l := [144, 150, 151, 152, 153, 156, 157, 161, 164, 165]) (p := fun a => zAr a 0 (zLI a)) rfl ha0) hx1 g_144 rfl rfl ?_
    intro V_144 hV_144
    refine r_p hq 2 (pc' := 147) (L' := [(0, .ref a0), (1, .int X1), (2, .ref a2), (3, .int X3), (4, .ref a4), (5, .int X5), (6, .int X6), (7, .int X7), (8, .int X8)]) (st' := [.int X3, .ref a2, .int V_144, .int X6, .ref a4]) rfl ?_
    obtain ⟨g_147, h⟩ := z_ifo_some h
    refine r_ia (pc' := 148) (L' := [(0, .ref a0), (1, .int X1), (2, .ref a2), (3, .int X3), (4, .ref a4), (5, .int X5), (6, .int X6), (7, .int X7), (8, .int X8)]) H hq (z_at.mk 1 rfl rfl) (zIn_all (l := [144, 150, 151, 152, 153, 156, 157, 161, 164, 165]) (p := fun a => zAr a 0 (zLI a)) rfl ha2) hx3 g_147 rfl rfl ?_
    intro V_147 hV_147
    refine r_p hq 4 (pc' := 154) (L' := [(0, .ref a0), (1, .int X1), (2, .ref a2), (3, .int X3), (4, .ref a4), (5, .int X5), (6, .int X6), (7, .int X7), (8, .int X8)]) (st' := [.int X8, .int X7, .int (V_147 - ((1 : Int32))), .int V_144, .int X6, .ref a4]) rfl ?_
    obtain ⟨o_154, h_154, h⟩ := Option.bind_eq_some_iff.mp h
    refine r_csV (pc' := 157) (L' := [(0, .ref a0), (1, .int X1), (2, .ref a2), (3, .int X3), (4, .ref a4), (5, .int X5), (6, .int X6), (7, .int X7), (8, .int X8)]) (As := [.ref a4, .int X6, .int V_144, .int (V_147 - ((1 : Int32))), .int X7, .int X8]) (rest := []) (j := 165) hq (z_at.mk 3 rfl rfl) (Or.inl ⟨rfl, rfl⟩) rfl rfl (by omega) (g_m_sets_ok (zIn_all (l := [144, 150, 151, 152, 153, 156, 157, 161, 164, 165]) (p := fun a => zIn [144, 150, 151, 152, 153, 156, 157, 161, 164, 165] a) rfl ha4) hx6 hV_144 (tx_isub hV_147 (rfl : (1 : Int32).toInt = 1)) hx7 hx8 H h_154) rfl rfl ?_
    intro m_154 p_154 e_154 H_154
    subst e_154
    refine r_p hq 1 (pc' := 160) (L' := [(0, .ref a0), (1, .int X1), (2, .ref a2), (3, .int X3), (4, .ref a4), (5, .int X5), (6, .int (X6 + (4 : Int32))), (7, .int X7), (8, .int X8)]) (st' := []) rfl ?_
    exact g_m_rests_L160_ok ha0 ha2 ha4 hx1 hx3 hx5 (tx_iadd hx6 (rfl : (4 : Int32).toInt = 4)) hx7 hx8 H_154 h
def g_m_rests_L92 (a0 : Nat) (a2 : Nat) (a4 : Nat) (x1 : Int) (x3 : Int) (x5 : Int) (x6 : Int) (x7 : Int) (x8 : Int) (σ : zS) : Option (Int × zS) :=
  if 0 ≤ w32 (x1 + 3) ∧ w32 (x1 + 3) < zLI a0 then
  let v_96 := σ a0 (w32 (x1 + 3))
  if v_96 ≤ x8 then
    g_m_rests_L129 a0 a2 a4 x1 x3 x5 x6 x7 x8 σ
  else
    if 0 ≤ x1 ∧ x1 < zLI a0 then
    let v_108 := σ a0 x1
    if 0 ≤ w32 (x1 + 1) ∧ w32 (x1 + 1) < zLI a0 then
    let v_113 := σ a0 (w32 (x1 + 1))
    if 0 ≤ w32 (x1 + 3) ∧ w32 (x1 + 3) < zLI a0 then
    let v_122 := σ a0 (w32 (x1 + 3))
    (g_m_sets a4 x6 v_108 v_113 (w32 (x8 + 1)) v_122 σ).bind fun o_123 =>
    g_m_rests_L129 a0 a2 a4 x1 x3 x5 (w32 (x6 + 4)) x7 x8 o_123.2
    else none
    else none
    else none
  else none
set_option maxHeartbeats 4000000 in
theorem g_m_rests_L92_ok {xl : Nat} {xs : Nat → Int32} {a0 : Nat} (ha0 : zIn [144, 150, 151, 152, 153, 156, 157, 161, 164, 165] a0 = true) {a2 : Nat} (ha2 : zIn [144, 150, 151, 152, 153, 156, 157, 161, 164, 165] a2 = true) {a4 : Nat} (ha4 : zIn [144, 150, 151, 152, 153, 156, 157, 161, 164, 165] a4 = true) {X1 : Int32} {x1 : Int} (hx1 : X1.toInt = x1) {X3 : Int32} {x3 : Int} (hx3 : X3.toInt = x3) {X5 : Int32} {x5 : Int} (hx5 : X5.toInt = x5) {X6 : Int32} {x6 : Int} (hx6 : X6.toInt = x6) {X7 : Int32} {x7 : Int} (hx7 : X7.toInt = x7) {X8 : Int32} {x8 : Int} (hx8 : X8.toInt = x8) {σ : zS} {p : Nat} {m : zM} {o : Int × zS} (H : zRep xl xs p m σ) (h : g_m_rests_L92 a0 a2 a4 x1 x3 x5 x6 x7 x8 σ = some o) : zGo xl xs (fun p' => p = p') 3 172 92 [(0, .ref a0), (1, .int X1), (2, .ref a2), (3, .int X3), (4, .ref a4), (5, .int X5), (6, .int X6), (7, .int X7), (8, .int X8)] [] m (vI o.1) o.2 := by
  have hq : z_mth 172 = some z_r172 := rfl
  unfold g_m_rests_L92 at h
  refine r_p hq 4 (pc' := 96) (L' := [(0, .ref a0), (1, .int X1), (2, .ref a2), (3, .int X3), (4, .ref a4), (5, .int X5), (6, .int X6), (7, .int X7), (8, .int X8)]) (st' := [.int (X1 + ((3 : Int32))), .ref a0]) rfl ?_
  obtain ⟨g_96, h⟩ := z_ifo_some h
  refine r_ia (pc' := 97) (L' := [(0, .ref a0), (1, .int X1), (2, .ref a2), (3, .int X3), (4, .ref a4), (5, .int X5), (6, .int X6), (7, .int X7), (8, .int X8)]) H hq (z_at.mk 1 rfl rfl) (zIn_all (l := [144, 150, 151, 152, 153, 156, 157, 161, 164, 165]) (p := fun a => zAr a 0 (zLI a)) rfl ha0) (tx_iadd hx1 (rfl : (3 : Int32).toInt = 3)) g_96 rfl rfl ?_
  intro V_96 hV_96
  refine r_p hq 1 (pc' := 99) (L' := [(0, .ref a0), (1, .int X1), (2, .ref a2), (3, .int X3), (4, .ref a4), (5, .int X5), (6, .int X6), (7, .int X7), (8, .int X8)]) (st' := [.int X8, .int V_96]) rfl ?_
  rcases z_ite h with ⟨c_99, h⟩ | ⟨c_99, h⟩
  · refine r_t2 (pc' := 129) (L' := [(0, .ref a0), (1, .int X1), (2, .ref a2), (3, .int X3), (4, .ref a4), (5, .int X5), (6, .int X6), (7, .int X7), (8, .int X8)]) hq (z_at.mk 3 rfl rfl) rfl hV_96 hx8 c_99 rfl rfl ?_
    exact g_m_rests_L129_ok ha0 ha2 ha4 hx1 hx3 hx5 hx6 hx7 hx8 H h
  · refine r_f2 (pc' := 102) (L' := [(0, .ref a0), (1, .int X1), (2, .ref a2), (3, .int X3), (4, .ref a4), (5, .int X5), (6, .int X6), (7, .int X7), (8, .int X8)]) hq (z_at.mk 3 rfl rfl) rfl hV_96 hx8 c_99 rfl rfl ?_
    refine r_p hq 4 (pc' := 108) (L' := [(0, .ref a0), (1, .int X1), (2, .ref a2), (3, .int X3), (4, .ref a4), (5, .int X5), (6, .int X6), (7, .int X7), (8, .int X8)]) (st' := [.int X1, .ref a0, .int X6, .ref a4]) rfl ?_
    obtain ⟨g_108, h⟩ := z_ifo_some h
    refine r_ia (pc' := 109) (L' := [(0, .ref a0), (1, .int X1), (2, .ref a2), (3, .int X3), (4, .ref a4), (5, .int X5), (6, .int X6), (7, .int X7), (8, .int X8)]) H hq (z_at.mk 1 rfl rfl) (zIn_all (l := [144, 150, 151, 152, 153, 156, 157, 161, 164, 165]) (p := fun a => zAr a 0 (zLI a)) rfl ha0) hx1 g_108 rfl rfl ?_
    intro V_108 hV_108
    refine r_p hq 4 (pc' := 113) (L' := [(0, .ref a0), (1, .int X1), (2, .ref a2), (3, .int X3), (4, .ref a4), (5, .int X5), (6, .int X6), (7, .int X7), (8, .int X8)]) (st' := [.int (X1 + ((1 : Int32))), .ref a0, .int V_108, .int X6, .ref a4]) rfl ?_
    obtain ⟨g_113, h⟩ := z_ifo_some h
    refine r_ia (pc' := 114) (L' := [(0, .ref a0), (1, .int X1), (2, .ref a2), (3, .int X3), (4, .ref a4), (5, .int X5), (6, .int X6), (7, .int X7), (8, .int X8)]) H hq (z_at.mk 1 rfl rfl) (zIn_all (l := [144, 150, 151, 152, 153, 156, 157, 161, 164, 165]) (p := fun a => zAr a 0 (zLI a)) rfl ha0) (tx_iadd hx1 (rfl : (1 : Int32).toInt = 1)) g_113 rfl rfl ?_
    intro V_113 hV_113
    refine r_p hq 7 (pc' := 122) (L' := [(0, .ref a0), (1, .int X1), (2, .ref a2), (3, .int X3), (4, .ref a4), (5, .int X5), (6, .int X6), (7, .int X7), (8, .int X8)]) (st' := [.int (X1 + ((3 : Int32))), .ref a0, .int (X8 + ((1 : Int32))), .int V_113, .int V_108, .int X6, .ref a4]) rfl ?_
    obtain ⟨g_122, h⟩ := z_ifo_some h
    refine r_ia (pc' := 123) (L' := [(0, .ref a0), (1, .int X1), (2, .ref a2), (3, .int X3), (4, .ref a4), (5, .int X5), (6, .int X6), (7, .int X7), (8, .int X8)]) H hq (z_at.mk 1 rfl rfl) (zIn_all (l := [144, 150, 151, 152, 153, 156, 157, 161, 164, 165]) (p := fun a => zAr a 0 (zLI a)) rfl ha0) (tx_iadd hx1 (rfl : (3 : Int32).toInt = 3)) g_122 rfl rfl ?_
    intro V_122 hV_122
    obtain ⟨o_123, h_123, h⟩ := Option.bind_eq_some_iff.mp h
    refine r_csV (pc' := 126) (L' := [(0, .ref a0), (1, .int X1), (2, .ref a2), (3, .int X3), (4, .ref a4), (5, .int X5), (6, .int X6), (7, .int X7), (8, .int X8)]) (As := [.ref a4, .int X6, .int V_108, .int V_113, .int (X8 + ((1 : Int32))), .int V_122]) (rest := []) (j := 165) hq (z_at.mk 3 rfl rfl) (Or.inl ⟨rfl, rfl⟩) rfl rfl (by omega) (g_m_sets_ok (zIn_all (l := [144, 150, 151, 152, 153, 156, 157, 161, 164, 165]) (p := fun a => zIn [144, 150, 151, 152, 153, 156, 157, 161, 164, 165] a) rfl ha4) hx6 hV_108 hV_113 (tx_iadd hx8 (rfl : (1 : Int32).toInt = 1)) hV_122 H h_123) rfl rfl ?_
    intro m_123 p_123 e_123 H_123
    subst e_123
    refine r_p hq 1 (pc' := 129) (L' := [(0, .ref a0), (1, .int X1), (2, .ref a2), (3, .int X3), (4, .ref a4), (5, .int X5), (6, .int (X6 + (4 : Int32))), (7, .int X7), (8, .int X8)]) (st' := []) rfl ?_
    exact g_m_rests_L129_ok ha0 ha2 ha4 hx1 hx3 hx5 (tx_iadd hx6 (rfl : (4 : Int32).toInt = 4)) hx7 hx8 H_123 h
def g_m_rests (a0 : Nat) (a2 : Nat) (a4 : Nat) (x1 : Int) (x3 : Int) (x5 : Int) (σ : zS) : Option (Int × zS) :=
  (g_m_doMeet a0 a2 x1 x3 σ).bind fun o_4 =>
  if o_4.1 ≠ 0 then
    if 0 ≤ w32 (x1 + 2) ∧ w32 (x1 + 2) < zLI a0 then
    let v_29 := o_4.2 a0 (w32 (x1 + 2))
    if 0 ≤ w32 (x3 + 2) ∧ w32 (x3 + 2) < zLI a2 then
    let v_34 := o_4.2 a2 (w32 (x3 + 2))
    (g_m_more v_29 v_34 o_4.2).bind fun o_35 =>
    if 0 ≤ w32 (x1 + 3) ∧ w32 (x1 + 3) < zLI a0 then
    let v_44 := o_35.2 a0 (w32 (x1 + 3))
    if 0 ≤ w32 (x3 + 3) ∧ w32 (x3 + 3) < zLI a2 then
    let v_49 := o_35.2 a2 (w32 (x3 + 3))
    (g_m_less v_44 v_49 o_35.2).bind fun o_50 =>
    if 0 ≤ w32 (x1 + 2) ∧ w32 (x1 + 2) < zLI a0 then
    let v_59 := o_50.2 a0 (w32 (x1 + 2))
    if o_35.1 ≤ v_59 then
      g_m_rests_L92 a0 a2 a4 x1 x3 x5 x5 o_35.1 o_50.1 o_50.2
    else
      if 0 ≤ x1 ∧ x1 < zLI a0 then
      let v_71 := o_50.2 a0 x1
      if 0 ≤ w32 (x1 + 1) ∧ w32 (x1 + 1) < zLI a0 then
      let v_76 := o_50.2 a0 (w32 (x1 + 1))
      if 0 ≤ w32 (x1 + 2) ∧ w32 (x1 + 2) < zLI a0 then
      let v_81 := o_50.2 a0 (w32 (x1 + 2))
      (g_m_sets a4 x5 v_71 v_76 v_81 (w32 (o_35.1 - 1)) o_50.2).bind fun o_86 =>
      g_m_rests_L92 a0 a2 a4 x1 x3 x5 (w32 (x5 + 4)) o_35.1 o_50.1 o_86.2
      else none
      else none
      else none
    else none
    else none
    else none
    else none
    else none
  else
    (g_m_copies a0 a4 x1 x5 o_4.2).bind fun o_16 =>
    some (1, o_16.2)
set_option maxHeartbeats 4000000 in
theorem g_m_rests_ok {xl : Nat} {xs : Nat → Int32} {a0 : Nat} (ha0 : zIn [144, 150, 151, 152, 153, 156, 157, 161, 164, 165] a0 = true) {a2 : Nat} (ha2 : zIn [144, 150, 151, 152, 153, 156, 157, 161, 164, 165] a2 = true) {a4 : Nat} (ha4 : zIn [144, 150, 151, 152, 153, 156, 157, 161, 164, 165] a4 = true) {X1 : Int32} {x1 : Int} (hx1 : X1.toInt = x1) {X3 : Int32} {x3 : Int} (hx3 : X3.toInt = x3) {X5 : Int32} {x5 : Int} (hx5 : X5.toInt = x5) {σ : zS} {p : Nat} {m : zM} {o : Int × zS} (H : zRep xl xs p m σ) (h : g_m_rests a0 a2 a4 x1 x3 x5 σ = some o) : zGo xl xs (fun p' => p = p') 3 172 0 (z_can 172 0 (lv_args 0 [.ref a0, .int X1, .ref a2, .int X3, .ref a4, .int X5])) [] m (vI o.1) o.2 := by
  have hq : z_mth 172 = some z_r172 := rfl
  unfold g_m_rests at h
  show zGo xl xs (fun p' => p = p') 3 172 0 [(0, .ref a0), (1, .int X1), (2, .ref a2), (3, .int X3), (4, .ref a4), (5, .int X5)] [] m (vI o.1) o.2
  refine r_p hq 4 (pc' := 4) (L' := [(0, .ref a0), (1, .int X1), (2, .ref a2), (3, .int X3), (4, .ref a4), (5, .int X5)]) (st' := [.int X3, .ref a2, .int X1, .ref a0]) rfl ?_
  obtain ⟨o_4, h_4, h⟩ := Option.bind_eq_some_iff.mp h
  refine r_csI (pc' := 7) (L' := [(0, .ref a0), (1, .int X1), (2, .ref a2), (3, .int X3), (4, .ref a4), (5, .int X5)]) (As := [.ref a0, .int X1, .ref a2, .int X3]) (rest := []) (j := 169) hq (z_at.mk 3 rfl rfl) (Or.inl ⟨rfl, rfl⟩) rfl rfl (by omega) (g_m_doMeet_ok (zIn_all (l := [144, 150, 151, 152, 153, 156, 157, 161, 164, 165]) (p := fun a => zIn [144, 150, 151, 152, 153, 156, 157, 161, 164, 165] a) rfl ha0) (zIn_all (l := [144, 150, 151, 152, 153, 156, 157, 161, 164, 165]) (p := fun a => zIn [144, 150, 151, 152, 153, 156, 157, 161, 164, 165] a) rfl ha2) hx1 hx3 H h_4) rfl rfl ?_
  intro R_4 m_4 p_4 e_4 hR_4 H_4
  subst e_4
  rcases z_ite h with ⟨c_7, h⟩ | ⟨c_7, h⟩
  · refine r_t1 (pc' := 21) (L' := [(0, .ref a0), (1, .int X1), (2, .ref a2), (3, .int X3), (4, .ref a4), (5, .int X5)]) hq (z_at.mk 3 rfl rfl) rfl hR_4 c_7 rfl rfl ?_
    refine r_p hq 6 (pc' := 29) (L' := [(6, .int X5), (0, .ref a0), (1, .int X1), (2, .ref a2), (3, .int X3), (4, .ref a4), (5, .int X5)]) (st' := [.int (X1 + ((2 : Int32))), .ref a0]) rfl ?_
    obtain ⟨g_29, h⟩ := z_ifo_some h
    refine r_ia (pc' := 30) (L' := [(6, .int X5), (0, .ref a0), (1, .int X1), (2, .ref a2), (3, .int X3), (4, .ref a4), (5, .int X5)]) H_4 hq (z_at.mk 1 rfl rfl) (zIn_all (l := [144, 150, 151, 152, 153, 156, 157, 161, 164, 165]) (p := fun a => zAr a 0 (zLI a)) rfl ha0) (tx_iadd hx1 (rfl : (2 : Int32).toInt = 2)) g_29 rfl rfl ?_
    intro V_29 hV_29
    refine r_p hq 4 (pc' := 34) (L' := [(6, .int X5), (0, .ref a0), (1, .int X1), (2, .ref a2), (3, .int X3), (4, .ref a4), (5, .int X5)]) (st' := [.int (X3 + ((2 : Int32))), .ref a2, .int V_29]) rfl ?_
    obtain ⟨g_34, h⟩ := z_ifo_some h
    refine r_ia (pc' := 35) (L' := [(6, .int X5), (0, .ref a0), (1, .int X1), (2, .ref a2), (3, .int X3), (4, .ref a4), (5, .int X5)]) H_4 hq (z_at.mk 1 rfl rfl) (zIn_all (l := [144, 150, 151, 152, 153, 156, 157, 161, 164, 165]) (p := fun a => zAr a 0 (zLI a)) rfl ha2) (tx_iadd hx3 (rfl : (2 : Int32).toInt = 2)) g_34 rfl rfl ?_
    intro V_34 hV_34
    obtain ⟨o_35, h_35, h⟩ := Option.bind_eq_some_iff.mp h
    refine r_csI (pc' := 38) (L' := [(6, .int X5), (0, .ref a0), (1, .int X1), (2, .ref a2), (3, .int X3), (4, .ref a4), (5, .int X5)]) (As := [.int V_29, .int V_34]) (rest := []) (j := 161) hq (z_at.mk 3 rfl rfl) (Or.inl ⟨rfl, rfl⟩) rfl rfl (by omega) (g_m_more_ok hV_29 hV_34 H_4 h_35) rfl rfl ?_
    intro R_35 m_35 p_35 e_35 hR_35 H_35
    subst e_35
    refine r_p hq 5 (pc' := 44) (L' := [(7, .int R_35), (6, .int X5), (0, .ref a0), (1, .int X1), (2, .ref a2), (3, .int X3), (4, .ref a4), (5, .int X5)]) (st' := [.int (X1 + ((3 : Int32))), .ref a0]) rfl ?_
    obtain ⟨g_44, h⟩ := z_ifo_some h
    refine r_ia (pc' := 45) (L' := [(7, .int R_35), (6, .int X5), (0, .ref a0), (1, .int X1), (2, .ref a2), (3, .int X3), (4, .ref a4), (5, .int X5)]) H_35 hq (z_at.mk 1 rfl rfl) (zIn_all (l := [144, 150, 151, 152, 153, 156, 157, 161, 164, 165]) (p := fun a => zAr a 0 (zLI a)) rfl ha0) (tx_iadd hx1 (rfl : (3 : Int32).toInt = 3)) g_44 rfl rfl ?_
    intro V_44 hV_44
    refine r_p hq 4 (pc' := 49) (L' := [(7, .int R_35), (6, .int X5), (0, .ref a0), (1, .int X1), (2, .ref a2), (3, .int X3), (4, .ref a4), (5, .int X5)]) (st' := [.int (X3 + ((3 : Int32))), .ref a2, .int V_44]) rfl ?_
    obtain ⟨g_49, h⟩ := z_ifo_some h
    refine r_ia (pc' := 50) (L' := [(7, .int R_35), (6, .int X5), (0, .ref a0), (1, .int X1), (2, .ref a2), (3, .int X3), (4, .ref a4), (5, .int X5)]) H_35 hq (z_at.mk 1 rfl rfl) (zIn_all (l := [144, 150, 151, 152, 153, 156, 157, 161, 164, 165]) (p := fun a => zAr a 0 (zLI a)) rfl ha2) (tx_iadd hx3 (rfl : (3 : Int32).toInt = 3)) g_49 rfl rfl ?_
    intro V_49 hV_49
    obtain ⟨o_50, h_50, h⟩ := Option.bind_eq_some_iff.mp h
    refine r_csI (pc' := 53) (L' := [(7, .int R_35), (6, .int X5), (0, .ref a0), (1, .int X1), (2, .ref a2), (3, .int X3), (4, .ref a4), (5, .int X5)]) (As := [.int V_44, .int V_49]) (rest := []) (j := 160) hq (z_at.mk 3 rfl rfl) (Or.inl ⟨rfl, rfl⟩) rfl rfl (by omega) (g_m_less_ok hV_44 hV_49 H_35 h_50) rfl rfl ?_
    intro R_50 m_50 p_50 e_50 hR_50 H_50
    subst e_50
    refine r_p hq 5 (pc' := 59) (L' := [(8, .int R_50), (7, .int R_35), (6, .int X5), (0, .ref a0), (1, .int X1), (2, .ref a2), (3, .int X3), (4, .ref a4), (5, .int X5)]) (st' := [.int (X1 + ((2 : Int32))), .ref a0]) rfl ?_
    obtain ⟨g_59, h⟩ := z_ifo_some h
    refine r_ia (pc' := 60) (L' := [(8, .int R_50), (7, .int R_35), (6, .int X5), (0, .ref a0), (1, .int X1), (2, .ref a2), (3, .int X3), (4, .ref a4), (5, .int X5)]) H_50 hq (z_at.mk 1 rfl rfl) (zIn_all (l := [144, 150, 151, 152, 153, 156, 157, 161, 164, 165]) (p := fun a => zAr a 0 (zLI a)) rfl ha0) (tx_iadd hx1 (rfl : (2 : Int32).toInt = 2)) g_59 rfl rfl ?_
    intro V_59 hV_59
    refine r_p hq 1 (pc' := 62) (L' := [(8, .int R_50), (7, .int R_35), (6, .int X5), (0, .ref a0), (1, .int X1), (2, .ref a2), (3, .int X3), (4, .ref a4), (5, .int X5)]) (st' := [.int R_35, .int V_59]) rfl ?_
    rcases z_ite h with ⟨c_62, h⟩ | ⟨c_62, h⟩
    · refine r_t2 (pc' := 92) (L' := [(0, .ref a0), (1, .int X1), (2, .ref a2), (3, .int X3), (4, .ref a4), (5, .int X5), (6, .int X5), (7, .int R_35), (8, .int R_50)]) hq (z_at.mk 3 rfl rfl) rfl hV_59 hR_35 c_62 rfl rfl ?_
      exact g_m_rests_L92_ok ha0 ha2 ha4 hx1 hx3 hx5 hx5 hR_35 hR_50 H_50 h
    · refine r_f2 (pc' := 65) (L' := [(8, .int R_50), (7, .int R_35), (6, .int X5), (0, .ref a0), (1, .int X1), (2, .ref a2), (3, .int X3), (4, .ref a4), (5, .int X5)]) hq (z_at.mk 3 rfl rfl) rfl hV_59 hR_35 c_62 rfl rfl ?_
      refine r_p hq 4 (pc' := 71) (L' := [(8, .int R_50), (7, .int R_35), (6, .int X5), (0, .ref a0), (1, .int X1), (2, .ref a2), (3, .int X3), (4, .ref a4), (5, .int X5)]) (st' := [.int X1, .ref a0, .int X5, .ref a4]) rfl ?_
      obtain ⟨g_71, h⟩ := z_ifo_some h
      refine r_ia (pc' := 72) (L' := [(8, .int R_50), (7, .int R_35), (6, .int X5), (0, .ref a0), (1, .int X1), (2, .ref a2), (3, .int X3), (4, .ref a4), (5, .int X5)]) H_50 hq (z_at.mk 1 rfl rfl) (zIn_all (l := [144, 150, 151, 152, 153, 156, 157, 161, 164, 165]) (p := fun a => zAr a 0 (zLI a)) rfl ha0) hx1 g_71 rfl rfl ?_
      intro V_71 hV_71
      refine r_p hq 4 (pc' := 76) (L' := [(8, .int R_50), (7, .int R_35), (6, .int X5), (0, .ref a0), (1, .int X1), (2, .ref a2), (3, .int X3), (4, .ref a4), (5, .int X5)]) (st' := [.int (X1 + ((1 : Int32))), .ref a0, .int V_71, .int X5, .ref a4]) rfl ?_
      obtain ⟨g_76, h⟩ := z_ifo_some h
      refine r_ia (pc' := 77) (L' := [(8, .int R_50), (7, .int R_35), (6, .int X5), (0, .ref a0), (1, .int X1), (2, .ref a2), (3, .int X3), (4, .ref a4), (5, .int X5)]) H_50 hq (z_at.mk 1 rfl rfl) (zIn_all (l := [144, 150, 151, 152, 153, 156, 157, 161, 164, 165]) (p := fun a => zAr a 0 (zLI a)) rfl ha0) (tx_iadd hx1 (rfl : (1 : Int32).toInt = 1)) g_76 rfl rfl ?_
      intro V_76 hV_76
      refine r_p hq 4 (pc' := 81) (L' := [(8, .int R_50), (7, .int R_35), (6, .int X5), (0, .ref a0), (1, .int X1), (2, .ref a2), (3, .int X3), (4, .ref a4), (5, .int X5)]) (st' := [.int (X1 + ((2 : Int32))), .ref a0, .int V_76, .int V_71, .int X5, .ref a4]) rfl ?_
      obtain ⟨g_81, h⟩ := z_ifo_some h
      refine r_ia (pc' := 82) (L' := [(8, .int R_50), (7, .int R_35), (6, .int X5), (0, .ref a0), (1, .int X1), (2, .ref a2), (3, .int X3), (4, .ref a4), (5, .int X5)]) H_50 hq (z_at.mk 1 rfl rfl) (zIn_all (l := [144, 150, 151, 152, 153, 156, 157, 161, 164, 165]) (p := fun a => zAr a 0 (zLI a)) rfl ha0) (tx_iadd hx1 (rfl : (2 : Int32).toInt = 2)) g_81 rfl rfl ?_
      intro V_81 hV_81
      refine r_p hq 3 (pc' := 86) (L' := [(8, .int R_50), (7, .int R_35), (6, .int X5), (0, .ref a0), (1, .int X1), (2, .ref a2), (3, .int X3), (4, .ref a4), (5, .int X5)]) (st' := [.int (R_35 - ((1 : Int32))), .int V_81, .int V_76, .int V_71, .int X5, .ref a4]) rfl ?_
      obtain ⟨o_86, h_86, h⟩ := Option.bind_eq_some_iff.mp h
      refine r_csV (pc' := 89) (L' := [(8, .int R_50), (7, .int R_35), (6, .int X5), (0, .ref a0), (1, .int X1), (2, .ref a2), (3, .int X3), (4, .ref a4), (5, .int X5)]) (As := [.ref a4, .int X5, .int V_71, .int V_76, .int V_81, .int (R_35 - ((1 : Int32)))]) (rest := []) (j := 165) hq (z_at.mk 3 rfl rfl) (Or.inl ⟨rfl, rfl⟩) rfl rfl (by omega) (g_m_sets_ok (zIn_all (l := [144, 150, 151, 152, 153, 156, 157, 161, 164, 165]) (p := fun a => zIn [144, 150, 151, 152, 153, 156, 157, 161, 164, 165] a) rfl ha4) hx5 hV_71 hV_76 hV_81 (tx_isub hR_35 (rfl : (1 : Int32).toInt = 1)) H_50 h_86) rfl rfl ?_
      intro m_86 p_86 e_86 H_86
      subst e_86
      refine r_p hq 1 (pc' := 92) (L' := [(0, .ref a0), (1, .int X1), (2, .ref a2), (3, .int X3), (4, .ref a4), (5, .int X5), (6, .int (X5 + (4 : Int32))), (7, .int R_35), (8, .int R_50)]) (st' := []) rfl ?_
      exact g_m_rests_L92_ok ha0 ha2 ha4 hx1 hx3 hx5 (tx_iadd hx5 (rfl : (4 : Int32).toInt = 4)) hR_35 hR_50 H_86 h
  · refine r_f1 (pc' := 10) (L' := [(0, .ref a0), (1, .int X1), (2, .ref a2), (3, .int X3), (4, .ref a4), (5, .int X5)]) hq (z_at.mk 3 rfl rfl) rfl hR_4 c_7 rfl rfl ?_
    refine r_p hq 4 (pc' := 16) (L' := [(0, .ref a0), (1, .int X1), (2, .ref a2), (3, .int X3), (4, .ref a4), (5, .int X5)]) (st' := [.int X5, .ref a4, .int X1, .ref a0]) rfl ?_
    obtain ⟨o_16, h_16, h⟩ := Option.bind_eq_some_iff.mp h
    refine r_csV (pc' := 19) (L' := [(0, .ref a0), (1, .int X1), (2, .ref a2), (3, .int X3), (4, .ref a4), (5, .int X5)]) (As := [.ref a0, .int X1, .ref a4, .int X5]) (rest := []) (j := 166) hq (z_at.mk 3 rfl rfl) (Or.inl ⟨rfl, rfl⟩) rfl rfl (by omega) (g_m_copies_ok (zIn_all (l := [144, 150, 151, 152, 153, 156, 157, 161, 164, 165]) (p := fun a => zIn [144, 150, 151, 152, 153, 156, 157, 161, 164, 165] a) rfl ha0) (zIn_all (l := [144, 150, 151, 152, 153, 156, 157, 161, 164, 165]) (p := fun a => zIn [144, 150, 151, 152, 153, 156, 157, 161, 164, 165] a) rfl ha4) hx1 hx5 H_4 h_16) rfl rfl ?_
    intro m_16 p_16 e_16 H_16
    subst e_16
    refine r_p hq 1 (pc' := 20) (L' := [(0, .ref a0), (1, .int X1), (2, .ref a2), (3, .int X3), (4, .ref a4), (5, .int X5)]) (st' := [.int ((1 : Int32))]) rfl ?_
    cases h
    exact r_ri hq (z_at.mk 1 rfl rfl) rfl rfl (rfl : (1 : Int32).toInt = 1) rfl H_16
def g_m_region_173 (x0 : Int) (σ : zS) : Option (Int × zS) :=
  some (w32 (340 + (w32 (10 * x0))), σ)
set_option maxHeartbeats 4000000 in
theorem g_m_region_173_ok {xl : Nat} {xs : Nat → Int32} {X0 : Int32} {x0 : Int} (hx0 : X0.toInt = x0) {σ : zS} {p : Nat} {m : zM} {o : Int × zS} (H : zRep xl xs p m σ) (h : g_m_region_173 x0 σ = some o) : zGo xl xs (fun p' => p = p') 1 173 0 (z_can 173 0 (lv_args 0 [.int X0])) [] m (vI o.1) o.2 := by
  have hq : z_mth 173 = some z_r173 := rfl
  unfold g_m_region_173 at h
  show zGo xl xs (fun p' => p = p') 1 173 0 [(0, .int X0)] [] m (vI o.1) o.2
  refine r_p hq 5 (pc' := 8) (L' := [(0, .int X0)]) (st' := [.int (((340 : Int32)) + (((10 : Int32)) * X0))]) rfl ?_
  cases h
  exact r_ri hq (z_at.mk 1 rfl rfl) rfl rfl (tx_iadd (rfl : (340 : Int32).toInt = 340) (tx_imul (rfl : (10 : Int32).toInt = 10) hx0)) rfl H
def g_m_rowAt (x0 : Int) (σ : zS) : Option (Int × zS) :=
  some (w32 (20 + (w32 (3 * x0))), σ)
set_option maxHeartbeats 4000000 in
theorem g_m_rowAt_ok {xl : Nat} {xs : Nat → Int32} {X0 : Int32} {x0 : Int} (hx0 : X0.toInt = x0) {σ : zS} {p : Nat} {m : zM} {o : Int × zS} (H : zRep xl xs p m σ) (h : g_m_rowAt x0 σ = some o) : zGo xl xs (fun p' => p = p') 1 174 0 (z_can 174 0 (lv_args 0 [.int X0])) [] m (vI o.1) o.2 := by
  have hq : z_mth 174 = some z_r174 := rfl
  unfold g_m_rowAt at h
  show zGo xl xs (fun p' => p = p') 1 174 0 [(0, .int X0)] [] m (vI o.1) o.2
  refine r_p hq 5 (pc' := 6) (L' := [(0, .int X0)]) (st' := [.int (((20 : Int32)) + (((3 : Int32)) * X0))]) rfl ?_
  cases h
  exact r_ri hq (z_at.mk 1 rfl rfl) rfl rfl (tx_iadd (rfl : (20 : Int32).toInt = 20) (tx_imul (rfl : (3 : Int32).toInt = 3) hx0)) rfl H
def g_m_rowsIn_L64 (a1 : Nat) (g5 : Int → Int → Int → zS → Option (Int × zS)) (x2 : Int) (x4 : Int) (xs0 : Int) (xs1 : Int) (σ : zS) : Option (Int × zS) :=
  g5 x2 (w32 (xs1 + xs0)) (w32 (x4 + 1)) σ
set_option maxHeartbeats 4000000 in
theorem g_m_rowsIn_L64_ok {xl : Nat} {xs : Nat → Int32} {a1 : Nat} (ha1 : zIn [144, 150, 151, 152, 153, 156, 157, 161, 164, 165] a1 = true) {g5 : Int → Int → Int → zS → Option (Int × zS)} (hg5 : ∀ {X2 : Int32} {x2 : Int} {X3 : Int32} {x3 : Int} {X4 : Int32} {x4 : Int} {σ : zS} {p : Nat} {m : zM} {o : Int × zS}, X2.toInt = x2 → X3.toInt = x3 → X4.toInt = x4 → zRep xl xs p m σ → g5 x2 x3 x4 σ = some o → zGo xl xs (fun p' => p = p') 3 175 5 [(0, .ref 143), (1, .ref a1), (2, .int X2), (3, .int X3), (4, .int X4)] [] m (vI o.1) o.2) {X2 : Int32} {x2 : Int} (hx2 : X2.toInt = x2) {X4 : Int32} {x4 : Int} (hx4 : X4.toInt = x4) {Xs0 : Int32} {xs0 : Int} (hxs0 : Xs0.toInt = xs0) {Xs1 : Int32} {xs1 : Int} (hxs1 : Xs1.toInt = xs1) {σ : zS} {p : Nat} {m : zM} {o : Int × zS} (H : zRep xl xs p m σ) (h : g_m_rowsIn_L64 a1 g5 x2 x4 xs0 xs1 σ = some o) : zGo xl xs (fun p' => p = p') 3 175 64 [(0, .ref 143), (1, .ref a1), (2, .int X2), (4, .int X4)] [.int Xs0, .int Xs1] m (vI o.1) o.2 := by
  have hq : z_mth 175 = some z_r175 := rfl
  unfold g_m_rowsIn_L64 at h
  refine r_p hq 4 (pc' := 5) (L' := [(0, .ref 143), (1, .ref a1), (2, .int X2), (3, .int (Xs1 + Xs0)), (4, .int (X4 + (1 : Int32)))]) (st' := []) rfl ?_
  exact hg5 hx2 (tx_iadd hxs1 hxs0) (tx_iadd hx4 (rfl : (1 : Int32).toInt = 1)) H h
def g_m_rowsIn_L63 (a1 : Nat) (g5 : Int → Int → Int → zS → Option (Int × zS)) (x2 : Int) (x4 : Int) (xs0 : Int) (σ : zS) : Option (Int × zS) :=
  g_m_rowsIn_L64 a1 g5 x2 x4 0 xs0 σ
set_option maxHeartbeats 4000000 in
theorem g_m_rowsIn_L63_ok {xl : Nat} {xs : Nat → Int32} {a1 : Nat} (ha1 : zIn [144, 150, 151, 152, 153, 156, 157, 161, 164, 165] a1 = true) {g5 : Int → Int → Int → zS → Option (Int × zS)} (hg5 : ∀ {X2 : Int32} {x2 : Int} {X3 : Int32} {x3 : Int} {X4 : Int32} {x4 : Int} {σ : zS} {p : Nat} {m : zM} {o : Int × zS}, X2.toInt = x2 → X3.toInt = x3 → X4.toInt = x4 → zRep xl xs p m σ → g5 x2 x3 x4 σ = some o → zGo xl xs (fun p' => p = p') 3 175 5 [(0, .ref 143), (1, .ref a1), (2, .int X2), (3, .int X3), (4, .int X4)] [] m (vI o.1) o.2) {X2 : Int32} {x2 : Int} (hx2 : X2.toInt = x2) {X4 : Int32} {x4 : Int} (hx4 : X4.toInt = x4) {Xs0 : Int32} {xs0 : Int} (hxs0 : Xs0.toInt = xs0) {σ : zS} {p : Nat} {m : zM} {o : Int × zS} (H : zRep xl xs p m σ) (h : g_m_rowsIn_L63 a1 g5 x2 x4 xs0 σ = some o) : zGo xl xs (fun p' => p = p') 3 175 63 [(0, .ref 143), (1, .ref a1), (2, .int X2), (4, .int X4)] [.int Xs0] m (vI o.1) o.2 := by
  have hq : z_mth 175 = some z_r175 := rfl
  unfold g_m_rowsIn_L63 at h
  refine r_p hq 1 (pc' := 64) (L' := [(0, .ref 143), (1, .ref a1), (2, .int X2), (4, .int X4)]) (st' := [.int ((0 : Int32)), .int Xs0]) rfl ?_
  exact g_m_rowsIn_L64_ok ha1 hg5 hx2 hx4 (rfl : (0 : Int32).toInt = 0) hxs0 H h
def g_m_rowsIn_L5 (a1 : Nat) : Nat → Int → Int → Int → zS → Option (Int × zS)
  | 0, _, _, _, _ => none
  | n + 1, x2, x3, x4, σ =>
    if 60 ≤ x4 then
      some (x3, σ)
    else
      (g_m_rowAt x4 σ).bind fun o_19 =>
      if 0 ≤ o_19.1 ∧ o_19.1 < 2740 then
      let v_22 := o_19.2 144 o_19.1
      if v_22 ≠ 1 then
        g_m_rowsIn_L63 a1 ((g_m_rowsIn_L5 a1 n)) x2 x4 x3 o_19.2
      else
        (g_m_rowAt x4 o_19.2).bind fun o_35 =>
        if 0 ≤ w32 (o_35.1 + 1) ∧ w32 (o_35.1 + 1) < 2740 then
        let v_40 := o_35.2 144 (w32 (o_35.1 + 1))
        (g_m_rowAt x4 o_35.2).bind fun o_47 =>
        if 0 ≤ w32 (o_47.1 + 2) ∧ w32 (o_47.1 + 2) < 2740 then
        let v_52 := o_47.2 144 (w32 (o_47.1 + 2))
        (g_m_has a1 x2 v_40 v_52 o_47.2).bind fun o_53 =>
        if o_53.1 = 0 then
          g_m_rowsIn_L63 a1 ((g_m_rowsIn_L5 a1 n)) x2 x4 x3 o_53.2
        else
          g_m_rowsIn_L64 a1 ((g_m_rowsIn_L5 a1 n)) x2 x4 1 x3 o_53.2
        else none
        else none
      else none
set_option maxHeartbeats 4000000 in
theorem g_m_rowsIn_L5_ok {xl : Nat} {xs : Nat → Int32} {a1 : Nat} (ha1 : zIn [144, 150, 151, 152, 153, 156, 157, 161, 164, 165] a1 = true) : ∀ (n : Nat) {X2 : Int32} {x2 : Int} {X3 : Int32} {x3 : Int} {X4 : Int32} {x4 : Int} {σ : zS} {p : Nat} {m : zM} {o : Int × zS}, X2.toInt = x2 → X3.toInt = x3 → X4.toInt = x4 → zRep xl xs p m σ → g_m_rowsIn_L5 a1 n x2 x3 x4 σ = some o → zGo xl xs (fun p' => p = p') 3 175 5 [(0, .ref 143), (1, .ref a1), (2, .int X2), (3, .int X3), (4, .int X4)] [] m (vI o.1) o.2
  | 0, _, _, _, _, _, _, _, _, _, _, _, _, _, _, h => by cases h
  | n + 1, X2, x2, X3, x3, X4, x4, σ, p, m, o, hx2, hx3, hx4, H, h => by
    have hq : z_mth 175 = some z_r175 := rfl
    have ih := fun {X2 : Int32} {x2 : Int} {X3 : Int32} {x3 : Int} {X4 : Int32} {x4 : Int} {σ : zS} {p : Nat} {m : zM} {o : Int × zS} => g_m_rowsIn_L5_ok (xl := xl) (xs := xs) ha1 n (X2 := X2) (x2 := x2) (X3 := X3) (x3 := x3) (X4 := X4) (x4 := x4) (σ := σ) (p := p) (m := m) (o := o)
    unfold g_m_rowsIn_L5 at h
    refine r_p hq 2 (pc' := 9) (L' := [(0, .ref 143), (1, .ref a1), (2, .int X2), (3, .int X3), (4, .int X4)]) (st' := [.int ((60 : Int32)), .int X4]) rfl ?_
    rcases z_ite h with ⟨c_9, h⟩ | ⟨c_9, h⟩
    · refine r_t2 (pc' := 72) (L' := [(0, .ref 143), (1, .ref a1), (2, .int X2), (3, .int X3), (4, .int X4)]) hq (z_at.mk 3 rfl rfl) rfl hx4 (rfl : (60 : Int32).toInt = 60) c_9 rfl rfl ?_
      refine r_p hq 1 (pc' := 73) (L' := [(0, .ref 143), (1, .ref a1), (2, .int X2), (3, .int X3), (4, .int X4)]) (st' := [.int X3]) rfl ?_
      cases h
      exact r_ri hq (z_at.mk 1 rfl rfl) rfl rfl hx3 rfl H
    · refine r_f2 (pc' := 12) (L' := [(0, .ref 143), (1, .ref a1), (2, .int X2), (3, .int X3), (4, .int X4)]) hq (z_at.mk 3 rfl rfl) rfl hx4 (rfl : (60 : Int32).toInt = 60) c_9 rfl rfl ?_
      refine r_p hq 2 (pc' := 14) (L' := [(0, .ref 143), (1, .ref a1), (2, .int X2), (3, .int X3), (4, .int X4)]) (st' := [.ref 143, .int X3]) rfl ?_
      refine r_gR (b := 144) (pc' := 17) (L' := [(0, .ref 143), (1, .ref a1), (2, .int X2), (3, .int X3), (4, .int X4)]) H hq (z_at.mk 3 rfl rfl) rfl rfl rfl rfl ?_
      refine r_p hq 1 (pc' := 19) (L' := [(0, .ref 143), (1, .ref a1), (2, .int X2), (3, .int X3), (4, .int X4)]) (st' := [.int X4, .ref 144, .int X3]) rfl ?_
      obtain ⟨o_19, h_19, h⟩ := Option.bind_eq_some_iff.mp h
      refine r_csI (pc' := 22) (L' := [(0, .ref 143), (1, .ref a1), (2, .int X2), (3, .int X3), (4, .int X4)]) (As := [.int X4]) (rest := [.ref 144, .int X3]) (j := 174) hq (z_at.mk 3 rfl rfl) (Or.inl ⟨rfl, rfl⟩) rfl rfl (by omega) (g_m_rowAt_ok hx4 H h_19) rfl rfl ?_
      intro R_19 m_19 p_19 e_19 hR_19 H_19
      subst e_19
      obtain ⟨g_22, h⟩ := z_ifo_some h
      refine r_ia (pc' := 23) (L' := [(0, .ref 143), (1, .ref a1), (2, .int X2), (3, .int X3), (4, .int X4)]) H_19 hq (z_at.mk 1 rfl rfl) (show zAr 144 0 2740 = true from rfl) hR_19 g_22 rfl rfl ?_
      intro V_22 hV_22
      refine r_p hq 1 (pc' := 24) (L' := [(0, .ref 143), (1, .ref a1), (2, .int X2), (3, .int X3), (4, .int X4)]) (st' := [.int ((1 : Int32)), .int V_22, .int X3]) rfl ?_
      rcases z_ite h with ⟨c_24, h⟩ | ⟨c_24, h⟩
      · refine r_t2 (pc' := 63) (L' := [(0, .ref 143), (1, .ref a1), (2, .int X2), (4, .int X4)]) hq (z_at.mk 3 rfl rfl) rfl hV_22 (rfl : (1 : Int32).toInt = 1) c_24 rfl rfl ?_
        exact g_m_rowsIn_L63_ok ha1 ih hx2 hx4 hx3 H_19 h
      · refine r_f2 (pc' := 27) (L' := [(0, .ref 143), (1, .ref a1), (2, .int X2), (3, .int X3), (4, .int X4)]) hq (z_at.mk 3 rfl rfl) rfl hV_22 (rfl : (1 : Int32).toInt = 1) c_24 rfl rfl ?_
        refine r_p hq 3 (pc' := 30) (L' := [(0, .ref 143), (1, .ref a1), (2, .int X2), (3, .int X3), (4, .int X4)]) (st' := [.ref 143, .int X2, .ref a1, .int X3]) rfl ?_
        refine r_gR (b := 144) (pc' := 33) (L' := [(0, .ref 143), (1, .ref a1), (2, .int X2), (3, .int X3), (4, .int X4)]) H_19 hq (z_at.mk 3 rfl rfl) rfl rfl rfl rfl ?_
        refine r_p hq 1 (pc' := 35) (L' := [(0, .ref 143), (1, .ref a1), (2, .int X2), (3, .int X3), (4, .int X4)]) (st' := [.int X4, .ref 144, .int X2, .ref a1, .int X3]) rfl ?_
        obtain ⟨o_35, h_35, h⟩ := Option.bind_eq_some_iff.mp h
        refine r_csI (pc' := 38) (L' := [(0, .ref 143), (1, .ref a1), (2, .int X2), (3, .int X3), (4, .int X4)]) (As := [.int X4]) (rest := [.ref 144, .int X2, .ref a1, .int X3]) (j := 174) hq (z_at.mk 3 rfl rfl) (Or.inl ⟨rfl, rfl⟩) rfl rfl (by omega) (g_m_rowAt_ok hx4 H_19 h_35) rfl rfl ?_
        intro R_35 m_35 p_35 e_35 hR_35 H_35
        subst e_35
        refine r_p hq 2 (pc' := 40) (L' := [(0, .ref 143), (1, .ref a1), (2, .int X2), (3, .int X3), (4, .int X4)]) (st' := [.int (R_35 + ((1 : Int32))), .ref 144, .int X2, .ref a1, .int X3]) rfl ?_
        obtain ⟨g_40, h⟩ := z_ifo_some h
        refine r_ia (pc' := 41) (L' := [(0, .ref 143), (1, .ref a1), (2, .int X2), (3, .int X3), (4, .int X4)]) H_35 hq (z_at.mk 1 rfl rfl) (show zAr 144 0 2740 = true from rfl) (tx_iadd hR_35 (rfl : (1 : Int32).toInt = 1)) g_40 rfl rfl ?_
        intro V_40 hV_40
        refine r_p hq 1 (pc' := 42) (L' := [(0, .ref 143), (1, .ref a1), (2, .int X2), (3, .int X3), (4, .int X4)]) (st' := [.ref 143, .int V_40, .int X2, .ref a1, .int X3]) rfl ?_
        refine r_gR (b := 144) (pc' := 45) (L' := [(0, .ref 143), (1, .ref a1), (2, .int X2), (3, .int X3), (4, .int X4)]) H_35 hq (z_at.mk 3 rfl rfl) rfl rfl rfl rfl ?_
        refine r_p hq 1 (pc' := 47) (L' := [(0, .ref 143), (1, .ref a1), (2, .int X2), (3, .int X3), (4, .int X4)]) (st' := [.int X4, .ref 144, .int V_40, .int X2, .ref a1, .int X3]) rfl ?_
        obtain ⟨o_47, h_47, h⟩ := Option.bind_eq_some_iff.mp h
        refine r_csI (pc' := 50) (L' := [(0, .ref 143), (1, .ref a1), (2, .int X2), (3, .int X3), (4, .int X4)]) (As := [.int X4]) (rest := [.ref 144, .int V_40, .int X2, .ref a1, .int X3]) (j := 174) hq (z_at.mk 3 rfl rfl) (Or.inl ⟨rfl, rfl⟩) rfl rfl (by omega) (g_m_rowAt_ok hx4 H_35 h_47) rfl rfl ?_
        intro R_47 m_47 p_47 e_47 hR_47 H_47
        subst e_47
        refine r_p hq 2 (pc' := 52) (L' := [(0, .ref 143), (1, .ref a1), (2, .int X2), (3, .int X3), (4, .int X4)]) (st' := [.int (R_47 + ((2 : Int32))), .ref 144, .int V_40, .int X2, .ref a1, .int X3]) rfl ?_
        obtain ⟨g_52, h⟩ := z_ifo_some h
        refine r_ia (pc' := 53) (L' := [(0, .ref 143), (1, .ref a1), (2, .int X2), (3, .int X3), (4, .int X4)]) H_47 hq (z_at.mk 1 rfl rfl) (show zAr 144 0 2740 = true from rfl) (tx_iadd hR_47 (rfl : (2 : Int32).toInt = 2)) g_52 rfl rfl ?_
        intro V_52 hV_52
        obtain ⟨o_53, h_53, h⟩ := Option.bind_eq_some_iff.mp h
        refine r_csI (pc' := 56) (L' := [(0, .ref 143), (1, .ref a1), (2, .int X2), (3, .int X3), (4, .int X4)]) (As := [.ref a1, .int X2, .int V_40, .int V_52]) (rest := [.int X3]) (j := 168) hq (z_at.mk 3 rfl rfl) (Or.inl ⟨rfl, rfl⟩) rfl rfl (by omega) (g_m_has_ok (zIn_all (l := [144, 150, 151, 152, 153, 156, 157, 161, 164, 165]) (p := fun a => zIn [144, 150, 151, 152, 153, 156, 157, 161, 164, 165] a) rfl ha1) hx2 hV_40 hV_52 H_47 h_53) rfl rfl ?_
        intro R_53 m_53 p_53 e_53 hR_53 H_53
        subst e_53
        rcases z_ite h with ⟨c_56, h⟩ | ⟨c_56, h⟩
        · refine r_t1 (pc' := 63) (L' := [(0, .ref 143), (1, .ref a1), (2, .int X2), (4, .int X4)]) hq (z_at.mk 3 rfl rfl) rfl hR_53 c_56 rfl rfl ?_
          exact g_m_rowsIn_L63_ok ha1 ih hx2 hx4 hx3 H_53 h
        · refine r_f1 (pc' := 59) (L' := [(0, .ref 143), (1, .ref a1), (2, .int X2), (3, .int X3), (4, .int X4)]) hq (z_at.mk 3 rfl rfl) rfl hR_53 c_56 rfl rfl ?_
          refine r_p hq 2 (pc' := 64) (L' := [(0, .ref 143), (1, .ref a1), (2, .int X2), (4, .int X4)]) (st' := [.int ((1 : Int32)), .int X3]) rfl ?_
          exact g_m_rowsIn_L64_ok ha1 ih hx2 hx4 (rfl : (1 : Int32).toInt = 1) hx3 H_53 h
def g_m_rowsIn (a1 : Nat) (x2 : Int) (σ : zS) : Option (Int × zS) :=
  g_m_rowsIn_L5 a1 zK x2 0 0 σ
set_option maxHeartbeats 4000000 in
theorem g_m_rowsIn_ok {xl : Nat} {xs : Nat → Int32} {a1 : Nat} (ha1 : zIn [144, 150, 151, 152, 153, 156, 157, 161, 164, 165] a1 = true) {X2 : Int32} {x2 : Int} (hx2 : X2.toInt = x2) {σ : zS} {p : Nat} {m : zM} {o : Int × zS} (H : zRep xl xs p m σ) (h : g_m_rowsIn a1 x2 σ = some o) : zGo xl xs (fun p' => p = p') 3 175 0 (z_can 175 0 (lv_args 0 [.ref 143, .ref a1, .int X2])) [] m (vI o.1) o.2 := by
  have hq : z_mth 175 = some z_r175 := rfl
  unfold g_m_rowsIn at h
  show zGo xl xs (fun p' => p = p') 3 175 0 [(0, .ref 143), (1, .ref a1), (2, .int X2)] [] m (vI o.1) o.2
  refine r_p hq 4 (pc' := 5) (L' := [(0, .ref 143), (1, .ref a1), (2, .int X2), (3, .int ((0 : Int32))), (4, .int ((0 : Int32)))]) (st' := []) rfl ?_
  exact g_m_rowsIn_L5_ok ha1 zK hx2 (rfl : (0 : Int32).toInt = 0) (rfl : (0 : Int32).toInt = 0) H h
end
