/-! THE METHODS over the typed memory, 4 (by wip/zg.py) -/
def g_jStringLatin1_indexOf (a0 : Nat) (x1 : Int) (x2 : Int) (x3 : Int) (σ : zS) : Option (Int × zS) :=
  (g_jStringLatin1_canEncode_310 x1 σ).bind fun o_1 =>
  if o_1.1 ≠ 0 then
    (g_jMath_max_289 x2 0 o_1.2).bind fun o_11 =>
    (g_jMath_min_291 x3 (zLI a0) o_11.2).bind fun o_18 =>
    if o_11.1 < o_18.1 then
      (g_jStringLatin1_indexOfChar a0 x1 o_11.1 o_18.1 o_18.2).bind fun o_33 =>
      some (o_33.1, o_33.2)
    else
      some (-1, o_18.2)
  else
    some (-1, o_1.2)
set_option maxHeartbeats 4000000 in
theorem g_jStringLatin1_indexOf_ok {xl : Nat} {xs : Nat → Int32} {a0 : Nat} (ha0 : zIn [19, 20, 21, 22, 23, 24, 25, 26, 27, 28, 29, 30, 31, 32, 33, 34, 35, 36] a0 = true) {X1 : Int32} {x1 : Int} (hx1 : X1.toInt = x1) {X2 : Int32} {x2 : Int} (hx2 : X2.toInt = x2) {X3 : Int32} {x3 : Int} (hx3 : X3.toInt = x3) {σ : zS} {p : Nat} {m : zM} {o : Int × zS} (H : zRep xl xs p m σ) (h : g_jStringLatin1_indexOf a0 x1 x2 x3 σ = some o) : zGo xl xs (fun p' => p = p') 2 311 0 (z_can 311 0 (lv_args 0 [.ref a0, .int X1, .int X2, .int X3])) [] m (vI o.1) o.2 := by
  have hq : z_mth 311 = some z_r311 := rfl
  unfold g_jStringLatin1_indexOf at h
  show zGo xl xs (fun p' => p = p') 2 311 0 [(0, .ref a0), (1, .int X1), (2, .int X2), (3, .int X3)] [] m (vI o.1) o.2
  refine r_p hq 1 (pc' := 1) (L' := [(0, .ref a0), (1, .int X1), (2, .int X2), (3, .int X3)]) (st' := [.int X1]) rfl ?_
  obtain ⟨o_1, h_1, h⟩ := Option.bind_eq_some_iff.mp h
  refine r_csI (pc' := 4) (L' := [(0, .ref a0), (1, .int X1), (2, .int X2), (3, .int X3)]) (As := [.int X1]) (rest := []) (j := 310) hq (z_at.mk 3 rfl rfl) (Or.inl ⟨rfl, rfl⟩) rfl rfl (by omega) (g_jStringLatin1_canEncode_310_ok hx1 H h_1) rfl rfl ?_
  intro R_1 m_1 p_1 e_1 hR_1 H_1
  subst e_1
  rcases z_ite h with ⟨c_4, h⟩ | ⟨c_4, h⟩
  · refine r_t1 (pc' := 9) (L' := [(0, .ref a0), (1, .int X1), (2, .int X2), (3, .int X3)]) hq (z_at.mk 3 rfl rfl) rfl hR_1 c_4 rfl rfl ?_
    refine r_p hq 2 (pc' := 11) (L' := [(0, .ref a0), (1, .int X1), (2, .int X2), (3, .int X3)]) (st' := [.int ((0 : Int32)), .int X2]) rfl ?_
    obtain ⟨o_11, h_11, h⟩ := Option.bind_eq_some_iff.mp h
    refine r_csI (pc' := 14) (L' := [(0, .ref a0), (1, .int X1), (2, .int X2), (3, .int X3)]) (As := [.int X2, .int ((0 : Int32))]) (rest := []) (j := 289) hq (z_at.mk 3 rfl rfl) (Or.inl ⟨rfl, rfl⟩) rfl rfl (by omega) (g_jMath_max_289_ok hx2 (rfl : (0 : Int32).toInt = 0) H_1 h_11) rfl rfl ?_
    intro R_11 m_11 p_11 e_11 hR_11 H_11
    subst e_11
    refine r_p hq 3 (pc' := 17) (L' := [(2, .int R_11), (0, .ref a0), (1, .int X1), (3, .int X3)]) (st' := [.ref a0, .int X3]) rfl ?_
    refine r_le0 (pc' := 18) (L' := [(2, .int R_11), (0, .ref a0), (1, .int X1), (3, .int X3)]) H_11 hq (z_at.mk 1 rfl rfl) (zIn_all (l := [19, 20, 21, 22, 23, 24, 25, 26, 27, 28, 29, 30, 31, 32, 33, 34, 35, 36]) (p := fun a => zAz (a + 0) 2 (zLI (a + 0))) rfl ha0) rfl rfl rfl ?_
    intro V_17 hV_17
    obtain ⟨o_18, h_18, h⟩ := Option.bind_eq_some_iff.mp h
    refine r_csI (pc' := 21) (L' := [(2, .int R_11), (0, .ref a0), (1, .int X1), (3, .int X3)]) (As := [.int X3, .int V_17]) (rest := []) (j := 291) hq (z_at.mk 3 rfl rfl) (Or.inl ⟨rfl, rfl⟩) rfl rfl (by omega) (g_jMath_min_291_ok hx3 hV_17 H_11 h_18) rfl rfl ?_
    intro R_18 m_18 p_18 e_18 hR_18 H_18
    subst e_18
    refine r_p hq 3 (pc' := 24) (L' := [(3, .int R_18), (2, .int R_11), (0, .ref a0), (1, .int X1)]) (st' := [.int R_18, .int R_11]) rfl ?_
    rcases z_ite h with ⟨c_24, h⟩ | ⟨c_24, h⟩
    · refine r_t2 (pc' := 29) (L' := [(3, .int R_18), (2, .int R_11), (0, .ref a0), (1, .int X1)]) hq (z_at.mk 3 rfl rfl) rfl hR_11 hR_18 c_24 rfl rfl ?_
      refine r_p hq 4 (pc' := 33) (L' := [(3, .int R_18), (2, .int R_11), (0, .ref a0), (1, .int X1)]) (st' := [.int R_18, .int R_11, .int X1, .ref a0]) rfl ?_
      obtain ⟨o_33, h_33, h⟩ := Option.bind_eq_some_iff.mp h
      refine r_csI (pc' := 36) (L' := [(3, .int R_18), (2, .int R_11), (0, .ref a0), (1, .int X1)]) (As := [.ref a0, .int X1, .int R_11, .int R_18]) (rest := []) (j := 312) hq (z_at.mk 3 rfl rfl) (Or.inl ⟨rfl, rfl⟩) rfl rfl (by omega) (g_jStringLatin1_indexOfChar_ok (zIn_all (l := [19, 20, 21, 22, 23, 24, 25, 26, 27, 28, 29, 30, 31, 32, 33, 34, 35, 36]) (p := fun a => zIn [19, 20, 21, 22, 23, 24, 25, 26, 27, 28, 29, 30, 31, 32, 33, 34, 35, 36] a) rfl ha0) hx1 hR_11 hR_18 H_18 h_33) rfl rfl ?_
      intro R_33 m_33 p_33 e_33 hR_33 H_33
      subst e_33
      cases h
      exact r_ri hq (z_at.mk 1 rfl rfl) rfl rfl hR_33 rfl H_33
    · refine r_f2 (pc' := 27) (L' := [(3, .int R_18), (2, .int R_11), (0, .ref a0), (1, .int X1)]) hq (z_at.mk 3 rfl rfl) rfl hR_11 hR_18 c_24 rfl rfl ?_
      refine r_p hq 1 (pc' := 28) (L' := [(3, .int R_18), (2, .int R_11), (0, .ref a0), (1, .int X1)]) (st' := [.int ((-1 : Int32))]) rfl ?_
      cases h
      exact r_ri hq (z_at.mk 1 rfl rfl) rfl rfl (rfl : (-1 : Int32).toInt = -1) rfl H_18
  · refine r_f1 (pc' := 7) (L' := [(0, .ref a0), (1, .int X1), (2, .int X2), (3, .int X3)]) hq (z_at.mk 3 rfl rfl) rfl hR_1 c_4 rfl rfl ?_
    refine r_p hq 1 (pc' := 8) (L' := [(0, .ref a0), (1, .int X1), (2, .int X2), (3, .int X3)]) (st' := [.int ((-1 : Int32))]) rfl ?_
    cases h
    exact r_ri hq (z_at.mk 1 rfl rfl) rfl rfl (rfl : (-1 : Int32).toInt = -1) rfl H_1
def g_jString_indexOf_296 (a0 : Nat) (x1 : Int) (x2 : Int) (σ : zS) : Option (Int × zS) :=
  (g_jString_isLatin1 a0 σ).bind fun o_1 =>
  if o_1.1 = 0 then
    (g_jString_length a0 o_1.2).bind fun o_30 =>
    none
  else
    (g_jString_length a0 o_1.2).bind fun o_14 =>
    (g_jStringLatin1_indexOf (a0 + 18) x1 x2 o_14.1 o_14.2).bind fun o_17 =>
    some (o_17.1, o_17.2)
set_option maxHeartbeats 4000000 in
theorem g_jString_indexOf_296_ok {xl : Nat} {xs : Nat → Int32} {a0 : Nat} (ha0 : zIn [1, 2, 3, 4, 5, 6, 7, 8, 9, 10, 11, 12, 13, 14, 15, 16, 17, 18] a0 = true) {X1 : Int32} {x1 : Int} (hx1 : X1.toInt = x1) {X2 : Int32} {x2 : Int} (hx2 : X2.toInt = x2) {σ : zS} {p : Nat} {m : zM} {o : Int × zS} (H : zRep xl xs p m σ) (h : g_jString_indexOf_296 a0 x1 x2 σ = some o) : zGo xl xs (fun p' => p = p') 3 296 0 (z_can 296 0 (lv_args 0 [.ref a0, .int X1, .int X2])) [] m (vI o.1) o.2 := by
  have hq : z_mth 296 = some z_r296 := rfl
  unfold g_jString_indexOf_296 at h
  show zGo xl xs (fun p' => p = p') 3 296 0 [(0, .ref a0), (1, .int X1), (2, .int X2)] [] m (vI o.1) o.2
  refine r_p hq 1 (pc' := 1) (L' := [(0, .ref a0), (1, .int X1), (2, .int X2)]) (st' := [.ref a0]) rfl ?_
  obtain ⟨o_1, h_1, h⟩ := Option.bind_eq_some_iff.mp h
  refine r_cvI (pc' := 4) (L' := [(0, .ref a0), (1, .int X1), (2, .int X2)]) (Ps := []) (rest := []) hq (z_at.mk 3 rfl rfl) (Or.inl ⟨rfl, rfl⟩) rfl rfl (by decide) (by decide) rfl (Nat.not_lt.mpr (Nat.le_of_ble_eq_true rfl)) rfl rfl (z_cat_le 0 rfl (by decide)) (z_lgl_le 1 rfl (by decide)) (by decide) (H.tg9 (zIn_all (l := [1, 2, 3, 4, 5, 6, 7, 8, 9, 10, 11, 12, 13, 14, 15, 16, 17, 18]) (p := fun a => zIn [1, 2, 3, 4, 5, 6, 7, 8, 9, 10, 11, 12, 13, 14, 15, 16, 17, 18] a) rfl ha0)) (by omega) (g_jString_isLatin1_ok (zIn_all (l := [1, 2, 3, 4, 5, 6, 7, 8, 9, 10, 11, 12, 13, 14, 15, 16, 17, 18]) (p := fun a => zIn [1, 2, 3, 4, 5, 6, 7, 8, 9, 10, 11, 12, 13, 14, 15, 16, 17, 18] a) rfl ha0) H h_1) rfl rfl ?_
  intro R_1 m_1 p_1 e_1 hR_1 H_1
  subst e_1
  rcases z_ite h with ⟨c_4, h⟩ | ⟨c_4, h⟩
  · refine r_t1 (pc' := 23) (L' := [(0, .ref a0), (1, .int X1), (2, .int X2)]) hq (z_at.mk 3 rfl rfl) rfl hR_1 c_4 rfl rfl ?_
    refine r_p hq 1 (pc' := 24) (L' := [(0, .ref a0), (1, .int X1), (2, .int X2)]) (st' := [.ref a0]) rfl ?_
    refine r_gsR (pc' := 27) (L' := [(0, .ref a0), (1, .int X1), (2, .int X2)]) H_1 hq (z_at.mk 3 rfl rfl) rfl (zIn_all (l := [1, 2, 3, 4, 5, 6, 7, 8, 9, 10, 11, 12, 13, 14, 15, 16, 17, 18]) (p := fun a => zIn [1, 2, 3, 4, 5, 6, 7, 8, 9, 10, 11, 12, 13, 14, 15, 16, 17, 18] a) rfl ha0) rfl rfl ?_
    refine r_p hq 3 (pc' := 30) (L' := [(0, .ref a0), (1, .int X1), (2, .int X2)]) (st' := [.ref a0, .int X2, .int X1, .ref (a0 + 18)]) rfl ?_
    obtain ⟨o_30, h_30, h⟩ := Option.bind_eq_some_iff.mp h
    refine r_cvI (pc' := 33) (L' := [(0, .ref a0), (1, .int X1), (2, .int X2)]) (Ps := []) (rest := [.int X2, .int X1, .ref (a0 + 18)]) hq (z_at.mk 3 rfl rfl) (Or.inl ⟨rfl, rfl⟩) rfl rfl (by decide) (by decide) rfl (Nat.not_lt.mpr (Nat.le_of_ble_eq_true rfl)) rfl rfl (z_cat_le 3 rfl (by decide)) (z_lgl_le 1 rfl (by decide)) (by decide) (H_1.tg9 (zIn_all (l := [1, 2, 3, 4, 5, 6, 7, 8, 9, 10, 11, 12, 13, 14, 15, 16, 17, 18]) (p := fun a => zIn [1, 2, 3, 4, 5, 6, 7, 8, 9, 10, 11, 12, 13, 14, 15, 16, 17, 18] a) rfl ha0)) (by omega) (g_jString_length_ok (zIn_all (l := [1, 2, 3, 4, 5, 6, 7, 8, 9, 10, 11, 12, 13, 14, 15, 16, 17, 18]) (p := fun a => zIn [1, 2, 3, 4, 5, 6, 7, 8, 9, 10, 11, 12, 13, 14, 15, 16, 17, 18] a) rfl ha0) H_1 h_30) rfl rfl ?_
    intro R_30 m_30 p_30 e_30 hR_30 H_30
    subst e_30
    cases h
  · refine r_f1 (pc' := 7) (L' := [(0, .ref a0), (1, .int X1), (2, .int X2)]) hq (z_at.mk 3 rfl rfl) rfl hR_1 c_4 rfl rfl ?_
    refine r_p hq 1 (pc' := 8) (L' := [(0, .ref a0), (1, .int X1), (2, .int X2)]) (st' := [.ref a0]) rfl ?_
    refine r_gsR (pc' := 11) (L' := [(0, .ref a0), (1, .int X1), (2, .int X2)]) H_1 hq (z_at.mk 3 rfl rfl) rfl (zIn_all (l := [1, 2, 3, 4, 5, 6, 7, 8, 9, 10, 11, 12, 13, 14, 15, 16, 17, 18]) (p := fun a => zIn [1, 2, 3, 4, 5, 6, 7, 8, 9, 10, 11, 12, 13, 14, 15, 16, 17, 18] a) rfl ha0) rfl rfl ?_
    refine r_p hq 3 (pc' := 14) (L' := [(0, .ref a0), (1, .int X1), (2, .int X2)]) (st' := [.ref a0, .int X2, .int X1, .ref (a0 + 18)]) rfl ?_
    obtain ⟨o_14, h_14, h⟩ := Option.bind_eq_some_iff.mp h
    refine r_cvI (pc' := 17) (L' := [(0, .ref a0), (1, .int X1), (2, .int X2)]) (Ps := []) (rest := [.int X2, .int X1, .ref (a0 + 18)]) hq (z_at.mk 3 rfl rfl) (Or.inl ⟨rfl, rfl⟩) rfl rfl (by decide) (by decide) rfl (Nat.not_lt.mpr (Nat.le_of_ble_eq_true rfl)) rfl rfl (z_cat_le 3 rfl (by decide)) (z_lgl_le 1 rfl (by decide)) (by decide) (H_1.tg9 (zIn_all (l := [1, 2, 3, 4, 5, 6, 7, 8, 9, 10, 11, 12, 13, 14, 15, 16, 17, 18]) (p := fun a => zIn [1, 2, 3, 4, 5, 6, 7, 8, 9, 10, 11, 12, 13, 14, 15, 16, 17, 18] a) rfl ha0)) (by omega) (g_jString_length_ok (zIn_all (l := [1, 2, 3, 4, 5, 6, 7, 8, 9, 10, 11, 12, 13, 14, 15, 16, 17, 18]) (p := fun a => zIn [1, 2, 3, 4, 5, 6, 7, 8, 9, 10, 11, 12, 13, 14, 15, 16, 17, 18] a) rfl ha0) H_1 h_14) rfl rfl ?_
    intro R_14 m_14 p_14 e_14 hR_14 H_14
    subst e_14
    obtain ⟨o_17, h_17, h⟩ := Option.bind_eq_some_iff.mp h
    refine r_csI (pc' := 20) (L' := [(0, .ref a0), (1, .int X1), (2, .int X2)]) (As := [.ref (a0 + 18), .int X1, .int X2, .int R_14]) (rest := []) (j := 311) hq (z_at.mk 3 rfl rfl) (Or.inl ⟨rfl, rfl⟩) rfl rfl (by omega) (g_jStringLatin1_indexOf_ok (zIn_all (l := [1, 2, 3, 4, 5, 6, 7, 8, 9, 10, 11, 12, 13, 14, 15, 16, 17, 18]) (p := fun a => zIn [19, 20, 21, 22, 23, 24, 25, 26, 27, 28, 29, 30, 31, 32, 33, 34, 35, 36] (a + 18)) rfl ha0) hx1 hx2 hR_14 H_14 h_17) rfl rfl ?_
    intro R_17 m_17 p_17 e_17 hR_17 H_17
    subst e_17
    refine r_p hq 1 (pc' := 36) (L' := []) (st' := [.int R_17]) rfl ?_
    cases h
    exact r_ri hq (z_at.mk 1 rfl rfl) rfl rfl hR_17 rfl H_17
def g_jString_indexOf_295 (a0 : Nat) (x1 : Int) (σ : zS) : Option (Int × zS) :=
  (g_jString_indexOf_296 a0 x1 0 σ).bind fun o_3 =>
  some (o_3.1, o_3.2)
set_option maxHeartbeats 4000000 in
theorem g_jString_indexOf_295_ok {xl : Nat} {xs : Nat → Int32} {a0 : Nat} (ha0 : zIn [1, 2, 3, 4, 5, 6, 7, 8, 9, 10, 11, 12, 13, 14, 15, 16, 17, 18] a0 = true) {X1 : Int32} {x1 : Int} (hx1 : X1.toInt = x1) {σ : zS} {p : Nat} {m : zM} {o : Int × zS} (H : zRep xl xs p m σ) (h : g_jString_indexOf_295 a0 x1 σ = some o) : zGo xl xs (fun p' => p = p') 4 295 0 (z_can 295 0 (lv_args 0 [.ref a0, .int X1])) [] m (vI o.1) o.2 := by
  have hq : z_mth 295 = some z_r295 := rfl
  unfold g_jString_indexOf_295 at h
  show zGo xl xs (fun p' => p = p') 4 295 0 [(0, .ref a0), (1, .int X1)] [] m (vI o.1) o.2
  refine r_p hq 3 (pc' := 3) (L' := [(0, .ref a0), (1, .int X1)]) (st' := [.int ((0 : Int32)), .int X1, .ref a0]) rfl ?_
  obtain ⟨o_3, h_3, h⟩ := Option.bind_eq_some_iff.mp h
  refine r_cvI (pc' := 6) (L' := [(0, .ref a0), (1, .int X1)]) (Ps := [.int X1, .int ((0 : Int32))]) (rest := []) hq (z_at.mk 3 rfl rfl) (Or.inl ⟨rfl, rfl⟩) rfl rfl (by decide) (by decide) rfl (Nat.not_lt.mpr (Nat.le_of_ble_eq_true rfl)) rfl rfl (z_cat_le 0 rfl (by decide)) (z_lgl_le 3 rfl (by decide)) (by decide) (H.tg9 (zIn_all (l := [1, 2, 3, 4, 5, 6, 7, 8, 9, 10, 11, 12, 13, 14, 15, 16, 17, 18]) (p := fun a => zIn [1, 2, 3, 4, 5, 6, 7, 8, 9, 10, 11, 12, 13, 14, 15, 16, 17, 18] a) rfl ha0)) (by omega) (g_jString_indexOf_296_ok (zIn_all (l := [1, 2, 3, 4, 5, 6, 7, 8, 9, 10, 11, 12, 13, 14, 15, 16, 17, 18]) (p := fun a => zIn [1, 2, 3, 4, 5, 6, 7, 8, 9, 10, 11, 12, 13, 14, 15, 16, 17, 18] a) rfl ha0) hx1 (rfl : (0 : Int32).toInt = 0) H h_3) rfl rfl ?_
  intro R_3 m_3 p_3 e_3 hR_3 H_3
  subst e_3
  cases h
  exact r_ri hq (z_at.mk 1 rfl rfl) rfl rfl hR_3 rfl H_3
def g_ta_oneOf (a1 : Nat) (σ : zS) : Option (Int × zS) :=
  (g_ta_here σ).bind fun o_2 =>
  (g_jString_indexOf_295 a1 (w16 o_2.1) o_2.2).bind fun o_6 =>
  if 0 ≤ o_6.1 then
    let v_27 := o_6.2 120 2
    let s_32 := zu o_6.2 120 2 (w32 (v_27 + 1))
    some (o_6.1, s_32)
  else
    let v_16 := o_6.2 120 2
    (g_ta_blame v_16 o_6.2).bind fun o_19 =>
    some (o_6.1, o_19.2)
set_option maxHeartbeats 4000000 in
theorem g_ta_oneOf_ok {xl : Nat} {xs : Nat → Int32} {a1 : Nat} (ha1 : zIn [1, 2, 3, 4, 5, 6, 7, 8, 9, 10, 11, 12, 13, 14, 15, 16, 17, 18] a1 = true) {σ : zS} {p : Nat} {m : zM} {o : Int × zS} (H : zRep xl xs p m σ) (h : g_ta_oneOf a1 σ = some o) : zGo xl xs (fun p' => p = p') 5 99 0 (z_can 99 0 (lv_args 0 [.ref 120, .ref a1])) [] m (vI o.1) o.2 := by
  have hq : z_mth 99 = some z_r99 := rfl
  unfold g_ta_oneOf at h
  show zGo xl xs (fun p' => p = p') 5 99 0 [(0, .ref 120), (1, .ref a1)] [] m (vI o.1) o.2
  refine r_p hq 2 (pc' := 2) (L' := [(0, .ref 120), (1, .ref a1)]) (st' := [.ref 120, .ref a1]) rfl ?_
  obtain ⟨o_2, h_2, h⟩ := Option.bind_eq_some_iff.mp h
  refine r_cvI (pc' := 5) (L' := [(0, .ref 120), (1, .ref a1)]) (Ps := []) (rest := [.ref a1]) hq (z_at.mk 3 rfl rfl) (Or.inl ⟨rfl, rfl⟩) rfl rfl (by decide) (by decide) rfl (Nat.not_lt.mpr (Nat.le_of_ble_eq_true rfl)) rfl rfl (z_cat_le 1 rfl (by decide)) (z_lgl_le 1 rfl (by decide)) (by decide) (H.tg rfl) (by omega) (g_ta_here_ok H h_2) rfl rfl ?_
  intro R_2 m_2 p_2 e_2 hR_2 H_2
  subst e_2
  refine r_p hq 1 (pc' := 6) (L' := [(0, .ref 120), (1, .ref a1)]) (st' := [.int ((R_2.toUInt32 % 65536).toInt32), .ref a1]) rfl ?_
  obtain ⟨o_6, h_6, h⟩ := Option.bind_eq_some_iff.mp h
  refine r_cvI (pc' := 9) (L' := [(0, .ref 120), (1, .ref a1)]) (Ps := [.int ((R_2.toUInt32 % 65536).toInt32)]) (rest := []) hq (z_at.mk 3 rfl rfl) (Or.inl ⟨rfl, rfl⟩) rfl rfl (by decide) (by decide) rfl (Nat.not_lt.mpr (Nat.le_of_ble_eq_true rfl)) rfl rfl (z_cat_le 0 rfl (by decide)) (z_lgl_le 2 rfl (by decide)) (by decide) (H_2.tg9 (zIn_all (l := [1, 2, 3, 4, 5, 6, 7, 8, 9, 10, 11, 12, 13, 14, 15, 16, 17, 18]) (p := fun a => zIn [1, 2, 3, 4, 5, 6, 7, 8, 9, 10, 11, 12, 13, 14, 15, 16, 17, 18] a) rfl ha1)) (by omega) (g_jString_indexOf_295_ok (zIn_all (l := [1, 2, 3, 4, 5, 6, 7, 8, 9, 10, 11, 12, 13, 14, 15, 16, 17, 18]) (p := fun a => zIn [1, 2, 3, 4, 5, 6, 7, 8, 9, 10, 11, 12, 13, 14, 15, 16, 17, 18] a) rfl ha1) (tx_i2c hR_2) H_2 h_6) rfl rfl ?_
  intro R_6 m_6 p_6 e_6 hR_6 H_6
  subst e_6
  refine r_p hq 2 (pc' := 11) (L' := [(2, .int R_6), (0, .ref 120), (1, .ref a1)]) (st' := [.int R_6]) rfl ?_
  rcases z_ite h with ⟨c_11, h⟩ | ⟨c_11, h⟩
  · refine r_t1 (pc' := 25) (L' := [(2, .int R_6), (0, .ref 120), (1, .ref a1)]) hq (z_at.mk 3 rfl rfl) rfl hR_6 c_11 rfl rfl ?_
    refine r_p hq 2 (pc' := 27) (L' := [(2, .int R_6), (0, .ref 120), (1, .ref a1)]) (st' := [.ref 120, .ref 120]) rfl ?_
    refine r_gI (pc' := 30) (L' := [(2, .int R_6), (0, .ref 120), (1, .ref a1)]) H_6 hq (z_at.mk 3 rfl rfl) rfl rfl rfl rfl ?_
    intro V_27 hV_27
    refine r_p hq 2 (pc' := 32) (L' := [(2, .int R_6), (0, .ref 120), (1, .ref a1)]) (st' := [.int (V_27 + ((1 : Int32))), .ref 120]) rfl ?_
    refine r_pI (X := V_27 + ((1 : Int32))) (pc' := 35) (L' := [(2, .int R_6)]) H_6 hq (z_at.mk 3 rfl rfl) rfl rfl (tx_iadd hV_27 (rfl : (1 : Int32).toInt = 1)) (by decide) rfl rfl rfl rfl ?_
    intro m_32 H_32
    refine r_p hq 1 (pc' := 36) (L' := [(2, .int R_6)]) (st' := [.int R_6]) rfl ?_
    cases h
    exact r_ri hq (z_at.mk 1 rfl rfl) rfl rfl hR_6 rfl H_32
  · refine r_f1 (pc' := 14) (L' := [(2, .int R_6), (0, .ref 120), (1, .ref a1)]) hq (z_at.mk 3 rfl rfl) rfl hR_6 c_11 rfl rfl ?_
    refine r_p hq 2 (pc' := 16) (L' := [(2, .int R_6), (0, .ref 120), (1, .ref a1)]) (st' := [.ref 120, .ref 120]) rfl ?_
    refine r_gI (pc' := 19) (L' := [(2, .int R_6), (0, .ref 120), (1, .ref a1)]) H_6 hq (z_at.mk 3 rfl rfl) rfl rfl rfl rfl ?_
    intro V_16 hV_16
    obtain ⟨o_19, h_19, h⟩ := Option.bind_eq_some_iff.mp h
    refine r_cvV (pc' := 22) (L' := [(2, .int R_6), (0, .ref 120), (1, .ref a1)]) (Ps := [.int V_16]) (rest := []) hq (z_at.mk 3 rfl rfl) (Or.inl ⟨rfl, rfl⟩) rfl rfl (by decide) (by decide) rfl (Nat.not_lt.mpr (Nat.le_of_ble_eq_true rfl)) rfl rfl (z_cat_le 0 rfl (by decide)) (z_lgl_le 2 rfl (by decide)) (by decide) (H_6.tg rfl) (by omega) (g_ta_blame_ok hV_16 H_6 h_19) rfl rfl ?_
    intro m_19 p_19 e_19 H_19
    subst e_19
    refine r_p hq 2 (pc' := 36) (L' := [(2, .int R_6)]) (st' := [.int R_6]) rfl ?_
    cases h
    exact r_ri hq (z_at.mk 1 rfl rfl) rfl rfl hR_6 rfl H_19
def g_ta_number_L88 (x4 : Int) (x5 : Int) (σ : zS) : Option (Int × zS) :=
  (g_ta_blame x4 σ).bind fun o_91 =>
  some (x5, o_91.2)
set_option maxHeartbeats 4000000 in
theorem g_ta_number_L88_ok {xl : Nat} {xs : Nat → Int32} {X4 : Int32} {x4 : Int} (hx4 : X4.toInt = x4) {X5 : Int32} {x5 : Int} (hx5 : X5.toInt = x5) {σ : zS} {p : Nat} {m : zM} {o : Int × zS} (H : zRep xl xs p m σ) (h : g_ta_number_L88 x4 x5 σ = some o) : zGo xl xs (fun p' => p = p') 2 101 88 [(0, .ref 120), (4, .int X4), (5, .int X5)] [] m (vI o.1) o.2 := by
  have hq : z_mth 101 = some z_r101 := rfl
  unfold g_ta_number_L88 at h
  refine r_p hq 2 (pc' := 91) (L' := [(0, .ref 120), (4, .int X4), (5, .int X5)]) (st' := [.int X4, .ref 120]) rfl ?_
  obtain ⟨o_91, h_91, h⟩ := Option.bind_eq_some_iff.mp h
  refine r_cvV (pc' := 94) (L' := [(5, .int X5)]) (Ps := [.int X4]) (rest := []) hq (z_at.mk 3 rfl rfl) (Or.inl ⟨rfl, rfl⟩) rfl rfl (by decide) (by decide) rfl (Nat.not_lt.mpr (Nat.le_of_ble_eq_true rfl)) rfl rfl (z_cat_le 0 rfl (by decide)) (z_lgl_le 2 rfl (by decide)) (by decide) (H.tg rfl) (by omega) (g_ta_blame_ok hx4 H h_91) rfl rfl ?_
  intro m_91 p_91 e_91 H_91
  subst e_91
  refine r_p hq 1 (pc' := 96) (L' := [(5, .int X5)]) (st' := [.int X5]) rfl ?_
  cases h
  exact r_ri hq (z_at.mk 1 rfl rfl) rfl rfl hx5 rfl H_91
def g_ta_number_L67 (x2 : Int) (x3 : Int) (x4 : Int) (x5 : Int) (σ : zS) : Option (Int × zS) :=
  let v_68 := σ 120 2
  if v_68 = x4 then
    g_ta_number_L88 x4 x5 σ
  else
    if x5 < x2 then
      g_ta_number_L88 x4 x5 σ
    else
      if x5 ≤ x3 then
        some (x5, σ)
      else
        g_ta_number_L88 x4 x5 σ
set_option maxHeartbeats 4000000 in
theorem g_ta_number_L67_ok {xl : Nat} {xs : Nat → Int32} {X2 : Int32} {x2 : Int} (hx2 : X2.toInt = x2) {X3 : Int32} {x3 : Int} (hx3 : X3.toInt = x3) {X4 : Int32} {x4 : Int} (hx4 : X4.toInt = x4) {X5 : Int32} {x5 : Int} (hx5 : X5.toInt = x5) {σ : zS} {p : Nat} {m : zM} {o : Int × zS} (H : zRep xl xs p m σ) (h : g_ta_number_L67 x2 x3 x4 x5 σ = some o) : zGo xl xs (fun p' => p = p') 2 101 67 [(0, .ref 120), (2, .int X2), (3, .int X3), (4, .int X4), (5, .int X5)] [] m (vI o.1) o.2 := by
  have hq : z_mth 101 = some z_r101 := rfl
  unfold g_ta_number_L67 at h
  refine r_p hq 1 (pc' := 68) (L' := [(0, .ref 120), (2, .int X2), (3, .int X3), (4, .int X4), (5, .int X5)]) (st' := [.ref 120]) rfl ?_
  refine r_gI (pc' := 71) (L' := [(0, .ref 120), (2, .int X2), (3, .int X3), (4, .int X4), (5, .int X5)]) H hq (z_at.mk 3 rfl rfl) rfl rfl rfl rfl ?_
  intro V_68 hV_68
  refine r_p hq 1 (pc' := 73) (L' := [(0, .ref 120), (2, .int X2), (3, .int X3), (4, .int X4), (5, .int X5)]) (st' := [.int X4, .int V_68]) rfl ?_
  rcases z_ite h with ⟨c_73, h⟩ | ⟨c_73, h⟩
  · refine r_t2 (pc' := 88) (L' := [(0, .ref 120), (4, .int X4), (5, .int X5)]) hq (z_at.mk 3 rfl rfl) rfl hV_68 hx4 c_73 rfl rfl ?_
    exact g_ta_number_L88_ok hx4 hx5 H h
  · refine r_f2 (pc' := 76) (L' := [(0, .ref 120), (2, .int X2), (3, .int X3), (4, .int X4), (5, .int X5)]) hq (z_at.mk 3 rfl rfl) rfl hV_68 hx4 c_73 rfl rfl ?_
    refine r_p hq 2 (pc' := 79) (L' := [(0, .ref 120), (2, .int X2), (3, .int X3), (4, .int X4), (5, .int X5)]) (st' := [.int X2, .int X5]) rfl ?_
    rcases z_ite h with ⟨c_79, h⟩ | ⟨c_79, h⟩
    · refine r_t2 (pc' := 88) (L' := [(0, .ref 120), (4, .int X4), (5, .int X5)]) hq (z_at.mk 3 rfl rfl) rfl hx5 hx2 c_79 rfl rfl ?_
      exact g_ta_number_L88_ok hx4 hx5 H h
    · refine r_f2 (pc' := 82) (L' := [(0, .ref 120), (2, .int X2), (3, .int X3), (4, .int X4), (5, .int X5)]) hq (z_at.mk 3 rfl rfl) rfl hx5 hx2 c_79 rfl rfl ?_
      refine r_p hq 2 (pc' := 85) (L' := [(0, .ref 120), (2, .int X2), (3, .int X3), (4, .int X4), (5, .int X5)]) (st' := [.int X3, .int X5]) rfl ?_
      rcases z_ite h with ⟨c_85, h⟩ | ⟨c_85, h⟩
      · refine r_t2 (pc' := 94) (L' := [(5, .int X5)]) hq (z_at.mk 3 rfl rfl) rfl hx5 hx3 c_85 rfl rfl ?_
        refine r_p hq 1 (pc' := 96) (L' := [(5, .int X5)]) (st' := [.int X5]) rfl ?_
        cases h
        exact r_ri hq (z_at.mk 1 rfl rfl) rfl rfl hx5 rfl H
      · refine r_f2 (pc' := 88) (L' := [(0, .ref 120), (4, .int X4), (5, .int X5)]) hq (z_at.mk 3 rfl rfl) rfl hx5 hx3 c_85 rfl rfl ?_
        exact g_ta_number_L88_ok hx4 hx5 H h
def g_ta_number_L12 : Nat → Int → Int → Int → Int → Int → Int → zS → Option (Int × zS)
  | 0, _, _, _, _, _, _, _ => none
  | n + 1, x1, x2, x3, x4, x5, x6, σ =>
    if x1 ≤ x6 then
      g_ta_number_L67 x2 x3 x4 x5 σ
    else
      (g_ta_here σ).bind fun o_19 =>
      if o_19.1 < 48 then
        g_ta_number_L67 x2 x3 x4 x5 o_19.2
      else
        (g_ta_here o_19.2).bind fun o_28 =>
        if 57 < o_28.1 then
          g_ta_number_L67 x2 x3 x4 x5 o_28.2
        else
          (g_ta_here o_28.2).bind fun o_42 =>
          let v_53 := o_42.2 120 2
          let s_58 := zu o_42.2 120 2 (w32 (v_53 + 1))
          (g_ta_number_L12 n) x1 x2 x3 x4 (w32 ((w32 ((w32 (x5 * 10)) + o_42.1)) - 48)) (w32 (x6 + 1)) s_58
set_option maxHeartbeats 4000000 in
theorem g_ta_number_L12_ok {xl : Nat} {xs : Nat → Int32} : ∀ (n : Nat) {X1 : Int32} {x1 : Int} {X2 : Int32} {x2 : Int} {X3 : Int32} {x3 : Int} {X4 : Int32} {x4 : Int} {X5 : Int32} {x5 : Int} {X6 : Int32} {x6 : Int} {σ : zS} {p : Nat} {m : zM} {o : Int × zS}, X1.toInt = x1 → X2.toInt = x2 → X3.toInt = x3 → X4.toInt = x4 → X5.toInt = x5 → X6.toInt = x6 → zRep xl xs p m σ → g_ta_number_L12 n x1 x2 x3 x4 x5 x6 σ = some o → zGo xl xs (fun p' => p = p') 2 101 12 [(0, .ref 120), (1, .int X1), (2, .int X2), (3, .int X3), (4, .int X4), (5, .int X5), (6, .int X6)] [] m (vI o.1) o.2
  | 0, _, _, _, _, _, _, _, _, _, _, _, _, _, _, _, _, _, _, _, _, _, _, _, h => by cases h
  | n + 1, X1, x1, X2, x2, X3, x3, X4, x4, X5, x5, X6, x6, σ, p, m, o, hx1, hx2, hx3, hx4, hx5, hx6, H, h => by
    have hq : z_mth 101 = some z_r101 := rfl
    have ih := fun {X1 : Int32} {x1 : Int} {X2 : Int32} {x2 : Int} {X3 : Int32} {x3 : Int} {X4 : Int32} {x4 : Int} {X5 : Int32} {x5 : Int} {X6 : Int32} {x6 : Int} {σ : zS} {p : Nat} {m : zM} {o : Int × zS} => g_ta_number_L12_ok (xl := xl) (xs := xs) n (X1 := X1) (x1 := x1) (X2 := X2) (x2 := x2) (X3 := X3) (x3 := x3) (X4 := X4) (x4 := x4) (X5 := X5) (x5 := x5) (X6 := X6) (x6 := x6) (σ := σ) (p := p) (m := m) (o := o)
    unfold g_ta_number_L12 at h
    refine r_p hq 2 (pc' := 15) (L' := [(0, .ref 120), (1, .int X1), (2, .int X2), (3, .int X3), (4, .int X4), (5, .int X5), (6, .int X6)]) (st' := [.int X1, .int X6]) rfl ?_
    rcases z_ite h with ⟨c_15, h⟩ | ⟨c_15, h⟩
    · refine r_t2 (pc' := 67) (L' := [(0, .ref 120), (2, .int X2), (3, .int X3), (4, .int X4), (5, .int X5)]) hq (z_at.mk 3 rfl rfl) rfl hx6 hx1 c_15 rfl rfl ?_
      exact g_ta_number_L67_ok hx2 hx3 hx4 hx5 H h
    · refine r_f2 (pc' := 18) (L' := [(0, .ref 120), (1, .int X1), (2, .int X2), (3, .int X3), (4, .int X4), (5, .int X5), (6, .int X6)]) hq (z_at.mk 3 rfl rfl) rfl hx6 hx1 c_15 rfl rfl ?_
      refine r_p hq 1 (pc' := 19) (L' := [(0, .ref 120), (1, .int X1), (2, .int X2), (3, .int X3), (4, .int X4), (5, .int X5), (6, .int X6)]) (st' := [.ref 120]) rfl ?_
      obtain ⟨o_19, h_19, h⟩ := Option.bind_eq_some_iff.mp h
      refine r_cvI (pc' := 22) (L' := [(0, .ref 120), (1, .int X1), (2, .int X2), (3, .int X3), (4, .int X4), (5, .int X5), (6, .int X6)]) (Ps := []) (rest := []) hq (z_at.mk 3 rfl rfl) (Or.inl ⟨rfl, rfl⟩) rfl rfl (by decide) (by decide) rfl (Nat.not_lt.mpr (Nat.le_of_ble_eq_true rfl)) rfl rfl (z_cat_le 0 rfl (by decide)) (z_lgl_le 1 rfl (by decide)) (by decide) (H.tg rfl) (by omega) (g_ta_here_ok H h_19) rfl rfl ?_
      intro R_19 m_19 p_19 e_19 hR_19 H_19
      subst e_19
      refine r_p hq 1 (pc' := 24) (L' := [(0, .ref 120), (1, .int X1), (2, .int X2), (3, .int X3), (4, .int X4), (5, .int X5), (6, .int X6)]) (st' := [.int ((48 : Int32)), .int R_19]) rfl ?_
      rcases z_ite h with ⟨c_24, h⟩ | ⟨c_24, h⟩
      · refine r_t2 (pc' := 67) (L' := [(0, .ref 120), (2, .int X2), (3, .int X3), (4, .int X4), (5, .int X5)]) hq (z_at.mk 3 rfl rfl) rfl hR_19 (rfl : (48 : Int32).toInt = 48) c_24 rfl rfl ?_
        exact g_ta_number_L67_ok hx2 hx3 hx4 hx5 H_19 h
      · refine r_f2 (pc' := 27) (L' := [(0, .ref 120), (1, .int X1), (2, .int X2), (3, .int X3), (4, .int X4), (5, .int X5), (6, .int X6)]) hq (z_at.mk 3 rfl rfl) rfl hR_19 (rfl : (48 : Int32).toInt = 48) c_24 rfl rfl ?_
        refine r_p hq 1 (pc' := 28) (L' := [(0, .ref 120), (1, .int X1), (2, .int X2), (3, .int X3), (4, .int X4), (5, .int X5), (6, .int X6)]) (st' := [.ref 120]) rfl ?_
        obtain ⟨o_28, h_28, h⟩ := Option.bind_eq_some_iff.mp h
        refine r_cvI (pc' := 31) (L' := [(0, .ref 120), (1, .int X1), (2, .int X2), (3, .int X3), (4, .int X4), (5, .int X5), (6, .int X6)]) (Ps := []) (rest := []) hq (z_at.mk 3 rfl rfl) (Or.inl ⟨rfl, rfl⟩) rfl rfl (by decide) (by decide) rfl (Nat.not_lt.mpr (Nat.le_of_ble_eq_true rfl)) rfl rfl (z_cat_le 0 rfl (by decide)) (z_lgl_le 1 rfl (by decide)) (by decide) (H_19.tg rfl) (by omega) (g_ta_here_ok H_19 h_28) rfl rfl ?_
        intro R_28 m_28 p_28 e_28 hR_28 H_28
        subst e_28
        refine r_p hq 1 (pc' := 33) (L' := [(0, .ref 120), (1, .int X1), (2, .int X2), (3, .int X3), (4, .int X4), (5, .int X5), (6, .int X6)]) (st' := [.int ((57 : Int32)), .int R_28]) rfl ?_
        rcases z_ite h with ⟨c_33, h⟩ | ⟨c_33, h⟩
        · refine r_t2 (pc' := 67) (L' := [(0, .ref 120), (2, .int X2), (3, .int X3), (4, .int X4), (5, .int X5)]) hq (z_at.mk 3 rfl rfl) rfl hR_28 (rfl : (57 : Int32).toInt = 57) c_33 rfl rfl ?_
          exact g_ta_number_L67_ok hx2 hx3 hx4 hx5 H_28 h
        · refine r_f2 (pc' := 36) (L' := [(0, .ref 120), (1, .int X1), (2, .int X2), (3, .int X3), (4, .int X4), (5, .int X5), (6, .int X6)]) hq (z_at.mk 3 rfl rfl) rfl hR_28 (rfl : (57 : Int32).toInt = 57) c_33 rfl rfl ?_
          refine r_p hq 4 (pc' := 42) (L' := [(0, .ref 120), (1, .int X1), (2, .int X2), (3, .int X3), (4, .int X4), (5, .int X5), (6, .int X6)]) (st' := [.ref 120, .int (X5 * ((10 : Int32)))]) rfl ?_
          obtain ⟨o_42, h_42, h⟩ := Option.bind_eq_some_iff.mp h
          refine r_cvI (pc' := 45) (L' := [(0, .ref 120), (1, .int X1), (2, .int X2), (3, .int X3), (4, .int X4), (5, .int X5), (6, .int X6)]) (Ps := []) (rest := [.int (X5 * ((10 : Int32)))]) hq (z_at.mk 3 rfl rfl) (Or.inl ⟨rfl, rfl⟩) rfl rfl (by decide) (by decide) rfl (Nat.not_lt.mpr (Nat.le_of_ble_eq_true rfl)) rfl rfl (z_cat_le 1 rfl (by decide)) (z_lgl_le 1 rfl (by decide)) (by decide) (H_28.tg rfl) (by omega) (g_ta_here_ok H_28 h_42) rfl rfl ?_
          intro R_42 m_42 p_42 e_42 hR_42 H_42
          subst e_42
          refine r_p hq 6 (pc' := 53) (L' := [(5, .int (((X5 * ((10 : Int32))) + R_42) - ((48 : Int32)))), (0, .ref 120), (1, .int X1), (2, .int X2), (3, .int X3), (4, .int X4), (6, .int X6)]) (st' := [.ref 120, .ref 120]) rfl ?_
          refine r_gI (pc' := 56) (L' := [(5, .int (((X5 * ((10 : Int32))) + R_42) - ((48 : Int32)))), (0, .ref 120), (1, .int X1), (2, .int X2), (3, .int X3), (4, .int X4), (6, .int X6)]) H_42 hq (z_at.mk 3 rfl rfl) rfl rfl rfl rfl ?_
          intro V_53 hV_53
          refine r_p hq 2 (pc' := 58) (L' := [(5, .int (((X5 * ((10 : Int32))) + R_42) - ((48 : Int32)))), (0, .ref 120), (1, .int X1), (2, .int X2), (3, .int X3), (4, .int X4), (6, .int X6)]) (st' := [.int (V_53 + ((1 : Int32))), .ref 120]) rfl ?_
          refine r_pI (X := V_53 + ((1 : Int32))) (pc' := 61) (L' := [(5, .int (((X5 * ((10 : Int32))) + R_42) - ((48 : Int32)))), (0, .ref 120), (1, .int X1), (2, .int X2), (3, .int X3), (4, .int X4), (6, .int X6)]) H_42 hq (z_at.mk 3 rfl rfl) rfl rfl (tx_iadd hV_53 (rfl : (1 : Int32).toInt = 1)) (by decide) rfl rfl rfl rfl ?_
          intro m_58 H_58
          refine r_p hq 2 (pc' := 12) (L' := [(0, .ref 120), (1, .int X1), (2, .int X2), (3, .int X3), (4, .int X4), (5, .int (((X5 * ((10 : Int32))) + R_42) - ((48 : Int32)))), (6, .int (X6 + (1 : Int32)))]) (st' := []) rfl ?_
          exact ih hx1 hx2 hx3 hx4 (tx_isub (tx_iadd (tx_imul hx5 (rfl : (10 : Int32).toInt = 10)) hR_42) (rfl : (48 : Int32).toInt = 48)) (tx_iadd hx6 (rfl : (1 : Int32).toInt = 1)) H_58 h
def g_ta_number (x1 : Int) (x2 : Int) (x3 : Int) (σ : zS) : Option (Int × zS) :=
  let v_1 := σ 120 2
  g_ta_number_L12 zK x1 x2 x3 v_1 0 0 σ
set_option maxHeartbeats 4000000 in
theorem g_ta_number_ok {xl : Nat} {xs : Nat → Int32} {X1 : Int32} {x1 : Int} (hx1 : X1.toInt = x1) {X2 : Int32} {x2 : Int} (hx2 : X2.toInt = x2) {X3 : Int32} {x3 : Int} (hx3 : X3.toInt = x3) {σ : zS} {p : Nat} {m : zM} {o : Int × zS} (H : zRep xl xs p m σ) (h : g_ta_number x1 x2 x3 σ = some o) : zGo xl xs (fun p' => p = p') 2 101 0 (z_can 101 0 (lv_args 0 [.ref 120, .int X1, .int X2, .int X3])) [] m (vI o.1) o.2 := by
  have hq : z_mth 101 = some z_r101 := rfl
  unfold g_ta_number at h
  show zGo xl xs (fun p' => p = p') 2 101 0 [(0, .ref 120), (1, .int X1), (2, .int X2), (3, .int X3)] [] m (vI o.1) o.2
  refine r_p hq 1 (pc' := 1) (L' := [(0, .ref 120), (1, .int X1), (2, .int X2), (3, .int X3)]) (st' := [.ref 120]) rfl ?_
  refine r_gI (pc' := 4) (L' := [(0, .ref 120), (1, .int X1), (2, .int X2), (3, .int X3)]) H hq (z_at.mk 3 rfl rfl) rfl rfl rfl rfl ?_
  intro V_1 hV_1
  refine r_p hq 5 (pc' := 12) (L' := [(0, .ref 120), (1, .int X1), (2, .int X2), (3, .int X3), (4, .int V_1), (5, .int ((0 : Int32))), (6, .int ((0 : Int32)))]) (st' := []) rfl ?_
  exact g_ta_number_L12_ok zK hx1 hx2 hx3 hV_1 (rfl : (0 : Int32).toInt = 0) (rfl : (0 : Int32).toInt = 0) H h
def g_so_read (x1 : Int) (x2 : Int) (σ : zS) : Option (Int × zS) :=
  if x1 < 0 then
    some (0, σ)
  else
    if x1 < 60 then
      if x2 = 0 then
        if 0 ≤ x1 ∧ x1 < 60 then
        let v_45 := σ 44 x1
        some (v_45, σ)
        else none
      else
      if x2 = 1 then
        if 0 ≤ x1 ∧ x1 < 60 then
        let v_52 := σ 42 x1
        some (v_52, σ)
        else none
      else
      if x2 = 2 then
        if 0 ≤ x1 ∧ x1 < 60 then
        let v_60 := σ 43 x1
        some (v_60, σ)
        else none
      else
      some (x1, σ)
    else
      some (0, σ)
set_option maxHeartbeats 4000000 in
theorem g_so_read_ok {xl : Nat} {xs : Nat → Int32} {X1 : Int32} {x1 : Int} (hx1 : X1.toInt = x1) {X2 : Int32} {x2 : Int} (hx2 : X2.toInt = x2) {σ : zS} {p : Nat} {m : zM} {o : Int × zS} (H : zRep xl xs p m σ) (h : g_so_read x1 x2 σ = some o) : zGo xl xs (fun p' => p = p') 1 88 0 (z_can 88 0 (lv_args 0 [.ref 41, .int X1, .int X2])) [] m (vL o.1) o.2 := by
  have hq : z_mth 88 = some z_r88 := rfl
  unfold g_so_read at h
  show zGo xl xs (fun p' => p = p') 1 88 0 [(0, .ref 41), (1, .int X1), (2, .int X2)] [] m (vL o.1) o.2
  refine r_p hq 1 (pc' := 1) (L' := [(0, .ref 41), (1, .int X1), (2, .int X2)]) (st' := [.int X1]) rfl ?_
  rcases z_ite h with ⟨c_1, h⟩ | ⟨c_1, h⟩
  · refine r_t1 (pc' := 10) (L' := []) hq (z_at.mk 3 rfl rfl) rfl hx1 c_1 rfl rfl ?_
    refine r_p hq 1 (pc' := 11) (L' := []) (st' := [.long ((0 : Int64))]) rfl ?_
    cases h
    exact r_rl hq (z_at.mk 1 rfl rfl) rfl (rfl : (0 : Int64).toInt = 0) rfl H
  · refine r_f1 (pc' := 4) (L' := [(0, .ref 41), (1, .int X1), (2, .int X2)]) hq (z_at.mk 3 rfl rfl) rfl hx1 c_1 rfl rfl ?_
    refine r_p hq 2 (pc' := 7) (L' := [(0, .ref 41), (1, .int X1), (2, .int X2)]) (st' := [.int ((60 : Int32)), .int X1]) rfl ?_
    rcases z_ite h with ⟨c_7, h⟩ | ⟨c_7, h⟩
    · refine r_t2 (pc' := 12) (L' := [(0, .ref 41), (1, .int X1), (2, .int X2)]) hq (z_at.mk 3 rfl rfl) rfl hx1 (rfl : (60 : Int32).toInt = 60) c_7 rfl rfl ?_
      refine r_p hq 1 (pc' := 13) (L' := [(0, .ref 41), (1, .int X1), (2, .int X2)]) (st' := [.int X2]) rfl ?_
      rcases z_ite h with ⟨c_13_0, h⟩ | ⟨c_13_0, h⟩
      · refine r_sw (off := 27) (pc' := 40) (L' := [(0, .ref 41), (1, .int X1), (2, .int X2)]) hq (z_at.mk 27 rfl rfl) (z_off_v (hx2.trans c_13_0) rfl) rfl rfl rfl ?_
        refine r_p hq 1 (pc' := 41) (L' := [(0, .ref 41), (1, .int X1), (2, .int X2)]) (st' := [.ref 41]) rfl ?_
        refine r_gR (b := 44) (pc' := 44) (L' := [(0, .ref 41), (1, .int X1), (2, .int X2)]) H hq (z_at.mk 3 rfl rfl) rfl rfl rfl rfl ?_
        refine r_p hq 1 (pc' := 45) (L' := [(0, .ref 41), (1, .int X1), (2, .int X2)]) (st' := [.int X1, .ref 44]) rfl ?_
        obtain ⟨g_45, h⟩ := z_ifo_some h
        refine r_la (pc' := 46) (L' := [(0, .ref 41), (1, .int X1), (2, .int X2)]) H hq (z_at.mk 1 rfl rfl) (show zAr 44 1 60 = true from rfl) hx1 g_45 rfl rfl ?_
        intro V_45 hV_45
        cases h
        exact r_rl hq (z_at.mk 1 rfl rfl) rfl hV_45 rfl H
      rcases z_ite h with ⟨c_13_1, h⟩ | ⟨c_13_1, h⟩
      · refine r_sw (off := 34) (pc' := 47) (L' := [(0, .ref 41), (1, .int X1), (2, .int X2)]) hq (z_at.mk 27 rfl rfl) (z_off_v (hx2.trans c_13_1) rfl) rfl rfl rfl ?_
        refine r_p hq 1 (pc' := 48) (L' := [(0, .ref 41), (1, .int X1), (2, .int X2)]) (st' := [.ref 41]) rfl ?_
        refine r_gR (b := 42) (pc' := 51) (L' := [(0, .ref 41), (1, .int X1), (2, .int X2)]) H hq (z_at.mk 3 rfl rfl) rfl rfl rfl rfl ?_
        refine r_p hq 1 (pc' := 52) (L' := [(0, .ref 41), (1, .int X1), (2, .int X2)]) (st' := [.int X1, .ref 42]) rfl ?_
        obtain ⟨g_52, h⟩ := z_ifo_some h
        refine r_ia (pc' := 53) (L' := [(0, .ref 41), (1, .int X1), (2, .int X2)]) H hq (z_at.mk 1 rfl rfl) (show zAr 42 0 60 = true from rfl) hx1 g_52 rfl rfl ?_
        intro V_52 hV_52
        refine r_p hq 1 (pc' := 54) (L' := [(0, .ref 41), (1, .int X1), (2, .int X2)]) (st' := [.long V_52.toInt64]) rfl ?_
        cases h
        exact r_rl hq (z_at.mk 1 rfl rfl) rfl (tx_i2l hV_52) rfl H
      rcases z_ite h with ⟨c_13_2, h⟩ | ⟨c_13_2, h⟩
      · refine r_sw (off := 42) (pc' := 55) (L' := [(0, .ref 41), (1, .int X1), (2, .int X2)]) hq (z_at.mk 27 rfl rfl) (z_off_v (hx2.trans c_13_2) rfl) rfl rfl rfl ?_
        refine r_p hq 1 (pc' := 56) (L' := [(0, .ref 41), (1, .int X1), (2, .int X2)]) (st' := [.ref 41]) rfl ?_
        refine r_gR (b := 43) (pc' := 59) (L' := [(0, .ref 41), (1, .int X1), (2, .int X2)]) H hq (z_at.mk 3 rfl rfl) rfl rfl rfl rfl ?_
        refine r_p hq 1 (pc' := 60) (L' := [(0, .ref 41), (1, .int X1), (2, .int X2)]) (st' := [.int X1, .ref 43]) rfl ?_
        obtain ⟨g_60, h⟩ := z_ifo_some h
        refine r_ia (pc' := 61) (L' := [(0, .ref 41), (1, .int X1), (2, .int X2)]) H hq (z_at.mk 1 rfl rfl) (show zAr 43 0 60 = true from rfl) hx1 g_60 rfl rfl ?_
        intro V_60 hV_60
        refine r_p hq 1 (pc' := 62) (L' := [(0, .ref 41), (1, .int X1), (2, .int X2)]) (st' := [.long V_60.toInt64]) rfl ?_
        cases h
        exact r_rl hq (z_at.mk 1 rfl rfl) rfl (tx_i2l hV_60) rfl H
      have hx_13 : X2.toInt = x2 := hx2
      refine r_sw (off := 50) (pc' := 63) (L' := [(0, .ref 41), (1, .int X1), (2, .int X2)]) hq (z_at.mk 27 rfl rfl) (z_off_out (by omega)) rfl rfl rfl ?_
      refine r_p hq 2 (pc' := 65) (L' := [(0, .ref 41), (1, .int X1), (2, .int X2)]) (st' := [.long X1.toInt64]) rfl ?_
      cases h
      exact r_rl hq (z_at.mk 1 rfl rfl) rfl (tx_i2l hx1) rfl H
    · refine r_f2 (pc' := 10) (L' := []) hq (z_at.mk 3 rfl rfl) rfl hx1 (rfl : (60 : Int32).toInt = 60) c_7 rfl rfl ?_
      refine r_p hq 1 (pc' := 11) (L' := []) (st' := [.long ((0 : Int64))]) rfl ?_
      cases h
      exact r_rl hq (z_at.mk 1 rfl rfl) rfl (rfl : (0 : Int64).toInt = 0) rfl H
def g_jLong_compare (y0 : Int) (y2 : Int) (σ : zS) : Option (Int × zS) :=
  if 0 ≤ lCmp y0 y2 then
    if lCmp y0 y2 ≠ 0 then
      some (1, σ)
    else
      some (0, σ)
  else
    some (-1, σ)
set_option maxHeartbeats 4000000 in
theorem g_jLong_compare_ok {xl : Nat} {xs : Nat → Int32} {Y0 : Int64} {y0 : Int} (hy0 : Y0.toInt = y0) {Y2 : Int64} {y2 : Int} (hy2 : Y2.toInt = y2) {σ : zS} {p : Nat} {m : zM} {o : Int × zS} (H : zRep xl xs p m σ) (h : g_jLong_compare y0 y2 σ = some o) : zGo xl xs (fun p' => p = p') 1 286 0 (z_can 286 0 (lv_args 0 [.long Y0, .long Y2])) [] m (vI o.1) o.2 := by
  have hq : z_mth 286 = some z_r286 := rfl
  unfold g_jLong_compare at h
  show zGo xl xs (fun p' => p = p') 1 286 0 [(0, .long Y0), (2, .long Y2)] [] m (vI o.1) o.2
  refine r_p hq 3 (pc' := 3) (L' := [(0, .long Y0), (2, .long Y2)]) (st' := [.int (lg_cmp Y0 Y2)]) rfl ?_
  rcases z_ite h with ⟨c_3, h⟩ | ⟨c_3, h⟩
  · refine r_t1 (pc' := 10) (L' := [(0, .long Y0), (2, .long Y2)]) hq (z_at.mk 3 rfl rfl) rfl (tx_lcmp hy0 hy2) c_3 rfl rfl ?_
    refine r_p hq 3 (pc' := 13) (L' := [(0, .long Y0), (2, .long Y2)]) (st' := [.int (lg_cmp Y0 Y2)]) rfl ?_
    rcases z_ite h with ⟨c_13, h⟩ | ⟨c_13, h⟩
    · refine r_t1 (pc' := 20) (L' := [(0, .long Y0), (2, .long Y2)]) hq (z_at.mk 3 rfl rfl) rfl (tx_lcmp hy0 hy2) c_13 rfl rfl ?_
      refine r_p hq 1 (pc' := 21) (L' := []) (st' := [.int ((1 : Int32))]) rfl ?_
      cases h
      exact r_ri hq (z_at.mk 1 rfl rfl) rfl rfl (rfl : (1 : Int32).toInt = 1) rfl H
    · refine r_f1 (pc' := 16) (L' := [(0, .long Y0), (2, .long Y2)]) hq (z_at.mk 3 rfl rfl) rfl (tx_lcmp hy0 hy2) c_13 rfl rfl ?_
      refine r_p hq 2 (pc' := 21) (L' := []) (st' := [.int ((0 : Int32))]) rfl ?_
      cases h
      exact r_ri hq (z_at.mk 1 rfl rfl) rfl rfl (rfl : (0 : Int32).toInt = 0) rfl H
  · refine r_f1 (pc' := 6) (L' := [(0, .long Y0), (2, .long Y2)]) hq (z_at.mk 3 rfl rfl) rfl (tx_lcmp hy0 hy2) c_3 rfl rfl ?_
    refine r_p hq 2 (pc' := 21) (L' := []) (st' := [.int ((-1 : Int32))]) rfl ?_
    cases h
    exact r_ri hq (z_at.mk 1 rfl rfl) rfl rfl (rfl : (-1 : Int32).toInt = -1) rfl H
def g_so_rowsWith_L51 (g6 : Int → Int → Int → Int → Int → zS → Option (Int × zS)) (x1 : Int) (x2 : Int) (x3 : Int) (y4 : Int) (x6 : Int) (σ : zS) : Option (Int × zS) :=
  g6 x1 x2 x3 y4 (w32 (x6 + 1)) σ
set_option maxHeartbeats 4000000 in
theorem g_so_rowsWith_L51_ok {xl : Nat} {xs : Nat → Int32} {g6 : Int → Int → Int → Int → Int → zS → Option (Int × zS)} (hg6 : ∀ {X1 : Int32} {x1 : Int} {X2 : Int32} {x2 : Int} {X3 : Int32} {x3 : Int} {Y4 : Int64} {y4 : Int} {X6 : Int32} {x6 : Int} {σ : zS} {p : Nat} {m : zM} {o : Int × zS}, X1.toInt = x1 → X2.toInt = x2 → X3.toInt = x3 → Y4.toInt = y4 → X6.toInt = x6 → zRep xl xs p m σ → g6 x1 x2 x3 y4 x6 σ = some o → zGo xl xs (fun p' => p = p') 2 87 6 [(0, .ref 41), (1, .int X1), (2, .int X2), (3, .int X3), (4, .long Y4), (6, .int X6)] [] m (vL o.1) o.2) {X1 : Int32} {x1 : Int} (hx1 : X1.toInt = x1) {X2 : Int32} {x2 : Int} (hx2 : X2.toInt = x2) {X3 : Int32} {x3 : Int} (hx3 : X3.toInt = x3) {Y4 : Int64} {y4 : Int} (hy4 : Y4.toInt = y4) {X6 : Int32} {x6 : Int} (hx6 : X6.toInt = x6) {σ : zS} {p : Nat} {m : zM} {o : Int × zS} (H : zRep xl xs p m σ) (h : g_so_rowsWith_L51 g6 x1 x2 x3 y4 x6 σ = some o) : zGo xl xs (fun p' => p = p') 2 87 51 [(0, .ref 41), (1, .int X1), (2, .int X2), (3, .int X3), (4, .long Y4), (6, .int X6)] [] m (vL o.1) o.2 := by
  have hq : z_mth 87 = some z_r87 := rfl
  unfold g_so_rowsWith_L51 at h
  refine r_p hq 2 (pc' := 6) (L' := [(0, .ref 41), (1, .int X1), (2, .int X2), (3, .int X3), (4, .long Y4), (6, .int (X6 + (1 : Int32)))]) (st' := []) rfl ?_
  exact hg6 hx1 hx2 hx3 hy4 (tx_iadd hx6 (rfl : (1 : Int32).toInt = 1)) H h
def g_so_rowsWith_L6 : Nat → Int → Int → Int → Int → Int → zS → Option (Int × zS)
  | 0, _, _, _, _, _, _ => none
  | n + 1, x1, x2, x3, y4, x6, σ =>
    let v_9 := σ 41 4
    if v_9 ≤ x6 then
      some (y4, σ)
    else
      if 0 ≤ x6 ∧ x6 < 60 then
      let v_21 := σ 45 x6
      (g_so_read v_21 x1 σ).bind fun o_29 =>
      (g_jLong_compare o_29.1 x3 o_29.2).bind fun o_34 =>
      if w32 (1 + o_34.1) ≠ x2 then
        g_so_rowsWith_L51 ((g_so_rowsWith_L6 n)) x1 x2 x3 y4 x6 o_34.2
      else
        g_so_rowsWith_L51 ((g_so_rowsWith_L6 n)) x1 x2 x3 (lOr y4 (lShl 1 v_21)) x6 o_34.2
      else none
set_option maxHeartbeats 4000000 in
theorem g_so_rowsWith_L6_ok {xl : Nat} {xs : Nat → Int32} : ∀ (n : Nat) {X1 : Int32} {x1 : Int} {X2 : Int32} {x2 : Int} {X3 : Int32} {x3 : Int} {Y4 : Int64} {y4 : Int} {X6 : Int32} {x6 : Int} {σ : zS} {p : Nat} {m : zM} {o : Int × zS}, X1.toInt = x1 → X2.toInt = x2 → X3.toInt = x3 → Y4.toInt = y4 → X6.toInt = x6 → zRep xl xs p m σ → g_so_rowsWith_L6 n x1 x2 x3 y4 x6 σ = some o → zGo xl xs (fun p' => p = p') 2 87 6 [(0, .ref 41), (1, .int X1), (2, .int X2), (3, .int X3), (4, .long Y4), (6, .int X6)] [] m (vL o.1) o.2
  | 0, _, _, _, _, _, _, _, _, _, _, _, _, _, _, _, _, _, _, _, _, h => by cases h
  | n + 1, X1, x1, X2, x2, X3, x3, Y4, y4, X6, x6, σ, p, m, o, hx1, hx2, hx3, hy4, hx6, H, h => by
    have hq : z_mth 87 = some z_r87 := rfl
    have ih := fun {X1 : Int32} {x1 : Int} {X2 : Int32} {x2 : Int} {X3 : Int32} {x3 : Int} {Y4 : Int64} {y4 : Int} {X6 : Int32} {x6 : Int} {σ : zS} {p : Nat} {m : zM} {o : Int × zS} => g_so_rowsWith_L6_ok (xl := xl) (xs := xs) n (X1 := X1) (x1 := x1) (X2 := X2) (x2 := x2) (X3 := X3) (x3 := x3) (Y4 := Y4) (y4 := y4) (X6 := X6) (x6 := x6) (σ := σ) (p := p) (m := m) (o := o)
    unfold g_so_rowsWith_L6 at h
    refine r_p hq 2 (pc' := 9) (L' := [(0, .ref 41), (1, .int X1), (2, .int X2), (3, .int X3), (4, .long Y4), (6, .int X6)]) (st' := [.ref 41, .int X6]) rfl ?_
    refine r_gI (pc' := 12) (L' := [(0, .ref 41), (1, .int X1), (2, .int X2), (3, .int X3), (4, .long Y4), (6, .int X6)]) H hq (z_at.mk 3 rfl rfl) rfl rfl rfl rfl ?_
    intro V_9 hV_9
    rcases z_ite h with ⟨c_12, h⟩ | ⟨c_12, h⟩
    · refine r_t2 (pc' := 57) (L' := [(0, .ref 41), (1, .int X1), (2, .int X2), (3, .int X3), (4, .long Y4), (6, .int X6)]) hq (z_at.mk 3 rfl rfl) rfl hx6 hV_9 c_12 rfl rfl ?_
      refine r_p hq 1 (pc' := 59) (L' := [(0, .ref 41), (1, .int X1), (2, .int X2), (3, .int X3), (4, .long Y4), (6, .int X6)]) (st' := [.long Y4]) rfl ?_
      cases h
      exact r_rl hq (z_at.mk 1 rfl rfl) rfl hy4 rfl H
    · refine r_f2 (pc' := 15) (L' := [(0, .ref 41), (1, .int X1), (2, .int X2), (3, .int X3), (4, .long Y4), (6, .int X6)]) hq (z_at.mk 3 rfl rfl) rfl hx6 hV_9 c_12 rfl rfl ?_
      refine r_p hq 1 (pc' := 16) (L' := [(0, .ref 41), (1, .int X1), (2, .int X2), (3, .int X3), (4, .long Y4), (6, .int X6)]) (st' := [.ref 41]) rfl ?_
      refine r_gR (b := 45) (pc' := 19) (L' := [(0, .ref 41), (1, .int X1), (2, .int X2), (3, .int X3), (4, .long Y4), (6, .int X6)]) H hq (z_at.mk 3 rfl rfl) rfl rfl rfl rfl ?_
      refine r_p hq 1 (pc' := 21) (L' := [(0, .ref 41), (1, .int X1), (2, .int X2), (3, .int X3), (4, .long Y4), (6, .int X6)]) (st' := [.int X6, .ref 45]) rfl ?_
      obtain ⟨g_21, h⟩ := z_ifo_some h
      refine r_ia (pc' := 22) (L' := [(0, .ref 41), (1, .int X1), (2, .int X2), (3, .int X3), (4, .long Y4), (6, .int X6)]) H hq (z_at.mk 1 rfl rfl) (show zAr 45 0 60 = true from rfl) hx6 g_21 rfl rfl ?_
      intro V_21 hV_21
      refine r_p hq 5 (pc' := 29) (L' := [(7, .int V_21), (0, .ref 41), (1, .int X1), (2, .int X2), (3, .int X3), (4, .long Y4), (6, .int X6)]) (st' := [.int X1, .int V_21, .ref 41, .int ((1 : Int32))]) rfl ?_
      obtain ⟨o_29, h_29, h⟩ := Option.bind_eq_some_iff.mp h
      refine r_cvL (pc' := 32) (L' := [(7, .int V_21), (0, .ref 41), (1, .int X1), (2, .int X2), (3, .int X3), (4, .long Y4), (6, .int X6)]) (Ps := [.int V_21, .int X1]) (rest := [.int ((1 : Int32))]) hq (z_at.mk 3 rfl rfl) (Or.inl ⟨rfl, rfl⟩) rfl rfl (by decide) (by decide) rfl (Nat.not_lt.mpr (Nat.le_of_ble_eq_true rfl)) rfl rfl (z_cat_le 1 rfl (by decide)) (z_lgl_le 3 rfl (by decide)) (by decide) (H.tg rfl) (by omega) (g_so_read_ok hV_21 hx1 H h_29) rfl rfl ?_
      intro R_29 m_29 p_29 e_29 hR_29 H_29
      subst e_29
      refine r_p hq 2 (pc' := 34) (L' := [(7, .int V_21), (0, .ref 41), (1, .int X1), (2, .int X2), (3, .int X3), (4, .long Y4), (6, .int X6)]) (st' := [.long X3.toInt64, .long R_29, .int ((1 : Int32))]) rfl ?_
      obtain ⟨o_34, h_34, h⟩ := Option.bind_eq_some_iff.mp h
      refine r_csI (pc' := 37) (L' := [(7, .int V_21), (0, .ref 41), (1, .int X1), (2, .int X2), (3, .int X3), (4, .long Y4), (6, .int X6)]) (As := [.long R_29, .long X3.toInt64]) (rest := [.int ((1 : Int32))]) (j := 286) hq (z_at.mk 3 rfl rfl) (Or.inl ⟨rfl, rfl⟩) rfl rfl (by omega) (g_jLong_compare_ok hR_29 (tx_i2l hx3) H_29 h_34) rfl rfl ?_
      intro R_34 m_34 p_34 e_34 hR_34 H_34
      subst e_34
      refine r_p hq 2 (pc' := 39) (L' := [(7, .int V_21), (0, .ref 41), (1, .int X1), (2, .int X2), (3, .int X3), (4, .long Y4), (6, .int X6)]) (st' := [.int X2, .int (((1 : Int32)) + R_34)]) rfl ?_
      rcases z_ite h with ⟨c_39, h⟩ | ⟨c_39, h⟩
      · refine r_t2 (pc' := 51) (L' := [(0, .ref 41), (1, .int X1), (2, .int X2), (3, .int X3), (4, .long Y4), (6, .int X6)]) hq (z_at.mk 3 rfl rfl) rfl (tx_iadd (rfl : (1 : Int32).toInt = 1) hR_34) hx2 c_39 rfl rfl ?_
        exact g_so_rowsWith_L51_ok ih hx1 hx2 hx3 hy4 hx6 H_34 h
      · refine r_f2 (pc' := 42) (L' := [(7, .int V_21), (0, .ref 41), (1, .int X1), (2, .int X2), (3, .int X3), (4, .long Y4), (6, .int X6)]) hq (z_at.mk 3 rfl rfl) rfl (tx_iadd (rfl : (1 : Int32).toInt = 1) hR_34) hx2 c_39 rfl rfl ?_
        refine r_p hq 6 (pc' := 51) (L' := [(0, .ref 41), (1, .int X1), (2, .int X2), (3, .int X3), (4, .long (Y4 ||| (((1 : Int64)) <<< (V_21.toInt64 &&& 63)))), (6, .int X6)]) (st' := []) rfl ?_
        exact g_so_rowsWith_L51_ok ih hx1 hx2 hx3 (tx_lor hy4 (tx_lshl (rfl : (1 : Int64).toInt = 1) hV_21)) hx6 H_34 h
def g_so_rowsWith (x1 : Int) (x2 : Int) (x3 : Int) (σ : zS) : Option (Int × zS) :=
  g_so_rowsWith_L6 zK x1 x2 x3 0 0 σ
set_option maxHeartbeats 4000000 in
theorem g_so_rowsWith_ok {xl : Nat} {xs : Nat → Int32} {X1 : Int32} {x1 : Int} (hx1 : X1.toInt = x1) {X2 : Int32} {x2 : Int} (hx2 : X2.toInt = x2) {X3 : Int32} {x3 : Int} (hx3 : X3.toInt = x3) {σ : zS} {p : Nat} {m : zM} {o : Int × zS} (H : zRep xl xs p m σ) (h : g_so_rowsWith x1 x2 x3 σ = some o) : zGo xl xs (fun p' => p = p') 2 87 0 (z_can 87 0 (lv_args 0 [.ref 41, .int X1, .int X2, .int X3])) [] m (vL o.1) o.2 := by
  have hq : z_mth 87 = some z_r87 := rfl
  unfold g_so_rowsWith at h
  show zGo xl xs (fun p' => p = p') 2 87 0 [(0, .ref 41), (1, .int X1), (2, .int X2), (3, .int X3)] [] m (vL o.1) o.2
  refine r_p hq 4 (pc' := 6) (L' := [(0, .ref 41), (1, .int X1), (2, .int X2), (3, .int X3), (4, .long ((0 : Int64))), (6, .int ((0 : Int32)))]) (st' := []) rfl ?_
  exact g_so_rowsWith_L6_ok zK hx1 hx2 hx3 (rfl : (0 : Int64).toInt = 0) (rfl : (0 : Int32).toInt = 0) H h
def g_qu_either_L9 (rec : Nat → Int → zS → Option (Int × zS)) : Nat → Int → Int → Int → zS → Option (Int × zS)
  | 0, _, _, _, _ => none
  | n + 1, x1, y2, x4, σ =>
    if 160 ≤ x4 then
      some (y2, σ)
    else
      (g_ta_takes 124 σ).bind fun o_23 =>
      if o_23.1 = 0 then
        some (y2, o_23.2)
      else
        (rec 69 x1 o_23.2).bind fun o_32 =>
        (g_qu_either_L9 rec n) x1 (lOr y2 o_32.1) (w32 (x4 + 1)) o_32.2
set_option maxHeartbeats 4000000 in
theorem g_qu_either_L9_ok {xl : Nat} {xs : Nat → Int32} {dr : Nat} (hdr : 6 ≤ dr) {rec : Nat → Int → zS → Option (Int × zS)} (hrec : ∀ j, j ∈ [68, 69, 70] → ∀ {X1 : Int32} {x1 : Int} {σ : zS} {p : Nat} {m : zM} {o : Int × zS}, X1.toInt = x1 → zRep xl xs p m σ → rec j x1 σ = some o → zGo xl xs (fun p' => p = p') dr j 0 (z_can j 0 (lv_args 0 [.ref 122, .int X1])) [] m (vL o.1) o.2) : ∀ (n : Nat) {X1 : Int32} {x1 : Int} {Y2 : Int64} {y2 : Int} {X4 : Int32} {x4 : Int} {σ : zS} {p : Nat} {m : zM} {o : Int × zS}, X1.toInt = x1 → Y2.toInt = y2 → X4.toInt = x4 → zRep xl xs p m σ → g_qu_either_L9 rec n x1 y2 x4 σ = some o → zGo xl xs (fun p' => p = p') (dr + 1) 68 9 [(0, .ref 122), (1, .int X1), (2, .long Y2), (4, .int X4)] [] m (vL o.1) o.2
  | 0, _, _, _, _, _, _, _, _, _, _, _, _, _, _, h => by cases h
  | n + 1, X1, x1, Y2, y2, X4, x4, σ, p, m, o, hx1, hy2, hx4, H, h => by
    have hq : z_mth 68 = some z_r68 := rfl
    have ih := fun {X1 : Int32} {x1 : Int} {Y2 : Int64} {y2 : Int} {X4 : Int32} {x4 : Int} {σ : zS} {p : Nat} {m : zM} {o : Int × zS} => g_qu_either_L9_ok (xl := xl) (xs := xs) hdr hrec n (X1 := X1) (x1 := x1) (Y2 := Y2) (y2 := y2) (X4 := X4) (x4 := x4) (σ := σ) (p := p) (m := m) (o := o)
    unfold g_qu_either_L9 at h
    refine r_p hq 2 (pc' := 14) (L' := [(0, .ref 122), (1, .int X1), (2, .long Y2), (4, .int X4)]) (st' := [.int ((160 : Int32)), .int X4]) rfl ?_
    rcases z_ite h with ⟨c_14, h⟩ | ⟨c_14, h⟩
    · refine r_t2 (pc' := 43) (L' := [(2, .long Y2)]) hq (z_at.mk 3 rfl rfl) rfl hx4 (rfl : (160 : Int32).toInt = 160) c_14 rfl rfl ?_
      refine r_p hq 1 (pc' := 44) (L' := [(2, .long Y2)]) (st' := [.long Y2]) rfl ?_
      cases h
      exact r_rl hq (z_at.mk 1 rfl rfl) rfl hy2 rfl H
    · refine r_f2 (pc' := 17) (L' := [(0, .ref 122), (1, .int X1), (2, .long Y2), (4, .int X4)]) hq (z_at.mk 3 rfl rfl) rfl hx4 (rfl : (160 : Int32).toInt = 160) c_14 rfl rfl ?_
      refine r_p hq 1 (pc' := 18) (L' := [(0, .ref 122), (1, .int X1), (2, .long Y2), (4, .int X4)]) (st' := [.ref 122]) rfl ?_
      refine r_gR (b := 120) (pc' := 21) (L' := [(0, .ref 122), (1, .int X1), (2, .long Y2), (4, .int X4)]) H hq (z_at.mk 3 rfl rfl) rfl rfl rfl rfl ?_
      refine r_p hq 1 (pc' := 23) (L' := [(0, .ref 122), (1, .int X1), (2, .long Y2), (4, .int X4)]) (st' := [.int ((124 : Int32)), .ref 120]) rfl ?_
      obtain ⟨o_23, h_23, h⟩ := Option.bind_eq_some_iff.mp h
      refine r_cvI (pc' := 26) (L' := [(0, .ref 122), (1, .int X1), (2, .long Y2), (4, .int X4)]) (Ps := [.int ((124 : Int32))]) (rest := []) hq (z_at.mk 3 rfl rfl) (Or.inl ⟨rfl, rfl⟩) rfl rfl (by decide) (by decide) rfl (Nat.not_lt.mpr (Nat.le_of_ble_eq_true rfl)) rfl rfl (z_cat_le 0 rfl (by decide)) (z_lgl_le 2 rfl (by decide)) (by decide) (H.tg rfl) (by omega) (g_ta_takes_ok (rfl : (124 : Int32).toInt = 124) H h_23) rfl rfl ?_
      intro R_23 m_23 p_23 e_23 hR_23 H_23
      subst e_23
      rcases z_ite h with ⟨c_26, h⟩ | ⟨c_26, h⟩
      · refine r_t1 (pc' := 43) (L' := [(2, .long Y2)]) hq (z_at.mk 3 rfl rfl) rfl hR_23 c_26 rfl rfl ?_
        refine r_p hq 1 (pc' := 44) (L' := [(2, .long Y2)]) (st' := [.long Y2]) rfl ?_
        cases h
        exact r_rl hq (z_at.mk 1 rfl rfl) rfl hy2 rfl H_23
      · refine r_f1 (pc' := 29) (L' := [(0, .ref 122), (1, .int X1), (2, .long Y2), (4, .int X4)]) hq (z_at.mk 3 rfl rfl) rfl hR_23 c_26 rfl rfl ?_
        refine r_p hq 3 (pc' := 32) (L' := [(0, .ref 122), (1, .int X1), (2, .long Y2), (4, .int X4)]) (st' := [.int X1, .ref 122, .long Y2]) rfl ?_
        obtain ⟨o_32, h_32, h⟩ := Option.bind_eq_some_iff.mp h
        refine r_cvL (pc' := 35) (L' := [(0, .ref 122), (1, .int X1), (2, .long Y2), (4, .int X4)]) (Ps := [.int X1]) (rest := [.long Y2]) hq (z_at.mk 3 rfl rfl) (Or.inl ⟨rfl, rfl⟩) rfl rfl (by decide) (by decide) rfl (Nat.not_lt.mpr (Nat.le_of_ble_eq_true rfl)) rfl rfl (z_cat_le 2 rfl (by decide)) (z_lgl_le 2 rfl (by decide)) (by decide) (H_23.tg rfl) (by omega) (hrec 69 (by simp) hx1 H_23 h_32) rfl rfl ?_
        intro R_32 m_32 p_32 e_32 hR_32 H_32
        subst e_32
        refine r_p hq 4 (pc' := 9) (L' := [(0, .ref 122), (1, .int X1), (2, .long (Y2 ||| R_32)), (4, .int (X4 + (1 : Int32)))]) (st' := []) rfl ?_
        exact ih hx1 (tx_lor hy2 hR_32) (tx_iadd hx4 (rfl : (1 : Int32).toInt = 1)) H_32 h
def g_qu_either (rec : Nat → Int → zS → Option (Int × zS)) (x1 : Int) (σ : zS) : Option (Int × zS) :=
  (rec 69 x1 σ).bind fun o_2 =>
  g_qu_either_L9 rec zK x1 o_2.1 0 o_2.2
set_option maxHeartbeats 4000000 in
theorem g_qu_either_ok {xl : Nat} {xs : Nat → Int32} {dr : Nat} (hdr : 6 ≤ dr) {rec : Nat → Int → zS → Option (Int × zS)} (hrec : ∀ j, j ∈ [68, 69, 70] → ∀ {X1 : Int32} {x1 : Int} {σ : zS} {p : Nat} {m : zM} {o : Int × zS}, X1.toInt = x1 → zRep xl xs p m σ → rec j x1 σ = some o → zGo xl xs (fun p' => p = p') dr j 0 (z_can j 0 (lv_args 0 [.ref 122, .int X1])) [] m (vL o.1) o.2) {X1 : Int32} {x1 : Int} (hx1 : X1.toInt = x1) {σ : zS} {p : Nat} {m : zM} {o : Int × zS} (H : zRep xl xs p m σ) (h : g_qu_either rec x1 σ = some o) : zGo xl xs (fun p' => p = p') (dr + 1) 68 0 (z_can 68 0 (lv_args 0 [.ref 122, .int X1])) [] m (vL o.1) o.2 := by
  have hq : z_mth 68 = some z_r68 := rfl
  unfold g_qu_either at h
  show zGo xl xs (fun p' => p = p') (dr + 1) 68 0 [(0, .ref 122), (1, .int X1)] [] m (vL o.1) o.2
  refine r_p hq 2 (pc' := 2) (L' := [(0, .ref 122), (1, .int X1)]) (st' := [.int X1, .ref 122]) rfl ?_
  obtain ⟨o_2, h_2, h⟩ := Option.bind_eq_some_iff.mp h
  refine r_cvL (pc' := 5) (L' := [(0, .ref 122), (1, .int X1)]) (Ps := [.int X1]) (rest := []) hq (z_at.mk 3 rfl rfl) (Or.inl ⟨rfl, rfl⟩) rfl rfl (by decide) (by decide) rfl (Nat.not_lt.mpr (Nat.le_of_ble_eq_true rfl)) rfl rfl (z_cat_le 0 rfl (by decide)) (z_lgl_le 2 rfl (by decide)) (by decide) (H.tg rfl) (by omega) (hrec 69 (by simp) hx1 H h_2) rfl rfl ?_
  intro R_2 m_2 p_2 e_2 hR_2 H_2
  subst e_2
  refine r_p hq 3 (pc' := 9) (L' := [(0, .ref 122), (1, .int X1), (2, .long R_2), (4, .int ((0 : Int32)))]) (st' := []) rfl ?_
  exact g_qu_either_L9_ok hdr hrec zK hx1 hR_2 (rfl : (0 : Int32).toInt = 0) H_2 h
def g_qu_both_L9 (rec : Nat → Int → zS → Option (Int × zS)) : Nat → Int → Int → Int → zS → Option (Int × zS)
  | 0, _, _, _, _ => none
  | n + 1, x1, y2, x4, σ =>
    if 160 ≤ x4 then
      some (y2, σ)
    else
      (g_ta_takes 38 σ).bind fun o_23 =>
      if o_23.1 = 0 then
        some (y2, o_23.2)
      else
        (rec 70 x1 o_23.2).bind fun o_32 =>
        (g_qu_both_L9 rec n) x1 (lAnd y2 o_32.1) (w32 (x4 + 1)) o_32.2
set_option maxHeartbeats 4000000 in
theorem g_qu_both_L9_ok {xl : Nat} {xs : Nat → Int32} {dr : Nat} (hdr : 6 ≤ dr) {rec : Nat → Int → zS → Option (Int × zS)} (hrec : ∀ j, j ∈ [68, 69, 70] → ∀ {X1 : Int32} {x1 : Int} {σ : zS} {p : Nat} {m : zM} {o : Int × zS}, X1.toInt = x1 → zRep xl xs p m σ → rec j x1 σ = some o → zGo xl xs (fun p' => p = p') dr j 0 (z_can j 0 (lv_args 0 [.ref 122, .int X1])) [] m (vL o.1) o.2) : ∀ (n : Nat) {X1 : Int32} {x1 : Int} {Y2 : Int64} {y2 : Int} {X4 : Int32} {x4 : Int} {σ : zS} {p : Nat} {m : zM} {o : Int × zS}, X1.toInt = x1 → Y2.toInt = y2 → X4.toInt = x4 → zRep xl xs p m σ → g_qu_both_L9 rec n x1 y2 x4 σ = some o → zGo xl xs (fun p' => p = p') (dr + 1) 69 9 [(0, .ref 122), (1, .int X1), (2, .long Y2), (4, .int X4)] [] m (vL o.1) o.2
  | 0, _, _, _, _, _, _, _, _, _, _, _, _, _, _, h => by cases h
  | n + 1, X1, x1, Y2, y2, X4, x4, σ, p, m, o, hx1, hy2, hx4, H, h => by
    have hq : z_mth 69 = some z_r69 := rfl
    have ih := fun {X1 : Int32} {x1 : Int} {Y2 : Int64} {y2 : Int} {X4 : Int32} {x4 : Int} {σ : zS} {p : Nat} {m : zM} {o : Int × zS} => g_qu_both_L9_ok (xl := xl) (xs := xs) hdr hrec n (X1 := X1) (x1 := x1) (Y2 := Y2) (y2 := y2) (X4 := X4) (x4 := x4) (σ := σ) (p := p) (m := m) (o := o)
    unfold g_qu_both_L9 at h
    refine r_p hq 2 (pc' := 14) (L' := [(0, .ref 122), (1, .int X1), (2, .long Y2), (4, .int X4)]) (st' := [.int ((160 : Int32)), .int X4]) rfl ?_
    rcases z_ite h with ⟨c_14, h⟩ | ⟨c_14, h⟩
    · refine r_t2 (pc' := 43) (L' := [(2, .long Y2)]) hq (z_at.mk 3 rfl rfl) rfl hx4 (rfl : (160 : Int32).toInt = 160) c_14 rfl rfl ?_
      refine r_p hq 1 (pc' := 44) (L' := [(2, .long Y2)]) (st' := [.long Y2]) rfl ?_
      cases h
      exact r_rl hq (z_at.mk 1 rfl rfl) rfl hy2 rfl H
    · refine r_f2 (pc' := 17) (L' := [(0, .ref 122), (1, .int X1), (2, .long Y2), (4, .int X4)]) hq (z_at.mk 3 rfl rfl) rfl hx4 (rfl : (160 : Int32).toInt = 160) c_14 rfl rfl ?_
      refine r_p hq 1 (pc' := 18) (L' := [(0, .ref 122), (1, .int X1), (2, .long Y2), (4, .int X4)]) (st' := [.ref 122]) rfl ?_
      refine r_gR (b := 120) (pc' := 21) (L' := [(0, .ref 122), (1, .int X1), (2, .long Y2), (4, .int X4)]) H hq (z_at.mk 3 rfl rfl) rfl rfl rfl rfl ?_
      refine r_p hq 1 (pc' := 23) (L' := [(0, .ref 122), (1, .int X1), (2, .long Y2), (4, .int X4)]) (st' := [.int ((38 : Int32)), .ref 120]) rfl ?_
      obtain ⟨o_23, h_23, h⟩ := Option.bind_eq_some_iff.mp h
      refine r_cvI (pc' := 26) (L' := [(0, .ref 122), (1, .int X1), (2, .long Y2), (4, .int X4)]) (Ps := [.int ((38 : Int32))]) (rest := []) hq (z_at.mk 3 rfl rfl) (Or.inl ⟨rfl, rfl⟩) rfl rfl (by decide) (by decide) rfl (Nat.not_lt.mpr (Nat.le_of_ble_eq_true rfl)) rfl rfl (z_cat_le 0 rfl (by decide)) (z_lgl_le 2 rfl (by decide)) (by decide) (H.tg rfl) (by omega) (g_ta_takes_ok (rfl : (38 : Int32).toInt = 38) H h_23) rfl rfl ?_
      intro R_23 m_23 p_23 e_23 hR_23 H_23
      subst e_23
      rcases z_ite h with ⟨c_26, h⟩ | ⟨c_26, h⟩
      · refine r_t1 (pc' := 43) (L' := [(2, .long Y2)]) hq (z_at.mk 3 rfl rfl) rfl hR_23 c_26 rfl rfl ?_
        refine r_p hq 1 (pc' := 44) (L' := [(2, .long Y2)]) (st' := [.long Y2]) rfl ?_
        cases h
        exact r_rl hq (z_at.mk 1 rfl rfl) rfl hy2 rfl H_23
      · refine r_f1 (pc' := 29) (L' := [(0, .ref 122), (1, .int X1), (2, .long Y2), (4, .int X4)]) hq (z_at.mk 3 rfl rfl) rfl hR_23 c_26 rfl rfl ?_
        refine r_p hq 3 (pc' := 32) (L' := [(0, .ref 122), (1, .int X1), (2, .long Y2), (4, .int X4)]) (st' := [.int X1, .ref 122, .long Y2]) rfl ?_
        obtain ⟨o_32, h_32, h⟩ := Option.bind_eq_some_iff.mp h
        refine r_cvL (pc' := 35) (L' := [(0, .ref 122), (1, .int X1), (2, .long Y2), (4, .int X4)]) (Ps := [.int X1]) (rest := [.long Y2]) hq (z_at.mk 3 rfl rfl) (Or.inl ⟨rfl, rfl⟩) rfl rfl (by decide) (by decide) rfl (Nat.not_lt.mpr (Nat.le_of_ble_eq_true rfl)) rfl rfl (z_cat_le 2 rfl (by decide)) (z_lgl_le 2 rfl (by decide)) (by decide) (H_23.tg rfl) (by omega) (hrec 70 (by simp) hx1 H_23 h_32) rfl rfl ?_
        intro R_32 m_32 p_32 e_32 hR_32 H_32
        subst e_32
        refine r_p hq 4 (pc' := 9) (L' := [(0, .ref 122), (1, .int X1), (2, .long (Y2 &&& R_32)), (4, .int (X4 + (1 : Int32)))]) (st' := []) rfl ?_
        exact ih hx1 (tx_land hy2 hR_32) (tx_iadd hx4 (rfl : (1 : Int32).toInt = 1)) H_32 h
def g_qu_both (rec : Nat → Int → zS → Option (Int × zS)) (x1 : Int) (σ : zS) : Option (Int × zS) :=
  (rec 70 x1 σ).bind fun o_2 =>
  g_qu_both_L9 rec zK x1 o_2.1 0 o_2.2
set_option maxHeartbeats 4000000 in
theorem g_qu_both_ok {xl : Nat} {xs : Nat → Int32} {dr : Nat} (hdr : 6 ≤ dr) {rec : Nat → Int → zS → Option (Int × zS)} (hrec : ∀ j, j ∈ [68, 69, 70] → ∀ {X1 : Int32} {x1 : Int} {σ : zS} {p : Nat} {m : zM} {o : Int × zS}, X1.toInt = x1 → zRep xl xs p m σ → rec j x1 σ = some o → zGo xl xs (fun p' => p = p') dr j 0 (z_can j 0 (lv_args 0 [.ref 122, .int X1])) [] m (vL o.1) o.2) {X1 : Int32} {x1 : Int} (hx1 : X1.toInt = x1) {σ : zS} {p : Nat} {m : zM} {o : Int × zS} (H : zRep xl xs p m σ) (h : g_qu_both rec x1 σ = some o) : zGo xl xs (fun p' => p = p') (dr + 1) 69 0 (z_can 69 0 (lv_args 0 [.ref 122, .int X1])) [] m (vL o.1) o.2 := by
  have hq : z_mth 69 = some z_r69 := rfl
  unfold g_qu_both at h
  show zGo xl xs (fun p' => p = p') (dr + 1) 69 0 [(0, .ref 122), (1, .int X1)] [] m (vL o.1) o.2
  refine r_p hq 2 (pc' := 2) (L' := [(0, .ref 122), (1, .int X1)]) (st' := [.int X1, .ref 122]) rfl ?_
  obtain ⟨o_2, h_2, h⟩ := Option.bind_eq_some_iff.mp h
  refine r_cvL (pc' := 5) (L' := [(0, .ref 122), (1, .int X1)]) (Ps := [.int X1]) (rest := []) hq (z_at.mk 3 rfl rfl) (Or.inl ⟨rfl, rfl⟩) rfl rfl (by decide) (by decide) rfl (Nat.not_lt.mpr (Nat.le_of_ble_eq_true rfl)) rfl rfl (z_cat_le 0 rfl (by decide)) (z_lgl_le 2 rfl (by decide)) (by decide) (H.tg rfl) (by omega) (hrec 70 (by simp) hx1 H h_2) rfl rfl ?_
  intro R_2 m_2 p_2 e_2 hR_2 H_2
  subst e_2
  refine r_p hq 3 (pc' := 9) (L' := [(0, .ref 122), (1, .int X1), (2, .long R_2), (4, .int ((0 : Int32)))]) (st' := []) rfl ?_
  exact g_qu_both_L9_ok hdr hrec zK hx1 hR_2 (rfl : (0 : Int32).toInt = 0) H_2 h
def g_qu_single_L129 (rec : Nat → Int → zS → Option (Int × zS)) (xs0 : Int) (xs1 : Int) (xs2 : Int) (σ : zS) : Option (Int × zS) :=
  (g_so_rowsWith xs2 xs1 xs0 σ).bind fun o_129 =>
  some (o_129.1, o_129.2)
set_option maxHeartbeats 4000000 in
theorem g_qu_single_L129_ok {xl : Nat} {xs : Nat → Int32} {dr : Nat} (hdr : 6 ≤ dr) {rec : Nat → Int → zS → Option (Int × zS)} (hrec : ∀ j, j ∈ [68, 69, 70] → ∀ {X1 : Int32} {x1 : Int} {σ : zS} {p : Nat} {m : zM} {o : Int × zS}, X1.toInt = x1 → zRep xl xs p m σ → rec j x1 σ = some o → zGo xl xs (fun p' => p = p') dr j 0 (z_can j 0 (lv_args 0 [.ref 122, .int X1])) [] m (vL o.1) o.2) {Xs0 : Int32} {xs0 : Int} (hxs0 : Xs0.toInt = xs0) {Xs1 : Int32} {xs1 : Int} (hxs1 : Xs1.toInt = xs1) {Xs2 : Int32} {xs2 : Int} (hxs2 : Xs2.toInt = xs2) {σ : zS} {p : Nat} {m : zM} {o : Int × zS} (H : zRep xl xs p m σ) (h : g_qu_single_L129 rec xs0 xs1 xs2 σ = some o) : zGo xl xs (fun p' => p = p') (dr + 1) 70 129 [] [.int Xs0, .int Xs1, .int Xs2, .ref 41] m (vL o.1) o.2 := by
  have hq : z_mth 70 = some z_r70 := rfl
  unfold g_qu_single_L129 at h
  obtain ⟨o_129, h_129, h⟩ := Option.bind_eq_some_iff.mp h
  refine r_cvL (pc' := 132) (L' := []) (Ps := [.int Xs2, .int Xs1, .int Xs0]) (rest := []) hq (z_at.mk 3 rfl rfl) (Or.inl ⟨rfl, rfl⟩) rfl rfl (by decide) (by decide) rfl (Nat.not_lt.mpr (Nat.le_of_ble_eq_true rfl)) rfl rfl (z_cat_le 0 rfl (by decide)) (z_lgl_le 4 rfl (by decide)) (by decide) (H.tg rfl) (by omega) (g_so_rowsWith_ok hxs2 hxs1 hxs0 H h_129) rfl rfl ?_
  intro R_129 m_129 p_129 e_129 hR_129 H_129
  subst e_129
  cases h
  exact r_rl hq (z_at.mk 1 rfl rfl) rfl hR_129 rfl H_129
def g_qu_single_L65 (rec : Nat → Int → zS → Option (Int × zS)) (σ : zS) : Option (Int × zS) :=
  (g_ta_oneOf 6 σ).bind fun o_71 =>
  (g_ta_oneOf 7 o_71.2).bind fun o_81 =>
  (g_ta_takes 45 o_81.2).bind fun o_91 =>
  (g_ta_number 9 0 999999999 o_91.2).bind fun o_105 =>
  if o_91.1 = 0 then
    g_qu_single_L129 rec o_105.1 o_81.1 o_71.1 o_105.2
  else
    g_qu_single_L129 rec (w32 (-o_105.1)) o_81.1 o_71.1 o_105.2
set_option maxHeartbeats 4000000 in
theorem g_qu_single_L65_ok {xl : Nat} {xs : Nat → Int32} {dr : Nat} (hdr : 6 ≤ dr) {rec : Nat → Int → zS → Option (Int × zS)} (hrec : ∀ j, j ∈ [68, 69, 70] → ∀ {X1 : Int32} {x1 : Int} {σ : zS} {p : Nat} {m : zM} {o : Int × zS}, X1.toInt = x1 → zRep xl xs p m σ → rec j x1 σ = some o → zGo xl xs (fun p' => p = p') dr j 0 (z_can j 0 (lv_args 0 [.ref 122, .int X1])) [] m (vL o.1) o.2) {σ : zS} {p : Nat} {m : zM} {o : Int × zS} (H : zRep xl xs p m σ) (h : g_qu_single_L65 rec σ = some o) : zGo xl xs (fun p' => p = p') (dr + 1) 70 65 [(0, .ref 122)] [] m (vL o.1) o.2 := by
  have hq : z_mth 70 = some z_r70 := rfl
  unfold g_qu_single_L65 at h
  refine r_p hq 1 (pc' := 66) (L' := [(0, .ref 122)]) (st' := [.ref 122]) rfl ?_
  refine r_gR (b := 120) (pc' := 69) (L' := [(0, .ref 122)]) H hq (z_at.mk 3 rfl rfl) rfl rfl rfl rfl ?_
  refine r_p hq 1 (pc' := 71) (L' := [(0, .ref 122)]) (st' := [.ref 6, .ref 120]) rfl ?_
  obtain ⟨o_71, h_71, h⟩ := Option.bind_eq_some_iff.mp h
  refine r_cvI (pc' := 74) (L' := [(0, .ref 122)]) (Ps := [.ref 6]) (rest := []) hq (z_at.mk 3 rfl rfl) (Or.inl ⟨rfl, rfl⟩) rfl rfl (by decide) (by decide) rfl (Nat.not_lt.mpr (Nat.le_of_ble_eq_true rfl)) rfl rfl (z_cat_le 0 rfl (by decide)) (z_lgl_le 2 rfl (by decide)) (by decide) (H.tg rfl) (by omega) (g_ta_oneOf_ok rfl H h_71) rfl rfl ?_
  intro R_71 m_71 p_71 e_71 hR_71 H_71
  subst e_71
  refine r_p hq 2 (pc' := 76) (L' := [(2, .int R_71), (0, .ref 122)]) (st' := [.ref 122]) rfl ?_
  refine r_gR (b := 120) (pc' := 79) (L' := [(2, .int R_71), (0, .ref 122)]) H_71 hq (z_at.mk 3 rfl rfl) rfl rfl rfl rfl ?_
  refine r_p hq 1 (pc' := 81) (L' := [(2, .int R_71), (0, .ref 122)]) (st' := [.ref 7, .ref 120]) rfl ?_
  obtain ⟨o_81, h_81, h⟩ := Option.bind_eq_some_iff.mp h
  refine r_cvI (pc' := 84) (L' := [(2, .int R_71), (0, .ref 122)]) (Ps := [.ref 7]) (rest := []) hq (z_at.mk 3 rfl rfl) (Or.inl ⟨rfl, rfl⟩) rfl rfl (by decide) (by decide) rfl (Nat.not_lt.mpr (Nat.le_of_ble_eq_true rfl)) rfl rfl (z_cat_le 0 rfl (by decide)) (z_lgl_le 2 rfl (by decide)) (by decide) (H_71.tg rfl) (by omega) (g_ta_oneOf_ok rfl H_71 h_81) rfl rfl ?_
  intro R_81 m_81 p_81 e_81 hR_81 H_81
  subst e_81
  refine r_p hq 2 (pc' := 86) (L' := [(3, .int R_81), (2, .int R_71), (0, .ref 122)]) (st' := [.ref 122]) rfl ?_
  refine r_gR (b := 120) (pc' := 89) (L' := [(3, .int R_81), (2, .int R_71), (0, .ref 122)]) H_81 hq (z_at.mk 3 rfl rfl) rfl rfl rfl rfl ?_
  refine r_p hq 1 (pc' := 91) (L' := [(3, .int R_81), (2, .int R_71), (0, .ref 122)]) (st' := [.int ((45 : Int32)), .ref 120]) rfl ?_
  obtain ⟨o_91, h_91, h⟩ := Option.bind_eq_some_iff.mp h
  refine r_cvI (pc' := 94) (L' := [(3, .int R_81), (2, .int R_71), (0, .ref 122)]) (Ps := [.int ((45 : Int32))]) (rest := []) hq (z_at.mk 3 rfl rfl) (Or.inl ⟨rfl, rfl⟩) rfl rfl (by decide) (by decide) rfl (Nat.not_lt.mpr (Nat.le_of_ble_eq_true rfl)) rfl rfl (z_cat_le 0 rfl (by decide)) (z_lgl_le 2 rfl (by decide)) (by decide) (H_81.tg rfl) (by omega) (g_ta_takes_ok (rfl : (45 : Int32).toInt = 45) H_81 h_91) rfl rfl ?_
  intro R_91 m_91 p_91 e_91 hR_91 H_91
  subst e_91
  refine r_p hq 2 (pc' := 97) (L' := [(4, .int R_91), (3, .int R_81), (2, .int R_71), (0, .ref 122)]) (st' := [.ref 122]) rfl ?_
  refine r_gR (b := 120) (pc' := 100) (L' := [(4, .int R_91), (3, .int R_81), (2, .int R_71), (0, .ref 122)]) H_91 hq (z_at.mk 3 rfl rfl) rfl rfl rfl rfl ?_
  refine r_p hq 3 (pc' := 105) (L' := [(4, .int R_91), (3, .int R_81), (2, .int R_71), (0, .ref 122)]) (st' := [.int ((999999999 : Int32)), .int ((0 : Int32)), .int ((9 : Int32)), .ref 120]) rfl ?_
  obtain ⟨o_105, h_105, h⟩ := Option.bind_eq_some_iff.mp h
  refine r_cvI (pc' := 108) (L' := [(4, .int R_91), (3, .int R_81), (2, .int R_71), (0, .ref 122)]) (Ps := [.int ((9 : Int32)), .int ((0 : Int32)), .int ((999999999 : Int32))]) (rest := []) hq (z_at.mk 3 rfl rfl) (Or.inl ⟨rfl, rfl⟩) rfl rfl (by decide) (by decide) rfl (Nat.not_lt.mpr (Nat.le_of_ble_eq_true rfl)) rfl rfl (z_cat_le 0 rfl (by decide)) (z_lgl_le 4 rfl (by decide)) (by decide) (H_91.tg rfl) (by omega) (g_ta_number_ok (rfl : (9 : Int32).toInt = 9) (rfl : (0 : Int32).toInt = 0) (rfl : (999999999 : Int32).toInt = 999999999) H_91 h_105) rfl rfl ?_
  intro R_105 m_105 p_105 e_105 hR_105 H_105
  subst e_105
  refine r_p hq 2 (pc' := 111) (L' := [(5, .int R_105), (4, .int R_91), (3, .int R_81), (2, .int R_71), (0, .ref 122)]) (st' := [.ref 122]) rfl ?_
  refine r_gR (b := 41) (pc' := 114) (L' := [(5, .int R_105), (4, .int R_91), (3, .int R_81), (2, .int R_71), (0, .ref 122)]) H_105 hq (z_at.mk 3 rfl rfl) rfl rfl rfl rfl ?_
  refine r_p hq 3 (pc' := 118) (L' := [(5, .int R_105), (4, .int R_91), (3, .int R_81), (2, .int R_71), (0, .ref 122)]) (st' := [.int R_91, .int R_81, .int R_71, .ref 41]) rfl ?_
  rcases z_ite h with ⟨c_118, h⟩ | ⟨c_118, h⟩
  · refine r_t1 (pc' := 127) (L' := [(5, .int R_105), (4, .int R_91), (3, .int R_81), (2, .int R_71), (0, .ref 122)]) hq (z_at.mk 3 rfl rfl) rfl hR_91 c_118 rfl rfl ?_
    refine r_p hq 1 (pc' := 129) (L' := []) (st' := [.int R_105, .int R_81, .int R_71, .ref 41]) rfl ?_
    exact g_qu_single_L129_ok hdr hrec hR_105 hR_81 hR_71 H_105 h
  · refine r_f1 (pc' := 121) (L' := [(5, .int R_105), (4, .int R_91), (3, .int R_81), (2, .int R_71), (0, .ref 122)]) hq (z_at.mk 3 rfl rfl) rfl hR_91 c_118 rfl rfl ?_
    refine r_p hq 3 (pc' := 129) (L' := []) (st' := [.int (-R_105), .int R_81, .int R_71, .ref 41]) rfl ?_
    exact g_qu_single_L129_ok hdr hrec (tx_ineg hR_105) hR_81 hR_71 H_105 h
def g_qu_single_L29 (rec : Nat → Int → zS → Option (Int × zS)) (x1 : Int) (σ : zS) : Option (Int × zS) :=
  if 4 ≤ x1 then
    g_qu_single_L65 rec σ
  else
    (g_ta_takes 40 σ).bind fun o_40 =>
    if o_40.1 = 0 then
      g_qu_single_L65 rec o_40.2
    else
      (rec 68 (w32 (x1 + 1)) o_40.2).bind fun o_50 =>
      (g_ta_wants 41 o_50.2).bind fun o_60 =>
      some (o_50.1, o_60.2)
set_option maxHeartbeats 4000000 in
theorem g_qu_single_L29_ok {xl : Nat} {xs : Nat → Int32} {dr : Nat} (hdr : 6 ≤ dr) {rec : Nat → Int → zS → Option (Int × zS)} (hrec : ∀ j, j ∈ [68, 69, 70] → ∀ {X1 : Int32} {x1 : Int} {σ : zS} {p : Nat} {m : zM} {o : Int × zS}, X1.toInt = x1 → zRep xl xs p m σ → rec j x1 σ = some o → zGo xl xs (fun p' => p = p') dr j 0 (z_can j 0 (lv_args 0 [.ref 122, .int X1])) [] m (vL o.1) o.2) {X1 : Int32} {x1 : Int} (hx1 : X1.toInt = x1) {σ : zS} {p : Nat} {m : zM} {o : Int × zS} (H : zRep xl xs p m σ) (h : g_qu_single_L29 rec x1 σ = some o) : zGo xl xs (fun p' => p = p') (dr + 1) 70 29 [(0, .ref 122), (1, .int X1)] [] m (vL o.1) o.2 := by
  have hq : z_mth 70 = some z_r70 := rfl
  unfold g_qu_single_L29 at h
  refine r_p hq 2 (pc' := 31) (L' := [(0, .ref 122), (1, .int X1)]) (st' := [.int ((4 : Int32)), .int X1]) rfl ?_
  rcases z_ite h with ⟨c_31, h⟩ | ⟨c_31, h⟩
  · refine r_t2 (pc' := 65) (L' := [(0, .ref 122)]) hq (z_at.mk 3 rfl rfl) rfl hx1 (rfl : (4 : Int32).toInt = 4) c_31 rfl rfl ?_
    exact g_qu_single_L65_ok hdr hrec  H h
  · refine r_f2 (pc' := 34) (L' := [(0, .ref 122), (1, .int X1)]) hq (z_at.mk 3 rfl rfl) rfl hx1 (rfl : (4 : Int32).toInt = 4) c_31 rfl rfl ?_
    refine r_p hq 1 (pc' := 35) (L' := [(0, .ref 122), (1, .int X1)]) (st' := [.ref 122]) rfl ?_
    refine r_gR (b := 120) (pc' := 38) (L' := [(0, .ref 122), (1, .int X1)]) H hq (z_at.mk 3 rfl rfl) rfl rfl rfl rfl ?_
    refine r_p hq 1 (pc' := 40) (L' := [(0, .ref 122), (1, .int X1)]) (st' := [.int ((40 : Int32)), .ref 120]) rfl ?_
    obtain ⟨o_40, h_40, h⟩ := Option.bind_eq_some_iff.mp h
    refine r_cvI (pc' := 43) (L' := [(0, .ref 122), (1, .int X1)]) (Ps := [.int ((40 : Int32))]) (rest := []) hq (z_at.mk 3 rfl rfl) (Or.inl ⟨rfl, rfl⟩) rfl rfl (by decide) (by decide) rfl (Nat.not_lt.mpr (Nat.le_of_ble_eq_true rfl)) rfl rfl (z_cat_le 0 rfl (by decide)) (z_lgl_le 2 rfl (by decide)) (by decide) (H.tg rfl) (by omega) (g_ta_takes_ok (rfl : (40 : Int32).toInt = 40) H h_40) rfl rfl ?_
    intro R_40 m_40 p_40 e_40 hR_40 H_40
    subst e_40
    rcases z_ite h with ⟨c_43, h⟩ | ⟨c_43, h⟩
    · refine r_t1 (pc' := 65) (L' := [(0, .ref 122)]) hq (z_at.mk 3 rfl rfl) rfl hR_40 c_43 rfl rfl ?_
      exact g_qu_single_L65_ok hdr hrec  H_40 h
    · refine r_f1 (pc' := 46) (L' := [(0, .ref 122), (1, .int X1)]) hq (z_at.mk 3 rfl rfl) rfl hR_40 c_43 rfl rfl ?_
      refine r_p hq 4 (pc' := 50) (L' := [(0, .ref 122), (1, .int X1)]) (st' := [.int (X1 + ((1 : Int32))), .ref 122]) rfl ?_
      obtain ⟨o_50, h_50, h⟩ := Option.bind_eq_some_iff.mp h
      refine r_cvL (pc' := 53) (L' := [(0, .ref 122), (1, .int X1)]) (Ps := [.int (X1 + ((1 : Int32)))]) (rest := []) hq (z_at.mk 3 rfl rfl) (Or.inl ⟨rfl, rfl⟩) rfl rfl (by decide) (by decide) rfl (Nat.not_lt.mpr (Nat.le_of_ble_eq_true rfl)) rfl rfl (z_cat_le 0 rfl (by decide)) (z_lgl_le 2 rfl (by decide)) (by decide) (H_40.tg rfl) (by omega) (hrec 68 (by simp) (tx_iadd hx1 (rfl : (1 : Int32).toInt = 1)) H_40 h_50) rfl rfl ?_
      intro R_50 m_50 p_50 e_50 hR_50 H_50
      subst e_50
      refine r_p hq 2 (pc' := 55) (L' := [(2, .long R_50), (0, .ref 122), (1, .int X1)]) (st' := [.ref 122]) rfl ?_
      refine r_gR (b := 120) (pc' := 58) (L' := [(2, .long R_50), (0, .ref 122), (1, .int X1)]) H_50 hq (z_at.mk 3 rfl rfl) rfl rfl rfl rfl ?_
      refine r_p hq 1 (pc' := 60) (L' := [(2, .long R_50), (0, .ref 122), (1, .int X1)]) (st' := [.int ((41 : Int32)), .ref 120]) rfl ?_
      obtain ⟨o_60, h_60, h⟩ := Option.bind_eq_some_iff.mp h
      refine r_cvV (pc' := 63) (L' := [(2, .long R_50), (0, .ref 122), (1, .int X1)]) (Ps := [.int ((41 : Int32))]) (rest := []) hq (z_at.mk 3 rfl rfl) (Or.inl ⟨rfl, rfl⟩) rfl rfl (by decide) (by decide) rfl (Nat.not_lt.mpr (Nat.le_of_ble_eq_true rfl)) rfl rfl (z_cat_le 0 rfl (by decide)) (z_lgl_le 2 rfl (by decide)) (by decide) (H_50.tg rfl) (by omega) (g_ta_wants_ok (rfl : (41 : Int32).toInt = 41) H_50 h_60) rfl rfl ?_
      intro m_60 p_60 e_60 H_60
      subst e_60
      refine r_p hq 1 (pc' := 64) (L' := [(2, .long R_50), (0, .ref 122), (1, .int X1)]) (st' := [.long R_50]) rfl ?_
      cases h
      exact r_rl hq (z_at.mk 1 rfl rfl) rfl hR_50 rfl H_60
def g_qu_single (rec : Nat → Int → zS → Option (Int × zS)) (x1 : Int) (σ : zS) : Option (Int × zS) :=
  if 4 ≤ x1 then
    g_qu_single_L29 rec x1 σ
  else
    (g_ta_takes 33 σ).bind fun o_11 =>
    if o_11.1 = 0 then
      g_qu_single_L29 rec x1 o_11.2
    else
      (rec 70 (w32 (x1 + 1)) o_11.2).bind fun o_21 =>
      some (lXor o_21.1 (-1), o_21.2)
set_option maxHeartbeats 4000000 in
theorem g_qu_single_ok {xl : Nat} {xs : Nat → Int32} {dr : Nat} (hdr : 6 ≤ dr) {rec : Nat → Int → zS → Option (Int × zS)} (hrec : ∀ j, j ∈ [68, 69, 70] → ∀ {X1 : Int32} {x1 : Int} {σ : zS} {p : Nat} {m : zM} {o : Int × zS}, X1.toInt = x1 → zRep xl xs p m σ → rec j x1 σ = some o → zGo xl xs (fun p' => p = p') dr j 0 (z_can j 0 (lv_args 0 [.ref 122, .int X1])) [] m (vL o.1) o.2) {X1 : Int32} {x1 : Int} (hx1 : X1.toInt = x1) {σ : zS} {p : Nat} {m : zM} {o : Int × zS} (H : zRep xl xs p m σ) (h : g_qu_single rec x1 σ = some o) : zGo xl xs (fun p' => p = p') (dr + 1) 70 0 (z_can 70 0 (lv_args 0 [.ref 122, .int X1])) [] m (vL o.1) o.2 := by
  have hq : z_mth 70 = some z_r70 := rfl
  unfold g_qu_single at h
  show zGo xl xs (fun p' => p = p') (dr + 1) 70 0 [(0, .ref 122), (1, .int X1)] [] m (vL o.1) o.2
  refine r_p hq 2 (pc' := 2) (L' := [(0, .ref 122), (1, .int X1)]) (st' := [.int ((4 : Int32)), .int X1]) rfl ?_
  rcases z_ite h with ⟨c_2, h⟩ | ⟨c_2, h⟩
  · refine r_t2 (pc' := 29) (L' := [(0, .ref 122), (1, .int X1)]) hq (z_at.mk 3 rfl rfl) rfl hx1 (rfl : (4 : Int32).toInt = 4) c_2 rfl rfl ?_
    exact g_qu_single_L29_ok hdr hrec hx1 H h
  · refine r_f2 (pc' := 5) (L' := [(0, .ref 122), (1, .int X1)]) hq (z_at.mk 3 rfl rfl) rfl hx1 (rfl : (4 : Int32).toInt = 4) c_2 rfl rfl ?_
    refine r_p hq 1 (pc' := 6) (L' := [(0, .ref 122), (1, .int X1)]) (st' := [.ref 122]) rfl ?_
    refine r_gR (b := 120) (pc' := 9) (L' := [(0, .ref 122), (1, .int X1)]) H hq (z_at.mk 3 rfl rfl) rfl rfl rfl rfl ?_
    refine r_p hq 1 (pc' := 11) (L' := [(0, .ref 122), (1, .int X1)]) (st' := [.int ((33 : Int32)), .ref 120]) rfl ?_
    obtain ⟨o_11, h_11, h⟩ := Option.bind_eq_some_iff.mp h
    refine r_cvI (pc' := 14) (L' := [(0, .ref 122), (1, .int X1)]) (Ps := [.int ((33 : Int32))]) (rest := []) hq (z_at.mk 3 rfl rfl) (Or.inl ⟨rfl, rfl⟩) rfl rfl (by decide) (by decide) rfl (Nat.not_lt.mpr (Nat.le_of_ble_eq_true rfl)) rfl rfl (z_cat_le 0 rfl (by decide)) (z_lgl_le 2 rfl (by decide)) (by decide) (H.tg rfl) (by omega) (g_ta_takes_ok (rfl : (33 : Int32).toInt = 33) H h_11) rfl rfl ?_
    intro R_11 m_11 p_11 e_11 hR_11 H_11
    subst e_11
    rcases z_ite h with ⟨c_14, h⟩ | ⟨c_14, h⟩
    · refine r_t1 (pc' := 29) (L' := [(0, .ref 122), (1, .int X1)]) hq (z_at.mk 3 rfl rfl) rfl hR_11 c_14 rfl rfl ?_
      exact g_qu_single_L29_ok hdr hrec hx1 H_11 h
    · refine r_f1 (pc' := 17) (L' := [(0, .ref 122), (1, .int X1)]) hq (z_at.mk 3 rfl rfl) rfl hR_11 c_14 rfl rfl ?_
      refine r_p hq 4 (pc' := 21) (L' := [(0, .ref 122), (1, .int X1)]) (st' := [.int (X1 + ((1 : Int32))), .ref 122]) rfl ?_
      obtain ⟨o_21, h_21, h⟩ := Option.bind_eq_some_iff.mp h
      refine r_cvL (pc' := 24) (L' := [(0, .ref 122), (1, .int X1)]) (Ps := [.int (X1 + ((1 : Int32)))]) (rest := []) hq (z_at.mk 3 rfl rfl) (Or.inl ⟨rfl, rfl⟩) rfl rfl (by decide) (by decide) rfl (Nat.not_lt.mpr (Nat.le_of_ble_eq_true rfl)) rfl rfl (z_cat_le 0 rfl (by decide)) (z_lgl_le 2 rfl (by decide)) (by decide) (H_11.tg rfl) (by omega) (hrec 70 (by simp) (tx_iadd hx1 (rfl : (1 : Int32).toInt = 1)) H_11 h_21) rfl rfl ?_
      intro R_21 m_21 p_21 e_21 hR_21 H_21
      subst e_21
      refine r_p hq 2 (pc' := 28) (L' := [(0, .ref 122), (1, .int X1)]) (st' := [.long (R_21 ^^^ ((-1 : Int64)))]) rfl ?_
      cases h
      exact r_rl hq (z_at.mk 1 rfl rfl) rfl (tx_lxor hR_21 (rfl : (-1 : Int64).toInt = -1)) rfl H_21
def g_grp68 : Nat → Nat → Int → zS → Option (Int × zS)
  | 0, _, _, _ => none
  | n + 1, j, x1, σ =>
    if j = 68 then g_qu_either (g_grp68 n) x1 σ else
    if j = 69 then g_qu_both (g_grp68 n) x1 σ else
    if j = 70 then g_qu_single (g_grp68 n) x1 σ else
    none
theorem g_grp68_ok {xl : Nat} {xs : Nat → Int32} : ∀ (n : Nat) (j : Nat), j ∈ [68, 69, 70] → ∀ {X1 : Int32} {x1 : Int} {σ : zS} {p : Nat} {m : zM} {o : Int × zS}, X1.toInt = x1 → zRep xl xs p m σ → g_grp68 n j x1 σ = some o → zGo xl xs (fun p' => p = p') (6 + n) j 0 (z_can j 0 (lv_args 0 [.ref 122, .int X1])) [] m (vL o.1) o.2
  | 0, _, _, _, _, _, _, _, _, _, _, h => by cases h
  | n + 1, j, hj, X1, x1, σ, p, m, o, hx1, H, h => by
    have ih := fun (j : Nat) (hj : j ∈ [68, 69, 70]) {X1 : Int32} {x1 : Int} {σ : zS} {p : Nat} {m : zM} {o : Int × zS} => g_grp68_ok (xl := xl) (xs := xs) n j hj (X1 := X1) (x1 := x1) (σ := σ) (p := p) (m := m) (o := o)
    unfold g_grp68 at h
    by_cases c_68 : j = 68
    · rw [if_pos c_68] at h
      subst c_68
      exact g_qu_either_ok (Nat.le_add_right _ _) ih hx1 H h
    rw [if_neg c_68] at h
    by_cases c_69 : j = 69
    · rw [if_pos c_69] at h
      subst c_69
      exact g_qu_both_ok (Nat.le_add_right _ _) ih hx1 H h
    rw [if_neg c_69] at h
    by_cases c_70 : j = 70
    · rw [if_pos c_70] at h
      subst c_70
      exact g_qu_single_ok (Nat.le_add_right _ _) ih hx1 H h
    rw [if_neg c_70] at h
    cases h
def g_jStringLatin1_charAt (a0 : Nat) (x1 : Int) (σ : zS) : Option (Int × zS) :=
  if 0 ≤ x1 ∧ x1 < (zLI a0) then
  if 0 ≤ x1 ∧ x1 < zLI a0 then
  let v_8 := zs0 a0 x1
  if 0 ≤ w16 (iAnd v_8 255) ∧ w16 (iAnd v_8 255) < 65536 then some (w16 (iAnd v_8 255), σ) else none
  else none
  else none
set_option maxHeartbeats 4000000 in
theorem g_jStringLatin1_charAt_ok {xl : Nat} {xs : Nat → Int32} {a0 : Nat} (ha0 : zIn [19, 20, 21, 22, 23, 24, 25, 26, 27, 28, 29, 30, 31, 32, 33, 34, 35, 36] a0 = true) {X1 : Int32} {x1 : Int} (hx1 : X1.toInt = x1) {σ : zS} {p : Nat} {m : zM} {o : Int × zS} (H : zRep xl xs p m σ) (h : g_jStringLatin1_charAt a0 x1 σ = some o) : zGo xl xs (fun p' => p = p') 1 308 0 (z_can 308 0 (lv_args 0 [.ref a0, .int X1])) [] m (vI o.1) o.2 := by
  have hq : z_mth 308 = some z_r308 := rfl
  unfold g_jStringLatin1_charAt at h
  show zGo xl xs (fun p' => p = p') 1 308 0 [(0, .ref a0), (1, .int X1)] [] m (vI o.1) o.2
  refine r_p hq 2 (pc' := 2) (L' := [(0, .ref a0), (1, .int X1)]) (st' := [.ref a0, .int X1]) rfl ?_
  refine r_le0 (pc' := 3) (L' := [(0, .ref a0), (1, .int X1)]) H hq (z_at.mk 1 rfl rfl) (zIn_all (l := [19, 20, 21, 22, 23, 24, 25, 26, 27, 28, 29, 30, 31, 32, 33, 34, 35, 36]) (p := fun a => zAz (a + 0) 2 (zLI (a + 0))) rfl ha0) rfl rfl rfl ?_
  intro V_2 hV_2
  obtain ⟨g_3, h⟩ := z_ifo_some h
  refine r_ci (pc' := 6) (L' := [(0, .ref a0), (1, .int X1)]) hq (z_at.mk 3 rfl rfl) rfl (z_cat_le 0 rfl (by decide)) hx1 hV_2 g_3 rfl rfl ?_
  refine r_p hq 2 (pc' := 8) (L' := [(0, .ref a0), (1, .int X1)]) (st' := [.int X1, .ref a0]) rfl ?_
  obtain ⟨g_8, h⟩ := z_ifo_some h
  refine r_ba0 (pc' := 9) (L' := [(0, .ref a0), (1, .int X1)]) H hq (z_at.mk 1 rfl rfl) (zIn_all (l := [19, 20, 21, 22, 23, 24, 25, 26, 27, 28, 29, 30, 31, 32, 33, 34, 35, 36]) (p := fun a => zAz a 2 (zLI a)) rfl ha0) hx1 g_8 rfl rfl ?_
  intro V_8 hV_8
  refine r_p hq 3 (pc' := 14) (L' := [(0, .ref a0), (1, .int X1)]) (st' := [.int (((V_8 &&& ((255 : Int32))).toUInt32 % 65536).toInt32)]) rfl ?_
  obtain ⟨g_14, h⟩ := z_if_some h
  cases h
  exact r_ri hq (z_at.mk 1 rfl rfl) rfl (z_rty_ch (tx_i2c (tx_iand hV_8 (rfl : (255 : Int32).toInt = 255))) g_14) (tx_i2c (tx_iand hV_8 (rfl : (255 : Int32).toInt = 255))) rfl H
def g_jString_charAt (a0 : Nat) (x1 : Int) (σ : zS) : Option (Int × zS) :=
  (g_jString_isLatin1 a0 σ).bind fun o_1 =>
  if o_1.1 = 0 then
    none
  else
    (g_jStringLatin1_charAt (a0 + 18) x1 o_1.2).bind fun o_12 =>
    if 0 ≤ o_12.1 ∧ o_12.1 < 65536 then some (o_12.1, o_12.2) else none
set_option maxHeartbeats 4000000 in
theorem g_jString_charAt_ok {xl : Nat} {xs : Nat → Int32} {a0 : Nat} (ha0 : zIn [1, 2, 3, 4, 5, 6, 7, 8, 9, 10, 11, 12, 13, 14, 15, 16, 17, 18] a0 = true) {X1 : Int32} {x1 : Int} (hx1 : X1.toInt = x1) {σ : zS} {p : Nat} {m : zM} {o : Int × zS} (H : zRep xl xs p m σ) (h : g_jString_charAt a0 x1 σ = some o) : zGo xl xs (fun p' => p = p') 2 294 0 (z_can 294 0 (lv_args 0 [.ref a0, .int X1])) [] m (vI o.1) o.2 := by
  have hq : z_mth 294 = some z_r294 := rfl
  unfold g_jString_charAt at h
  show zGo xl xs (fun p' => p = p') 2 294 0 [(0, .ref a0), (1, .int X1)] [] m (vI o.1) o.2
  refine r_p hq 1 (pc' := 1) (L' := [(0, .ref a0), (1, .int X1)]) (st' := [.ref a0]) rfl ?_
  obtain ⟨o_1, h_1, h⟩ := Option.bind_eq_some_iff.mp h
  refine r_cvI (pc' := 4) (L' := [(0, .ref a0), (1, .int X1)]) (Ps := []) (rest := []) hq (z_at.mk 3 rfl rfl) (Or.inl ⟨rfl, rfl⟩) rfl rfl (by decide) (by decide) rfl (Nat.not_lt.mpr (Nat.le_of_ble_eq_true rfl)) rfl rfl (z_cat_le 0 rfl (by decide)) (z_lgl_le 1 rfl (by decide)) (by decide) (H.tg9 (zIn_all (l := [1, 2, 3, 4, 5, 6, 7, 8, 9, 10, 11, 12, 13, 14, 15, 16, 17, 18]) (p := fun a => zIn [1, 2, 3, 4, 5, 6, 7, 8, 9, 10, 11, 12, 13, 14, 15, 16, 17, 18] a) rfl ha0)) (by omega) (g_jString_isLatin1_ok (zIn_all (l := [1, 2, 3, 4, 5, 6, 7, 8, 9, 10, 11, 12, 13, 14, 15, 16, 17, 18]) (p := fun a => zIn [1, 2, 3, 4, 5, 6, 7, 8, 9, 10, 11, 12, 13, 14, 15, 16, 17, 18] a) rfl ha0) H h_1) rfl rfl ?_
  intro R_1 m_1 p_1 e_1 hR_1 H_1
  subst e_1
  rcases z_ite h with ⟨c_4, h⟩ | ⟨c_4, h⟩
  · refine r_t1 (pc' := 16) (L' := [(0, .ref a0), (1, .int X1)]) hq (z_at.mk 3 rfl rfl) rfl hR_1 c_4 rfl rfl ?_
    refine r_p hq 1 (pc' := 17) (L' := [(0, .ref a0), (1, .int X1)]) (st' := [.ref a0]) rfl ?_
    refine r_gsR (pc' := 20) (L' := [(0, .ref a0), (1, .int X1)]) H_1 hq (z_at.mk 3 rfl rfl) rfl (zIn_all (l := [1, 2, 3, 4, 5, 6, 7, 8, 9, 10, 11, 12, 13, 14, 15, 16, 17, 18]) (p := fun a => zIn [1, 2, 3, 4, 5, 6, 7, 8, 9, 10, 11, 12, 13, 14, 15, 16, 17, 18] a) rfl ha0) rfl rfl ?_
    refine r_p hq 1 (pc' := 21) (L' := [(0, .ref a0), (1, .int X1)]) (st' := [.int X1, .ref (a0 + 18)]) rfl ?_
    cases h
  · refine r_f1 (pc' := 7) (L' := [(0, .ref a0), (1, .int X1)]) hq (z_at.mk 3 rfl rfl) rfl hR_1 c_4 rfl rfl ?_
    refine r_p hq 1 (pc' := 8) (L' := [(0, .ref a0), (1, .int X1)]) (st' := [.ref a0]) rfl ?_
    refine r_gsR (pc' := 11) (L' := [(0, .ref a0), (1, .int X1)]) H_1 hq (z_at.mk 3 rfl rfl) rfl (zIn_all (l := [1, 2, 3, 4, 5, 6, 7, 8, 9, 10, 11, 12, 13, 14, 15, 16, 17, 18]) (p := fun a => zIn [1, 2, 3, 4, 5, 6, 7, 8, 9, 10, 11, 12, 13, 14, 15, 16, 17, 18] a) rfl ha0) rfl rfl ?_
    refine r_p hq 1 (pc' := 12) (L' := [(0, .ref a0), (1, .int X1)]) (st' := [.int X1, .ref (a0 + 18)]) rfl ?_
    obtain ⟨o_12, h_12, h⟩ := Option.bind_eq_some_iff.mp h
    refine r_csI (pc' := 15) (L' := [(0, .ref a0), (1, .int X1)]) (As := [.ref (a0 + 18), .int X1]) (rest := []) (j := 308) hq (z_at.mk 3 rfl rfl) (Or.inl ⟨rfl, rfl⟩) rfl rfl (by omega) (g_jStringLatin1_charAt_ok (zIn_all (l := [1, 2, 3, 4, 5, 6, 7, 8, 9, 10, 11, 12, 13, 14, 15, 16, 17, 18]) (p := fun a => zIn [19, 20, 21, 22, 23, 24, 25, 26, 27, 28, 29, 30, 31, 32, 33, 34, 35, 36] (a + 18)) rfl ha0) hx1 H_1 h_12) rfl rfl ?_
    intro R_12 m_12 p_12 e_12 hR_12 H_12
    subst e_12
    obtain ⟨g_15, h⟩ := z_if_some h
    cases h
    exact r_ri hq (z_at.mk 1 rfl rfl) rfl (z_rty_ch hR_12 g_15) hR_12 rfl H_12
def g_ta_isSound (σ : zS) : Option (Int × zS) :=
  let v_1 := σ 120 3
  if v_1 ≠ -1 then
    some (0, σ)
  else
    some (1, σ)
set_option maxHeartbeats 4000000 in
theorem g_ta_isSound_ok {xl : Nat} {xs : Nat → Int32} {σ : zS} {p : Nat} {m : zM} {o : Int × zS} (H : zRep xl xs p m σ) (h : g_ta_isSound σ = some o) : zGo xl xs (fun p' => p = p') 1 93 0 (z_can 93 0 (lv_args 0 [.ref 120])) [] m (vI o.1) o.2 := by
  have hq : z_mth 93 = some z_r93 := rfl
  unfold g_ta_isSound at h
  show zGo xl xs (fun p' => p = p') 1 93 0 [(0, .ref 120)] [] m (vI o.1) o.2
  refine r_p hq 1 (pc' := 1) (L' := [(0, .ref 120)]) (st' := [.ref 120]) rfl ?_
  refine r_gI (pc' := 4) (L' := [(0, .ref 120)]) H hq (z_at.mk 3 rfl rfl) rfl rfl rfl rfl ?_
  intro V_1 hV_1
  refine r_p hq 1 (pc' := 5) (L' := [(0, .ref 120)]) (st' := [.int ((-1 : Int32)), .int V_1]) rfl ?_
  rcases z_ite h with ⟨c_5, h⟩ | ⟨c_5, h⟩
  · refine r_t2 (pc' := 12) (L' := [(0, .ref 120)]) hq (z_at.mk 3 rfl rfl) rfl hV_1 (rfl : (-1 : Int32).toInt = -1) c_5 rfl rfl ?_
    refine r_p hq 1 (pc' := 13) (L' := []) (st' := [.int ((0 : Int32))]) rfl ?_
    cases h
    exact r_ri hq (z_at.mk 1 rfl rfl) rfl rfl (rfl : (0 : Int32).toInt = 0) rfl H
  · refine r_f2 (pc' := 8) (L' := [(0, .ref 120)]) hq (z_at.mk 3 rfl rfl) rfl hV_1 (rfl : (-1 : Int32).toInt = -1) c_5 rfl rfl ?_
    refine r_p hq 2 (pc' := 13) (L' := []) (st' := [.int ((1 : Int32))]) rfl ?_
    cases h
    exact r_ri hq (z_at.mk 1 rfl rfl) rfl rfl (rfl : (1 : Int32).toInt = 1) rfl H
def g_ta_isSame_L40 (a1 : Nat) : Nat → Int → Int → Int → Int → zS → Option (Int × zS)
  | 0, _, _, _, _, _ => none
  | n + 1, x2, x3, x4, x5, σ =>
    if w32 (x3 - x2) ≤ x5 then
      some (1, σ)
    else
      (g_jString_length a1 σ).bind fun o_53 =>
      if o_53.1 ≤ w32 (x2 + x5) then
        some (1, o_53.2)
      else
        if 0 ≤ w32 (x4 + x5) ∧ w32 (x4 + x5) < 160 then
        let v_68 := o_53.2 121 (w32 (x4 + x5))
        (g_jString_charAt a1 (w32 (x2 + x5)) o_53.2).bind fun o_74 =>
        if v_68 = o_74.1 then
          (g_ta_isSame_L40 a1 n) x2 x3 x4 (w32 (x5 + 1)) o_74.2
        else
          some (0, o_74.2)
        else none
set_option maxHeartbeats 4000000 in
theorem g_ta_isSame_L40_ok {xl : Nat} {xs : Nat → Int32} {a1 : Nat} (ha1 : zIn [1, 2, 3, 4, 5, 6, 7, 8, 9, 10, 11, 12, 13, 14, 15, 16, 17, 18] a1 = true) : ∀ (n : Nat) {X2 : Int32} {x2 : Int} {X3 : Int32} {x3 : Int} {X4 : Int32} {x4 : Int} {X5 : Int32} {x5 : Int} {σ : zS} {p : Nat} {m : zM} {o : Int × zS}, X2.toInt = x2 → X3.toInt = x3 → X4.toInt = x4 → X5.toInt = x5 → zRep xl xs p m σ → g_ta_isSame_L40 a1 n x2 x3 x4 x5 σ = some o → zGo xl xs (fun p' => p = p') 3 103 40 [(0, .ref 120), (1, .ref a1), (2, .int X2), (3, .int X3), (4, .int X4), (5, .int X5)] [] m (vI o.1) o.2
  | 0, _, _, _, _, _, _, _, _, _, _, _, _, _, _, _, _, _, h => by cases h
  | n + 1, X2, x2, X3, x3, X4, x4, X5, x5, σ, p, m, o, hx2, hx3, hx4, hx5, H, h => by
    have hq : z_mth 103 = some z_r103 := rfl
    have ih := fun {X2 : Int32} {x2 : Int} {X3 : Int32} {x3 : Int} {X4 : Int32} {x4 : Int} {X5 : Int32} {x5 : Int} {σ : zS} {p : Nat} {m : zM} {o : Int × zS} => g_ta_isSame_L40_ok (xl := xl) (xs := xs) ha1 n (X2 := X2) (x2 := x2) (X3 := X3) (x3 := x3) (X4 := X4) (x4 := x4) (X5 := X5) (x5 := x5) (σ := σ) (p := p) (m := m) (o := o)
    unfold g_ta_isSame_L40 at h
    refine r_p hq 4 (pc' := 45) (L' := [(0, .ref 120), (1, .ref a1), (2, .int X2), (3, .int X3), (4, .int X4), (5, .int X5)]) (st' := [.int (X3 - X2), .int X5]) rfl ?_
    rcases z_ite h with ⟨c_45, h⟩ | ⟨c_45, h⟩
    · refine r_t2 (pc' := 88) (L' := []) hq (z_at.mk 3 rfl rfl) rfl hx5 (tx_isub hx3 hx2) c_45 rfl rfl ?_
      refine r_p hq 1 (pc' := 89) (L' := []) (st' := [.int ((1 : Int32))]) rfl ?_
      cases h
      exact r_ri hq (z_at.mk 1 rfl rfl) rfl rfl (rfl : (1 : Int32).toInt = 1) rfl H
    · refine r_f2 (pc' := 48) (L' := [(0, .ref 120), (1, .ref a1), (2, .int X2), (3, .int X3), (4, .int X4), (5, .int X5)]) hq (z_at.mk 3 rfl rfl) rfl hx5 (tx_isub hx3 hx2) c_45 rfl rfl ?_
      refine r_p hq 4 (pc' := 53) (L' := [(0, .ref 120), (1, .ref a1), (2, .int X2), (3, .int X3), (4, .int X4), (5, .int X5)]) (st' := [.ref a1, .int (X2 + X5)]) rfl ?_
      obtain ⟨o_53, h_53, h⟩ := Option.bind_eq_some_iff.mp h
      refine r_cvI (pc' := 56) (L' := [(0, .ref 120), (1, .ref a1), (2, .int X2), (3, .int X3), (4, .int X4), (5, .int X5)]) (Ps := []) (rest := [.int (X2 + X5)]) hq (z_at.mk 3 rfl rfl) (Or.inl ⟨rfl, rfl⟩) rfl rfl (by decide) (by decide) rfl (Nat.not_lt.mpr (Nat.le_of_ble_eq_true rfl)) rfl rfl (z_cat_le 1 rfl (by decide)) (z_lgl_le 1 rfl (by decide)) (by decide) (H.tg9 (zIn_all (l := [1, 2, 3, 4, 5, 6, 7, 8, 9, 10, 11, 12, 13, 14, 15, 16, 17, 18]) (p := fun a => zIn [1, 2, 3, 4, 5, 6, 7, 8, 9, 10, 11, 12, 13, 14, 15, 16, 17, 18] a) rfl ha1)) (by omega) (g_jString_length_ok (zIn_all (l := [1, 2, 3, 4, 5, 6, 7, 8, 9, 10, 11, 12, 13, 14, 15, 16, 17, 18]) (p := fun a => zIn [1, 2, 3, 4, 5, 6, 7, 8, 9, 10, 11, 12, 13, 14, 15, 16, 17, 18] a) rfl ha1) H h_53) rfl rfl ?_
      intro R_53 m_53 p_53 e_53 hR_53 H_53
      subst e_53
      rcases z_ite h with ⟨c_56, h⟩ | ⟨c_56, h⟩
      · refine r_t2 (pc' := 88) (L' := []) hq (z_at.mk 3 rfl rfl) rfl (tx_iadd hx2 hx5) hR_53 c_56 rfl rfl ?_
        refine r_p hq 1 (pc' := 89) (L' := []) (st' := [.int ((1 : Int32))]) rfl ?_
        cases h
        exact r_ri hq (z_at.mk 1 rfl rfl) rfl rfl (rfl : (1 : Int32).toInt = 1) rfl H_53
      · refine r_f2 (pc' := 59) (L' := [(0, .ref 120), (1, .ref a1), (2, .int X2), (3, .int X3), (4, .int X4), (5, .int X5)]) hq (z_at.mk 3 rfl rfl) rfl (tx_iadd hx2 hx5) hR_53 c_56 rfl rfl ?_
        refine r_p hq 1 (pc' := 60) (L' := [(0, .ref 120), (1, .ref a1), (2, .int X2), (3, .int X3), (4, .int X4), (5, .int X5)]) (st' := [.ref 120]) rfl ?_
        refine r_gR (b := 121) (pc' := 63) (L' := [(0, .ref 120), (1, .ref a1), (2, .int X2), (3, .int X3), (4, .int X4), (5, .int X5)]) H_53 hq (z_at.mk 3 rfl rfl) rfl rfl rfl rfl ?_
        refine r_p hq 3 (pc' := 68) (L' := [(0, .ref 120), (1, .ref a1), (2, .int X2), (3, .int X3), (4, .int X4), (5, .int X5)]) (st' := [.int (X4 + X5), .ref 121]) rfl ?_
        obtain ⟨g_68, h⟩ := z_ifo_some h
        refine r_ba (pc' := 69) (L' := [(0, .ref 120), (1, .ref a1), (2, .int X2), (3, .int X3), (4, .int X4), (5, .int X5)]) H_53 hq (z_at.mk 1 rfl rfl) (show zAr 121 2 160 = true from rfl) (tx_iadd hx4 hx5) g_68 rfl rfl ?_
        intro V_68 hV_68
        refine r_p hq 4 (pc' := 74) (L' := [(0, .ref 120), (1, .ref a1), (2, .int X2), (3, .int X3), (4, .int X4), (5, .int X5)]) (st' := [.int (X2 + X5), .ref a1, .int V_68]) rfl ?_
        obtain ⟨o_74, h_74, h⟩ := Option.bind_eq_some_iff.mp h
        refine r_cvI (pc' := 77) (L' := [(0, .ref 120), (1, .ref a1), (2, .int X2), (3, .int X3), (4, .int X4), (5, .int X5)]) (Ps := [.int (X2 + X5)]) (rest := [.int V_68]) hq (z_at.mk 3 rfl rfl) (Or.inl ⟨rfl, rfl⟩) rfl rfl (by decide) (by decide) rfl (Nat.not_lt.mpr (Nat.le_of_ble_eq_true rfl)) rfl rfl (z_cat_le 1 rfl (by decide)) (z_lgl_le 2 rfl (by decide)) (by decide) (H_53.tg9 (zIn_all (l := [1, 2, 3, 4, 5, 6, 7, 8, 9, 10, 11, 12, 13, 14, 15, 16, 17, 18]) (p := fun a => zIn [1, 2, 3, 4, 5, 6, 7, 8, 9, 10, 11, 12, 13, 14, 15, 16, 17, 18] a) rfl ha1)) (by omega) (g_jString_charAt_ok (zIn_all (l := [1, 2, 3, 4, 5, 6, 7, 8, 9, 10, 11, 12, 13, 14, 15, 16, 17, 18]) (p := fun a => zIn [1, 2, 3, 4, 5, 6, 7, 8, 9, 10, 11, 12, 13, 14, 15, 16, 17, 18] a) rfl ha1) (tx_iadd hx2 hx5) H_53 h_74) rfl rfl ?_
        intro R_74 m_74 p_74 e_74 hR_74 H_74
        subst e_74
        rcases z_ite h with ⟨c_77, h⟩ | ⟨c_77, h⟩
        · refine r_t2 (pc' := 82) (L' := [(0, .ref 120), (1, .ref a1), (2, .int X2), (3, .int X3), (4, .int X4), (5, .int X5)]) hq (z_at.mk 3 rfl rfl) rfl hV_68 hR_74 c_77 rfl rfl ?_
          refine r_p hq 2 (pc' := 40) (L' := [(0, .ref 120), (1, .ref a1), (2, .int X2), (3, .int X3), (4, .int X4), (5, .int (X5 + (1 : Int32)))]) (st' := []) rfl ?_
          exact ih hx2 hx3 hx4 (tx_iadd hx5 (rfl : (1 : Int32).toInt = 1)) H_74 h
        · refine r_f2 (pc' := 80) (L' := [(0, .ref 120), (1, .ref a1), (2, .int X2), (3, .int X3), (4, .int X4), (5, .int X5)]) hq (z_at.mk 3 rfl rfl) rfl hV_68 hR_74 c_77 rfl rfl ?_
          refine r_p hq 1 (pc' := 81) (L' := [(0, .ref 120), (1, .ref a1), (2, .int X2), (3, .int X3), (4, .int X4), (5, .int X5)]) (st' := [.int ((0 : Int32))]) rfl ?_
          cases h
          exact r_ri hq (z_at.mk 1 rfl rfl) rfl rfl (rfl : (0 : Int32).toInt = 0) rfl H_74
def g_ta_isSame (a1 : Nat) (x2 : Int) (x3 : Int) (x4 : Int) (σ : zS) : Option (Int × zS) :=
  (g_ta_isSound σ).bind fun o_1 =>
  if o_1.1 = 0 then
    some (0, o_1.2)
  else
    if x4 < 0 then
      some (0, o_1.2)
    else
      let v_13 := o_1.2 120 2
      if 160 < v_13 then
        some (0, o_1.2)
      else
        let v_23 := o_1.2 120 2
        if w32 (v_23 - x4) = w32 (x3 - x2) then
          g_ta_isSame_L40 a1 zK x2 x3 x4 0 o_1.2
        else
          some (0, o_1.2)
set_option maxHeartbeats 4000000 in
theorem g_ta_isSame_ok {xl : Nat} {xs : Nat → Int32} {a1 : Nat} (ha1 : zIn [1, 2, 3, 4, 5, 6, 7, 8, 9, 10, 11, 12, 13, 14, 15, 16, 17, 18] a1 = true) {X2 : Int32} {x2 : Int} (hx2 : X2.toInt = x2) {X3 : Int32} {x3 : Int} (hx3 : X3.toInt = x3) {X4 : Int32} {x4 : Int} (hx4 : X4.toInt = x4) {σ : zS} {p : Nat} {m : zM} {o : Int × zS} (H : zRep xl xs p m σ) (h : g_ta_isSame a1 x2 x3 x4 σ = some o) : zGo xl xs (fun p' => p = p') 3 103 0 (z_can 103 0 (lv_args 0 [.ref 120, .ref a1, .int X2, .int X3, .int X4])) [] m (vI o.1) o.2 := by
  have hq : z_mth 103 = some z_r103 := rfl
  unfold g_ta_isSame at h
  show zGo xl xs (fun p' => p = p') 3 103 0 [(0, .ref 120), (1, .ref a1), (2, .int X2), (3, .int X3), (4, .int X4)] [] m (vI o.1) o.2
  refine r_p hq 1 (pc' := 1) (L' := [(0, .ref 120), (1, .ref a1), (2, .int X2), (3, .int X3), (4, .int X4)]) (st' := [.ref 120]) rfl ?_
  obtain ⟨o_1, h_1, h⟩ := Option.bind_eq_some_iff.mp h
  refine r_cvI (pc' := 4) (L' := [(0, .ref 120), (1, .ref a1), (2, .int X2), (3, .int X3), (4, .int X4)]) (Ps := []) (rest := []) hq (z_at.mk 3 rfl rfl) (Or.inl ⟨rfl, rfl⟩) rfl rfl (by decide) (by decide) rfl (Nat.not_lt.mpr (Nat.le_of_ble_eq_true rfl)) rfl rfl (z_cat_le 0 rfl (by decide)) (z_lgl_le 1 rfl (by decide)) (by decide) (H.tg rfl) (by omega) (g_ta_isSound_ok H h_1) rfl rfl ?_
  intro R_1 m_1 p_1 e_1 hR_1 H_1
  subst e_1
  rcases z_ite h with ⟨c_4, h⟩ | ⟨c_4, h⟩
  · refine r_t1 (pc' := 35) (L' := []) hq (z_at.mk 3 rfl rfl) rfl hR_1 c_4 rfl rfl ?_
    refine r_p hq 1 (pc' := 36) (L' := []) (st' := [.int ((0 : Int32))]) rfl ?_
    cases h
    exact r_ri hq (z_at.mk 1 rfl rfl) rfl rfl (rfl : (0 : Int32).toInt = 0) rfl H_1
  · refine r_f1 (pc' := 7) (L' := [(0, .ref 120), (1, .ref a1), (2, .int X2), (3, .int X3), (4, .int X4)]) hq (z_at.mk 3 rfl rfl) rfl hR_1 c_4 rfl rfl ?_
    refine r_p hq 1 (pc' := 9) (L' := [(0, .ref 120), (1, .ref a1), (2, .int X2), (3, .int X3), (4, .int X4)]) (st' := [.int X4]) rfl ?_
    rcases z_ite h with ⟨c_9, h⟩ | ⟨c_9, h⟩
    · refine r_t1 (pc' := 35) (L' := []) hq (z_at.mk 3 rfl rfl) rfl hx4 c_9 rfl rfl ?_
      refine r_p hq 1 (pc' := 36) (L' := []) (st' := [.int ((0 : Int32))]) rfl ?_
      cases h
      exact r_ri hq (z_at.mk 1 rfl rfl) rfl rfl (rfl : (0 : Int32).toInt = 0) rfl H_1
    · refine r_f1 (pc' := 12) (L' := [(0, .ref 120), (1, .ref a1), (2, .int X2), (3, .int X3), (4, .int X4)]) hq (z_at.mk 3 rfl rfl) rfl hx4 c_9 rfl rfl ?_
      refine r_p hq 1 (pc' := 13) (L' := [(0, .ref 120), (1, .ref a1), (2, .int X2), (3, .int X3), (4, .int X4)]) (st' := [.ref 120]) rfl ?_
      refine r_gI (pc' := 16) (L' := [(0, .ref 120), (1, .ref a1), (2, .int X2), (3, .int X3), (4, .int X4)]) H_1 hq (z_at.mk 3 rfl rfl) rfl rfl rfl rfl ?_
      intro V_13 hV_13
      refine r_p hq 1 (pc' := 19) (L' := [(0, .ref 120), (1, .ref a1), (2, .int X2), (3, .int X3), (4, .int X4)]) (st' := [.int ((160 : Int32)), .int V_13]) rfl ?_
      rcases z_ite h with ⟨c_19, h⟩ | ⟨c_19, h⟩
      · refine r_t2 (pc' := 35) (L' := []) hq (z_at.mk 3 rfl rfl) rfl hV_13 (rfl : (160 : Int32).toInt = 160) c_19 rfl rfl ?_
        refine r_p hq 1 (pc' := 36) (L' := []) (st' := [.int ((0 : Int32))]) rfl ?_
        cases h
        exact r_ri hq (z_at.mk 1 rfl rfl) rfl rfl (rfl : (0 : Int32).toInt = 0) rfl H_1
      · refine r_f2 (pc' := 22) (L' := [(0, .ref 120), (1, .ref a1), (2, .int X2), (3, .int X3), (4, .int X4)]) hq (z_at.mk 3 rfl rfl) rfl hV_13 (rfl : (160 : Int32).toInt = 160) c_19 rfl rfl ?_
        refine r_p hq 1 (pc' := 23) (L' := [(0, .ref 120), (1, .ref a1), (2, .int X2), (3, .int X3), (4, .int X4)]) (st' := [.ref 120]) rfl ?_
        refine r_gI (pc' := 26) (L' := [(0, .ref 120), (1, .ref a1), (2, .int X2), (3, .int X3), (4, .int X4)]) H_1 hq (z_at.mk 3 rfl rfl) rfl rfl rfl rfl ?_
        intro V_23 hV_23
        refine r_p hq 5 (pc' := 32) (L' := [(0, .ref 120), (1, .ref a1), (2, .int X2), (3, .int X3), (4, .int X4)]) (st' := [.int (X3 - X2), .int (V_23 - X4)]) rfl ?_
        rcases z_ite h with ⟨c_32, h⟩ | ⟨c_32, h⟩
        · refine r_t2 (pc' := 37) (L' := [(0, .ref 120), (1, .ref a1), (2, .int X2), (3, .int X3), (4, .int X4)]) hq (z_at.mk 3 rfl rfl) rfl (tx_isub hV_23 hx4) (tx_isub hx3 hx2) c_32 rfl rfl ?_
          refine r_p hq 2 (pc' := 40) (L' := [(0, .ref 120), (1, .ref a1), (2, .int X2), (3, .int X3), (4, .int X4), (5, .int ((0 : Int32)))]) (st' := []) rfl ?_
          exact g_ta_isSame_L40_ok ha1 zK hx2 hx3 hx4 (rfl : (0 : Int32).toInt = 0) H_1 h
        · refine r_f2 (pc' := 35) (L' := []) hq (z_at.mk 3 rfl rfl) rfl (tx_isub hV_23 hx4) (tx_isub hx3 hx2) c_32 rfl rfl ?_
          refine r_p hq 1 (pc' := 36) (L' := []) (st' := [.int ((0 : Int32))]) rfl ?_
          cases h
          exact r_ri hq (z_at.mk 1 rfl rfl) rfl rfl (rfl : (0 : Int32).toInt = 0) rfl H_1
def g_ta_word_L109 (a1 : Nat) (g56 : Int → Int → Int → Int → zS → Option (Int × zS)) (x2 : Int) (x3 : Int) (x4 : Int) (x5 : Int) (σ : zS) : Option (Int × zS) :=
  g56 x2 x3 x4 (w32 (x5 + 1)) σ
set_option maxHeartbeats 4000000 in
theorem g_ta_word_L109_ok {xl : Nat} {xs : Nat → Int32} {a1 : Nat} (ha1 : zIn [1, 2, 3, 4, 5, 6, 7, 8, 9, 10, 11, 12, 13, 14, 15, 16, 17, 18] a1 = true) {g56 : Int → Int → Int → Int → zS → Option (Int × zS)} (hg56 : ∀ {X2 : Int32} {x2 : Int} {X3 : Int32} {x3 : Int} {X4 : Int32} {x4 : Int} {X5 : Int32} {x5 : Int} {σ : zS} {p : Nat} {m : zM} {o : Int × zS}, X2.toInt = x2 → X3.toInt = x3 → X4.toInt = x4 → X5.toInt = x5 → zRep xl xs p m σ → g56 x2 x3 x4 x5 σ = some o → zGo xl xs (fun p' => p = p') 4 102 56 [(0, .ref 120), (1, .ref a1), (2, .int X2), (3, .int X3), (4, .int X4), (5, .int X5)] [] m (vI o.1) o.2) {X2 : Int32} {x2 : Int} (hx2 : X2.toInt = x2) {X3 : Int32} {x3 : Int} (hx3 : X3.toInt = x3) {X4 : Int32} {x4 : Int} (hx4 : X4.toInt = x4) {X5 : Int32} {x5 : Int} (hx5 : X5.toInt = x5) {σ : zS} {p : Nat} {m : zM} {o : Int × zS} (H : zRep xl xs p m σ) (h : g_ta_word_L109 a1 g56 x2 x3 x4 x5 σ = some o) : zGo xl xs (fun p' => p = p') 4 102 109 [(0, .ref 120), (1, .ref a1), (2, .int X2), (3, .int X3), (4, .int X4), (5, .int X5)] [] m (vI o.1) o.2 := by
  have hq : z_mth 102 = some z_r102 := rfl
  unfold g_ta_word_L109 at h
  refine r_p hq 2 (pc' := 56) (L' := [(0, .ref 120), (1, .ref a1), (2, .int X2), (3, .int X3), (4, .int X4), (5, .int (X5 + (1 : Int32)))]) (st' := []) rfl ?_
  exact hg56 hx2 hx3 hx4 (tx_iadd hx5 (rfl : (1 : Int32).toInt = 1)) H h
def g_ta_word_L85 (a1 : Nat) (g56 : Int → Int → Int → Int → zS → Option (Int × zS)) (x2 : Int) (x3 : Int) (x4 : Int) (x5 : Int) (σ : zS) : Option (Int × zS) :=
  (g_ta_isSame a1 x4 x5 x2 σ).bind fun o_92 =>
  if o_92.1 = 0 then
    g_ta_word_L109 a1 g56 x2 (w32 (x3 + 1)) (w32 (x5 + 1)) x5 o_92.2
  else
    some (x3, o_92.2)
set_option maxHeartbeats 4000000 in
theorem g_ta_word_L85_ok {xl : Nat} {xs : Nat → Int32} {a1 : Nat} (ha1 : zIn [1, 2, 3, 4, 5, 6, 7, 8, 9, 10, 11, 12, 13, 14, 15, 16, 17, 18] a1 = true) {g56 : Int → Int → Int → Int → zS → Option (Int × zS)} (hg56 : ∀ {X2 : Int32} {x2 : Int} {X3 : Int32} {x3 : Int} {X4 : Int32} {x4 : Int} {X5 : Int32} {x5 : Int} {σ : zS} {p : Nat} {m : zM} {o : Int × zS}, X2.toInt = x2 → X3.toInt = x3 → X4.toInt = x4 → X5.toInt = x5 → zRep xl xs p m σ → g56 x2 x3 x4 x5 σ = some o → zGo xl xs (fun p' => p = p') 4 102 56 [(0, .ref 120), (1, .ref a1), (2, .int X2), (3, .int X3), (4, .int X4), (5, .int X5)] [] m (vI o.1) o.2) {X2 : Int32} {x2 : Int} (hx2 : X2.toInt = x2) {X3 : Int32} {x3 : Int} (hx3 : X3.toInt = x3) {X4 : Int32} {x4 : Int} (hx4 : X4.toInt = x4) {X5 : Int32} {x5 : Int} (hx5 : X5.toInt = x5) {σ : zS} {p : Nat} {m : zM} {o : Int × zS} (H : zRep xl xs p m σ) (h : g_ta_word_L85 a1 g56 x2 x3 x4 x5 σ = some o) : zGo xl xs (fun p' => p = p') 4 102 85 [(0, .ref 120), (1, .ref a1), (2, .int X2), (3, .int X3), (4, .int X4), (5, .int X5)] [] m (vI o.1) o.2 := by
  have hq : z_mth 102 = some z_r102 := rfl
  unfold g_ta_word_L85 at h
  refine r_p hq 5 (pc' := 92) (L' := [(0, .ref 120), (1, .ref a1), (2, .int X2), (3, .int X3), (4, .int X4), (5, .int X5)]) (st' := [.int X2, .int X5, .int X4, .ref a1, .ref 120]) rfl ?_
  obtain ⟨o_92, h_92, h⟩ := Option.bind_eq_some_iff.mp h
  refine r_cvI (pc' := 95) (L' := [(0, .ref 120), (1, .ref a1), (2, .int X2), (3, .int X3), (4, .int X4), (5, .int X5)]) (Ps := [.ref a1, .int X4, .int X5, .int X2]) (rest := []) hq (z_at.mk 3 rfl rfl) (Or.inl ⟨rfl, rfl⟩) rfl rfl (by decide) (by decide) rfl (Nat.not_lt.mpr (Nat.le_of_ble_eq_true rfl)) rfl rfl (z_cat_le 0 rfl (by decide)) (z_lgl_le 5 rfl (by decide)) (by decide) (H.tg rfl) (by omega) (g_ta_isSame_ok (zIn_all (l := [1, 2, 3, 4, 5, 6, 7, 8, 9, 10, 11, 12, 13, 14, 15, 16, 17, 18]) (p := fun a => zIn [1, 2, 3, 4, 5, 6, 7, 8, 9, 10, 11, 12, 13, 14, 15, 16, 17, 18] a) rfl ha1) hx4 hx5 hx2 H h_92) rfl rfl ?_
  intro R_92 m_92 p_92 e_92 hR_92 H_92
  subst e_92
  rcases z_ite h with ⟨c_95, h⟩ | ⟨c_95, h⟩
  · refine r_t1 (pc' := 100) (L' := [(0, .ref 120), (1, .ref a1), (2, .int X2), (3, .int X3), (4, .int X4), (5, .int X5)]) hq (z_at.mk 3 rfl rfl) rfl hR_92 c_95 rfl rfl ?_
    refine r_p hq 5 (pc' := 109) (L' := [(0, .ref 120), (1, .ref a1), (2, .int X2), (3, .int (X3 + (1 : Int32))), (4, .int (X5 + ((1 : Int32)))), (5, .int X5)]) (st' := []) rfl ?_
    exact g_ta_word_L109_ok ha1 hg56 hx2 (tx_iadd hx3 (rfl : (1 : Int32).toInt = 1)) (tx_iadd hx5 (rfl : (1 : Int32).toInt = 1)) hx5 H_92 h
  · refine r_f1 (pc' := 98) (L' := [(0, .ref 120), (1, .ref a1), (2, .int X2), (3, .int X3), (4, .int X4), (5, .int X5)]) hq (z_at.mk 3 rfl rfl) rfl hR_92 c_95 rfl rfl ?_
    refine r_p hq 1 (pc' := 99) (L' := [(0, .ref 120), (1, .ref a1), (2, .int X2), (3, .int X3), (4, .int X4), (5, .int X5)]) (st' := [.int X3]) rfl ?_
    cases h
    exact r_ri hq (z_at.mk 1 rfl rfl) rfl rfl hx3 rfl H_92
def g_ta_word_L56 (a1 : Nat) : Nat → Int → Int → Int → Int → zS → Option (Int × zS)
  | 0, _, _, _, _, _ => none
  | n + 1, x2, x3, x4, x5, σ =>
    (g_jString_length a1 σ).bind fun o_59 =>
    if o_59.1 < x5 then
      (g_ta_blame x2 o_59.2).bind fun o_117 =>
      some (-1, o_117.2)
    else
      (g_jString_length a1 o_59.2).bind fun o_68 =>
      if x5 = o_68.1 then
        g_ta_word_L85 a1 ((g_ta_word_L56 a1 n)) x2 x3 x4 x5 o_68.2
      else
        (g_jString_charAt a1 x5 o_68.2).bind fun o_77 =>
        if o_77.1 ≠ 32 then
          g_ta_word_L109 a1 ((g_ta_word_L56 a1 n)) x2 x3 x4 x5 o_77.2
        else
          g_ta_word_L85 a1 ((g_ta_word_L56 a1 n)) x2 x3 x4 x5 o_77.2
set_option maxHeartbeats 4000000 in
theorem g_ta_word_L56_ok {xl : Nat} {xs : Nat → Int32} {a1 : Nat} (ha1 : zIn [1, 2, 3, 4, 5, 6, 7, 8, 9, 10, 11, 12, 13, 14, 15, 16, 17, 18] a1 = true) : ∀ (n : Nat) {X2 : Int32} {x2 : Int} {X3 : Int32} {x3 : Int} {X4 : Int32} {x4 : Int} {X5 : Int32} {x5 : Int} {σ : zS} {p : Nat} {m : zM} {o : Int × zS}, X2.toInt = x2 → X3.toInt = x3 → X4.toInt = x4 → X5.toInt = x5 → zRep xl xs p m σ → g_ta_word_L56 a1 n x2 x3 x4 x5 σ = some o → zGo xl xs (fun p' => p = p') 4 102 56 [(0, .ref 120), (1, .ref a1), (2, .int X2), (3, .int X3), (4, .int X4), (5, .int X5)] [] m (vI o.1) o.2
  | 0, _, _, _, _, _, _, _, _, _, _, _, _, _, _, _, _, _, h => by cases h
  | n + 1, X2, x2, X3, x3, X4, x4, X5, x5, σ, p, m, o, hx2, hx3, hx4, hx5, H, h => by
    have hq : z_mth 102 = some z_r102 := rfl
    have ih := fun {X2 : Int32} {x2 : Int} {X3 : Int32} {x3 : Int} {X4 : Int32} {x4 : Int} {X5 : Int32} {x5 : Int} {σ : zS} {p : Nat} {m : zM} {o : Int × zS} => g_ta_word_L56_ok (xl := xl) (xs := xs) ha1 n (X2 := X2) (x2 := x2) (X3 := X3) (x3 := x3) (X4 := X4) (x4 := x4) (X5 := X5) (x5 := x5) (σ := σ) (p := p) (m := m) (o := o)
    unfold g_ta_word_L56 at h
    refine r_p hq 2 (pc' := 59) (L' := [(0, .ref 120), (1, .ref a1), (2, .int X2), (3, .int X3), (4, .int X4), (5, .int X5)]) (st' := [.ref a1, .int X5]) rfl ?_
    obtain ⟨o_59, h_59, h⟩ := Option.bind_eq_some_iff.mp h
    refine r_cvI (pc' := 62) (L' := [(0, .ref 120), (1, .ref a1), (2, .int X2), (3, .int X3), (4, .int X4), (5, .int X5)]) (Ps := []) (rest := [.int X5]) hq (z_at.mk 3 rfl rfl) (Or.inl ⟨rfl, rfl⟩) rfl rfl (by decide) (by decide) rfl (Nat.not_lt.mpr (Nat.le_of_ble_eq_true rfl)) rfl rfl (z_cat_le 1 rfl (by decide)) (z_lgl_le 1 rfl (by decide)) (by decide) (H.tg9 (zIn_all (l := [1, 2, 3, 4, 5, 6, 7, 8, 9, 10, 11, 12, 13, 14, 15, 16, 17, 18]) (p := fun a => zIn [1, 2, 3, 4, 5, 6, 7, 8, 9, 10, 11, 12, 13, 14, 15, 16, 17, 18] a) rfl ha1)) (by omega) (g_jString_length_ok (zIn_all (l := [1, 2, 3, 4, 5, 6, 7, 8, 9, 10, 11, 12, 13, 14, 15, 16, 17, 18]) (p := fun a => zIn [1, 2, 3, 4, 5, 6, 7, 8, 9, 10, 11, 12, 13, 14, 15, 16, 17, 18] a) rfl ha1) H h_59) rfl rfl ?_
    intro R_59 m_59 p_59 e_59 hR_59 H_59
    subst e_59
    rcases z_ite h with ⟨c_62, h⟩ | ⟨c_62, h⟩
    · refine r_t2 (pc' := 115) (L' := [(0, .ref 120), (1, .ref a1), (2, .int X2), (3, .int X3), (4, .int X4), (5, .int X5)]) hq (z_at.mk 3 rfl rfl) rfl hx5 hR_59 c_62 rfl rfl ?_
      refine r_p hq 2 (pc' := 117) (L' := [(0, .ref 120), (1, .ref a1), (2, .int X2), (3, .int X3), (4, .int X4), (5, .int X5)]) (st' := [.int X2, .ref 120]) rfl ?_
      obtain ⟨o_117, h_117, h⟩ := Option.bind_eq_some_iff.mp h
      refine r_cvV (pc' := 120) (L' := [(0, .ref 120), (1, .ref a1), (2, .int X2), (3, .int X3), (4, .int X4), (5, .int X5)]) (Ps := [.int X2]) (rest := []) hq (z_at.mk 3 rfl rfl) (Or.inl ⟨rfl, rfl⟩) rfl rfl (by decide) (by decide) rfl (Nat.not_lt.mpr (Nat.le_of_ble_eq_true rfl)) rfl rfl (z_cat_le 0 rfl (by decide)) (z_lgl_le 2 rfl (by decide)) (by decide) (H_59.tg rfl) (by omega) (g_ta_blame_ok hx2 H_59 h_117) rfl rfl ?_
      intro m_117 p_117 e_117 H_117
      subst e_117
      refine r_p hq 1 (pc' := 121) (L' := [(0, .ref 120), (1, .ref a1), (2, .int X2), (3, .int X3), (4, .int X4), (5, .int X5)]) (st' := [.int ((-1 : Int32))]) rfl ?_
      cases h
      exact r_ri hq (z_at.mk 1 rfl rfl) rfl rfl (rfl : (-1 : Int32).toInt = -1) rfl H_117
    · refine r_f2 (pc' := 65) (L' := [(0, .ref 120), (1, .ref a1), (2, .int X2), (3, .int X3), (4, .int X4), (5, .int X5)]) hq (z_at.mk 3 rfl rfl) rfl hx5 hR_59 c_62 rfl rfl ?_
      refine r_p hq 2 (pc' := 68) (L' := [(0, .ref 120), (1, .ref a1), (2, .int X2), (3, .int X3), (4, .int X4), (5, .int X5)]) (st' := [.ref a1, .int X5]) rfl ?_
      obtain ⟨o_68, h_68, h⟩ := Option.bind_eq_some_iff.mp h
      refine r_cvI (pc' := 71) (L' := [(0, .ref 120), (1, .ref a1), (2, .int X2), (3, .int X3), (4, .int X4), (5, .int X5)]) (Ps := []) (rest := [.int X5]) hq (z_at.mk 3 rfl rfl) (Or.inl ⟨rfl, rfl⟩) rfl rfl (by decide) (by decide) rfl (Nat.not_lt.mpr (Nat.le_of_ble_eq_true rfl)) rfl rfl (z_cat_le 1 rfl (by decide)) (z_lgl_le 1 rfl (by decide)) (by decide) (H_59.tg9 (zIn_all (l := [1, 2, 3, 4, 5, 6, 7, 8, 9, 10, 11, 12, 13, 14, 15, 16, 17, 18]) (p := fun a => zIn [1, 2, 3, 4, 5, 6, 7, 8, 9, 10, 11, 12, 13, 14, 15, 16, 17, 18] a) rfl ha1)) (by omega) (g_jString_length_ok (zIn_all (l := [1, 2, 3, 4, 5, 6, 7, 8, 9, 10, 11, 12, 13, 14, 15, 16, 17, 18]) (p := fun a => zIn [1, 2, 3, 4, 5, 6, 7, 8, 9, 10, 11, 12, 13, 14, 15, 16, 17, 18] a) rfl ha1) H_59 h_68) rfl rfl ?_
      intro R_68 m_68 p_68 e_68 hR_68 H_68
      subst e_68
      rcases z_ite h with ⟨c_71, h⟩ | ⟨c_71, h⟩
      · refine r_t2 (pc' := 85) (L' := [(0, .ref 120), (1, .ref a1), (2, .int X2), (3, .int X3), (4, .int X4), (5, .int X5)]) hq (z_at.mk 3 rfl rfl) rfl hx5 hR_68 c_71 rfl rfl ?_
        exact g_ta_word_L85_ok ha1 ih hx2 hx3 hx4 hx5 H_68 h
      · refine r_f2 (pc' := 74) (L' := [(0, .ref 120), (1, .ref a1), (2, .int X2), (3, .int X3), (4, .int X4), (5, .int X5)]) hq (z_at.mk 3 rfl rfl) rfl hx5 hR_68 c_71 rfl rfl ?_
        refine r_p hq 2 (pc' := 77) (L' := [(0, .ref 120), (1, .ref a1), (2, .int X2), (3, .int X3), (4, .int X4), (5, .int X5)]) (st' := [.int X5, .ref a1]) rfl ?_
        obtain ⟨o_77, h_77, h⟩ := Option.bind_eq_some_iff.mp h
        refine r_cvI (pc' := 80) (L' := [(0, .ref 120), (1, .ref a1), (2, .int X2), (3, .int X3), (4, .int X4), (5, .int X5)]) (Ps := [.int X5]) (rest := []) hq (z_at.mk 3 rfl rfl) (Or.inl ⟨rfl, rfl⟩) rfl rfl (by decide) (by decide) rfl (Nat.not_lt.mpr (Nat.le_of_ble_eq_true rfl)) rfl rfl (z_cat_le 0 rfl (by decide)) (z_lgl_le 2 rfl (by decide)) (by decide) (H_68.tg9 (zIn_all (l := [1, 2, 3, 4, 5, 6, 7, 8, 9, 10, 11, 12, 13, 14, 15, 16, 17, 18]) (p := fun a => zIn [1, 2, 3, 4, 5, 6, 7, 8, 9, 10, 11, 12, 13, 14, 15, 16, 17, 18] a) rfl ha1)) (by omega) (g_jString_charAt_ok (zIn_all (l := [1, 2, 3, 4, 5, 6, 7, 8, 9, 10, 11, 12, 13, 14, 15, 16, 17, 18]) (p := fun a => zIn [1, 2, 3, 4, 5, 6, 7, 8, 9, 10, 11, 12, 13, 14, 15, 16, 17, 18] a) rfl ha1) hx5 H_68 h_77) rfl rfl ?_
        intro R_77 m_77 p_77 e_77 hR_77 H_77
        subst e_77
        refine r_p hq 1 (pc' := 82) (L' := [(0, .ref 120), (1, .ref a1), (2, .int X2), (3, .int X3), (4, .int X4), (5, .int X5)]) (st' := [.int ((32 : Int32)), .int R_77]) rfl ?_
        rcases z_ite h with ⟨c_82, h⟩ | ⟨c_82, h⟩
        · refine r_t2 (pc' := 109) (L' := [(0, .ref 120), (1, .ref a1), (2, .int X2), (3, .int X3), (4, .int X4), (5, .int X5)]) hq (z_at.mk 3 rfl rfl) rfl hR_77 (rfl : (32 : Int32).toInt = 32) c_82 rfl rfl ?_
          exact g_ta_word_L109_ok ha1 ih hx2 hx3 hx4 hx5 H_77 h
        · refine r_f2 (pc' := 85) (L' := [(0, .ref 120), (1, .ref a1), (2, .int X2), (3, .int X3), (4, .int X4), (5, .int X5)]) hq (z_at.mk 3 rfl rfl) rfl hR_77 (rfl : (32 : Int32).toInt = 32) c_82 rfl rfl ?_
          exact g_ta_word_L85_ok ha1 ih hx2 hx3 hx4 hx5 H_77 h
def g_ta_word_L48 (a1 : Nat) (x2 : Int) (σ : zS) : Option (Int × zS) :=
  g_ta_word_L56 a1 zK x2 0 0 0 σ
set_option maxHeartbeats 4000000 in
theorem g_ta_word_L48_ok {xl : Nat} {xs : Nat → Int32} {a1 : Nat} (ha1 : zIn [1, 2, 3, 4, 5, 6, 7, 8, 9, 10, 11, 12, 13, 14, 15, 16, 17, 18] a1 = true) {X2 : Int32} {x2 : Int} (hx2 : X2.toInt = x2) {σ : zS} {p : Nat} {m : zM} {o : Int × zS} (H : zRep xl xs p m σ) (h : g_ta_word_L48 a1 x2 σ = some o) : zGo xl xs (fun p' => p = p') 4 102 48 [(0, .ref 120), (1, .ref a1), (2, .int X2)] [] m (vI o.1) o.2 := by
  have hq : z_mth 102 = some z_r102 := rfl
  unfold g_ta_word_L48 at h
  refine r_p hq 6 (pc' := 56) (L' := [(0, .ref 120), (1, .ref a1), (2, .int X2), (3, .int ((0 : Int32))), (4, .int ((0 : Int32))), (5, .int ((0 : Int32)))]) (st' := []) rfl ?_
  exact g_ta_word_L56_ok ha1 zK hx2 (rfl : (0 : Int32).toInt = 0) (rfl : (0 : Int32).toInt = 0) (rfl : (0 : Int32).toInt = 0) H h
def g_ta_word_L7 (a1 : Nat) : Nat → Int → Int → zS → Option (Int × zS)
  | 0, _, _, _ => none
  | n + 1, x2, x3, σ =>
    if 160 ≤ x3 then
      g_ta_word_L48 a1 x2 σ
    else
      (g_ta_here σ).bind fun o_15 =>
      if o_15.1 < 97 then
        g_ta_word_L48 a1 x2 o_15.2
      else
        (g_ta_here o_15.2).bind fun o_24 =>
        if 122 < o_24.1 then
          g_ta_word_L48 a1 x2 o_24.2
        else
          let v_34 := o_24.2 120 2
          let s_39 := zu o_24.2 120 2 (w32 (v_34 + 1))
          (g_ta_word_L7 a1 n) x2 (w32 (x3 + 1)) s_39
set_option maxHeartbeats 4000000 in
theorem g_ta_word_L7_ok {xl : Nat} {xs : Nat → Int32} {a1 : Nat} (ha1 : zIn [1, 2, 3, 4, 5, 6, 7, 8, 9, 10, 11, 12, 13, 14, 15, 16, 17, 18] a1 = true) : ∀ (n : Nat) {X2 : Int32} {x2 : Int} {X3 : Int32} {x3 : Int} {σ : zS} {p : Nat} {m : zM} {o : Int × zS}, X2.toInt = x2 → X3.toInt = x3 → zRep xl xs p m σ → g_ta_word_L7 a1 n x2 x3 σ = some o → zGo xl xs (fun p' => p = p') 4 102 7 [(0, .ref 120), (1, .ref a1), (2, .int X2), (3, .int X3)] [] m (vI o.1) o.2
  | 0, _, _, _, _, _, _, _, _, _, _, _, h => by cases h
  | n + 1, X2, x2, X3, x3, σ, p, m, o, hx2, hx3, H, h => by
    have hq : z_mth 102 = some z_r102 := rfl
    have ih := fun {X2 : Int32} {x2 : Int} {X3 : Int32} {x3 : Int} {σ : zS} {p : Nat} {m : zM} {o : Int × zS} => g_ta_word_L7_ok (xl := xl) (xs := xs) ha1 n (X2 := X2) (x2 := x2) (X3 := X3) (x3 := x3) (σ := σ) (p := p) (m := m) (o := o)
    unfold g_ta_word_L7 at h
    refine r_p hq 2 (pc' := 11) (L' := [(0, .ref 120), (1, .ref a1), (2, .int X2), (3, .int X3)]) (st' := [.int ((160 : Int32)), .int X3]) rfl ?_
    rcases z_ite h with ⟨c_11, h⟩ | ⟨c_11, h⟩
    · refine r_t2 (pc' := 48) (L' := [(0, .ref 120), (1, .ref a1), (2, .int X2)]) hq (z_at.mk 3 rfl rfl) rfl hx3 (rfl : (160 : Int32).toInt = 160) c_11 rfl rfl ?_
      exact g_ta_word_L48_ok ha1 hx2 H h
    · refine r_f2 (pc' := 14) (L' := [(0, .ref 120), (1, .ref a1), (2, .int X2), (3, .int X3)]) hq (z_at.mk 3 rfl rfl) rfl hx3 (rfl : (160 : Int32).toInt = 160) c_11 rfl rfl ?_
      refine r_p hq 1 (pc' := 15) (L' := [(0, .ref 120), (1, .ref a1), (2, .int X2), (3, .int X3)]) (st' := [.ref 120]) rfl ?_
      obtain ⟨o_15, h_15, h⟩ := Option.bind_eq_some_iff.mp h
      refine r_cvI (pc' := 18) (L' := [(0, .ref 120), (1, .ref a1), (2, .int X2), (3, .int X3)]) (Ps := []) (rest := []) hq (z_at.mk 3 rfl rfl) (Or.inl ⟨rfl, rfl⟩) rfl rfl (by decide) (by decide) rfl (Nat.not_lt.mpr (Nat.le_of_ble_eq_true rfl)) rfl rfl (z_cat_le 0 rfl (by decide)) (z_lgl_le 1 rfl (by decide)) (by decide) (H.tg rfl) (by omega) (g_ta_here_ok H h_15) rfl rfl ?_
      intro R_15 m_15 p_15 e_15 hR_15 H_15
      subst e_15
      refine r_p hq 1 (pc' := 20) (L' := [(0, .ref 120), (1, .ref a1), (2, .int X2), (3, .int X3)]) (st' := [.int ((97 : Int32)), .int R_15]) rfl ?_
      rcases z_ite h with ⟨c_20, h⟩ | ⟨c_20, h⟩
      · refine r_t2 (pc' := 48) (L' := [(0, .ref 120), (1, .ref a1), (2, .int X2)]) hq (z_at.mk 3 rfl rfl) rfl hR_15 (rfl : (97 : Int32).toInt = 97) c_20 rfl rfl ?_
        exact g_ta_word_L48_ok ha1 hx2 H_15 h
      · refine r_f2 (pc' := 23) (L' := [(0, .ref 120), (1, .ref a1), (2, .int X2), (3, .int X3)]) hq (z_at.mk 3 rfl rfl) rfl hR_15 (rfl : (97 : Int32).toInt = 97) c_20 rfl rfl ?_
        refine r_p hq 1 (pc' := 24) (L' := [(0, .ref 120), (1, .ref a1), (2, .int X2), (3, .int X3)]) (st' := [.ref 120]) rfl ?_
        obtain ⟨o_24, h_24, h⟩ := Option.bind_eq_some_iff.mp h
        refine r_cvI (pc' := 27) (L' := [(0, .ref 120), (1, .ref a1), (2, .int X2), (3, .int X3)]) (Ps := []) (rest := []) hq (z_at.mk 3 rfl rfl) (Or.inl ⟨rfl, rfl⟩) rfl rfl (by decide) (by decide) rfl (Nat.not_lt.mpr (Nat.le_of_ble_eq_true rfl)) rfl rfl (z_cat_le 0 rfl (by decide)) (z_lgl_le 1 rfl (by decide)) (by decide) (H_15.tg rfl) (by omega) (g_ta_here_ok H_15 h_24) rfl rfl ?_
        intro R_24 m_24 p_24 e_24 hR_24 H_24
        subst e_24
        refine r_p hq 1 (pc' := 29) (L' := [(0, .ref 120), (1, .ref a1), (2, .int X2), (3, .int X3)]) (st' := [.int ((122 : Int32)), .int R_24]) rfl ?_
        rcases z_ite h with ⟨c_29, h⟩ | ⟨c_29, h⟩
        · refine r_t2 (pc' := 48) (L' := [(0, .ref 120), (1, .ref a1), (2, .int X2)]) hq (z_at.mk 3 rfl rfl) rfl hR_24 (rfl : (122 : Int32).toInt = 122) c_29 rfl rfl ?_
          exact g_ta_word_L48_ok ha1 hx2 H_24 h
        · refine r_f2 (pc' := 32) (L' := [(0, .ref 120), (1, .ref a1), (2, .int X2), (3, .int X3)]) hq (z_at.mk 3 rfl rfl) rfl hR_24 (rfl : (122 : Int32).toInt = 122) c_29 rfl rfl ?_
          refine r_p hq 2 (pc' := 34) (L' := [(0, .ref 120), (1, .ref a1), (2, .int X2), (3, .int X3)]) (st' := [.ref 120, .ref 120]) rfl ?_
          refine r_gI (pc' := 37) (L' := [(0, .ref 120), (1, .ref a1), (2, .int X2), (3, .int X3)]) H_24 hq (z_at.mk 3 rfl rfl) rfl rfl rfl rfl ?_
          intro V_34 hV_34
          refine r_p hq 2 (pc' := 39) (L' := [(0, .ref 120), (1, .ref a1), (2, .int X2), (3, .int X3)]) (st' := [.int (V_34 + ((1 : Int32))), .ref 120]) rfl ?_
          refine r_pI (X := V_34 + ((1 : Int32))) (pc' := 42) (L' := [(0, .ref 120), (1, .ref a1), (2, .int X2), (3, .int X3)]) H_24 hq (z_at.mk 3 rfl rfl) rfl rfl (tx_iadd hV_34 (rfl : (1 : Int32).toInt = 1)) (by decide) rfl rfl rfl rfl ?_
          intro m_39 H_39
          refine r_p hq 2 (pc' := 7) (L' := [(0, .ref 120), (1, .ref a1), (2, .int X2), (3, .int (X3 + (1 : Int32)))]) (st' := []) rfl ?_
          exact ih hx2 (tx_iadd hx3 (rfl : (1 : Int32).toInt = 1)) H_39 h
def g_ta_word (a1 : Nat) (σ : zS) : Option (Int × zS) :=
  let v_1 := σ 120 2
  g_ta_word_L7 a1 zK v_1 0 σ
set_option maxHeartbeats 4000000 in
theorem g_ta_word_ok {xl : Nat} {xs : Nat → Int32} {a1 : Nat} (ha1 : zIn [1, 2, 3, 4, 5, 6, 7, 8, 9, 10, 11, 12, 13, 14, 15, 16, 17, 18] a1 = true) {σ : zS} {p : Nat} {m : zM} {o : Int × zS} (H : zRep xl xs p m σ) (h : g_ta_word a1 σ = some o) : zGo xl xs (fun p' => p = p') 4 102 0 (z_can 102 0 (lv_args 0 [.ref 120, .ref a1])) [] m (vI o.1) o.2 := by
  have hq : z_mth 102 = some z_r102 := rfl
  unfold g_ta_word at h
  show zGo xl xs (fun p' => p = p') 4 102 0 [(0, .ref 120), (1, .ref a1)] [] m (vI o.1) o.2
  refine r_p hq 1 (pc' := 1) (L' := [(0, .ref 120), (1, .ref a1)]) (st' := [.ref 120]) rfl ?_
  refine r_gI (pc' := 4) (L' := [(0, .ref 120), (1, .ref a1)]) H hq (z_at.mk 3 rfl rfl) rfl rfl rfl rfl ?_
  intro V_1 hV_1
  refine r_p hq 3 (pc' := 7) (L' := [(0, .ref 120), (1, .ref a1), (2, .int V_1), (3, .int ((0 : Int32)))]) (st' := []) rfl ?_
  exact g_ta_word_L7_ok ha1 zK hV_1 (rfl : (0 : Int32).toInt = 0) H h
def g_qu_readIf (σ : zS) : Option (Int × zS) :=
  (g_ta_takes 32 σ).bind fun o_6 =>
  if o_6.1 ≠ 0 then
    (g_ta_word 5 o_6.2).bind fun o_22 =>
    (g_ta_wants 32 o_22.2).bind fun o_32 =>
    (g_grp68 zR 68 0 o_32.2).bind fun o_37 =>
    some (o_37.1, o_37.2)
  else
    some (-1, o_6.2)
set_option maxHeartbeats 4000000 in
theorem g_qu_readIf_ok {xl : Nat} {xs : Nat → Int32} {σ : zS} {p : Nat} {m : zM} {o : Int × zS} (H : zRep xl xs p m σ) (h : g_qu_readIf σ = some o) : zGo xl xs (fun p' => p = p') 507 67 0 (z_can 67 0 (lv_args 0 [.ref 122])) [] m (vL o.1) o.2 := by
  have hq : z_mth 67 = some z_r67 := rfl
  unfold g_qu_readIf at h
  show zGo xl xs (fun p' => p = p') 507 67 0 [(0, .ref 122)] [] m (vL o.1) o.2
  refine r_p hq 1 (pc' := 1) (L' := [(0, .ref 122)]) (st' := [.ref 122]) rfl ?_
  refine r_gR (b := 120) (pc' := 4) (L' := [(0, .ref 122)]) H hq (z_at.mk 3 rfl rfl) rfl rfl rfl rfl ?_
  refine r_p hq 1 (pc' := 6) (L' := [(0, .ref 122)]) (st' := [.int ((32 : Int32)), .ref 120]) rfl ?_
  obtain ⟨o_6, h_6, h⟩ := Option.bind_eq_some_iff.mp h
  refine r_cvI (pc' := 9) (L' := [(0, .ref 122)]) (Ps := [.int ((32 : Int32))]) (rest := []) hq (z_at.mk 3 rfl rfl) (Or.inl ⟨rfl, rfl⟩) rfl rfl (by decide) (by decide) rfl (Nat.not_lt.mpr (Nat.le_of_ble_eq_true rfl)) rfl rfl (z_cat_le 0 rfl (by decide)) (z_lgl_le 2 rfl (by decide)) (by decide) (H.tg rfl) (by omega) (g_ta_takes_ok (rfl : (32 : Int32).toInt = 32) H h_6) rfl rfl ?_
  intro R_6 m_6 p_6 e_6 hR_6 H_6
  subst e_6
  rcases z_ite h with ⟨c_9, h⟩ | ⟨c_9, h⟩
  · refine r_t1 (pc' := 16) (L' := [(0, .ref 122)]) hq (z_at.mk 3 rfl rfl) rfl hR_6 c_9 rfl rfl ?_
    refine r_p hq 1 (pc' := 17) (L' := [(0, .ref 122)]) (st' := [.ref 122]) rfl ?_
    refine r_gR (b := 120) (pc' := 20) (L' := [(0, .ref 122)]) H_6 hq (z_at.mk 3 rfl rfl) rfl rfl rfl rfl ?_
    refine r_p hq 1 (pc' := 22) (L' := [(0, .ref 122)]) (st' := [.ref 5, .ref 120]) rfl ?_
    obtain ⟨o_22, h_22, h⟩ := Option.bind_eq_some_iff.mp h
    refine r_cvI (pc' := 25) (L' := [(0, .ref 122)]) (Ps := [.ref 5]) (rest := []) hq (z_at.mk 3 rfl rfl) (Or.inl ⟨rfl, rfl⟩) rfl rfl (by decide) (by decide) rfl (Nat.not_lt.mpr (Nat.le_of_ble_eq_true rfl)) rfl rfl (z_cat_le 0 rfl (by decide)) (z_lgl_le 2 rfl (by decide)) (by decide) (H_6.tg rfl) (by omega) (g_ta_word_ok rfl H_6 h_22) rfl rfl ?_
    intro R_22 m_22 p_22 e_22 hR_22 H_22
    subst e_22
    refine r_p hq 2 (pc' := 27) (L' := [(0, .ref 122)]) (st' := [.ref 122]) rfl ?_
    refine r_gR (b := 120) (pc' := 30) (L' := [(0, .ref 122)]) H_22 hq (z_at.mk 3 rfl rfl) rfl rfl rfl rfl ?_
    refine r_p hq 1 (pc' := 32) (L' := [(0, .ref 122)]) (st' := [.int ((32 : Int32)), .ref 120]) rfl ?_
    obtain ⟨o_32, h_32, h⟩ := Option.bind_eq_some_iff.mp h
    refine r_cvV (pc' := 35) (L' := [(0, .ref 122)]) (Ps := [.int ((32 : Int32))]) (rest := []) hq (z_at.mk 3 rfl rfl) (Or.inl ⟨rfl, rfl⟩) rfl rfl (by decide) (by decide) rfl (Nat.not_lt.mpr (Nat.le_of_ble_eq_true rfl)) rfl rfl (z_cat_le 0 rfl (by decide)) (z_lgl_le 2 rfl (by decide)) (by decide) (H_22.tg rfl) (by omega) (g_ta_wants_ok (rfl : (32 : Int32).toInt = 32) H_22 h_32) rfl rfl ?_
    intro m_32 p_32 e_32 H_32
    subst e_32
    refine r_p hq 2 (pc' := 37) (L' := [(0, .ref 122)]) (st' := [.int ((0 : Int32)), .ref 122]) rfl ?_
    obtain ⟨o_37, h_37, h⟩ := Option.bind_eq_some_iff.mp h
    refine r_cvL (pc' := 40) (L' := [(0, .ref 122)]) (Ps := [.int ((0 : Int32))]) (rest := []) hq (z_at.mk 3 rfl rfl) (Or.inl ⟨rfl, rfl⟩) rfl rfl (by decide) (by decide) rfl (Nat.not_lt.mpr (Nat.le_of_ble_eq_true rfl)) rfl rfl (z_cat_le 0 rfl (by decide)) (z_lgl_le 2 rfl (by decide)) (by decide) (H_32.tg rfl) (by show 6 + zR + 1 ≤ _; unfold zR; omega) (g_grp68_ok zR 68 (by simp) (rfl : (0 : Int32).toInt = 0) H_32 h_37) rfl rfl ?_
    intro R_37 m_37 p_37 e_37 hR_37 H_37
    subst e_37
    cases h
    exact r_rl hq (z_at.mk 1 rfl rfl) rfl hR_37 rfl H_37
  · refine r_f1 (pc' := 12) (L' := [(0, .ref 122)]) hq (z_at.mk 3 rfl rfl) rfl hR_6 c_9 rfl rfl ?_
    refine r_p hq 1 (pc' := 15) (L' := [(0, .ref 122)]) (st' := [.long ((-1 : Int64))]) rfl ?_
    cases h
    exact r_rl hq (z_at.mk 1 rfl rfl) rfl (rfl : (-1 : Int64).toInt = -1) rfl H_6
def g_ta_another_L15 (σ : zS) : Option (Int × zS) :=
  (g_ta_here σ).bind fun o_16 =>
  if o_16.1 = 0 then
    some (0, o_16.2)
  else
    let v_24 := o_16.2 120 2
    (g_ta_blame v_24 o_16.2).bind fun o_27 =>
    some (0, o_27.2)
set_option maxHeartbeats 4000000 in
theorem g_ta_another_L15_ok {xl : Nat} {xs : Nat → Int32} {σ : zS} {p : Nat} {m : zM} {o : Int × zS} (H : zRep xl xs p m σ) (h : g_ta_another_L15 σ = some o) : zGo xl xs (fun p' => p = p') 3 100 15 [(0, .ref 120)] [] m (vI o.1) o.2 := by
  have hq : z_mth 100 = some z_r100 := rfl
  unfold g_ta_another_L15 at h
  refine r_p hq 1 (pc' := 16) (L' := [(0, .ref 120)]) (st' := [.ref 120]) rfl ?_
  obtain ⟨o_16, h_16, h⟩ := Option.bind_eq_some_iff.mp h
  refine r_cvI (pc' := 19) (L' := [(0, .ref 120)]) (Ps := []) (rest := []) hq (z_at.mk 3 rfl rfl) (Or.inl ⟨rfl, rfl⟩) rfl rfl (by decide) (by decide) rfl (Nat.not_lt.mpr (Nat.le_of_ble_eq_true rfl)) rfl rfl (z_cat_le 0 rfl (by decide)) (z_lgl_le 1 rfl (by decide)) (by decide) (H.tg rfl) (by omega) (g_ta_here_ok H h_16) rfl rfl ?_
  intro R_16 m_16 p_16 e_16 hR_16 H_16
  subst e_16
  rcases z_ite h with ⟨c_19, h⟩ | ⟨c_19, h⟩
  · refine r_t1 (pc' := 30) (L' := []) hq (z_at.mk 3 rfl rfl) rfl hR_16 c_19 rfl rfl ?_
    refine r_p hq 1 (pc' := 31) (L' := []) (st' := [.int ((0 : Int32))]) rfl ?_
    cases h
    exact r_ri hq (z_at.mk 1 rfl rfl) rfl rfl (rfl : (0 : Int32).toInt = 0) rfl H_16
  · refine r_f1 (pc' := 22) (L' := [(0, .ref 120)]) hq (z_at.mk 3 rfl rfl) rfl hR_16 c_19 rfl rfl ?_
    refine r_p hq 2 (pc' := 24) (L' := [(0, .ref 120)]) (st' := [.ref 120, .ref 120]) rfl ?_
    refine r_gI (pc' := 27) (L' := [(0, .ref 120)]) H_16 hq (z_at.mk 3 rfl rfl) rfl rfl rfl rfl ?_
    intro V_24 hV_24
    obtain ⟨o_27, h_27, h⟩ := Option.bind_eq_some_iff.mp h
    refine r_cvV (pc' := 30) (L' := []) (Ps := [.int V_24]) (rest := []) hq (z_at.mk 3 rfl rfl) (Or.inl ⟨rfl, rfl⟩) rfl rfl (by decide) (by decide) rfl (Nat.not_lt.mpr (Nat.le_of_ble_eq_true rfl)) rfl rfl (z_cat_le 0 rfl (by decide)) (z_lgl_le 2 rfl (by decide)) (by decide) (H_16.tg rfl) (by omega) (g_ta_blame_ok hV_24 H_16 h_27) rfl rfl ?_
    intro m_27 p_27 e_27 H_27
    subst e_27
    refine r_p hq 1 (pc' := 31) (L' := []) (st' := [.int ((0 : Int32))]) rfl ?_
    cases h
    exact r_ri hq (z_at.mk 1 rfl rfl) rfl rfl (rfl : (0 : Int32).toInt = 0) rfl H_27
def g_ta_another (x1 : Int) (σ : zS) : Option (Int × zS) :=
  if x1 = 0 then
    g_ta_another_L15 σ
  else
    (g_ta_takes 59 σ).bind fun o_7 =>
    if o_7.1 = 0 then
      g_ta_another_L15 o_7.2
    else
      some (1, o_7.2)
set_option maxHeartbeats 4000000 in
theorem g_ta_another_ok {xl : Nat} {xs : Nat → Int32} {X1 : Int32} {x1 : Int} (hx1 : X1.toInt = x1) {σ : zS} {p : Nat} {m : zM} {o : Int × zS} (H : zRep xl xs p m σ) (h : g_ta_another x1 σ = some o) : zGo xl xs (fun p' => p = p') 3 100 0 (z_can 100 0 (lv_args 0 [.ref 120, .int X1])) [] m (vI o.1) o.2 := by
  have hq : z_mth 100 = some z_r100 := rfl
  unfold g_ta_another at h
  show zGo xl xs (fun p' => p = p') 3 100 0 [(0, .ref 120), (1, .int X1)] [] m (vI o.1) o.2
  refine r_p hq 1 (pc' := 1) (L' := [(0, .ref 120), (1, .int X1)]) (st' := [.int X1]) rfl ?_
  rcases z_ite h with ⟨c_1, h⟩ | ⟨c_1, h⟩
  · refine r_t1 (pc' := 15) (L' := [(0, .ref 120)]) hq (z_at.mk 3 rfl rfl) rfl hx1 c_1 rfl rfl ?_
    exact g_ta_another_L15_ok  H h
  · refine r_f1 (pc' := 4) (L' := [(0, .ref 120), (1, .int X1)]) hq (z_at.mk 3 rfl rfl) rfl hx1 c_1 rfl rfl ?_
    refine r_p hq 2 (pc' := 7) (L' := [(0, .ref 120), (1, .int X1)]) (st' := [.int ((59 : Int32)), .ref 120]) rfl ?_
    obtain ⟨o_7, h_7, h⟩ := Option.bind_eq_some_iff.mp h
    refine r_cvI (pc' := 10) (L' := [(0, .ref 120), (1, .int X1)]) (Ps := [.int ((59 : Int32))]) (rest := []) hq (z_at.mk 3 rfl rfl) (Or.inl ⟨rfl, rfl⟩) rfl rfl (by decide) (by decide) rfl (Nat.not_lt.mpr (Nat.le_of_ble_eq_true rfl)) rfl rfl (z_cat_le 0 rfl (by decide)) (z_lgl_le 2 rfl (by decide)) (by decide) (H.tg rfl) (by omega) (g_ta_takes_ok (rfl : (59 : Int32).toInt = 59) H h_7) rfl rfl ?_
    intro R_7 m_7 p_7 e_7 hR_7 H_7
    subst e_7
    rcases z_ite h with ⟨c_10, h⟩ | ⟨c_10, h⟩
    · refine r_t1 (pc' := 15) (L' := [(0, .ref 120)]) hq (z_at.mk 3 rfl rfl) rfl hR_7 c_10 rfl rfl ?_
      exact g_ta_another_L15_ok  H_7 h
    · refine r_f1 (pc' := 13) (L' := [(0, .ref 120), (1, .int X1)]) hq (z_at.mk 3 rfl rfl) rfl hR_7 c_10 rfl rfl ?_
      refine r_p hq 1 (pc' := 14) (L' := [(0, .ref 120), (1, .int X1)]) (st' := [.int ((1 : Int32))]) rfl ?_
      cases h
      exact r_ri hq (z_at.mk 1 rfl rfl) rfl rfl (rfl : (1 : Int32).toInt = 1) rfl H_7
def g_ta_range (σ : zS) : Option (Int × zS) :=
  (g_ta_takes 42 σ).bind fun o_3 =>
  if o_3.1 = 0 then
    (g_ta_number 2 0 31 o_3.2).bind fun o_17 =>
    (g_ta_takes 45 o_17.2).bind fun o_28 =>
    if o_28.1 = 0 then
      some (w32 ((w32 (o_17.1 * 32)) + o_17.1), o_28.2)
    else
      (g_ta_number 2 o_17.1 31 o_28.2).bind fun o_39 =>
      some (w32 ((w32 (o_17.1 * 32)) + o_39.1), o_39.2)
  else
    some (31, o_3.2)
set_option maxHeartbeats 4000000 in
theorem g_ta_range_ok {xl : Nat} {xs : Nat → Int32} {σ : zS} {p : Nat} {m : zM} {o : Int × zS} (H : zRep xl xs p m σ) (h : g_ta_range σ = some o) : zGo xl xs (fun p' => p = p') 3 106 0 (z_can 106 0 (lv_args 0 [.ref 120])) [] m (vI o.1) o.2 := by
  have hq : z_mth 106 = some z_r106 := rfl
  unfold g_ta_range at h
  show zGo xl xs (fun p' => p = p') 3 106 0 [(0, .ref 120)] [] m (vI o.1) o.2
  refine r_p hq 2 (pc' := 3) (L' := [(0, .ref 120)]) (st' := [.int ((42 : Int32)), .ref 120]) rfl ?_
  obtain ⟨o_3, h_3, h⟩ := Option.bind_eq_some_iff.mp h
  refine r_cvI (pc' := 6) (L' := [(0, .ref 120)]) (Ps := [.int ((42 : Int32))]) (rest := []) hq (z_at.mk 3 rfl rfl) (Or.inl ⟨rfl, rfl⟩) rfl rfl (by decide) (by decide) rfl (Nat.not_lt.mpr (Nat.le_of_ble_eq_true rfl)) rfl rfl (z_cat_le 0 rfl (by decide)) (z_lgl_le 2 rfl (by decide)) (by decide) (H.tg rfl) (by omega) (g_ta_takes_ok (rfl : (42 : Int32).toInt = 42) H h_3) rfl rfl ?_
  intro R_3 m_3 p_3 e_3 hR_3 H_3
  subst e_3
  rcases z_ite h with ⟨c_6, h⟩ | ⟨c_6, h⟩
  · refine r_t1 (pc' := 12) (L' := [(0, .ref 120)]) hq (z_at.mk 3 rfl rfl) rfl hR_3 c_6 rfl rfl ?_
    refine r_p hq 4 (pc' := 17) (L' := [(0, .ref 120)]) (st' := [.int ((31 : Int32)), .int ((0 : Int32)), .int ((2 : Int32)), .ref 120]) rfl ?_
    obtain ⟨o_17, h_17, h⟩ := Option.bind_eq_some_iff.mp h
    refine r_cvI (pc' := 20) (L' := [(0, .ref 120)]) (Ps := [.int ((2 : Int32)), .int ((0 : Int32)), .int ((31 : Int32))]) (rest := []) hq (z_at.mk 3 rfl rfl) (Or.inl ⟨rfl, rfl⟩) rfl rfl (by decide) (by decide) rfl (Nat.not_lt.mpr (Nat.le_of_ble_eq_true rfl)) rfl rfl (z_cat_le 0 rfl (by decide)) (z_lgl_le 4 rfl (by decide)) (by decide) (H_3.tg rfl) (by omega) (g_ta_number_ok (rfl : (2 : Int32).toInt = 2) (rfl : (0 : Int32).toInt = 0) (rfl : (31 : Int32).toInt = 31) H_3 h_17) rfl rfl ?_
    intro R_17 m_17 p_17 e_17 hR_17 H_17
    subst e_17
    refine r_p hq 6 (pc' := 28) (L' := [(1, .int R_17), (0, .ref 120)]) (st' := [.int ((45 : Int32)), .ref 120, .int (R_17 * ((32 : Int32)))]) rfl ?_
    obtain ⟨o_28, h_28, h⟩ := Option.bind_eq_some_iff.mp h
    refine r_cvI (pc' := 31) (L' := [(1, .int R_17), (0, .ref 120)]) (Ps := [.int ((45 : Int32))]) (rest := [.int (R_17 * ((32 : Int32)))]) hq (z_at.mk 3 rfl rfl) (Or.inl ⟨rfl, rfl⟩) rfl rfl (by decide) (by decide) rfl (Nat.not_lt.mpr (Nat.le_of_ble_eq_true rfl)) rfl rfl (z_cat_le 1 rfl (by decide)) (z_lgl_le 2 rfl (by decide)) (by decide) (H_17.tg rfl) (by omega) (g_ta_takes_ok (rfl : (45 : Int32).toInt = 45) H_17 h_28) rfl rfl ?_
    intro R_28 m_28 p_28 e_28 hR_28 H_28
    subst e_28
    rcases z_ite h with ⟨c_31, h⟩ | ⟨c_31, h⟩
    · refine r_t1 (pc' := 45) (L' := [(1, .int R_17), (0, .ref 120)]) hq (z_at.mk 3 rfl rfl) rfl hR_28 c_31 rfl rfl ?_
      refine r_p hq 2 (pc' := 47) (L' := []) (st' := [.int ((R_17 * ((32 : Int32))) + R_17)]) rfl ?_
      cases h
      exact r_ri hq (z_at.mk 1 rfl rfl) rfl rfl (tx_iadd (tx_imul hR_17 (rfl : (32 : Int32).toInt = 32)) hR_17) rfl H_28
    · refine r_f1 (pc' := 34) (L' := [(1, .int R_17), (0, .ref 120)]) hq (z_at.mk 3 rfl rfl) rfl hR_28 c_31 rfl rfl ?_
      refine r_p hq 4 (pc' := 39) (L' := [(1, .int R_17), (0, .ref 120)]) (st' := [.int ((31 : Int32)), .int R_17, .int ((2 : Int32)), .ref 120, .int (R_17 * ((32 : Int32)))]) rfl ?_
      obtain ⟨o_39, h_39, h⟩ := Option.bind_eq_some_iff.mp h
      refine r_cvI (pc' := 42) (L' := [(1, .int R_17), (0, .ref 120)]) (Ps := [.int ((2 : Int32)), .int R_17, .int ((31 : Int32))]) (rest := [.int (R_17 * ((32 : Int32)))]) hq (z_at.mk 3 rfl rfl) (Or.inl ⟨rfl, rfl⟩) rfl rfl (by decide) (by decide) rfl (Nat.not_lt.mpr (Nat.le_of_ble_eq_true rfl)) rfl rfl (z_cat_le 1 rfl (by decide)) (z_lgl_le 4 rfl (by decide)) (by decide) (H_28.tg rfl) (by omega) (g_ta_number_ok (rfl : (2 : Int32).toInt = 2) hR_17 (rfl : (31 : Int32).toInt = 31) H_28 h_39) rfl rfl ?_
      intro R_39 m_39 p_39 e_39 hR_39 H_39
      subst e_39
      refine r_p hq 2 (pc' := 47) (L' := []) (st' := [.int ((R_17 * ((32 : Int32))) + R_39)]) rfl ?_
      cases h
      exact r_ri hq (z_at.mk 1 rfl rfl) rfl rfl (tx_iadd (tx_imul hR_17 (rfl : (32 : Int32).toInt = 32)) hR_39) rfl H_39
  · refine r_f1 (pc' := 9) (L' := [(0, .ref 120)]) hq (z_at.mk 3 rfl rfl) rfl hR_3 c_6 rfl rfl ?_
    refine r_p hq 1 (pc' := 11) (L' := [(0, .ref 120)]) (st' := [.int ((31 : Int32))]) rfl ?_
    cases h
    exact r_ri hq (z_at.mk 1 rfl rfl) rfl rfl (rfl : (31 : Int32).toInt = 31) rfl H_3
