section
/-! 21.g04 -/
/-! THE METHODS over the typed memory, 4 (by wip/zg.py) -/
def g_jStringLatin1_indexOf (a0 : Nat) (x1 : Int) (x2 : Int) (x3 : Int) (σ : zS) : Option (Int × zS) :=
  (g_jStringLatin1_canEncode_310 x1 σ).bind fun o_1 =>
  if o_1.1 ≠ 0 then
    (g_jMath_max_289 x2 0 o_1.2).bind fun o_11 =>
    (g_jMath_min_291 x3 (zLI a0) o_11.2).bind fun o_18 =>
    if o_11.1 < o_18.1 then
      (g_jStringLatin1_indexOfChar a0 x1 o_11.1 o_18.1 o_18.2).bind fun o_33 =>
      some (o_33.1, o_33.2)
    else
      some (-1, o_18.2)
  else
    some (-1, o_1.2)
set_option maxHeartbeats 4000000 in
theorem g_jStringLatin1_indexOf_ok {xl : Nat} {xs : Nat → Int32} {a0 : Nat} (ha0 : zIn [19, 20, 21, 22, 23, 24, 25, 26, 27, 28, 29, 30, 31, 32, 33, 34, 35, 36] a0 = true) {X1 : Int32} {x1 : Int} (hx1 : X1.toInt = x1) {X2 : Int32} {x2 : Int} (hx2 : X2.toInt = x2) {X3 : Int32} {x3 : Int} (hx3 : X3.toInt = x3) {σ : zS} {p : Nat} {m : zM} {o : Int × zS} (H : zRep xl xs p m σ) (h : g_jStringLatin1_indexOf a0 x1 x2 x3 σ = some o) : zGo xl xs (fun p' => p = p') 2 311 0 (z_can 311 0 (lv_args 0 [.ref a0, .int X1, .int X2, .int X3])) [] m (vI o.1) o.2 := by
  have hq : z_mth 311 = some z_r311 := rfl
  unfold g_jStringLatin1_indexOf at h
  show zGo xl xs (fun p' => p = p') 2 311 0 [(0, .ref a0), (1, .int X1), (2, .int X2), (3, .int X3)] [] m (vI o.1) o.2
  refine r_p hq 1 (pc' := 1) (L' := [(0, .ref a0), (1, .int X1), (2, .int X2), (3, .int X3)]) (st' := [.int X1]) rfl ?_
  obtain ⟨o_1, h_1, h⟩ := Option.bind_eq_some_iff.mp h
  refine r_csI (pc' := 4) (L' := [(0, .ref a0), (1, .int X1), (2, .int X2), (3, .int X3)]) (As := [.int X1]) (rest := []) (j := 310) hq (z_at.mk 3 rfl rfl) (Or.inl ⟨rfl, rfl⟩) rfl rfl (by omega) (g_jStringLatin1_canEncode_310_ok hx1 H h_1) rfl rfl ?_
  intro R_1 m_1 p_1 e_1 hR_1 H_1
  subst e_1
  rcases z_ite h with ⟨c_4, h⟩ | ⟨c_4, h⟩
  · refine r_t1 (pc' := 9) (L' := [(0, .ref a0), (1, .int X1), (2, .int X2), (3, .int X3)]) hq (z_at.mk 3 rfl rfl) rfl hR_1 c_4 rfl rfl ?_
    refine r_p hq 2 (pc' := 11) (L' := [(0, .ref a0), (1, .int X1), (2, .int X2), (3, .int X3)]) (st' := [.int ((0 : Int32)), .int X2]) rfl ?_
    obtain ⟨o_11, h_11, h⟩ := Option.bind_eq_some_iff.mp h
    refine r_csI (pc' := 14) (L' := [(0, .ref a0), (1, .int X1), (2, .int X2), (3, .int X3)]) (As := [.int X2, .int ((0 : Int32))]) (rest := []) (j := 289) hq (z_at.mk 3 rfl rfl) (Or.inl ⟨rfl, rfl⟩) rfl rfl (by omega) (g_jMath_max_289_ok hx2 (rfl : (0 : Int32).toInt = 0) H_1 h_11) rfl rfl ?_
    intro R_11 m_11 p_11 e_11 hR_11 H_11
    subst e_11
    refine r_p hq 3 (pc' := 17) (L' := [(2, .int R_11), (0, .ref a0), (1, .int X1), (3, .int X3)]) (st' := [.ref a0, .int X3]) rfl ?_
    refine r_le0 (pc' := 18) (L' := [(2, .int R_11), (0, .ref a0), (1, .int X1), (3, .int X3)]) H_11 hq (z_at.mk 1 rfl rfl) (zIn_all (l := [19, 20, 21, 22, 23, 24, 25, 26, 27, 28, 29, 30, 31, 32, 33, 34, 35, 36]) (p := fun a => zAz (a + 0) 2 (zLI (a + 0))) rfl ha0) rfl rfl rfl ?_
    intro V_17 hV_17
    obtain ⟨o_18, h_18, h⟩ := Option.bind_eq_some_iff.mp h
    refine r_csI (pc' := 21) (L' := [(2, .int R_11), (0, .ref a0), (1, .int X1), (3, .int X3)]) (As := [.int X3, .int V_17]) (rest := []) (j := 291) hq (z_at.mk 3 rfl rfl) (Or.inl ⟨rfl, rfl⟩) rfl rfl (by omega) (g_jMath_min_291_ok hx3 hV_17 H_11 h_18) rfl rfl ?_
    intro R_18 m_18 p_18 e_18 hR_18 H_18
    subst e_18
    refine r_p hq 3 (pc' := 24) (L' := [(3, .int R_18), (2, .int R_11), (0, .ref a0), (1, .int X1)]) (st' := [.int R_18, .int R_11]) rfl ?_
    rcases z_ite h with ⟨c_24, h⟩ | ⟨c_24, h⟩
    · refine r_t2 (pc' := 29) (L' := [(3, .int R_18), (2, .int R_11), (0, .ref a0), (1, .int X1)]) hq (z_at.mk 3 rfl rfl) rfl hR_11 hR_18 c_24 rfl rfl ?_
      refine r_p hq 4 (pc' := 33) (L' := [(3, .int R_18), (2, .int R_11), (0, .ref a0), (1, .int X1)]) (st' := [.int R_18, .int R_11, .int X1, .ref a0]) rfl ?_
      obtain ⟨o_33, h_33, h⟩ := Option.bind_eq_some_iff.mp h
      refine r_csI (pc' := 36) (L' := [(3, .int R_18), (2, .int R_11), (0, .ref a0), (1, .int X1)]) (As := [.ref a0, .int X1, .int R_11, .int R_18]) (rest := []) (j := 312) hq (z_at.mk 3 rfl rfl) (Or.inl ⟨rfl, rfl⟩) rfl rfl (by omega) (g_jStringLatin1_indexOfChar_ok (zIn_all (l := [19, 20, 21, 22, 23, 24, 25, 26, 27, 28, 29, 30, 31, 32, 33, 34, 35, 36]) (p := fun a => zIn [19, 20, 21, 22, 23, 24, 25, 26, 27, 28, 29, 30, 31, 32, 33, 34, 35, 36] a) rfl ha0) hx1 hR_11 hR_18 H_18 h_33) rfl rfl ?_
      intro R_33 m_33 p_33 e_33 hR_33 H_33
      subst e_33
      cases h
      exact r_ri hq (z_at.mk 1 rfl rfl) rfl rfl hR_33 rfl H_33
    · refine r_f2 (pc' := 27) (L' := [(3, .int R_18), (2, .int R_11), (0, .ref a0), (1, .int X1)]) hq (z_at.mk 3 rfl rfl) rfl hR_11 hR_18 c_24 rfl rfl ?_
      refine r_p hq 1 (pc' := 28) (L' := [(3, .int R_18), (2, .int R_11), (0, .ref a0), (1, .int X1)]) (st' := [.int ((-1 : Int32))]) rfl ?_
      cases h
      exact r_ri hq (z_at.mk 1 rfl rfl) rfl rfl (rfl : (-1 : Int32).toInt = -1) rfl H_18
  · refine r_f1 (pc' := 7) (L' := [(0, .ref a0), (1, .int X1), (2, .int X2), (3, .int X3)]) hq (z_at.mk 3 rfl rfl) rfl hR_1 c_4 rfl rfl ?_
    refine r_p hq 1 (pc' := 8) (L' := [(0, .ref a0), (1, .int X1), (2, .int X2), (3, .int X3)]) (st' := [.int ((-1 : Int32))]) rfl ?_
    cases h
    exact r_ri hq (z_at.mk 1 rfl rfl) rfl rfl (rfl : (-1 : Int32).toInt = -1) rfl H_1
def g_jString_indexOf_296 (a0 : Nat) (x1 : Int) (x2 : Int) (σ : zS) : Option (Int × zS) :=
  (g_jString_isLatin1 a0 σ).bind fun o_1 =>
  if o_1.1 = 0 then
    (g_jString_length a0 o_1.2).bind fun o_30 =>
    none
  else
    (g_jString_length a0 o_1.2).bind fun o_14 =>
    (g_jStringLatin1_indexOf (a0 + 18) x1 x2 o_14.1 o_14.2).bind fun o_17 =>
    some (o_17.1, o_17.2)
set_option maxHeartbeats 4000000 in
theorem g_jString_indexOf_296_ok {xl : Nat} {xs : Nat → Int32} {a0 : Nat} (ha0 : zIn [1, 2, 3, 4, 5, 6, 7, 8, 9, 10, 11, 12, 13, 14, 15, 16, 17, 18] a0 = true) {X1 : Int32} {x1 : Int} (hx1 : X1.toInt = x1) {X2 : Int32} {x2 : Int} (hx2 : X2.toInt = x2) {σ : zS} {p : Nat} {m : zM} {o : Int × zS} (H : zRep xl xs p m σ) (h : g_jString_indexOf_296 a0 x1 x2 σ = some o) : zGo xl xs (fun p' => p = p') 3 296 0 (z_can 296 0 (lv_args 0 [.ref a0, .int X1, .int X2])) [] m (vI o.1) o.2 := by
  have hq : z_mth 296 = some z_r296 := rfl
  unfold g_jString_indexOf_296 at h
  show zGo xl xs (fun p' => p = p') 3 296 0 [(0, .ref a0), (1, .int X1), (2, .int X2)] [] m (vI o.1) o.2
  refine r_p hq 1 (pc' := 1) (L' := [(0, .ref a0), (1, .int X1), (2, .int X2)]) (st' := [.ref a0]) rfl ?_
  obtain ⟨o_1, h_1, h⟩ := Option.bind_eq_some_iff.mp h
  refine r_cvI (pc' := 4) (L' := [(0, .ref a0), (1, .int X1), (2, .int X2)]) (Ps := []) (rest := []) hq (z_at.mk 3 rfl rfl) (Or.inl ⟨rfl, rfl⟩) rfl rfl (by decide) (by decide) rfl (Nat.not_lt.mpr (Nat.le_of_ble_eq_true rfl)) rfl rfl (z_cat_le 0 rfl (by decide)) (z_lgl_le 1 rfl (by decide)) (by decide) (H.tg9 (zIn_all (l := [1, 2, 3, 4, 5, 6, 7, 8, 9, 10, 11, 12, 13, 14, 15, 16, 17, 18]) (p := fun a => zIn [1, 2, 3, 4, 5, 6, 7, 8, 9, 10, 11, 12, 13, 14, 15, 16, 17, 18] a) rfl ha0)) (by omega) (g_jString_isLatin1_ok (zIn_all (l := [1, 2, 3, 4, 5, 6, 7, 8, 9, 10, 11, 12, 13, 14, 15, 16, 17, 18]) (p := fun a => zIn [1, 2, 3, 4, 5, 6, 7, 8, 9, 10, 11, 12, 13, 14, 15, 16, 17, 18] a) rfl ha0) H h_1) rfl rfl ?_
  intro R_1 m_1 p_1 e_1 hR_1 H_1
  subst e_1
  rcases z_ite h with ⟨c_4, h⟩ | ⟨c_4, h⟩
  · refine r_t1 (pc' := 23) (L' := [(0, .ref a0), (1, .int X1), (2, .int X2)]) hq (z_at.mk 3 rfl rfl) rfl hR_1 c_4 rfl rfl ?_
    refine r_p hq 1 (pc' := 24) (L' := [(0, .ref a0), (1, .int X1), (2, .int X2)]) (st' := [.ref a0]) rfl ?_
    refine r_gsR (pc' := 27) (L' := [(0, .ref a0), (1, .int X1), (2, .int X2)]) H_1 hq (z_at.mk 3 rfl rfl) rfl (zIn_all (l := [1, 2, 3, 4, 5, 6, 7, 8, 9, 10, 11, 12, 13, 14, 15, 16, 17, 18]) (p := fun a => zIn [1, 2, 3, 4, 5, 6, 7, 8, 9, 10, 11, 12, 13, 14, 15, 16, 17, 18] a) rfl ha0) rfl rfl ?_
    refine r_p hq 3 (pc' := 30) (L' := [(0, .ref a0), (1, .int X1), (2, .int X2)]) (st' := [.ref a0, .int X2, .int X1, .ref (a0 + 18)]) rfl ?_
    obtain ⟨o_30, h_30, h⟩ := Option.bind_eq_some_iff.mp h
    refine r_cvI (pc' := 33) (L' := [(0, .ref a0), (1, .int X1), (2, .int X2)]) (Ps := []) (rest := [.int X2, .int X1, .ref (a0 + 18)]) hq (z_at.mk 3 rfl rfl) (Or.inl ⟨rfl, rfl⟩) rfl rfl (by decide) (by decide) rfl (Nat.not_lt.mpr (Nat.le_of_ble_eq_true rfl)) rfl rfl (z_cat_le 3 rfl (by decide)) (z_lgl_le 1 rfl (by decide)) (by decide) (H_1.tg9 (zIn_all (l := [1, 2, 3, 4, 5, 6, 7, 8, 9, 10, 11, 12, 13, 14, 15, 16, 17, 18]) (p := fun a => zIn [1, 2, 3, 4, 5, 6, 7, 8, 9, 10, 11, 12, 13, 14, 15, 16, 17, 18] a) rfl ha0)) (by omega) (g_jString_length_ok (zIn_all (l := [1, 2, 3, 4, 5, 6, 7, 8, 9, 10, 11, 12, 13, 14, 15, 16, 17, 18]) (p := fun a => zIn [1, 2, 3, 4, 5, 6, 7, 8, 9, 10, 11, 12, 13, 14, 15, 16, 17, 18] a) rfl ha0) H_1 h_30) rfl rfl ?_
    intro R_30 m_30 p_30 e_30 hR_30 H_30
    subst e_30
    cases h
  · refine r_f1 (pc' := 7) (L' := [(0, .ref a0), (1, .int X1), (2, .int X2)]) hq (z_at.mk 3 rfl rfl) rfl hR_1 c_4 rfl rfl ?_
    refine r_p hq 1 (pc' := 8) (L' := [(0, .ref a0), (1, .int X1), (2, .int X2)]) (st' := [.ref a0]) rfl ?_
    refine r_gsR (pc' := 11) (L' := [(0, .ref a0), (1, .int X1), (2, .int X2)]) H_1 hq (z_at.mk 3 rfl rfl) rfl (zIn_all (l := [1, 2, 3, 4, 5, 6, 7, 8, 9, 10, 11, 12, 13, 14, 15, 16, 17, 18]) (p := fun a => zIn [1, 2, 3, 4, 5, 6, 7, 8, 9, 10, 11, 12, 13, 14, 15, 16, 17, 18] a) rfl ha0) rfl rfl ?_
    refine r_p hq 3 (pc' := 14) (L' := [(0, .ref a0), (1, .int X1), (2, .int X2)]) (st' := [.ref a0, .int X2, .int X1, .ref (a0 + 18)]) rfl ?_
    obtain ⟨o_14, h_14, h⟩ := Option.bind_eq_some_iff.mp h
    refine r_cvI (pc' := 17) (L' := [(0, .ref a0), (1, .int X1), (2, .int X2)]) (Ps := []) (rest := [.int X2, .int X1, .ref (a0 + 18)]) hq (z_at.mk 3 rfl rfl) (Or.inl ⟨rfl, rfl⟩) rfl rfl (by decide) (by decide) rfl (Nat.not_lt.mpr (Nat.le_of_ble_eq_true rfl)) rfl rfl (z_cat_le 3 rfl (by decide)) (z_lgl_le 1 rfl (by decide)) (by decide) (H_1.tg9 (zIn_all (l := [1, 2, 3, 4, 5, 6, 7, 8, 9, 10, 11, 12, 13, 14, 15, 16, 17, 18]) (p := fun a => zIn [1, 2, 3, 4, 5, 6, 7, 8, 9, 10, 11, 12, 13, 14, 15, 16, 17, 18] a) rfl ha0)) (by omega) (g_jString_length_ok (zIn_all (l := [1, 2, 3, 4, 5, 6, 7, 8, 9, 10, 11, 12, 13, 14, 15, 16, 17, 18]) (p := fun a => zIn [1, 2, 3, 4, 5, 6, 7, 8, 9, 10, 11, 12, 13, 14, 15, 16, 17, 18] a) rfl ha0) H_1 h_14) rfl rfl ?_
    intro R_14 m_14 p_14 e_14 hR_14 H_14
    subst e_14
    obtain ⟨o_17, h_17, h⟩ := Option.bind_eq_some_iff.mp h
    refine r_csI (pc' := 20) (L' := [(0, .ref a0), (1, .int X1), (2, .int X2)]) (As := [.ref (a0 + 18), .int X1, .int X2, .int R_14]) (rest := []) (j := 311) hq (z_at.mk 3 rfl rfl) (Or.inl ⟨rfl, rfl⟩) rfl rfl (by omega) (g_jStringLatin1_indexOf_ok (zIn_all (l := [1, 2, 3, 4, 5, 6, 7, 8, 9, 10, 11, 12, 13, 14, 15, 16, 17, 18]) (p := fun a => zIn [19, 20, 21, 22, 23, 24, 25, 26, 27, 28, 29, 30, 31, 32, 33, 34, 35, 36] (a + 18)) rfl ha0) hx1 hx2 hR_14 H_14 h_17) rfl rfl ?_
    intro R_17 m_17 p_17 e_17 hR_17 H_17
    subst e_17
    refine r_p hq 1 (pc' := 36) (L' := []) (st' := [.int R_17]) rfl ?_
    cases h
    exact r_ri hq (z_at.mk 1 rfl rfl) rfl rfl hR_17 rfl H_17
def g_jString_indexOf_295 (a0 : Nat) (x1 : Int) (σ : zS) : Option (Int × zS) :=
  (g_jString_indexOf_296 a0 x1 0 σ).bind fun o_3 =>
  some (o_3.1, o_3.2)
set_option maxHeartbeats 4000000 in
theorem g_jString_indexOf_295_ok {xl : Nat} {xs : Nat → Int32} {a0 : Nat} (ha0 : zIn [1, 2, 3, 4, 5, 6, 7, 8, 9, 10, 11, 12, 13, 14, 15, 16, 17, 18] a0 = true) {X1 : Int32} {x1 : Int} (hx1 : X1.toInt = x1) {σ : zS} {p : Nat} {m : zM} {o : Int × zS} (H : zRep xl xs p m σ) (h : g_jString_indexOf_295 a0 x1 σ = some o) : zGo xl xs (fun p' => p = p') 4 295 0 (z_can 295 0 (lv_args 0 [.ref a0, .int X1])) [] m (vI o.1) o.2 := by
  have hq : z_mth 295 = some z_r295 := rfl
  unfold g_jString_indexOf_295 at h
  show zGo xl xs (fun p' => p = p') 4 295 0 [(0, .ref a0), (1, .int X1)] [] m (vI o.1) o.2
  refine r_p hq 3 (pc' := 3) (L' := [(0, .ref a0), (1, .int X1)]) (st' := [.int ((0 : Int32)), .int X1, .ref a0]) rfl ?_
  obtain ⟨o_3, h_3, h⟩ := Option.bind_eq_some_iff.mp h
  refine r_cvI (pc' := 6) (L' := [(0, .ref a0), (1, .int X1)]) (Ps := [.int X1, .int ((0 : Int32))]) (rest := []) hq (z_at.mk 3 rfl rfl) (Or.inl ⟨rfl, rfl⟩) rfl rfl (by decide) (by decide) rfl (Nat.not_lt.mpr (Nat.le_of_ble_eq_true rfl)) rfl rfl (z_cat_le 0 rfl (by decide)) (z_lgl_le 3 rfl (by decide)) (by decide) (H.tg9 (zIn_all (l := [1, 2, 3, 4, 5, 6, 7, 8, 9, 10, 11, 12, 13, 14, 15, 16, 17, 18]) (p := fun a => zIn [1, 2, 3, 4, 5, 6, 7, 8, 9, 10, 11, 12, 13, 14, 15, 16, 17, 18] a) rfl ha0)) (by omega) (g_jString_indexOf_296_ok (zIn_all (l := [1, 2, 3, 4, 5, 6, 7, 8, 9, 10, 11, 12, 13, 14, 15, 16, 17, 18]) (p := fun a => zIn [1, 2, 3, 4, 5, 6, 7, 8, 9, 10, 11, 12, 13, 14, 15, 16, 17, 18] a) rfl ha0) hx1 (rfl : (0 : Int32).toInt = 0) H h_3) rfl rfl ?_
  intro R_3 m_3 p_3 e_3 hR_3 H_3
  subst e_3
  cases h
  exact r_ri hq (z_at.mk 1 rfl rfl) rfl rfl hR_3 rfl H_3
def g_ta_oneOf (a1 : Nat) (σ : zS) : Option (Int × zS) :=
  (g_ta_here σ).bind fun o_2 =>
  (g_jString_indexOf_295 a1 (w16 o_2.1) o_2.2).bind fun o_6 =>
  if 0 ≤ o_6.1 then
    let v_27 := o_6.2 120 2
    let s_32 := zu o_6.2 120 2 (w32 (v_27 + 1))
    some (o_6.1, s_32)
  else
    let v_16 := o_6.2 120 2
    (g_ta_blame v_16 o_6.2).bind fun o_19 =>
    some (o_6.1, o_19.2)
set_option maxHeartbeats 4000000 in
theorem g_ta_oneOf_ok {xl : Nat} {xs : Nat → Int32} {a1 : Nat} (ha1 : zIn [1, 2, 3, 4, 5, 6, 7, 8, 9, 10, 11, 12, 13, 14, 15, 16, 17, 18] a1 = true) {σ : zS} {p : Nat} {m : zM} {o : Int × zS} (H : zRep xl xs p m σ) (h : g_ta_oneOf a1 σ = some o) : zGo xl xs (fun p' => p = p') 5 99 0 (z_can 99 0 (lv_args 0 [.ref 120, .ref a1])) [] m (vI o.1) o.2 := by
  have hq : z_mth 99 = some z_r99 := rfl
  unfold g_ta_oneOf at h
  show zGo xl xs (fun p' => p = p') 5 99 0 [(0, .ref 120), (1, .ref a1)] [] m (vI o.1) o.2
  refine r_p hq 2 (pc' := 2) (L' := [(0, .ref 120), (1, .ref a1)]) (st' := [.ref 120, .ref a1]) rfl ?_
  obtain ⟨o_2, h_2, h⟩ := Option.bind_eq_some_iff.mp h
  refine r_cvI (pc' := 5) (L' := [(0, .ref 120), (1, .ref a1)]) (Ps := []) (rest := [.ref a1]) hq (z_at.mk 3 rfl rfl) (Or.inl ⟨rfl, rfl⟩) rfl rfl (by decide) (by decide) rfl (Nat.not_lt.mpr (Nat.le_of_ble_eq_true rfl)) rfl rfl (z_cat_le 1 rfl (by decide)) (z_lgl_le 1 rfl (by decide)) (by decide) (H.tg rfl) (by omega) (g_ta_here_ok H h_2) rfl rfl ?_
  intro R_2 m_2 p_2 e_2 hR_2 H_2
  subst e_2
  refine r_p hq 1 (pc' := 6) (L' := [(0, .ref 120), (1, .ref a1)]) (st' := [.int ((R_2.toUInt32 % 65536).toInt32), .ref a1]) rfl ?_
  obtain ⟨o_6, h_6, h⟩ := Option.bind_eq_some_iff.mp h
  refine r_cvI (pc' := 9) (L' := [(0, .ref 120), (1, .ref a1)]) (Ps := [.int ((R_2.toUInt32 % 65536).toInt32)]) (rest := []) hq (z_at.mk 3 rfl rfl) (Or.inl ⟨rfl, rfl⟩) rfl rfl (by decide) (by decide) rfl (Nat.not_lt.mpr (Nat.le_of_ble_eq_true rfl)) rfl rfl (z_cat_le 0 rfl (by decide)) (z_lgl_le 2 rfl (by decide)) (by decide) (H_2.tg9 (zIn_all (l := [1, 2, 3, 4, 5, 6, 7, 8, 9, 10, 11, 12, 13, 14, 15, 16, 17, 18]) (p := fun a => zIn [1, 2, 3, 4, 5, 6, 7, 8, 9, 10, 11, 12, 13, 14, 15, 16, 17, 18] a) rfl ha1)) (by omega) (g_jString_indexOf_295_ok (zIn_all (l := [1, 2, 3, 4, 5, 6, 7, 8, 9, 10, 11, 12, 13, 14, 15, 16, 17, 18]) (p := fun a => zIn [1, 2, 3, 4, 5, 6, 7, 8, 9, 10, 11, 12, 13, 14, 15, 16, 17, 18] a) rfl ha1) (tx_i2c hR_2) H_2 h_6) rfl rfl ?_
  intro R_6 m_6 p_6 e_6 hR_6 H_6
  subst e_6
  refine r_p hq 2 (pc' := 11) (L' := [(2, .int R_6), (0, .ref 120), (1, .ref a1)]) (st' := [.int R_6]) rfl ?_
  rcases z_ite h with ⟨c_11, h⟩ | ⟨c_11, h⟩
  · refine r_t1 (pc' := 25) (L' := [(2, .int R_6), (0, .ref 120), (1, .ref a1)]) hq (z_at.mk 3 rfl rfl) rfl hR_6 c_11 rfl rfl ?_
    refine r_p hq 2 (pc' := 27) (L' := [(2, .int R_6), (0, .ref 120), (1, .ref a1)]) (st' := [.ref 120, .ref 120]) rfl ?_
    refine r_gI (pc' := 30) (L' := [(2, .int R_6), (0, .ref 120), (1, .ref a1)]) H_6 hq (z_at.mk 3 rfl rfl) rfl rfl rfl rfl ?_
    intro V_27 hV_27
    refine r_p hq 2 (pc' := 32) (L' := [(2, .int R_6), (0, .ref 120), (1, .ref a1)]) (st' := [.int (V_27 + ((1 : Int32))), .ref 120]) rfl ?_
    refine r_pI (X := V_27 + ((1 : Int32))) (pc' := 35) (L' := [(2, .int R_6)]) H_6 hq (z_at.mk 3 rfl rfl) rfl rfl (tx_iadd hV_27 (rfl : (1 : Int32).toInt = 1)) (by decide) rfl rfl rfl rfl ?_
    intro m_32 H_32
    refine r_p hq 1 (pc' := 36) (L' := [(2, .int R_6)]) (st' := [.int R_6]) rfl ?_
    cases h
    exact r_ri hq (z_at.mk 1 rfl rfl) rfl rfl hR_6 rfl H_32
  · refine r_f1 (pc' := 14) (L' := [(2, .int R_6), (0, .ref 120), (1, .ref a1)]) hq (z_at.mk 3 rfl rfl) rfl hR_6 c_11 rfl rfl ?_
    refine r_p hq 2 (pc' := 16) (L' := [(2, .int R_6), (0, .ref 120), (1, .ref a1)]) (st' := [.ref 120, .ref 120]) rfl ?_
    refine r_gI (pc' := 19) (L' := [(2, .int R_6), (0, .ref 120), (1, .ref a1)]) H_6 hq (z_at.mk 3 rfl rfl) rfl rfl rfl rfl ?_
    intro V_16 hV_16
    obtain ⟨o_19, h_19, h⟩ := Option.bind_eq_some_iff.mp h
    refine r_cvV (pc' := 22) (L' := [(2, .int R_6), (0, .ref 120), (1, .ref a1)]) (Ps := [.int V_16]) (rest := []) hq (z_at.mk 3 rfl rfl) (Or.inl ⟨rfl, rfl⟩) rfl rfl (by decide) (by decide) rfl (Nat.not_lt.mpr (Nat.le_of_ble_eq_true rfl)) rfl rfl (z_cat_le 0 rfl (by decide)) (z_lgl_le 2 rfl (by decide)) (by decide) (H_6.tg rfl) (by omega) (g_ta_blame_ok hV_16 H_6 h_19) rfl rfl ?_
    intro m_19 p_19 e_19 H_19
    subst e_19
    refine r_p hq 2 (pc' := 36) (L' := [(2, .int R_6)]) (st' := [.int R_6]) rfl ?_
    cases h
    exact r_ri hq (z_at.mk 1 rfl rfl) rfl rfl hR_6 rfl H_19
def g_ta_number_L88 (x4 : Int) (x5 : Int) (σ : zS) : Option (Int × zS) :=
  (g_ta_blame x4 σ).bind fun o_91 =>
  some (x5, o_91.2)
set_option maxHeartbeats 4000000 in
theorem g_ta_number_L88_ok {xl : Nat} {xs : Nat → Int32} {X4 : Int32} {x4 : Int} (hx4 : X4.toInt = x4) {X5 : Int32} {x5 : Int} (hx5 : X5.toInt = x5) {σ : zS} {p : Nat} {m : zM} {o : Int × zS} (H : zRep xl xs p m σ) (h : g_ta_number_L88 x4 x5 σ = some o) : zGo xl xs (fun p' => p = p') 2 101 88 [(0, .ref 120), (4, .int X4), (5, .int X5)] [] m (vI o.1) o.2 := by
  have hq : z_mth 101 = some z_r101 := rfl
  unfold g_ta_number_L88 at h
  refine r_p hq 2 (pc' := 91) (L' := [(0, .ref 120), (4, .int X4), (5, .int X5)]) (st' := [.int X4, .ref 120]) rfl ?_
  obtain ⟨o_91, h_91, h⟩ := Option.bind_eq_some_iff.mp h
  refine r_cvV (pc' := 94) (L' := [(5, .int X5)]) (Ps := [.int X4]) (rest := []) hq (z_at.mk 3 rfl rfl) (Or.inl ⟨rfl, rfl⟩) rfl rfl (by decide) (by decide) rfl (Nat.not_lt.mpr (Nat.le_of_ble_eq_true rfl)) rfl rfl (z_cat_le 0 rfl (by decide)) (z_lgl_le 2 rfl (by decide)) (by decide) (H.tg rfl) (by omega) (g_ta_blame_ok hx4 H h_91) rfl rfl ?_
  intro m_91 p_91 e_91 H_91
  subst e_91
  refine r_p hq 1 (pc' := 96) (L' := [(5, .int X5)]) (st' := [.int X5]) rfl ?_
  cases h
  exact r_ri hq (z_at.mk 1 rfl rfl) rfl rfl hx5 rfl H_91
def g_ta_number_L67 (x2 : Int) (x3 : Int) (x4 : Int) (x5 : Int) (σ : zS) : Option (Int × zS) :=
  let v_68 := σ 120 2
  if v_68 = x4 then
    g_ta_number_L88 x4 x5 σ
  else
    if x5 < x2 then
      g_ta_number_L88 x4 x5 σ
    else
      if x5 ≤ x3 then
        some (x5, σ)
      else
        g_ta_number_L88 x4 x5 σ
set_option maxHeartbeats 4000000 in
theorem g_ta_number_L67_ok {xl : Nat} {xs : Nat → Int32} {X2 : Int32} {x2 : Int} (hx2 : X2.toInt = x2) {X3 : Int32} {x3 : Int} (hx3 : X3.toInt = x3) {X4 : Int32} {x4 : Int} (hx4 : X4.toInt = x4) {X5 : Int32} {x5 : Int} (hx5 : X5.toInt = x5) {σ : zS} {p : Nat} {m : zM} {o : Int × zS} (H : zRep xl xs p m σ) (h : g_ta_number_L67 x2 x3 x4 x5 σ = some o) : zGo xl xs (fun p' => p = p') 2 101 67 [(0, .ref 120), (2, .int X2), (3, .int X3), (4, .int X4), (5, .int X5)] [] m (vI o.1) o.2 := by
  have hq : z_mth 101 = some z_r101 := rfl
  unfold g_ta_number_L67 at h
  refine r_p hq 1 (pc' := 68) (L' := [(0, .ref 120), (2, .int X2), (3, .int X3), (4, .int X4), (5, .int X5)]) (st' := [.ref 120]) rfl ?_
  refine r_gI (pc' := 71) (L' := [(0, .ref 120), (2, .int X2), (3, .int X3), (4, .int X4), (5, .int X5)]) H hq (z_at.mk 3 rfl rfl) rfl rfl rfl rfl ?_
  intro V_68 hV_68
  refine r_p hq 1 (pc' := 73) (L' := [(0, .ref 120), (2, .int X2), (3, .int X3), (4, .int X4), (5, .int X5)]) (st' := [.int X4, .int V_68]) rfl ?_
  rcases z_ite h with ⟨c_73, h⟩ | ⟨c_73, h⟩
  · refine r_t2 (pc' := 88) (L' := [(0, .ref 120), (4, .int X4), (5, .int X5)]) hq (z_at.mk 3 rfl rfl) rfl hV_68 hx4 c_73 rfl rfl ?_
    exact g_ta_number_L88_ok hx4 hx5 H h
  · refine r_f2 (pc' := 76) (L' := [(0, .ref 120), (2, .int X2), (3, .int X3), (4, .int X4), (5, .int X5)]) hq (z_at.mk 3 rfl rfl) rfl hV_68 hx4 c_73 rfl rfl ?_
    refine r_p hq 2 (pc' := 79) (L' := [(0, .ref 120), (2, .int X2), (3, .int X3), (4, .int X4), (5, .int X5)]) (st' := [.int X2, .int X5]) rfl ?_
    rcases z_ite h with ⟨c_79, h⟩ | ⟨c_79, h⟩
    · refine r_t2 (pc' := 88) (L' := [(0, .ref 120), (4, .int X4), (5, .int X5)]) hq (z_at.mk 3 rfl rfl) rfl hx5 hx2 c_79 rfl rfl ?_
      exact g_ta_number_L88_ok hx4 hx5 H h
    · refine r_f2 (pc' := 82) (L' := [(0, .ref 120), (2, .int X2), (3, .int X3), (4, .int X4), (5, .int X5)]) hq (z_at.mk 3 rfl rfl) rfl hx5 hx2 c_79 rfl rfl ?_
      refine r_p hq 2 (pc' := 85) (L' := [(0, .ref 120), (2, .int X2), (3, .int X3), (4, .int X4), (5, .int X5)]) (st' := [.int X3, .int X5]) rfl ?_
      rcases z_ite h with ⟨c_85, h⟩ | ⟨c_85, h⟩
      · refine r_t2 (pc' := 94) (L' := [(5, .int X5)]) hq (z_at.mk 3 rfl rfl) rfl hx5 hx3 c_85 rfl rfl ?_
        refine r_p hq 1 (pc' := 96) (L' := [(5, .int X5)]) (st' := [.int X5]) rfl ?_
        cases h
        exact r_ri hq (z_at.mk 1 rfl rfl) rfl rfl hx5 rfl H
      · refine r_f2 (pc' := 88) (L' := [(0, .ref 120), (4, .int X4), (5, .int X5)]) hq (z_at.mk 3 rfl rfl) rfl hx5 hx3 c_85 rfl rfl ?_
        exact g_ta_number_L88_ok hx4 hx5 H h
def g_ta_number_L12 : Nat → Int → Int → Int → Int → Int → Int → zS → Option (Int × zS)
  | 0, _, _, _, _, _, _, _ => none
  | n + 1, x1, x2, x3, x4, x5, x6, σ =>
    if x1 ≤ x6 then
      g_ta_number_L67 x2 x3 x4 x5 σ
    else
      (g_ta_here σ).bind fun o_19 =>
      if o_19.1 < 48 then
        g_ta_number_L67 x2 x3 x4 x5 o_19.2
      else
        (g_ta_here o_19.2).bind fun o_28 =>
        if 57 < o_28.1 then
          g_ta_number_L67 x2 x3 x4 x5 o_28.2
        else
          (g_ta_here o_28.2).bind fun o_42 =>
          let v_53 := o_42.2 120 2
          let s_58 := zu o_42.2 120 2 (w32 (v_53 + 1))
          (g_ta_number_L12 n) x1 x2 x3 x4 (w32 ((w32 ((w32 (x5 * 10)) + o_42.1)) - 48)) (w32 (x6 + 1)) s_58
set_option maxHeartbeats 4000000 in
theorem g_ta_number_L12_ok {xl : Nat} {xs : Nat → Int32} : ∀ (n : Nat) {X1 : Int32} {x1 : Int} {X2 : Int32} {x2 : Int} {X3 : Int32} {x3 : Int} {X4 : Int32} {x4 : Int} {X5 : Int32} {x5 : Int} {X6 : Int32} {x6 : Int} {σ : zS} {p : Nat} {m : zM} {o : Int × zS}, X1.toInt = x1 → X2.toInt = x2 → X3.toInt = x3 → X4.toInt = x4 → X5.toInt = x5 → X6.toInt = x6 → zRep xl xs p m σ → g_ta_number_L12 n x1 x2 x3 x4 x5 x6 σ = some o → zGo xl xs (fun p' => p = p') 2 101 12 [(0, .ref 120), (1, .int X1), (2, .int X2), (3, .int X3), (4, .int X4), (5, .int X5), (6, .int X6)] [] m (vI o.1) o.2
  | 0, _, _, _, _, _, _, _, _, _, _, _, _, _, _, _, _, _, _, _, _, _, _, _, h => by cases h
  | n + 1, X1, x1, X2, x2, X3, x3, X4, x4, X5, x5, X6, x6, σ, p, m, o, hx1, hx2, hx3, hx4, hx5, hx6, H, h => by
    have hq : z_mth 101 = some z_r101 := rfl
    have ih := fun {X1 : Int32} {x1 : Int} {X2 : Int32} {x2 : Int} {X3 : Int32} {x3 : Int} {X4 : Int32} {x4 : Int} {X5 : Int32} {x5 : Int} {X6 : Int32} {x6 : Int} {σ : zS} {p : Nat} {m : zM} {o : Int × zS} => g_ta_number_L12_ok (xl := xl) (xs := xs) n (X1 := X1) (x1 := x1) (X2 := X2) (x2 := x2) (X3 := X3) (x3 := x3) (X4 := X4) (x4 := x4) (X5 := X5) (x5 := x5) (X6 := X6) (x6 := x6) (σ := σ) (p := p) (m := m) (o := o)
    unfold g_ta_number_L12 at h
    refine r_p hq 2 (pc' := 15) (L' := [(0, .ref 120), (1, .int X1), (2, .int X2), (3, .int X3), (4, .int X4), (5, .int X5), (6, .int X6)]) (st' := [.int X1, .int X6]) rfl ?_
    rcases z_ite h with ⟨c_15, h⟩ | ⟨c_15, h⟩
    · refine r_t2 (pc' := 67) (L' := [(0, .ref 120), (2, .int X2), (3, .int X3), (4, .int X4), (5, .int X5)]) hq (z_at.mk 3 rfl rfl) rfl hx6 hx1 c_15 rfl rfl ?_
      exact g_ta_number_L67_ok hx2 hx3 hx4 hx5 H h
    · refine r_f2 (pc' := 18) (L' := [(0, .ref 120), (1, .int X1), (2, .int X2), (3, .int X3), (4, .int X4), (5, .int X5), (6, .int X6)]) hq (z_at.mk 3 rfl rfl) rfl hx6 hx1 c_15 rfl rfl ?_
      refine r_p hq 1 (pc' := 19) (L' := [(0, .ref 120), (1, .int X1), (2, .int X2), (3, .int X3), (4, .int X4), (5, .int X5), (6, .int X6)]) (st' := [.ref 120]) rfl ?_
      obtain ⟨o_19, h_19, h⟩ := Option.bind_eq_some_iff.mp h
      refine r_cvI (pc' := 22) (L' := [(0, .ref 120), (1, .int X1), (2, .int X2), (3, .int X3), (4, .int X4), (5, .int X5), (6, .int X6)]) (Ps := []) (rest := []) hq (z_at.mk 3 rfl rfl) (Or.inl ⟨rfl, rfl⟩) rfl rfl (by decide) (by decide) rfl (Nat.not_lt.mpr (Nat.le_of_ble_eq_true rfl)) rfl rfl (z_cat_le 0 rfl (by decide)) (z_lgl_le 1 rfl (by decide)) (by decide) (H.tg rfl) (by omega) (g_ta_here_ok H h_19) rfl rfl ?_
      intro R_19 m_19 p_19 e_19 hR_19 H_19
      subst e_19
      refine r_p hq 1 (pc' := 24) (L' := [(0, .ref 120), (1, .int X1), (2, .int X2), (3, .int X3), (4, .int X4), (5, .int X5), (6, .int X6)]) (st' := [.int ((48 : Int32)), .int R_19]) rfl ?_
      rcases z_ite h with ⟨c_24, h⟩ | ⟨c_24, h⟩
      · refine r_t2 (pc' := 67) (L' := [(0, .ref 120), (2, .int X2), (3, .int X3), (4, .int X4), (5, .int X5)]) hq (z_at.mk 3 rfl rfl) rfl hR_19 (rfl : (48 : Int32).toInt = 48) c_24 rfl rfl ?_
        exact g_ta_number_L67_ok hx2 hx3 hx4 hx5 H_19 h
      · refine r_f2 (pc' := 27) (L' := [(0, .ref 120), (1, .int X1), (2, .int X2), (3, .int X3), (4, .int X4), (5, .int X5), (6, .int X6)]) hq (z_at.mk 3 rfl rfl) rfl hR_19 (rfl : (48 : Int32).toInt = 48) c_24 rfl rfl ?_
        refine r_p hq 1 (pc' := 28) (L' := [(0, .ref 120), (1, .int X1), (2, .int X2), (3, .int X3), (4, .int X4), (5, .int X5), (6, .int X6)]) (st' := [.ref 120]) rfl ?_
        obtain ⟨o_28, h_28, h⟩ := Option.bind_eq_some_iff.mp h
        refine r_cvI (pc' := 31) (L' := [(0, .ref 120), (1, .int X1), (2, .int X2), (3, .int X3), (4, .int X4), (5, .int X5), (6, .int X6)]) (Ps := []) (rest := []) hq (z_at.mk 3 rfl rfl) (Or.inl ⟨rfl, rfl⟩) rfl rfl (by decide) (by decide) rfl (Nat.not_lt.mpr (Nat.le_of_ble_eq_true rfl)) rfl rfl (z_cat_le 0 rfl (by decide)) (z_lgl_le 1 rfl (by decide)) (by decide) (H_19.tg rfl) (by omega) (g_ta_here_ok H_19 h_28) rfl rfl ?_
        intro R_28 m_28 p_28 e_28 hR_28 H_28
        subst e_28
        refine r_p hq 1 (pc' := 33) (L' := [(0, .ref 120), (1, .int X1), (2, .int X2), (3, .int X3), (4, .int X4), (5, .int X5), (6, .int X6)]) (st' := [.int ((57 : Int32)), .int R_28]) rfl ?_
        rcases z_ite h with ⟨c_33, h⟩ | ⟨c_33, h⟩
        · refine r_t2 (pc' := 67) (L' := [(0, .ref 120), (2, .int X2), (3, .int X3), (4, .int X4), (5, .int X5)]) hq (z_at.mk 3 rfl rfl) rfl hR_28 (rfl : (57 : Int32).toInt = 57) c_33 rfl rfl ?_
          exact g_ta_number_L67_ok hx2 hx3 hx4 hx5 H_28 h
        · refine r_f2 (pc' := 36) (L' := [(0, .ref 120), (1, .int X1), (2, .int X2), (3, .int X3), (4, .int X4), (5, .int X5), (6, .int X6)]) hq (z_at.mk 3 rfl rfl) rfl hR_28 (rfl : (57 : Int32).toInt = 57) c_33 rfl rfl ?_
          refine r_p hq 4 (pc' := 42) (L' := [(0, .ref 120), (1, .int X1), (2, .int X2), (3, .int X3), (4, .int X4), (5, .int X5), (6, .int X6)]) (st' := [.ref 120, .int (X5 * ((10 : Int32)))]) rfl ?_
          obtain ⟨o_42, h_42, h⟩ := Option.bind_eq_some_iff.mp h
          refine r_cvI (pc' := 45) (L' := [(0, .ref 120), (1, .int X1), (2, .int X2), (3, .int X3), (4, .int X4), (5, .int X5), (6, .int X6)]) (Ps := []) (rest := [.int (X5 * ((10 : Int32)))]) hq (z_at.mk 3 rfl rfl) (Or.inl ⟨rfl, rfl⟩) rfl rfl (by decide) (by decide) rfl (Nat.not_lt.mpr (Nat.le_of_ble_eq_true rfl)) rfl rfl (z_cat_le 1 rfl (by decide)) (z_lgl_le 1 rfl (by decide)) (by decide) (H_28.tg rfl) (by omega) (g_ta_here_ok H_28 h_42) rfl rfl ?_
          intro R_42 m_42 p_42 e_42 hR_42 H_42
          subst e_42
          refine r_p hq 6 (pc' := 53) (L' := [(5, .int (((X5 * ((10 : Int32))) + R_42) - ((48 : Int32)))), (0, .ref 120), (1, .int X1), (2, .int X2), (3, .int X3), (4, .int X4), (6, .int X6)]) (st' := [.ref 120, .ref 120]) rfl ?_
          refine r_gI (pc' := 56) (L' := [(5, .int (((X5 * ((10 : Int32))) + R_42) - ((48 : Int32)))), (0, .ref 120), (1, .int X1), (2, .int X2), (3, .int X3), (4, .int X4), (6, .int X6)]) H_42 hq (z_at.mk 3 rfl rfl) rfl rfl rfl rfl ?_
          intro V_53 hV_53
          refine r_p hq 2 (pc' := 58) (L' := [(5, .int (((X5 * ((10 : Int32))) + R_42) - ((48 : Int32)))), (0, .ref 120), (1, .int X1), (2, .int X2), (3, .int X3), (4, .int X4), (6, .int X6)]) (st' := [.int (V_53 + ((1 : Int32))), .ref 120]) rfl ?_
          refine r_pI (X := V_53 + ((1 : Int32))) (pc' := 61) (L' := [(5, .int (((X5 * ((10 : Int32))) + R_42) - ((48 : Int32)))), (0, .ref 120), (1, .int X1), (2, .int X2), (3, .int X3), (4, .int X4), (6, .int X6)]) H_42 hq (z_at.mk 3 rfl rfl) rfl rfl (tx_iadd hV_53 (rfl : (1 : Int32).toInt = 1)) (by decide) rfl rfl rfl rfl ?_
          intro m_58 H_58
          refine r_p hq 2 (pc' := 12) (L' := [(0, .ref 120), (1, .int X1), (2, .int X2), (3, .int X3), (4, .int X4), (5, .int (((X5 * ((10 : Int32))) + R_42) - ((48 : Int32)))), (6, .int (X6 + (1 : Int32)))]) (st' := []) rfl ?_
          exact ih hx1 hx2 hx3 hx4 (tx_isub (tx_iadd (tx_imul hx5 (rfl : (10 : Int32).toInt = 10)) hR_42) (rfl : (48 : Int32).toInt = 48)) (tx_iadd hx6 (rfl : (1 : Int32).toInt = 1)) H_58 h
def g_ta_number (x1 : Int) (x2 : Int) (x3 : Int) (σ : zS) : Option (Int × zS) :=
  let v_1 := σ 120 2
  g_ta_number_L12 zK x1 x2 x3 v_1 0 0 σ
set_option maxHeartbeats 4000000 in
theorem g_ta_number_ok {xl : Nat} {xs : Nat → Int32} {X1 : Int32} {x1 : Int} (hx1 : X1.toInt = x1) {X2 : Int32} {x2 : Int} (hx2 : X2.toInt = x2) {X3 : Int32} {x3 : Int} (hx3 : X3.toInt = x3) {σ : zS} {p : Nat} {m : zM} {o : Int × zS} (H : zRep xl xs p m σ) (h : g_ta_number x1 x2 x3 σ = some o) : zGo xl xs (fun p' => p = p') 2 101 0 (z_can 101 0 (lv_args 0 [.ref 120, .int X1, .int X2, .int X3])) [] m (vI o.1) o.2 := by
  have hq : z_mth 101 = some z_r101 := rfl
  unfold g_ta_number at h
  show zGo xl xs (fun p' => p = p') 2 101 0 [(0, .ref 120), (1, .int X1), (2, .int X2), (3, .int X3)] [] m (vI o.1) o.2
  refine r_p hq 1 (pc' := 1) (L' := [(0, .ref 120), (1, .int X1), (2, .int X2), (3, .int X3)]) (st' := [.ref 120]) rfl ?_
  refine r_gI (pc' := 4) (L' := [(0, .ref 120), (1, .int X1), (2, .int X2), (3, .int X3)]) H hq (z_at.mk 3 rfl rfl) rfl rfl rfl rfl ?_
  intro V_1 hV_1
  refine r_p hq 5 (pc' := 12) (L' := [(0, .ref 120), (1, .int X1), (2, .int X2), (3, .int X3), (4, .int V_1), (5, .int ((0 : Int32))), (6, .int ((0 : Int32)))]) (st' := []) rfl ?_
  exact g_ta_number_L12_ok zK hx1 hx2 hx3 hV_1 (rfl : (0 : Int32).toInt = 0) (rfl : (0 : Int32).toInt = 0) H h
def g_so_read (x1 : Int) (x2 : Int) (σ : zS) : Option (Int × zS) :=
  if x1 < 0 then
    some (0, σ)
  else
    if x1 < 60 then
      if x2 = 0 then
        if 0 ≤ x1 ∧ x1 < 60 then
        let v_45 := σ 44 x1
        some (v_45, σ)
        else none
      else
      if x2 = 1 then
        if 0 ≤ x1 ∧ x1 < 60 then
        let v_52 := σ 42 x1
        some (v_52, σ)
        else none
      else
      if x2 = 2 then
        if 0 ≤ x1 ∧ x1 < 60 then
        let v_60 := σ 43 x1
        some (v_60, σ)
        else none
      else
      some (x1, σ)
    else
      some (0, σ)
set_option maxHeartbeats 4000000 in
theorem g_so_read_ok {xl : Nat} {xs : Nat → Int32} {X1 : Int32} {x1 : Int} (hx1 : X1.toInt = x1) {X2 : Int32} {x2 : Int} (hx2 : X2.toInt = x2) {σ : zS} {p : Nat} {m : zM} {o : Int × zS} (H : zRep xl xs p m σ) (h : g_so_read x1 x2 σ = some o) : zGo xl xs (fun p' => p = p') 1 88 0 (z_can 88 0 (lv_args 0 [.ref 41, .int X1, .int X2])) [] m (vL o.1) o.2 := by
  have hq : z_mth 88 = some z_r88 := rfl
  unfold g_so_read at h
  show zGo xl xs (fun p' => p = p') 1 88 0 [(0, .ref 41), (1, .int X1), (2, .int X2)] [] m (vL o.1) o.2
  refine r_p hq 1 (pc' := 1) (L' := [(0, .ref 41), (1, .int X1), (2, .int X2)]) (st' := [.int X1]) rfl ?_
  rcases z_ite h with ⟨c_1, h⟩ | ⟨c_1, h⟩
  · refine r_t1 (pc' := 10) (L' := []) hq (z_at.mk 3 rfl rfl) rfl hx1 c_1 rfl rfl ?_
    refine r_p hq 1 (pc' := 11) (L' := []) (st' := [.long ((0 : Int64))]) rfl ?_
    cases h
    exact r_rl hq (z_at.mk 1 rfl rfl) rfl (rfl : (0 : Int64).toInt = 0) rfl H
  · refine r_f1 (pc' := 4) (L' := [(0, .ref 41), (1, .int X1), (2, .int X2)]) hq (z_at.mk 3 rfl rfl) rfl hx1 c_1 rfl rfl ?_
    refine r_p hq 2 (pc' := 7) (L' := [(0, .ref 41), (1, .int X1), (2, .int X2)]) (st' := [.int ((60 : Int32)), .int X1]) rfl ?_
    rcases z_ite h with ⟨c_7, h⟩ | ⟨c_7, h⟩
    · refine r_t2 (pc' := 12) (L' := [(0, .ref 41), (1, .int X1), (2, .int X2)]) hq (z_at.mk 3 rfl rfl) rfl hx1 (rfl : (60 : Int32).toInt = 60) c_7 rfl rfl ?_
      refine r_p hq 1 (pc' := 13) (L' := [(0, .ref 41), (1, .int X1), (2, .int X2)]) (st' := [.int X2]) rfl ?_
      rcases z_ite h with ⟨c_13_0, h⟩ | ⟨c_13_0, h⟩
      · refine r_sw (off := 27) (pc' := 40) (L' := [(0, .ref 41), (1, .int X1), (2, .int X2)]) hq (z_at.mk 27 rfl rfl) (z_off_v (hx2.trans c_13_0) rfl) rfl rfl rfl ?_
        refine r_p hq 1 (pc' := 41) (L' := [(0, .ref 41), (1, .int X1), (2, .int X2)]) (st' := [.ref 41]) rfl ?_
        refine r_gR (b := 44) (pc' := 44) (L' := [(0, .ref 41), (1, .int X1), (2, .int X2)]) H hq (z_at.mk 3 rfl rfl) rfl rfl rfl rfl ?_
        refine r_p hq 1 (pc' := 45) (L' := [(0, .ref 41), (1, .int X1), (2, .int X2)]) (st' := [.int X1, .ref 44]) rfl ?_
        obtain ⟨g_45, h⟩ := z_ifo_some h
        refine r_la (pc' := 46) (L' := [(0, .ref 41), (1, .int X1), (2, .int X2)]) H hq (z_at.mk 1 rfl rfl) (show zAr 44 1 60 = true from rfl) hx1 g_45 rfl rfl ?_
        intro V_45 hV_45
        cases h
        exact r_rl hq (z_at.mk 1 rfl rfl) rfl hV_45 rfl H
      rcases z_ite h with ⟨c_13_1, h⟩ | ⟨c_13_1, h⟩
      · refine r_sw (off := 34) (pc' := 47) (L' := [(0, .ref 41), (1, .int X1), (2, .int X2)]) hq (z_at.mk 27 rfl rfl) (z_off_v (hx2.trans c_13_1) rfl) rfl rfl rfl ?_
        refine r_p hq 1 (pc' := 48) (L' := [(0, .ref 41), (1, .int X1), (2, .int X2)]) (st' := [.ref 41]) rfl ?_
        refine r_gR (b := 42) (pc' := 51) (L' := [(0, .ref 41), (1, .int X1), (2, .int X2)]) H hq (z_at.mk 3 rfl rfl) rfl rfl rfl rfl ?_
        refine r_p hq 1 (pc' := 52) (L' := [(0, .ref 41), (1, .int X1), (2, .int X2)]) (st' := [.int X1, .ref 42]) rfl ?_
        obtain ⟨g_52, h⟩ := z_ifo_some h
        refine r_ia (pc' := 53) (L' := [(0, .ref 41), (1, .int X1), (2, .int X2)]) H hq (z_at.mk 1 rfl rfl) (show zAr 42 0 60 = true from rfl) hx1 g_52 rfl rfl ?_
        intro V_52 hV_52
        refine r_p hq 1 (pc' := 54) (L' := [(0, .ref 41), (1, .int X1), (2, .int X2)]) (st' := [.long V_52.toInt64]) rfl ?_
        cases h
        exact r_rl hq (z_at.mk 1 rfl rfl) rfl (tx_i2l hV_52) rfl H
      rcases z_ite h with ⟨c_13_2, h⟩ | ⟨c_13_2, h⟩
      · refine r_sw (off := 42) (pc' := 55) (L' := [(0, .ref 41), (1, .int X1), (2, .int X2)]) hq (z_at.mk 27 rfl rfl) (z_off_v (hx2.trans c_13_2) rfl) rfl rfl rfl ?_
        refine r_p hq 1 (pc' := 56) (L' := [(0, .ref 41), (1, .int X1), (2, .int X2)]) (st' := [.ref 41]) rfl ?_
        refine r_gR (b := 43) (pc' := 59) (L' := [(0, .ref 41), (1, .int X1), (2, .int X2)]) H hq (z_at.mk 3 rfl rfl) rfl rfl rfl rfl ?_
        refine r_p hq 1 (pc' := 60) (L' := [(0, .ref 41), (1, .int X1), (2, .int X2)]) (st' := [.int X1, .ref 43]) rfl ?_
        obtain ⟨g_60, h⟩ := z_ifo_some h
        refine r_ia (pc' := 61) (L' := [(0, .ref 41), (1, .int X1), (2, .int X2)]) H hq (z_at.mk 1 rfl rfl) (show zAr 43 0 60 = true from rfl) hx1 g_60 rfl rfl ?_
        intro V_60 hV_60
        refine r_p hq 1 (pc' := 62) (L' := [(0, .ref 41), (1, .int X1), (2, .int X2)]) (st' := [.long V_60.toInt64]) rfl ?_
        cases h
        exact r_rl hq (z_at.mk 1 rfl rfl) rfl (tx_i2l hV_60) rfl H
      have hx_13 : X2.toInt = x2 := hx2
      refine r_sw (off := 50) (pc' := 63) (L' := [(0, .ref 41), (1, .int X1), (2, .int X2)]) hq (z_at.mk 27 rfl rfl) (z_off_out (by omega)) rfl rfl rfl ?_
      refine r_p hq 2 (pc' := 65) (L' := [(0, .ref 41), (1, .int X1), (2, .int X2)]) (st' := [.long X1.toInt64]) rfl ?_
      cases h
      exact r_rl hq (z_at.mk 1 rfl rfl) rfl (tx_i2l hx1) rfl H
    · refine r_f2 (pc' := 10) (L' := []) hq (z_at.mk 3 rfl rfl) rfl hx1 (rfl : (60 : Int32).toInt = 60) c_7 rfl rfl ?_
      refine r_p hq 1 (pc' := 11) (L' := []) (st' := [.long ((0 : Int64))]) rfl ?_
      cases h
      exact r_rl hq (z_at.mk 1 rfl rfl) rfl (rfl : (0 : Int64).toInt = 0) rfl H
def g_jLong_compare (y0 : Int) (y2 : Int) (σ : zS) : Option (Int × zS) :=
  if 0 ≤ lCmp y0 y2 then
    if lCmp y0 y2 ≠ 0 then
      some (1, σ)
    else
      some (0, σ)
  else
    some (-1, σ)
set_option maxHeartbeats 4000000 in
theorem g_jLong_compare_ok {xl : Nat} {xs : Nat → Int32} {Y0 : Int64} {y0 : Int} (hy0 : Y0.toInt = y0) {Y2 : Int64} {y2 : Int} (hy2 : Y2.toInt = y2) {σ : zS} {p : Nat} {m : zM} {o : Int × zS} (H : zRep xl xs p m σ) (h : g_jLong_compare y0 y2 σ = some o) : zGo xl xs (fun p' => p = p') 1 286 0 (z_can 286 0 (lv_args 0 [.long Y0, .long Y2])) [] m (vI o.1) o.2 := by
  have hq : z_mth 286 = some z_r286 := rfl
  unfold g_jLong_compare at h
  show zGo xl xs (fun p' => p = p') 1 286 0 [(0, .long Y0), (2, .long Y2)] [] m (vI o.1) o.2
  refine r_p hq 3 (pc' := 3) (L' := [(0, .long Y0), (2, .long Y2)]) (st' := [.int (lg_cmp Y0 Y2)]) rfl ?_
  rcases z_ite h with ⟨c_3, h⟩ | ⟨c_3, h⟩
  · refine r_t1 (pc' := 10) (L' := [(0, .long Y0), (2, .long Y2)]) hq (z_at.mk 3 rfl rfl) rfl (tx_lcmp hy0 hy2) c_3 rfl rfl ?_
    refine r_p hq 3 (pc' := 13) (L' := [(0, .long Y0), (2, .long Y2)]) (st' := [.int (lg_cmp Y0 Y2)]) rfl ?_
    rcases z_ite h with ⟨c_13, h⟩ | ⟨c_13, h⟩
    · refine r_t1 (pc' := 20) (L' := [(0, .long Y0), (2, .long Y2)]) hq (z_at.mk 3 rfl rfl) rfl (tx_lcmp hy0 hy2) c_13 rfl rfl ?_
      refine r_p hq 1 (pc' := 21) (L' := []) (st' := [.int ((1 : Int32))]) rfl ?_
      cases h
      exact r_ri hq (z_at.mk 1 rfl rfl) rfl rfl (rfl : (1 : Int32).toInt = 1) rfl H
    · refine r_f1 (pc' := 16) (L' := [(0, .long Y0), (2, .long Y2)]) hq (z_at.mk 3 rfl rfl) rfl (tx_lcmp hy0 hy2) c_13 rfl rfl ?_
      refine r_p hq 2 (pc' := 21) (L' := []) (st' := [.int ((0 : Int32))]) rfl ?_
      cases h
      exact r_ri hq (z_at.mk 1 rfl rfl) rfl rfl (rfl : (0 : Int32).toInt = 0) rfl H
  · refine r_f1 (pc' := 6) (L' := [(0, .long Y0), (2, .long Y2)]) hq (z_at.mk 3 rfl rfl) rfl (tx_lcmp hy0 hy2) c_3 rfl rfl ?_
    refine r_p hq 2 (pc' := 21) (L' := []) (st' := [.int ((-1 : Int32))]) rfl ?_
    cases h
    exact r_ri hq (z_at.mk 1 rfl rfl) rfl rfl (rfl : (-1 : Int32).toInt = -1) rfl H
def g_so_rowsWith_L51 (g6 : Int → Int → Int → Int → Int → zS → Option (Int × zS)) (x1 : Int) (x2 : Int) (x3 : Int) (y4 : Int) (x6 : Int) (σ : zS) : Option (Int × zS) :=
  g6 x1 x2 x3 y4 (w32 (x6 + 1)) σ
set_option maxHeartbeats 4000000 in
theorem g_so_rowsWith_L51_ok {xl : Nat} {xs : Nat → Int32} {g6 : Int → Int → Int → Int → Int → zS → Option (Int × zS)} (hg6 : ∀ {X1 : Int32} {x1 : Int} {X2 : Int32} {x2 : Int} {X3 : Int32} {x3 : Int} {Y4 : Int64} {y4 : Int} {X6 : Int32} {x6 : Int} {σ : zS} {p : Nat} {m : zM} {o : Int × zS}, X1.toInt = x1 → X2.toInt = x2 → X3.toInt = x3 → Y4.toInt = y4 → X6.toInt = x6 → zRep xl xs p m σ → g6 x1 x2 x3 y4 x6 σ = some o → zGo xl xs (fun p' => p = p') 2 87 6 [(0, .ref 41), (1, .int X1), (2, .int X2), (3, .int X3), (4, .long Y4), (6, .int X6)] [] m (vL o.1) o.2) {X1 : Int32} {x1 : Int} (hx1 : X1.toInt = x1) {X2 : Int32} {x2 : Int} (hx2 : X2.toInt = x2) {X3 : Int32} {x3 : Int} (hx3 : X3.toInt = x3) {Y4 : Int64} {y4 : Int} (hy4 : Y4.toInt = y4) {X6 : Int32} {x6 : Int} (hx6 : X6.toInt = x6) {σ : zS} {p : Nat} {m : zM} {o : Int × zS} (H : zRep xl xs p m σ) (h : g_so_rowsWith_L51 g6 x1 x2 x3 y4 x6 σ = some o) : zGo xl xs (fun p' => p = p') 2 87 51 [(0, .ref 41), (1, .int X1), (2, .int X2), (3, .int X3), (4, .long Y4), (6, .int X6)] [] m (vL o.1) o.2 := by
  have hq : z_mth 87 = some z_r87 := rfl
  unfold g_so_rowsWith_L51 at h
  refine r_p hq 2 (pc' := 6) (L' := [(0, .ref 41), (1, .int X1), (2, .int X2), (3, .int X3), (4, .long Y4), (6, .int (X6 + (1 : Int32)))]) (st' := []) rfl ?_
  exact hg6 hx1 hx2 hx3 hy4 (tx_iadd hx6 (rfl : (1 : Int32).toInt = 1)) H h
def g_so_rowsWith_L6 : Nat → Int → Int → Int → Int → Int → zS → Option (Int × zS)
  | 0, _, _, _, _, _, _ => none
  | n + 1, x1, x2, x3, y4, x6, σ =>
    let v_9 := σ 41 4
    if v_9 ≤ x6 then
      some (y4, σ)
    else
      if 0 ≤ x6 ∧ x6 < 60 then
      let v_21 := σ 45 x6
      (g_so_read v_21 x1 σ).bind fun o_29 =>
      (g_jLong_compare o_29.1 x3 o_29.2).bind fun o_34 =>
      if w32 (1 + o_34.1) ≠ x2 then
        g_so_rowsWith_L51 ((g_so_rowsWith_L6 n)) x1 x2 x3 y4 x6 o_34.2
      else
        g_so_rowsWith_L51 ((g_so_rowsWith_L6 n)) x1 x2 x3 (lOr y4 (lShl 1 v_21)) x6 o_34.2
      else none
set_option maxHeartbeats 4000000 in
theorem g_so_rowsWith_L6_ok {xl : Nat} {xs : Nat → Int32} : ∀ (n : Nat) {X1 : Int32} {x1 : Int} {X2 : Int32} {x2 : Int} {X3 : Int32} {x3 : Int} {Y4 : Int64} {y4 : Int} {X6 : Int32} {x6 : Int} {σ : zS} {p : Nat} {m : zM} {o : Int × zS}, X1.toInt = x1 → X2.toInt = x2 → X3.toInt = x3 → Y4.toInt = y4 → X6.toInt = x6 → zRep xl xs p m σ → g_so_rowsWith_L6 n x1 x2 x3 y4 x6 σ = some o → zGo xl xs (fun p' => p = p') 2 87 6 [(0, .ref 41), (1, .int X1), (2, .int X2), (3, .int X3), (4, .long Y4), (6, .int X6)] [] m (vL o.1) o.2
  | 0, _, _, _, _, _, _, _, _, _, _, _, _, _, _, _, _, _, _, _, _, h => by cases h
  | n + 1, X1, x1, X2, x2, X3, x3, Y4, y4, X6, x6, σ, p, m, o, hx1, hx2, hx3, hy4, hx6, H, h => by
    have hq : z_mth 87 = some z_r87 := rfl
    have ih := fun {X1 : Int32} {x1 : Int} {X2 : Int32} {x2 : Int} {X3 : Int32} {x3 : Int} {Y4 : Int64} {y4 : Int} {X6 : Int32} {x6 : Int} {σ : zS} {p : Nat} {m : zM} {o : Int × zS} => g_so_rowsWith_L6_ok (xl := xl) (xs := xs) n (X1 := X1) (x1 := x1) (X2 := X2) (x2 := x2) (X3 := X3) (x3 := x3) (Y4 := Y4) (y4 := y4) (X6 := X6) (x6 := x6) (σ := σ) (p := p) (m := m) (o := o)
    unfold g_so_rowsWith_L6 at h
    refine r_p hq 2 (pc' := 9) (L' := [(0, .ref 41), (1, .int X1), (2, .int X2), (3, .int X3), (4, .long Y4), (6, .int X6)]) (st' := [.ref 41, .int X6]) rfl ?_
    refine r_gI (pc' := 12) (L' := [(0, .ref 41), (1, .int X1), (2, .int X2), (3, .int X3), (4, .long Y4), (6, .int X6)]) H hq (z_at.mk 3 rfl rfl) rfl rfl rfl rfl ?_
    intro V_9 hV_9
    rcases z_ite h with ⟨c_12, h⟩ | ⟨c_12, h⟩
    · refine r_t2 (pc' := 57) (L' := [(0, .ref 41), (1, .int X1), (2, .int X2), (3, .int X3), (4, .long Y4), (6, .int X6)]) hq (z_at.mk 3 rfl rfl) rfl hx6 hV_9 c_12 rfl rfl ?_
      refine r_p hq 1 (pc' := 59) (L' := [(0, .ref 41), (1, .int X1), (2, .int X2), (3, .int X3), (4, .long Y4), (6, .int X6)]) (st' := [.long Y4]) rfl ?_
      cases h
      exact r_rl hq (z_at.mk 1 rfl rfl) rfl hy4 rfl H
    · refine r_f2 (pc' := 15) (L' := [(0, .ref 41), (1, .int X1), (2, .int X2), (3, .int X3), (4, .long Y4), (6, .int X6)]) hq (z_at.mk 3 rfl rfl) rfl hx6 hV_9 c_12 rfl rfl ?_
      refine r_p hq 1 (pc' := 16) (L' := [(0, .ref 41), (1, .int X1), (2, .int X2), (3, .int X3), (4, .long Y4), (6, .int X6)]) (st' := [.ref 41]) rfl ?_
      refine r_gR (b := 45) (pc' := 19) (L' := [(0, .ref 41), (1, .int X1), (2, .int X2), (3, .int X3), (4, .long Y4), (6, .int X6)]) H hq (z_at.mk 3 rfl rfl) rfl rfl rfl rfl ?_
      refine r_p hq 1 (pc' := 21) (L' := [(0, .ref 41), (1, .int X1), (2, .int X2), (3, .int X3), (4, .long Y4), (6, .int X6)]) (st' := [.int X6, .ref 45]) rfl ?_
      obtain ⟨g_21, h⟩ := z_ifo_some h
      refine r_ia (pc' := 22) (L' := [(0, .ref 41), (1, .int X1), (2, .int X2), (3, .int X3), (4, .long Y4), (6, .int X6)]) H hq (z_at.mk 1 rfl rfl) (show zAr 45 0 60 = true from rfl) hx6 g_21 rfl rfl ?_
      intro V_21 hV_21
      refine r_p hq 5 (pc' := 29) (L' := [(7, .int V_21), (0, .ref 41), (1, .int X1), (2, .int X2), (3, .int X3), (4, .long Y4), (6, .int X6)]) (st' := [.int X1, .int V_21, .ref 41, .int ((1 : Int32))]) rfl ?_
      obtain ⟨o_29, h_29, h⟩ := Option.bind_eq_some_iff.mp h
      refine r_cvL (pc' := 32) (L' := [(7, .int V_21), (0, .ref 41), (1, .int X1), (2, .int X2), (3, .int X3), (4, .long Y4), (6, .int X6)]) (Ps := [.int V_21, .int X1]) (rest := [.int ((1 : Int32))]) hq (z_at.mk 3 rfl rfl) (Or.inl ⟨rfl, rfl⟩) rfl rfl (by decide) (by decide) rfl (Nat.not_lt.mpr (Nat.le_of_ble_eq_true rfl)) rfl rfl (z_cat_le 1 rfl (by decide)) (z_lgl_le 3 rfl (by decide)) (by decide) (H.tg rfl) (by omega) (g_so_read_ok hV_21 hx1 H h_29) rfl rfl ?_
      intro R_29 m_29 p_29 e_29 hR_29 H_29
      subst e_29
      refine r_p hq 2 (pc' := 34) (L' := [(7, .int V_21), (0, .ref 41), (1, .int X1), (2, .int X2), (3, .int X3), (4, .long Y4), (6, .int X6)]) (st' := [.long X3.toInt64, .long R_29, .int ((1 : Int32))]) rfl ?_
      obtain ⟨o_34, h_34, h⟩ := Option.bind_eq_some_iff.mp h
      refine r_csI (pc' := 37) (L' := [(7, .int V_21), (0, .ref 41), (1, .int X1), (2, .int X2), (3, .int X3), (4, .long Y4), (6, .int X6)]) (As := [.long R_29, .long X3.toInt64]) (rest := [.int ((1 : Int32))]) (j := 286) hq (z_at.mk 3 rfl rfl) (Or.inl ⟨rfl, rfl⟩) rfl rfl (by omega) (g_jLong_compare_ok hR_29 (tx_i2l hx3) H_29 h_34) rfl rfl ?_
      intro R_34 m_34 p_34 e_34 hR_34 H_34
      subst e_34
      refine r_p hq 2 (pc' := 39) (L' := [(7, .int V_21), (0, .ref 41), (1, .int X1), (2, .int X2), (3, .int X3), (4, .long Y4), (6, .int X6)]) (st' := [.int X2, .int (((1 : Int32)) + R_34)]) rfl ?_
      rcases z_ite h with ⟨c_39, h⟩ | ⟨c_39, h⟩
      · refine r_t2 (pc' := 51) (L' := [(0, .ref 41), (1, .int X1), (2, .int X2), (3, .int X3), (4, .long Y4), (6, .int X6)]) hq (z_at.mk 3 rfl rfl) rfl (tx_iadd (rfl : (1 : Int32).toInt = 1) hR_34) hx2 c_39 rfl rfl ?_
        exact g_so_rowsWith_L51_ok ih hx1 hx2 hx3 hy4 hx6 H_34 h
      · refine r_f2 (pc' := 42) (L' := [(7, .int V_21), (0, .ref 41), (1, .int X1), (2, .int X2), (3, .int X3), (4, .long Y4), (6, .int X6)]) hq (z_at.mk 3 rfl rfl) rfl (tx_iadd (rfl : (1 : Int32).toInt = 1) hR_34) hx2 c_39 rfl rfl ?_
        refine r_p hq 6 (pc' := 51) (L' := [(0, .ref 41), (1, .int X1), (2, .int X2), (3, .int X3), (4, .long (Y4 ||| (((1 : Int64)) <<< (V_21.toInt64 &&& 63)))), (6, .int X6)]) (st' := []) rfl ?_
        exact g_so_rowsWith_L51_ok ih hx1 hx2 hx3 (tx_lor hy4 (tx_lshl (rfl : (1 : Int64).toInt = 1) hV_21)) hx6 H_34 h
def g_so_rowsWith (x1 : Int) (x2 : Int) (x3 : Int) (σ : zS) : Option (Int × zS) :=
  g_so_rowsWith_L6 zK x1 x2 x3 0 0 σ
set_option maxHeartbeats 4000000 in
theorem g_so_rowsWith_ok {xl : Nat} {xs : Nat → Int32} {X1 : Int32} {x1 : Int} (hx1 : X1.toInt = x1) {X2 : Int32} {x2 : Int} (hx2 : X2.toInt = x2) {X3 : Int32} {x3 : Int} (hx3 : X3.toInt = x3) {σ : zS} {p : Nat} {m : zM} {o : Int × zS} (H : zRep xl xs p m σ) (h : g_so_rowsWith x1 x2 x3 σ = some o) : zGo xl xs (fun p' => p = p') 2 87 0 (z_can 87 0 (lv_args 0 [.ref 41, .int X1, .int X2, .int X3])) [] m (vL o.1) o.2 := by
  have hq : z_mth 87 = some z_r87 := rfl
  unfold g_so_rowsWith at h
  show zGo xl xs (fun p' => p = p') 2 87 0 [(0, .ref 41), (1, .int X1), (2, .int X2), (3, .int X3)] [] m (vL o.1) o.2
  refine r_p hq 4 (pc' := 6) (L' := [(0, .ref 41), (1, .int X1), (2, .int X2), (3, .int X3), (4, .long ((0 : Int64))), (6, .int ((0 : Int32)))]) (st' := []) rfl ?_
  exact g_so_rowsWith_L6_ok zK hx1 hx2 hx3 (rfl : (0 : Int64).toInt = 0) (rfl : (0 : Int32).toInt = 0) H h
def g_qu_either_L9 (rec : Nat → Int → zS → Option (Int × zS)) : Nat → Int → Int → Int → zS → Option (Int × zS)
  | 0, _, _, _, _ => none
  | n + 1, x1, y2, x4, σ =>
    if 160 ≤ x4 then
      some (y2, σ)
    else
      (g_ta_takes 124 σ).bind fun o_23 =>
      if o_23.1 = 0 then
        some (y2, o_23.2)
      else
        (rec 69 x1 o_23.2).bind fun o_32 =>
        (g_qu_either_L9 rec n) x1 (lOr y2 o_32.1) (w32 (x4 + 1)) o_32.2
set_option maxHeartbeats 4000000 in
theorem g_qu_either_L9_ok {xl : Nat} {xs : Nat → Int32} {dr : Nat} (hdr : 6 ≤ dr) {rec : Nat → Int → zS → Option (Int × zS)} (hrec : ∀ j, j ∈ [68, 69, 70] → ∀ {X1 : Int32} {x1 : Int} {σ : zS} {p : Nat} {m : zM} {o : Int × zS}, X1.toInt = x1 → zRep xl xs p m σ → rec j x1 σ = some o → zGo xl xs (fun p' => p = p') dr j 0 (z_can j 0 (lv_args 0 [.ref 122, .int X1])) [] m (vL o.1) o.2) : ∀ (n : Nat) {X1 : Int32} {x1 : Int} {Y2 : Int64} {y2 : Int} {X4 : Int32} {x4 : Int} {σ : zS} {p : Nat} {m : zM} {o : Int × zS}, X1.toInt = x1 → Y2.toInt = y2 → X4.toInt = x4 → zRep xl xs p m σ → g_qu_either_L9 rec n x1 y2 x4 σ = some o → zGo xl xs (fun p' => p = p') (dr + 1) 68 9 [(0, .ref 122), (1, .int X1), (2, .long Y2), (4, .int X4)] [] m (vL o.1) o.2
  | 0, _, _, _, _, _, _, _, _, _, _, _, _, _, _, h => by cases h
  | n + 1, X1, x1, Y2, y2, X4, x4, σ, p, m, o, hx1, hy2, hx4, H, h => by
    have hq : z_mth 68 = some z_r68 := rfl
    have ih := fun {X1 : Int32} {x1 : Int} {Y2 : Int64} {y2 : Int} {X4 : Int32} {x4 : Int} {σ : zS} {p : Nat} {m : zM} {o : Int × zS} => g_qu_either_L9_ok (xl := xl) (xs := xs) hdr hrec n (X1 := X1) (x1 := x1) (Y2 := Y2) (y2 := y2) (X4 := X4) (x4 := x4) (σ := σ) (p := p) (m := m) (o := o)
    unfold g_qu_either_L9 at h
    refine r_p hq 2 (pc' := 14) (L' := [(0, .ref 122), (1, .int X1), (2, .long Y2), (4, .int X4)]) (st' := [.int ((160 : Int32)), .int X4]) rfl ?_
    rcases z_ite h with ⟨c_14, h⟩ | ⟨c_14, h⟩
    · refine r_t2 (pc' := 43) (L' := [(2, .long Y2)]) hq (z_at.mk 3 rfl rfl) rfl hx4 (rfl : (160 : Int32).toInt = 160) c_14 rfl rfl ?_
      refine r_p hq 1 (pc' := 44) (L' := [(2, .long Y2)]) (st' := [.long Y2]) rfl ?_
      cases h
      exact r_rl hq (z_at.mk 1 rfl rfl) rfl hy2 rfl H
    · refine r_f2 (pc' := 17) (L' := [(0, .ref 122), (1, .int X1), (2, .long Y2), (4, .int X4)]) hq (z_at.mk 3 rfl rfl) rfl hx4 (rfl : (160 : Int32).toInt = 160) c_14 rfl rfl ?_
      refine r_p hq 1 (pc' := 18) (L' := [(0, .ref 122), (1, .int X1), (2, .long Y2), (4, .int X4)]) (st' := [.ref 122]) rfl ?_
      refine r_gR (b := 120) (pc' := 21) (L' := [(0, .ref 122), (1, .int X1), (2, .long Y2), (4, .int X4)]) H hq (z_at.mk 3 rfl rfl) rfl rfl rfl rfl ?_
      refine r_p hq 1 (pc' := 23) (L' := [(0, .ref 122), (1, .int X1), (2, .long Y2), (4, .int X4)]) (st' := [.int ((124 : Int32)), .ref 120]) rfl ?_
      obtain ⟨o_23, h_23, h⟩ := Option.bind_eq_some_iff.mp h
      refine r_cvI (pc' := 26) (L' := [(0, .ref 122), (1, .int X1), (2, .long Y2), (4, .int X4)]) (Ps := [.int ((124 : Int32))]) (rest := []) hq (z_at.mk 3 rfl rfl) (Or.inl ⟨rfl, rfl⟩) rfl rfl (by decide) (by decide) rfl (Nat.not_lt.mpr (Nat.le_of_ble_eq_true rfl)) rfl rfl (z_cat_le 0 rfl (by decide)) (z_lgl_le 2 rfl (by decide)) (by decide) (H.tg rfl) (by omega) (g_ta_takes_ok (rfl : (124 : Int32).toInt = 124) H h_23) rfl rfl ?_
      intro R_23 m_23 p_23 e_23 hR_23 H_23
      subst e_23
      rcases z_ite h with ⟨c_26, h⟩ | ⟨c_26, h⟩
      · refine r_t1 (pc' := 43) (L' := [(2, .long Y2)]) hq (z_at.mk 3 rfl rfl) rfl hR_23 c_26 rfl rfl ?_
        refine r_p hq 1 (pc' := 44) (L' := [(2, .long Y2)]) (st' := [.long Y2]) rfl ?_
        cases h
        exact r_rl hq (z_at.mk 1 rfl rfl) rfl hy2 rfl H_23
      · refine r_f1 (pc' := 29) (L' := [(0, .ref 122), (1, .int X1), (2, .long Y2), (4, .int X4)]) hq (z_at.mk 3 rfl rfl) rfl hR_23 c_26 rfl rfl ?_
        refine r_p hq 3 (pc' := 32) (L' := [(0, .ref 122), (1, .int X1), (2, .long Y2), (4, .int X4)]) (st' := [.int X1, .ref 122, .long Y2]) rfl ?_
        obtain ⟨o_32, h_32, h⟩ := Option.bind_eq_some_iff.mp h
        refine r_cvL (pc' := 35) (L' := [(0, .ref 122), (1, .int X1), (2, .long Y2), (4, .int X4)]) (Ps := [.int X1]) (rest := [.long Y2]) hq (z_at.mk 3 rfl rfl) (Or.inl ⟨rfl, rfl⟩) rfl rfl (by decide) (by decide) rfl (Nat.not_lt.mpr (Nat.le_of_ble_eq_true rfl)) rfl rfl (z_cat_le 2 rfl (by decide)) (z_lgl_le 2 rfl (by decide)) (by decide) (H_23.tg rfl) (by omega) (hrec 69 (by simp) hx1 H_23 h_32) rfl rfl ?_
        intro R_32 m_32 p_32 e_32 hR_32 H_32
        subst e_32
        refine r_p hq 4 (pc' := 9) (L' := [(0, .ref 122), (1, .int X1), (2, .long (Y2 ||| R_32)), (4, .int (X4 + (1 : Int32)))]) (st' := []) rfl ?_
        exact ih hx1 (tx_lor hy2 hR_32) (tx_iadd hx4 (rfl : (1 : Int32).toInt = 1)) H_32 h
def g_qu_either (rec : Nat → Int → zS → Option (Int × zS)) (x1 : Int) (σ : zS) : Option (Int × zS) :=
  (rec 69 x1 σ).bind fun o_2 =>
  g_qu_either_L9 rec zK x1 o_2.1 0 o_2.2
set_option maxHeartbeats 4000000 in
theorem g_qu_either_ok {xl : Nat} {xs : Nat → Int32} {dr : Nat} (hdr : 6 ≤ dr) {rec : Nat → Int → zS → Option (Int × zS)} (hrec : ∀ j, j ∈ [68, 69, 70] → ∀ {X1 : Int32} {x1 : Int} {σ : zS} {p : Nat} {m : zM} {o : Int × zS}, X1.toInt = x1 → zRep xl xs p m σ → rec j x1 σ = some o → zGo xl xs (fun p' => p = p') dr j 0 (z_can j 0 (lv_args 0 [.ref 122, .int X1])) [] m (vL o.1) o.2) {X1 : Int32} {x1 : Int} (hx1 : X1.toInt = x1) {σ : zS} {p : Nat} {m : zM} {o : Int × zS} (H : zRep xl xs p m σ) (h : g_qu_either rec x1 σ = some o) : zGo xl xs (fun p' => p = p') (dr + 1) 68 0 (z_can 68 0 (lv_args 0 [.ref 122, .int X1])) [] m (vL o.1) o.2 := by
  have hq : z_mth 68 = some z_r68 := rfl
  unfold g_qu_either at h
  show zGo xl xs (fun p' => p = p') (dr + 1) 68 0 [(0, .ref 122), (1, .int X1)] [] m (vL o.1) o.2
  refine r_p hq 2 (pc' := 2) (L' := [(0, .ref 122), (1, .int X1)]) (st' := [.int X1, .ref 122]) rfl ?_
  obtain ⟨o_2, h_2, h⟩ := Option.bind_eq_some_iff.mp h
  refine r_cvL (pc' := 5) (L' := [(0, .ref 122), (1, .int X1)]) (Ps := [.int X1]) (rest := []) hq (z_at.mk 3 rfl rfl) (Or.inl ⟨rfl, rfl⟩) rfl rfl (by decide) (by decide) rfl (Nat.not_lt.mpr (Nat.le_of_ble_eq_true rfl)) rfl rfl (z_cat_le 0 rfl (by decide)) (z_lgl_le 2 rfl (by decide)) (by decide) (H.tg rfl) (by omega) (hrec 69 (by simp) hx1 H h_2) rfl rfl ?_
  intro R_2 m_2 p_2 e_2 hR_2 H_2
  subst e_2
  refine r_p hq 3 (pc' := 9) (L' := [(0, .ref 122), (1, .int X1), (2, .long R_2), (4, .int ((0 : Int32)))]) (st' := []) rfl ?_
  exact g_qu_either_L9_ok hdr hrec zK hx1 hR_2 (rfl : (0 : Int32).toInt = 0) H_2 h
def g_qu_both_L9 (rec : Nat → Int → zS → Option (Int × zS)) : Nat → Int → Int → Int → zS → Option (Int × zS)
  | 0, _, _, _, _ => none
  | n + 1, x1, y2, x4, σ =>
    if 160 ≤ x4 then
      some (y2, σ)
    else
      (g_ta_takes 38 σ).bind fun o_23 =>
      if o_23.1 = 0 then
        some (y2, o_23.2)
      else
        (rec 70 x1 o_23.2).bind fun o_32 =>
        (g_qu_both_L9 rec n) x1 (lAnd y2 o_32.1) (w32 (x4 + 1)) o_32.2
set_option maxHeartbeats 4000000 in
theorem g_qu_both_L9_ok {xl : Nat} {xs : Nat → Int32} {dr : Nat} (hdr : 6 ≤ dr) {rec : Nat → Int → zS → Option (Int × zS)} (hrec : ∀ j, j ∈ [68, 69, 70] → ∀ {X1 : Int32} {x1 : Int} {σ : zS} {p : Nat} {m : zM} {o : Int × zS}, X1.toInt = x1 → zRep xl xs p m σ → rec j x1 σ = some o → zGo xl xs (fun p' => p = p') dr j 0 (z_can j 0 (lv_args 0 [.ref 122, .int X1])) [] m (vL o.1) o.2) : ∀ (n : Nat) {X1 : Int32} {x1 : Int} {Y2 : Int64} {y2 : Int} {X4 : Int32} {x4 : Int} {σ : zS} {p : Nat} {m : zM} {o : Int × zS}, X1.toInt = x1 → Y2.toInt = y2 → X4.toInt = x4 → zRep xl xs p m σ → g_qu_both_L9 rec n x1 y2 x4 σ = some o → zGo xl xs (fun p' => p = p') (dr + 1) 69 9 [(0, .ref 122), (1, .int X1), (2, .long Y2), (4, .int X4)] [] m (vL o.1) o.2
  | 0, _, _, _, _, _, _, _, _, _, _, _, _, _, _, h => by cases h
  | n + 1, X1, x1, Y2, y2, X4, x4, σ, p, m, o, hx1, hy2, hx4, H, h => by
    have hq : z_mth 69 = some z_r69 := rfl
    have ih := fun {X1 : Int32} {x1 : Int} {Y2 : Int64} {y2 : Int} {X4 : Int32} {x4 : Int} {σ : zS} {p : Nat} {m : zM} {o : Int × zS} => g_qu_both_L9_ok (xl := xl) (xs := xs) hdr hrec n (X1 := X1) (x1 := x1) (Y2 := Y2) (y2 := y2) (X4 := X4) (x4 := x4) (σ := σ) (p := p) (m := m) (o := o)
    unfold g_qu_both_L9 at h
    refine r_p hq 2 (pc' := 14) (L' := [(0, .ref 122), (1, .int X1), (2, .long Y2), (4, .int X4)]) (st' := [.int ((160 : Int32)), .int X4]) rfl ?_
    rcases z_ite h with ⟨c_14, h⟩ | ⟨c_14, h⟩
    · refine r_t2 (pc' := 43) (L' := [(2, .long Y2)]) hq (z_at.mk 3 rfl rfl) rfl hx4 (rfl : (160 : Int32).toInt = 160) c_14 rfl rfl ?_
      refine r_p hq 1 (pc' := 44) (L' := [(2, .long Y2)]) (st' := [.long Y2]) rfl ?_
      cases h
      exact r_rl hq (z_at.mk 1 rfl rfl) rfl hy2 rfl H
    · refine r_f2 (pc' := 17) (L' := [(0, .ref 122), (1, .int X1), (2, .long Y2), (4, .int X4)]) hq (z_at.mk 3 rfl rfl) rfl hx4 (rfl : (160 : Int32).toInt = 160) c_14 rfl rfl ?_
      refine r_p hq 1 (pc' := 18) (L' := [(0, .ref 122), (1, .int X1), (2, .long Y2), (4, .int X4)]) (st' := [.ref 122]) rfl ?_
      refine r_gR (b := 120) (pc' := 21) (L' := [(0, .ref 122), (1, .int X1), (2, .long Y2), (4, .int X4)]) H hq (z_at.mk 3 rfl rfl) rfl rfl rfl rfl ?_
      refine r_p hq 1 (pc' := 23) (L' := [(0, .ref 122), (1, .int X1), (2, .long Y2), (4, .int X4)]) (st' := [.int ((38 : Int32)), .ref 120]) rfl ?_
      obtain ⟨o_23, h_23, h⟩ := Option.bind_eq_some_iff.mp h
      refine r_cvI (pc' := 26) (L' := [(0, .ref 122), (1, .int X1), (2, .long Y2), (4, .int X4)]) (Ps := [.int ((38 : Int32))]) (rest := []) hq (z_at.mk 3 rfl rfl) (Or.inl ⟨rfl, rfl⟩) rfl rfl (by decide) (by decide) rfl (Nat.not_lt.mpr (Nat.le_of_ble_eq_true rfl)) rfl rfl (z_cat_le 0 rfl (by decide)) (z_lgl_le 2 rfl (by decide)) (by decide) (H.tg rfl) (by omega) (g_ta_takes_ok (rfl : (38 : Int32).toInt = 38) H h_23) rfl rfl ?_
      intro R_23 m_23 p_23 e_23 hR_23 H_23
      subst e_23
      rcases z_ite h with ⟨c_26, h⟩ | ⟨c_26, h⟩
      · refine r_t1 (pc' := 43) (L' := [(2, .long Y2)]) hq (z_at.mk 3 rfl rfl) rfl hR_23 c_26 rfl rfl ?_
        refine r_p hq 1 (pc' := 44) (L' := [(2, .long Y2)]) (st' := [.long Y2]) rfl ?_
        cases h
        exact r_rl hq (z_at.mk 1 rfl rfl) rfl hy2 rfl H_23
      · refine r_f1 (pc' := 29) (L' := [(0, .ref 122), (1, .int X1), (2, .long Y2), (4, .int X4)]) hq (z_at.mk 3 rfl rfl) rfl hR_23 c_26 rfl rfl ?_
        refine r_p hq 3 (pc' := 32) (L' := [(0, .ref 122), (1, .int X1), (2, .long Y2), (4, .int X4)]) (st' := [.int X1, .ref 122, .long Y2]) rfl ?_
        obtain ⟨o_32, h_32, h⟩ := Option.bind_eq_some_iff.mp h
        refine r_cvL (pc' := 35) (L' := [(0, .ref 122), (1, .int X1), (2, .long Y2), (4, .int X4)]) (Ps := [.int X1]) (rest := [.long Y2]) hq (z_at.mk 3 rfl rfl) (Or.inl ⟨rfl, rfl⟩) rfl rfl (by decide) (by decide) rfl (Nat.not_lt.mpr (Nat.le_of_ble_eq_true rfl)) rfl rfl (z_cat_le 2 rfl (by decide)) (z_lgl_le 2 rfl (by decide)) (by decide) (H_23.tg rfl) (by omega) (hrec 70 (by simp) hx1 H_23 h_32) rfl rfl ?_
        intro R_32 m_32 p_32 e_32 hR_32 H_32
        subst e_32
        refine r_p hq 4 (pc' := 9) (L' := [(0, .ref 122), (1, .int X1), (2, .long (Y2 &&& R_32)), (4, .int (X4 + (1 : Int32)))]) (st' := []) rfl ?_
        exact ih hx1 (tx_land hy2 hR_32) (tx_iadd hx4 (rfl : (1 : Int32).toInt = 1)) H_32 h
def g_qu_both (rec : Nat → Int → zS → Option (Int × zS)) (x1 : Int) (σ : zS) : Option (Int × zS) :=
  (rec 70 x1 σ).bind fun o_2 =>
  g_qu_both_L9 rec zK x1 o_2.1 0 o_2.2
set_option maxHeartbeats 4000000 in
theorem g_qu_both_ok {xl : Nat} {xs : Nat → Int32} {dr : Nat} (hdr : 6 ≤ dr) {rec : Nat → Int → zS → Option (Int × zS)} (hrec : ∀ j, j ∈ [68, 69, 70] → ∀ {X1 : Int32} {x1 : Int} {σ : zS} {p : Nat} {m : zM} {o : Int × zS}, X1.toInt = x1 → zRep xl xs p m σ → rec j x1 σ = some o → zGo xl xs (fun p' => p = p') dr j 0 (z_can j 0 (lv_args 0 [.ref 122, .int X1])) [] m (vL o.1) o.2) {X1 : Int32} {x1 : Int} (hx1 : X1.toInt = x1) {σ : zS} {p : Nat} {m : zM} {o : Int × zS} (H : zRep xl xs p m σ) (h : g_qu_both rec x1 σ = some o) : zGo xl xs (fun p' => p = p') (dr + 1) 69 0 (z_can 69 0 (lv_args 0 [.ref 122, .int X1])) [] m (vL o.1) o.2 := by
  have hq : z_mth 69 = some z_r69 := rfl
  unfold g_qu_both at h
  show zGo xl xs (fun p' => p = p') (dr + 1) 69 0 [(0, .ref 122), (1, .int X1)] [] m (vL o.1) o.2
  refine r_p hq 2 (pc' := 2) (L' := [(0, .ref 122), (1, .int X1)]) (st' := [.int X1, .ref 122]) rfl ?_
  obtain ⟨o_2, h_2, h⟩ := Option.bind_eq_some_iff.mp h
  refine r_cvL (pc' := 5) (L' := [(0, .ref 122), (1, .int X1)]) (Ps := [.int X1]) (rest := []) hq (z_at.mk 3 rfl rfl) (Or.inl ⟨rfl, rfl⟩) rfl rfl (by decide) (by decide) rfl (Nat.not_lt.mpr (Nat.le_of_ble_eq_true rfl)) rfl rfl (z_cat_le 0 rfl (by decide)) (z_lgl_le 2 rfl (by decide)) (by decide) (H.tg rfl) (by omega) (hrec 70 (by simp) hx1 H h_2) rfl rfl ?_
  intro R_2 m_2 p_2 e_2 hR_2 H_2
  subst e_2
  refine r_p hq 3 (pc' := 9) (L' := [(0, .ref 122), (1, .int X1), (2, .long R_2), (4, .int ((0 : Int32)))]) (st' := []) rfl ?_
  exact g_qu_both_L9_ok hdr hrec zK hx1 hR_2 (rfl : (0 : Int32).toInt = 0) H_2 h
def g_qu_single_L129 (rec : Nat → Int → zS → Option (Int × zS)) (xs0 : Int) (xs1 : Int) (xs2 : Int) (σ : zS) : Option (Int × zS) :=
  (g_so_rowsWith xs2 xs1 xs0 σ).bind fun o_129 =>
  some (o_129.1, o_129.2)
set_option maxHeartbeats 4000000 in
theorem g_qu_single_L129_ok {xl : Nat} {xs : Nat → Int32} {dr : Nat} (hdr : 6 ≤ dr) {rec : Nat → Int → zS → Option (Int × zS)} (hrec : ∀ j, j ∈ [68, 69, 70] → ∀ {X1 : Int32} {x1 : Int} {σ : zS} {p : Nat} {m : zM} {o : Int × zS}, X1.toInt = x1 → zRep xl xs p m σ → rec j x1 σ = some o → zGo xl xs (fun p' => p = p') dr j 0 (z_can j 0 (lv_args 0 [.ref 122, .int X1])) [] m (vL o.1) o.2) {Xs0 : Int32} {xs0 : Int} (hxs0 : Xs0.toInt = xs0) {Xs1 : Int32} {xs1 : Int} (hxs1 : Xs1.toInt = xs1) {Xs2 : Int32} {xs2 : Int} (hxs2 : Xs2.toInt = xs2) {σ : zS} {p : Nat} {m : zM} {o : Int × zS} (H : zRep xl xs p m σ) (h : g_qu_single_L129 rec xs0 xs1 xs2 σ = some o) : zGo xl xs (fun p' => p = p') (dr + 1) 70 129 [] [.int Xs0, .int Xs1, .int Xs2, .ref 41] m (vL o.1) o.2 := by
  have hq : z_mth 70 = some z_r70 := rfl
  unfold g_qu_single_L129 at h
  obtain ⟨o_129, h_129, h⟩ := Option.bind_eq_some_iff.mp h
  refine r_cvL (pc' := 132) (L' := []) (Ps := [.int Xs2, .int Xs1, .int Xs0]) (rest := []) hq (z_at.mk 3 rfl rfl) (Or.inl ⟨rfl, rfl⟩) rfl rfl (by decide) (by decide) rfl (Nat.not_lt.mpr (Nat.le_of_ble_eq_true rfl)) rfl rfl (z_cat_le 0 rfl (by decide)) (z_lgl_le 4 rfl (by decide)) (by decide) (H.tg rfl) (by omega) (g_so_rowsWith_ok hxs2 hxs1 hxs0 H h_129) rfl rfl ?_
  intro R_129 m_129 p_129 e_129 hR_129 H_129
  subst e_129
  cases h
  exact r_rl hq (z_at.mk 1 rfl rfl) rfl hR_129 rfl H_129
def g_qu_single_L65 (rec : Nat → Int → zS → Option (Int × zS)) (σ : zS) : Option (Int × zS) :=
  (g_ta_oneOf 6 σ).bind fun o_71 =>
  (g_ta_oneOf 7 o_71.2).bind fun o_81 =>
  (g_ta_takes 45 o_81.2).bind fun o_91 =>
  (g_ta_number 9 0 999999999 o_91.2).bind fun o_105 =>
  if o_91.1 = 0 then
    g_qu_single_L129 rec o_105.1 o_81.1 o_71.1 o_105.2
  else
    g_qu_single_L129 rec (w32 (-o_105.1)) o_81.1 o_71.1 o_105.2
set_option maxHeartbeats 4000000 in
theorem g_qu_single_L65_ok {xl : Nat} {xs : Nat → Int32} {dr : Nat} (hdr : 6 ≤ dr) {rec : Nat → Int → zS → Option (Int × zS)} (hrec : ∀ j, j ∈ [68, 69, 70] → ∀ {X1 : Int32} {x1 : Int} {σ : zS} {p : Nat} {m : zM} {o : Int × zS}, X1.toInt = x1 → zRep xl xs p m σ → rec j x1 σ = some o → zGo xl xs (fun p' => p = p') dr j 0 (z_can j 0 (lv_args 0 [.ref 122, .int X1])) [] m (vL o.1) o.2) {σ : zS} {p : Nat} {m : zM} {o : Int × zS} (H : zRep xl xs p m σ) (h : g_qu_single_L65 rec σ = some o) : zGo xl xs (fun p' => p = p') (dr + 1) 70 65 [(0, .ref 122)] [] m (vL o.1) o.2 := by
  have hq : z_mth 70 = some z_r70 := rfl
  unfold g_qu_single_L65 at h
  refine r_p hq 1 (pc' := 66) (L' := [(0, .ref 122)]) (st' := [.ref 122]) rfl ?_
  refine r_gR (b := 120) (pc' := 69) (L' := [(0, .ref 122)]) H hq (z_at.mk 3 rfl rfl) rfl rfl rfl rfl ?_
  refine r_p hq 1 (pc' := 71) (L' := [(0, .ref 122)]) (st' := [.ref 6, .ref 120]) rfl ?_
  obtain ⟨o_71, h_71, h⟩ := Option.bind_eq_some_iff.mp h
  refine r_cvI (pc' := 74) (L' := [(0, .ref 122)]) (Ps := [.ref 6]) (rest := []) hq (z_at.mk 3 rfl rfl) (Or.inl ⟨rfl, rfl⟩) rfl rfl (by decide) (by decide) rfl (Nat.not_lt.mpr (Nat.le_of_ble_eq_true rfl)) rfl rfl (z_cat_le 0 rfl (by decide)) (z_lgl_le 2 rfl (by decide)) (by decide) (H.tg rfl) (by omega) (g_ta_oneOf_ok rfl H h_71) rfl rfl ?_
  intro R_71 m_71 p_71 e_71 hR_71 H_71
  subst e_71
  refine r_p hq 2 (pc' := 76) (L' := [(2, .int R_71), (0, .ref 122)]) (st' := [.ref 122]) rfl ?_
  refine r_gR (b := 120) (pc' := 79) (L' := [(2, .int R_71), (0, .ref 122)]) H_71 hq (z_at.mk 3 rfl rfl) rfl rfl rfl rfl ?_
  refine r_p hq 1 (pc' := 81) (L' := [(2, .int R_71), (0, .ref 122)]) (st' := [.ref 7, .ref 120]) rfl ?_
  obtain ⟨o_81, h_81, h⟩ := Option.bind_eq_some_iff.mp h
  refine r_cvI (pc' := 84) (L' := [(2, .int R_71), (0, .ref 122)]) (Ps := [.ref 7]) (rest := []) hq (z_at.mk 3 rfl rfl) (Or.inl ⟨rfl, rfl⟩) rfl rfl (by decide) (by decide) rfl (Nat.not_lt.mpr (Nat.le_of_ble_eq_true rfl)) rfl rfl (z_cat_le 0 rfl (by decide)) (z_lgl_le 2 rfl (by decide)) (by decide) (H_71.tg rfl) (by omega) (g_ta_oneOf_ok rfl H_71 h_81) rfl rfl ?_
  intro R_81 m_81 p_81 e_81 hR_81 H_81
  subst e_81
  refine r_p hq 2 (pc' := 86) (L' := [(3, .int R_81), (2, .int R_71), (0, .ref 122)]) (st' := [.ref 122]) rfl ?_
  refine r_gR (b := 120) (pc' := 89) (L' := [(3, .int R_81), (2, .int R_71), (0, .ref 122)]) H_81 hq (z_at.mk 3 rfl rfl) rfl rfl rfl rfl ?_
  refine r_p hq 1 (pc' := 91) (L' := [(3, .int R_81), (2, .int R_71), (0, .ref 122)]) (st' := [.int ((45 : Int32)), .ref 120]) rfl ?_
  obtain ⟨o_91, h_91, h⟩ := Option.bind_eq_some_iff.mp h
  refine r_cvI (pc' := 94) (L' := [(3, .int R_81), (2, .int R_71), (0, .ref 122)]) (Ps := [.int ((45 : Int32))]) (rest := []) hq (z_at.mk 3 rfl rfl) (Or.inl ⟨rfl, rfl⟩) rfl rfl (by decide) (by decide) rfl (Nat.not_lt.mpr (Nat.le_of_ble_eq_true rfl)) rfl rfl (z_cat_le 0 rfl (by decide)) (z_lgl_le 2 rfl (by decide)) (by decide) (H_81.tg rfl) (by omega) (g_ta_takes_ok (rfl : (45 : Int32).toInt = 45) H_81 h_91) rfl rfl ?_
  intro R_91 m_91 p_91 e_91 hR_91 H_91
  subst e_91
  refine r_p hq 2 (pc' := 97) (L' := [(4, .int R_91), (3, .int R_81), (2, .int R_71), (0, .ref 122)]) (st' := [.ref 122]) rfl ?_
  refine r_gR (b := 120) (pc' := 100) (L' := [(4, .int R_91), (3, .int R_81), (2, .int R_71), (0, .ref 122)]) H_91 hq (z_at.mk 3 rfl rfl) rfl rfl rfl rfl ?_
  refine r_p hq 3 (pc' := 105) (L' := [(4, .int R_91), (3, .int R_81), (2, .int R_71), (0, .ref 122)]) (st' := [.int ((999999999 : Int32)), .int ((0 : Int32)), .int ((9 : Int32)), .ref 120]) rfl ?_
  obtain ⟨o_105, h_105, h⟩ := Option.bind_eq_some_iff.mp h
  refine r_cvI (pc' := 108) (L' := [(4, .int R_91), (3, .int R_81), (2, .int R_71), (0, .ref 122)]) (Ps := [.int ((9 : Int32)), .int ((0 : Int32)), .int ((999999999 : Int32))]) (rest := []) hq (z_at.mk 3 rfl rfl) (Or.inl ⟨rfl, rfl⟩) rfl rfl (by decide) (by decide) rfl (Nat.not_lt.mpr (Nat.le_of_ble_eq_true rfl)) rfl rfl (z_cat_le 0 rfl (by decide)) (z_lgl_le 4 rfl (by decide)) (by decide) (H_91.tg rfl) (by omega) (g_ta_number_ok (rfl : (9 : Int32).toInt = 9) (rfl : (0 : Int32).toInt = 0) (rfl : (999999999 : Int32).toInt = 999999999) H_91 h_105) rfl rfl ?_
  intro R_105 m_105 p_105 e_105 hR_105 H_105
  subst e_105
  refine r_p hq 2 (pc' := 111) (L' := [(5, .int R_105), (4, .int R_91), (3, .int R_81), (2, .int R_71), (0, .ref 122)]) (st' := [.ref 122]) rfl ?_
  refine r_gR (b := 41) (pc' := 114) (L' := [(5, .int R_105), (4, .int R_91), (3, .int R_81), (2, .int R_71), (0, .ref 122)]) H_105 hq (z_at.mk 3 rfl rfl) rfl rfl rfl rfl ?_
  refine r_p hq 3 (pc' := 118) (L' := [(5, .int R_105), (4, .int R_91), (3, .int R_81), (2, .int R_71), (0, .ref 122)]) (st' := [.int R_91, .int R_81, .int R_71, .ref 41]) rfl ?_
  rcases z_ite h with ⟨c_118, h⟩ | ⟨c_118, h⟩
  · refine r_t1 (pc' := 127) (L' := [(5, .int R_105), (4, .int R_91), (3, .int R_81), (2, .int R_71), (0, .ref 122)]) hq (z_at.mk 3 rfl rfl) rfl hR_91 c_118 rfl rfl ?_
    refine r_p hq 1 (pc' := 129) (L' := []) (st' := [.int R_105, .int R_81, .int R_71, .ref 41]) rfl ?_
    exact g_qu_single_L129_ok hdr hrec hR_105 hR_81 hR_71 H_105 h
  · refine r_f1 (pc' := 121) (L' := [(5, .int R_105), (4, .int R_91), (3, .int R_81), (2, .int R_71), (0, .ref 122)]) hq (z_at.mk 3 rfl rfl) rfl hR_91 c_118 rfl rfl ?_
    refine r_p hq 3 (pc' := 129) (L' := []) (st' := [.int (-R_105), .int R_81, .int R_71, .ref 41]) rfl ?_
    exact g_qu_single_L129_ok hdr hrec (tx_ineg hR_105) hR_81 hR_71 H_105 h
def g_qu_single_L29 (rec : Nat → Int → zS → Option (Int × zS)) (x1 : Int) (σ : zS) : Option (Int × zS) :=
  if 4 ≤ x1 then
    g_qu_single_L65 rec σ
  else
    (g_ta_takes 40 σ).bind fun o_40 =>
    if o_40.1 = 0 then
      g_qu_single_L65 rec o_40.2
    else
      (rec 68 (w32 (x1 + 1)) o_40.2).bind fun o_50 =>
      (g_ta_wants 41 o_50.2).bind fun o_60 =>
      some (o_50.1, o_60.2)
set_option maxHeartbeats 4000000 in
theorem g_qu_single_L29_ok {xl : Nat} {xs : Nat → Int32} {dr : Nat} (hdr : 6 ≤ dr) {rec : Nat → Int → zS → Option (Int × zS)} (hrec : ∀ j, j ∈ [68, 69, 70] → ∀ {X1 : Int32} {x1 : Int} {σ : zS} {p : Nat} {m : zM} {o : Int × zS}, X1.toInt = x1 → zRep xl xs p m σ → rec j x1 σ = some o → zGo xl xs (fun p' => p = p') dr j 0 (z_can j 0 (lv_args 0 [.ref 122, .int X1])) [] m (vL o.1) o.2) {X1 : Int32} {x1 : Int} (hx1 : X1.toInt = x1) {σ : zS} {p : Nat} {m : zM} {o : Int × zS} (H : zRep xl xs p m σ) (h : g_qu_single_L29 rec x1 σ = some o) : zGo xl xs (fun p' => p = p') (dr + 1) 70 29 [(0, .ref 122), (1, .int X1)] [] m (vL o.1) o.2 := by
  have hq : z_mth 70 = some z_r70 := rfl
  unfold g_qu_single_L29 at h
  refine r_p hq 2 (pc' := 31) (L' := [(0, .ref 122), (1, .int X1)]) (st' := [.int ((4 : Int32)), .int X1]) rfl ?_
  rcases z_ite h with ⟨c_31, h⟩ | ⟨c_31, h⟩
  · refine r_t2 (pc' := 65) (L' := [(0, .ref 122)]) hq (z_at.mk 3 rfl rfl) rfl hx1 (rfl : (4 : Int32).toInt = 4) c_31 rfl rfl ?_
    exact g_qu_single_L65_ok hdr hrec  H h
  · refine r_f2 (pc' := 34) (L' := [(0, .ref 122), (1, .int X1)]) hq (z_at.mk 3 rfl rfl) rfl hx1 (rfl : (4 : Int32).toInt = 4) c_31 rfl rfl ?_
    refine r_p hq 1 (pc' := 35) (L' := [(0, .ref 122), (1, .int X1)]) (st' := [.ref 122]) rfl ?_
    refine r_gR (b := 120) (pc' := 38) (L' := [(0, .ref 122), (1, .int X1)]) H hq (z_at.mk 3 rfl rfl) rfl rfl rfl rfl ?_
    refine r_p hq 1 (pc' := 40) (L' := [(0, .ref 122), (1, .int X1)]) (st' := [.int ((40 : Int32)), .ref 120]) rfl ?_
    obtain ⟨o_40, h_40, h⟩ := Option.bind_eq_some_iff.mp h
    refine r_cvI (pc' := 43) (L' := [(0, .ref 122), (1, .int X1)]) (Ps := [.int ((40 : Int32))]) (rest := []) hq (z_at.mk 3 rfl rfl) (Or.inl ⟨rfl, rfl⟩) rfl rfl (by decide) (by decide) rfl (Nat.not_lt.mpr (Nat.le_of_ble_eq_true rfl)) rfl rfl (z_cat_le 0 rfl (by decide)) (z_lgl_le 2 rfl (by decide)) (by decide) (H.tg rfl) (by omega) (g_ta_takes_ok (rfl : (40 : Int32).toInt = 40) H h_40) rfl rfl ?_
    intro R_40 m_40 p_40 e_40 hR_40 H_40
    subst e_40
    rcases z_ite h with ⟨c_43, h⟩ | ⟨c_43, h⟩
    · refine r_t1 (pc' := 65) (L' := [(0, .ref 122)]) hq (z_at.mk 3 rfl rfl) rfl hR_40 c_43 rfl rfl ?_
      exact g_qu_single_L65_ok hdr hrec  H_40 h
    · refine r_f1 (pc' := 46) (L' := [(0, .ref 122), (1, .int X1)]) hq (z_at.mk 3 rfl rfl) rfl hR_40 c_43 rfl rfl ?_
      refine r_p hq 4 (pc' := 50) (L' := [(0, .ref 122), (1, .int X1)]) (st' := [.int (X1 + ((1 : Int32))), .ref 122]) rfl ?_
      obtain ⟨o_50, h_50, h⟩ := Option.bind_eq_some_iff.mp h
      refine r_cvL (pc' := 53) (L' := [(0, .ref 122), (1, .int X1)]) (Ps := [.int (X1 + ((1 : Int32)))]) (rest := []) hq (z_at.mk 3 rfl rfl) (Or.inl ⟨rfl, rfl⟩) rfl rfl (by decide) (by decide) rfl (Nat.not_lt.mpr (Nat.le_of_ble_eq_true rfl)) rfl rfl (z_cat_le 0 rfl (by decide)) (z_lgl_le 2 rfl (by decide)) (by decide) (H_40.tg rfl) (by omega) (hrec 68 (by simp) (tx_iadd hx1 (rfl : (1 : Int32).toInt = 1)) H_40 h_50) rfl rfl ?_
      intro R_50 m_50 p_50 e_50 hR_50 H_50
      subst e_50
      refine r_p hq 2 (pc' := 55) (L' := [(2, .long R_50), (0, .ref 122), (1, .int X1)]) (st' := [.ref 122]) rfl ?_
      refine r_gR (b := 120) (pc' := 58) (L' := [(2, .long R_50), (0, .ref 122), (1, .int X1)]) H_50 hq (z_at.mk 3 rfl rfl) rfl rfl rfl rfl ?_
      refine r_p hq 1 (pc' := 60) (L' := [(2, .long R_50), (0, .ref 122), (1, .int X1)]) (st' := [.int ((41 : Int32)), .ref 120]) rfl ?_
      obtain ⟨o_60, h_60, h⟩ := Option.bind_eq_some_iff.mp h
      refine r_cvV (pc' := 63) (L' := [(2, .long R_50), (0, .ref 122), (1, .int X1)]) (Ps := [.int ((41 : Int32))]) (rest := []) hq (z_at.mk 3 rfl rfl) (Or.inl ⟨rfl, rfl⟩) rfl rfl (by decide) (by decide) rfl (Nat.not_lt.mpr (Nat.le_of_ble_eq_true rfl)) rfl rfl (z_cat_le 0 rfl (by decide)) (z_lgl_le 2 rfl (by decide)) (by decide) (H_50.tg rfl) (by omega) (g_ta_wants_ok (rfl : (41 : Int32).toInt = 41) H_50 h_60) rfl rfl ?_
      intro m_60 p_60 e_60 H_60
      subst e_60
      refine r_p hq 1 (pc' := 64) (L' := [(2, .long R_50), (0, .ref 122), (1, .int X1)]) (st' := [.long R_50]) rfl ?_
      cases h
      exact r_rl hq (z_at.mk 1 rfl rfl) rfl hR_50 rfl H_60
def g_qu_single (rec : Nat → Int → zS → Option (Int × zS)) (x1 : Int) (σ : zS) : Option (Int × zS) :=
  if 4 ≤ x1 then
    g_qu_single_L29 rec x1 σ
  else
    (g_ta_takes 33 σ).bind fun o_11 =>
    if o_11.1 = 0 then
      g_qu_single_L29 rec x1 o_11.2
    else
      (rec 70 (w32 (x1 + 1)) o_11.2).bind fun o_21 =>
      some (lXor o_21.1 (-1), o_21.2)
set_option maxHeartbeats 4000000 in
theorem g_qu_single_ok {xl : Nat} {xs : Nat → Int32} {dr : Nat} (hdr : 6 ≤ dr) {rec : Nat → Int → zS → Option (Int × zS)} (hrec : ∀ j, j ∈ [68, 69, 70] → ∀ {X1 : Int32} {x1 : Int} {σ : zS} {p : Nat} {m : zM} {o : Int × zS}, X1.toInt = x1 → zRep xl xs p m σ → rec j x1 σ = some o → zGo xl xs (fun p' => p = p') dr j 0 (z_can j 0 (lv_args 0 [.ref 122, .int X1])) [] m (vL o.1) o.2) {X1 : Int32} {x1 : Int} (hx1 : X1.toInt = x1) {σ : zS} {p : Nat} {m : zM} {o : Int × zS} (H : zRep xl xs p m σ) (h : g_qu_single rec x1 σ = some o) : zGo xl xs (fun p' => p = p') (dr + 1) 70 0 (z_can 70 0 (lv_args 0 [.ref 122, .int X1])) [] m (vL o.1) o.2 := by
  have hq : z_mth 70 = some z_r70 := rfl
  unfold g_qu_single at h
  show zGo xl xs (fun p' => p = p') (dr + 1) 70 0 [(0, .ref 122), (1, .int X1)] [] m (vL o.1) o.2
  refine r_p hq 2 (pc' := 2) (L' := [(0, .ref 122), (1, .int X1)]) (st' := [.int ((4 : Int32)), .int X1]) rfl ?_
  rcases z_ite h with ⟨c_2, h⟩ | ⟨c_2, h⟩
  · refine r_t2 (pc' := 29) (L' := [(0, .ref 122), (1, .int X1)]) hq (z_at.mk 3 rfl rfl) rfl hx1 (rfl : (4 : Int32).toInt = 4) c_2 rfl rfl ?_
    exact g_qu_single_L29_ok hdr hrec hx1 H h
  · refine r_f2 (pc' := 5) (L' := [(0, .ref 122), (1, .int X1)]) hq (z_at.mk 3 rfl rfl) rfl hx1 (rfl : (4 : Int32).toInt = 4) c_2 rfl rfl ?_
    refine r_p hq 1 (pc' := 6) (L' := [(0, .ref 122), (1, .int X1)]) (st' := [.ref 122]) rfl ?_
    refine r_gR (b := 120) (pc' := 9) (L' := [(0, .ref 122), (1, .int X1)]) H hq (z_at.mk 3 rfl rfl) rfl rfl rfl rfl ?_
    refine r_p hq 1 (pc' := 11) (L' := [(0, .ref 122), (1, .int X1)]) (st' := [.int ((33 : Int32)), .ref 120]) rfl ?_
    obtain ⟨o_11, h_11, h⟩ := Option.bind_eq_some_iff.mp h
    refine r_cvI (pc' := 14) (L' := [(0, .ref 122), (1, .int X1)]) (Ps := [.int ((33 : Int32))]) (rest := []) hq (z_at.mk 3 rfl rfl) (Or.inl ⟨rfl, rfl⟩) rfl rfl (by decide) (by decide) rfl (Nat.not_lt.mpr (Nat.le_of_ble_eq_true rfl)) rfl rfl (z_cat_le 0 rfl (by decide)) (z_lgl_le 2 rfl (by decide)) (by decide) (H.tg rfl) (by omega) (g_ta_takes_ok (rfl : (33 : Int32).toInt = 33) H h_11) rfl rfl ?_
    intro R_11 m_11 p_11 e_11 hR_11 H_11
    subst e_11
    rcases z_ite h with ⟨c_14, h⟩ | ⟨c_14, h⟩
    · refine r_t1 (pc' := 29) (L' := [(0, .ref 122), (1, .int X1)]) hq (z_at.mk 3 rfl rfl) rfl hR_11 c_14 rfl rfl ?_
      exact g_qu_single_L29_ok hdr hrec hx1 H_11 h
    · refine r_f1 (pc' := 17) (L' := [(0, .ref 122), (1, .int X1)]) hq (z_at.mk 3 rfl rfl) rfl hR_11 c_14 rfl rfl ?_
      refine r_p hq 4 (pc' := 21) (L' := [(0, .ref 122), (1, .int X1)]) (st' := [.int (X1 + ((1 : Int32))), .ref 122]) rfl ?_
      obtain ⟨o_21, h_21, h⟩ := Option.bind_eq_some_iff.mp h
      refine r_cvL (pc' := 24) (L' := [(0, .ref 122), (1, .int X1)]) (Ps := [.int (X1 + ((1 : Int32)))]) (rest := []) hq (z_at.mk 3 rfl rfl) (Or.inl ⟨rfl, rfl⟩) rfl rfl (by decide) (by decide) rfl (Nat.not_lt.mpr (Nat.le_of_ble_eq_true rfl)) rfl rfl (z_cat_le 0 rfl (by decide)) (z_lgl_le 2 rfl (by decide)) (by decide) (H_11.tg rfl) (by omega) (hrec 70 (by simp) (tx_iadd hx1 (rfl : (1 : Int32).toInt = 1)) H_11 h_21) rfl rfl ?_
      intro R_21 m_21 p_21 e_21 hR_21 H_21
      subst e_21
      refine r_p hq 2 (pc' := 28) (L' := [(0, .ref 122), (1, .int X1)]) (st' := [.long (R_21 ^^^ ((-1 : Int64)))]) rfl ?_
      cases h
      exact r_rl hq (z_at.mk 1 rfl rfl) rfl (tx_lxor hR_21 (rfl : (-1 : Int64).toInt = -1)) rfl H_21
def g_grp68 : Nat → Nat → Int → zS → Option (Int × zS)
  | 0, _, _, _ => none
  | n + 1, j, x1, σ =>
    if j = 68 then g_qu_either (g_grp68 n) x1 σ else
    if j = 69 then g_qu_both (g_grp68 n) x1 σ else
    if j = 70 then g_qu_single (g_grp68 n) x1 σ else
    none
theorem g_grp68_ok {xl : Nat} {xs : Nat → Int32} : ∀ (n : Nat) (j : Nat), j ∈ [68, 69, 70] → ∀ {X1 : Int32} {x1 : Int} {σ : zS} {p : Nat} {m : zM} {o : Int × zS}, X1.toInt = x1 → zRep xl xs p m σ → g_grp68 n j x1 σ = some o → zGo xl xs (fun p' => p = p') (6 + n) j 0 (z_can j 0 (lv_args 0 [.ref 122, .int X1])) [] m (vL o.1) o.2
  | 0, _, _, _, _, _, _, _, _, _, _, h => by cases h
  | n + 1, j, hj, X1, x1, σ, p, m, o, hx1, H, h => by
    have ih := fun (j : Nat) (hj : j ∈ [68, 69, 70]) {X1 : Int32} {x1 : Int} {σ : zS} {p : Nat} {m : zM} {o : Int × zS} => g_grp68_ok (xl := xl) (xs := xs) n j hj (X1 := X1) (x1 := x1) (σ := σ) (p := p) (m := m) (o := o)
    unfold g_grp68 at h
    by_cases c_68 : j = 68
    · rw [if_pos c_68] at h
      subst c_68
      exact g_qu_either_ok (Nat.le_add_right _ _) ih hx1 H h
    rw [if_neg c_68] at h
    by_cases c_69 : j = 69
    · rw [if_pos c_69] at h
      subst c_69
      exact g_qu_both_ok (Nat.le_add_right _ _) ih hx1 H h
    rw [if_neg c_69] at h
    by_cases c_70 : j = 70
    · rw [if_pos c_70] at h
      subst c_70
      exact g_qu_single_ok (Nat.le_add_right _ _) ih hx1 H h
    rw [if_neg c_70] at h
    cases h
def g_jStringLatin1_charAt (a0 : Nat) (x1 : Int) (σ : zS) : Option (Int × zS) :=
  if 0 ≤ x1 ∧ x1 < (zLI a0) then
  if 0 ≤ x1 ∧ x1 < zLI a0 then
  let v_8 := zs0 a0 x1
  if 0 ≤ w16 (iAnd v_8 255) ∧ w16 (iAnd v_8 255) < 65536 then some (w16 (iAnd v_8 255), σ) else none
  else none
  else none
set_option maxHeartbeats 4000000 in
theorem g_jStringLatin1_charAt_ok {xl : Nat} {xs : Nat → Int32} {a0 : Nat} (ha0 : zIn [19, 20, 21, 22, 23, 24, 25, 26, 27, 28, 29, 30, 31, 32, 33, 34, 35, 36] a0 = true) {X1 : Int32} {x1 : Int} (hx1 : X1.toInt = x1) {σ : zS} {p : Nat} {m : zM} {o : Int × zS} (H : zRep xl xs p m σ) (h : g_jStringLatin1_charAt a0 x1 σ = some o) : zGo xl xs (fun p' => p = p') 1 308 0 (z_can 308 0 (lv_args 0 [.ref a0, .int X1])) [] m (vI o.1) o.2 := by
  have hq : z_mth 308 = some z_r308 := rfl
  unfold g_jStringLatin1_charAt at h
  show zGo xl xs (fun p' => p = p') 1 308 0 [(0, .ref a0), (1, .int X1)] [] m (vI o.1) o.2
  refine r_p hq 2 (pc' := 2) (L' := [(0, .ref a0), (1, .int X1)]) (st' := [.ref a0, .int X1]) rfl ?_
  refine r_le0 (pc' := 3) (L' := [(0, .ref a0), (1, .int X1)]) H hq (z_at.mk 1 rfl rfl) (zIn_all (l := [19, 20, 21, 22, 23, 24, 25, 26, 27, 28, 29, 30, 31, 32, 33, 34, 35, 36]) (p := fun a => zAz (a + 0) 2 (zLI (a + 0))) rfl ha0) rfl rfl rfl ?_
  intro V_2 hV_2
  obtain ⟨g_3, h⟩ := z_ifo_some h
  refine r_ci (pc' := 6) (L' := [(0, .ref a0), (1, .int X1)]) hq (z_at.mk 3 rfl rfl) rfl (z_cat_le 0 rfl (by decide)) hx1 hV_2 g_3 rfl rfl ?_
  refine r_p hq 2 (pc' := 8) (L' := [(0, .ref a0), (1, .int X1)]) (st' := [.int X1, .ref a0]) rfl ?_
  obtain ⟨g_8, h⟩ := z_ifo_some h
  refine r_ba0 (pc' := 9) (L' := [(0, .ref a0), (1, .int X1)]) H hq (z_at.mk 1 rfl rfl) (zIn_all (l := [19, 20, 21, 22, 23, 24, 25, 26, 27, 28, 29, 30, 31, 32, 33, 34, 35, 36]) (p := fun a => zAz a 2 (zLI a)) rfl ha0) hx1 g_8 rfl rfl ?_
  intro V_8 hV_8
  refine r_p hq 3 (pc' := 14) (L' := [(0, .ref a0), (1, .int X1)]) (st' := [.int (((V_8 &&& ((255 : Int32))).toUInt32 % 65536).toInt32)]) rfl ?_
  obtain ⟨g_14, h⟩ := z_if_some h
  cases h
  exact r_ri hq (z_at.mk 1 rfl rfl) rfl (z_rty_ch (tx_i2c (tx_iand hV_8 (rfl : (255 : Int32).toInt = 255))) g_14) (tx_i2c (tx_iand hV_8 (rfl : (255 : Int32).toInt = 255))) rfl H
def g_jString_charAt (a0 : Nat) (x1 : Int) (σ : zS) : Option (Int × zS) :=
  (g_jString_isLatin1 a0 σ).bind fun o_1 =>
  if o_1.1 = 0 then
    none
  else
    (g_jStringLatin1_charAt (a0 + 18) x1 o_1.2).bind fun o_12 =>
    if 0 ≤ o_12.1 ∧ o_12.1 < 65536 then some (o_12.1, o_12.2) else none
set_option maxHeartbeats 4000000 in
theorem g_jString_charAt_ok {xl : Nat} {xs : Nat → Int32} {a0 : Nat} (ha0 : zIn [1, 2, 3, 4, 5, 6, 7, 8, 9, 10, 11, 12, 13, 14, 15, 16, 17, 18] a0 = true) {X1 : Int32} {x1 : Int} (hx1 : X1.toInt = x1) {σ : zS} {p : Nat} {m : zM} {o : Int × zS} (H : zRep xl xs p m σ) (h : g_jString_charAt a0 x1 σ = some o) : zGo xl xs (fun p' => p = p') 2 294 0 (z_can 294 0 (lv_args 0 [.ref a0, .int X1])) [] m (vI o.1) o.2 := by
  have hq : z_mth 294 = some z_r294 := rfl
  unfold g_jString_charAt at h
  show zGo xl xs (fun p' => p = p') 2 294 0 [(0, .ref a0), (1, .int X1)] [] m (vI o.1) o.2
  refine r_p hq 1 (pc' := 1) (L' := [(0, .ref a0), (1, .int X1)]) (st' := [.ref a0]) rfl ?_
  obtain ⟨o_1, h_1, h⟩ := Option.bind_eq_some_iff.mp h
  refine r_cvI (pc' := 4) (L' := [(0, .ref a0), (1, .int X1)]) (Ps := []) (rest := []) hq (z_at.mk 3 rfl rfl) (Or.inl ⟨rfl, rfl⟩) rfl rfl (by decide) (by decide) rfl (Nat.not_lt.mpr (Nat.le_of_ble_eq_true rfl)) rfl rfl (z_cat_le 0 rfl (by decide)) (z_lgl_le 1 rfl (by decide)) (by decide) (H.tg9 (zIn_all (l := [1, 2, 3, 4, 5, 6, 7, 8, 9, 10, 11, 12, 13, 14, 15, 16, 17, 18]) (p := fun a => zIn [1, 2, 3, 4, 5, 6, 7, 8, 9, 10, 11, 12, 13, 14, 15, 16, 17, 18] a) rfl ha0)) (by omega) (g_jString_isLatin1_ok (zIn_all (l := [1, 2, 3, 4, 5, 6, 7, 8, 9, 10, 11, 12, 13, 14, 15, 16, 17, 18]) (p := fun a => zIn [1, 2, 3, 4, 5, 6, 7, 8, 9, 10, 11, 12, 13, 14, 15, 16, 17, 18] a) rfl ha0) H h_1) rfl rfl ?_
  intro R_1 m_1 p_1 e_1 hR_1 H_1
  subst e_1
  rcases z_ite h with ⟨c_4, h⟩ | ⟨c_4, h⟩
  · refine r_t1 (pc' := 16) (L' := [(0, .ref a0), (1, .int X1)]) hq (z_at.mk 3 rfl rfl) rfl hR_1 c_4 rfl rfl ?_
    refine r_p hq 1 (pc' := 17) (L' := [(0, .ref a0), (1, .int X1)]) (st' := [.ref a0]) rfl ?_
    refine r_gsR (pc' := 20) (L' := [(0, .ref a0), (1, .int X1)]) H_1 hq (z_at.mk 3 rfl rfl) rfl (zIn_all (l := [1, 2, 3, 4, 5, 6, 7, 8, 9, 10, 11, 12, 13, 14, 15, 16, 17, 18]) (p := fun a => zIn [1, 2, 3, 4, 5, 6, 7, 8, 9, 10, 11, 12, 13, 14, 15, 16, 17, 18] a) rfl ha0) rfl rfl ?_
    refine r_p hq 1 (pc' := 21) (L' := [(0, .ref a0), (1, .int X1)]) (st' := [.int X1, .ref (a0 + 18)]) rfl ?_
    cases h
  · refine r_f1 (pc' := 7) (L' := [(0, .ref a0), (1, .int X1)]) hq (z_at.mk 3 rfl rfl) rfl hR_1 c_4 rfl rfl ?_
    refine r_p hq 1 (pc' := 8) (L' := [(0, .ref a0), (1, .int X1)]) (st' := [.ref a0]) rfl ?_
    refine r_gsR (pc' := 11) (L' := [(0, .ref a0), (1, .int X1)]) H_1 hq (z_at.mk 3 rfl rfl) rfl (zIn_all (l := [1, 2, 3, 4, 5, 6, 7, 8, 9, 10, 11, 12, 13, 14, 15, 16, 17, 18]) (p := fun a => zIn [1, 2, 3, 4, 5, 6, 7, 8, 9, 10, 11, 12, 13, 14, 15, 16, 17, 18] a) rfl ha0) rfl rfl ?_
    refine r_p hq 1 (pc' := 12) (L' := [(0, .ref a0), (1, .int X1)]) (st' := [.int X1, .ref (a0 + 18)]) rfl ?_
    obtain ⟨o_12, h_12, h⟩ := Option.bind_eq_some_iff.mp h
    refine r_csI (pc' := 15) (L' := [(0, .ref a0), (1, .int X1)]) (As := [.ref (a0 + 18), .int X1]) (rest := []) (j := 308) hq (z_at.mk 3 rfl rfl) (Or.inl ⟨rfl, rfl⟩) rfl rfl (by omega) (g_jStringLatin1_charAt_ok (zIn_all (l := [1, 2, 3, 4, 5, 6, 7, 8, 9, 10, 11, 12, 13, 14, 15, 16, 17, 18]) (p := fun a => zIn [19, 20, 21, 22, 23, 24, 25, 26, 27, 28, 29, 30, 31, 32, 33, 34, 35, 36] (a + 18)) rfl ha0) hx1 H_1 h_12) rfl rfl ?_
    intro R_12 m_12 p_12 e_12 hR_12 H_12
    subst e_12
    obtain ⟨g_15, h⟩ := z_if_some h
    cases h
    exact r_ri hq (z_at.mk 1 rfl rfl) rfl (z_rty_ch hR_12 g_15) hR_12 rfl H_12
def g_ta_isSound (σ : zS) : Option (Int × zS) :=
  let v_1 := σ 120 3
  if v_1 ≠ -1 then
    some (0, σ)
  else
    some (1, σ)
set_option maxHeartbeats 4000000 in
theorem g_ta_isSound_ok {xl : Nat} {xs : Nat → Int32} {σ : zS} {p : Nat} {m : zM} {o : Int × zS} (H : zRep xl xs p m σ) (h : g_ta_isSound σ = some o) : zGo xl xs (fun p' => p = p') 1 93 0 (z_can 93 0 (lv_args 0 [.ref 120])) [] m (vI o.1) o.2 := by
  have hq : z_mth 93 = some z_r93 := rfl
  unfold g_ta_isSound at h
  show zGo xl xs (fun p' => p = p') 1 93 0 [(0, .ref 120)] [] m (vI o.1) o.2
  refine r_p hq 1 (pc' := 1) (L' := [(0, .ref 120)]) (st' := [.ref 120]) rfl ?_
  refine r_gI (pc' := 4) (L' := [(0, .ref 120)]) H hq (z_at.mk 3 rfl rfl) rfl rfl rfl rfl ?_
  intro V_1 hV_1
  refine r_p hq 1 (pc' := 5) (L' := [(0, .ref 120)]) (st' := [.int ((-1 : Int32)), .int V_1]) rfl ?_
  rcases z_ite h with ⟨c_5, h⟩ | ⟨c_5, h⟩
  · refine r_t2 (pc' := 12) (L' := [(0, .ref 120)]) hq (z_at.mk 3 rfl rfl) rfl hV_1 (rfl : (-1 : Int32).toInt = -1) c_5 rfl rfl ?_
    refine r_p hq 1 (pc' := 13) (L' := []) (st' := [.int ((0 : Int32))]) rfl ?_
    cases h
    exact r_ri hq (z_at.mk 1 rfl rfl) rfl rfl (rfl : (0 : Int32).toInt = 0) rfl H
  · refine r_f2 (pc' := 8) (L' := [(0, .ref 120)]) hq (z_at.mk 3 rfl rfl) rfl hV_1 (rfl : (-1 : Int32).toInt = -1) c_5 rfl rfl ?_
    refine r_p hq 2 (pc' := 13) (L' := []) (st' := [.int ((1 : Int32))]) rfl ?_
    cases h
    exact r_ri hq (z_at.mk 1 rfl rfl) rfl rfl (rfl : (1 : Int32).toInt = 1) rfl H
def g_ta_isSame_L40 (a1 : Nat) : Nat → Int → Int → Int → Int → zS → Option (Int × zS)
  | 0, _, _, _, _, _ => none
  | n + 1, x2, x3, x4, x5, σ =>
    if w32 (x3 - x2) ≤ x5 then
      some (1, σ)
    else
      (g_jString_length a1 σ).bind fun o_53 =>
      if o_53.1 ≤ w32 (x2 + x5) then
        some (1, o_53.2)
      else
        if 0 ≤ w32 (x4 + x5) ∧ w32 (x4 + x5) < 160 then
        let v_68 := o_53.2 121 (w32 (x4 + x5))
        (g_jString_charAt a1 (w32 (x2 + x5)) o_53.2).bind fun o_74 =>
        if v_68 = o_74.1 then
          (g_ta_isSame_L40 a1 n) x2 x3 x4 (w32 (x5 + 1)) o_74.2
        else
          some (0, o_74.2)
        else none
set_option maxHeartbeats 4000000 in
theorem g_ta_isSame_L40_ok {xl : Nat} {xs : Nat → Int32} {a1 : Nat} (ha1 : zIn [1, 2, 3, 4, 5, 6, 7, 8, 9, 10, 11, 12, 13, 14, 15, 16, 17, 18] a1 = true) : ∀ (n : Nat) {X2 : Int32} {x2 : Int} {X3 : Int32} {x3 : Int} {X4 : Int32} {x4 : Int} {X5 : Int32} {x5 : Int} {σ : zS} {p : Nat} {m : zM} {o : Int × zS}, X2.toInt = x2 → X3.toInt = x3 → X4.toInt = x4 → X5.toInt = x5 → zRep xl xs p m σ → g_ta_isSame_L40 a1 n x2 x3 x4 x5 σ = some o → zGo xl xs (fun p' => p = p') 3 103 40 [(0, .ref 120), (1, .ref a1), (2, .int X2), (3, .int X3), (4, .int X4), (5, .int X5)] [] m (vI o.1) o.2
  | 0, _, _, _, _, _, _, _, _, _, _, _, _, _, _, _, _, _, h => by cases h
  | n + 1, X2, x2, X3, x3, X4, x4, X5, x5, σ, p, m, o, hx2, hx3, hx4, hx5, H, h => by
    have hq : z_mth 103 = some z_r103 := rfl
    have ih := fun {X2 : Int32} {x2 : Int} {X3 : Int32} {x3 : Int} {X4 : Int32} {x4 : Int} {X5 : Int32} {x5 : Int} {σ : zS} {p : Nat} {m : zM} {o : Int × zS} => g_ta_isSame_L40_ok (xl := xl) (xs := xs) ha1 n (X2 := X2) (x2 := x2) (X3 := X3) (x3 := x3) (X4 := X4) (x4 := x4) (X5 := X5) (x5 := x5) (σ := σ) (p := p) (m := m) (o := o)
    unfold g_ta_isSame_L40 at h
    refine r_p hq 4 (pc' := 45) (L' := [(0, .ref 120), (1, .ref a1), (2, .int X2), (3, .int X3), (4, .int X4), (5, .int X5)]) (st' := [.int (X3 - X2), .int X5]) rfl ?_
    rcases z_ite h with ⟨c_45, h⟩ | ⟨c_45, h⟩
    · refine r_t2 (pc' := 88) (L' := []) hq (z_at.mk 3 rfl rfl) rfl hx5 (tx_isub hx3 hx2) c_45 rfl rfl ?_
      refine r_p hq 1 (pc' := 89) (L' := []) (st' := [.int ((1 : Int32))]) rfl ?_
      cases h
      exact r_ri hq (z_at.mk 1 rfl rfl) rfl rfl (rfl : (1 : Int32).toInt = 1) rfl H
    · refine r_f2 (pc' := 48) (L' := [(0, .ref 120), (1, .ref a1), (2, .int X2), (3, .int X3), (4, .int X4), (5, .int X5)]) hq (z_at.mk 3 rfl rfl) rfl hx5 (tx_isub hx3 hx2) c_45 rfl rfl ?_
      refine r_p hq 4 (pc' := 53) (L' := [(0, .ref 120), (1, .ref a1), (2, .int X2), (3, .int X3), (4, .int X4), (5, .int X5)]) (st' := [.ref a1, .int (X2 + X5)]) rfl ?_
      obtain ⟨o_53, h_53, h⟩ := Option.bind_eq_some_iff.mp h
      refine r_cvI (pc' := 56) (L' := [(0, .ref 120), (1, .ref a1), (2, .int X2), (3, .int X3), (4, .int X4), (5, .int X5)]) (Ps := []) (rest := [.int (X2 + X5)]) hq (z_at.mk 3 rfl rfl) (Or.inl ⟨rfl, rfl⟩) rfl rfl (by decide) (by decide) rfl (Nat.not_lt.mpr (Nat.le_of_ble_eq_true rfl)) rfl rfl (z_cat_le 1 rfl (by decide)) (z_lgl_le 1 rfl (by decide)) (by decide) (H.tg9 (zIn_all (l := [1, 2, 3, 4, 5, 6, 7, 8, 9, 10, 11, 12, 13, 14, 15, 16, 17, 18]) (p := fun a => zIn [1, 2, 3, 4, 5, 6, 7, 8, 9, 10, 11, 12, 13, 14, 15, 16, 17, 18] a) rfl ha1)) (by omega) (g_jString_length_ok (zIn_all (l := [1, 2, 3, 4, 5, 6, 7, 8, 9, 10, 11, 12, 13, 14, 15, 16, 17, 18]) (p := fun a => zIn [1, 2, 3, 4, 5, 6, 7, 8, 9, 10, 11, 12, 13, 14, 15, 16, 17, 18] a) rfl ha1) H h_53) rfl rfl ?_
      intro R_53 m_53 p_53 e_53 hR_53 H_53
      subst e_53
      rcases z_ite h with ⟨c_56, h⟩ | ⟨c_56, h⟩
      · refine r_t2 (pc' := 88) (L' := []) hq (z_at.mk 3 rfl rfl) rfl (tx_iadd hx2 hx5) hR_53 c_56 rfl rfl ?_
        refine r_p hq 1 (pc' := 89) (L' := []) (st' := [.int ((1 : Int32))]) rfl ?_
        cases h
        exact r_ri hq (z_at.mk 1 rfl rfl) rfl rfl (rfl : (1 : Int32).toInt = 1) rfl H_53
      · refine r_f2 (pc' := 59) (L' := [(0, .ref 120), (1, .ref a1), (2, .int X2), (3, .int X3), (4, .int X4), (5, .int X5)]) hq (z_at.mk 3 rfl rfl) rfl (tx_iadd hx2 hx5) hR_53 c_56 rfl rfl ?_
        refine r_p hq 1 (pc' := 60) (L' := [(0, .ref 120), (1, .ref a1), (2, .int X2), (3, .int X3), (4, .int X4), (5, .int X5)]) (st' := [.ref 120]) rfl ?_
        refine r_gR (b := 121) (pc' := 63) (L' := [(0, .ref 120), (1, .ref a1), (2, .int X2), (3, .int X3), (4, .int X4), (5, .int X5)]) H_53 hq (z_at.mk 3 rfl rfl) rfl rfl rfl rfl ?_
        refine r_p hq 3 (pc' := 68) (L' := [(0, .ref 120), (1, .ref a1), (2, .int X2), (3, .int X3), (4, .int X4), (5, .int X5)]) (st' := [.int (X4 + X5), .ref 121]) rfl ?_
        obtain ⟨g_68, h⟩ := z_ifo_some h
        refine r_ba (pc' := 69) (L' := [(0, .ref 120), (1, .ref a1), (2, .int X2), (3, .int X3), (4, .int X4), (5, .int X5)]) H_53 hq (z_at.mk 1 rfl rfl) (show zAr 121 2 160 = true from rfl) (tx_iadd hx4 hx5) g_68 rfl rfl ?_
        intro V_68 hV_68
        refine r_p hq 4 (pc' := 74) (L' := [(0, .ref 120), (1, .ref a1), (2, .int X2), (3, .int X3), (4, .int X4), (5, .int X5)]) (st' := [.int (X2 + X5), .ref a1, .int V_68]) rfl ?_
        obtain ⟨o_74, h_74, h⟩ := Option.bind_eq_some_iff.mp h
        refine r_cvI (pc' := 77) (L' := [(0, .ref 120), (1, .ref a1), (2, .int X2), (3, .int X3), (4, .int X4), (5, .int X5)]) (Ps := [.int (X2 + X5)]) (rest := [.int V_68]) hq (z_at.mk 3 rfl rfl) (Or.inl ⟨rfl, rfl⟩) rfl rfl (by decide) (by decide) rfl (Nat.not_lt.mpr (Nat.le_of_ble_eq_true rfl)) rfl rfl (z_cat_le 1 rfl (by decide)) (z_lgl_le 2 rfl (by decide)) (by decide) (H_53.tg9 (zIn_all (l := [1, 2, 3, 4, 5, 6, 7, 8, 9, 10, 11, 12, 13, 14, 15, 16, 17, 18]) (p := fun a => zIn [1, 2, 3, 4, 5, 6, 7, 8, 9, 10, 11, 12, 13, 14, 15, 16, 17, 18] a) rfl ha1)) (by omega) (g_jString_charAt_ok (zIn_all (l := [1, 2, 3, 4, 5, 6, 7, 8, 9, 10, 11, 12, 13, 14, 15, 16, 17, 18]) (p := fun a => zIn [1, 2, 3, 4, 5, 6, 7, 8, 9, 10, 11, 12, 13, 14, 15, 16, 17, 18] a) rfl ha1) (tx_iadd hx2 hx5) H_53 h_74) rfl rfl ?_
        intro R_74 m_74 p_74 e_74 hR_74 H_74
        subst e_74
        rcases z_ite h with ⟨c_77, h⟩ | ⟨c_77, h⟩
        · refine r_t2 (pc' := 82) (L' := [(0, .ref 120), (1, .ref a1), (2, .int X2), (3, .int X3), (4, .int X4), (5, .int X5)]) hq (z_at.mk 3 rfl rfl) rfl hV_68 hR_74 c_77 rfl rfl ?_
          refine r_p hq 2 (pc' := 40) (L' := [(0, .ref 120), (1, .ref a1), (2, .int X2), (3, .int X3), (4, .int X4), (5, .int (X5 + (1 : Int32)))]) (st' := []) rfl ?_
          exact ih hx2 hx3 hx4 (tx_iadd hx5 (rfl : (1 : Int32).toInt = 1)) H_74 h
        · refine r_f2 (pc' := 80) (L' := [(0, .ref 120), (1, .ref a1), (2, .int X2), (3, .int X3), (4, .int X4), (5, .int X5)]) hq (z_at.mk 3 rfl rfl) rfl hV_68 hR_74 c_77 rfl rfl ?_
          refine r_p hq 1 (pc' := 81) (L' := [(0, .ref 120), (1, .ref a1), (2, .int X2), (3, .int X3), (4, .int X4), (5, .int X5)]) (st' := [.int ((0 : Int32))]) rfl ?_
          cases h
          exact r_ri hq (z_at.mk 1 rfl rfl) rfl rfl (rfl : (0 : Int32).toInt = 0) rfl H_74
def g_ta_isSame (a1 : Nat) (x2 : Int) (x3 : Int) (x4 : Int) (σ : zS) : Option (Int × zS) :=
  (g_ta_isSound σ).bind fun o_1 =>
  if o_1.1 = 0 then
    some (0, o_1.2)
  else
    if x4 < 0 then
      some (0, o_1.2)
    else
      let v_13 := o_1.2 120 2
      if 160 < v_13 then
        some (0, o_1.2)
      else
        let v_23 := o_1.2 120 2
        if w32 (v_23 - x4) = w32 (x3 - x2) then
          g_ta_isSame_L40 a1 zK x2 x3 x4 0 o_1.2
        else
          some (0, o_1.2)
set_option maxHeartbeats 4000000 in
theorem g_ta_isSame_ok {xl : Nat} {xs : Nat → Int32} {a1 : Nat} (ha1 : zIn [1, 2, 3, 4, 5, 6, 7, 8, 9, 10, 11, 12, 13, 14, 15, 16, 17, 18] a1 = true) {X2 : Int32} {x2 : Int} (hx2 : X2.toInt = x2) {X3 : Int32} {x3 : Int} (hx3 : X3.toInt = x3) {X4 : Int32} {x4 : Int} (hx4 : X4.toInt = x4) {σ : zS} {p : Nat} {m : zM} {o : Int × zS} (H : zRep xl xs p m σ) (h : g_ta_isSame a1 x2 x3 x4 σ = some o) : zGo xl xs (fun p' => p = p') 3 103 0 (z_can 103 0 (lv_args 0 [.ref 120, .ref a1, .int X2, .int X3, .int X4])) [] m (vI o.1) o.2 := by
  have hq : z_mth 103 = some z_r103 := rfl
  unfold g_ta_isSame at h
  show zGo xl xs (fun p' => p = p') 3 103 0 [(0, .ref 120), (1, .ref a1), (2, .int X2), (3, .int X3), (4, .int X4)] [] m (vI o.1) o.2
  refine r_p hq 1 (pc' := 1) (L' := [(0, .ref 120), (1, .ref a1), (2, .int X2), (3, .int X3), (4, .int X4)]) (st' := [.ref 120]) rfl ?_
  obtain ⟨o_1, h_1, h⟩ := Option.bind_eq_some_iff.mp h
  refine r_cvI (pc' := 4) (L' := [(0, .ref 120), (1, .ref a1), (2, .int X2), (3, .int X3), (4, .int X4)]) (Ps := []) (rest := []) hq (z_at.mk 3 rfl rfl) (Or.inl ⟨rfl, rfl⟩) rfl rfl (by decide) (by decide) rfl (Nat.not_lt.mpr (Nat.le_of_ble_eq_true rfl)) rfl rfl (z_cat_le 0 rfl (by decide)) (z_lgl_le 1 rfl (by decide)) (by decide) (H.tg rfl) (by omega) (g_ta_isSound_ok H h_1) rfl rfl ?_
  intro R_1 m_1 p_1 e_1 hR_1 H_1
  subst e_1
  rcases z_ite h with ⟨c_4, h⟩ | ⟨c_4, h⟩
  · refine r_t1 (pc' := 35) (L' := []) hq (z_at.mk 3 rfl rfl) rfl hR_1 c_4 rfl rfl ?_
    refine r_p hq 1 (pc' := 36) (L' := []) (st' := [.int ((0 : Int32))]) rfl ?_
    cases h
    exact r_ri hq (z_at.mk 1 rfl rfl) rfl rfl (rfl : (0 : Int32).toInt = 0) rfl H_1
  · refine r_f1 (pc' := 7) (L' := [(0, .ref 120), (1, .ref a1), (2, .int X2), (3, .int X3), (4, .int X4)]) hq (z_at.mk 3 rfl rfl) rfl hR_1 c_4 rfl rfl ?_
    refine r_p hq 1 (pc' := 9) (L' := [(0, .ref 120), (1, .ref a1), (2, .int X2), (3, .int X3), (4, .int X4)]) (st' := [.int X4]) rfl ?_
    rcases z_ite h with ⟨c_9, h⟩ | ⟨c_9, h⟩
    · refine r_t1 (pc' := 35) (L' := []) hq (z_at.mk 3 rfl rfl) rfl hx4 c_9 rfl rfl ?_
      refine r_p hq 1 (pc' := 36) (L' := []) (st' := [.int ((0 : Int32))]) rfl ?_
      cases h
      exact r_ri hq (z_at.mk 1 rfl rfl) rfl rfl (rfl : (0 : Int32).toInt = 0) rfl H_1
    · refine r_f1 (pc' := 12) (L' := [(0, .ref 120), (1, .ref a1), (2, .int X2), (3, .int X3), (4, .int X4)]) hq (z_at.mk 3 rfl rfl) rfl hx4 c_9 rfl rfl ?_
      refine r_p hq 1 (pc' := 13) (L' := [(0, .ref 120), (1, .ref a1), (2, .int X2), (3, .int X3), (4, .int X4)]) (st' := [.ref 120]) rfl ?_
      refine r_gI (pc' := 16) (L' := [(0, .ref 120), (1, .ref a1), (2, .int X2), (3, .int X3), (4, .int X4)]) H_1 hq (z_at.mk 3 rfl rfl) rfl rfl rfl rfl ?_
      intro V_13 hV_13
      refine r_p hq 1 (pc' := 19) (L' := [(0, .ref 120), (1, .ref a1), (2, .int X2), (3, .int X3), (4, .int X4)]) (st' := [.int ((160 : Int32)), .int V_13]) rfl ?_
      rcases z_ite h with ⟨c_19, h⟩ | ⟨c_19, h⟩
      · refine r_t2 (pc' := 35) (L' := []) hq (z_at.mk 3 rfl rfl) rfl hV_13 (rfl : (160 : Int32).toInt = 160) c_19 rfl rfl ?_
        refine r_p hq 1 (pc' := 36) (L' := []) (st' := [.int ((0 : Int32))]) rfl ?_
        cases h
        exact r_ri hq (z_at.mk 1 rfl rfl) rfl rfl (rfl : (0 : Int32).toInt = 0) rfl H_1
      · refine r_f2 (pc' := 22) (L' := [(0, .ref 120), (1, .ref a1), (2, .int X2), (3, .int X3), (4, .int X4)]) hq (z_at.mk 3 rfl rfl) rfl hV_13 (rfl : (160 : Int32).toInt = 160) c_19 rfl rfl ?_
        refine r_p hq 1 (pc' := 23) (L' := [(0, .ref 120), (1, .ref a1), (2, .int X2), (3, .int X3), (4, .int X4)]) (st' := [.ref 120]) rfl ?_
        refine r_gI (pc' := 26) (L' := [(0, .ref 120), (1, .ref a1), (2, .int X2), (3, .int X3), (4, .int X4)]) H_1 hq (z_at.mk 3 rfl rfl) rfl rfl rfl rfl ?_
        intro V_23 hV_23
        refine r_p hq 5 (pc' := 32) (L' := [(0, .ref 120), (1, .ref a1), (2, .int X2), (3, .int X3), (4, .int X4)]) (st' := [.int (X3 - X2), .int (V_23 - X4)]) rfl ?_
        rcases z_ite h with ⟨c_32, h⟩ | ⟨c_32, h⟩
        · refine r_t2 (pc' := 37) (L' := [(0, .ref 120), (1, .ref a1), (2, .int X2), (3, .int X3), (4, .int X4)]) hq (z_at.mk 3 rfl rfl) rfl (tx_isub hV_23 hx4) (tx_isub hx3 hx2) c_32 rfl rfl ?_
          refine r_p hq 2 (pc' := 40) (L' := [(0, .ref 120), (1, .ref a1), (2, .int X2), (3, .int X3), (4, .int X4), (5, .int ((0 : Int32)))]) (st' := []) rfl ?_
          exact g_ta_isSame_L40_ok ha1 zK hx2 hx3 hx4 (rfl : (0 : Int32).toInt = 0) H_1 h
        · refine r_f2 (pc' := 35) (L' := []) hq (z_at.mk 3 rfl rfl) rfl (tx_isub hV_23 hx4) (tx_isub hx3 hx2) c_32 rfl rfl ?_
          refine r_p hq 1 (pc' := 36) (L' := []) (st' := [.int ((0 : Int32))]) rfl ?_
          cases h
          exact r_ri hq (z_at.mk 1 rfl rfl) rfl rfl (rfl : (0 : Int32).toInt = 0) rfl H_1
def g_ta_word_L109 (a1 : Nat) (g56 : Int → Int → Int → Int → zS → Option (Int × zS)) (x2 : Int) (x3 : Int) (x4 : Int) (x5 : Int) (σ : zS) : Option (Int × zS) :=
  g56 x2 x3 x4 (w32 (x5 + 1)) σ
set_option maxHeartbeats 4000000 in
theorem g_ta_word_L109_ok {xl : Nat} {xs : Nat → Int32} {a1 : Nat} (ha1 : zIn [1, 2, 3, 4, 5, 6, 7, 8, 9, 10, 11, 12, 13, 14, 15, 16, 17, 18] a1 = true) {g56 : Int → Int → Int → Int → zS → Option (Int × zS)} (hg56 : ∀ {X2 : Int32} {x2 : Int} {X3 : Int32} {x3 : Int} {X4 : Int32} {x4 : Int} {X5 : Int32} {x5 : Int} {σ : zS} {p : Nat} {m : zM} {o : Int × zS}, X2.toInt = x2 → X3.toInt = x3 → X4.toInt = x4 → X5.toInt = x5 → zRep xl xs p m σ → g56 x2 x3 x4 x5 σ = some o → zGo xl xs (fun p' => p = p') 4 102 56 [(0, .ref 120), (1, .ref a1), (2, .int X2), (3, .int X3), (4, .int X4), (5, .int X5)] [] m (vI o.1) o.2) {X2 : Int32} {x2 : Int} (hx2 : X2.toInt = x2) {X3 : Int32} {x3 : Int} (hx3 : X3.toInt = x3) {X4 : Int32} {x4 : Int} (hx4 : X4.toInt = x4) {X5 : Int32} {x5 : Int} (hx5 : X5.toInt = x5) {σ : zS} {p : Nat} {m : zM} {o : Int × zS} (H : zRep xl xs p m σ) (h : g_ta_word_L109 a1 g56 x2 x3 x4 x5 σ = some o) : zGo xl xs (fun p' => p = p') 4 102 109 [(0, .ref 120), (1, .ref a1), (2, .int X2), (3, .int X3), (4, .int X4), (5, .int X5)] [] m (vI o.1) o.2 := by
  have hq : z_mth 102 = some z_r102 := rfl
  unfold g_ta_word_L109 at h
  refine r_p hq 2 (pc' := 56) (L' := [(0, .ref 120), (1, .ref a1), (2, .int X2), (3, .int X3), (4, .int X4), (5, .int (X5 + (1 : Int32)))]) (st' := []) rfl ?_
  exact hg56 hx2 hx3 hx4 (tx_iadd hx5 (rfl : (1 : Int32).toInt = 1)) H h
def g_ta_word_L85 (a1 : Nat) (g56 : Int → Int → Int → Int → zS → Option (Int × zS)) (x2 : Int) (x3 : Int) (x4 : Int) (x5 : Int) (σ : zS) : Option (Int × zS) :=
  (g_ta_isSame a1 x4 x5 x2 σ).bind fun o_92 =>
  if o_92.1 = 0 then
    g_ta_word_L109 a1 g56 x2 (w32 (x3 + 1)) (w32 (x5 + 1)) x5 o_92.2
  else
    some (x3, o_92.2)
set_option maxHeartbeats 4000000 in
theorem g_ta_word_L85_ok {xl : Nat} {xs : Nat → Int32} {a1 : Nat} (ha1 : zIn [1, 2, 3, 4, 5, 6, 7, 8, 9, 10, 11, 12, 13, 14, 15, 16, 17, 18] a1 = true) {g56 : Int → Int → Int → Int → zS → Option (Int × zS)} (hg56 : ∀ {X2 : Int32} {x2 : Int} {X3 : Int32} {x3 : Int} {X4 : Int32} {x4 : Int} {X5 : Int32} {x5 : Int} {σ : zS} {p : Nat} {m : zM} {o : Int × zS}, X2.toInt = x2 → X3.toInt = x3 → X4.toInt = x4 → X5.toInt = x5 → zRep xl xs p m σ → g56 x2 x3 x4 x5 σ = some o → zGo xl xs (fun p' => p = p') 4 102 56 [(0, .ref 120), (1, .ref a1), (2, .int X2), (3, .int X3), (4, .int X4), (5, .int X5)] [] m (vI o.1) o.2) {X2 : Int32} {x2 : Int} (hx2 : X2.toInt = x2) {X3 : Int32} {x3 : Int} (hx3 : X3.toInt = x3) {X4 : Int32} {x4 : Int} (hx4 : X4.toInt = x4) {X5 : Int32} {x5 : Int} (hx5 : X5.toInt = x5) {σ : zS} {p : Nat} {m : zM} {o : Int × zS} (H : zRep xl xs p m σ) (h : g_ta_word_L85 a1 g56 x2 x3 x4 x5 σ = some o) : zGo xl xs (fun p' => p = p') 4 102 85 [(0, .ref 120), (1, .ref a1), (2, .int X2), (3, .int X3), (4, .int X4), (5, .int X5)] [] m (vI o.1) o.2 := by
  have hq : z_mth 102 = some z_r102 := rfl
  unfold g_ta_word_L85 at h
  refine r_p hq 5 (pc' := 92) (L' := [(0, .ref 120), (1, .ref a1), (2, .int X2), (3, .int X3), (4, .int X4), (5, .int X5)]) (st' := [.int X2, .int X5, .int X4, .ref a1, .ref 120]) rfl ?_
  obtain ⟨o_92, h_92, h⟩ := Option.bind_eq_some_iff.mp h
  refine r_cvI (pc' := 95) (L' := [(0, .ref 120), (1, .ref a1), (2, .int X2), (3, .int X3), (4, .int X4), (5, .int X5)]) (Ps := [.ref a1, .int X4, .int X5, .int X2]) (rest := []) hq (z_at.mk 3 rfl rfl) (Or.inl ⟨rfl, rfl⟩) rfl rfl (by decide) (by decide) rfl (Nat.not_lt.mpr (Nat.le_of_ble_eq_true rfl)) rfl rfl (z_cat_le 0 rfl (by decide)) (z_lgl_le 5 rfl (by decide)) (by decide) (H.tg rfl) (by omega) (g_ta_isSame_ok (zIn_all (l := [1, 2, 3, 4, 5, 6, 7, 8, 9, 10, 11, 12, 13, 14, 15, 16, 17, 18]) (p := fun a => zIn [1, 2, 3, 4, 5, 6, 7, 8, 9, 10, 11, 12, 13, 14, 15, 16, 17, 18] a) rfl ha1) hx4 hx5 hx2 H h_92) rfl rfl ?_
  intro R_92 m_92 p_92 e_92 hR_92 H_92
  subst e_92
  rcases z_ite h with ⟨c_95, h⟩ | ⟨c_95, h⟩
  · refine r_t1 (pc' := 100) (L' := [(0, .ref 120), (1, .ref a1), (2, .int X2), (3, .int X3), (4, .int X4), (5, .int X5)]) hq (z_at.mk 3 rfl rfl) rfl hR_92 c_95 rfl rfl ?_
    refine r_p hq 5 (pc' := 109) (L' := [(0, .ref 120), (1, .ref a1), (2, .int X2), (3, .int (X3 + (1 : Int32))), (4, .int (X5 + ((1 : Int32)))), (5, .int X5)]) (st' := []) rfl ?_
    exact g_ta_word_L109_ok ha1 hg56 hx2 (tx_iadd hx3 (rfl : (1 : Int32).toInt = 1)) (tx_iadd hx5 (rfl : (1 : Int32).toInt = 1)) hx5 H_92 h
  · refine r_f1 (pc' := 98) (L' := [(0, .ref 120), (1, .ref a1), (2, .int X2), (3, .int X3), (4, .int X4), (5, .int X5)]) hq (z_at.mk 3 rfl rfl) rfl hR_92 c_95 rfl rfl ?_
    refine r_p hq 1 (pc' := 99) (L' := [(0, .ref 120), (1, .ref a1), (2, .int X2), (3, .int X3), (4, .int X4), (5, .int X5)]) (st' := [.int X3]) rfl ?_
    cases h
    exact r_ri hq (z_at.mk 1 rfl rfl) rfl rfl hx3 rfl H_92
def g_ta_word_L56 (a1 : Nat) : Nat → Int → Int → Int → Int → zS → Option (Int × zS)
  | 0, _, _, _, _, _ => none
  | n + 1, x2, x3, x4, x5, σ =>
    (g_jString_length a1 σ).bind fun o_59 =>
    if o_59.1 < x5 then
      (g_ta_blame x2 o_59.2).bind fun o_117 =>
      some (-1, o_117.2)
    else
      (g_jString_length a1 o_59.2).bind fun o_68 =>
      if x5 = o_68.1 then
        g_ta_word_L85 a1 ((g_ta_word_L56 a1 n)) x2 x3 x4 x5 o_68.2
      else
        (g_jString_charAt a1 x5 o_68.2).bind fun o_77 =>
        if o_77.1 ≠ 32 then
          g_ta_word_L109 a1 ((g_ta_word_L56 a1 n)) x2 x3 x4 x5 o_77.2
        else
          g_ta_word_L85 a1 ((g_ta_word_L56 a1 n)) x2 x3 x4 x5 o_77.2
set_option maxHeartbeats 4000000 in
theorem g_ta_word_L56_ok {xl : Nat} {xs : Nat → Int32} {a1 : Nat} (ha1 : zIn [1, 2, 3, 4, 5, 6, 7, 8, 9, 10, 11, 12, 13, 14, 15, 16, 17, 18] a1 = true) : ∀ (n : Nat) {X2 : Int32} {x2 : Int} {X3 : Int32} {x3 : Int} {X4 : Int32} {x4 : Int} {X5 : Int32} {x5 : Int} {σ : zS} {p : Nat} {m : zM} {o : Int × zS}, X2.toInt = x2 → X3.toInt = x3 → X4.toInt = x4 → X5.toInt = x5 → zRep xl xs p m σ → g_ta_word_L56 a1 n x2 x3 x4 x5 σ = some o → zGo xl xs (fun p' => p = p') 4 102 56 [(0, .ref 120), (1, .ref a1), (2, .int X2), (3, .int X3), (4, .int X4), (5, .int X5)] [] m (vI o.1) o.2
  | 0, _, _, _, _, _, _, _, _, _, _, _, _, _, _, _, _, _, h => by cases h
  | n + 1, X2, x2, X3, x3, X4, x4, X5, x5, σ, p, m, o, hx2, hx3, hx4, hx5, H, h => by
    have hq : z_mth 102 = some z_r102 := rfl
    have ih := fun {X2 : Int32} {x2 : Int} {X3 : Int32} {x3 : Int} {X4 : Int32} {x4 : Int} {X5 : Int32} {x5 : Int} {σ : zS} {p : Nat} {m : zM} {o : Int × zS} => g_ta_word_L56_ok (xl := xl) (xs := xs) ha1 n (X2 := X2) (x2 := x2) (X3 := X3) (x3 := x3) (X4 := X4) (x4 := x4) (X5 := X5) (x5 := x5) (σ := σ) (p := p) (m := m) (o := o)
    unfold g_ta_word_L56 at h
    refine r_p hq 2 (pc' := 59) (L' := [(0, .ref 120), (1, .ref a1), (2, .int X2), (3, .int X3), (4, .int X4), (5, .int X5)]) (st' := [.ref a1, .int X5]) rfl ?_
    obtain ⟨o_59, h_59, h⟩ := Option.bind_eq_some_iff.mp h
    refine r_cvI (pc' := 62) (L' := [(0, .ref 120), (1, .ref a1), (2, .int X2), (3, .int X3), (4, .int X4), (5, .int X5)]) (Ps := []) (rest := [.int X5]) hq (z_at.mk 3 rfl rfl) (Or.inl ⟨rfl, rfl⟩) rfl rfl (by decide) (by decide) rfl (Nat.not_lt.mpr (Nat.le_of_ble_eq_true rfl)) rfl rfl (z_cat_le 1 rfl (by decide)) (z_lgl_le 1 rfl (by decide)) (by decide) (H.tg9 (zIn_all (l := [1, 2, 3, 4, 5, 6, 7, 8, 9, 10, 11, 12, 13, 14, 15, 16, 17, 18]) (p := fun a => zIn [1, 2, 3, 4, 5, 6, 7, 8, 9, 10, 11, 12, 13, 14, 15, 16, 17, 18] a) rfl ha1)) (by omega) (g_jString_length_ok (zIn_all (l := [1, 2, 3, 4, 5, 6, 7, 8, 9, 10, 11, 12, 13, 14, 15, 16, 17, 18]) (p := fun a => zIn [1, 2, 3, 4, 5, 6, 7, 8, 9, 10, 11, 12, 13, 14, 15, 16, 17, 18] a) rfl ha1) H h_59) rfl rfl ?_
    intro R_59 m_59 p_59 e_59 hR_59 H_59
    subst e_59
    rcases z_ite h with ⟨c_62, h⟩ | ⟨c_62, h⟩
    · refine r_t2 (pc' := 115) (L' := [(0, .ref 120), (1, .ref a1), (2, .int X2), (3, .int X3), (4, .int X4), (5, .int X5)]) hq (z_at.mk 3 rfl rfl) rfl hx5 hR_59 c_62 rfl rfl ?_
      refine r_p hq 2 (pc' := 117) (L' := [(0, .ref 120), (1, .ref a1), (2, .int X2), (3, .int X3), (4, .int X4), (5, .int X5)]) (st' := [.int X2, .ref 120]) rfl ?_
      obtain ⟨o_117, h_117, h⟩ := Option.bind_eq_some_iff.mp h
      refine r_cvV (pc' := 120) (L' := [(0, .ref 120), (1, .ref a1), (2, .int X2), (3, .int X3), (4, .int X4), (5, .int X5)]) (Ps := [.int X2]) (rest := []) hq (z_at.mk 3 rfl rfl) (Or.inl ⟨rfl, rfl⟩) rfl rfl (by decide) (by decide) rfl (Nat.not_lt.mpr (Nat.le_of_ble_eq_true rfl)) rfl rfl (z_cat_le 0 rfl (by decide)) (z_lgl_le 2 rfl (by decide)) (by decide) (H_59.tg rfl) (by omega) (g_ta_blame_ok hx2 H_59 h_117) rfl rfl ?_
      intro m_117 p_117 e_117 H_117
      subst e_117
      refine r_p hq 1 (pc' := 121) (L' := [(0, .ref 120), (1, .ref a1), (2, .int X2), (3, .int X3), (4, .int X4), (5, .int X5)]) (st' := [.int ((-1 : Int32))]) rfl ?_
      cases h
      exact r_ri hq (z_at.mk 1 rfl rfl) rfl rfl (rfl : (-1 : Int32).toInt = -1) rfl H_117
    · refine r_f2 (pc' := 65) (L' := [(0, .ref 120), (1, .ref a1), (2, .int X2), (3, .int X3), (4, .int X4), (5, .int X5)]) hq (z_at.mk 3 rfl rfl) rfl hx5 hR_59 c_62 rfl rfl ?_
      refine r_p hq 2 (pc' := 68) (L' := [(0, .ref 120), (1, .ref a1), (2, .int X2), (3, .int X3), (4, .int X4), (5, .int X5)]) (st' := [.ref a1, .int X5]) rfl ?_
      obtain ⟨o_68, h_68, h⟩ := Option.bind_eq_some_iff.mp h
      refine r_cvI (pc' := 71) (L' := [(0, .ref 120), (1, .ref a1), (2, .int X2), (3, .int X3), (4, .int X4), (5, .int X5)]) (Ps := []) (rest := [.int X5]) hq (z_at.mk 3 rfl rfl) (Or.inl ⟨rfl, rfl⟩) rfl rfl (by decide) (by decide) rfl (Nat.not_lt.mpr (Nat.le_of_ble_eq_true rfl)) rfl rfl (z_cat_le 1 rfl (by decide)) (z_lgl_le 1 rfl (by decide)) (by decide) (H_59.tg9 (zIn_all (l := [1, 2, 3, 4, 5, 6, 7, 8, 9, 10, 11, 12, 13, 14, 15, 16, 17, 18]) (p := fun a => zIn [1, 2, 3, 4, 5, 6, 7, 8, 9, 10, 11, 12, 13, 14, 15, 16, 17, 18] a) rfl ha1)) (by omega) (g_jString_length_ok (zIn_all (l := [1, 2, 3, 4, 5, 6, 7, 8, 9, 10, 11, 12, 13, 14, 15, 16, 17, 18]) (p := fun a => zIn [1, 2, 3, 4, 5, 6, 7, 8, 9, 10, 11, 12, 13, 14, 15, 16, 17, 18] a) rfl ha1) H_59 h_68) rfl rfl ?_
      intro R_68 m_68 p_68 e_68 hR_68 H_68
      subst e_68
      rcases z_ite h with ⟨c_71, h⟩ | ⟨c_71, h⟩
      · refine r_t2 (pc' := 85) (L' := [(0, .ref 120), (1, .ref a1), (2, .int X2), (3, .int X3), (4, .int X4), (5, .int X5)]) hq (z_at.mk 3 rfl rfl) rfl hx5 hR_68 c_71 rfl rfl ?_
        exact g_ta_word_L85_ok ha1 ih hx2 hx3 hx4 hx5 H_68 h
      · refine r_f2 (pc' := 74) (L' := [(0, .ref 120), (1, .ref a1), (2, .int X2), (3, .int X3), (4, .int X4), (5, .int X5)]) hq (z_at.mk 3 rfl rfl) rfl hx5 hR_68 c_71 rfl rfl ?_
        refine r_p hq 2 (pc' := 77) (L' := [(0, .ref 120), (1, .ref a1), (2, .int X2), (3, .int X3), (4, .int X4), (5, .int X5)]) (st' := [.int X5, .ref a1]) rfl ?_
        obtain ⟨o_77, h_77, h⟩ := Option.bind_eq_some_iff.mp h
        refine r_cvI (pc' := 80) (L' := [(0, .ref 120), (1, .ref a1), (2, .int X2), (3, .int X3), (4, .int X4), (5, .int X5)]) (Ps := [.int X5]) (rest := []) hq (z_at.mk 3 rfl rfl) (Or.inl ⟨rfl, rfl⟩) rfl rfl (by decide) (by decide) rfl (Nat.not_lt.mpr (Nat.le_of_ble_eq_true rfl)) rfl rfl (z_cat_le 0 rfl (by decide)) (z_lgl_le 2 rfl (by decide)) (by decide) (H_68.tg9 (zIn_all (l := [1, 2, 3, 4, 5, 6, 7, 8, 9, 10, 11, 12, 13, 14, 15, 16, 17, 18]) (p := fun a => zIn [1, 2, 3, 4, 5, 6, 7, 8, 9, 10, 11, 12, 13, 14, 15, 16, 17, 18] a) rfl ha1)) (by omega) (g_jString_charAt_ok (zIn_all (l := [1, 2, 3, 4, 5, 6, 7, 8, 9, 10, 11, 12, 13, 14, 15, 16, 17, 18]) (p := fun a => zIn [1, 2, 3, 4, 5, 6, 7, 8, 9, 10, 11, 12, 13, 14, 15, 16, 17, 18] a) rfl ha1) hx5 H_68 h_77) rfl rfl ?_
        intro R_77 m_77 p_77 e_77 hR_77 H_77
        subst e_77
        refine r_p hq 1 (pc' := 82) (L' := [(0, .ref 120), (1, .ref a1), (2, .int X2), (3, .int X3), (4, .int X4), (5, .int X5)]) (st' := [.int ((32 : Int32)), .int R_77]) rfl ?_
        rcases z_ite h with ⟨c_82, h⟩ | ⟨c_82, h⟩
        · refine r_t2 (pc' := 109) (L' := [(0, .ref 120), (1, .ref a1), (2, .int X2), (3, .int X3), (4, .int X4), (5, .int X5)]) hq (z_at.mk 3 rfl rfl) rfl hR_77 (rfl : (32 : Int32).toInt = 32) c_82 rfl rfl ?_
          exact g_ta_word_L109_ok ha1 ih hx2 hx3 hx4 hx5 H_77 h
        · refine r_f2 (pc' := 85) (L' := [(0, .ref 120), (1, .ref a1), (2, .int X2), (3, .int X3), (4, .int X4), (5, .int X5)]) hq (z_at.mk 3 rfl rfl) rfl hR_77 (rfl : (32 : Int32).toInt = 32) c_82 rfl rfl ?_
          exact g_ta_word_L85_ok ha1 ih hx2 hx3 hx4 hx5 H_77 h
def g_ta_word_L48 (a1 : Nat) (x2 : Int) (σ : zS) : Option (Int × zS) :=
  g_ta_word_L56 a1 zK x2 0 0 0 σ
set_option maxHeartbeats 4000000 in
theorem g_ta_word_L48_ok {xl : Nat} {xs : Nat → Int32} {a1 : Nat} (ha1 : zIn [1, 2, 3, 4, 5, 6, 7, 8, 9, 10, 11, 12, 13, 14, 15, 16, 17, 18] a1 = true) {X2 : Int32} {x2 : Int} (hx2 : X2.toInt = x2) {σ : zS} {p : Nat} {m : zM} {o : Int × zS} (H : zRep xl xs p m σ) (h : g_ta_word_L48 a1 x2 σ = some o) : zGo xl xs (fun p' => p = p') 4 102 48 [(0, .ref 120), (1, .ref a1), (2, .int X2)] [] m (vI o.1) o.2 := by
  have hq : z_mth 102 = some z_r102 := rfl
  unfold g_ta_word_L48 at h
  refine r_p hq 6 (pc' := 56) (L' := [(0, .ref 120), (1, .ref a1), (2, .int X2), (3, .int ((0 : Int32))), (4, .int ((0 : Int32))), (5, .int ((0 : Int32)))]) (st' := []) rfl ?_
  exact g_ta_word_L56_ok ha1 zK hx2 (rfl : (0 : Int32).toInt = 0) (rfl : (0 : Int32).toInt = 0) (rfl : (0 : Int32).toInt = 0) H h
def g_ta_word_L7 (a1 : Nat) : Nat → Int → Int → zS → Option (Int × zS)
  | 0, _, _, _ => none
  | n + 1, x2, x3, σ =>
    if 160 ≤ x3 then
      g_ta_word_L48 a1 x2 σ
    else
      (g_ta_here σ).bind fun o_15 =>
      if o_15.1 < 97 then
        g_ta_word_L48 a1 x2 o_15.2
      else
        (g_ta_here o_15.2).bind fun o_24 =>
        if 122 < o_24.1 then
          g_ta_word_L48 a1 x2 o_24.2
        else
          let v_34 := o_24.2 120 2
          let s_39 := zu o_24.2 120 2 (w32 (v_34 + 1))
          (g_ta_word_L7 a1 n) x2 (w32 (x3 + 1)) s_39
set_option maxHeartbeats 4000000 in
theorem g_ta_word_L7_ok {xl : Nat} {xs : Nat → Int32} {a1 : Nat} (ha1 : zIn [1, 2, 3, 4, 5, 6, 7, 8, 9, 10, 11, 12, 13, 14, 15, 16, 17, 18] a1 = true) : ∀ (n : Nat) {X2 : Int32} {x2 : Int} {X3 : Int32} {x3 : Int} {σ : zS} {p : Nat} {m : zM} {o : Int × zS}, X2.toInt = x2 → X3.toInt = x3 → zRep xl xs p m σ → g_ta_word_L7 a1 n x2 x3 σ = some o → zGo xl xs (fun p' => p = p') 4 102 7 [(0, .ref 120), (1, .ref a1), (2, .int X2), (3, .int X3)] [] m (vI o.1) o.2
  | 0, _, _, _, _, _, _, _, _, _, _, _, h => by cases h
  | n + 1, X2, x2, X3, x3, σ, p, m, o, hx2, hx3, H, h => by
    have hq : z_mth 102 = some z_r102 := rfl
    have ih := fun {X2 : Int32} {x2 : Int} {X3 : Int32} {x3 : Int} {σ : zS} {p : Nat} {m : zM} {o : Int × zS} => g_ta_word_L7_ok (xl := xl) (xs := xs) ha1 n (X2 := X2) (x2 := x2) (X3 := X3) (x3 := x3) (σ := σ) (p := p) (m := m) (o := o)
    unfold g_ta_word_L7 at h
    refine r_p hq 2 (pc' := 11) (L' := [(0, .ref 120), (1, .ref a1), (2, .int X2), (3, .int X3)]) (st' := [.int ((160 : Int32)), .int X3]) rfl ?_
    rcases z_ite h with ⟨c_11, h⟩ | ⟨c_11, h⟩
    · refine r_t2 (pc' := 48) (L' := [(0, .ref 120), (1, .ref a1), (2, .int X2)]) hq (z_at.mk 3 rfl rfl) rfl hx3 (rfl : (160 : Int32).toInt = 160) c_11 rfl rfl ?_
      exact g_ta_word_L48_ok ha1 hx2 H h
    · refine r_f2 (pc' := 14) (L' := [(0, .ref 120), (1, .ref a1), (2, .int X2), (3, .int X3)]) hq (z_at.mk 3 rfl rfl) rfl hx3 (rfl : (160 : Int32).toInt = 160) c_11 rfl rfl ?_
      refine r_p hq 1 (pc' := 15) (L' := [(0, .ref 120), (1, .ref a1), (2, .int X2), (3, .int X3)]) (st' := [.ref 120]) rfl ?_
      obtain ⟨o_15, h_15, h⟩ := Option.bind_eq_some_iff.mp h
      refine r_cvI (pc' := 18) (L' := [(0, .ref 120), (1, .ref a1), (2, .int X2), (3, .int X3)]) (Ps := []) (rest := []) hq (z_at.mk 3 rfl rfl) (Or.inl ⟨rfl, rfl⟩) rfl rfl (by decide) (by decide) rfl (Nat.not_lt.mpr (Nat.le_of_ble_eq_true rfl)) rfl rfl (z_cat_le 0 rfl (by decide)) (z_lgl_le 1 rfl (by decide)) (by decide) (H.tg rfl) (by omega) (g_ta_here_ok H h_15) rfl rfl ?_
      intro R_15 m_15 p_15 e_15 hR_15 H_15
      subst e_15
      refine r_p hq 1 (pc' := 20) (L' := [(0, .ref 120), (1, .ref a1), (2, .int X2), (3, .int X3)]) (st' := [.int ((97 : Int32)), .int R_15]) rfl ?_
      rcases z_ite h with ⟨c_20, h⟩ | ⟨c_20, h⟩
      · refine r_t2 (pc' := 48) (L' := [(0, .ref 120), (1, .ref a1), (2, .int X2)]) hq (z_at.mk 3 rfl rfl) rfl hR_15 (rfl : (97 : Int32).toInt = 97) c_20 rfl rfl ?_
        exact g_ta_word_L48_ok ha1 hx2 H_15 h
      · refine r_f2 (pc' := 23) (L' := [(0, .ref 120), (1, .ref a1), (2, .int X2), (3, .int X3)]) hq (z_at.mk 3 rfl rfl) rfl hR_15 (rfl : (97 : Int32).toInt = 97) c_20 rfl rfl ?_
        refine r_p hq 1 (pc' := 24) (L' := [(0, .ref 120), (1, .ref a1), (2, .int X2), (3, .int X3)]) (st' := [.ref 120]) rfl ?_
        obtain ⟨o_24, h_24, h⟩ := Option.bind_eq_some_iff.mp h
        refine r_cvI (pc' := 27) (L' := [(0, .ref 120), (1, .ref a1), (2, .int X2), (3, .int X3)]) (Ps := []) (rest := []) hq (z_at.mk 3 rfl rfl) (Or.inl ⟨rfl, rfl⟩) rfl rfl (by decide) (by decide) rfl (Nat.not_lt.mpr (Nat.le_of_ble_eq_true rfl)) rfl rfl (z_cat_le 0 rfl (by decide)) (z_lgl_le 1 rfl (by decide)) (by decide) (H_15.tg rfl) (by omega) (g_ta_here_ok H_15 h_24) rfl rfl ?_
        intro R_24 m_24 p_24 e_24 hR_24 H_24
        subst e_24
        refine r_p hq 1 (pc' := 29) (L' := [(0, .ref 120), (1, .ref a1), (2, .int X2), (3, .int X3)]) (st' := [.int ((122 : Int32)), .int R_24]) rfl ?_
        rcases z_ite h with ⟨c_29, h⟩ | ⟨c_29, h⟩
        · refine r_t2 (pc' := 48) (L' := [(0, .ref 120), (1, .ref a1), (2, .int X2)]) hq (z_at.mk 3 rfl rfl) rfl hR_24 (rfl : (122 : Int32).toInt = 122) c_29 rfl rfl ?_
          exact g_ta_word_L48_ok ha1 hx2 H_24 h
        · refine r_f2 (pc' := 32) (L' := [(0, .ref 120), (1, .ref a1), (2, .int X2), (3, .int X3)]) hq (z_at.mk 3 rfl rfl) rfl hR_24 (rfl : (122 : Int32).toInt = 122) c_29 rfl rfl ?_
          refine r_p hq 2 (pc' := 34) (L' := [(0, .ref 120), (1, .ref a1), (2, .int X2), (3, .int X3)]) (st' := [.ref 120, .ref 120]) rfl ?_
          refine r_gI (pc' := 37) (L' := [(0, .ref 120), (1, .ref a1), (2, .int X2), (3, .int X3)]) H_24 hq (z_at.mk 3 rfl rfl) rfl rfl rfl rfl ?_
          intro V_34 hV_34
          refine r_p hq 2 (pc' := 39) (L' := [(0, .ref 120), (1, .ref a1), (2, .int X2), (3, .int X3)]) (st' := [.int (V_34 + ((1 : Int32))), .ref 120]) rfl ?_
          refine r_pI (X := V_34 + ((1 : Int32))) (pc' := 42) (L' := [(0, .ref 120), (1, .ref a1), (2, .int X2), (3, .int X3)]) H_24 hq (z_at.mk 3 rfl rfl) rfl rfl (tx_iadd hV_34 (rfl : (1 : Int32).toInt = 1)) (by decide) rfl rfl rfl rfl ?_
          intro m_39 H_39
          refine r_p hq 2 (pc' := 7) (L' := [(0, .ref 120), (1, .ref a1), (2, .int X2), (3, .int (X3 + (1 : Int32)))]) (st' := []) rfl ?_
          exact ih hx2 (tx_iadd hx3 (rfl : (1 : Int32).toInt = 1)) H_39 h
def g_ta_word (a1 : Nat) (σ : zS) : Option (Int × zS) :=
  let v_1 := σ 120 2
  g_ta_word_L7 a1 zK v_1 0 σ
set_option maxHeartbeats 4000000 in
theorem g_ta_word_ok {xl : Nat} {xs : Nat → Int32} {a1 : Nat} (ha1 : zIn [1, 2, 3, 4, 5, 6, 7, 8, 9, 10, 11, 12, 13, 14, 15, 16, 17, 18] a1 = true) {σ : zS} {p : Nat} {m : zM} {o : Int × zS} (H : zRep xl xs p m σ) (h : g_ta_word a1 σ = some o) : zGo xl xs (fun p' => p = p') 4 102 0 (z_can 102 0 (lv_args 0 [.ref 120, .ref a1])) [] m (vI o.1) o.2 := by
  have hq : z_mth 102 = some z_r102 := rfl
  unfold g_ta_word at h
  show zGo xl xs (fun p' => p = p') 4 102 0 [(0, .ref 120), (1, .ref a1)] [] m (vI o.1) o.2
  refine r_p hq 1 (pc' := 1) (L' := [(0, .ref 120), (1, .ref a1)]) (st' := [.ref 120]) rfl ?_
  refine r_gI (pc' := 4) (L' := [(0, .ref 120), (1, .ref a1)]) H hq (z_at.mk 3 rfl rfl) rfl rfl rfl rfl ?_
  intro V_1 hV_1
  refine r_p hq 3 (pc' := 7) (L' := [(0, .ref 120), (1, .ref a1), (2, .int V_1), (3, .int ((0 : Int32)))]) (st' := []) rfl ?_
  exact g_ta_word_L7_ok ha1 zK hV_1 (rfl : (0 : Int32).toInt = 0) H h
def g_qu_readIf (σ : zS) : Option (Int × zS) :=
  (g_ta_takes 32 σ).bind fun o_6 =>
  if o_6.1 ≠ 0 then
    (g_ta_word 5 o_6.2).bind fun o_22 =>
    (g_ta_wants 32 o_22.2).bind fun o_32 =>
    (g_grp68 zR 68 0 o_32.2).bind fun o_37 =>
    some (o_37.1, o_37.2)
  else
    some (-1, o_6.2)
set_option maxHeartbeats 4000000 in
theorem g_qu_readIf_ok {xl : Nat} {xs : Nat → Int32} {σ : zS} {p : Nat} {m : zM} {o : Int × zS} (H : zRep xl xs p m σ) (h : g_qu_readIf σ = some o) : zGo xl xs (fun p' => p = p') 507 67 0 (z_can 67 0 (lv_args 0 [.ref 122])) [] m (vL o.1) o.2 := by
  have hq : z_mth 67 = some z_r67 := rfl
  unfold g_qu_readIf at h
  show zGo xl xs (fun p' => p = p') 507 67 0 [(0, .ref 122)] [] m (vL o.1) o.2
  refine r_p hq 1 (pc' := 1) (L' := [(0, .ref 122)]) (st' := [.ref 122]) rfl ?_
  refine r_gR (b := 120) (pc' := 4) (L' := [(0, .ref 122)]) H hq (z_at.mk 3 rfl rfl) rfl rfl rfl rfl ?_
  refine r_p hq 1 (pc' := 6) (L' := [(0, .ref 122)]) (st' := [.int ((32 : Int32)), .ref 120]) rfl ?_
  obtain ⟨o_6, h_6, h⟩ := Option.bind_eq_some_iff.mp h
  refine r_cvI (pc' := 9) (L' := [(0, .ref 122)]) (Ps := [.int ((32 : Int32))]) (rest := []) hq (z_at.mk 3 rfl rfl) (Or.inl ⟨rfl, rfl⟩) rfl rfl (by decide) (by decide) rfl (Nat.not_lt.mpr (Nat.le_of_ble_eq_true rfl)) rfl rfl (z_cat_le 0 rfl (by decide)) (z_lgl_le 2 rfl (by decide)) (by decide) (H.tg rfl) (by omega) (g_ta_takes_ok (rfl : (32 : Int32).toInt = 32) H h_6) rfl rfl ?_
  intro R_6 m_6 p_6 e_6 hR_6 H_6
  subst e_6
  rcases z_ite h with ⟨c_9, h⟩ | ⟨c_9, h⟩
  · refine r_t1 (pc' := 16) (L' := [(0, .ref 122)]) hq (z_at.mk 3 rfl rfl) rfl hR_6 c_9 rfl rfl ?_
    refine r_p hq 1 (pc' := 17) (L' := [(0, .ref 122)]) (st' := [.ref 122]) rfl ?_
    refine r_gR (b := 120) (pc' := 20) (L' := [(0, .ref 122)]) H_6 hq (z_at.mk 3 rfl rfl) rfl rfl rfl rfl ?_
    refine r_p hq 1 (pc' := 22) (L' := [(0, .ref 122)]) (st' := [.ref 5, .ref 120]) rfl ?_
    obtain ⟨o_22, h_22, h⟩ := Option.bind_eq_some_iff.mp h
    refine r_cvI (pc' := 25) (L' := [(0, .ref 122)]) (Ps := [.ref 5]) (rest := []) hq (z_at.mk 3 rfl rfl) (Or.inl ⟨rfl, rfl⟩) rfl rfl (by decide) (by decide) rfl (Nat.not_lt.mpr (Nat.le_of_ble_eq_true rfl)) rfl rfl (z_cat_le 0 rfl (by decide)) (z_lgl_le 2 rfl (by decide)) (by decide) (H_6.tg rfl) (by omega) (g_ta_word_ok rfl H_6 h_22) rfl rfl ?_
    intro R_22 m_22 p_22 e_22 hR_22 H_22
    subst e_22
    refine r_p hq 2 (pc' := 27) (L' := [(0, .ref 122)]) (st' := [.ref 122]) rfl ?_
    refine r_gR (b := 120) (pc' := 30) (L' := [(0, .ref 122)]) H_22 hq (z_at.mk 3 rfl rfl) rfl rfl rfl rfl ?_
    refine r_p hq 1 (pc' := 32) (L' := [(0, .ref 122)]) (st' := [.int ((32 : Int32)), .ref 120]) rfl ?_
    obtain ⟨o_32, h_32, h⟩ := Option.bind_eq_some_iff.mp h
    refine r_cvV (pc' := 35) (L' := [(0, .ref 122)]) (Ps := [.int ((32 : Int32))]) (rest := []) hq (z_at.mk 3 rfl rfl) (Or.inl ⟨rfl, rfl⟩) rfl rfl (by decide) (by decide) rfl (Nat.not_lt.mpr (Nat.le_of_ble_eq_true rfl)) rfl rfl (z_cat_le 0 rfl (by decide)) (z_lgl_le 2 rfl (by decide)) (by decide) (H_22.tg rfl) (by omega) (g_ta_wants_ok (rfl : (32 : Int32).toInt = 32) H_22 h_32) rfl rfl ?_
    intro m_32 p_32 e_32 H_32
    subst e_32
    refine r_p hq 2 (pc' := 37) (L' := [(0, .ref 122)]) (st' := [.int ((0 : Int32)), .ref 122]) rfl ?_
    obtain ⟨o_37, h_37, h⟩ := Option.bind_eq_some_iff.mp h
    refine r_cvL (pc' := 40) (L' := [(0, .ref 122)]) (Ps := [.int ((0 : Int32))]) (rest := []) hq (z_at.mk 3 rfl rfl) (Or.inl ⟨rfl, rfl⟩) rfl rfl (by decide) (by decide) rfl (Nat.not_lt.mpr (Nat.le_of_ble_eq_true rfl)) rfl rfl (z_cat_le 0 rfl (by decide)) (z_lgl_le 2 rfl (by decide)) (by decide) (H_32.tg rfl) (by show 6 + zR + 1 ≤ _; unfold zR; omega) (g_grp68_ok zR 68 (by simp) (rfl : (0 : Int32).toInt = 0) H_32 h_37) rfl rfl ?_
    intro R_37 m_37 p_37 e_37 hR_37 H_37
    subst e_37
    cases h
    exact r_rl hq (z_at.mk 1 rfl rfl) rfl hR_37 rfl H_37
  · refine r_f1 (pc' := 12) (L' := [(0, .ref 122)]) hq (z_at.mk 3 rfl rfl) rfl hR_6 c_9 rfl rfl ?_
    refine r_p hq 1 (pc' := 15) (L' := [(0, .ref 122)]) (st' := [.long ((-1 : Int64))]) rfl ?_
    cases h
    exact r_rl hq (z_at.mk 1 rfl rfl) rfl (rfl : (-1 : Int64).toInt = -1) rfl H_6
def g_ta_another_L15 (σ : zS) : Option (Int × zS) :=
  (g_ta_here σ).bind fun o_16 =>
  if o_16.1 = 0 then
    some (0, o_16.2)
  else
    let v_24 := o_16.2 120 2
    (g_ta_blame v_24 o_16.2).bind fun o_27 =>
    some (0, o_27.2)
set_option maxHeartbeats 4000000 in
theorem g_ta_another_L15_ok {xl : Nat} {xs : Nat → Int32} {σ : zS} {p : Nat} {m : zM} {o : Int × zS} (H : zRep xl xs p m σ) (h : g_ta_another_L15 σ = some o) : zGo xl xs (fun p' => p = p') 3 100 15 [(0, .ref 120)] [] m (vI o.1) o.2 := by
  have hq : z_mth 100 = some z_r100 := rfl
  unfold g_ta_another_L15 at h
  refine r_p hq 1 (pc' := 16) (L' := [(0, .ref 120)]) (st' := [.ref 120]) rfl ?_
  obtain ⟨o_16, h_16, h⟩ := Option.bind_eq_some_iff.mp h
  refine r_cvI (pc' := 19) (L' := [(0, .ref 120)]) (Ps := []) (rest := []) hq (z_at.mk 3 rfl rfl) (Or.inl ⟨rfl, rfl⟩) rfl rfl (by decide) (by decide) rfl (Nat.not_lt.mpr (Nat.le_of_ble_eq_true rfl)) rfl rfl (z_cat_le 0 rfl (by decide)) (z_lgl_le 1 rfl (by decide)) (by decide) (H.tg rfl) (by omega) (g_ta_here_ok H h_16) rfl rfl ?_
  intro R_16 m_16 p_16 e_16 hR_16 H_16
  subst e_16
  rcases z_ite h with ⟨c_19, h⟩ | ⟨c_19, h⟩
  · refine r_t1 (pc' := 30) (L' := []) hq (z_at.mk 3 rfl rfl) rfl hR_16 c_19 rfl rfl ?_
    refine r_p hq 1 (pc' := 31) (L' := []) (st' := [.int ((0 : Int32))]) rfl ?_
    cases h
    exact r_ri hq (z_at.mk 1 rfl rfl) rfl rfl (rfl : (0 : Int32).toInt = 0) rfl H_16
  · refine r_f1 (pc' := 22) (L' := [(0, .ref 120)]) hq (z_at.mk 3 rfl rfl) rfl hR_16 c_19 rfl rfl ?_
    refine r_p hq 2 (pc' := 24) (L' := [(0, .ref 120)]) (st' := [.ref 120, .ref 120]) rfl ?_
    refine r_gI (pc' := 27) (L' := [(0, .ref 120)]) H_16 hq (z_at.mk 3 rfl rfl) rfl rfl rfl rfl ?_
    intro V_24 hV_24
    obtain ⟨o_27, h_27, h⟩ := Option.bind_eq_some_iff.mp h
    refine r_cvV (pc' := 30) (L' := []) (Ps := [.int V_24]) (rest := []) hq (z_at.mk 3 rfl rfl) (Or.inl ⟨rfl, rfl⟩) rfl rfl (by decide) (by decide) rfl (Nat.not_lt.mpr (Nat.le_of_ble_eq_true rfl)) rfl rfl (z_cat_le 0 rfl (by decide)) (z_lgl_le 2 rfl (by decide)) (by decide) (H_16.tg rfl) (by omega) (g_ta_blame_ok hV_24 H_16 h_27) rfl rfl ?_
    intro m_27 p_27 e_27 H_27
    subst e_27
    refine r_p hq 1 (pc' := 31) (L' := []) (st' := [.int ((0 : Int32))]) rfl ?_
    cases h
    exact r_ri hq (z_at.mk 1 rfl rfl) rfl rfl (rfl : (0 : Int32).toInt = 0) rfl H_27
def g_ta_another (x1 : Int) (σ : zS) : Option (Int × zS) :=
  if x1 = 0 then
    g_ta_another_L15 σ
  else
    (g_ta_takes 59 σ).bind fun o_7 =>
    if o_7.1 = 0 then
      g_ta_another_L15 o_7.2
    else
      some (1, o_7.2)
set_option maxHeartbeats 4000000 in
theorem g_ta_another_ok {xl : Nat} {xs : Nat → Int32} {X1 : Int32} {x1 : Int} (hx1 : X1.toInt = x1) {σ : zS} {p : Nat} {m : zM} {o : Int × zS} (H : zRep xl xs p m σ) (h : g_ta_another x1 σ = some o) : zGo xl xs (fun p' => p = p') 3 100 0 (z_can 100 0 (lv_args 0 [.ref 120, .int X1])) [] m (vI o.1) o.2 := by
  have hq : z_mth 100 = some z_r100 := rfl
  unfold g_ta_another at h
  show zGo xl xs (fun p' => p = p') 3 100 0 [(0, .ref 120), (1, .int X1)] [] m (vI o.1) o.2
  refine r_p hq 1 (pc' := 1) (L' := [(0, .ref 120), (1, .int X1)]) (st' := [.int X1]) rfl ?_
  rcases z_ite h with ⟨c_1, h⟩ | ⟨c_1, h⟩
  · refine r_t1 (pc' := 15) (L' := [(0, .ref 120)]) hq (z_at.mk 3 rfl rfl) rfl hx1 c_1 rfl rfl ?_
    exact g_ta_another_L15_ok  H h
  · refine r_f1 (pc' := 4) (L' := [(0, .ref 120), (1, .int X1)]) hq (z_at.mk 3 rfl rfl) rfl hx1 c_1 rfl rfl ?_
    refine r_p hq 2 (pc' := 7) (L' := [(0, .ref 120), (1, .int X1)]) (st' := [.int ((59 : Int32)), .ref 120]) rfl ?_
    obtain ⟨o_7, h_7, h⟩ := Option.bind_eq_some_iff.mp h
    refine r_cvI (pc' := 10) (L' := [(0, .ref 120), (1, .int X1)]) (Ps := [.int ((59 : Int32))]) (rest := []) hq (z_at.mk 3 rfl rfl) (Or.inl ⟨rfl, rfl⟩) rfl rfl (by decide) (by decide) rfl (Nat.not_lt.mpr (Nat.le_of_ble_eq_true rfl)) rfl rfl (z_cat_le 0 rfl (by decide)) (z_lgl_le 2 rfl (by decide)) (by decide) (H.tg rfl) (by omega) (g_ta_takes_ok (rfl : (59 : Int32).toInt = 59) H h_7) rfl rfl ?_
    intro R_7 m_7 p_7 e_7 hR_7 H_7
    subst e_7
    rcases z_ite h with ⟨c_10, h⟩ | ⟨c_10, h⟩
    · refine r_t1 (pc' := 15) (L' := [(0, .ref 120)]) hq (z_at.mk 3 rfl rfl) rfl hR_7 c_10 rfl rfl ?_
      exact g_ta_another_L15_ok  H_7 h
    · refine r_f1 (pc' := 13) (L' := [(0, .ref 120), (1, .int X1)]) hq (z_at.mk 3 rfl rfl) rfl hR_7 c_10 rfl rfl ?_
      refine r_p hq 1 (pc' := 14) (L' := [(0, .ref 120), (1, .int X1)]) (st' := [.int ((1 : Int32))]) rfl ?_
      cases h
      exact r_ri hq (z_at.mk 1 rfl rfl) rfl rfl (rfl : (1 : Int32).toInt = 1) rfl H_7
def g_ta_range (σ : zS) : Option (Int × zS) :=
  (g_ta_takes 42 σ).bind fun o_3 =>
  if o_3.1 = 0 then
    (g_ta_number 2 0 31 o_3.2).bind fun o_17 =>
    (g_ta_takes 45 o_17.2).bind fun o_28 =>
    if o_28.1 = 0 then
      some (w32 ((w32 (o_17.1 * 32)) + o_17.1), o_28.2)
    else
      (g_ta_number 2 o_17.1 31 o_28.2).bind fun o_39 =>
      some (w32 ((w32 (o_17.1 * 32)) + o_39.1), o_39.2)
  else
    some (31, o_3.2)
set_option maxHeartbeats 4000000 in
theorem g_ta_range_ok {xl : Nat} {xs : Nat → Int32} {σ : zS} {p : Nat} {m : zM} {o : Int × zS} (H : zRep xl xs p m σ) (h : g_ta_range σ = some o) : zGo xl xs (fun p' => p = p') 3 106 0 (z_can 106 0 (lv_args 0 [.ref 120])) [] m (vI o.1) o.2 := by
  have hq : z_mth 106 = some z_r106 := rfl
  unfold g_ta_range at h
  show zGo xl xs (fun p' => p = p') 3 106 0 [(0, .ref 120)] [] m (vI o.1) o.2
  refine r_p hq 2 (pc' := 3) (L' := [(0, .ref 120)]) (st' := [.int ((42 : Int32)), .ref 120]) rfl ?_
  obtain ⟨o_3, h_3, h⟩ := Option.bind_eq_some_iff.mp h
  refine r_cvI (pc' := 6) (L' := [(0, .ref 120)]) (Ps := [.int ((42 : Int32))]) (rest := []) hq (z_at.mk 3 rfl rfl) (Or.inl ⟨rfl, rfl⟩) rfl rfl (by decide) (by decide) rfl (Nat.not_lt.mpr (Nat.le_of_ble_eq_true rfl)) rfl rfl (z_cat_le 0 rfl (by decide)) (z_lgl_le 2 rfl (by decide)) (by decide) (H.tg rfl) (by omega) (g_ta_takes_ok (rfl : (42 : Int32).toInt = 42) H h_3) rfl rfl ?_
  intro R_3 m_3 p_3 e_3 hR_3 H_3
  subst e_3
  rcases z_ite h with ⟨c_6, h⟩ | ⟨c_6, h⟩
  · refine r_t1 (pc' := 12) (L' := [(0, .ref 120)]) hq (z_at.mk 3 rfl rfl) rfl hR_3 c_6 rfl rfl ?_
    refine r_p hq 4 (pc' := 17) (L' := [(0, .ref 120)]) (st' := [.int ((31 : Int32)), .int ((0 : Int32)), .int ((2 : Int32)), .ref 120]) rfl ?_
    obtain ⟨o_17, h_17, h⟩ := Option.bind_eq_some_iff.mp h
    refine r_cvI (pc' := 20) (L' := [(0, .ref 120)]) (Ps := [.int ((2 : Int32)), .int ((0 : Int32)), .int ((31 : Int32))]) (rest := []) hq (z_at.mk 3 rfl rfl) (Or.inl ⟨rfl, rfl⟩) rfl rfl (by decide) (by decide) rfl (Nat.not_lt.mpr (Nat.le_of_ble_eq_true rfl)) rfl rfl (z_cat_le 0 rfl (by decide)) (z_lgl_le 4 rfl (by decide)) (by decide) (H_3.tg rfl) (by omega) (g_ta_number_ok (rfl : (2 : Int32).toInt = 2) (rfl : (0 : Int32).toInt = 0) (rfl : (31 : Int32).toInt = 31) H_3 h_17) rfl rfl ?_
    intro R_17 m_17 p_17 e_17 hR_17 H_17
    subst e_17
    refine r_p hq 6 (pc' := 28) (L' := [(1, .int R_17), (0, .ref 120)]) (st' := [.int ((45 : Int32)), .ref 120, .int (R_17 * ((32 : Int32)))]) rfl ?_
    obtain ⟨o_28, h_28, h⟩ := Option.bind_eq_some_iff.mp h
    refine r_cvI (pc' := 31) (L' := [(1, .int R_17), (0, .ref 120)]) (Ps := [.int ((45 : Int32))]) (rest := [.int (R_17 * ((32 : Int32)))]) hq (z_at.mk 3 rfl rfl) (Or.inl ⟨rfl, rfl⟩) rfl rfl (by decide) (by decide) rfl (Nat.not_lt.mpr (Nat.le_of_ble_eq_true rfl)) rfl rfl (z_cat_le 1 rfl (by decide)) (z_lgl_le 2 rfl (by decide)) (by decide) (H_17.tg rfl) (by omega) (g_ta_takes_ok (rfl : (45 : Int32).toInt = 45) H_17 h_28) rfl rfl ?_
    intro R_28 m_28 p_28 e_28 hR_28 H_28
    subst e_28
    rcases z_ite h with ⟨c_31, h⟩ | ⟨c_31, h⟩
    · refine r_t1 (pc' := 45) (L' := [(1, .int R_17), (0, .ref 120)]) hq (z_at.mk 3 rfl rfl) rfl hR_28 c_31 rfl rfl ?_
      refine r_p hq 2 (pc' := 47) (L' := []) (st' := [.int ((R_17 * ((32 : Int32))) + R_17)]) rfl ?_
      cases h
      exact r_ri hq (z_at.mk 1 rfl rfl) rfl rfl (tx_iadd (tx_imul hR_17 (rfl : (32 : Int32).toInt = 32)) hR_17) rfl H_28
    · refine r_f1 (pc' := 34) (L' := [(1, .int R_17), (0, .ref 120)]) hq (z_at.mk 3 rfl rfl) rfl hR_28 c_31 rfl rfl ?_
      refine r_p hq 4 (pc' := 39) (L' := [(1, .int R_17), (0, .ref 120)]) (st' := [.int ((31 : Int32)), .int R_17, .int ((2 : Int32)), .ref 120, .int (R_17 * ((32 : Int32)))]) rfl ?_
      obtain ⟨o_39, h_39, h⟩ := Option.bind_eq_some_iff.mp h
      refine r_cvI (pc' := 42) (L' := [(1, .int R_17), (0, .ref 120)]) (Ps := [.int ((2 : Int32)), .int R_17, .int ((31 : Int32))]) (rest := [.int (R_17 * ((32 : Int32)))]) hq (z_at.mk 3 rfl rfl) (Or.inl ⟨rfl, rfl⟩) rfl rfl (by decide) (by decide) rfl (Nat.not_lt.mpr (Nat.le_of_ble_eq_true rfl)) rfl rfl (z_cat_le 1 rfl (by decide)) (z_lgl_le 4 rfl (by decide)) (by decide) (H_28.tg rfl) (by omega) (g_ta_number_ok (rfl : (2 : Int32).toInt = 2) hR_17 (rfl : (31 : Int32).toInt = 31) H_28 h_39) rfl rfl ?_
      intro R_39 m_39 p_39 e_39 hR_39 H_39
      subst e_39
      refine r_p hq 2 (pc' := 47) (L' := []) (st' := [.int ((R_17 * ((32 : Int32))) + R_39)]) rfl ?_
      cases h
      exact r_ri hq (z_at.mk 1 rfl rfl) rfl rfl (tx_iadd (tx_imul hR_17 (rfl : (32 : Int32).toInt = 32)) hR_39) rfl H_39
  · refine r_f1 (pc' := 9) (L' := [(0, .ref 120)]) hq (z_at.mk 3 rfl rfl) rfl hR_3 c_6 rfl rfl ?_
    refine r_p hq 1 (pc' := 11) (L' := [(0, .ref 120)]) (st' := [.int ((31 : Int32))]) rfl ?_
    cases h
    exact r_ri hq (z_at.mk 1 rfl rfl) rfl rfl (rfl : (31 : Int32).toInt = 31) rfl H_3
end
section
/-! 21.g05 -/
/-! THE METHODS over the typed memory, 5 (by wip/zg.py) -/
def g_ta_ranges (σ : zS) : Option (Int × zS) :=
  (g_ta_range σ).bind fun o_1 =>
  (g_ta_wants 32 o_1.2).bind fun o_8 =>
  (g_ta_range o_8.2).bind fun o_12 =>
  (g_ta_isSound o_12.2).bind fun o_17 =>
  if o_17.1 = 0 then
    some (-1, o_17.2)
  else
    (g_b_of (w32 (Int.tdiv o_1.1 32)) (Int.tmod o_1.1 32) (w32 (Int.tdiv o_12.1 32)) (Int.tmod o_12.1 32) o_17.2).bind fun o_39 =>
    some (o_39.1, o_39.2)
set_option maxHeartbeats 4000000 in
theorem g_ta_ranges_ok {xl : Nat} {xs : Nat → Int32} {σ : zS} {p : Nat} {m : zM} {o : Int × zS} (H : zRep xl xs p m σ) (h : g_ta_ranges σ = some o) : zGo xl xs (fun p' => p = p') 4 105 0 (z_can 105 0 (lv_args 0 [.ref 120])) [] m (vI o.1) o.2 := by
  have hq : z_mth 105 = some z_r105 := rfl
  unfold g_ta_ranges at h
  show zGo xl xs (fun p' => p = p') 4 105 0 [(0, .ref 120)] [] m (vI o.1) o.2
  refine r_p hq 1 (pc' := 1) (L' := [(0, .ref 120)]) (st' := [.ref 120]) rfl ?_
  obtain ⟨o_1, h_1, h⟩ := Option.bind_eq_some_iff.mp h
  refine r_cvI (pc' := 4) (L' := [(0, .ref 120)]) (Ps := []) (rest := []) hq (z_at.mk 3 rfl rfl) (Or.inl ⟨rfl, rfl⟩) rfl rfl (by decide) (by decide) rfl (Nat.not_lt.mpr (Nat.le_of_ble_eq_true rfl)) rfl rfl (z_cat_le 0 rfl (by decide)) (z_lgl_le 1 rfl (by decide)) (by decide) (H.tg rfl) (by omega) (g_ta_range_ok H h_1) rfl rfl ?_
  intro R_1 m_1 p_1 e_1 hR_1 H_1
  subst e_1
  refine r_p hq 3 (pc' := 8) (L' := [(1, .int R_1), (0, .ref 120)]) (st' := [.int ((32 : Int32)), .ref 120]) rfl ?_
  obtain ⟨o_8, h_8, h⟩ := Option.bind_eq_some_iff.mp h
  refine r_cvV (pc' := 11) (L' := [(1, .int R_1), (0, .ref 120)]) (Ps := [.int ((32 : Int32))]) (rest := []) hq (z_at.mk 3 rfl rfl) (Or.inl ⟨rfl, rfl⟩) rfl rfl (by decide) (by decide) rfl (Nat.not_lt.mpr (Nat.le_of_ble_eq_true rfl)) rfl rfl (z_cat_le 0 rfl (by decide)) (z_lgl_le 2 rfl (by decide)) (by decide) (H_1.tg rfl) (by omega) (g_ta_wants_ok (rfl : (32 : Int32).toInt = 32) H_1 h_8) rfl rfl ?_
  intro m_8 p_8 e_8 H_8
  subst e_8
  refine r_p hq 1 (pc' := 12) (L' := [(1, .int R_1), (0, .ref 120)]) (st' := [.ref 120]) rfl ?_
  obtain ⟨o_12, h_12, h⟩ := Option.bind_eq_some_iff.mp h
  refine r_cvI (pc' := 15) (L' := [(1, .int R_1), (0, .ref 120)]) (Ps := []) (rest := []) hq (z_at.mk 3 rfl rfl) (Or.inl ⟨rfl, rfl⟩) rfl rfl (by decide) (by decide) rfl (Nat.not_lt.mpr (Nat.le_of_ble_eq_true rfl)) rfl rfl (z_cat_le 0 rfl (by decide)) (z_lgl_le 1 rfl (by decide)) (by decide) (H_8.tg rfl) (by omega) (g_ta_range_ok H_8 h_12) rfl rfl ?_
  intro R_12 m_12 p_12 e_12 hR_12 H_12
  subst e_12
  refine r_p hq 2 (pc' := 17) (L' := [(2, .int R_12), (1, .int R_1), (0, .ref 120)]) (st' := [.ref 120]) rfl ?_
  obtain ⟨o_17, h_17, h⟩ := Option.bind_eq_some_iff.mp h
  refine r_cvI (pc' := 20) (L' := [(2, .int R_12), (1, .int R_1), (0, .ref 120)]) (Ps := []) (rest := []) hq (z_at.mk 3 rfl rfl) (Or.inl ⟨rfl, rfl⟩) rfl rfl (by decide) (by decide) rfl (Nat.not_lt.mpr (Nat.le_of_ble_eq_true rfl)) rfl rfl (z_cat_le 0 rfl (by decide)) (z_lgl_le 1 rfl (by decide)) (by decide) (H_12.tg rfl) (by omega) (g_ta_isSound_ok H_12 h_17) rfl rfl ?_
  intro R_17 m_17 p_17 e_17 hR_17 H_17
  subst e_17
  rcases z_ite h with ⟨c_20, h⟩ | ⟨c_20, h⟩
  · refine r_t1 (pc' := 45) (L' := [(2, .int R_12), (1, .int R_1), (0, .ref 120)]) hq (z_at.mk 3 rfl rfl) rfl hR_17 c_20 rfl rfl ?_
    refine r_p hq 1 (pc' := 46) (L' := []) (st' := [.int ((-1 : Int32))]) rfl ?_
    cases h
    exact r_ri hq (z_at.mk 1 rfl rfl) rfl rfl (rfl : (-1 : Int32).toInt = -1) rfl H_17
  · refine r_f1 (pc' := 23) (L' := [(2, .int R_12), (1, .int R_1), (0, .ref 120)]) hq (z_at.mk 3 rfl rfl) rfl hR_17 c_20 rfl rfl ?_
    refine r_p hq 2 (pc' := 26) (L' := [(2, .int R_12), (1, .int R_1), (0, .ref 120)]) (st' := [.int ((32 : Int32)), .int R_1]) rfl ?_
    refine r_idiv (pc' := 27) (L' := [(2, .int R_12), (1, .int R_1), (0, .ref 120)]) hq (z_at.mk 1 rfl rfl) hR_1 (rfl : (32 : Int32).toInt = 32) (by decide) rfl rfl ?_
    intro V_26 hV_26
    refine r_p hq 2 (pc' := 30) (L' := [(2, .int R_12), (1, .int R_1), (0, .ref 120)]) (st' := [.int ((32 : Int32)), .int R_1, .int V_26]) rfl ?_
    refine r_irem (pc' := 31) (L' := [(2, .int R_12), (1, .int R_1), (0, .ref 120)]) hq (z_at.mk 1 rfl rfl) hR_1 (rfl : (32 : Int32).toInt = 32) (by decide) rfl rfl ?_
    intro V_30 hV_30
    refine r_p hq 2 (pc' := 34) (L' := [(2, .int R_12), (1, .int R_1), (0, .ref 120)]) (st' := [.int ((32 : Int32)), .int R_12, .int V_30, .int V_26]) rfl ?_
    refine r_idiv (pc' := 35) (L' := [(2, .int R_12), (1, .int R_1), (0, .ref 120)]) hq (z_at.mk 1 rfl rfl) hR_12 (rfl : (32 : Int32).toInt = 32) (by decide) rfl rfl ?_
    intro V_34 hV_34
    refine r_p hq 2 (pc' := 38) (L' := [(2, .int R_12), (1, .int R_1), (0, .ref 120)]) (st' := [.int ((32 : Int32)), .int R_12, .int V_34, .int V_30, .int V_26]) rfl ?_
    refine r_irem (pc' := 39) (L' := [(2, .int R_12), (1, .int R_1), (0, .ref 120)]) hq (z_at.mk 1 rfl rfl) hR_12 (rfl : (32 : Int32).toInt = 32) (by decide) rfl rfl ?_
    intro V_38 hV_38
    obtain ⟨o_39, h_39, h⟩ := Option.bind_eq_some_iff.mp h
    refine r_csI (pc' := 42) (L' := [(2, .int R_12), (1, .int R_1), (0, .ref 120)]) (As := [.int V_26, .int V_30, .int V_34, .int V_38]) (rest := []) (j := 2) hq (z_at.mk 3 rfl rfl) (Or.inl ⟨rfl, rfl⟩) rfl rfl (by omega) (g_b_of_ok hV_26 hV_30 hV_34 hV_38 H_17 h_39) rfl rfl ?_
    intro R_39 m_39 p_39 e_39 hR_39 H_39
    subst e_39
    refine r_p hq 1 (pc' := 46) (L' := []) (st' := [.int R_39]) rfl ?_
    cases h
    exact r_ri hq (z_at.mk 1 rfl rfl) rfl rfl hR_39 rfl H_39
def g_qu_readParts_L91 (g9 : Int → Int → zS → Option (Unit × zS)) (x2 : Int) (xs0 : Int) (σ : zS) : Option (Unit × zS) :=
  (g_ta_another xs0 σ).bind fun o_91 =>
  g9 o_91.1 (w32 (x2 + 1)) o_91.2
set_option maxHeartbeats 4000000 in
theorem g_qu_readParts_L91_ok {xl : Nat} {xs : Nat → Int32} {g9 : Int → Int → zS → Option (Unit × zS)} (hg9 : ∀ {X1 : Int32} {x1 : Int} {X2 : Int32} {x2 : Int} {σ : zS} {p : Nat} {m : zM} {o : Unit × zS}, X1.toInt = x1 → X2.toInt = x2 → zRep xl xs p m σ → g9 x1 x2 σ = some o → zGo xl xs (fun p' => p = p') 508 66 9 [(0, .ref 122), (1, .int X1), (2, .int X2)] [] m vV o.2) {X2 : Int32} {x2 : Int} (hx2 : X2.toInt = x2) {Xs0 : Int32} {xs0 : Int} (hxs0 : Xs0.toInt = xs0) {σ : zS} {p : Nat} {m : zM} {o : Unit × zS} (H : zRep xl xs p m σ) (h : g_qu_readParts_L91 g9 x2 xs0 σ = some o) : zGo xl xs (fun p' => p = p') 508 66 91 [(0, .ref 122), (2, .int X2)] [.int Xs0, .ref 120] m vV o.2 := by
  have hq : z_mth 66 = some z_r66 := rfl
  unfold g_qu_readParts_L91 at h
  obtain ⟨o_91, h_91, h⟩ := Option.bind_eq_some_iff.mp h
  refine r_cvI (pc' := 94) (L' := [(0, .ref 122), (2, .int X2)]) (Ps := [.int Xs0]) (rest := []) hq (z_at.mk 3 rfl rfl) (Or.inl ⟨rfl, rfl⟩) rfl rfl (by decide) (by decide) rfl (Nat.not_lt.mpr (Nat.le_of_ble_eq_true rfl)) rfl rfl (z_cat_le 0 rfl (by decide)) (z_lgl_le 2 rfl (by decide)) (by decide) (H.tg rfl) (by omega) (g_ta_another_ok hxs0 H h_91) rfl rfl ?_
  intro R_91 m_91 p_91 e_91 hR_91 H_91
  subst e_91
  refine r_p hq 3 (pc' := 9) (L' := [(0, .ref 122), (1, .int R_91), (2, .int (X2 + (1 : Int32)))]) (st' := []) rfl ?_
  exact hg9 hR_91 (tx_iadd hx2 (rfl : (1 : Int32).toInt = 1)) H_91 h
def g_qu_readParts_L9 : Nat → Int → Int → zS → Option (Unit × zS)
  | 0, _, _, _ => none
  | n + 1, x1, x2, σ =>
    if x1 = 0 then
      some ((), σ)
    else
      if 8 ≤ x2 then
        some ((), σ)
      else
        (g_ta_word 4 σ).bind fun o_30 =>
        if 0 ≤ x2 ∧ x2 < 8 then
        let s_33 := zu o_30.2 123 x2 o_30.1
        (g_ta_wants 32 s_33).bind fun o_40 =>
        (g_ta_ranges o_40.2).bind fun o_52 =>
        if 0 ≤ x2 ∧ x2 < 8 then
        let s_55 := zu o_52.2 124 x2 o_52.1
        (g_qu_readIf s_55).bind fun o_62 =>
        if 0 ≤ x2 ∧ x2 < 8 then
        let s_65 := zu o_62.2 125 x2 o_62.1
        let s_70 := zu s_65 122 5 (w32 (x2 + 1))
        let v_78 := s_70 122 5
        if 8 ≤ v_78 then
          g_qu_readParts_L91 ((g_qu_readParts_L9 n)) x2 0 s_70
        else
          g_qu_readParts_L91 ((g_qu_readParts_L9 n)) x2 1 s_70
        else none
        else none
        else none
set_option maxHeartbeats 4000000 in
theorem g_qu_readParts_L9_ok {xl : Nat} {xs : Nat → Int32} : ∀ (n : Nat) {X1 : Int32} {x1 : Int} {X2 : Int32} {x2 : Int} {σ : zS} {p : Nat} {m : zM} {o : Unit × zS}, X1.toInt = x1 → X2.toInt = x2 → zRep xl xs p m σ → g_qu_readParts_L9 n x1 x2 σ = some o → zGo xl xs (fun p' => p = p') 508 66 9 [(0, .ref 122), (1, .int X1), (2, .int X2)] [] m vV o.2
  | 0, _, _, _, _, _, _, _, _, _, _, _, h => by cases h
  | n + 1, X1, x1, X2, x2, σ, p, m, o, hx1, hx2, H, h => by
    have hq : z_mth 66 = some z_r66 := rfl
    have ih := fun {X1 : Int32} {x1 : Int} {X2 : Int32} {x2 : Int} {σ : zS} {p : Nat} {m : zM} {o : Unit × zS} => g_qu_readParts_L9_ok (xl := xl) (xs := xs) n (X1 := X1) (x1 := x1) (X2 := X2) (x2 := x2) (σ := σ) (p := p) (m := m) (o := o)
    unfold g_qu_readParts_L9 at h
    refine r_p hq 1 (pc' := 10) (L' := [(0, .ref 122), (1, .int X1), (2, .int X2)]) (st' := [.int X1]) rfl ?_
    rcases z_ite h with ⟨c_10, h⟩ | ⟨c_10, h⟩
    · refine r_t1 (pc' := 101) (L' := []) hq (z_at.mk 3 rfl rfl) rfl hx1 c_10 rfl rfl ?_
      cases h
      exact r_rv hq (z_at.mk 1 rfl rfl) rfl rfl H
    · refine r_f1 (pc' := 13) (L' := [(0, .ref 122), (1, .int X1), (2, .int X2)]) hq (z_at.mk 3 rfl rfl) rfl hx1 c_10 rfl rfl ?_
      refine r_p hq 2 (pc' := 16) (L' := [(0, .ref 122), (1, .int X1), (2, .int X2)]) (st' := [.int ((8 : Int32)), .int X2]) rfl ?_
      rcases z_ite h with ⟨c_16, h⟩ | ⟨c_16, h⟩
      · refine r_t2 (pc' := 101) (L' := []) hq (z_at.mk 3 rfl rfl) rfl hx2 (rfl : (8 : Int32).toInt = 8) c_16 rfl rfl ?_
        cases h
        exact r_rv hq (z_at.mk 1 rfl rfl) rfl rfl H
      · refine r_f2 (pc' := 19) (L' := [(0, .ref 122), (1, .int X1), (2, .int X2)]) hq (z_at.mk 3 rfl rfl) rfl hx2 (rfl : (8 : Int32).toInt = 8) c_16 rfl rfl ?_
        refine r_p hq 1 (pc' := 20) (L' := [(0, .ref 122), (1, .int X1), (2, .int X2)]) (st' := [.ref 122]) rfl ?_
        refine r_gR (b := 123) (pc' := 23) (L' := [(0, .ref 122), (1, .int X1), (2, .int X2)]) H hq (z_at.mk 3 rfl rfl) rfl rfl rfl rfl ?_
        refine r_p hq 2 (pc' := 25) (L' := [(0, .ref 122), (1, .int X1), (2, .int X2)]) (st' := [.ref 122, .int X2, .ref 123]) rfl ?_
        refine r_gR (b := 120) (pc' := 28) (L' := [(0, .ref 122), (1, .int X1), (2, .int X2)]) H hq (z_at.mk 3 rfl rfl) rfl rfl rfl rfl ?_
        refine r_p hq 1 (pc' := 30) (L' := [(0, .ref 122), (1, .int X1), (2, .int X2)]) (st' := [.ref 4, .ref 120, .int X2, .ref 123]) rfl ?_
        obtain ⟨o_30, h_30, h⟩ := Option.bind_eq_some_iff.mp h
        refine r_cvI (pc' := 33) (L' := [(0, .ref 122), (1, .int X1), (2, .int X2)]) (Ps := [.ref 4]) (rest := [.int X2, .ref 123]) hq (z_at.mk 3 rfl rfl) (Or.inl ⟨rfl, rfl⟩) rfl rfl (by decide) (by decide) rfl (Nat.not_lt.mpr (Nat.le_of_ble_eq_true rfl)) rfl rfl (z_cat_le 2 rfl (by decide)) (z_lgl_le 2 rfl (by decide)) (by decide) (H.tg rfl) (by omega) (g_ta_word_ok rfl H h_30) rfl rfl ?_
        intro R_30 m_30 p_30 e_30 hR_30 H_30
        subst e_30
        obtain ⟨g_33, h⟩ := z_ifo_some h
        refine r_is (pc' := 34) (L' := [(0, .ref 122), (1, .int X1), (2, .int X2)]) H_30 hq (z_at.mk 1 rfl rfl) (show zAr 123 0 8 = true from rfl) hx2 g_33 hR_30 rfl rfl ?_
        intro m_33 H_33
        refine r_p hq 1 (pc' := 35) (L' := [(0, .ref 122), (1, .int X1), (2, .int X2)]) (st' := [.ref 122]) rfl ?_
        refine r_gR (b := 120) (pc' := 38) (L' := [(0, .ref 122), (1, .int X1), (2, .int X2)]) H_33 hq (z_at.mk 3 rfl rfl) rfl rfl rfl rfl ?_
        refine r_p hq 1 (pc' := 40) (L' := [(0, .ref 122), (1, .int X1), (2, .int X2)]) (st' := [.int ((32 : Int32)), .ref 120]) rfl ?_
        obtain ⟨o_40, h_40, h⟩ := Option.bind_eq_some_iff.mp h
        refine r_cvV (pc' := 43) (L' := [(0, .ref 122), (1, .int X1), (2, .int X2)]) (Ps := [.int ((32 : Int32))]) (rest := []) hq (z_at.mk 3 rfl rfl) (Or.inl ⟨rfl, rfl⟩) rfl rfl (by decide) (by decide) rfl (Nat.not_lt.mpr (Nat.le_of_ble_eq_true rfl)) rfl rfl (z_cat_le 0 rfl (by decide)) (z_lgl_le 2 rfl (by decide)) (by decide) (H_33.tg rfl) (by omega) (g_ta_wants_ok (rfl : (32 : Int32).toInt = 32) H_33 h_40) rfl rfl ?_
        intro m_40 p_40 e_40 H_40
        subst e_40
        refine r_p hq 1 (pc' := 44) (L' := [(0, .ref 122), (1, .int X1), (2, .int X2)]) (st' := [.ref 122]) rfl ?_
        refine r_gR (b := 124) (pc' := 47) (L' := [(0, .ref 122), (1, .int X1), (2, .int X2)]) H_40 hq (z_at.mk 3 rfl rfl) rfl rfl rfl rfl ?_
        refine r_p hq 2 (pc' := 49) (L' := [(0, .ref 122), (1, .int X1), (2, .int X2)]) (st' := [.ref 122, .int X2, .ref 124]) rfl ?_
        refine r_gR (b := 120) (pc' := 52) (L' := [(0, .ref 122), (1, .int X1), (2, .int X2)]) H_40 hq (z_at.mk 3 rfl rfl) rfl rfl rfl rfl ?_
        obtain ⟨o_52, h_52, h⟩ := Option.bind_eq_some_iff.mp h
        refine r_cvI (pc' := 55) (L' := [(0, .ref 122), (1, .int X1), (2, .int X2)]) (Ps := []) (rest := [.int X2, .ref 124]) hq (z_at.mk 3 rfl rfl) (Or.inl ⟨rfl, rfl⟩) rfl rfl (by decide) (by decide) rfl (Nat.not_lt.mpr (Nat.le_of_ble_eq_true rfl)) rfl rfl (z_cat_le 2 rfl (by decide)) (z_lgl_le 1 rfl (by decide)) (by decide) (H_40.tg rfl) (by omega) (g_ta_ranges_ok H_40 h_52) rfl rfl ?_
        intro R_52 m_52 p_52 e_52 hR_52 H_52
        subst e_52
        obtain ⟨g_55, h⟩ := z_ifo_some h
        refine r_is (pc' := 56) (L' := [(0, .ref 122), (1, .int X1), (2, .int X2)]) H_52 hq (z_at.mk 1 rfl rfl) (show zAr 124 0 8 = true from rfl) hx2 g_55 hR_52 rfl rfl ?_
        intro m_55 H_55
        refine r_p hq 1 (pc' := 57) (L' := [(0, .ref 122), (1, .int X1), (2, .int X2)]) (st' := [.ref 122]) rfl ?_
        refine r_gR (b := 125) (pc' := 60) (L' := [(0, .ref 122), (1, .int X1), (2, .int X2)]) H_55 hq (z_at.mk 3 rfl rfl) rfl rfl rfl rfl ?_
        refine r_p hq 2 (pc' := 62) (L' := [(0, .ref 122), (1, .int X1), (2, .int X2)]) (st' := [.ref 122, .int X2, .ref 125]) rfl ?_
        obtain ⟨o_62, h_62, h⟩ := Option.bind_eq_some_iff.mp h
        refine r_cvL (pc' := 65) (L' := [(0, .ref 122), (1, .int X1), (2, .int X2)]) (Ps := []) (rest := [.int X2, .ref 125]) hq (z_at.mk 3 rfl rfl) (Or.inl ⟨rfl, rfl⟩) rfl rfl (by decide) (by decide) rfl (Nat.not_lt.mpr (Nat.le_of_ble_eq_true rfl)) rfl rfl (z_cat_le 2 rfl (by decide)) (z_lgl_le 1 rfl (by decide)) (by decide) (H_55.tg rfl) (by omega) (g_qu_readIf_ok H_55 h_62) rfl rfl ?_
        intro R_62 m_62 p_62 e_62 hR_62 H_62
        subst e_62
        obtain ⟨g_65, h⟩ := z_ifo_some h
        refine r_ls (pc' := 66) (L' := [(0, .ref 122), (1, .int X1), (2, .int X2)]) H_62 hq (z_at.mk 1 rfl rfl) (show zAr 125 1 8 = true from rfl) hx2 g_65 hR_62 rfl rfl ?_
        intro m_65 H_65
        refine r_p hq 4 (pc' := 70) (L' := [(0, .ref 122), (1, .int X1), (2, .int X2)]) (st' := [.int (X2 + ((1 : Int32))), .ref 122]) rfl ?_
        refine r_pI (X := X2 + ((1 : Int32))) (pc' := 73) (L' := [(0, .ref 122), (1, .int X1), (2, .int X2)]) H_65 hq (z_at.mk 3 rfl rfl) rfl rfl (tx_iadd hx2 (rfl : (1 : Int32).toInt = 1)) (by decide) rfl rfl rfl rfl ?_
        intro m_70 H_70
        refine r_p hq 1 (pc' := 74) (L' := [(0, .ref 122), (1, .int X1), (2, .int X2)]) (st' := [.ref 122]) rfl ?_
        refine r_gR (b := 120) (pc' := 77) (L' := [(0, .ref 122), (1, .int X1), (2, .int X2)]) H_70 hq (z_at.mk 3 rfl rfl) rfl rfl rfl rfl ?_
        refine r_p hq 1 (pc' := 78) (L' := [(0, .ref 122), (1, .int X1), (2, .int X2)]) (st' := [.ref 122, .ref 120]) rfl ?_
        refine r_gI (pc' := 81) (L' := [(0, .ref 122), (1, .int X1), (2, .int X2)]) H_70 hq (z_at.mk 3 rfl rfl) rfl rfl rfl rfl ?_
        intro V_78 hV_78
        refine r_p hq 1 (pc' := 83) (L' := [(0, .ref 122), (1, .int X1), (2, .int X2)]) (st' := [.int ((8 : Int32)), .int V_78, .ref 120]) rfl ?_
        rcases z_ite h with ⟨c_83, h⟩ | ⟨c_83, h⟩
        · refine r_t2 (pc' := 90) (L' := [(0, .ref 122), (1, .int X1), (2, .int X2)]) hq (z_at.mk 3 rfl rfl) rfl hV_78 (rfl : (8 : Int32).toInt = 8) c_83 rfl rfl ?_
          refine r_p hq 1 (pc' := 91) (L' := [(0, .ref 122), (2, .int X2)]) (st' := [.int ((0 : Int32)), .ref 120]) rfl ?_
          exact g_qu_readParts_L91_ok ih hx2 (rfl : (0 : Int32).toInt = 0) H_70 h
        · refine r_f2 (pc' := 86) (L' := [(0, .ref 122), (1, .int X1), (2, .int X2)]) hq (z_at.mk 3 rfl rfl) rfl hV_78 (rfl : (8 : Int32).toInt = 8) c_83 rfl rfl ?_
          refine r_p hq 2 (pc' := 91) (L' := [(0, .ref 122), (2, .int X2)]) (st' := [.int ((1 : Int32)), .ref 120]) rfl ?_
          exact g_qu_readParts_L91_ok ih hx2 (rfl : (1 : Int32).toInt = 1) H_70 h
def g_qu_readParts (σ : zS) : Option (Unit × zS) :=
  let s_2 := zu σ 122 5 0
  g_qu_readParts_L9 zK 1 0 s_2
set_option maxHeartbeats 4000000 in
theorem g_qu_readParts_ok {xl : Nat} {xs : Nat → Int32} {σ : zS} {p : Nat} {m : zM} {o : Unit × zS} (H : zRep xl xs p m σ) (h : g_qu_readParts σ = some o) : zGo xl xs (fun p' => p = p') 508 66 0 (z_can 66 0 (lv_args 0 [.ref 122])) [] m vV o.2 := by
  have hq : z_mth 66 = some z_r66 := rfl
  unfold g_qu_readParts at h
  show zGo xl xs (fun p' => p = p') 508 66 0 [(0, .ref 122)] [] m vV o.2
  refine r_p hq 2 (pc' := 2) (L' := [(0, .ref 122)]) (st' := [.int ((0 : Int32)), .ref 122]) rfl ?_
  refine r_pI (X := (0 : Int32)) (pc' := 5) (L' := [(0, .ref 122)]) H hq (z_at.mk 3 rfl rfl) rfl rfl (rfl : (0 : Int32).toInt = 0) (by decide) rfl rfl rfl rfl ?_
  intro m_2 H_2
  refine r_p hq 4 (pc' := 9) (L' := [(0, .ref 122), (1, .int ((1 : Int32))), (2, .int ((0 : Int32)))]) (st' := []) rfl ?_
  exact g_qu_readParts_L9_ok zK (rfl : (1 : Int32).toInt = 1) (rfl : (0 : Int32).toInt = 0) H_2 h
def g_se_become (a0 : Nat) (x1 : Int) (x2 : Int) (σ : zS) : Option (Unit × zS) :=
  if x1 < 0 then
    some ((), σ)
  else
    if 7 ≤ x1 then
      some ((), σ)
    else
      if 0 ≤ x1 ∧ x1 < 7 then
      let s_16 := zu σ (a0 + 1) x1 x2
      some ((), s_16)
      else none
set_option maxHeartbeats 4000000 in
theorem g_se_become_ok {xl : Nat} {xs : Nat → Int32} {a0 : Nat} (ha0 : zIn [49, 82, 107, 118] a0 = true) {X1 : Int32} {x1 : Int} (hx1 : X1.toInt = x1) {X2 : Int32} {x2 : Int} (hx2 : X2.toInt = x2) {σ : zS} {p : Nat} {m : zM} {o : Unit × zS} (H : zRep xl xs p m σ) (h : g_se_become a0 x1 x2 σ = some o) : zGo xl xs (fun p' => p = p') 1 73 0 (z_can 73 0 (lv_args 0 [.ref a0, .int X1, .int X2])) [] m vV o.2 := by
  have hq : z_mth 73 = some z_r73 := rfl
  unfold g_se_become at h
  show zGo xl xs (fun p' => p = p') 1 73 0 [(0, .ref a0), (1, .int X1), (2, .int X2)] [] m vV o.2
  refine r_p hq 1 (pc' := 1) (L' := [(0, .ref a0), (1, .int X1), (2, .int X2)]) (st' := [.int X1]) rfl ?_
  rcases z_ite h with ⟨c_1, h⟩ | ⟨c_1, h⟩
  · refine r_t1 (pc' := 17) (L' := []) hq (z_at.mk 3 rfl rfl) rfl hx1 c_1 rfl rfl ?_
    cases h
    exact r_rv hq (z_at.mk 1 rfl rfl) rfl rfl H
  · refine r_f1 (pc' := 4) (L' := [(0, .ref a0), (1, .int X1), (2, .int X2)]) hq (z_at.mk 3 rfl rfl) rfl hx1 c_1 rfl rfl ?_
    refine r_p hq 2 (pc' := 7) (L' := [(0, .ref a0), (1, .int X1), (2, .int X2)]) (st' := [.int ((7 : Int32)), .int X1]) rfl ?_
    rcases z_ite h with ⟨c_7, h⟩ | ⟨c_7, h⟩
    · refine r_t2 (pc' := 17) (L' := []) hq (z_at.mk 3 rfl rfl) rfl hx1 (rfl : (7 : Int32).toInt = 7) c_7 rfl rfl ?_
      cases h
      exact r_rv hq (z_at.mk 1 rfl rfl) rfl rfl H
    · refine r_f2 (pc' := 10) (L' := [(0, .ref a0), (1, .int X1), (2, .int X2)]) hq (z_at.mk 3 rfl rfl) rfl hx1 (rfl : (7 : Int32).toInt = 7) c_7 rfl rfl ?_
      refine r_p hq 1 (pc' := 11) (L' := [(0, .ref a0), (1, .int X1), (2, .int X2)]) (st' := [.ref a0]) rfl ?_
      refine r_gR (b := a0 + 1) (pc' := 14) (L' := [(0, .ref a0), (1, .int X1), (2, .int X2)]) H hq (z_at.mk 3 rfl rfl) rfl (zIn_all (l := [49, 82, 107, 118]) (p := fun a => zQ a 16 0 (100 + a + 1)) rfl ha0) rfl rfl ?_
      refine r_p hq 2 (pc' := 16) (L' := [(0, .ref a0), (1, .int X1), (2, .int X2)]) (st' := [.int X2, .int X1, .ref (a0 + 1)]) rfl ?_
      obtain ⟨g_16, h⟩ := z_ifo_some h
      refine r_is (pc' := 17) (L' := []) H hq (z_at.mk 1 rfl rfl) (zIn_all (l := [49, 82, 107, 118]) (p := fun a => zAr (a + 1) 0 7) rfl ha0) hx1 g_16 hx2 rfl rfl ?_
      intro m_16 H_16
      cases h
      exact r_rv hq (z_at.mk 1 rfl rfl) rfl rfl H_16
def g_se_readValue (x2 : Int) (σ : zS) : Option (Int × zS) :=
  if x2 = 0 then
    (g_ta_number 2 0 99 σ).bind fun o_49 =>
    some (o_49.1, o_49.2)
  else
  if x2 = 1 then
    (g_ta_number 2 1 99 σ).bind fun o_58 =>
    some (o_58.1, o_58.2)
  else
  if x2 = 2 then
    (g_ta_number 2 1 12 σ).bind fun o_67 =>
    some (o_67.1, o_67.2)
  else
  if x2 = 3 then
    (g_ta_word 2 σ).bind fun o_74 =>
    some (o_74.1, o_74.2)
  else
  if x2 = 6 then
    (g_ta_number 4 1 1024 σ).bind fun o_84 =>
    some (o_84.1, o_84.2)
  else
  (g_ta_word 3 σ).bind fun o_91 =>
  some (o_91.1, o_91.2)
set_option maxHeartbeats 4000000 in
theorem g_se_readValue_ok {xl : Nat} {xs : Nat → Int32} {X2 : Int32} {x2 : Int} (hx2 : X2.toInt = x2) {σ : zS} {p : Nat} {m : zM} {o : Int × zS} (H : zRep xl xs p m σ) (h : g_se_readValue x2 σ = some o) : zGo xl xs (fun p' => p = p') 5 76 0 (z_can 76 0 (lv_args 0 [.ref 118, .ref 120, .int X2])) [] m (vI o.1) o.2 := by
  have hq : z_mth 76 = some z_r76 := rfl
  unfold g_se_readValue at h
  show zGo xl xs (fun p' => p = p') 5 76 0 [(0, .ref 118), (1, .ref 120), (2, .int X2)] [] m (vI o.1) o.2
  refine r_p hq 1 (pc' := 1) (L' := [(0, .ref 118), (1, .ref 120), (2, .int X2)]) (st' := [.int X2]) rfl ?_
  rcases z_ite h with ⟨c_1_0, h⟩ | ⟨c_1_0, h⟩
  · refine r_sw (off := 43) (pc' := 44) (L' := [(0, .ref 118), (1, .ref 120), (2, .int X2)]) hq (z_at.mk 43 rfl rfl) (z_off_v (hx2.trans c_1_0) rfl) rfl rfl rfl ?_
    refine r_p hq 4 (pc' := 49) (L' := [(0, .ref 118), (1, .ref 120), (2, .int X2)]) (st' := [.int ((99 : Int32)), .int ((0 : Int32)), .int ((2 : Int32)), .ref 120]) rfl ?_
    obtain ⟨o_49, h_49, h⟩ := Option.bind_eq_some_iff.mp h
    refine r_cvI (pc' := 52) (L' := [(0, .ref 118), (1, .ref 120), (2, .int X2)]) (Ps := [.int ((2 : Int32)), .int ((0 : Int32)), .int ((99 : Int32))]) (rest := []) hq (z_at.mk 3 rfl rfl) (Or.inl ⟨rfl, rfl⟩) rfl rfl (by decide) (by decide) rfl (Nat.not_lt.mpr (Nat.le_of_ble_eq_true rfl)) rfl rfl (z_cat_le 0 rfl (by decide)) (z_lgl_le 4 rfl (by decide)) (by decide) (H.tg rfl) (by omega) (g_ta_number_ok (rfl : (2 : Int32).toInt = 2) (rfl : (0 : Int32).toInt = 0) (rfl : (99 : Int32).toInt = 99) H h_49) rfl rfl ?_
    intro R_49 m_49 p_49 e_49 hR_49 H_49
    subst e_49
    cases h
    exact r_ri hq (z_at.mk 1 rfl rfl) rfl rfl hR_49 rfl H_49
  rcases z_ite h with ⟨c_1_1, h⟩ | ⟨c_1_1, h⟩
  · refine r_sw (off := 52) (pc' := 53) (L' := [(0, .ref 118), (1, .ref 120), (2, .int X2)]) hq (z_at.mk 43 rfl rfl) (z_off_v (hx2.trans c_1_1) rfl) rfl rfl rfl ?_
    refine r_p hq 4 (pc' := 58) (L' := [(0, .ref 118), (1, .ref 120), (2, .int X2)]) (st' := [.int ((99 : Int32)), .int ((1 : Int32)), .int ((2 : Int32)), .ref 120]) rfl ?_
    obtain ⟨o_58, h_58, h⟩ := Option.bind_eq_some_iff.mp h
    refine r_cvI (pc' := 61) (L' := [(0, .ref 118), (1, .ref 120), (2, .int X2)]) (Ps := [.int ((2 : Int32)), .int ((1 : Int32)), .int ((99 : Int32))]) (rest := []) hq (z_at.mk 3 rfl rfl) (Or.inl ⟨rfl, rfl⟩) rfl rfl (by decide) (by decide) rfl (Nat.not_lt.mpr (Nat.le_of_ble_eq_true rfl)) rfl rfl (z_cat_le 0 rfl (by decide)) (z_lgl_le 4 rfl (by decide)) (by decide) (H.tg rfl) (by omega) (g_ta_number_ok (rfl : (2 : Int32).toInt = 2) (rfl : (1 : Int32).toInt = 1) (rfl : (99 : Int32).toInt = 99) H h_58) rfl rfl ?_
    intro R_58 m_58 p_58 e_58 hR_58 H_58
    subst e_58
    cases h
    exact r_ri hq (z_at.mk 1 rfl rfl) rfl rfl hR_58 rfl H_58
  rcases z_ite h with ⟨c_1_2, h⟩ | ⟨c_1_2, h⟩
  · refine r_sw (off := 61) (pc' := 62) (L' := [(0, .ref 118), (1, .ref 120), (2, .int X2)]) hq (z_at.mk 43 rfl rfl) (z_off_v (hx2.trans c_1_2) rfl) rfl rfl rfl ?_
    refine r_p hq 4 (pc' := 67) (L' := [(0, .ref 118), (1, .ref 120), (2, .int X2)]) (st' := [.int ((12 : Int32)), .int ((1 : Int32)), .int ((2 : Int32)), .ref 120]) rfl ?_
    obtain ⟨o_67, h_67, h⟩ := Option.bind_eq_some_iff.mp h
    refine r_cvI (pc' := 70) (L' := [(0, .ref 118), (1, .ref 120), (2, .int X2)]) (Ps := [.int ((2 : Int32)), .int ((1 : Int32)), .int ((12 : Int32))]) (rest := []) hq (z_at.mk 3 rfl rfl) (Or.inl ⟨rfl, rfl⟩) rfl rfl (by decide) (by decide) rfl (Nat.not_lt.mpr (Nat.le_of_ble_eq_true rfl)) rfl rfl (z_cat_le 0 rfl (by decide)) (z_lgl_le 4 rfl (by decide)) (by decide) (H.tg rfl) (by omega) (g_ta_number_ok (rfl : (2 : Int32).toInt = 2) (rfl : (1 : Int32).toInt = 1) (rfl : (12 : Int32).toInt = 12) H h_67) rfl rfl ?_
    intro R_67 m_67 p_67 e_67 hR_67 H_67
    subst e_67
    cases h
    exact r_ri hq (z_at.mk 1 rfl rfl) rfl rfl hR_67 rfl H_67
  rcases z_ite h with ⟨c_1_3, h⟩ | ⟨c_1_3, h⟩
  · refine r_sw (off := 70) (pc' := 71) (L' := [(0, .ref 118), (1, .ref 120), (2, .int X2)]) hq (z_at.mk 43 rfl rfl) (z_off_v (hx2.trans c_1_3) rfl) rfl rfl rfl ?_
    refine r_p hq 2 (pc' := 74) (L' := [(0, .ref 118), (1, .ref 120), (2, .int X2)]) (st' := [.ref 2, .ref 120]) rfl ?_
    obtain ⟨o_74, h_74, h⟩ := Option.bind_eq_some_iff.mp h
    refine r_cvI (pc' := 77) (L' := [(0, .ref 118), (1, .ref 120), (2, .int X2)]) (Ps := [.ref 2]) (rest := []) hq (z_at.mk 3 rfl rfl) (Or.inl ⟨rfl, rfl⟩) rfl rfl (by decide) (by decide) rfl (Nat.not_lt.mpr (Nat.le_of_ble_eq_true rfl)) rfl rfl (z_cat_le 0 rfl (by decide)) (z_lgl_le 2 rfl (by decide)) (by decide) (H.tg rfl) (by omega) (g_ta_word_ok rfl H h_74) rfl rfl ?_
    intro R_74 m_74 p_74 e_74 hR_74 H_74
    subst e_74
    cases h
    exact r_ri hq (z_at.mk 1 rfl rfl) rfl rfl hR_74 rfl H_74
  rcases z_ite h with ⟨c_1_6, h⟩ | ⟨c_1_6, h⟩
  · refine r_sw (off := 77) (pc' := 78) (L' := [(0, .ref 118), (1, .ref 120), (2, .int X2)]) hq (z_at.mk 43 rfl rfl) (z_off_v (hx2.trans c_1_6) rfl) rfl rfl rfl ?_
    refine r_p hq 4 (pc' := 84) (L' := [(0, .ref 118), (1, .ref 120), (2, .int X2)]) (st' := [.int ((1024 : Int32)), .int ((1 : Int32)), .int ((4 : Int32)), .ref 120]) rfl ?_
    obtain ⟨o_84, h_84, h⟩ := Option.bind_eq_some_iff.mp h
    refine r_cvI (pc' := 87) (L' := [(0, .ref 118), (1, .ref 120), (2, .int X2)]) (Ps := [.int ((4 : Int32)), .int ((1 : Int32)), .int ((1024 : Int32))]) (rest := []) hq (z_at.mk 3 rfl rfl) (Or.inl ⟨rfl, rfl⟩) rfl rfl (by decide) (by decide) rfl (Nat.not_lt.mpr (Nat.le_of_ble_eq_true rfl)) rfl rfl (z_cat_le 0 rfl (by decide)) (z_lgl_le 4 rfl (by decide)) (by decide) (H.tg rfl) (by omega) (g_ta_number_ok (rfl : (4 : Int32).toInt = 4) (rfl : (1 : Int32).toInt = 1) (rfl : (1024 : Int32).toInt = 1024) H h_84) rfl rfl ?_
    intro R_84 m_84 p_84 e_84 hR_84 H_84
    subst e_84
    cases h
    exact r_ri hq (z_at.mk 1 rfl rfl) rfl rfl hR_84 rfl H_84
  have hx_1 : X2.toInt = x2 := hx2
  refine r_sw (off := 87) (pc' := 88) (L' := [(0, .ref 118), (1, .ref 120), (2, .int X2)]) hq (z_at.mk 43 rfl rfl) (z_off_df [0, 1, 2, 3, 6] (by intro z hz; simp only [List.mem_cons, List.not_mem_nil, or_false] at hz; omega) (by decide)) rfl rfl rfl ?_
  refine r_p hq 2 (pc' := 91) (L' := [(0, .ref 118), (1, .ref 120), (2, .int X2)]) (st' := [.ref 3, .ref 120]) rfl ?_
  obtain ⟨o_91, h_91, h⟩ := Option.bind_eq_some_iff.mp h
  refine r_cvI (pc' := 94) (L' := [(0, .ref 118), (1, .ref 120), (2, .int X2)]) (Ps := [.ref 3]) (rest := []) hq (z_at.mk 3 rfl rfl) (Or.inl ⟨rfl, rfl⟩) rfl rfl (by decide) (by decide) rfl (Nat.not_lt.mpr (Nat.le_of_ble_eq_true rfl)) rfl rfl (z_cat_le 0 rfl (by decide)) (z_lgl_le 2 rfl (by decide)) (by decide) (H.tg rfl) (by omega) (g_ta_word_ok rfl H h_91) rfl rfl ?_
  intro R_91 m_91 p_91 e_91 hR_91 H_91
  subst e_91
  cases h
  exact r_ri hq (z_at.mk 1 rfl rfl) rfl rfl hR_91 rfl H_91
def g_se_readParts_L4 : Nat → Int → Int → zS → Option (Int × zS)
  | 0, _, _, _ => none
  | n + 1, x2, x3, σ =>
    if x3 = 0 then
      some (x2, σ)
    else
      if 160 ≤ x2 then
        some (x2, σ)
      else
        (g_ta_word 1 σ).bind fun o_18 =>
        (g_ta_wants 32 o_18.2).bind fun o_26 =>
        (g_se_readValue o_18.1 o_26.2).bind fun o_36 =>
        (g_se_become 118 o_18.1 o_36.1 o_36.2).bind fun o_39 =>
        (g_ta_another 1 o_39.2).bind fun o_44 =>
        (g_se_readParts_L4 n) (w32 (x2 + 1)) o_44.1 o_44.2
set_option maxHeartbeats 4000000 in
theorem g_se_readParts_L4_ok {xl : Nat} {xs : Nat → Int32} : ∀ (n : Nat) {X2 : Int32} {x2 : Int} {X3 : Int32} {x3 : Int} {σ : zS} {p : Nat} {m : zM} {o : Int × zS}, X2.toInt = x2 → X3.toInt = x3 → zRep xl xs p m σ → g_se_readParts_L4 n x2 x3 σ = some o → zGo xl xs (fun p' => p = p') 6 75 4 [(0, .ref 118), (1, .ref 120), (2, .int X2), (3, .int X3)] [] m (vI o.1) o.2
  | 0, _, _, _, _, _, _, _, _, _, _, _, h => by cases h
  | n + 1, X2, x2, X3, x3, σ, p, m, o, hx2, hx3, H, h => by
    have hq : z_mth 75 = some z_r75 := rfl
    have ih := fun {X2 : Int32} {x2 : Int} {X3 : Int32} {x3 : Int} {σ : zS} {p : Nat} {m : zM} {o : Int × zS} => g_se_readParts_L4_ok (xl := xl) (xs := xs) n (X2 := X2) (x2 := x2) (X3 := X3) (x3 := x3) (σ := σ) (p := p) (m := m) (o := o)
    unfold g_se_readParts_L4 at h
    refine r_p hq 1 (pc' := 5) (L' := [(0, .ref 118), (1, .ref 120), (2, .int X2), (3, .int X3)]) (st' := [.int X3]) rfl ?_
    rcases z_ite h with ⟨c_5, h⟩ | ⟨c_5, h⟩
    · refine r_t1 (pc' := 54) (L' := [(2, .int X2)]) hq (z_at.mk 3 rfl rfl) rfl hx3 c_5 rfl rfl ?_
      refine r_p hq 1 (pc' := 55) (L' := [(2, .int X2)]) (st' := [.int X2]) rfl ?_
      cases h
      exact r_ri hq (z_at.mk 1 rfl rfl) rfl rfl hx2 rfl H
    · refine r_f1 (pc' := 8) (L' := [(0, .ref 118), (1, .ref 120), (2, .int X2), (3, .int X3)]) hq (z_at.mk 3 rfl rfl) rfl hx3 c_5 rfl rfl ?_
      refine r_p hq 2 (pc' := 12) (L' := [(0, .ref 118), (1, .ref 120), (2, .int X2), (3, .int X3)]) (st' := [.int ((160 : Int32)), .int X2]) rfl ?_
      rcases z_ite h with ⟨c_12, h⟩ | ⟨c_12, h⟩
      · refine r_t2 (pc' := 54) (L' := [(2, .int X2)]) hq (z_at.mk 3 rfl rfl) rfl hx2 (rfl : (160 : Int32).toInt = 160) c_12 rfl rfl ?_
        refine r_p hq 1 (pc' := 55) (L' := [(2, .int X2)]) (st' := [.int X2]) rfl ?_
        cases h
        exact r_ri hq (z_at.mk 1 rfl rfl) rfl rfl hx2 rfl H
      · refine r_f2 (pc' := 15) (L' := [(0, .ref 118), (1, .ref 120), (2, .int X2), (3, .int X3)]) hq (z_at.mk 3 rfl rfl) rfl hx2 (rfl : (160 : Int32).toInt = 160) c_12 rfl rfl ?_
        refine r_p hq 2 (pc' := 18) (L' := [(0, .ref 118), (1, .ref 120), (2, .int X2), (3, .int X3)]) (st' := [.ref 1, .ref 120]) rfl ?_
        obtain ⟨o_18, h_18, h⟩ := Option.bind_eq_some_iff.mp h
        refine r_cvI (pc' := 21) (L' := [(0, .ref 118), (1, .ref 120), (2, .int X2), (3, .int X3)]) (Ps := [.ref 1]) (rest := []) hq (z_at.mk 3 rfl rfl) (Or.inl ⟨rfl, rfl⟩) rfl rfl (by decide) (by decide) rfl (Nat.not_lt.mpr (Nat.le_of_ble_eq_true rfl)) rfl rfl (z_cat_le 0 rfl (by decide)) (z_lgl_le 2 rfl (by decide)) (by decide) (H.tg rfl) (by omega) (g_ta_word_ok rfl H h_18) rfl rfl ?_
        intro R_18 m_18 p_18 e_18 hR_18 H_18
        subst e_18
        refine r_p hq 3 (pc' := 26) (L' := [(4, .int R_18), (0, .ref 118), (1, .ref 120), (2, .int X2), (3, .int X3)]) (st' := [.int ((32 : Int32)), .ref 120]) rfl ?_
        obtain ⟨o_26, h_26, h⟩ := Option.bind_eq_some_iff.mp h
        refine r_cvV (pc' := 29) (L' := [(4, .int R_18), (0, .ref 118), (1, .ref 120), (2, .int X2), (3, .int X3)]) (Ps := [.int ((32 : Int32))]) (rest := []) hq (z_at.mk 3 rfl rfl) (Or.inl ⟨rfl, rfl⟩) rfl rfl (by decide) (by decide) rfl (Nat.not_lt.mpr (Nat.le_of_ble_eq_true rfl)) rfl rfl (z_cat_le 0 rfl (by decide)) (z_lgl_le 2 rfl (by decide)) (by decide) (H_18.tg rfl) (by omega) (g_ta_wants_ok (rfl : (32 : Int32).toInt = 32) H_18 h_26) rfl rfl ?_
        intro m_26 p_26 e_26 H_26
        subst e_26
        refine r_p hq 5 (pc' := 36) (L' := [(4, .int R_18), (0, .ref 118), (1, .ref 120), (2, .int X2), (3, .int X3)]) (st' := [.int R_18, .ref 120, .ref 118, .int R_18, .ref 118]) rfl ?_
        obtain ⟨o_36, h_36, h⟩ := Option.bind_eq_some_iff.mp h
        refine r_cvI (pc' := 39) (L' := [(4, .int R_18), (0, .ref 118), (1, .ref 120), (2, .int X2), (3, .int X3)]) (Ps := [.ref 120, .int R_18]) (rest := [.int R_18, .ref 118]) hq (z_at.mk 3 rfl rfl) (Or.inl ⟨rfl, rfl⟩) rfl rfl (by decide) (by decide) rfl (Nat.not_lt.mpr (Nat.le_of_ble_eq_true rfl)) rfl rfl (z_cat_le 2 rfl (by decide)) (z_lgl_le 3 rfl (by decide)) (by decide) (H_26.tg rfl) (by omega) (g_se_readValue_ok hR_18 H_26 h_36) rfl rfl ?_
        intro R_36 m_36 p_36 e_36 hR_36 H_36
        subst e_36
        obtain ⟨o_39, h_39, h⟩ := Option.bind_eq_some_iff.mp h
        refine r_cvV (pc' := 42) (L' := [(4, .int R_18), (0, .ref 118), (1, .ref 120), (2, .int X2), (3, .int X3)]) (Ps := [.int R_18, .int R_36]) (rest := []) hq (z_at.mk 3 rfl rfl) (Or.inl ⟨rfl, rfl⟩) rfl rfl (by decide) (by decide) rfl (Nat.not_lt.mpr (Nat.le_of_ble_eq_true rfl)) rfl rfl (z_cat_le 0 rfl (by decide)) (z_lgl_le 3 rfl (by decide)) (by decide) (H_36.tg rfl) (by omega) (g_se_become_ok rfl hR_18 hR_36 H_36 h_39) rfl rfl ?_
        intro m_39 p_39 e_39 H_39
        subst e_39
        refine r_p hq 2 (pc' := 44) (L' := [(4, .int R_18), (0, .ref 118), (1, .ref 120), (2, .int X2), (3, .int X3)]) (st' := [.int ((1 : Int32)), .ref 120]) rfl ?_
        obtain ⟨o_44, h_44, h⟩ := Option.bind_eq_some_iff.mp h
        refine r_cvI (pc' := 47) (L' := [(4, .int R_18), (0, .ref 118), (1, .ref 120), (2, .int X2), (3, .int X3)]) (Ps := [.int ((1 : Int32))]) (rest := []) hq (z_at.mk 3 rfl rfl) (Or.inl ⟨rfl, rfl⟩) rfl rfl (by decide) (by decide) rfl (Nat.not_lt.mpr (Nat.le_of_ble_eq_true rfl)) rfl rfl (z_cat_le 0 rfl (by decide)) (z_lgl_le 2 rfl (by decide)) (by decide) (H_39.tg rfl) (by omega) (g_ta_another_ok (rfl : (1 : Int32).toInt = 1) H_39 h_44) rfl rfl ?_
        intro R_44 m_44 p_44 e_44 hR_44 H_44
        subst e_44
        refine r_p hq 3 (pc' := 4) (L' := [(0, .ref 118), (1, .ref 120), (2, .int (X2 + (1 : Int32))), (3, .int R_44)]) (st' := []) rfl ?_
        exact ih (tx_iadd hx2 (rfl : (1 : Int32).toInt = 1)) hR_44 H_44 h
def g_se_readParts (σ : zS) : Option (Int × zS) :=
  g_se_readParts_L4 zK 0 1 σ
set_option maxHeartbeats 4000000 in
theorem g_se_readParts_ok {xl : Nat} {xs : Nat → Int32} {σ : zS} {p : Nat} {m : zM} {o : Int × zS} (H : zRep xl xs p m σ) (h : g_se_readParts σ = some o) : zGo xl xs (fun p' => p = p') 6 75 0 (z_can 75 0 (lv_args 0 [.ref 118, .ref 120])) [] m (vI o.1) o.2 := by
  have hq : z_mth 75 = some z_r75 := rfl
  unfold g_se_readParts at h
  show zGo xl xs (fun p' => p = p') 6 75 0 [(0, .ref 118), (1, .ref 120)] [] m (vI o.1) o.2
  refine r_p hq 4 (pc' := 4) (L' := [(0, .ref 118), (1, .ref 120), (2, .int ((0 : Int32))), (3, .int ((1 : Int32)))]) (st' := []) rfl ?_
  exact g_se_readParts_L4_ok zK (rfl : (0 : Int32).toInt = 0) (rfl : (1 : Int32).toInt = 1) H h
def g_wa_copyFrom (a0 : Nat) (a1 : Nat) (σ : zS) : Option (Unit × zS) :=
  let s_12 := zcp σ (a1 + 1) 0 (a0 + 1) 0 6
  let s_27 := zcp s_12 (a1 + 2) 0 (a0 + 2) 0 6
  let s_42 := zcp s_27 (a1 + 3) 0 (a0 + 3) 0 6
  let v_47 := s_42 a1 5
  let s_50 := zu s_42 a0 5 v_47
  some ((), s_50)
set_option maxHeartbeats 4000000 in
theorem g_wa_copyFrom_ok {xl : Nat} {xs : Nat → Int32} {a0 : Nat} (ha0 : zIn [65, 98] a0 = true) {a1 : Nat} (ha1 : zIn [65, 98] a1 = true) {σ : zS} {p : Nat} {m : zM} {o : Unit × zS} (H : zRep xl xs p m σ) (h : g_wa_copyFrom a0 a1 σ = some o) : zGo xl xs (fun p' => p = p') 1 113 0 (z_can 113 0 (lv_args 0 [.ref a0, .ref a1])) [] m vV o.2 := by
  have hq : z_mth 113 = some z_r113 := rfl
  unfold g_wa_copyFrom at h
  show zGo xl xs (fun p' => p = p') 1 113 0 [(0, .ref a0), (1, .ref a1)] [] m vV o.2
  refine r_p hq 1 (pc' := 1) (L' := [(0, .ref a0), (1, .ref a1)]) (st' := [.ref a1]) rfl ?_
  refine r_gR (b := a1 + 1) (pc' := 4) (L' := [(0, .ref a0), (1, .ref a1)]) H hq (z_at.mk 3 rfl rfl) rfl (zIn_all (l := [65, 98]) (p := fun a => zQ a 20 0 (100 + a + 1)) rfl ha1) rfl rfl ?_
  refine r_p hq 2 (pc' := 6) (L' := [(0, .ref a0), (1, .ref a1)]) (st' := [.ref a0, .int ((0 : Int32)), .ref (a1 + 1)]) rfl ?_
  refine r_gR (b := a0 + 1) (pc' := 9) (L' := [(0, .ref a0), (1, .ref a1)]) H hq (z_at.mk 3 rfl rfl) rfl (zIn_all (l := [65, 98]) (p := fun a => zQ a 20 0 (100 + a + 1)) rfl ha0) rfl rfl ?_
  refine r_p hq 2 (pc' := 12) (L' := [(0, .ref a0), (1, .ref a1)]) (st' := [.int ((6 : Int32)), .int ((0 : Int32)), .ref (a0 + 1), .int ((0 : Int32)), .ref (a1 + 1)]) rfl ?_
  refine r_cp (t := 0) (pc' := 15) (L' := [(0, .ref a0), (1, .ref a1)]) H hq (z_at.mk 3 rfl rfl) rfl (by decide) (by decide) (zIn_all (l := [65, 98]) (p := fun a => zAr (a + 1) 0 6) rfl ha1) (zIn_all (l := [65, 98]) (p := fun a => zAr (a + 1) 0 6) rfl ha0) (rfl : (0 : Int32).toInt = 0) (rfl : (0 : Int32).toInt = 0) (rfl : (6 : Int32).toInt = 6) (by decide) rfl rfl ?_
  intro m_12 H_12
  refine r_p hq 1 (pc' := 16) (L' := [(0, .ref a0), (1, .ref a1)]) (st' := [.ref a1]) rfl ?_
  refine r_gR (b := a1 + 2) (pc' := 19) (L' := [(0, .ref a0), (1, .ref a1)]) H_12 hq (z_at.mk 3 rfl rfl) rfl (zIn_all (l := [65, 98]) (p := fun a => zQ a 20 1 (100 + a + 2)) rfl ha1) rfl rfl ?_
  refine r_p hq 2 (pc' := 21) (L' := [(0, .ref a0), (1, .ref a1)]) (st' := [.ref a0, .int ((0 : Int32)), .ref (a1 + 2)]) rfl ?_
  refine r_gR (b := a0 + 2) (pc' := 24) (L' := [(0, .ref a0), (1, .ref a1)]) H_12 hq (z_at.mk 3 rfl rfl) rfl (zIn_all (l := [65, 98]) (p := fun a => zQ a 20 1 (100 + a + 2)) rfl ha0) rfl rfl ?_
  refine r_p hq 2 (pc' := 27) (L' := [(0, .ref a0), (1, .ref a1)]) (st' := [.int ((6 : Int32)), .int ((0 : Int32)), .ref (a0 + 2), .int ((0 : Int32)), .ref (a1 + 2)]) rfl ?_
  refine r_cp (t := 0) (pc' := 30) (L' := [(0, .ref a0), (1, .ref a1)]) H_12 hq (z_at.mk 3 rfl rfl) rfl (by decide) (by decide) (zIn_all (l := [65, 98]) (p := fun a => zAr (a + 2) 0 6) rfl ha1) (zIn_all (l := [65, 98]) (p := fun a => zAr (a + 2) 0 6) rfl ha0) (rfl : (0 : Int32).toInt = 0) (rfl : (0 : Int32).toInt = 0) (rfl : (6 : Int32).toInt = 6) (by decide) rfl rfl ?_
  intro m_27 H_27
  refine r_p hq 1 (pc' := 31) (L' := [(0, .ref a0), (1, .ref a1)]) (st' := [.ref a1]) rfl ?_
  refine r_gR (b := a1 + 3) (pc' := 34) (L' := [(0, .ref a0), (1, .ref a1)]) H_27 hq (z_at.mk 3 rfl rfl) rfl (zIn_all (l := [65, 98]) (p := fun a => zQ a 20 2 (100 + a + 3)) rfl ha1) rfl rfl ?_
  refine r_p hq 2 (pc' := 36) (L' := [(0, .ref a0), (1, .ref a1)]) (st' := [.ref a0, .int ((0 : Int32)), .ref (a1 + 3)]) rfl ?_
  refine r_gR (b := a0 + 3) (pc' := 39) (L' := [(0, .ref a0), (1, .ref a1)]) H_27 hq (z_at.mk 3 rfl rfl) rfl (zIn_all (l := [65, 98]) (p := fun a => zQ a 20 2 (100 + a + 3)) rfl ha0) rfl rfl ?_
  refine r_p hq 2 (pc' := 42) (L' := [(0, .ref a0), (1, .ref a1)]) (st' := [.int ((6 : Int32)), .int ((0 : Int32)), .ref (a0 + 3), .int ((0 : Int32)), .ref (a1 + 3)]) rfl ?_
  refine r_cp (t := 0) (pc' := 45) (L' := [(0, .ref a0), (1, .ref a1)]) H_27 hq (z_at.mk 3 rfl rfl) rfl (by decide) (by decide) (zIn_all (l := [65, 98]) (p := fun a => zAr (a + 3) 0 6) rfl ha1) (zIn_all (l := [65, 98]) (p := fun a => zAr (a + 3) 0 6) rfl ha0) (rfl : (0 : Int32).toInt = 0) (rfl : (0 : Int32).toInt = 0) (rfl : (6 : Int32).toInt = 6) (by decide) rfl rfl ?_
  intro m_42 H_42
  refine r_p hq 2 (pc' := 47) (L' := [(0, .ref a0), (1, .ref a1)]) (st' := [.ref a1, .ref a0]) rfl ?_
  refine r_gI (pc' := 50) (L' := [(0, .ref a0), (1, .ref a1)]) H_42 hq (z_at.mk 3 rfl rfl) rfl (zIn_all (l := [65, 98]) (p := fun a => zQ a 20 5 0) rfl ha1) rfl rfl ?_
  intro V_47 hV_47
  refine r_pI (X := V_47) (pc' := 53) (L' := [(0, .ref a0), (1, .ref a1)]) H_42 hq (z_at.mk 3 rfl rfl) rfl (zIn_all (l := [65, 98]) (p := fun a => zQ a 20 5 0) rfl ha0) hV_47 (by decide) rfl rfl rfl rfl ?_
  intro m_50 H_50
  cases h
  exact r_rv hq (z_at.mk 1 rfl rfl) rfl rfl H_50
def g_so_copyFrom (a0 : Nat) (a1 : Nat) (σ : zS) : Option (Unit × zS) :=
  let s_12 := zcp σ (a1 + 1) 0 (a0 + 1) 0 60
  let s_27 := zcp s_12 (a1 + 2) 0 (a0 + 2) 0 60
  let s_42 := zcp s_27 (a1 + 3) 0 (a0 + 3) 0 60
  let s_57 := zcp s_42 (a1 + 4) 0 (a0 + 4) 0 60
  let s_72 := zcp s_57 (a1 + 5) 0 (a0 + 5) 0 33
  let s_87 := zcp s_72 (a1 + 6) 0 (a0 + 6) 0 33
  let v_92 := s_87 a1 4
  let s_95 := zu s_87 a0 4 v_92
  some ((), s_95)
set_option maxHeartbeats 4000000 in
theorem g_so_copyFrom_ok {xl : Nat} {xs : Nat → Int32} {a0 : Nat} (ha0 : zIn [41, 74] a0 = true) {a1 : Nat} (ha1 : zIn [41, 74] a1 = true) {σ : zS} {p : Nat} {m : zM} {o : Unit × zS} (H : zRep xl xs p m σ) (h : g_so_copyFrom a0 a1 σ = some o) : zGo xl xs (fun p' => p = p') 1 89 0 (z_can 89 0 (lv_args 0 [.ref a0, .ref a1])) [] m vV o.2 := by
  have hq : z_mth 89 = some z_r89 := rfl
  unfold g_so_copyFrom at h
  show zGo xl xs (fun p' => p = p') 1 89 0 [(0, .ref a0), (1, .ref a1)] [] m vV o.2
  refine r_p hq 1 (pc' := 1) (L' := [(0, .ref a0), (1, .ref a1)]) (st' := [.ref a1]) rfl ?_
  refine r_gR (b := a1 + 1) (pc' := 4) (L' := [(0, .ref a0), (1, .ref a1)]) H hq (z_at.mk 3 rfl rfl) rfl (zIn_all (l := [41, 74]) (p := fun a => zQ a 18 0 (100 + a + 1)) rfl ha1) rfl rfl ?_
  refine r_p hq 2 (pc' := 6) (L' := [(0, .ref a0), (1, .ref a1)]) (st' := [.ref a0, .int ((0 : Int32)), .ref (a1 + 1)]) rfl ?_
  refine r_gR (b := a0 + 1) (pc' := 9) (L' := [(0, .ref a0), (1, .ref a1)]) H hq (z_at.mk 3 rfl rfl) rfl (zIn_all (l := [41, 74]) (p := fun a => zQ a 18 0 (100 + a + 1)) rfl ha0) rfl rfl ?_
  refine r_p hq 2 (pc' := 12) (L' := [(0, .ref a0), (1, .ref a1)]) (st' := [.int ((60 : Int32)), .int ((0 : Int32)), .ref (a0 + 1), .int ((0 : Int32)), .ref (a1 + 1)]) rfl ?_
  refine r_cp (t := 0) (pc' := 15) (L' := [(0, .ref a0), (1, .ref a1)]) H hq (z_at.mk 3 rfl rfl) rfl (by decide) (by decide) (zIn_all (l := [41, 74]) (p := fun a => zAr (a + 1) 0 60) rfl ha1) (zIn_all (l := [41, 74]) (p := fun a => zAr (a + 1) 0 60) rfl ha0) (rfl : (0 : Int32).toInt = 0) (rfl : (0 : Int32).toInt = 0) (rfl : (60 : Int32).toInt = 60) (by decide) rfl rfl ?_
  intro m_12 H_12
  refine r_p hq 1 (pc' := 16) (L' := [(0, .ref a0), (1, .ref a1)]) (st' := [.ref a1]) rfl ?_
  refine r_gR (b := a1 + 2) (pc' := 19) (L' := [(0, .ref a0), (1, .ref a1)]) H_12 hq (z_at.mk 3 rfl rfl) rfl (zIn_all (l := [41, 74]) (p := fun a => zQ a 18 1 (100 + a + 2)) rfl ha1) rfl rfl ?_
  refine r_p hq 2 (pc' := 21) (L' := [(0, .ref a0), (1, .ref a1)]) (st' := [.ref a0, .int ((0 : Int32)), .ref (a1 + 2)]) rfl ?_
  refine r_gR (b := a0 + 2) (pc' := 24) (L' := [(0, .ref a0), (1, .ref a1)]) H_12 hq (z_at.mk 3 rfl rfl) rfl (zIn_all (l := [41, 74]) (p := fun a => zQ a 18 1 (100 + a + 2)) rfl ha0) rfl rfl ?_
  refine r_p hq 2 (pc' := 27) (L' := [(0, .ref a0), (1, .ref a1)]) (st' := [.int ((60 : Int32)), .int ((0 : Int32)), .ref (a0 + 2), .int ((0 : Int32)), .ref (a1 + 2)]) rfl ?_
  refine r_cp (t := 0) (pc' := 30) (L' := [(0, .ref a0), (1, .ref a1)]) H_12 hq (z_at.mk 3 rfl rfl) rfl (by decide) (by decide) (zIn_all (l := [41, 74]) (p := fun a => zAr (a + 2) 0 60) rfl ha1) (zIn_all (l := [41, 74]) (p := fun a => zAr (a + 2) 0 60) rfl ha0) (rfl : (0 : Int32).toInt = 0) (rfl : (0 : Int32).toInt = 0) (rfl : (60 : Int32).toInt = 60) (by decide) rfl rfl ?_
  intro m_27 H_27
  refine r_p hq 1 (pc' := 31) (L' := [(0, .ref a0), (1, .ref a1)]) (st' := [.ref a1]) rfl ?_
  refine r_gR (b := a1 + 3) (pc' := 34) (L' := [(0, .ref a0), (1, .ref a1)]) H_27 hq (z_at.mk 3 rfl rfl) rfl (zIn_all (l := [41, 74]) (p := fun a => zQ a 18 2 (100 + a + 3)) rfl ha1) rfl rfl ?_
  refine r_p hq 2 (pc' := 36) (L' := [(0, .ref a0), (1, .ref a1)]) (st' := [.ref a0, .int ((0 : Int32)), .ref (a1 + 3)]) rfl ?_
  refine r_gR (b := a0 + 3) (pc' := 39) (L' := [(0, .ref a0), (1, .ref a1)]) H_27 hq (z_at.mk 3 rfl rfl) rfl (zIn_all (l := [41, 74]) (p := fun a => zQ a 18 2 (100 + a + 3)) rfl ha0) rfl rfl ?_
  refine r_p hq 2 (pc' := 42) (L' := [(0, .ref a0), (1, .ref a1)]) (st' := [.int ((60 : Int32)), .int ((0 : Int32)), .ref (a0 + 3), .int ((0 : Int32)), .ref (a1 + 3)]) rfl ?_
  refine r_cp (t := 1) (pc' := 45) (L' := [(0, .ref a0), (1, .ref a1)]) H_27 hq (z_at.mk 3 rfl rfl) rfl (by decide) (by decide) (zIn_all (l := [41, 74]) (p := fun a => zAr (a + 3) 1 60) rfl ha1) (zIn_all (l := [41, 74]) (p := fun a => zAr (a + 3) 1 60) rfl ha0) (rfl : (0 : Int32).toInt = 0) (rfl : (0 : Int32).toInt = 0) (rfl : (60 : Int32).toInt = 60) (by decide) rfl rfl ?_
  intro m_42 H_42
  refine r_p hq 1 (pc' := 46) (L' := [(0, .ref a0), (1, .ref a1)]) (st' := [.ref a1]) rfl ?_
  refine r_gR (b := a1 + 4) (pc' := 49) (L' := [(0, .ref a0), (1, .ref a1)]) H_42 hq (z_at.mk 3 rfl rfl) rfl (zIn_all (l := [41, 74]) (p := fun a => zQ a 18 3 (100 + a + 4)) rfl ha1) rfl rfl ?_
  refine r_p hq 2 (pc' := 51) (L' := [(0, .ref a0), (1, .ref a1)]) (st' := [.ref a0, .int ((0 : Int32)), .ref (a1 + 4)]) rfl ?_
  refine r_gR (b := a0 + 4) (pc' := 54) (L' := [(0, .ref a0), (1, .ref a1)]) H_42 hq (z_at.mk 3 rfl rfl) rfl (zIn_all (l := [41, 74]) (p := fun a => zQ a 18 3 (100 + a + 4)) rfl ha0) rfl rfl ?_
  refine r_p hq 2 (pc' := 57) (L' := [(0, .ref a0), (1, .ref a1)]) (st' := [.int ((60 : Int32)), .int ((0 : Int32)), .ref (a0 + 4), .int ((0 : Int32)), .ref (a1 + 4)]) rfl ?_
  refine r_cp (t := 0) (pc' := 60) (L' := [(0, .ref a0), (1, .ref a1)]) H_42 hq (z_at.mk 3 rfl rfl) rfl (by decide) (by decide) (zIn_all (l := [41, 74]) (p := fun a => zAr (a + 4) 0 60) rfl ha1) (zIn_all (l := [41, 74]) (p := fun a => zAr (a + 4) 0 60) rfl ha0) (rfl : (0 : Int32).toInt = 0) (rfl : (0 : Int32).toInt = 0) (rfl : (60 : Int32).toInt = 60) (by decide) rfl rfl ?_
  intro m_57 H_57
  refine r_p hq 1 (pc' := 61) (L' := [(0, .ref a0), (1, .ref a1)]) (st' := [.ref a1]) rfl ?_
  refine r_gR (b := a1 + 5) (pc' := 64) (L' := [(0, .ref a0), (1, .ref a1)]) H_57 hq (z_at.mk 3 rfl rfl) rfl (zIn_all (l := [41, 74]) (p := fun a => zQ a 18 5 (100 + a + 5)) rfl ha1) rfl rfl ?_
  refine r_p hq 2 (pc' := 66) (L' := [(0, .ref a0), (1, .ref a1)]) (st' := [.ref a0, .int ((0 : Int32)), .ref (a1 + 5)]) rfl ?_
  refine r_gR (b := a0 + 5) (pc' := 69) (L' := [(0, .ref a0), (1, .ref a1)]) H_57 hq (z_at.mk 3 rfl rfl) rfl (zIn_all (l := [41, 74]) (p := fun a => zQ a 18 5 (100 + a + 5)) rfl ha0) rfl rfl ?_
  refine r_p hq 2 (pc' := 72) (L' := [(0, .ref a0), (1, .ref a1)]) (st' := [.int ((33 : Int32)), .int ((0 : Int32)), .ref (a0 + 5), .int ((0 : Int32)), .ref (a1 + 5)]) rfl ?_
  refine r_cp (t := 1) (pc' := 75) (L' := [(0, .ref a0), (1, .ref a1)]) H_57 hq (z_at.mk 3 rfl rfl) rfl (by decide) (by decide) (zIn_all (l := [41, 74]) (p := fun a => zAr (a + 5) 1 33) rfl ha1) (zIn_all (l := [41, 74]) (p := fun a => zAr (a + 5) 1 33) rfl ha0) (rfl : (0 : Int32).toInt = 0) (rfl : (0 : Int32).toInt = 0) (rfl : (33 : Int32).toInt = 33) (by decide) rfl rfl ?_
  intro m_72 H_72
  refine r_p hq 1 (pc' := 76) (L' := [(0, .ref a0), (1, .ref a1)]) (st' := [.ref a1]) rfl ?_
  refine r_gR (b := a1 + 6) (pc' := 79) (L' := [(0, .ref a0), (1, .ref a1)]) H_72 hq (z_at.mk 3 rfl rfl) rfl (zIn_all (l := [41, 74]) (p := fun a => zQ a 18 6 (100 + a + 6)) rfl ha1) rfl rfl ?_
  refine r_p hq 2 (pc' := 81) (L' := [(0, .ref a0), (1, .ref a1)]) (st' := [.ref a0, .int ((0 : Int32)), .ref (a1 + 6)]) rfl ?_
  refine r_gR (b := a0 + 6) (pc' := 84) (L' := [(0, .ref a0), (1, .ref a1)]) H_72 hq (z_at.mk 3 rfl rfl) rfl (zIn_all (l := [41, 74]) (p := fun a => zQ a 18 6 (100 + a + 6)) rfl ha0) rfl rfl ?_
  refine r_p hq 2 (pc' := 87) (L' := [(0, .ref a0), (1, .ref a1)]) (st' := [.int ((33 : Int32)), .int ((0 : Int32)), .ref (a0 + 6), .int ((0 : Int32)), .ref (a1 + 6)]) rfl ?_
  refine r_cp (t := 1) (pc' := 90) (L' := [(0, .ref a0), (1, .ref a1)]) H_72 hq (z_at.mk 3 rfl rfl) rfl (by decide) (by decide) (zIn_all (l := [41, 74]) (p := fun a => zAr (a + 6) 1 33) rfl ha1) (zIn_all (l := [41, 74]) (p := fun a => zAr (a + 6) 1 33) rfl ha0) (rfl : (0 : Int32).toInt = 0) (rfl : (0 : Int32).toInt = 0) (rfl : (33 : Int32).toInt = 33) (by decide) rfl rfl ?_
  intro m_87 H_87
  refine r_p hq 2 (pc' := 92) (L' := [(0, .ref a0), (1, .ref a1)]) (st' := [.ref a1, .ref a0]) rfl ?_
  refine r_gI (pc' := 95) (L' := [(0, .ref a0), (1, .ref a1)]) H_87 hq (z_at.mk 3 rfl rfl) rfl (zIn_all (l := [41, 74]) (p := fun a => zQ a 18 4 0) rfl ha1) rfl rfl ?_
  intro V_92 hV_92
  refine r_pI (X := V_92) (pc' := 98) (L' := [(0, .ref a0), (1, .ref a1)]) H_87 hq (z_at.mk 3 rfl rfl) rfl (zIn_all (l := [41, 74]) (p := fun a => zQ a 18 4 0) rfl ha0) hV_92 (by decide) rfl rfl rfl rfl ?_
  intro m_95 H_95
  cases h
  exact r_rv hq (z_at.mk 1 rfl rfl) rfl rfl H_95
def g_st_copyFrom (a0 : Nat) (a1 : Nat) (σ : zS) : Option (Unit × zS) :=
  (g_so_copyFrom (a0 + 1) (a1 + 1) σ).bind fun o_8 =>
  (g_ca_copyFrom (a0 + 8) (a1 + 8) o_8.2).bind fun o_19 =>
  (g_fi_copyFrom (a0 + 20) (a1 + 20) o_19.2).bind fun o_30 =>
  (g_bs_copyFrom (a0 + 23) (a1 + 23) o_30.2).bind fun o_41 =>
  (g_wa_copyFrom (a0 + 25) (a1 + 25) o_41.2).bind fun o_52 =>
  some ((), o_52.2)
set_option maxHeartbeats 4000000 in
theorem g_st_copyFrom_ok {xl : Nat} {xs : Nat → Int32} {a0 : Nat} (ha0 : zIn [40, 73] a0 = true) {a1 : Nat} (ha1 : zIn [40, 73] a1 = true) {σ : zS} {p : Nat} {m : zM} {o : Unit × zS} (H : zRep xl xs p m σ) (h : g_st_copyFrom a0 a1 σ = some o) : zGo xl xs (fun p' => p = p') 3 78 0 (z_can 78 0 (lv_args 0 [.ref a0, .ref a1])) [] m vV o.2 := by
  have hq : z_mth 78 = some z_r78 := rfl
  unfold g_st_copyFrom at h
  show zGo xl xs (fun p' => p = p') 3 78 0 [(0, .ref a0), (1, .ref a1)] [] m vV o.2
  refine r_p hq 1 (pc' := 1) (L' := [(0, .ref a0), (1, .ref a1)]) (st' := [.ref a0]) rfl ?_
  refine r_gR (b := a0 + 1) (pc' := 4) (L' := [(0, .ref a0), (1, .ref a1)]) H hq (z_at.mk 3 rfl rfl) rfl (zIn_all (l := [40, 73]) (p := fun a => zQ a 17 0 (100 + a + 1)) rfl ha0) rfl rfl ?_
  refine r_p hq 1 (pc' := 5) (L' := [(0, .ref a0), (1, .ref a1)]) (st' := [.ref a1, .ref (a0 + 1)]) rfl ?_
  refine r_gR (b := a1 + 1) (pc' := 8) (L' := [(0, .ref a0), (1, .ref a1)]) H hq (z_at.mk 3 rfl rfl) rfl (zIn_all (l := [40, 73]) (p := fun a => zQ a 17 0 (100 + a + 1)) rfl ha1) rfl rfl ?_
  obtain ⟨o_8, h_8, h⟩ := Option.bind_eq_some_iff.mp h
  refine r_cvV (pc' := 11) (L' := [(0, .ref a0), (1, .ref a1)]) (Ps := [.ref (a1 + 1)]) (rest := []) hq (z_at.mk 3 rfl rfl) (Or.inl ⟨rfl, rfl⟩) rfl rfl (by decide) (by decide) rfl (Nat.not_lt.mpr (Nat.le_of_ble_eq_true rfl)) rfl rfl (z_cat_le 0 rfl (by decide)) (z_lgl_le 2 rfl (by decide)) (by decide) (H.tg (zIn_all (l := [40, 73]) (p := fun a => zT (a + 1) 18) rfl ha0)) (by omega) (g_so_copyFrom_ok (zIn_all (l := [40, 73]) (p := fun a => zIn [41, 74] (a + 1)) rfl ha0) (zIn_all (l := [40, 73]) (p := fun a => zIn [41, 74] (a + 1)) rfl ha1) H h_8) rfl rfl ?_
  intro m_8 p_8 e_8 H_8
  subst e_8
  refine r_p hq 1 (pc' := 12) (L' := [(0, .ref a0), (1, .ref a1)]) (st' := [.ref a0]) rfl ?_
  refine r_gR (b := a0 + 8) (pc' := 15) (L' := [(0, .ref a0), (1, .ref a1)]) H_8 hq (z_at.mk 3 rfl rfl) rfl (zIn_all (l := [40, 73]) (p := fun a => zQ a 17 1 (100 + a + 8)) rfl ha0) rfl rfl ?_
  refine r_p hq 1 (pc' := 16) (L' := [(0, .ref a0), (1, .ref a1)]) (st' := [.ref a1, .ref (a0 + 8)]) rfl ?_
  refine r_gR (b := a1 + 8) (pc' := 19) (L' := [(0, .ref a0), (1, .ref a1)]) H_8 hq (z_at.mk 3 rfl rfl) rfl (zIn_all (l := [40, 73]) (p := fun a => zQ a 17 1 (100 + a + 8)) rfl ha1) rfl rfl ?_
  obtain ⟨o_19, h_19, h⟩ := Option.bind_eq_some_iff.mp h
  refine r_cvV (pc' := 22) (L' := [(0, .ref a0), (1, .ref a1)]) (Ps := [.ref (a1 + 8)]) (rest := []) hq (z_at.mk 3 rfl rfl) (Or.inl ⟨rfl, rfl⟩) rfl rfl (by decide) (by decide) rfl (Nat.not_lt.mpr (Nat.le_of_ble_eq_true rfl)) rfl rfl (z_cat_le 0 rfl (by decide)) (z_lgl_le 2 rfl (by decide)) (by decide) (H_8.tg (zIn_all (l := [40, 73]) (p := fun a => zT (a + 8) 12) rfl ha0)) (by omega) (g_ca_copyFrom_ok (zIn_all (l := [40, 73]) (p := fun a => zIn [48, 81] (a + 8)) rfl ha0) (zIn_all (l := [40, 73]) (p := fun a => zIn [48, 81] (a + 8)) rfl ha1) H_8 h_19) rfl rfl ?_
  intro m_19 p_19 e_19 H_19
  subst e_19
  refine r_p hq 1 (pc' := 23) (L' := [(0, .ref a0), (1, .ref a1)]) (st' := [.ref a0]) rfl ?_
  refine r_gR (b := a0 + 20) (pc' := 26) (L' := [(0, .ref a0), (1, .ref a1)]) H_19 hq (z_at.mk 3 rfl rfl) rfl (zIn_all (l := [40, 73]) (p := fun a => zQ a 17 2 (100 + a + 20)) rfl ha0) rfl rfl ?_
  refine r_p hq 1 (pc' := 27) (L' := [(0, .ref a0), (1, .ref a1)]) (st' := [.ref a1, .ref (a0 + 20)]) rfl ?_
  refine r_gR (b := a1 + 20) (pc' := 30) (L' := [(0, .ref a0), (1, .ref a1)]) H_19 hq (z_at.mk 3 rfl rfl) rfl (zIn_all (l := [40, 73]) (p := fun a => zQ a 17 2 (100 + a + 20)) rfl ha1) rfl rfl ?_
  obtain ⟨o_30, h_30, h⟩ := Option.bind_eq_some_iff.mp h
  refine r_cvV (pc' := 33) (L' := [(0, .ref a0), (1, .ref a1)]) (Ps := [.ref (a1 + 20)]) (rest := []) hq (z_at.mk 3 rfl rfl) (Or.inl ⟨rfl, rfl⟩) rfl rfl (by decide) (by decide) rfl (Nat.not_lt.mpr (Nat.le_of_ble_eq_true rfl)) rfl rfl (z_cat_le 0 rfl (by decide)) (z_lgl_le 2 rfl (by decide)) (by decide) (H_19.tg (zIn_all (l := [40, 73]) (p := fun a => zT (a + 20) 13) rfl ha0)) (by omega) (g_fi_copyFrom_ok (zIn_all (l := [40, 73]) (p := fun a => zIn [60, 93] (a + 20)) rfl ha0) (zIn_all (l := [40, 73]) (p := fun a => zIn [60, 93] (a + 20)) rfl ha1) H_19 h_30) rfl rfl ?_
  intro m_30 p_30 e_30 H_30
  subst e_30
  refine r_p hq 1 (pc' := 34) (L' := [(0, .ref a0), (1, .ref a1)]) (st' := [.ref a0]) rfl ?_
  refine r_gR (b := a0 + 23) (pc' := 37) (L' := [(0, .ref a0), (1, .ref a1)]) H_30 hq (z_at.mk 3 rfl rfl) rfl (zIn_all (l := [40, 73]) (p := fun a => zQ a 17 3 (100 + a + 23)) rfl ha0) rfl rfl ?_
  refine r_p hq 1 (pc' := 38) (L' := [(0, .ref a0), (1, .ref a1)]) (st' := [.ref a1, .ref (a0 + 23)]) rfl ?_
  refine r_gR (b := a1 + 23) (pc' := 41) (L' := [(0, .ref a0), (1, .ref a1)]) H_30 hq (z_at.mk 3 rfl rfl) rfl (zIn_all (l := [40, 73]) (p := fun a => zQ a 17 3 (100 + a + 23)) rfl ha1) rfl rfl ?_
  obtain ⟨o_41, h_41, h⟩ := Option.bind_eq_some_iff.mp h
  refine r_cvV (pc' := 44) (L' := [(0, .ref a0), (1, .ref a1)]) (Ps := [.ref (a1 + 23)]) (rest := []) hq (z_at.mk 3 rfl rfl) (Or.inl ⟨rfl, rfl⟩) rfl rfl (by decide) (by decide) rfl (Nat.not_lt.mpr (Nat.le_of_ble_eq_true rfl)) rfl rfl (z_cat_le 0 rfl (by decide)) (z_lgl_le 2 rfl (by decide)) (by decide) (H_30.tg (zIn_all (l := [40, 73]) (p := fun a => zT (a + 23) 11) rfl ha0)) (by omega) (g_bs_copyFrom_ok (zIn_all (l := [40, 73]) (p := fun a => zIn [56, 58, 63, 96, 114, 116] (a + 23)) rfl ha0) (zIn_all (l := [40, 73]) (p := fun a => zIn [56, 58, 63, 96, 114, 116] (a + 23)) rfl ha1) H_30 h_41) rfl rfl ?_
  intro m_41 p_41 e_41 H_41
  subst e_41
  refine r_p hq 1 (pc' := 45) (L' := [(0, .ref a0), (1, .ref a1)]) (st' := [.ref a0]) rfl ?_
  refine r_gR (b := a0 + 25) (pc' := 48) (L' := [(0, .ref a0), (1, .ref a1)]) H_41 hq (z_at.mk 3 rfl rfl) rfl (zIn_all (l := [40, 73]) (p := fun a => zQ a 17 4 (100 + a + 25)) rfl ha0) rfl rfl ?_
  refine r_p hq 1 (pc' := 49) (L' := [(0, .ref a0), (1, .ref a1)]) (st' := [.ref a1, .ref (a0 + 25)]) rfl ?_
  refine r_gR (b := a1 + 25) (pc' := 52) (L' := [(0, .ref a0), (1, .ref a1)]) H_41 hq (z_at.mk 3 rfl rfl) rfl (zIn_all (l := [40, 73]) (p := fun a => zQ a 17 4 (100 + a + 25)) rfl ha1) rfl rfl ?_
  obtain ⟨o_52, h_52, h⟩ := Option.bind_eq_some_iff.mp h
  refine r_cvV (pc' := 55) (L' := [(0, .ref a0), (1, .ref a1)]) (Ps := [.ref (a1 + 25)]) (rest := []) hq (z_at.mk 3 rfl rfl) (Or.inl ⟨rfl, rfl⟩) rfl rfl (by decide) (by decide) rfl (Nat.not_lt.mpr (Nat.le_of_ble_eq_true rfl)) rfl rfl (z_cat_le 0 rfl (by decide)) (z_lgl_le 2 rfl (by decide)) (by decide) (H_41.tg (zIn_all (l := [40, 73]) (p := fun a => zT (a + 25) 20) rfl ha0)) (by omega) (g_wa_copyFrom_ok (zIn_all (l := [40, 73]) (p := fun a => zIn [65, 98] (a + 25)) rfl ha0) (zIn_all (l := [40, 73]) (p := fun a => zIn [65, 98] (a + 25)) rfl ha1) H_41 h_52) rfl rfl ?_
  intro m_52 p_52 e_52 H_52
  subst e_52
  cases h
  exact r_rv hq (z_at.mk 1 rfl rfl) rfl rfl H_52
def g_so_isIn (x1 : Int) (σ : zS) : Option (Int × zS) :=
  (g_so_isRow x1 σ).bind fun o_1 =>
  if o_1.1 = 0 then
    some (0, o_1.2)
  else
    let v_13 := o_1.2 46 32
    if lCmp (lAnd (lUshr v_13 x1) 1) 0 = 0 then
      some (0, o_1.2)
    else
      some (1, o_1.2)
set_option maxHeartbeats 4000000 in
theorem g_so_isIn_ok {xl : Nat} {xs : Nat → Int32} {X1 : Int32} {x1 : Int} (hx1 : X1.toInt = x1) {σ : zS} {p : Nat} {m : zM} {o : Int × zS} (H : zRep xl xs p m σ) (h : g_so_isIn x1 σ = some o) : zGo xl xs (fun p' => p = p') 2 81 0 (z_can 81 0 (lv_args 0 [.ref 41, .int X1])) [] m (vI o.1) o.2 := by
  have hq : z_mth 81 = some z_r81 := rfl
  unfold g_so_isIn at h
  show zGo xl xs (fun p' => p = p') 2 81 0 [(0, .ref 41), (1, .int X1)] [] m (vI o.1) o.2
  refine r_p hq 1 (pc' := 1) (L' := [(0, .ref 41), (1, .int X1)]) (st' := [.int X1]) rfl ?_
  obtain ⟨o_1, h_1, h⟩ := Option.bind_eq_some_iff.mp h
  refine r_csI (pc' := 4) (L' := [(0, .ref 41), (1, .int X1)]) (As := [.int X1]) (rest := []) (j := 80) hq (z_at.mk 3 rfl rfl) (Or.inl ⟨rfl, rfl⟩) rfl rfl (by omega) (g_so_isRow_ok hx1 H h_1) rfl rfl ?_
  intro R_1 m_1 p_1 e_1 hR_1 H_1
  subst e_1
  rcases z_ite h with ⟨c_4, h⟩ | ⟨c_4, h⟩
  · refine r_t1 (pc' := 27) (L' := []) hq (z_at.mk 3 rfl rfl) rfl hR_1 c_4 rfl rfl ?_
    refine r_p hq 1 (pc' := 28) (L' := []) (st' := [.int ((0 : Int32))]) rfl ?_
    cases h
    exact r_ri hq (z_at.mk 1 rfl rfl) rfl rfl (rfl : (0 : Int32).toInt = 0) rfl H_1
  · refine r_f1 (pc' := 7) (L' := [(0, .ref 41), (1, .int X1)]) hq (z_at.mk 3 rfl rfl) rfl hR_1 c_4 rfl rfl ?_
    refine r_p hq 1 (pc' := 8) (L' := [(0, .ref 41), (1, .int X1)]) (st' := [.ref 41]) rfl ?_
    refine r_gR (b := 46) (pc' := 11) (L' := [(0, .ref 41), (1, .int X1)]) H_1 hq (z_at.mk 3 rfl rfl) rfl rfl rfl rfl ?_
    refine r_p hq 1 (pc' := 13) (L' := [(0, .ref 41), (1, .int X1)]) (st' := [.int ((32 : Int32)), .ref 46]) rfl ?_
    refine r_la (pc' := 14) (L' := [(0, .ref 41), (1, .int X1)]) H_1 hq (z_at.mk 1 rfl rfl) (show zAr 46 1 33 = true from rfl) (rfl : (32 : Int32).toInt = 32) ⟨by decide, by decide⟩ rfl rfl ?_
    intro V_13 hV_13
    refine r_p hq 6 (pc' := 20) (L' := [(0, .ref 41), (1, .int X1)]) (st' := [.int (lg_cmp (((V_13.toUInt64 >>> (X1.toInt64.toUInt64 &&& Int64.toUInt64 63)).toInt64) &&& ((1 : Int64))) ((0 : Int64)))]) rfl ?_
    rcases z_ite h with ⟨c_20, h⟩ | ⟨c_20, h⟩
    · refine r_t1 (pc' := 27) (L' := []) hq (z_at.mk 3 rfl rfl) rfl (tx_lcmp (tx_land (tx_lushr hV_13 hx1) (rfl : (1 : Int64).toInt = 1)) (rfl : (0 : Int64).toInt = 0)) c_20 rfl rfl ?_
      refine r_p hq 1 (pc' := 28) (L' := []) (st' := [.int ((0 : Int32))]) rfl ?_
      cases h
      exact r_ri hq (z_at.mk 1 rfl rfl) rfl rfl (rfl : (0 : Int32).toInt = 0) rfl H_1
    · refine r_f1 (pc' := 23) (L' := [(0, .ref 41), (1, .int X1)]) hq (z_at.mk 3 rfl rfl) rfl (tx_lcmp (tx_land (tx_lushr hV_13 hx1) (rfl : (1 : Int64).toInt = 1)) (rfl : (0 : Int64).toInt = 0)) c_20 rfl rfl ?_
      refine r_p hq 2 (pc' := 28) (L' := []) (st' := [.int ((1 : Int32))]) rfl ?_
      cases h
      exact r_ri hq (z_at.mk 1 rfl rfl) rfl rfl (rfl : (1 : Int32).toInt = 1) rfl H_1
def g_so_rank (x1 : Int) (σ : zS) : Option (Int × zS) :=
  (g_so_isRow x1 σ).bind fun o_1 =>
  if o_1.1 = 0 then
    some (0, o_1.2)
  else
    if 0 ≤ x1 ∧ x1 < 60 then
    let v_12 := o_1.2 42 x1
    if 0 ≤ x1 ∧ x1 < 60 then
    let v_21 := o_1.2 43 x1
    some (w32 ((w32 ((w32 ((w32 (v_12 * 32)) + v_21)) * 60)) + x1), o_1.2)
    else none
    else none
set_option maxHeartbeats 4000000 in
theorem g_so_rank_ok {xl : Nat} {xs : Nat → Int32} {X1 : Int32} {x1 : Int} (hx1 : X1.toInt = x1) {σ : zS} {p : Nat} {m : zM} {o : Int × zS} (H : zRep xl xs p m σ) (h : g_so_rank x1 σ = some o) : zGo xl xs (fun p' => p = p') 2 85 0 (z_can 85 0 (lv_args 0 [.ref 41, .int X1])) [] m (vI o.1) o.2 := by
  have hq : z_mth 85 = some z_r85 := rfl
  unfold g_so_rank at h
  show zGo xl xs (fun p' => p = p') 2 85 0 [(0, .ref 41), (1, .int X1)] [] m (vI o.1) o.2
  refine r_p hq 1 (pc' := 1) (L' := [(0, .ref 41), (1, .int X1)]) (st' := [.int X1]) rfl ?_
  obtain ⟨o_1, h_1, h⟩ := Option.bind_eq_some_iff.mp h
  refine r_csI (pc' := 4) (L' := [(0, .ref 41), (1, .int X1)]) (As := [.int X1]) (rest := []) (j := 80) hq (z_at.mk 3 rfl rfl) (Or.inl ⟨rfl, rfl⟩) rfl rfl (by omega) (g_so_isRow_ok hx1 H h_1) rfl rfl ?_
  intro R_1 m_1 p_1 e_1 hR_1 H_1
  subst e_1
  rcases z_ite h with ⟨c_4, h⟩ | ⟨c_4, h⟩
  · refine r_t1 (pc' := 31) (L' := [(0, .ref 41), (1, .int X1)]) hq (z_at.mk 3 rfl rfl) rfl hR_1 c_4 rfl rfl ?_
    refine r_p hq 1 (pc' := 32) (L' := []) (st' := [.int ((0 : Int32))]) rfl ?_
    cases h
    exact r_ri hq (z_at.mk 1 rfl rfl) rfl rfl (rfl : (0 : Int32).toInt = 0) rfl H_1
  · refine r_f1 (pc' := 7) (L' := [(0, .ref 41), (1, .int X1)]) hq (z_at.mk 3 rfl rfl) rfl hR_1 c_4 rfl rfl ?_
    refine r_p hq 1 (pc' := 8) (L' := [(0, .ref 41), (1, .int X1)]) (st' := [.ref 41]) rfl ?_
    refine r_gR (b := 42) (pc' := 11) (L' := [(0, .ref 41), (1, .int X1)]) H_1 hq (z_at.mk 3 rfl rfl) rfl rfl rfl rfl ?_
    refine r_p hq 1 (pc' := 12) (L' := [(0, .ref 41), (1, .int X1)]) (st' := [.int X1, .ref 42]) rfl ?_
    obtain ⟨g_12, h⟩ := z_ifo_some h
    refine r_ia (pc' := 13) (L' := [(0, .ref 41), (1, .int X1)]) H_1 hq (z_at.mk 1 rfl rfl) (show zAr 42 0 60 = true from rfl) hx1 g_12 rfl rfl ?_
    intro V_12 hV_12
    refine r_p hq 3 (pc' := 17) (L' := [(0, .ref 41), (1, .int X1)]) (st' := [.ref 41, .int (V_12 * ((32 : Int32)))]) rfl ?_
    refine r_gR (b := 43) (pc' := 20) (L' := [(0, .ref 41), (1, .int X1)]) H_1 hq (z_at.mk 3 rfl rfl) rfl rfl rfl rfl ?_
    refine r_p hq 1 (pc' := 21) (L' := [(0, .ref 41), (1, .int X1)]) (st' := [.int X1, .ref 43, .int (V_12 * ((32 : Int32)))]) rfl ?_
    obtain ⟨g_21, h⟩ := z_ifo_some h
    refine r_ia (pc' := 22) (L' := [(0, .ref 41), (1, .int X1)]) H_1 hq (z_at.mk 1 rfl rfl) (show zAr 43 0 60 = true from rfl) hx1 g_21 rfl rfl ?_
    intro V_21 hV_21
    refine r_p hq 6 (pc' := 32) (L' := []) (st' := [.int ((((V_12 * ((32 : Int32))) + V_21) * ((60 : Int32))) + X1)]) rfl ?_
    cases h
    exact r_ri hq (z_at.mk 1 rfl rfl) rfl rfl (tx_iadd (tx_imul (tx_iadd (tx_imul hV_12 (rfl : (32 : Int32).toInt = 32)) hV_21) (rfl : (60 : Int32).toInt = 60)) hx1) rfl H_1
def g_so_flip_L51 : Nat → Int → Int → zS → Option (Unit × zS)
  | 0, _, _, _ => none
  | n + 1, y2, x4, σ =>
    if 33 ≤ x4 then
      some ((), σ)
    else
      if 0 ≤ x4 ∧ x4 < 33 then
      let v_68 := σ 47 x4
      if 0 ≤ x4 ∧ x4 < 33 then
      let s_71 := zu σ 47 x4 (lXor v_68 y2)
      (g_so_flip_L51 n) y2 (w32 (x4 + 1)) s_71
      else none
      else none
set_option maxHeartbeats 4000000 in
theorem g_so_flip_L51_ok {xl : Nat} {xs : Nat → Int32} : ∀ (n : Nat) {Y2 : Int64} {y2 : Int} {X4 : Int32} {x4 : Int} {σ : zS} {p : Nat} {m : zM} {o : Unit × zS}, Y2.toInt = y2 → X4.toInt = x4 → zRep xl xs p m σ → g_so_flip_L51 n y2 x4 σ = some o → zGo xl xs (fun p' => p = p') 1 86 51 [(0, .ref 41), (2, .long Y2), (4, .int X4)] [] m vV o.2
  | 0, _, _, _, _, _, _, _, _, _, _, _, h => by cases h
  | n + 1, Y2, y2, X4, x4, σ, p, m, o, hy2, hx4, H, h => by
    have hq : z_mth 86 = some z_r86 := rfl
    have ih := fun {Y2 : Int64} {y2 : Int} {X4 : Int32} {x4 : Int} {σ : zS} {p : Nat} {m : zM} {o : Unit × zS} => g_so_flip_L51_ok (xl := xl) (xs := xs) n (Y2 := Y2) (y2 := y2) (X4 := X4) (x4 := x4) (σ := σ) (p := p) (m := m) (o := o)
    unfold g_so_flip_L51 at h
    refine r_p hq 2 (pc' := 54) (L' := [(0, .ref 41), (2, .long Y2), (4, .int X4)]) (st' := [.ref 41, .int X4]) rfl ?_
    refine r_gR (b := 47) (pc' := 57) (L' := [(0, .ref 41), (2, .long Y2), (4, .int X4)]) H hq (z_at.mk 3 rfl rfl) rfl rfl rfl rfl ?_
    refine r_le (pc' := 58) (L' := [(0, .ref 41), (2, .long Y2), (4, .int X4)]) H hq (z_at.mk 1 rfl rfl) (show zAr 47 1 33 = true from rfl) rfl rfl rfl ?_
    intro V_57 hV_57
    rcases z_ite h with ⟨c_58, h⟩ | ⟨c_58, h⟩
    · refine r_t2 (pc' := 78) (L' := [(0, .ref 41), (2, .long Y2), (4, .int X4)]) hq (z_at.mk 3 rfl rfl) rfl hx4 hV_57 c_58 rfl rfl ?_
      cases h
      exact r_rv hq (z_at.mk 1 rfl rfl) rfl rfl H
    · refine r_f2 (pc' := 61) (L' := [(0, .ref 41), (2, .long Y2), (4, .int X4)]) hq (z_at.mk 3 rfl rfl) rfl hx4 hV_57 c_58 rfl rfl ?_
      refine r_p hq 1 (pc' := 62) (L' := [(0, .ref 41), (2, .long Y2), (4, .int X4)]) (st' := [.ref 41]) rfl ?_
      refine r_gR (b := 47) (pc' := 65) (L' := [(0, .ref 41), (2, .long Y2), (4, .int X4)]) H hq (z_at.mk 3 rfl rfl) rfl rfl rfl rfl ?_
      refine r_p hq 2 (pc' := 68) (L' := [(0, .ref 41), (2, .long Y2), (4, .int X4)]) (st' := [.int X4, .ref 47, .int X4, .ref 47]) rfl ?_
      obtain ⟨g_68, h⟩ := z_ifo_some h
      refine r_la (pc' := 69) (L' := [(0, .ref 41), (2, .long Y2), (4, .int X4)]) H hq (z_at.mk 1 rfl rfl) (show zAr 47 1 33 = true from rfl) hx4 g_68 rfl rfl ?_
      intro V_68 hV_68
      refine r_p hq 2 (pc' := 71) (L' := [(0, .ref 41), (2, .long Y2), (4, .int X4)]) (st' := [.long (V_68 ^^^ Y2), .int X4, .ref 47]) rfl ?_
      obtain ⟨g_71, h⟩ := z_ifo_some h
      refine r_ls (pc' := 72) (L' := [(0, .ref 41), (2, .long Y2), (4, .int X4)]) H hq (z_at.mk 1 rfl rfl) (show zAr 47 1 33 = true from rfl) hx4 g_71 (tx_lxor hV_68 hy2) rfl rfl ?_
      intro m_71 H_71
      refine r_p hq 2 (pc' := 51) (L' := [(0, .ref 41), (2, .long Y2), (4, .int (X4 + (1 : Int32)))]) (st' := []) rfl ?_
      exact ih hy2 (tx_iadd hx4 (rfl : (1 : Int32).toInt = 1)) H_71 h
def g_so_flip_L14 : Nat → Int → Int → Int → zS → Option (Unit × zS)
  | 0, _, _, _, _ => none
  | n + 1, x1, y2, x4, σ =>
    if 33 ≤ x4 then
      if 0 ≤ x1 ∧ x1 < 60 then
      let v_46 := σ 43 x1
      g_so_flip_L51 zK y2 (w32 (v_46 + 1)) σ
      else none
    else
      if 0 ≤ x4 ∧ x4 < 33 then
      let v_31 := σ 46 x4
      if 0 ≤ x4 ∧ x4 < 33 then
      let s_34 := zu σ 46 x4 (lXor v_31 y2)
      (g_so_flip_L14 n) x1 y2 (w32 (x4 + 1)) s_34
      else none
      else none
set_option maxHeartbeats 4000000 in
theorem g_so_flip_L14_ok {xl : Nat} {xs : Nat → Int32} : ∀ (n : Nat) {X1 : Int32} {x1 : Int} {Y2 : Int64} {y2 : Int} {X4 : Int32} {x4 : Int} {σ : zS} {p : Nat} {m : zM} {o : Unit × zS}, X1.toInt = x1 → Y2.toInt = y2 → X4.toInt = x4 → zRep xl xs p m σ → g_so_flip_L14 n x1 y2 x4 σ = some o → zGo xl xs (fun p' => p = p') 1 86 14 [(0, .ref 41), (1, .int X1), (2, .long Y2), (4, .int X4)] [] m vV o.2
  | 0, _, _, _, _, _, _, _, _, _, _, _, _, _, _, h => by cases h
  | n + 1, X1, x1, Y2, y2, X4, x4, σ, p, m, o, hx1, hy2, hx4, H, h => by
    have hq : z_mth 86 = some z_r86 := rfl
    have ih := fun {X1 : Int32} {x1 : Int} {Y2 : Int64} {y2 : Int} {X4 : Int32} {x4 : Int} {σ : zS} {p : Nat} {m : zM} {o : Unit × zS} => g_so_flip_L14_ok (xl := xl) (xs := xs) n (X1 := X1) (x1 := x1) (Y2 := Y2) (y2 := y2) (X4 := X4) (x4 := x4) (σ := σ) (p := p) (m := m) (o := o)
    unfold g_so_flip_L14 at h
    refine r_p hq 2 (pc' := 17) (L' := [(0, .ref 41), (1, .int X1), (2, .long Y2), (4, .int X4)]) (st' := [.ref 41, .int X4]) rfl ?_
    refine r_gR (b := 46) (pc' := 20) (L' := [(0, .ref 41), (1, .int X1), (2, .long Y2), (4, .int X4)]) H hq (z_at.mk 3 rfl rfl) rfl rfl rfl rfl ?_
    refine r_le (pc' := 21) (L' := [(0, .ref 41), (1, .int X1), (2, .long Y2), (4, .int X4)]) H hq (z_at.mk 1 rfl rfl) (show zAr 46 1 33 = true from rfl) rfl rfl rfl ?_
    intro V_20 hV_20
    rcases z_ite h with ⟨c_21, h⟩ | ⟨c_21, h⟩
    · refine r_t2 (pc' := 41) (L' := [(0, .ref 41), (1, .int X1), (2, .long Y2), (4, .int X4)]) hq (z_at.mk 3 rfl rfl) rfl hx4 hV_20 c_21 rfl rfl ?_
      refine r_p hq 1 (pc' := 42) (L' := [(0, .ref 41), (1, .int X1), (2, .long Y2), (4, .int X4)]) (st' := [.ref 41]) rfl ?_
      refine r_gR (b := 43) (pc' := 45) (L' := [(0, .ref 41), (1, .int X1), (2, .long Y2), (4, .int X4)]) H hq (z_at.mk 3 rfl rfl) rfl rfl rfl rfl ?_
      refine r_p hq 1 (pc' := 46) (L' := [(0, .ref 41), (1, .int X1), (2, .long Y2), (4, .int X4)]) (st' := [.int X1, .ref 43]) rfl ?_
      obtain ⟨g_46, h⟩ := z_ifo_some h
      refine r_ia (pc' := 47) (L' := [(0, .ref 41), (1, .int X1), (2, .long Y2), (4, .int X4)]) H hq (z_at.mk 1 rfl rfl) (show zAr 43 0 60 = true from rfl) hx1 g_46 rfl rfl ?_
      intro V_46 hV_46
      refine r_p hq 3 (pc' := 51) (L' := [(0, .ref 41), (2, .long Y2), (4, .int (V_46 + ((1 : Int32))))]) (st' := []) rfl ?_
      exact g_so_flip_L51_ok zK hy2 (tx_iadd hV_46 (rfl : (1 : Int32).toInt = 1)) H h
    · refine r_f2 (pc' := 24) (L' := [(0, .ref 41), (1, .int X1), (2, .long Y2), (4, .int X4)]) hq (z_at.mk 3 rfl rfl) rfl hx4 hV_20 c_21 rfl rfl ?_
      refine r_p hq 1 (pc' := 25) (L' := [(0, .ref 41), (1, .int X1), (2, .long Y2), (4, .int X4)]) (st' := [.ref 41]) rfl ?_
      refine r_gR (b := 46) (pc' := 28) (L' := [(0, .ref 41), (1, .int X1), (2, .long Y2), (4, .int X4)]) H hq (z_at.mk 3 rfl rfl) rfl rfl rfl rfl ?_
      refine r_p hq 2 (pc' := 31) (L' := [(0, .ref 41), (1, .int X1), (2, .long Y2), (4, .int X4)]) (st' := [.int X4, .ref 46, .int X4, .ref 46]) rfl ?_
      obtain ⟨g_31, h⟩ := z_ifo_some h
      refine r_la (pc' := 32) (L' := [(0, .ref 41), (1, .int X1), (2, .long Y2), (4, .int X4)]) H hq (z_at.mk 1 rfl rfl) (show zAr 46 1 33 = true from rfl) hx4 g_31 rfl rfl ?_
      intro V_31 hV_31
      refine r_p hq 2 (pc' := 34) (L' := [(0, .ref 41), (1, .int X1), (2, .long Y2), (4, .int X4)]) (st' := [.long (V_31 ^^^ Y2), .int X4, .ref 46]) rfl ?_
      obtain ⟨g_34, h⟩ := z_ifo_some h
      refine r_ls (pc' := 35) (L' := [(0, .ref 41), (1, .int X1), (2, .long Y2), (4, .int X4)]) H hq (z_at.mk 1 rfl rfl) (show zAr 46 1 33 = true from rfl) hx4 g_34 (tx_lxor hV_31 hy2) rfl rfl ?_
      intro m_34 H_34
      refine r_p hq 2 (pc' := 14) (L' := [(0, .ref 41), (1, .int X1), (2, .long Y2), (4, .int (X4 + (1 : Int32)))]) (st' := []) rfl ?_
      exact ih hx1 hy2 (tx_iadd hx4 (rfl : (1 : Int32).toInt = 1)) H_34 h
def g_so_flip (x1 : Int) (σ : zS) : Option (Unit × zS) :=
  if 0 ≤ x1 ∧ x1 < 60 then
  let v_9 := σ 42 x1
  g_so_flip_L14 zK x1 (lShl 1 x1) (w32 (v_9 + 1)) σ
  else none
set_option maxHeartbeats 4000000 in
theorem g_so_flip_ok {xl : Nat} {xs : Nat → Int32} {X1 : Int32} {x1 : Int} (hx1 : X1.toInt = x1) {σ : zS} {p : Nat} {m : zM} {o : Unit × zS} (H : zRep xl xs p m σ) (h : g_so_flip x1 σ = some o) : zGo xl xs (fun p' => p = p') 1 86 0 (z_can 86 0 (lv_args 0 [.ref 41, .int X1])) [] m vV o.2 := by
  have hq : z_mth 86 = some z_r86 := rfl
  unfold g_so_flip at h
  show zGo xl xs (fun p' => p = p') 1 86 0 [(0, .ref 41), (1, .int X1)] [] m vV o.2
  refine r_p hq 5 (pc' := 5) (L' := [(2, .long (((1 : Int64)) <<< (X1.toInt64 &&& 63))), (0, .ref 41), (1, .int X1)]) (st' := [.ref 41]) rfl ?_
  refine r_gR (b := 42) (pc' := 8) (L' := [(2, .long (((1 : Int64)) <<< (X1.toInt64 &&& 63))), (0, .ref 41), (1, .int X1)]) H hq (z_at.mk 3 rfl rfl) rfl rfl rfl rfl ?_
  refine r_p hq 1 (pc' := 9) (L' := [(2, .long (((1 : Int64)) <<< (X1.toInt64 &&& 63))), (0, .ref 41), (1, .int X1)]) (st' := [.int X1, .ref 42]) rfl ?_
  obtain ⟨g_9, h⟩ := z_ifo_some h
  refine r_ia (pc' := 10) (L' := [(2, .long (((1 : Int64)) <<< (X1.toInt64 &&& 63))), (0, .ref 41), (1, .int X1)]) H hq (z_at.mk 1 rfl rfl) (show zAr 42 0 60 = true from rfl) hx1 g_9 rfl rfl ?_
  intro V_9 hV_9
  refine r_p hq 3 (pc' := 14) (L' := [(0, .ref 41), (1, .int X1), (2, .long (((1 : Int64)) <<< (X1.toInt64 &&& 63))), (4, .int (V_9 + ((1 : Int32))))]) (st' := []) rfl ?_
  exact g_so_flip_L14_ok zK hx1 (tx_lshl (rfl : (1 : Int64).toInt = 1) hx1) (tx_iadd hV_9 (rfl : (1 : Int32).toInt = 1)) H h
def g_so_bringIn_L114 (x1 : Int) (x6 : Int) (σ : zS) : Option (Unit × zS) :=
  if 0 ≤ x6 ∧ x6 < 60 then
  let s_121 := zu σ 45 x6 x1
  let v_124 := s_121 41 4
  let s_129 := zu s_121 41 4 (w32 (v_124 + 1))
  some ((), s_129)
  else none
set_option maxHeartbeats 4000000 in
theorem g_so_bringIn_L114_ok {xl : Nat} {xs : Nat → Int32} {X1 : Int32} {x1 : Int} (hx1 : X1.toInt = x1) {X6 : Int32} {x6 : Int} (hx6 : X6.toInt = x6) {σ : zS} {p : Nat} {m : zM} {o : Unit × zS} (H : zRep xl xs p m σ) (h : g_so_bringIn_L114 x1 x6 σ = some o) : zGo xl xs (fun p' => p = p') 3 83 114 [(0, .ref 41), (1, .int X1), (6, .int X6)] [] m vV o.2 := by
  have hq : z_mth 83 = some z_r83 := rfl
  unfold g_so_bringIn_L114 at h
  refine r_p hq 1 (pc' := 115) (L' := [(0, .ref 41), (1, .int X1), (6, .int X6)]) (st' := [.ref 41]) rfl ?_
  refine r_gR (b := 45) (pc' := 118) (L' := [(0, .ref 41), (1, .int X1), (6, .int X6)]) H hq (z_at.mk 3 rfl rfl) rfl rfl rfl rfl ?_
  refine r_p hq 2 (pc' := 121) (L' := [(0, .ref 41), (1, .int X1), (6, .int X6)]) (st' := [.int X1, .int X6, .ref 45]) rfl ?_
  obtain ⟨g_121, h⟩ := z_ifo_some h
  refine r_is (pc' := 122) (L' := [(0, .ref 41), (1, .int X1), (6, .int X6)]) H hq (z_at.mk 1 rfl rfl) (show zAr 45 0 60 = true from rfl) hx6 g_121 hx1 rfl rfl ?_
  intro m_121 H_121
  refine r_p hq 2 (pc' := 124) (L' := [(0, .ref 41), (1, .int X1), (6, .int X6)]) (st' := [.ref 41, .ref 41]) rfl ?_
  refine r_gI (pc' := 127) (L' := [(0, .ref 41), (1, .int X1), (6, .int X6)]) H_121 hq (z_at.mk 3 rfl rfl) rfl rfl rfl rfl ?_
  intro V_124 hV_124
  refine r_p hq 2 (pc' := 129) (L' := [(0, .ref 41), (1, .int X1), (6, .int X6)]) (st' := [.int (V_124 + ((1 : Int32))), .ref 41]) rfl ?_
  refine r_pI (X := V_124 + ((1 : Int32))) (pc' := 132) (L' := [(0, .ref 41), (1, .int X1), (6, .int X6)]) H_121 hq (z_at.mk 3 rfl rfl) rfl rfl (tx_iadd hV_124 (rfl : (1 : Int32).toInt = 1)) (by decide) rfl rfl rfl rfl ?_
  intro m_129 H_129
  cases h
  exact r_rv hq (z_at.mk 1 rfl rfl) rfl rfl H_129
def g_so_bringIn_L66 : Nat → Int → Int → zS → Option (Unit × zS)
  | 0, _, _, _ => none
  | n + 1, x1, x6, σ =>
    if x6 ≤ 0 then
      g_so_bringIn_L114 x1 x6 σ
    else
      if 0 ≤ w32 (x6 - 1) ∧ w32 (x6 - 1) < 60 then
      let v_80 := σ 45 (w32 (x6 - 1))
      (g_so_rank v_80 σ).bind fun o_81 =>
      (g_so_rank x1 o_81.2).bind fun o_86 =>
      if o_81.1 ≤ o_86.1 then
        g_so_bringIn_L114 x1 x6 o_86.2
      else
        if 0 ≤ w32 (x6 - 1) ∧ w32 (x6 - 1) < 60 then
        let v_106 := o_86.2 45 (w32 (x6 - 1))
        if 0 ≤ x6 ∧ x6 < 60 then
        let s_107 := zu o_86.2 45 x6 v_106
        (g_so_bringIn_L66 n) x1 (w32 (x6 - 1)) s_107
        else none
        else none
      else none
set_option maxHeartbeats 4000000 in
theorem g_so_bringIn_L66_ok {xl : Nat} {xs : Nat → Int32} : ∀ (n : Nat) {X1 : Int32} {x1 : Int} {X6 : Int32} {x6 : Int} {σ : zS} {p : Nat} {m : zM} {o : Unit × zS}, X1.toInt = x1 → X6.toInt = x6 → zRep xl xs p m σ → g_so_bringIn_L66 n x1 x6 σ = some o → zGo xl xs (fun p' => p = p') 3 83 66 [(0, .ref 41), (1, .int X1), (6, .int X6)] [] m vV o.2
  | 0, _, _, _, _, _, _, _, _, _, _, _, h => by cases h
  | n + 1, X1, x1, X6, x6, σ, p, m, o, hx1, hx6, H, h => by
    have hq : z_mth 83 = some z_r83 := rfl
    have ih := fun {X1 : Int32} {x1 : Int} {X6 : Int32} {x6 : Int} {σ : zS} {p : Nat} {m : zM} {o : Unit × zS} => g_so_bringIn_L66_ok (xl := xl) (xs := xs) n (X1 := X1) (x1 := x1) (X6 := X6) (x6 := x6) (σ := σ) (p := p) (m := m) (o := o)
    unfold g_so_bringIn_L66 at h
    refine r_p hq 1 (pc' := 68) (L' := [(0, .ref 41), (1, .int X1), (6, .int X6)]) (st' := [.int X6]) rfl ?_
    rcases z_ite h with ⟨c_68, h⟩ | ⟨c_68, h⟩
    · refine r_t1 (pc' := 114) (L' := [(0, .ref 41), (1, .int X1), (6, .int X6)]) hq (z_at.mk 3 rfl rfl) rfl hx6 c_68 rfl rfl ?_
      exact g_so_bringIn_L114_ok hx1 hx6 H h
    · refine r_f1 (pc' := 71) (L' := [(0, .ref 41), (1, .int X1), (6, .int X6)]) hq (z_at.mk 3 rfl rfl) rfl hx6 c_68 rfl rfl ?_
      refine r_p hq 2 (pc' := 73) (L' := [(0, .ref 41), (1, .int X1), (6, .int X6)]) (st' := [.ref 41, .ref 41]) rfl ?_
      refine r_gR (b := 45) (pc' := 76) (L' := [(0, .ref 41), (1, .int X1), (6, .int X6)]) H hq (z_at.mk 3 rfl rfl) rfl rfl rfl rfl ?_
      refine r_p hq 3 (pc' := 80) (L' := [(0, .ref 41), (1, .int X1), (6, .int X6)]) (st' := [.int (X6 - ((1 : Int32))), .ref 45, .ref 41]) rfl ?_
      obtain ⟨g_80, h⟩ := z_ifo_some h
      refine r_ia (pc' := 81) (L' := [(0, .ref 41), (1, .int X1), (6, .int X6)]) H hq (z_at.mk 1 rfl rfl) (show zAr 45 0 60 = true from rfl) (tx_isub hx6 (rfl : (1 : Int32).toInt = 1)) g_80 rfl rfl ?_
      intro V_80 hV_80
      obtain ⟨o_81, h_81, h⟩ := Option.bind_eq_some_iff.mp h
      refine r_cvI (pc' := 84) (L' := [(0, .ref 41), (1, .int X1), (6, .int X6)]) (Ps := [.int V_80]) (rest := []) hq (z_at.mk 3 rfl rfl) (Or.inl ⟨rfl, rfl⟩) rfl rfl (by decide) (by decide) rfl (Nat.not_lt.mpr (Nat.le_of_ble_eq_true rfl)) rfl rfl (z_cat_le 0 rfl (by decide)) (z_lgl_le 2 rfl (by decide)) (by decide) (H.tg rfl) (by omega) (g_so_rank_ok hV_80 H h_81) rfl rfl ?_
      intro R_81 m_81 p_81 e_81 hR_81 H_81
      subst e_81
      refine r_p hq 2 (pc' := 86) (L' := [(0, .ref 41), (1, .int X1), (6, .int X6)]) (st' := [.int X1, .ref 41, .int R_81]) rfl ?_
      obtain ⟨o_86, h_86, h⟩ := Option.bind_eq_some_iff.mp h
      refine r_cvI (pc' := 89) (L' := [(0, .ref 41), (1, .int X1), (6, .int X6)]) (Ps := [.int X1]) (rest := [.int R_81]) hq (z_at.mk 3 rfl rfl) (Or.inl ⟨rfl, rfl⟩) rfl rfl (by decide) (by decide) rfl (Nat.not_lt.mpr (Nat.le_of_ble_eq_true rfl)) rfl rfl (z_cat_le 1 rfl (by decide)) (z_lgl_le 2 rfl (by decide)) (by decide) (H_81.tg rfl) (by omega) (g_so_rank_ok hx1 H_81 h_86) rfl rfl ?_
      intro R_86 m_86 p_86 e_86 hR_86 H_86
      subst e_86
      rcases z_ite h with ⟨c_89, h⟩ | ⟨c_89, h⟩
      · refine r_t2 (pc' := 114) (L' := [(0, .ref 41), (1, .int X1), (6, .int X6)]) hq (z_at.mk 3 rfl rfl) rfl hR_81 hR_86 c_89 rfl rfl ?_
        exact g_so_bringIn_L114_ok hx1 hx6 H_86 h
      · refine r_f2 (pc' := 92) (L' := [(0, .ref 41), (1, .int X1), (6, .int X6)]) hq (z_at.mk 3 rfl rfl) rfl hR_81 hR_86 c_89 rfl rfl ?_
        refine r_p hq 1 (pc' := 93) (L' := [(0, .ref 41), (1, .int X1), (6, .int X6)]) (st' := [.ref 41]) rfl ?_
        refine r_gR (b := 45) (pc' := 96) (L' := [(0, .ref 41), (1, .int X1), (6, .int X6)]) H_86 hq (z_at.mk 3 rfl rfl) rfl rfl rfl rfl ?_
        refine r_p hq 2 (pc' := 99) (L' := [(0, .ref 41), (1, .int X1), (6, .int X6)]) (st' := [.ref 41, .int X6, .ref 45]) rfl ?_
        refine r_gR (b := 45) (pc' := 102) (L' := [(0, .ref 41), (1, .int X1), (6, .int X6)]) H_86 hq (z_at.mk 3 rfl rfl) rfl rfl rfl rfl ?_
        refine r_p hq 3 (pc' := 106) (L' := [(0, .ref 41), (1, .int X1), (6, .int X6)]) (st' := [.int (X6 - ((1 : Int32))), .ref 45, .int X6, .ref 45]) rfl ?_
        obtain ⟨g_106, h⟩ := z_ifo_some h
        refine r_ia (pc' := 107) (L' := [(0, .ref 41), (1, .int X1), (6, .int X6)]) H_86 hq (z_at.mk 1 rfl rfl) (show zAr 45 0 60 = true from rfl) (tx_isub hx6 (rfl : (1 : Int32).toInt = 1)) g_106 rfl rfl ?_
        intro V_106 hV_106
        obtain ⟨g_107, h⟩ := z_ifo_some h
        refine r_is (pc' := 108) (L' := [(0, .ref 41), (1, .int X1), (6, .int X6)]) H_86 hq (z_at.mk 1 rfl rfl) (show zAr 45 0 60 = true from rfl) hx6 g_107 hV_106 rfl rfl ?_
        intro m_107 H_107
        refine r_p hq 2 (pc' := 66) (L' := [(0, .ref 41), (1, .int X1), (6, .int (X6 + (-1 : Int32)))]) (st' := []) rfl ?_
        exact ih hx1 (tx_iaddn hx6 (rfl : (-1 : Int32).toInt = -1)) H_107 h
def g_so_bringIn (x1 : Int) (x2 : Int) (x3 : Int) (y4 : Int) (σ : zS) : Option (Unit × zS) :=
  (g_so_isRow x1 σ).bind fun o_1 =>
  if o_1.1 = 0 then
    some ((), o_1.2)
  else
    (g_so_isIn x1 o_1.2).bind fun o_9 =>
    if o_9.1 ≠ 0 then
      some ((), o_9.2)
    else
      let v_16 := o_9.2 41 4
      if 60 ≤ v_16 then
        some ((), o_9.2)
      else
        (g_b_isPlace x2 x3 o_9.2).bind fun o_26 =>
        if o_26.1 ≠ 0 then
          if 0 ≤ x1 ∧ x1 < 60 then
          let s_39 := zu o_26.2 42 x1 x2
          if 0 ≤ x1 ∧ x1 < 60 then
          let s_46 := zu s_39 43 x1 x3
          if 0 ≤ x1 ∧ x1 < 60 then
          let s_54 := zu s_46 44 x1 y4
          (g_so_flip x1 s_54).bind fun o_57 =>
          let v_61 := o_57.2 41 4
          g_so_bringIn_L66 zK x1 v_61 o_57.2
          else none
          else none
          else none
        else
          some ((), o_26.2)
set_option maxHeartbeats 4000000 in
theorem g_so_bringIn_ok {xl : Nat} {xs : Nat → Int32} {X1 : Int32} {x1 : Int} (hx1 : X1.toInt = x1) {X2 : Int32} {x2 : Int} (hx2 : X2.toInt = x2) {X3 : Int32} {x3 : Int} (hx3 : X3.toInt = x3) {Y4 : Int64} {y4 : Int} (hy4 : Y4.toInt = y4) {σ : zS} {p : Nat} {m : zM} {o : Unit × zS} (H : zRep xl xs p m σ) (h : g_so_bringIn x1 x2 x3 y4 σ = some o) : zGo xl xs (fun p' => p = p') 3 83 0 (z_can 83 0 (lv_args 0 [.ref 41, .int X1, .int X2, .int X3, .long Y4])) [] m vV o.2 := by
  have hq : z_mth 83 = some z_r83 := rfl
  unfold g_so_bringIn at h
  show zGo xl xs (fun p' => p = p') 3 83 0 [(0, .ref 41), (1, .int X1), (2, .int X2), (3, .int X3), (4, .long Y4)] [] m vV o.2
  refine r_p hq 1 (pc' := 1) (L' := [(0, .ref 41), (1, .int X1), (2, .int X2), (3, .int X3), (4, .long Y4)]) (st' := [.int X1]) rfl ?_
  obtain ⟨o_1, h_1, h⟩ := Option.bind_eq_some_iff.mp h
  refine r_csI (pc' := 4) (L' := [(0, .ref 41), (1, .int X1), (2, .int X2), (3, .int X3), (4, .long Y4)]) (As := [.int X1]) (rest := []) (j := 80) hq (z_at.mk 3 rfl rfl) (Or.inl ⟨rfl, rfl⟩) rfl rfl (by omega) (g_so_isRow_ok hx1 H h_1) rfl rfl ?_
  intro R_1 m_1 p_1 e_1 hR_1 H_1
  subst e_1
  rcases z_ite h with ⟨c_4, h⟩ | ⟨c_4, h⟩
  · refine r_t1 (pc' := 32) (L' := []) hq (z_at.mk 3 rfl rfl) rfl hR_1 c_4 rfl rfl ?_
    cases h
    exact r_rv hq (z_at.mk 1 rfl rfl) rfl rfl H_1
  · refine r_f1 (pc' := 7) (L' := [(0, .ref 41), (1, .int X1), (2, .int X2), (3, .int X3), (4, .long Y4)]) hq (z_at.mk 3 rfl rfl) rfl hR_1 c_4 rfl rfl ?_
    refine r_p hq 2 (pc' := 9) (L' := [(0, .ref 41), (1, .int X1), (2, .int X2), (3, .int X3), (4, .long Y4)]) (st' := [.int X1, .ref 41]) rfl ?_
    obtain ⟨o_9, h_9, h⟩ := Option.bind_eq_some_iff.mp h
    refine r_cvI (pc' := 12) (L' := [(0, .ref 41), (1, .int X1), (2, .int X2), (3, .int X3), (4, .long Y4)]) (Ps := [.int X1]) (rest := []) hq (z_at.mk 3 rfl rfl) (Or.inl ⟨rfl, rfl⟩) rfl rfl (by decide) (by decide) rfl (Nat.not_lt.mpr (Nat.le_of_ble_eq_true rfl)) rfl rfl (z_cat_le 0 rfl (by decide)) (z_lgl_le 2 rfl (by decide)) (by decide) (H_1.tg rfl) (by omega) (g_so_isIn_ok hx1 H_1 h_9) rfl rfl ?_
    intro R_9 m_9 p_9 e_9 hR_9 H_9
    subst e_9
    rcases z_ite h with ⟨c_12, h⟩ | ⟨c_12, h⟩
    · refine r_t1 (pc' := 32) (L' := []) hq (z_at.mk 3 rfl rfl) rfl hR_9 c_12 rfl rfl ?_
      cases h
      exact r_rv hq (z_at.mk 1 rfl rfl) rfl rfl H_9
    · refine r_f1 (pc' := 15) (L' := [(0, .ref 41), (1, .int X1), (2, .int X2), (3, .int X3), (4, .long Y4)]) hq (z_at.mk 3 rfl rfl) rfl hR_9 c_12 rfl rfl ?_
      refine r_p hq 1 (pc' := 16) (L' := [(0, .ref 41), (1, .int X1), (2, .int X2), (3, .int X3), (4, .long Y4)]) (st' := [.ref 41]) rfl ?_
      refine r_gI (pc' := 19) (L' := [(0, .ref 41), (1, .int X1), (2, .int X2), (3, .int X3), (4, .long Y4)]) H_9 hq (z_at.mk 3 rfl rfl) rfl rfl rfl rfl ?_
      intro V_16 hV_16
      refine r_p hq 1 (pc' := 21) (L' := [(0, .ref 41), (1, .int X1), (2, .int X2), (3, .int X3), (4, .long Y4)]) (st' := [.int ((60 : Int32)), .int V_16]) rfl ?_
      rcases z_ite h with ⟨c_21, h⟩ | ⟨c_21, h⟩
      · refine r_t2 (pc' := 32) (L' := []) hq (z_at.mk 3 rfl rfl) rfl hV_16 (rfl : (60 : Int32).toInt = 60) c_21 rfl rfl ?_
        cases h
        exact r_rv hq (z_at.mk 1 rfl rfl) rfl rfl H_9
      · refine r_f2 (pc' := 24) (L' := [(0, .ref 41), (1, .int X1), (2, .int X2), (3, .int X3), (4, .long Y4)]) hq (z_at.mk 3 rfl rfl) rfl hV_16 (rfl : (60 : Int32).toInt = 60) c_21 rfl rfl ?_
        refine r_p hq 2 (pc' := 26) (L' := [(0, .ref 41), (1, .int X1), (2, .int X2), (3, .int X3), (4, .long Y4)]) (st' := [.int X3, .int X2]) rfl ?_
        obtain ⟨o_26, h_26, h⟩ := Option.bind_eq_some_iff.mp h
        refine r_csI (pc' := 29) (L' := [(0, .ref 41), (1, .int X1), (2, .int X2), (3, .int X3), (4, .long Y4)]) (As := [.int X2, .int X3]) (rest := []) (j := 0) hq (z_at.mk 3 rfl rfl) (Or.inl ⟨rfl, rfl⟩) rfl rfl (by omega) (g_b_isPlace_ok hx2 hx3 H_9 h_26) rfl rfl ?_
        intro R_26 m_26 p_26 e_26 hR_26 H_26
        subst e_26
        rcases z_ite h with ⟨c_29, h⟩ | ⟨c_29, h⟩
        · refine r_t1 (pc' := 33) (L' := [(0, .ref 41), (1, .int X1), (2, .int X2), (3, .int X3), (4, .long Y4)]) hq (z_at.mk 3 rfl rfl) rfl hR_26 c_29 rfl rfl ?_
          refine r_p hq 1 (pc' := 34) (L' := [(0, .ref 41), (1, .int X1), (2, .int X2), (3, .int X3), (4, .long Y4)]) (st' := [.ref 41]) rfl ?_
          refine r_gR (b := 42) (pc' := 37) (L' := [(0, .ref 41), (1, .int X1), (2, .int X2), (3, .int X3), (4, .long Y4)]) H_26 hq (z_at.mk 3 rfl rfl) rfl rfl rfl rfl ?_
          refine r_p hq 2 (pc' := 39) (L' := [(0, .ref 41), (1, .int X1), (2, .int X2), (3, .int X3), (4, .long Y4)]) (st' := [.int X2, .int X1, .ref 42]) rfl ?_
          obtain ⟨g_39, h⟩ := z_ifo_some h
          refine r_is (pc' := 40) (L' := [(0, .ref 41), (1, .int X1), (2, .int X2), (3, .int X3), (4, .long Y4)]) H_26 hq (z_at.mk 1 rfl rfl) (show zAr 42 0 60 = true from rfl) hx1 g_39 hx2 rfl rfl ?_
          intro m_39 H_39
          refine r_p hq 1 (pc' := 41) (L' := [(0, .ref 41), (1, .int X1), (2, .int X2), (3, .int X3), (4, .long Y4)]) (st' := [.ref 41]) rfl ?_
          refine r_gR (b := 43) (pc' := 44) (L' := [(0, .ref 41), (1, .int X1), (2, .int X2), (3, .int X3), (4, .long Y4)]) H_39 hq (z_at.mk 3 rfl rfl) rfl rfl rfl rfl ?_
          refine r_p hq 2 (pc' := 46) (L' := [(0, .ref 41), (1, .int X1), (2, .int X2), (3, .int X3), (4, .long Y4)]) (st' := [.int X3, .int X1, .ref 43]) rfl ?_
          obtain ⟨g_46, h⟩ := z_ifo_some h
          refine r_is (pc' := 47) (L' := [(0, .ref 41), (1, .int X1), (2, .int X2), (3, .int X3), (4, .long Y4)]) H_39 hq (z_at.mk 1 rfl rfl) (show zAr 43 0 60 = true from rfl) hx1 g_46 hx3 rfl rfl ?_
          intro m_46 H_46
          refine r_p hq 1 (pc' := 48) (L' := [(0, .ref 41), (1, .int X1), (2, .int X2), (3, .int X3), (4, .long Y4)]) (st' := [.ref 41]) rfl ?_
          refine r_gR (b := 44) (pc' := 51) (L' := [(0, .ref 41), (1, .int X1), (2, .int X2), (3, .int X3), (4, .long Y4)]) H_46 hq (z_at.mk 3 rfl rfl) rfl rfl rfl rfl ?_
          refine r_p hq 2 (pc' := 54) (L' := [(0, .ref 41), (1, .int X1), (2, .int X2), (3, .int X3), (4, .long Y4)]) (st' := [.long Y4, .int X1, .ref 44]) rfl ?_
          obtain ⟨g_54, h⟩ := z_ifo_some h
          refine r_ls (pc' := 55) (L' := [(0, .ref 41), (1, .int X1), (2, .int X2), (3, .int X3), (4, .long Y4)]) H_46 hq (z_at.mk 1 rfl rfl) (show zAr 44 1 60 = true from rfl) hx1 g_54 hy4 rfl rfl ?_
          intro m_54 H_54
          refine r_p hq 2 (pc' := 57) (L' := [(0, .ref 41), (1, .int X1), (2, .int X2), (3, .int X3), (4, .long Y4)]) (st' := [.int X1, .ref 41]) rfl ?_
          obtain ⟨o_57, h_57, h⟩ := Option.bind_eq_some_iff.mp h
          refine r_cvV (pc' := 60) (L' := [(0, .ref 41), (1, .int X1), (2, .int X2), (3, .int X3), (4, .long Y4)]) (Ps := [.int X1]) (rest := []) hq (z_at.mk 3 rfl rfl) (Or.inl ⟨rfl, rfl⟩) rfl rfl (by decide) (by decide) rfl (Nat.not_lt.mpr (Nat.le_of_ble_eq_true rfl)) rfl rfl (z_cat_le 0 rfl (by decide)) (z_lgl_le 2 rfl (by decide)) (by decide) (H_54.tg rfl) (by omega) (g_so_flip_ok hx1 H_54 h_57) rfl rfl ?_
          intro m_57 p_57 e_57 H_57
          subst e_57
          refine r_p hq 1 (pc' := 61) (L' := [(0, .ref 41), (1, .int X1), (2, .int X2), (3, .int X3), (4, .long Y4)]) (st' := [.ref 41]) rfl ?_
          refine r_gI (pc' := 64) (L' := [(0, .ref 41), (1, .int X1), (2, .int X2), (3, .int X3), (4, .long Y4)]) H_57 hq (z_at.mk 3 rfl rfl) rfl rfl rfl rfl ?_
          intro V_61 hV_61
          refine r_p hq 1 (pc' := 66) (L' := [(0, .ref 41), (1, .int X1), (6, .int V_61)]) (st' := []) rfl ?_
          exact g_so_bringIn_L66_ok zK hx1 hV_61 H_57 h
        · refine r_f1 (pc' := 32) (L' := []) hq (z_at.mk 3 rfl rfl) rfl hR_26 c_29 rfl rfl ?_
          cases h
          exact r_rv hq (z_at.mk 1 rfl rfl) rfl rfl H_26
def g_so_bringOut_L52 (g19 : Int → Int → Int → zS → Option (Int × zS)) (x1 : Int) (x2 : Int) (x3 : Int) (σ : zS) : Option (Int × zS) :=
  g19 x1 x2 (w32 (x3 + 1)) σ
set_option maxHeartbeats 4000000 in
theorem g_so_bringOut_L52_ok {xl : Nat} {xs : Nat → Int32} {g19 : Int → Int → Int → zS → Option (Int × zS)} (hg19 : ∀ {X1 : Int32} {x1 : Int} {X2 : Int32} {x2 : Int} {X3 : Int32} {x3 : Int} {σ : zS} {p : Nat} {m : zM} {o : Int × zS}, X1.toInt = x1 → X2.toInt = x2 → X3.toInt = x3 → zRep xl xs p m σ → g19 x1 x2 x3 σ = some o → zGo xl xs (fun p' => p = p') 3 84 19 [(0, .ref 41), (1, .int X1), (2, .int X2), (3, .int X3)] [] m (vI o.1) o.2) {X1 : Int32} {x1 : Int} (hx1 : X1.toInt = x1) {X2 : Int32} {x2 : Int} (hx2 : X2.toInt = x2) {X3 : Int32} {x3 : Int} (hx3 : X3.toInt = x3) {σ : zS} {p : Nat} {m : zM} {o : Int × zS} (H : zRep xl xs p m σ) (h : g_so_bringOut_L52 g19 x1 x2 x3 σ = some o) : zGo xl xs (fun p' => p = p') 3 84 52 [(0, .ref 41), (1, .int X1), (2, .int X2), (3, .int X3)] [] m (vI o.1) o.2 := by
  have hq : z_mth 84 = some z_r84 := rfl
  unfold g_so_bringOut_L52 at h
  refine r_p hq 2 (pc' := 19) (L' := [(0, .ref 41), (1, .int X1), (2, .int X2), (3, .int (X3 + (1 : Int32)))]) (st' := []) rfl ?_
  exact hg19 hx1 hx2 (tx_iadd hx3 (rfl : (1 : Int32).toInt = 1)) H h
def g_so_bringOut_L19 : Nat → Int → Int → Int → zS → Option (Int × zS)
  | 0, _, _, _, _ => none
  | n + 1, x1, x2, x3, σ =>
    let v_21 := σ 41 4
    if v_21 ≤ x3 then
      let s_60 := zu σ 41 4 x2
      if 0 ≤ x1 ∧ x1 < 60 then
      let v_68 := s_60 42 x1
      if 0 ≤ x1 ∧ x1 < 60 then
      let v_74 := s_60 42 x1
      if 0 ≤ x1 ∧ x1 < 60 then
      let v_80 := s_60 43 x1
      if 0 ≤ x1 ∧ x1 < 60 then
      let v_86 := s_60 43 x1
      (g_b_of v_68 v_74 v_80 v_86 s_60).bind fun o_87 =>
      some (o_87.1, o_87.2)
      else none
      else none
      else none
      else none
    else
      if 0 ≤ x3 ∧ x3 < 60 then
      let v_32 := σ 45 x3
      if v_32 = x1 then
        g_so_bringOut_L52 ((g_so_bringOut_L19 n)) x1 x2 x3 σ
      else
        if 0 ≤ x3 ∧ x3 < 60 then
        let v_47 := σ 45 x3
        if 0 ≤ x2 ∧ x2 < 60 then
        let s_48 := zu σ 45 x2 v_47
        g_so_bringOut_L52 ((g_so_bringOut_L19 n)) x1 (w32 (x2 + 1)) x3 s_48
        else none
        else none
      else none
set_option maxHeartbeats 4000000 in
theorem g_so_bringOut_L19_ok {xl : Nat} {xs : Nat → Int32} : ∀ (n : Nat) {X1 : Int32} {x1 : Int} {X2 : Int32} {x2 : Int} {X3 : Int32} {x3 : Int} {σ : zS} {p : Nat} {m : zM} {o : Int × zS}, X1.toInt = x1 → X2.toInt = x2 → X3.toInt = x3 → zRep xl xs p m σ → g_so_bringOut_L19 n x1 x2 x3 σ = some o → zGo xl xs (fun p' => p = p') 3 84 19 [(0, .ref 41), (1, .int X1), (2, .int X2), (3, .int X3)] [] m (vI o.1) o.2
  | 0, _, _, _, _, _, _, _, _, _, _, _, _, _, _, h => by cases h
  | n + 1, X1, x1, X2, x2, X3, x3, σ, p, m, o, hx1, hx2, hx3, H, h => by
    have hq : z_mth 84 = some z_r84 := rfl
    have ih := fun {X1 : Int32} {x1 : Int} {X2 : Int32} {x2 : Int} {X3 : Int32} {x3 : Int} {σ : zS} {p : Nat} {m : zM} {o : Int × zS} => g_so_bringOut_L19_ok (xl := xl) (xs := xs) n (X1 := X1) (x1 := x1) (X2 := X2) (x2 := x2) (X3 := X3) (x3 := x3) (σ := σ) (p := p) (m := m) (o := o)
    unfold g_so_bringOut_L19 at h
    refine r_p hq 2 (pc' := 21) (L' := [(0, .ref 41), (1, .int X1), (2, .int X2), (3, .int X3)]) (st' := [.ref 41, .int X3]) rfl ?_
    refine r_gI (pc' := 24) (L' := [(0, .ref 41), (1, .int X1), (2, .int X2), (3, .int X3)]) H hq (z_at.mk 3 rfl rfl) rfl rfl rfl rfl ?_
    intro V_21 hV_21
    rcases z_ite h with ⟨c_24, h⟩ | ⟨c_24, h⟩
    · refine r_t2 (pc' := 58) (L' := [(0, .ref 41), (1, .int X1), (2, .int X2), (3, .int X3)]) hq (z_at.mk 3 rfl rfl) rfl hx3 hV_21 c_24 rfl rfl ?_
      refine r_p hq 2 (pc' := 60) (L' := [(0, .ref 41), (1, .int X1), (2, .int X2), (3, .int X3)]) (st' := [.int X2, .ref 41]) rfl ?_
      refine r_pI (X := X2) (pc' := 63) (L' := [(0, .ref 41), (1, .int X1), (2, .int X2), (3, .int X3)]) H hq (z_at.mk 3 rfl rfl) rfl rfl hx2 (by decide) rfl rfl rfl rfl ?_
      intro m_60 H_60
      refine r_p hq 1 (pc' := 64) (L' := [(0, .ref 41), (1, .int X1), (2, .int X2), (3, .int X3)]) (st' := [.ref 41]) rfl ?_
      refine r_gR (b := 42) (pc' := 67) (L' := [(0, .ref 41), (1, .int X1), (2, .int X2), (3, .int X3)]) H_60 hq (z_at.mk 3 rfl rfl) rfl rfl rfl rfl ?_
      refine r_p hq 1 (pc' := 68) (L' := [(0, .ref 41), (1, .int X1), (2, .int X2), (3, .int X3)]) (st' := [.int X1, .ref 42]) rfl ?_
      obtain ⟨g_68, h⟩ := z_ifo_some h
      refine r_ia (pc' := 69) (L' := [(0, .ref 41), (1, .int X1), (2, .int X2), (3, .int X3)]) H_60 hq (z_at.mk 1 rfl rfl) (show zAr 42 0 60 = true from rfl) hx1 g_68 rfl rfl ?_
      intro V_68 hV_68
      refine r_p hq 1 (pc' := 70) (L' := [(0, .ref 41), (1, .int X1), (2, .int X2), (3, .int X3)]) (st' := [.ref 41, .int V_68]) rfl ?_
      refine r_gR (b := 42) (pc' := 73) (L' := [(0, .ref 41), (1, .int X1), (2, .int X2), (3, .int X3)]) H_60 hq (z_at.mk 3 rfl rfl) rfl rfl rfl rfl ?_
      refine r_p hq 1 (pc' := 74) (L' := [(0, .ref 41), (1, .int X1), (2, .int X2), (3, .int X3)]) (st' := [.int X1, .ref 42, .int V_68]) rfl ?_
      obtain ⟨g_74, h⟩ := z_ifo_some h
      refine r_ia (pc' := 75) (L' := [(0, .ref 41), (1, .int X1), (2, .int X2), (3, .int X3)]) H_60 hq (z_at.mk 1 rfl rfl) (show zAr 42 0 60 = true from rfl) hx1 g_74 rfl rfl ?_
      intro V_74 hV_74
      refine r_p hq 1 (pc' := 76) (L' := [(0, .ref 41), (1, .int X1), (2, .int X2), (3, .int X3)]) (st' := [.ref 41, .int V_74, .int V_68]) rfl ?_
      refine r_gR (b := 43) (pc' := 79) (L' := [(0, .ref 41), (1, .int X1), (2, .int X2), (3, .int X3)]) H_60 hq (z_at.mk 3 rfl rfl) rfl rfl rfl rfl ?_
      refine r_p hq 1 (pc' := 80) (L' := [(0, .ref 41), (1, .int X1), (2, .int X2), (3, .int X3)]) (st' := [.int X1, .ref 43, .int V_74, .int V_68]) rfl ?_
      obtain ⟨g_80, h⟩ := z_ifo_some h
      refine r_ia (pc' := 81) (L' := [(0, .ref 41), (1, .int X1), (2, .int X2), (3, .int X3)]) H_60 hq (z_at.mk 1 rfl rfl) (show zAr 43 0 60 = true from rfl) hx1 g_80 rfl rfl ?_
      intro V_80 hV_80
      refine r_p hq 1 (pc' := 82) (L' := [(0, .ref 41), (1, .int X1), (2, .int X2), (3, .int X3)]) (st' := [.ref 41, .int V_80, .int V_74, .int V_68]) rfl ?_
      refine r_gR (b := 43) (pc' := 85) (L' := [(0, .ref 41), (1, .int X1), (2, .int X2), (3, .int X3)]) H_60 hq (z_at.mk 3 rfl rfl) rfl rfl rfl rfl ?_
      refine r_p hq 1 (pc' := 86) (L' := [(0, .ref 41), (1, .int X1), (2, .int X2), (3, .int X3)]) (st' := [.int X1, .ref 43, .int V_80, .int V_74, .int V_68]) rfl ?_
      obtain ⟨g_86, h⟩ := z_ifo_some h
      refine r_ia (pc' := 87) (L' := [(0, .ref 41), (1, .int X1), (2, .int X2), (3, .int X3)]) H_60 hq (z_at.mk 1 rfl rfl) (show zAr 43 0 60 = true from rfl) hx1 g_86 rfl rfl ?_
      intro V_86 hV_86
      obtain ⟨o_87, h_87, h⟩ := Option.bind_eq_some_iff.mp h
      refine r_csI (pc' := 90) (L' := [(0, .ref 41), (1, .int X1), (2, .int X2), (3, .int X3)]) (As := [.int V_68, .int V_74, .int V_80, .int V_86]) (rest := []) (j := 2) hq (z_at.mk 3 rfl rfl) (Or.inl ⟨rfl, rfl⟩) rfl rfl (by omega) (g_b_of_ok hV_68 hV_74 hV_80 hV_86 H_60 h_87) rfl rfl ?_
      intro R_87 m_87 p_87 e_87 hR_87 H_87
      subst e_87
      cases h
      exact r_ri hq (z_at.mk 1 rfl rfl) rfl rfl hR_87 rfl H_87
    · refine r_f2 (pc' := 27) (L' := [(0, .ref 41), (1, .int X1), (2, .int X2), (3, .int X3)]) hq (z_at.mk 3 rfl rfl) rfl hx3 hV_21 c_24 rfl rfl ?_
      refine r_p hq 1 (pc' := 28) (L' := [(0, .ref 41), (1, .int X1), (2, .int X2), (3, .int X3)]) (st' := [.ref 41]) rfl ?_
      refine r_gR (b := 45) (pc' := 31) (L' := [(0, .ref 41), (1, .int X1), (2, .int X2), (3, .int X3)]) H hq (z_at.mk 3 rfl rfl) rfl rfl rfl rfl ?_
      refine r_p hq 1 (pc' := 32) (L' := [(0, .ref 41), (1, .int X1), (2, .int X2), (3, .int X3)]) (st' := [.int X3, .ref 45]) rfl ?_
      obtain ⟨g_32, h⟩ := z_ifo_some h
      refine r_ia (pc' := 33) (L' := [(0, .ref 41), (1, .int X1), (2, .int X2), (3, .int X3)]) H hq (z_at.mk 1 rfl rfl) (show zAr 45 0 60 = true from rfl) hx3 g_32 rfl rfl ?_
      intro V_32 hV_32
      refine r_p hq 1 (pc' := 34) (L' := [(0, .ref 41), (1, .int X1), (2, .int X2), (3, .int X3)]) (st' := [.int X1, .int V_32]) rfl ?_
      rcases z_ite h with ⟨c_34, h⟩ | ⟨c_34, h⟩
      · refine r_t2 (pc' := 52) (L' := [(0, .ref 41), (1, .int X1), (2, .int X2), (3, .int X3)]) hq (z_at.mk 3 rfl rfl) rfl hV_32 hx1 c_34 rfl rfl ?_
        exact g_so_bringOut_L52_ok ih hx1 hx2 hx3 H h
      · refine r_f2 (pc' := 37) (L' := [(0, .ref 41), (1, .int X1), (2, .int X2), (3, .int X3)]) hq (z_at.mk 3 rfl rfl) rfl hV_32 hx1 c_34 rfl rfl ?_
        refine r_p hq 1 (pc' := 38) (L' := [(0, .ref 41), (1, .int X1), (2, .int X2), (3, .int X3)]) (st' := [.ref 41]) rfl ?_
        refine r_gR (b := 45) (pc' := 41) (L' := [(0, .ref 41), (1, .int X1), (2, .int X2), (3, .int X3)]) H hq (z_at.mk 3 rfl rfl) rfl rfl rfl rfl ?_
        refine r_p hq 2 (pc' := 43) (L' := [(0, .ref 41), (1, .int X1), (2, .int X2), (3, .int X3)]) (st' := [.ref 41, .int X2, .ref 45]) rfl ?_
        refine r_gR (b := 45) (pc' := 46) (L' := [(0, .ref 41), (1, .int X1), (2, .int X2), (3, .int X3)]) H hq (z_at.mk 3 rfl rfl) rfl rfl rfl rfl ?_
        refine r_p hq 1 (pc' := 47) (L' := [(0, .ref 41), (1, .int X1), (2, .int X2), (3, .int X3)]) (st' := [.int X3, .ref 45, .int X2, .ref 45]) rfl ?_
        obtain ⟨g_47, h⟩ := z_ifo_some h
        refine r_ia (pc' := 48) (L' := [(0, .ref 41), (1, .int X1), (2, .int X2), (3, .int X3)]) H hq (z_at.mk 1 rfl rfl) (show zAr 45 0 60 = true from rfl) hx3 g_47 rfl rfl ?_
        intro V_47 hV_47
        obtain ⟨g_48, h⟩ := z_ifo_some h
        refine r_is (pc' := 49) (L' := [(0, .ref 41), (1, .int X1), (2, .int X2), (3, .int X3)]) H hq (z_at.mk 1 rfl rfl) (show zAr 45 0 60 = true from rfl) hx2 g_48 hV_47 rfl rfl ?_
        intro m_48 H_48
        refine r_p hq 1 (pc' := 52) (L' := [(0, .ref 41), (1, .int X1), (2, .int (X2 + (1 : Int32))), (3, .int X3)]) (st' := []) rfl ?_
        exact g_so_bringOut_L52_ok ih hx1 (tx_iadd hx2 (rfl : (1 : Int32).toInt = 1)) hx3 H_48 h
def g_so_bringOut (x1 : Int) (σ : zS) : Option (Int × zS) :=
  (g_so_isIn x1 σ).bind fun o_2 =>
  if o_2.1 ≠ 0 then
    (g_so_flip x1 o_2.2).bind fun o_12 =>
    g_so_bringOut_L19 zK x1 0 0 o_12.2
  else
    some (-1, o_2.2)
set_option maxHeartbeats 4000000 in
theorem g_so_bringOut_ok {xl : Nat} {xs : Nat → Int32} {X1 : Int32} {x1 : Int} (hx1 : X1.toInt = x1) {σ : zS} {p : Nat} {m : zM} {o : Int × zS} (H : zRep xl xs p m σ) (h : g_so_bringOut x1 σ = some o) : zGo xl xs (fun p' => p = p') 3 84 0 (z_can 84 0 (lv_args 0 [.ref 41, .int X1])) [] m (vI o.1) o.2 := by
  have hq : z_mth 84 = some z_r84 := rfl
  unfold g_so_bringOut at h
  show zGo xl xs (fun p' => p = p') 3 84 0 [(0, .ref 41), (1, .int X1)] [] m (vI o.1) o.2
  refine r_p hq 2 (pc' := 2) (L' := [(0, .ref 41), (1, .int X1)]) (st' := [.int X1, .ref 41]) rfl ?_
  obtain ⟨o_2, h_2, h⟩ := Option.bind_eq_some_iff.mp h
  refine r_cvI (pc' := 5) (L' := [(0, .ref 41), (1, .int X1)]) (Ps := [.int X1]) (rest := []) hq (z_at.mk 3 rfl rfl) (Or.inl ⟨rfl, rfl⟩) rfl rfl (by decide) (by decide) rfl (Nat.not_lt.mpr (Nat.le_of_ble_eq_true rfl)) rfl rfl (z_cat_le 0 rfl (by decide)) (z_lgl_le 2 rfl (by decide)) (by decide) (H.tg rfl) (by omega) (g_so_isIn_ok hx1 H h_2) rfl rfl ?_
  intro R_2 m_2 p_2 e_2 hR_2 H_2
  subst e_2
  rcases z_ite h with ⟨c_5, h⟩ | ⟨c_5, h⟩
  · refine r_t1 (pc' := 10) (L' := [(0, .ref 41), (1, .int X1)]) hq (z_at.mk 3 rfl rfl) rfl hR_2 c_5 rfl rfl ?_
    refine r_p hq 2 (pc' := 12) (L' := [(0, .ref 41), (1, .int X1)]) (st' := [.int X1, .ref 41]) rfl ?_
    obtain ⟨o_12, h_12, h⟩ := Option.bind_eq_some_iff.mp h
    refine r_cvV (pc' := 15) (L' := [(0, .ref 41), (1, .int X1)]) (Ps := [.int X1]) (rest := []) hq (z_at.mk 3 rfl rfl) (Or.inl ⟨rfl, rfl⟩) rfl rfl (by decide) (by decide) rfl (Nat.not_lt.mpr (Nat.le_of_ble_eq_true rfl)) rfl rfl (z_cat_le 0 rfl (by decide)) (z_lgl_le 2 rfl (by decide)) (by decide) (H_2.tg rfl) (by omega) (g_so_flip_ok hx1 H_2 h_12) rfl rfl ?_
    intro m_12 p_12 e_12 H_12
    subst e_12
    refine r_p hq 4 (pc' := 19) (L' := [(0, .ref 41), (1, .int X1), (2, .int ((0 : Int32))), (3, .int ((0 : Int32)))]) (st' := []) rfl ?_
    exact g_so_bringOut_L19_ok zK hx1 (rfl : (0 : Int32).toInt = 0) (rfl : (0 : Int32).toInt = 0) H_12 h
  · refine r_f1 (pc' := 8) (L' := [(0, .ref 41), (1, .int X1)]) hq (z_at.mk 3 rfl rfl) rfl hR_2 c_5 rfl rfl ?_
    refine r_p hq 1 (pc' := 9) (L' := [(0, .ref 41), (1, .int X1)]) (st' := [.int ((-1 : Int32))]) rfl ?_
    cases h
    exact r_ri hq (z_at.mk 1 rfl rfl) rfl rfl (rfl : (-1 : Int32).toInt = -1) rfl H_2
def g_ta_append (x1 : Int) (σ : zS) : Option (Int × zS) :=
  let v_1 := σ 120 1
  if v_1 < 160 then
    let v_17 := σ 120 1
    if 0 ≤ v_17 ∧ v_17 < 160 then
    let s_22 := zu σ 121 v_17 (w8 (w8 x1))
    let v_25 := s_22 120 1
    let s_30 := zu s_22 120 1 (w32 (v_25 + 1))
    some (1, s_30)
    else none
  else
    some (0, σ)
set_option maxHeartbeats 4000000 in
theorem g_ta_append_ok {xl : Nat} {xs : Nat → Int32} {X1 : Int32} {x1 : Int} (hx1 : X1.toInt = x1) {σ : zS} {p : Nat} {m : zM} {o : Int × zS} (H : zRep xl xs p m σ) (h : g_ta_append x1 σ = some o) : zGo xl xs (fun p' => p = p') 1 91 0 (z_can 91 0 (lv_args 0 [.ref 120, .int X1])) [] m (vI o.1) o.2 := by
  have hq : z_mth 91 = some z_r91 := rfl
  unfold g_ta_append at h
  show zGo xl xs (fun p' => p = p') 1 91 0 [(0, .ref 120), (1, .int X1)] [] m (vI o.1) o.2
  refine r_p hq 1 (pc' := 1) (L' := [(0, .ref 120), (1, .int X1)]) (st' := [.ref 120]) rfl ?_
  refine r_gI (pc' := 4) (L' := [(0, .ref 120), (1, .int X1)]) H hq (z_at.mk 3 rfl rfl) rfl rfl rfl rfl ?_
  intro V_1 hV_1
  refine r_p hq 1 (pc' := 7) (L' := [(0, .ref 120), (1, .int X1)]) (st' := [.int ((160 : Int32)), .int V_1]) rfl ?_
  rcases z_ite h with ⟨c_7, h⟩ | ⟨c_7, h⟩
  · refine r_t2 (pc' := 12) (L' := [(0, .ref 120), (1, .int X1)]) hq (z_at.mk 3 rfl rfl) rfl hV_1 (rfl : (160 : Int32).toInt = 160) c_7 rfl rfl ?_
    refine r_p hq 1 (pc' := 13) (L' := [(0, .ref 120), (1, .int X1)]) (st' := [.ref 120]) rfl ?_
    refine r_gR (b := 121) (pc' := 16) (L' := [(0, .ref 120), (1, .int X1)]) H hq (z_at.mk 3 rfl rfl) rfl rfl rfl rfl ?_
    refine r_p hq 1 (pc' := 17) (L' := [(0, .ref 120), (1, .int X1)]) (st' := [.ref 120, .ref 121]) rfl ?_
    refine r_gI (pc' := 20) (L' := [(0, .ref 120), (1, .int X1)]) H hq (z_at.mk 3 rfl rfl) rfl rfl rfl rfl ?_
    intro V_17 hV_17
    refine r_p hq 2 (pc' := 22) (L' := [(0, .ref 120), (1, .int X1)]) (st' := [.int X1.toInt8.toInt32, .int V_17, .ref 121]) rfl ?_
    obtain ⟨g_22, h⟩ := z_ifo_some h
    refine r_bs (pc' := 23) (L' := [(0, .ref 120), (1, .int X1)]) H hq (z_at.mk 1 rfl rfl) (show zAr 121 2 160 = true from rfl) hV_17 g_22 (tx_i2b hx1) rfl rfl ?_
    intro m_22 H_22
    refine r_p hq 2 (pc' := 25) (L' := [(0, .ref 120), (1, .int X1)]) (st' := [.ref 120, .ref 120]) rfl ?_
    refine r_gI (pc' := 28) (L' := [(0, .ref 120), (1, .int X1)]) H_22 hq (z_at.mk 3 rfl rfl) rfl rfl rfl rfl ?_
    intro V_25 hV_25
    refine r_p hq 2 (pc' := 30) (L' := [(0, .ref 120), (1, .int X1)]) (st' := [.int (V_25 + ((1 : Int32))), .ref 120]) rfl ?_
    refine r_pI (X := V_25 + ((1 : Int32))) (pc' := 33) (L' := [(0, .ref 120), (1, .int X1)]) H_22 hq (z_at.mk 3 rfl rfl) rfl rfl (tx_iadd hV_25 (rfl : (1 : Int32).toInt = 1)) (by decide) rfl rfl rfl rfl ?_
    intro m_30 H_30
    refine r_p hq 1 (pc' := 34) (L' := [(0, .ref 120), (1, .int X1)]) (st' := [.int ((1 : Int32))]) rfl ?_
    cases h
    exact r_ri hq (z_at.mk 1 rfl rfl) rfl rfl (rfl : (1 : Int32).toInt = 1) rfl H_30
  · refine r_f2 (pc' := 10) (L' := [(0, .ref 120), (1, .int X1)]) hq (z_at.mk 3 rfl rfl) rfl hV_1 (rfl : (160 : Int32).toInt = 160) c_7 rfl rfl ?_
    refine r_p hq 1 (pc' := 11) (L' := [(0, .ref 120), (1, .int X1)]) (st' := [.int ((0 : Int32))]) rfl ?_
    cases h
    exact r_ri hq (z_at.mk 1 rfl rfl) rfl rfl (rfl : (0 : Int32).toInt = 0) rfl H
def g_ta_begin (σ : zS) : Option (Unit × zS) :=
  let s_2 := zu σ 120 2 0
  let s_7 := zu s_2 120 3 (-1)
  some ((), s_7)
set_option maxHeartbeats 4000000 in
theorem g_ta_begin_ok {xl : Nat} {xs : Nat → Int32} {σ : zS} {p : Nat} {m : zM} {o : Unit × zS} (H : zRep xl xs p m σ) (h : g_ta_begin σ = some o) : zGo xl xs (fun p' => p = p') 1 92 0 (z_can 92 0 (lv_args 0 [.ref 120])) [] m vV o.2 := by
  have hq : z_mth 92 = some z_r92 := rfl
  unfold g_ta_begin at h
  show zGo xl xs (fun p' => p = p') 1 92 0 [(0, .ref 120)] [] m vV o.2
  refine r_p hq 2 (pc' := 2) (L' := [(0, .ref 120)]) (st' := [.int ((0 : Int32)), .ref 120]) rfl ?_
  refine r_pI (X := (0 : Int32)) (pc' := 5) (L' := [(0, .ref 120)]) H hq (z_at.mk 3 rfl rfl) rfl rfl (rfl : (0 : Int32).toInt = 0) (by decide) rfl rfl rfl rfl ?_
  intro m_2 H_2
  refine r_p hq 2 (pc' := 7) (L' := [(0, .ref 120)]) (st' := [.int ((-1 : Int32)), .ref 120]) rfl ?_
  refine r_pI (X := (-1 : Int32)) (pc' := 10) (L' := [(0, .ref 120)]) H_2 hq (z_at.mk 3 rfl rfl) rfl rfl (rfl : (-1 : Int32).toInt = -1) (by decide) rfl rfl rfl rfl ?_
  intro m_7 H_7
  cases h
  exact r_rv hq (z_at.mk 1 rfl rfl) rfl rfl H_7
def g_ta_end (x1 : Int) (σ : zS) : Option (Int × zS) :=
  let s_2 := zu σ 120 1 0
  (g_ta_isSound s_2).bind fun o_6 =>
  if o_6.1 = 0 then
    let v_19 := o_6.2 120 3
    some (w32 ((-100) - v_19), o_6.2)
  else
    some (x1, o_6.2)
set_option maxHeartbeats 4000000 in
theorem g_ta_end_ok {xl : Nat} {xs : Nat → Int32} {X1 : Int32} {x1 : Int} (hx1 : X1.toInt = x1) {σ : zS} {p : Nat} {m : zM} {o : Int × zS} (H : zRep xl xs p m σ) (h : g_ta_end x1 σ = some o) : zGo xl xs (fun p' => p = p') 2 94 0 (z_can 94 0 (lv_args 0 [.ref 120, .int X1])) [] m (vI o.1) o.2 := by
  have hq : z_mth 94 = some z_r94 := rfl
  unfold g_ta_end at h
  show zGo xl xs (fun p' => p = p') 2 94 0 [(0, .ref 120), (1, .int X1)] [] m (vI o.1) o.2
  refine r_p hq 2 (pc' := 2) (L' := [(0, .ref 120), (1, .int X1)]) (st' := [.int ((0 : Int32)), .ref 120]) rfl ?_
  refine r_pI (X := (0 : Int32)) (pc' := 5) (L' := [(0, .ref 120), (1, .int X1)]) H hq (z_at.mk 3 rfl rfl) rfl rfl (rfl : (0 : Int32).toInt = 0) (by decide) rfl rfl rfl rfl ?_
  intro m_2 H_2
  refine r_p hq 1 (pc' := 6) (L' := [(0, .ref 120), (1, .int X1)]) (st' := [.ref 120]) rfl ?_
  obtain ⟨o_6, h_6, h⟩ := Option.bind_eq_some_iff.mp h
  refine r_cvI (pc' := 9) (L' := [(0, .ref 120), (1, .int X1)]) (Ps := []) (rest := []) hq (z_at.mk 3 rfl rfl) (Or.inl ⟨rfl, rfl⟩) rfl rfl (by decide) (by decide) rfl (Nat.not_lt.mpr (Nat.le_of_ble_eq_true rfl)) rfl rfl (z_cat_le 0 rfl (by decide)) (z_lgl_le 1 rfl (by decide)) (by decide) (H_2.tg rfl) (by omega) (g_ta_isSound_ok H_2 h_6) rfl rfl ?_
  intro R_6 m_6 p_6 e_6 hR_6 H_6
  subst e_6
  rcases z_ite h with ⟨c_9, h⟩ | ⟨c_9, h⟩
  · refine r_t1 (pc' := 16) (L' := [(0, .ref 120), (1, .int X1)]) hq (z_at.mk 3 rfl rfl) rfl hR_6 c_9 rfl rfl ?_
    refine r_p hq 2 (pc' := 19) (L' := [(0, .ref 120), (1, .int X1)]) (st' := [.ref 120, .int ((-100 : Int32))]) rfl ?_
    refine r_gI (pc' := 22) (L' := [(0, .ref 120), (1, .int X1)]) H_6 hq (z_at.mk 3 rfl rfl) rfl rfl rfl rfl ?_
    intro V_19 hV_19
    refine r_p hq 1 (pc' := 23) (L' := []) (st' := [.int (((-100 : Int32)) - V_19)]) rfl ?_
    cases h
    exact r_ri hq (z_at.mk 1 rfl rfl) rfl rfl (tx_isub (rfl : (-100 : Int32).toInt = -100) hV_19) rfl H_6
  · refine r_f1 (pc' := 12) (L' := [(0, .ref 120), (1, .int X1)]) hq (z_at.mk 3 rfl rfl) rfl hR_6 c_9 rfl rfl ?_
    refine r_p hq 2 (pc' := 23) (L' := []) (st' := [.int X1]) rfl ?_
    cases h
    exact r_ri hq (z_at.mk 1 rfl rfl) rfl rfl hx1 rfl H_6
def g_ta_plainBox (σ : zS) : Option (Int × zS) :=
  (g_ta_number 2 0 31 σ).bind fun o_5 =>
  (g_ta_wants 45 o_5.2).bind fun o_12 =>
  (g_ta_number 2 o_5.1 31 o_12.2).bind fun o_20 =>
  (g_ta_wants 44 o_20.2).bind fun o_27 =>
  (g_ta_number 2 0 31 o_27.2).bind fun o_35 =>
  (g_ta_wants 45 o_35.2).bind fun o_42 =>
  (g_ta_number 2 o_35.1 31 o_42.2).bind fun o_50 =>
  (g_ta_isSound o_50.2).bind fun o_56 =>
  if o_56.1 = 0 then
    some (-1, o_56.2)
  else
    (g_b_of o_5.1 o_20.1 o_35.1 o_50.1 o_56.2).bind fun o_67 =>
    some (o_67.1, o_67.2)
set_option maxHeartbeats 4000000 in
theorem g_ta_plainBox_ok {xl : Nat} {xs : Nat → Int32} {σ : zS} {p : Nat} {m : zM} {o : Int × zS} (H : zRep xl xs p m σ) (h : g_ta_plainBox σ = some o) : zGo xl xs (fun p' => p = p') 3 104 0 (z_can 104 0 (lv_args 0 [.ref 120])) [] m (vI o.1) o.2 := by
  have hq : z_mth 104 = some z_r104 := rfl
  unfold g_ta_plainBox at h
  show zGo xl xs (fun p' => p = p') 3 104 0 [(0, .ref 120)] [] m (vI o.1) o.2
  refine r_p hq 4 (pc' := 5) (L' := [(0, .ref 120)]) (st' := [.int ((31 : Int32)), .int ((0 : Int32)), .int ((2 : Int32)), .ref 120]) rfl ?_
  obtain ⟨o_5, h_5, h⟩ := Option.bind_eq_some_iff.mp h
  refine r_cvI (pc' := 8) (L' := [(0, .ref 120)]) (Ps := [.int ((2 : Int32)), .int ((0 : Int32)), .int ((31 : Int32))]) (rest := []) hq (z_at.mk 3 rfl rfl) (Or.inl ⟨rfl, rfl⟩) rfl rfl (by decide) (by decide) rfl (Nat.not_lt.mpr (Nat.le_of_ble_eq_true rfl)) rfl rfl (z_cat_le 0 rfl (by decide)) (z_lgl_le 4 rfl (by decide)) (by decide) (H.tg rfl) (by omega) (g_ta_number_ok (rfl : (2 : Int32).toInt = 2) (rfl : (0 : Int32).toInt = 0) (rfl : (31 : Int32).toInt = 31) H h_5) rfl rfl ?_
  intro R_5 m_5 p_5 e_5 hR_5 H_5
  subst e_5
  refine r_p hq 3 (pc' := 12) (L' := [(1, .int R_5), (0, .ref 120)]) (st' := [.int ((45 : Int32)), .ref 120]) rfl ?_
  obtain ⟨o_12, h_12, h⟩ := Option.bind_eq_some_iff.mp h
  refine r_cvV (pc' := 15) (L' := [(1, .int R_5), (0, .ref 120)]) (Ps := [.int ((45 : Int32))]) (rest := []) hq (z_at.mk 3 rfl rfl) (Or.inl ⟨rfl, rfl⟩) rfl rfl (by decide) (by decide) rfl (Nat.not_lt.mpr (Nat.le_of_ble_eq_true rfl)) rfl rfl (z_cat_le 0 rfl (by decide)) (z_lgl_le 2 rfl (by decide)) (by decide) (H_5.tg rfl) (by omega) (g_ta_wants_ok (rfl : (45 : Int32).toInt = 45) H_5 h_12) rfl rfl ?_
  intro m_12 p_12 e_12 H_12
  subst e_12
  refine r_p hq 4 (pc' := 20) (L' := [(1, .int R_5), (0, .ref 120)]) (st' := [.int ((31 : Int32)), .int R_5, .int ((2 : Int32)), .ref 120]) rfl ?_
  obtain ⟨o_20, h_20, h⟩ := Option.bind_eq_some_iff.mp h
  refine r_cvI (pc' := 23) (L' := [(1, .int R_5), (0, .ref 120)]) (Ps := [.int ((2 : Int32)), .int R_5, .int ((31 : Int32))]) (rest := []) hq (z_at.mk 3 rfl rfl) (Or.inl ⟨rfl, rfl⟩) rfl rfl (by decide) (by decide) rfl (Nat.not_lt.mpr (Nat.le_of_ble_eq_true rfl)) rfl rfl (z_cat_le 0 rfl (by decide)) (z_lgl_le 4 rfl (by decide)) (by decide) (H_12.tg rfl) (by omega) (g_ta_number_ok (rfl : (2 : Int32).toInt = 2) hR_5 (rfl : (31 : Int32).toInt = 31) H_12 h_20) rfl rfl ?_
  intro R_20 m_20 p_20 e_20 hR_20 H_20
  subst e_20
  refine r_p hq 3 (pc' := 27) (L' := [(2, .int R_20), (1, .int R_5), (0, .ref 120)]) (st' := [.int ((44 : Int32)), .ref 120]) rfl ?_
  obtain ⟨o_27, h_27, h⟩ := Option.bind_eq_some_iff.mp h
  refine r_cvV (pc' := 30) (L' := [(2, .int R_20), (1, .int R_5), (0, .ref 120)]) (Ps := [.int ((44 : Int32))]) (rest := []) hq (z_at.mk 3 rfl rfl) (Or.inl ⟨rfl, rfl⟩) rfl rfl (by decide) (by decide) rfl (Nat.not_lt.mpr (Nat.le_of_ble_eq_true rfl)) rfl rfl (z_cat_le 0 rfl (by decide)) (z_lgl_le 2 rfl (by decide)) (by decide) (H_20.tg rfl) (by omega) (g_ta_wants_ok (rfl : (44 : Int32).toInt = 44) H_20 h_27) rfl rfl ?_
  intro m_27 p_27 e_27 H_27
  subst e_27
  refine r_p hq 4 (pc' := 35) (L' := [(2, .int R_20), (1, .int R_5), (0, .ref 120)]) (st' := [.int ((31 : Int32)), .int ((0 : Int32)), .int ((2 : Int32)), .ref 120]) rfl ?_
  obtain ⟨o_35, h_35, h⟩ := Option.bind_eq_some_iff.mp h
  refine r_cvI (pc' := 38) (L' := [(2, .int R_20), (1, .int R_5), (0, .ref 120)]) (Ps := [.int ((2 : Int32)), .int ((0 : Int32)), .int ((31 : Int32))]) (rest := []) hq (z_at.mk 3 rfl rfl) (Or.inl ⟨rfl, rfl⟩) rfl rfl (by decide) (by decide) rfl (Nat.not_lt.mpr (Nat.le_of_ble_eq_true rfl)) rfl rfl (z_cat_le 0 rfl (by decide)) (z_lgl_le 4 rfl (by decide)) (by decide) (H_27.tg rfl) (by omega) (g_ta_number_ok (rfl : (2 : Int32).toInt = 2) (rfl : (0 : Int32).toInt = 0) (rfl : (31 : Int32).toInt = 31) H_27 h_35) rfl rfl ?_
  intro R_35 m_35 p_35 e_35 hR_35 H_35
  subst e_35
  refine r_p hq 3 (pc' := 42) (L' := [(3, .int R_35), (2, .int R_20), (1, .int R_5), (0, .ref 120)]) (st' := [.int ((45 : Int32)), .ref 120]) rfl ?_
  obtain ⟨o_42, h_42, h⟩ := Option.bind_eq_some_iff.mp h
  refine r_cvV (pc' := 45) (L' := [(3, .int R_35), (2, .int R_20), (1, .int R_5), (0, .ref 120)]) (Ps := [.int ((45 : Int32))]) (rest := []) hq (z_at.mk 3 rfl rfl) (Or.inl ⟨rfl, rfl⟩) rfl rfl (by decide) (by decide) rfl (Nat.not_lt.mpr (Nat.le_of_ble_eq_true rfl)) rfl rfl (z_cat_le 0 rfl (by decide)) (z_lgl_le 2 rfl (by decide)) (by decide) (H_35.tg rfl) (by omega) (g_ta_wants_ok (rfl : (45 : Int32).toInt = 45) H_35 h_42) rfl rfl ?_
  intro m_42 p_42 e_42 H_42
  subst e_42
  refine r_p hq 4 (pc' := 50) (L' := [(3, .int R_35), (2, .int R_20), (1, .int R_5), (0, .ref 120)]) (st' := [.int ((31 : Int32)), .int R_35, .int ((2 : Int32)), .ref 120]) rfl ?_
  obtain ⟨o_50, h_50, h⟩ := Option.bind_eq_some_iff.mp h
  refine r_cvI (pc' := 53) (L' := [(3, .int R_35), (2, .int R_20), (1, .int R_5), (0, .ref 120)]) (Ps := [.int ((2 : Int32)), .int R_35, .int ((31 : Int32))]) (rest := []) hq (z_at.mk 3 rfl rfl) (Or.inl ⟨rfl, rfl⟩) rfl rfl (by decide) (by decide) rfl (Nat.not_lt.mpr (Nat.le_of_ble_eq_true rfl)) rfl rfl (z_cat_le 0 rfl (by decide)) (z_lgl_le 4 rfl (by decide)) (by decide) (H_42.tg rfl) (by omega) (g_ta_number_ok (rfl : (2 : Int32).toInt = 2) hR_35 (rfl : (31 : Int32).toInt = 31) H_42 h_50) rfl rfl ?_
  intro R_50 m_50 p_50 e_50 hR_50 H_50
  subst e_50
  refine r_p hq 2 (pc' := 56) (L' := [(4, .int R_50), (3, .int R_35), (2, .int R_20), (1, .int R_5), (0, .ref 120)]) (st' := [.ref 120]) rfl ?_
  obtain ⟨o_56, h_56, h⟩ := Option.bind_eq_some_iff.mp h
  refine r_cvI (pc' := 59) (L' := [(4, .int R_50), (3, .int R_35), (2, .int R_20), (1, .int R_5), (0, .ref 120)]) (Ps := []) (rest := []) hq (z_at.mk 3 rfl rfl) (Or.inl ⟨rfl, rfl⟩) rfl rfl (by decide) (by decide) rfl (Nat.not_lt.mpr (Nat.le_of_ble_eq_true rfl)) rfl rfl (z_cat_le 0 rfl (by decide)) (z_lgl_le 1 rfl (by decide)) (by decide) (H_50.tg rfl) (by omega) (g_ta_isSound_ok H_50 h_56) rfl rfl ?_
  intro R_56 m_56 p_56 e_56 hR_56 H_56
  subst e_56
  rcases z_ite h with ⟨c_59, h⟩ | ⟨c_59, h⟩
  · refine r_t1 (pc' := 73) (L' := [(4, .int R_50), (3, .int R_35), (2, .int R_20), (1, .int R_5), (0, .ref 120)]) hq (z_at.mk 3 rfl rfl) rfl hR_56 c_59 rfl rfl ?_
    refine r_p hq 1 (pc' := 74) (L' := []) (st' := [.int ((-1 : Int32))]) rfl ?_
    cases h
    exact r_ri hq (z_at.mk 1 rfl rfl) rfl rfl (rfl : (-1 : Int32).toInt = -1) rfl H_56
  · refine r_f1 (pc' := 62) (L' := [(4, .int R_50), (3, .int R_35), (2, .int R_20), (1, .int R_5), (0, .ref 120)]) hq (z_at.mk 3 rfl rfl) rfl hR_56 c_59 rfl rfl ?_
    refine r_p hq 4 (pc' := 67) (L' := [(4, .int R_50), (3, .int R_35), (2, .int R_20), (1, .int R_5), (0, .ref 120)]) (st' := [.int R_50, .int R_35, .int R_20, .int R_5]) rfl ?_
    obtain ⟨o_67, h_67, h⟩ := Option.bind_eq_some_iff.mp h
    refine r_csI (pc' := 70) (L' := [(4, .int R_50), (3, .int R_35), (2, .int R_20), (1, .int R_5), (0, .ref 120)]) (As := [.int R_5, .int R_20, .int R_35, .int R_50]) (rest := []) (j := 2) hq (z_at.mk 3 rfl rfl) (Or.inl ⟨rfl, rfl⟩) rfl rfl (by omega) (g_b_of_ok hR_5 hR_20 hR_35 hR_50 H_56 h_67) rfl rfl ?_
    intro R_67 m_67 p_67 e_67 hR_67 H_67
    subst e_67
    refine r_p hq 1 (pc' := 74) (L' := []) (st' := [.int R_67]) rfl ?_
    cases h
    exact r_ri hq (z_at.mk 1 rfl rfl) rfl rfl hR_67 rfl H_67
def g_wa_has (x1 : Int) (σ : zS) : Option (Int × zS) :=
  if x1 < 0 then
    some (0, σ)
  else
    let v_6 := σ 65 5
    if v_6 ≤ x1 then
      some (0, σ)
    else
      if 6 ≤ x1 then
        some (0, σ)
      else
        some (1, σ)
set_option maxHeartbeats 4000000 in
theorem g_wa_has_ok {xl : Nat} {xs : Nat → Int32} {X1 : Int32} {x1 : Int} (hx1 : X1.toInt = x1) {σ : zS} {p : Nat} {m : zM} {o : Int × zS} (H : zRep xl xs p m σ) (h : g_wa_has x1 σ = some o) : zGo xl xs (fun p' => p = p') 1 108 0 (z_can 108 0 (lv_args 0 [.ref 65, .int X1])) [] m (vI o.1) o.2 := by
  have hq : z_mth 108 = some z_r108 := rfl
  unfold g_wa_has at h
  show zGo xl xs (fun p' => p = p') 1 108 0 [(0, .ref 65), (1, .int X1)] [] m (vI o.1) o.2
  refine r_p hq 1 (pc' := 1) (L' := [(0, .ref 65), (1, .int X1)]) (st' := [.int X1]) rfl ?_
  rcases z_ite h with ⟨c_1, h⟩ | ⟨c_1, h⟩
  · refine r_t1 (pc' := 22) (L' := []) hq (z_at.mk 3 rfl rfl) rfl hx1 c_1 rfl rfl ?_
    refine r_p hq 1 (pc' := 23) (L' := []) (st' := [.int ((0 : Int32))]) rfl ?_
    cases h
    exact r_ri hq (z_at.mk 1 rfl rfl) rfl rfl (rfl : (0 : Int32).toInt = 0) rfl H
  · refine r_f1 (pc' := 4) (L' := [(0, .ref 65), (1, .int X1)]) hq (z_at.mk 3 rfl rfl) rfl hx1 c_1 rfl rfl ?_
    refine r_p hq 2 (pc' := 6) (L' := [(0, .ref 65), (1, .int X1)]) (st' := [.ref 65, .int X1]) rfl ?_
    refine r_gI (pc' := 9) (L' := [(0, .ref 65), (1, .int X1)]) H hq (z_at.mk 3 rfl rfl) rfl rfl rfl rfl ?_
    intro V_6 hV_6
    rcases z_ite h with ⟨c_9, h⟩ | ⟨c_9, h⟩
    · refine r_t2 (pc' := 22) (L' := []) hq (z_at.mk 3 rfl rfl) rfl hx1 hV_6 c_9 rfl rfl ?_
      refine r_p hq 1 (pc' := 23) (L' := []) (st' := [.int ((0 : Int32))]) rfl ?_
      cases h
      exact r_ri hq (z_at.mk 1 rfl rfl) rfl rfl (rfl : (0 : Int32).toInt = 0) rfl H
    · refine r_f2 (pc' := 12) (L' := [(0, .ref 65), (1, .int X1)]) hq (z_at.mk 3 rfl rfl) rfl hx1 hV_6 c_9 rfl rfl ?_
      refine r_p hq 2 (pc' := 15) (L' := [(0, .ref 65), (1, .int X1)]) (st' := [.int ((6 : Int32)), .int X1]) rfl ?_
      rcases z_ite h with ⟨c_15, h⟩ | ⟨c_15, h⟩
      · refine r_t2 (pc' := 22) (L' := []) hq (z_at.mk 3 rfl rfl) rfl hx1 (rfl : (6 : Int32).toInt = 6) c_15 rfl rfl ?_
        refine r_p hq 1 (pc' := 23) (L' := []) (st' := [.int ((0 : Int32))]) rfl ?_
        cases h
        exact r_ri hq (z_at.mk 1 rfl rfl) rfl rfl (rfl : (0 : Int32).toInt = 0) rfl H
      · refine r_f2 (pc' := 18) (L' := [(0, .ref 65), (1, .int X1)]) hq (z_at.mk 3 rfl rfl) rfl hx1 (rfl : (6 : Int32).toInt = 6) c_15 rfl rfl ?_
        refine r_p hq 2 (pc' := 23) (L' := []) (st' := [.int ((1 : Int32))]) rfl ?_
        cases h
        exact r_ri hq (z_at.mk 1 rfl rfl) rfl rfl (rfl : (1 : Int32).toInt = 1) rfl H
def g_wa_add (x1 : Int) (x2 : Int) (σ : zS) : Option (Int × zS) :=
  let v_1 := σ 65 5
  if v_1 < 6 then
    let v_16 := σ 65 5
    if 0 ≤ v_16 ∧ v_16 < 6 then
    let s_20 := zu σ 66 v_16 x1
    let v_26 := s_20 65 5
    if 0 ≤ v_26 ∧ v_26 < 6 then
    let s_30 := zu s_20 67 v_26 x2
    let v_36 := s_30 65 5
    if 0 ≤ v_36 ∧ v_36 < 6 then
    let s_40 := zu s_30 68 v_36 0
    let v_43 := s_40 65 5
    let s_48 := zu s_40 65 5 (w32 (v_43 + 1))
    some (1, s_48)
    else none
    else none
    else none
  else
    some (0, σ)
set_option maxHeartbeats 4000000 in
theorem g_wa_add_ok {xl : Nat} {xs : Nat → Int32} {X1 : Int32} {x1 : Int} (hx1 : X1.toInt = x1) {X2 : Int32} {x2 : Int} (hx2 : X2.toInt = x2) {σ : zS} {p : Nat} {m : zM} {o : Int × zS} (H : zRep xl xs p m σ) (h : g_wa_add x1 x2 σ = some o) : zGo xl xs (fun p' => p = p') 1 109 0 (z_can 109 0 (lv_args 0 [.ref 65, .int X1, .int X2])) [] m (vI o.1) o.2 := by
  have hq : z_mth 109 = some z_r109 := rfl
  unfold g_wa_add at h
  show zGo xl xs (fun p' => p = p') 1 109 0 [(0, .ref 65), (1, .int X1), (2, .int X2)] [] m (vI o.1) o.2
  refine r_p hq 1 (pc' := 1) (L' := [(0, .ref 65), (1, .int X1), (2, .int X2)]) (st' := [.ref 65]) rfl ?_
  refine r_gI (pc' := 4) (L' := [(0, .ref 65), (1, .int X1), (2, .int X2)]) H hq (z_at.mk 3 rfl rfl) rfl rfl rfl rfl ?_
  intro V_1 hV_1
  refine r_p hq 1 (pc' := 6) (L' := [(0, .ref 65), (1, .int X1), (2, .int X2)]) (st' := [.int ((6 : Int32)), .int V_1]) rfl ?_
  rcases z_ite h with ⟨c_6, h⟩ | ⟨c_6, h⟩
  · refine r_t2 (pc' := 11) (L' := [(0, .ref 65), (1, .int X1), (2, .int X2)]) hq (z_at.mk 3 rfl rfl) rfl hV_1 (rfl : (6 : Int32).toInt = 6) c_6 rfl rfl ?_
    refine r_p hq 1 (pc' := 12) (L' := [(0, .ref 65), (1, .int X1), (2, .int X2)]) (st' := [.ref 65]) rfl ?_
    refine r_gR (b := 66) (pc' := 15) (L' := [(0, .ref 65), (1, .int X1), (2, .int X2)]) H hq (z_at.mk 3 rfl rfl) rfl rfl rfl rfl ?_
    refine r_p hq 1 (pc' := 16) (L' := [(0, .ref 65), (1, .int X1), (2, .int X2)]) (st' := [.ref 65, .ref 66]) rfl ?_
    refine r_gI (pc' := 19) (L' := [(0, .ref 65), (1, .int X1), (2, .int X2)]) H hq (z_at.mk 3 rfl rfl) rfl rfl rfl rfl ?_
    intro V_16 hV_16
    refine r_p hq 1 (pc' := 20) (L' := [(0, .ref 65), (1, .int X1), (2, .int X2)]) (st' := [.int X1, .int V_16, .ref 66]) rfl ?_
    obtain ⟨g_20, h⟩ := z_ifo_some h
    refine r_is (pc' := 21) (L' := [(0, .ref 65), (1, .int X1), (2, .int X2)]) H hq (z_at.mk 1 rfl rfl) (show zAr 66 0 6 = true from rfl) hV_16 g_20 hx1 rfl rfl ?_
    intro m_20 H_20
    refine r_p hq 1 (pc' := 22) (L' := [(0, .ref 65), (1, .int X1), (2, .int X2)]) (st' := [.ref 65]) rfl ?_
    refine r_gR (b := 67) (pc' := 25) (L' := [(0, .ref 65), (1, .int X1), (2, .int X2)]) H_20 hq (z_at.mk 3 rfl rfl) rfl rfl rfl rfl ?_
    refine r_p hq 1 (pc' := 26) (L' := [(0, .ref 65), (1, .int X1), (2, .int X2)]) (st' := [.ref 65, .ref 67]) rfl ?_
    refine r_gI (pc' := 29) (L' := [(0, .ref 65), (1, .int X1), (2, .int X2)]) H_20 hq (z_at.mk 3 rfl rfl) rfl rfl rfl rfl ?_
    intro V_26 hV_26
    refine r_p hq 1 (pc' := 30) (L' := [(0, .ref 65), (1, .int X1), (2, .int X2)]) (st' := [.int X2, .int V_26, .ref 67]) rfl ?_
    obtain ⟨g_30, h⟩ := z_ifo_some h
    refine r_is (pc' := 31) (L' := [(0, .ref 65), (1, .int X1), (2, .int X2)]) H_20 hq (z_at.mk 1 rfl rfl) (show zAr 67 0 6 = true from rfl) hV_26 g_30 hx2 rfl rfl ?_
    intro m_30 H_30
    refine r_p hq 1 (pc' := 32) (L' := [(0, .ref 65), (1, .int X1), (2, .int X2)]) (st' := [.ref 65]) rfl ?_
    refine r_gR (b := 68) (pc' := 35) (L' := [(0, .ref 65), (1, .int X1), (2, .int X2)]) H_30 hq (z_at.mk 3 rfl rfl) rfl rfl rfl rfl ?_
    refine r_p hq 1 (pc' := 36) (L' := [(0, .ref 65), (1, .int X1), (2, .int X2)]) (st' := [.ref 65, .ref 68]) rfl ?_
    refine r_gI (pc' := 39) (L' := [(0, .ref 65), (1, .int X1), (2, .int X2)]) H_30 hq (z_at.mk 3 rfl rfl) rfl rfl rfl rfl ?_
    intro V_36 hV_36
    refine r_p hq 1 (pc' := 40) (L' := [(0, .ref 65), (1, .int X1), (2, .int X2)]) (st' := [.int ((0 : Int32)), .int V_36, .ref 68]) rfl ?_
    obtain ⟨g_40, h⟩ := z_ifo_some h
    refine r_is (pc' := 41) (L' := [(0, .ref 65), (1, .int X1), (2, .int X2)]) H_30 hq (z_at.mk 1 rfl rfl) (show zAr 68 0 6 = true from rfl) hV_36 g_40 (rfl : (0 : Int32).toInt = 0) rfl rfl ?_
    intro m_40 H_40
    refine r_p hq 2 (pc' := 43) (L' := [(0, .ref 65), (1, .int X1), (2, .int X2)]) (st' := [.ref 65, .ref 65]) rfl ?_
    refine r_gI (pc' := 46) (L' := [(0, .ref 65), (1, .int X1), (2, .int X2)]) H_40 hq (z_at.mk 3 rfl rfl) rfl rfl rfl rfl ?_
    intro V_43 hV_43
    refine r_p hq 2 (pc' := 48) (L' := [(0, .ref 65), (1, .int X1), (2, .int X2)]) (st' := [.int (V_43 + ((1 : Int32))), .ref 65]) rfl ?_
    refine r_pI (X := V_43 + ((1 : Int32))) (pc' := 51) (L' := [(0, .ref 65), (1, .int X1), (2, .int X2)]) H_40 hq (z_at.mk 3 rfl rfl) rfl rfl (tx_iadd hV_43 (rfl : (1 : Int32).toInt = 1)) (by decide) rfl rfl rfl rfl ?_
    intro m_48 H_48
    refine r_p hq 1 (pc' := 52) (L' := [(0, .ref 65), (1, .int X1), (2, .int X2)]) (st' := [.int ((1 : Int32))]) rfl ?_
    cases h
    exact r_ri hq (z_at.mk 1 rfl rfl) rfl rfl (rfl : (1 : Int32).toInt = 1) rfl H_48
  · refine r_f2 (pc' := 9) (L' := [(0, .ref 65), (1, .int X1), (2, .int X2)]) hq (z_at.mk 3 rfl rfl) rfl hV_1 (rfl : (6 : Int32).toInt = 6) c_6 rfl rfl ?_
    refine r_p hq 1 (pc' := 10) (L' := [(0, .ref 65), (1, .int X1), (2, .int X2)]) (st' := [.int ((0 : Int32))]) rfl ?_
    cases h
    exact r_ri hq (z_at.mk 1 rfl rfl) rfl rfl (rfl : (0 : Int32).toInt = 0) rfl H
end
section
/-! 21.g06 -/
/-! THE METHODS over the typed memory, 6 (by wip/zg.py) -/
def g_wa_valueOf (x1 : Int) (σ : zS) : Option (Int × zS) :=
  (g_wa_has x1 σ).bind fun o_2 =>
  if o_2.1 ≠ 0 then
    if 0 ≤ x1 ∧ x1 < 6 then
    let v_23 := o_2.2 67 x1
    (g_so_rowsIn v_23 o_2.2).bind fun o_24 =>
    (g_fi_gather 70 o_24.1 o_24.2).bind fun o_27 =>
    if 0 ≤ x1 ∧ x1 < 6 then
    let v_39 := o_27.2 66 x1
    (g_fi_measured 70 v_39 o_27.2).bind fun o_40 =>
    some (o_40.1, o_40.2)
    else none
    else none
  else
    some (-9223372036854775808, o_2.2)
set_option maxHeartbeats 4000000 in
theorem g_wa_valueOf_ok {xl : Nat} {xs : Nat → Int32} {X1 : Int32} {x1 : Int} (hx1 : X1.toInt = x1) {σ : zS} {p : Nat} {m : zM} {o : Int × zS} (H : zRep xl xs p m σ) (h : g_wa_valueOf x1 σ = some o) : zGo xl xs (fun p' => p = p') 5 110 0 (z_can 110 0 (lv_args 0 [.ref 65, .int X1, .ref 41])) [] m (vL o.1) o.2 := by
  have hq : z_mth 110 = some z_r110 := rfl
  unfold g_wa_valueOf at h
  show zGo xl xs (fun p' => p = p') 5 110 0 [(0, .ref 65), (1, .int X1), (2, .ref 41)] [] m (vL o.1) o.2
  refine r_p hq 2 (pc' := 2) (L' := [(0, .ref 65), (1, .int X1), (2, .ref 41)]) (st' := [.int X1, .ref 65]) rfl ?_
  obtain ⟨o_2, h_2, h⟩ := Option.bind_eq_some_iff.mp h
  refine r_cvI (pc' := 5) (L' := [(0, .ref 65), (1, .int X1), (2, .ref 41)]) (Ps := [.int X1]) (rest := []) hq (z_at.mk 3 rfl rfl) (Or.inl ⟨rfl, rfl⟩) rfl rfl (by decide) (by decide) rfl (Nat.not_lt.mpr (Nat.le_of_ble_eq_true rfl)) rfl rfl (z_cat_le 0 rfl (by decide)) (z_lgl_le 2 rfl (by decide)) (by decide) (H.tg rfl) (by omega) (g_wa_has_ok hx1 H h_2) rfl rfl ?_
  intro R_2 m_2 p_2 e_2 hR_2 H_2
  subst e_2
  rcases z_ite h with ⟨c_5, h⟩ | ⟨c_5, h⟩
  · refine r_t1 (pc' := 12) (L' := [(0, .ref 65), (1, .int X1), (2, .ref 41)]) hq (z_at.mk 3 rfl rfl) rfl hR_2 c_5 rfl rfl ?_
    refine r_p hq 1 (pc' := 13) (L' := [(0, .ref 65), (1, .int X1), (2, .ref 41)]) (st' := [.ref 65]) rfl ?_
    refine r_gR (b := 70) (pc' := 16) (L' := [(0, .ref 65), (1, .int X1), (2, .ref 41)]) H_2 hq (z_at.mk 3 rfl rfl) rfl rfl rfl rfl ?_
    refine r_p hq 3 (pc' := 19) (L' := [(0, .ref 65), (1, .int X1), (2, .ref 41)]) (st' := [.ref 65, .ref 41, .ref 41, .ref 70]) rfl ?_
    refine r_gR (b := 67) (pc' := 22) (L' := [(0, .ref 65), (1, .int X1), (2, .ref 41)]) H_2 hq (z_at.mk 3 rfl rfl) rfl rfl rfl rfl ?_
    refine r_p hq 1 (pc' := 23) (L' := [(0, .ref 65), (1, .int X1), (2, .ref 41)]) (st' := [.int X1, .ref 67, .ref 41, .ref 41, .ref 70]) rfl ?_
    obtain ⟨g_23, h⟩ := z_ifo_some h
    refine r_ia (pc' := 24) (L' := [(0, .ref 65), (1, .int X1), (2, .ref 41)]) H_2 hq (z_at.mk 1 rfl rfl) (show zAr 67 0 6 = true from rfl) hx1 g_23 rfl rfl ?_
    intro V_23 hV_23
    obtain ⟨o_24, h_24, h⟩ := Option.bind_eq_some_iff.mp h
    refine r_cvL (pc' := 27) (L' := [(0, .ref 65), (1, .int X1), (2, .ref 41)]) (Ps := [.int V_23]) (rest := [.ref 41, .ref 70]) hq (z_at.mk 3 rfl rfl) (Or.inl ⟨rfl, rfl⟩) rfl rfl (by decide) (by decide) rfl (Nat.not_lt.mpr (Nat.le_of_ble_eq_true rfl)) rfl rfl (z_cat_le 2 rfl (by decide)) (z_lgl_le 2 rfl (by decide)) (by decide) (H_2.tg rfl) (by omega) (g_so_rowsIn_ok hV_23 H_2 h_24) rfl rfl ?_
    intro R_24 m_24 p_24 e_24 hR_24 H_24
    subst e_24
    obtain ⟨o_27, h_27, h⟩ := Option.bind_eq_some_iff.mp h
    refine r_cvV (pc' := 30) (L' := [(0, .ref 65), (1, .int X1), (2, .ref 41)]) (Ps := [.ref 41, .long R_24]) (rest := []) hq (z_at.mk 3 rfl rfl) (Or.inl ⟨rfl, rfl⟩) rfl rfl (by decide) (by decide) rfl (Nat.not_lt.mpr (Nat.le_of_ble_eq_true rfl)) rfl rfl (z_cat_le 0 rfl (by decide)) (z_lgl_le 4 rfl (by decide)) (by decide) (H_24.tg rfl) (by omega) (g_fi_gather_ok rfl hR_24 H_24 h_27) rfl rfl ?_
    intro m_27 p_27 e_27 H_27
    subst e_27
    refine r_p hq 1 (pc' := 31) (L' := [(0, .ref 65), (1, .int X1), (2, .ref 41)]) (st' := [.ref 65]) rfl ?_
    refine r_gR (b := 70) (pc' := 34) (L' := [(0, .ref 65), (1, .int X1), (2, .ref 41)]) H_27 hq (z_at.mk 3 rfl rfl) rfl rfl rfl rfl ?_
    refine r_p hq 1 (pc' := 35) (L' := [(0, .ref 65), (1, .int X1), (2, .ref 41)]) (st' := [.ref 65, .ref 70]) rfl ?_
    refine r_gR (b := 66) (pc' := 38) (L' := [(0, .ref 65), (1, .int X1), (2, .ref 41)]) H_27 hq (z_at.mk 3 rfl rfl) rfl rfl rfl rfl ?_
    refine r_p hq 1 (pc' := 39) (L' := [(0, .ref 65), (1, .int X1), (2, .ref 41)]) (st' := [.int X1, .ref 66, .ref 70]) rfl ?_
    obtain ⟨g_39, h⟩ := z_ifo_some h
    refine r_ia (pc' := 40) (L' := [(0, .ref 65), (1, .int X1), (2, .ref 41)]) H_27 hq (z_at.mk 1 rfl rfl) (show zAr 66 0 6 = true from rfl) hx1 g_39 rfl rfl ?_
    intro V_39 hV_39
    obtain ⟨o_40, h_40, h⟩ := Option.bind_eq_some_iff.mp h
    refine r_cvL (pc' := 43) (L' := [(0, .ref 65), (1, .int X1), (2, .ref 41)]) (Ps := [.int V_39]) (rest := []) hq (z_at.mk 3 rfl rfl) (Or.inl ⟨rfl, rfl⟩) rfl rfl (by decide) (by decide) rfl (Nat.not_lt.mpr (Nat.le_of_ble_eq_true rfl)) rfl rfl (z_cat_le 0 rfl (by decide)) (z_lgl_le 2 rfl (by decide)) (by decide) (H_27.tg rfl) (by omega) (g_fi_measured_ok rfl hV_39 H_27 h_40) rfl rfl ?_
    intro R_40 m_40 p_40 e_40 hR_40 H_40
    subst e_40
    cases h
    exact r_rl hq (z_at.mk 1 rfl rfl) rfl hR_40 rfl H_40
  · refine r_f1 (pc' := 8) (L' := [(0, .ref 65), (1, .int X1), (2, .ref 41)]) hq (z_at.mk 3 rfl rfl) rfl hR_2 c_5 rfl rfl ?_
    refine r_p hq 1 (pc' := 11) (L' := [(0, .ref 65), (1, .int X1), (2, .ref 41)]) (st' := [.long ((-9223372036854775808 : Int64))]) rfl ?_
    cases h
    exact r_rl hq (z_at.mk 1 rfl rfl) rfl (rfl : (-9223372036854775808 : Int64).toInt = -9223372036854775808) rfl H_2
def g_wa_remember_L2 : Nat → Int → zS → Option (Unit × zS)
  | 0, _, _ => none
  | n + 1, x2, σ =>
    let v_4 := σ 65 5
    if v_4 ≤ x2 then
      some ((), σ)
    else
      if 6 ≤ x2 then
        some ((), σ)
      else
        (g_wa_valueOf x2 σ).bind fun o_24 =>
        if 0 ≤ x2 ∧ x2 < 6 then
        let s_27 := zu o_24.2 69 x2 o_24.1
        (g_wa_remember_L2 n) (w32 (x2 + 1)) s_27
        else none
set_option maxHeartbeats 4000000 in
theorem g_wa_remember_L2_ok {xl : Nat} {xs : Nat → Int32} : ∀ (n : Nat) {X2 : Int32} {x2 : Int} {σ : zS} {p : Nat} {m : zM} {o : Unit × zS}, X2.toInt = x2 → zRep xl xs p m σ → g_wa_remember_L2 n x2 σ = some o → zGo xl xs (fun p' => p = p') 6 111 2 [(0, .ref 65), (1, .ref 41), (2, .int X2)] [] m vV o.2
  | 0, _, _, _, _, _, _, _, _, h => by cases h
  | n + 1, X2, x2, σ, p, m, o, hx2, H, h => by
    have hq : z_mth 111 = some z_r111 := rfl
    have ih := fun {X2 : Int32} {x2 : Int} {σ : zS} {p : Nat} {m : zM} {o : Unit × zS} => g_wa_remember_L2_ok (xl := xl) (xs := xs) n (X2 := X2) (x2 := x2) (σ := σ) (p := p) (m := m) (o := o)
    unfold g_wa_remember_L2 at h
    refine r_p hq 2 (pc' := 4) (L' := [(0, .ref 65), (1, .ref 41), (2, .int X2)]) (st' := [.ref 65, .int X2]) rfl ?_
    refine r_gI (pc' := 7) (L' := [(0, .ref 65), (1, .ref 41), (2, .int X2)]) H hq (z_at.mk 3 rfl rfl) rfl rfl rfl rfl ?_
    intro V_4 hV_4
    rcases z_ite h with ⟨c_7, h⟩ | ⟨c_7, h⟩
    · refine r_t2 (pc' := 34) (L' := []) hq (z_at.mk 3 rfl rfl) rfl hx2 hV_4 c_7 rfl rfl ?_
      cases h
      exact r_rv hq (z_at.mk 1 rfl rfl) rfl rfl H
    · refine r_f2 (pc' := 10) (L' := [(0, .ref 65), (1, .ref 41), (2, .int X2)]) hq (z_at.mk 3 rfl rfl) rfl hx2 hV_4 c_7 rfl rfl ?_
      refine r_p hq 2 (pc' := 13) (L' := [(0, .ref 65), (1, .ref 41), (2, .int X2)]) (st' := [.int ((6 : Int32)), .int X2]) rfl ?_
      rcases z_ite h with ⟨c_13, h⟩ | ⟨c_13, h⟩
      · refine r_t2 (pc' := 34) (L' := []) hq (z_at.mk 3 rfl rfl) rfl hx2 (rfl : (6 : Int32).toInt = 6) c_13 rfl rfl ?_
        cases h
        exact r_rv hq (z_at.mk 1 rfl rfl) rfl rfl H
      · refine r_f2 (pc' := 16) (L' := [(0, .ref 65), (1, .ref 41), (2, .int X2)]) hq (z_at.mk 3 rfl rfl) rfl hx2 (rfl : (6 : Int32).toInt = 6) c_13 rfl rfl ?_
        refine r_p hq 1 (pc' := 17) (L' := [(0, .ref 65), (1, .ref 41), (2, .int X2)]) (st' := [.ref 65]) rfl ?_
        refine r_gR (b := 69) (pc' := 20) (L' := [(0, .ref 65), (1, .ref 41), (2, .int X2)]) H hq (z_at.mk 3 rfl rfl) rfl rfl rfl rfl ?_
        refine r_p hq 4 (pc' := 24) (L' := [(0, .ref 65), (1, .ref 41), (2, .int X2)]) (st' := [.ref 41, .int X2, .ref 65, .int X2, .ref 69]) rfl ?_
        obtain ⟨o_24, h_24, h⟩ := Option.bind_eq_some_iff.mp h
        refine r_cvL (pc' := 27) (L' := [(0, .ref 65), (1, .ref 41), (2, .int X2)]) (Ps := [.int X2, .ref 41]) (rest := [.int X2, .ref 69]) hq (z_at.mk 3 rfl rfl) (Or.inl ⟨rfl, rfl⟩) rfl rfl (by decide) (by decide) rfl (Nat.not_lt.mpr (Nat.le_of_ble_eq_true rfl)) rfl rfl (z_cat_le 2 rfl (by decide)) (z_lgl_le 3 rfl (by decide)) (by decide) (H.tg rfl) (by omega) (g_wa_valueOf_ok hx2 H h_24) rfl rfl ?_
        intro R_24 m_24 p_24 e_24 hR_24 H_24
        subst e_24
        obtain ⟨g_27, h⟩ := z_ifo_some h
        refine r_ls (pc' := 28) (L' := [(0, .ref 65), (1, .ref 41), (2, .int X2)]) H_24 hq (z_at.mk 1 rfl rfl) (show zAr 69 1 6 = true from rfl) hx2 g_27 hR_24 rfl rfl ?_
        intro m_27 H_27
        refine r_p hq 2 (pc' := 2) (L' := [(0, .ref 65), (1, .ref 41), (2, .int (X2 + (1 : Int32)))]) (st' := []) rfl ?_
        exact ih (tx_iadd hx2 (rfl : (1 : Int32).toInt = 1)) H_27 h
def g_wa_remember (σ : zS) : Option (Unit × zS) :=
  g_wa_remember_L2 zK 0 σ
set_option maxHeartbeats 4000000 in
theorem g_wa_remember_ok {xl : Nat} {xs : Nat → Int32} {σ : zS} {p : Nat} {m : zM} {o : Unit × zS} (H : zRep xl xs p m σ) (h : g_wa_remember σ = some o) : zGo xl xs (fun p' => p = p') 6 111 0 (z_can 111 0 (lv_args 0 [.ref 65, .ref 41])) [] m vV o.2 := by
  have hq : z_mth 111 = some z_r111 := rfl
  unfold g_wa_remember at h
  show zGo xl xs (fun p' => p = p') 6 111 0 [(0, .ref 65), (1, .ref 41)] [] m vV o.2
  refine r_p hq 2 (pc' := 2) (L' := [(0, .ref 65), (1, .ref 41), (2, .int ((0 : Int32)))]) (st' := []) rfl ?_
  exact g_wa_remember_L2_ok zK (rfl : (0 : Int32).toInt = 0) H h
def g_wa_compare_L42 (g2 : Int → zS → Option (Unit × zS)) (x2 : Int) (σ : zS) : Option (Unit × zS) :=
  g2 (w32 (x2 + 1)) σ
set_option maxHeartbeats 4000000 in
theorem g_wa_compare_L42_ok {xl : Nat} {xs : Nat → Int32} {g2 : Int → zS → Option (Unit × zS)} (hg2 : ∀ {X2 : Int32} {x2 : Int} {σ : zS} {p : Nat} {m : zM} {o : Unit × zS}, X2.toInt = x2 → zRep xl xs p m σ → g2 x2 σ = some o → zGo xl xs (fun p' => p = p') 6 112 2 [(0, .ref 65), (1, .ref 41), (2, .int X2)] [] m vV o.2) {X2 : Int32} {x2 : Int} (hx2 : X2.toInt = x2) {σ : zS} {p : Nat} {m : zM} {o : Unit × zS} (H : zRep xl xs p m σ) (h : g_wa_compare_L42 g2 x2 σ = some o) : zGo xl xs (fun p' => p = p') 6 112 42 [(0, .ref 65), (1, .ref 41), (2, .int X2)] [] m vV o.2 := by
  have hq : z_mth 112 = some z_r112 := rfl
  unfold g_wa_compare_L42 at h
  refine r_p hq 2 (pc' := 2) (L' := [(0, .ref 65), (1, .ref 41), (2, .int (X2 + (1 : Int32)))]) (st' := []) rfl ?_
  exact hg2 (tx_iadd hx2 (rfl : (1 : Int32).toInt = 1)) H h
def g_wa_compare_L2 : Nat → Int → zS → Option (Unit × zS)
  | 0, _, _ => none
  | n + 1, x2, σ =>
    let v_4 := σ 65 5
    if v_4 ≤ x2 then
      some ((), σ)
    else
      if 6 ≤ x2 then
        some ((), σ)
      else
        (g_wa_valueOf x2 σ).bind fun o_19 =>
        if 0 ≤ x2 ∧ x2 < 6 then
        let v_27 := o_19.2 69 x2
        if lCmp o_19.1 v_27 = 0 then
          g_wa_compare_L42 ((g_wa_compare_L2 n)) x2 o_19.2
        else
          if 0 ≤ x2 ∧ x2 < 6 then
          let v_38 := o_19.2 68 x2
          if 0 ≤ x2 ∧ x2 < 6 then
          let s_41 := zu o_19.2 68 x2 (w32 (v_38 + 1))
          g_wa_compare_L42 ((g_wa_compare_L2 n)) x2 s_41
          else none
          else none
        else none
set_option maxHeartbeats 4000000 in
theorem g_wa_compare_L2_ok {xl : Nat} {xs : Nat → Int32} : ∀ (n : Nat) {X2 : Int32} {x2 : Int} {σ : zS} {p : Nat} {m : zM} {o : Unit × zS}, X2.toInt = x2 → zRep xl xs p m σ → g_wa_compare_L2 n x2 σ = some o → zGo xl xs (fun p' => p = p') 6 112 2 [(0, .ref 65), (1, .ref 41), (2, .int X2)] [] m vV o.2
  | 0, _, _, _, _, _, _, _, _, h => by cases h
  | n + 1, X2, x2, σ, p, m, o, hx2, H, h => by
    have hq : z_mth 112 = some z_r112 := rfl
    have ih := fun {X2 : Int32} {x2 : Int} {σ : zS} {p : Nat} {m : zM} {o : Unit × zS} => g_wa_compare_L2_ok (xl := xl) (xs := xs) n (X2 := X2) (x2 := x2) (σ := σ) (p := p) (m := m) (o := o)
    unfold g_wa_compare_L2 at h
    refine r_p hq 2 (pc' := 4) (L' := [(0, .ref 65), (1, .ref 41), (2, .int X2)]) (st' := [.ref 65, .int X2]) rfl ?_
    refine r_gI (pc' := 7) (L' := [(0, .ref 65), (1, .ref 41), (2, .int X2)]) H hq (z_at.mk 3 rfl rfl) rfl rfl rfl rfl ?_
    intro V_4 hV_4
    rcases z_ite h with ⟨c_7, h⟩ | ⟨c_7, h⟩
    · refine r_t2 (pc' := 48) (L' := []) hq (z_at.mk 3 rfl rfl) rfl hx2 hV_4 c_7 rfl rfl ?_
      cases h
      exact r_rv hq (z_at.mk 1 rfl rfl) rfl rfl H
    · refine r_f2 (pc' := 10) (L' := [(0, .ref 65), (1, .ref 41), (2, .int X2)]) hq (z_at.mk 3 rfl rfl) rfl hx2 hV_4 c_7 rfl rfl ?_
      refine r_p hq 2 (pc' := 13) (L' := [(0, .ref 65), (1, .ref 41), (2, .int X2)]) (st' := [.int ((6 : Int32)), .int X2]) rfl ?_
      rcases z_ite h with ⟨c_13, h⟩ | ⟨c_13, h⟩
      · refine r_t2 (pc' := 48) (L' := []) hq (z_at.mk 3 rfl rfl) rfl hx2 (rfl : (6 : Int32).toInt = 6) c_13 rfl rfl ?_
        cases h
        exact r_rv hq (z_at.mk 1 rfl rfl) rfl rfl H
      · refine r_f2 (pc' := 16) (L' := [(0, .ref 65), (1, .ref 41), (2, .int X2)]) hq (z_at.mk 3 rfl rfl) rfl hx2 (rfl : (6 : Int32).toInt = 6) c_13 rfl rfl ?_
        refine r_p hq 3 (pc' := 19) (L' := [(0, .ref 65), (1, .ref 41), (2, .int X2)]) (st' := [.ref 41, .int X2, .ref 65]) rfl ?_
        obtain ⟨o_19, h_19, h⟩ := Option.bind_eq_some_iff.mp h
        refine r_cvL (pc' := 22) (L' := [(0, .ref 65), (1, .ref 41), (2, .int X2)]) (Ps := [.int X2, .ref 41]) (rest := []) hq (z_at.mk 3 rfl rfl) (Or.inl ⟨rfl, rfl⟩) rfl rfl (by decide) (by decide) rfl (Nat.not_lt.mpr (Nat.le_of_ble_eq_true rfl)) rfl rfl (z_cat_le 0 rfl (by decide)) (z_lgl_le 3 rfl (by decide)) (by decide) (H.tg rfl) (by omega) (g_wa_valueOf_ok hx2 H h_19) rfl rfl ?_
        intro R_19 m_19 p_19 e_19 hR_19 H_19
        subst e_19
        refine r_p hq 1 (pc' := 23) (L' := [(0, .ref 65), (1, .ref 41), (2, .int X2)]) (st' := [.ref 65, .long R_19]) rfl ?_
        refine r_gR (b := 69) (pc' := 26) (L' := [(0, .ref 65), (1, .ref 41), (2, .int X2)]) H_19 hq (z_at.mk 3 rfl rfl) rfl rfl rfl rfl ?_
        refine r_p hq 1 (pc' := 27) (L' := [(0, .ref 65), (1, .ref 41), (2, .int X2)]) (st' := [.int X2, .ref 69, .long R_19]) rfl ?_
        obtain ⟨g_27, h⟩ := z_ifo_some h
        refine r_la (pc' := 28) (L' := [(0, .ref 65), (1, .ref 41), (2, .int X2)]) H_19 hq (z_at.mk 1 rfl rfl) (show zAr 69 1 6 = true from rfl) hx2 g_27 rfl rfl ?_
        intro V_27 hV_27
        refine r_p hq 1 (pc' := 29) (L' := [(0, .ref 65), (1, .ref 41), (2, .int X2)]) (st' := [.int (lg_cmp R_19 V_27)]) rfl ?_
        rcases z_ite h with ⟨c_29, h⟩ | ⟨c_29, h⟩
        · refine r_t1 (pc' := 42) (L' := [(0, .ref 65), (1, .ref 41), (2, .int X2)]) hq (z_at.mk 3 rfl rfl) rfl (tx_lcmp hR_19 hV_27) c_29 rfl rfl ?_
          exact g_wa_compare_L42_ok ih hx2 H_19 h
        · refine r_f1 (pc' := 32) (L' := [(0, .ref 65), (1, .ref 41), (2, .int X2)]) hq (z_at.mk 3 rfl rfl) rfl (tx_lcmp hR_19 hV_27) c_29 rfl rfl ?_
          refine r_p hq 1 (pc' := 33) (L' := [(0, .ref 65), (1, .ref 41), (2, .int X2)]) (st' := [.ref 65]) rfl ?_
          refine r_gR (b := 68) (pc' := 36) (L' := [(0, .ref 65), (1, .ref 41), (2, .int X2)]) H_19 hq (z_at.mk 3 rfl rfl) rfl rfl rfl rfl ?_
          refine r_p hq 2 (pc' := 38) (L' := [(0, .ref 65), (1, .ref 41), (2, .int X2)]) (st' := [.int X2, .ref 68, .int X2, .ref 68]) rfl ?_
          obtain ⟨g_38, h⟩ := z_ifo_some h
          refine r_ia (pc' := 39) (L' := [(0, .ref 65), (1, .ref 41), (2, .int X2)]) H_19 hq (z_at.mk 1 rfl rfl) (show zAr 68 0 6 = true from rfl) hx2 g_38 rfl rfl ?_
          intro V_38 hV_38
          refine r_p hq 2 (pc' := 41) (L' := [(0, .ref 65), (1, .ref 41), (2, .int X2)]) (st' := [.int (V_38 + ((1 : Int32))), .int X2, .ref 68]) rfl ?_
          obtain ⟨g_41, h⟩ := z_ifo_some h
          refine r_is (pc' := 42) (L' := [(0, .ref 65), (1, .ref 41), (2, .int X2)]) H_19 hq (z_at.mk 1 rfl rfl) (show zAr 68 0 6 = true from rfl) hx2 g_41 (tx_iadd hV_38 (rfl : (1 : Int32).toInt = 1)) rfl rfl ?_
          intro m_41 H_41
          exact g_wa_compare_L42_ok ih hx2 H_41 h
def g_wa_compare (σ : zS) : Option (Unit × zS) :=
  g_wa_compare_L2 zK 0 σ
set_option maxHeartbeats 4000000 in
theorem g_wa_compare_ok {xl : Nat} {xs : Nat → Int32} {σ : zS} {p : Nat} {m : zM} {o : Unit × zS} (H : zRep xl xs p m σ) (h : g_wa_compare σ = some o) : zGo xl xs (fun p' => p = p') 6 112 0 (z_can 112 0 (lv_args 0 [.ref 65, .ref 41])) [] m vV o.2 := by
  have hq : z_mth 112 = some z_r112 := rfl
  unfold g_wa_compare at h
  show zGo xl xs (fun p' => p = p') 6 112 0 [(0, .ref 65), (1, .ref 41)] [] m vV o.2
  refine r_p hq 2 (pc' := 2) (L' := [(0, .ref 65), (1, .ref 41), (2, .int ((0 : Int32)))]) (st' := []) rfl ?_
  exact g_wa_compare_L2_ok zK (rfl : (0 : Int32).toInt = 0) H h
def g_c_afterWrites (σ : zS) : Option (Int × zS) :=
  (g_ca_trim 48 σ).bind fun o_7 =>
  (g_wa_compare o_7.2).bind fun o_24 =>
  let v_34 := o_24.2 48 2
  some (v_34, o_24.2)
set_option maxHeartbeats 4000000 in
theorem g_c_afterWrites_ok {xl : Nat} {xs : Nat → Int32} {σ : zS} {p : Nat} {m : zM} {o : Int × zS} (H : zRep xl xs p m σ) (h : g_c_afterWrites σ = some o) : zGo xl xs (fun p' => p = p') 7 117 0 (z_can 117 0 (lv_args 0 [.ref 39])) [] m (vI o.1) o.2 := by
  have hq : z_mth 117 = some z_r117 := rfl
  unfold g_c_afterWrites at h
  show zGo xl xs (fun p' => p = p') 7 117 0 [(0, .ref 39)] [] m (vI o.1) o.2
  refine r_p hq 1 (pc' := 1) (L' := [(0, .ref 39)]) (st' := [.ref 39]) rfl ?_
  refine r_gR (b := 40) (pc' := 4) (L' := [(0, .ref 39)]) H hq (z_at.mk 3 rfl rfl) rfl rfl rfl rfl ?_
  refine r_gR (b := 48) (pc' := 7) (L' := [(0, .ref 39)]) H hq (z_at.mk 3 rfl rfl) rfl rfl rfl rfl ?_
  obtain ⟨o_7, h_7, h⟩ := Option.bind_eq_some_iff.mp h
  refine r_cvV (pc' := 10) (L' := [(0, .ref 39)]) (Ps := []) (rest := []) hq (z_at.mk 3 rfl rfl) (Or.inl ⟨rfl, rfl⟩) rfl rfl (by decide) (by decide) rfl (Nat.not_lt.mpr (Nat.le_of_ble_eq_true rfl)) rfl rfl (z_cat_le 0 rfl (by decide)) (z_lgl_le 1 rfl (by decide)) (by decide) (H.tg rfl) (by omega) (g_ca_trim_ok rfl H h_7) rfl rfl ?_
  intro m_7 p_7 e_7 H_7
  subst e_7
  refine r_p hq 1 (pc' := 11) (L' := [(0, .ref 39)]) (st' := [.ref 39]) rfl ?_
  refine r_gR (b := 40) (pc' := 14) (L' := [(0, .ref 39)]) H_7 hq (z_at.mk 3 rfl rfl) rfl rfl rfl rfl ?_
  refine r_gR (b := 65) (pc' := 17) (L' := [(0, .ref 39)]) H_7 hq (z_at.mk 3 rfl rfl) rfl rfl rfl rfl ?_
  refine r_p hq 1 (pc' := 18) (L' := [(0, .ref 39)]) (st' := [.ref 39, .ref 65]) rfl ?_
  refine r_gR (b := 40) (pc' := 21) (L' := [(0, .ref 39)]) H_7 hq (z_at.mk 3 rfl rfl) rfl rfl rfl rfl ?_
  refine r_gR (b := 41) (pc' := 24) (L' := [(0, .ref 39)]) H_7 hq (z_at.mk 3 rfl rfl) rfl rfl rfl rfl ?_
  obtain ⟨o_24, h_24, h⟩ := Option.bind_eq_some_iff.mp h
  refine r_cvV (pc' := 27) (L' := [(0, .ref 39)]) (Ps := [.ref 41]) (rest := []) hq (z_at.mk 3 rfl rfl) (Or.inl ⟨rfl, rfl⟩) rfl rfl (by decide) (by decide) rfl (Nat.not_lt.mpr (Nat.le_of_ble_eq_true rfl)) rfl rfl (z_cat_le 0 rfl (by decide)) (z_lgl_le 2 rfl (by decide)) (by decide) (H_7.tg rfl) (by omega) (g_wa_compare_ok H_7 h_24) rfl rfl ?_
  intro m_24 p_24 e_24 H_24
  subst e_24
  refine r_p hq 1 (pc' := 28) (L' := [(0, .ref 39)]) (st' := [.ref 39]) rfl ?_
  refine r_gR (b := 40) (pc' := 31) (L' := [(0, .ref 39)]) H_24 hq (z_at.mk 3 rfl rfl) rfl rfl rfl rfl ?_
  refine r_gR (b := 48) (pc' := 34) (L' := [(0, .ref 39)]) H_24 hq (z_at.mk 3 rfl rfl) rfl rfl rfl rfl ?_
  refine r_gI (pc' := 37) (L' := [(0, .ref 39)]) H_24 hq (z_at.mk 3 rfl rfl) rfl rfl rfl rfl ?_
  intro V_34 hV_34
  cases h
  exact r_ri hq (z_at.mk 1 rfl rfl) rfl rfl hV_34 rfl H_24
def g_c_put_L90 (x1 : Int) (x2 : Int) (x3 : Int) (y4 : Int) (σ : zS) : Option (Int × zS) :=
  (g_so_bringIn x1 x2 x3 y4 σ).bind fun o_102 =>
  (g_b_of x2 x2 x3 x3 o_102.2).bind fun o_116 =>
  (g_ca_write 48 o_116.1 o_116.2).bind fun o_119 =>
  (g_c_afterWrites o_119.2).bind fun o_123 =>
  some (o_123.1, o_123.2)
set_option maxHeartbeats 4000000 in
theorem g_c_put_L90_ok {xl : Nat} {xs : Nat → Int32} {X1 : Int32} {x1 : Int} (hx1 : X1.toInt = x1) {X2 : Int32} {x2 : Int} (hx2 : X2.toInt = x2) {X3 : Int32} {x3 : Int} (hx3 : X3.toInt = x3) {Y4 : Int64} {y4 : Int} (hy4 : Y4.toInt = y4) {σ : zS} {p : Nat} {m : zM} {o : Int × zS} (H : zRep xl xs p m σ) (h : g_c_put_L90 x1 x2 x3 y4 σ = some o) : zGo xl xs (fun p' => p = p') 8 115 90 [(0, .ref 39), (1, .int X1), (2, .int X2), (3, .int X3), (4, .long Y4)] [] m (vI o.1) o.2 := by
  have hq : z_mth 115 = some z_r115 := rfl
  unfold g_c_put_L90 at h
  refine r_p hq 1 (pc' := 91) (L' := [(0, .ref 39), (1, .int X1), (2, .int X2), (3, .int X3), (4, .long Y4)]) (st' := [.ref 39]) rfl ?_
  refine r_gR (b := 40) (pc' := 94) (L' := [(0, .ref 39), (1, .int X1), (2, .int X2), (3, .int X3), (4, .long Y4)]) H hq (z_at.mk 3 rfl rfl) rfl rfl rfl rfl ?_
  refine r_gR (b := 41) (pc' := 97) (L' := [(0, .ref 39), (1, .int X1), (2, .int X2), (3, .int X3), (4, .long Y4)]) H hq (z_at.mk 3 rfl rfl) rfl rfl rfl rfl ?_
  refine r_p hq 4 (pc' := 102) (L' := [(0, .ref 39), (1, .int X1), (2, .int X2), (3, .int X3), (4, .long Y4)]) (st' := [.long Y4, .int X3, .int X2, .int X1, .ref 41]) rfl ?_
  obtain ⟨o_102, h_102, h⟩ := Option.bind_eq_some_iff.mp h
  refine r_cvV (pc' := 105) (L' := [(0, .ref 39), (1, .int X1), (2, .int X2), (3, .int X3), (4, .long Y4)]) (Ps := [.int X1, .int X2, .int X3, .long Y4]) (rest := []) hq (z_at.mk 3 rfl rfl) (Or.inl ⟨rfl, rfl⟩) rfl rfl (by decide) (by decide) rfl (Nat.not_lt.mpr (Nat.le_of_ble_eq_true rfl)) rfl rfl (z_cat_le 0 rfl (by decide)) (z_lgl_le 6 rfl (by decide)) (by decide) (H.tg rfl) (by omega) (g_so_bringIn_ok hx1 hx2 hx3 hy4 H h_102) rfl rfl ?_
  intro m_102 p_102 e_102 H_102
  subst e_102
  refine r_p hq 1 (pc' := 106) (L' := [(0, .ref 39), (1, .int X1), (2, .int X2), (3, .int X3), (4, .long Y4)]) (st' := [.ref 39]) rfl ?_
  refine r_gR (b := 40) (pc' := 109) (L' := [(0, .ref 39), (1, .int X1), (2, .int X2), (3, .int X3), (4, .long Y4)]) H_102 hq (z_at.mk 3 rfl rfl) rfl rfl rfl rfl ?_
  refine r_gR (b := 48) (pc' := 112) (L' := [(0, .ref 39), (1, .int X1), (2, .int X2), (3, .int X3), (4, .long Y4)]) H_102 hq (z_at.mk 3 rfl rfl) rfl rfl rfl rfl ?_
  refine r_p hq 4 (pc' := 116) (L' := [(0, .ref 39), (1, .int X1), (2, .int X2), (3, .int X3), (4, .long Y4)]) (st' := [.int X3, .int X3, .int X2, .int X2, .ref 48]) rfl ?_
  obtain ⟨o_116, h_116, h⟩ := Option.bind_eq_some_iff.mp h
  refine r_csI (pc' := 119) (L' := [(0, .ref 39), (1, .int X1), (2, .int X2), (3, .int X3), (4, .long Y4)]) (As := [.int X2, .int X2, .int X3, .int X3]) (rest := [.ref 48]) (j := 2) hq (z_at.mk 3 rfl rfl) (Or.inl ⟨rfl, rfl⟩) rfl rfl (by omega) (g_b_of_ok hx2 hx2 hx3 hx3 H_102 h_116) rfl rfl ?_
  intro R_116 m_116 p_116 e_116 hR_116 H_116
  subst e_116
  obtain ⟨o_119, h_119, h⟩ := Option.bind_eq_some_iff.mp h
  refine r_cvV (pc' := 122) (L' := [(0, .ref 39), (1, .int X1), (2, .int X2), (3, .int X3), (4, .long Y4)]) (Ps := [.int R_116]) (rest := []) hq (z_at.mk 3 rfl rfl) (Or.inl ⟨rfl, rfl⟩) rfl rfl (by decide) (by decide) rfl (Nat.not_lt.mpr (Nat.le_of_ble_eq_true rfl)) rfl rfl (z_cat_le 0 rfl (by decide)) (z_lgl_le 2 rfl (by decide)) (by decide) (H_116.tg rfl) (by omega) (g_ca_write_ok rfl hR_116 H_116 h_119) rfl rfl ?_
  intro m_119 p_119 e_119 H_119
  subst e_119
  refine r_p hq 1 (pc' := 123) (L' := [(0, .ref 39), (1, .int X1), (2, .int X2), (3, .int X3), (4, .long Y4)]) (st' := [.ref 39]) rfl ?_
  obtain ⟨o_123, h_123, h⟩ := Option.bind_eq_some_iff.mp h
  refine r_cvI (pc' := 126) (L' := [(0, .ref 39), (1, .int X1), (2, .int X2), (3, .int X3), (4, .long Y4)]) (Ps := []) (rest := []) hq (z_at.mk 3 rfl rfl) (Or.inl ⟨rfl, rfl⟩) rfl rfl (by decide) (by decide) rfl (Nat.not_lt.mpr (Nat.le_of_ble_eq_true rfl)) rfl rfl (z_cat_le 0 rfl (by decide)) (z_lgl_le 1 rfl (by decide)) (by decide) (H_119.tg rfl) (by omega) (g_c_afterWrites_ok H_119 h_123) rfl rfl ?_
  intro R_123 m_123 p_123 e_123 hR_123 H_123
  subst e_123
  cases h
  exact r_ri hq (z_at.mk 1 rfl rfl) rfl rfl hR_123 rfl H_123
def g_c_put (x1 : Int) (x2 : Int) (x3 : Int) (y4 : Int) (σ : zS) : Option (Int × zS) :=
  (g_so_isRow x1 σ).bind fun o_1 =>
  if o_1.1 ≠ 0 then
    (g_b_isPlace x2 x3 o_1.2).bind fun o_11 =>
    if o_11.1 = 0 then
      some (-2, o_11.2)
    else
      if lCmp y4 (-9223372036854775808) = 0 then
        some (-2, o_11.2)
      else
        if lCmp y4 (-9223372036854775807) ≠ 0 then
          (g_wa_remember o_11.2).bind fun o_52 =>
          (g_so_isIn x1 o_52.2).bind fun o_63 =>
          if o_63.1 = 0 then
            g_c_put_L90 x1 x2 x3 y4 o_63.2
          else
            (g_so_bringOut x1 o_63.2).bind fun o_84 =>
            (g_ca_write 48 o_84.1 o_84.2).bind fun o_87 =>
            g_c_put_L90 x1 x2 x3 y4 o_87.2
        else
          some (-2, o_11.2)
  else
    some (-1, o_1.2)
set_option maxHeartbeats 4000000 in
theorem g_c_put_ok {xl : Nat} {xs : Nat → Int32} {X1 : Int32} {x1 : Int} (hx1 : X1.toInt = x1) {X2 : Int32} {x2 : Int} (hx2 : X2.toInt = x2) {X3 : Int32} {x3 : Int} (hx3 : X3.toInt = x3) {Y4 : Int64} {y4 : Int} (hy4 : Y4.toInt = y4) {σ : zS} {p : Nat} {m : zM} {o : Int × zS} (H : zRep xl xs p m σ) (h : g_c_put x1 x2 x3 y4 σ = some o) : zGo xl xs (fun p' => p = p') 8 115 0 (z_can 115 0 (lv_args 0 [.ref 39, .int X1, .int X2, .int X3, .long Y4])) [] m (vI o.1) o.2 := by
  have hq : z_mth 115 = some z_r115 := rfl
  unfold g_c_put at h
  show zGo xl xs (fun p' => p = p') 8 115 0 [(0, .ref 39), (1, .int X1), (2, .int X2), (3, .int X3), (4, .long Y4)] [] m (vI o.1) o.2
  refine r_p hq 1 (pc' := 1) (L' := [(0, .ref 39), (1, .int X1), (2, .int X2), (3, .int X3), (4, .long Y4)]) (st' := [.int X1]) rfl ?_
  obtain ⟨o_1, h_1, h⟩ := Option.bind_eq_some_iff.mp h
  refine r_csI (pc' := 4) (L' := [(0, .ref 39), (1, .int X1), (2, .int X2), (3, .int X3), (4, .long Y4)]) (As := [.int X1]) (rest := []) (j := 80) hq (z_at.mk 3 rfl rfl) (Or.inl ⟨rfl, rfl⟩) rfl rfl (by omega) (g_so_isRow_ok hx1 H h_1) rfl rfl ?_
  intro R_1 m_1 p_1 e_1 hR_1 H_1
  subst e_1
  rcases z_ite h with ⟨c_4, h⟩ | ⟨c_4, h⟩
  · refine r_t1 (pc' := 9) (L' := [(0, .ref 39), (1, .int X1), (2, .int X2), (3, .int X3), (4, .long Y4)]) hq (z_at.mk 3 rfl rfl) rfl hR_1 c_4 rfl rfl ?_
    refine r_p hq 2 (pc' := 11) (L' := [(0, .ref 39), (1, .int X1), (2, .int X2), (3, .int X3), (4, .long Y4)]) (st' := [.int X3, .int X2]) rfl ?_
    obtain ⟨o_11, h_11, h⟩ := Option.bind_eq_some_iff.mp h
    refine r_csI (pc' := 14) (L' := [(0, .ref 39), (1, .int X1), (2, .int X2), (3, .int X3), (4, .long Y4)]) (As := [.int X2, .int X3]) (rest := []) (j := 0) hq (z_at.mk 3 rfl rfl) (Or.inl ⟨rfl, rfl⟩) rfl rfl (by omega) (g_b_isPlace_ok hx2 hx3 H_1 h_11) rfl rfl ?_
    intro R_11 m_11 p_11 e_11 hR_11 H_11
    subst e_11
    rcases z_ite h with ⟨c_14, h⟩ | ⟨c_14, h⟩
    · refine r_t1 (pc' := 35) (L' := []) hq (z_at.mk 3 rfl rfl) rfl hR_11 c_14 rfl rfl ?_
      refine r_p hq 1 (pc' := 37) (L' := []) (st' := [.int ((-2 : Int32))]) rfl ?_
      cases h
      exact r_ri hq (z_at.mk 1 rfl rfl) rfl rfl (rfl : (-2 : Int32).toInt = -2) rfl H_11
    · refine r_f1 (pc' := 17) (L' := [(0, .ref 39), (1, .int X1), (2, .int X2), (3, .int X3), (4, .long Y4)]) hq (z_at.mk 3 rfl rfl) rfl hR_11 c_14 rfl rfl ?_
      refine r_p hq 3 (pc' := 23) (L' := [(0, .ref 39), (1, .int X1), (2, .int X2), (3, .int X3), (4, .long Y4)]) (st' := [.int (lg_cmp Y4 ((-9223372036854775808 : Int64)))]) rfl ?_
      rcases z_ite h with ⟨c_23, h⟩ | ⟨c_23, h⟩
      · refine r_t1 (pc' := 35) (L' := []) hq (z_at.mk 3 rfl rfl) rfl (tx_lcmp hy4 (rfl : (-9223372036854775808 : Int64).toInt = -9223372036854775808)) c_23 rfl rfl ?_
        refine r_p hq 1 (pc' := 37) (L' := []) (st' := [.int ((-2 : Int32))]) rfl ?_
        cases h
        exact r_ri hq (z_at.mk 1 rfl rfl) rfl rfl (rfl : (-2 : Int32).toInt = -2) rfl H_11
      · refine r_f1 (pc' := 26) (L' := [(0, .ref 39), (1, .int X1), (2, .int X2), (3, .int X3), (4, .long Y4)]) hq (z_at.mk 3 rfl rfl) rfl (tx_lcmp hy4 (rfl : (-9223372036854775808 : Int64).toInt = -9223372036854775808)) c_23 rfl rfl ?_
        refine r_p hq 3 (pc' := 32) (L' := [(0, .ref 39), (1, .int X1), (2, .int X2), (3, .int X3), (4, .long Y4)]) (st' := [.int (lg_cmp Y4 ((-9223372036854775807 : Int64)))]) rfl ?_
        rcases z_ite h with ⟨c_32, h⟩ | ⟨c_32, h⟩
        · refine r_t1 (pc' := 38) (L' := [(0, .ref 39), (1, .int X1), (2, .int X2), (3, .int X3), (4, .long Y4)]) hq (z_at.mk 3 rfl rfl) rfl (tx_lcmp hy4 (rfl : (-9223372036854775807 : Int64).toInt = -9223372036854775807)) c_32 rfl rfl ?_
          refine r_p hq 1 (pc' := 39) (L' := [(0, .ref 39), (1, .int X1), (2, .int X2), (3, .int X3), (4, .long Y4)]) (st' := [.ref 39]) rfl ?_
          refine r_gR (b := 40) (pc' := 42) (L' := [(0, .ref 39), (1, .int X1), (2, .int X2), (3, .int X3), (4, .long Y4)]) H_11 hq (z_at.mk 3 rfl rfl) rfl rfl rfl rfl ?_
          refine r_gR (b := 65) (pc' := 45) (L' := [(0, .ref 39), (1, .int X1), (2, .int X2), (3, .int X3), (4, .long Y4)]) H_11 hq (z_at.mk 3 rfl rfl) rfl rfl rfl rfl ?_
          refine r_p hq 1 (pc' := 46) (L' := [(0, .ref 39), (1, .int X1), (2, .int X2), (3, .int X3), (4, .long Y4)]) (st' := [.ref 39, .ref 65]) rfl ?_
          refine r_gR (b := 40) (pc' := 49) (L' := [(0, .ref 39), (1, .int X1), (2, .int X2), (3, .int X3), (4, .long Y4)]) H_11 hq (z_at.mk 3 rfl rfl) rfl rfl rfl rfl ?_
          refine r_gR (b := 41) (pc' := 52) (L' := [(0, .ref 39), (1, .int X1), (2, .int X2), (3, .int X3), (4, .long Y4)]) H_11 hq (z_at.mk 3 rfl rfl) rfl rfl rfl rfl ?_
          obtain ⟨o_52, h_52, h⟩ := Option.bind_eq_some_iff.mp h
          refine r_cvV (pc' := 55) (L' := [(0, .ref 39), (1, .int X1), (2, .int X2), (3, .int X3), (4, .long Y4)]) (Ps := [.ref 41]) (rest := []) hq (z_at.mk 3 rfl rfl) (Or.inl ⟨rfl, rfl⟩) rfl rfl (by decide) (by decide) rfl (Nat.not_lt.mpr (Nat.le_of_ble_eq_true rfl)) rfl rfl (z_cat_le 0 rfl (by decide)) (z_lgl_le 2 rfl (by decide)) (by decide) (H_11.tg rfl) (by omega) (g_wa_remember_ok H_11 h_52) rfl rfl ?_
          intro m_52 p_52 e_52 H_52
          subst e_52
          refine r_p hq 1 (pc' := 56) (L' := [(0, .ref 39), (1, .int X1), (2, .int X2), (3, .int X3), (4, .long Y4)]) (st' := [.ref 39]) rfl ?_
          refine r_gR (b := 40) (pc' := 59) (L' := [(0, .ref 39), (1, .int X1), (2, .int X2), (3, .int X3), (4, .long Y4)]) H_52 hq (z_at.mk 3 rfl rfl) rfl rfl rfl rfl ?_
          refine r_gR (b := 41) (pc' := 62) (L' := [(0, .ref 39), (1, .int X1), (2, .int X2), (3, .int X3), (4, .long Y4)]) H_52 hq (z_at.mk 3 rfl rfl) rfl rfl rfl rfl ?_
          refine r_p hq 1 (pc' := 63) (L' := [(0, .ref 39), (1, .int X1), (2, .int X2), (3, .int X3), (4, .long Y4)]) (st' := [.int X1, .ref 41]) rfl ?_
          obtain ⟨o_63, h_63, h⟩ := Option.bind_eq_some_iff.mp h
          refine r_cvI (pc' := 66) (L' := [(0, .ref 39), (1, .int X1), (2, .int X2), (3, .int X3), (4, .long Y4)]) (Ps := [.int X1]) (rest := []) hq (z_at.mk 3 rfl rfl) (Or.inl ⟨rfl, rfl⟩) rfl rfl (by decide) (by decide) rfl (Nat.not_lt.mpr (Nat.le_of_ble_eq_true rfl)) rfl rfl (z_cat_le 0 rfl (by decide)) (z_lgl_le 2 rfl (by decide)) (by decide) (H_52.tg rfl) (by omega) (g_so_isIn_ok hx1 H_52 h_63) rfl rfl ?_
          intro R_63 m_63 p_63 e_63 hR_63 H_63
          subst e_63
          rcases z_ite h with ⟨c_66, h⟩ | ⟨c_66, h⟩
          · refine r_t1 (pc' := 90) (L' := [(0, .ref 39), (1, .int X1), (2, .int X2), (3, .int X3), (4, .long Y4)]) hq (z_at.mk 3 rfl rfl) rfl hR_63 c_66 rfl rfl ?_
            exact g_c_put_L90_ok hx1 hx2 hx3 hy4 H_63 h
          · refine r_f1 (pc' := 69) (L' := [(0, .ref 39), (1, .int X1), (2, .int X2), (3, .int X3), (4, .long Y4)]) hq (z_at.mk 3 rfl rfl) rfl hR_63 c_66 rfl rfl ?_
            refine r_p hq 1 (pc' := 70) (L' := [(0, .ref 39), (1, .int X1), (2, .int X2), (3, .int X3), (4, .long Y4)]) (st' := [.ref 39]) rfl ?_
            refine r_gR (b := 40) (pc' := 73) (L' := [(0, .ref 39), (1, .int X1), (2, .int X2), (3, .int X3), (4, .long Y4)]) H_63 hq (z_at.mk 3 rfl rfl) rfl rfl rfl rfl ?_
            refine r_gR (b := 48) (pc' := 76) (L' := [(0, .ref 39), (1, .int X1), (2, .int X2), (3, .int X3), (4, .long Y4)]) H_63 hq (z_at.mk 3 rfl rfl) rfl rfl rfl rfl ?_
            refine r_p hq 1 (pc' := 77) (L' := [(0, .ref 39), (1, .int X1), (2, .int X2), (3, .int X3), (4, .long Y4)]) (st' := [.ref 39, .ref 48]) rfl ?_
            refine r_gR (b := 40) (pc' := 80) (L' := [(0, .ref 39), (1, .int X1), (2, .int X2), (3, .int X3), (4, .long Y4)]) H_63 hq (z_at.mk 3 rfl rfl) rfl rfl rfl rfl ?_
            refine r_gR (b := 41) (pc' := 83) (L' := [(0, .ref 39), (1, .int X1), (2, .int X2), (3, .int X3), (4, .long Y4)]) H_63 hq (z_at.mk 3 rfl rfl) rfl rfl rfl rfl ?_
            refine r_p hq 1 (pc' := 84) (L' := [(0, .ref 39), (1, .int X1), (2, .int X2), (3, .int X3), (4, .long Y4)]) (st' := [.int X1, .ref 41, .ref 48]) rfl ?_
            obtain ⟨o_84, h_84, h⟩ := Option.bind_eq_some_iff.mp h
            refine r_cvI (pc' := 87) (L' := [(0, .ref 39), (1, .int X1), (2, .int X2), (3, .int X3), (4, .long Y4)]) (Ps := [.int X1]) (rest := [.ref 48]) hq (z_at.mk 3 rfl rfl) (Or.inl ⟨rfl, rfl⟩) rfl rfl (by decide) (by decide) rfl (Nat.not_lt.mpr (Nat.le_of_ble_eq_true rfl)) rfl rfl (z_cat_le 1 rfl (by decide)) (z_lgl_le 2 rfl (by decide)) (by decide) (H_63.tg rfl) (by omega) (g_so_bringOut_ok hx1 H_63 h_84) rfl rfl ?_
            intro R_84 m_84 p_84 e_84 hR_84 H_84
            subst e_84
            obtain ⟨o_87, h_87, h⟩ := Option.bind_eq_some_iff.mp h
            refine r_cvV (pc' := 90) (L' := [(0, .ref 39), (1, .int X1), (2, .int X2), (3, .int X3), (4, .long Y4)]) (Ps := [.int R_84]) (rest := []) hq (z_at.mk 3 rfl rfl) (Or.inl ⟨rfl, rfl⟩) rfl rfl (by decide) (by decide) rfl (Nat.not_lt.mpr (Nat.le_of_ble_eq_true rfl)) rfl rfl (z_cat_le 0 rfl (by decide)) (z_lgl_le 2 rfl (by decide)) (by decide) (H_84.tg rfl) (by omega) (g_ca_write_ok rfl hR_84 H_84 h_87) rfl rfl ?_
            intro m_87 p_87 e_87 H_87
            subst e_87
            exact g_c_put_L90_ok hx1 hx2 hx3 hy4 H_87 h
        · refine r_f1 (pc' := 35) (L' := []) hq (z_at.mk 3 rfl rfl) rfl (tx_lcmp hy4 (rfl : (-9223372036854775807 : Int64).toInt = -9223372036854775807)) c_32 rfl rfl ?_
          refine r_p hq 1 (pc' := 37) (L' := []) (st' := [.int ((-2 : Int32))]) rfl ?_
          cases h
          exact r_ri hq (z_at.mk 1 rfl rfl) rfl rfl (rfl : (-2 : Int32).toInt = -2) rfl H_11
  · refine r_f1 (pc' := 7) (L' := [(0, .ref 39), (1, .int X1), (2, .int X2), (3, .int X3), (4, .long Y4)]) hq (z_at.mk 3 rfl rfl) rfl hR_1 c_4 rfl rfl ?_
    refine r_p hq 1 (pc' := 8) (L' := [(0, .ref 39), (1, .int X1), (2, .int X2), (3, .int X3), (4, .long Y4)]) (st' := [.int ((-1 : Int32))]) rfl ?_
    cases h
    exact r_ri hq (z_at.mk 1 rfl rfl) rfl rfl (rfl : (-1 : Int32).toInt = -1) rfl H_1
def g_c_take (x1 : Int) (σ : zS) : Option (Int × zS) :=
  (g_so_isRow x1 σ).bind fun o_1 =>
  if o_1.1 ≠ 0 then
    (g_so_isIn x1 o_1.2).bind fun o_17 =>
    if o_17.1 ≠ 0 then
      (g_wa_remember o_17.2).bind fun o_40 =>
      (g_so_bringOut x1 o_40.2).bind fun o_58 =>
      (g_ca_write 48 o_58.1 o_58.2).bind fun o_61 =>
      (g_c_afterWrites o_61.2).bind fun o_65 =>
      some (o_65.1, o_65.2)
    else
      some (-3, o_17.2)
  else
    some (-1, o_1.2)
set_option maxHeartbeats 4000000 in
theorem g_c_take_ok {xl : Nat} {xs : Nat → Int32} {X1 : Int32} {x1 : Int} (hx1 : X1.toInt = x1) {σ : zS} {p : Nat} {m : zM} {o : Int × zS} (H : zRep xl xs p m σ) (h : g_c_take x1 σ = some o) : zGo xl xs (fun p' => p = p') 8 116 0 (z_can 116 0 (lv_args 0 [.ref 39, .int X1])) [] m (vI o.1) o.2 := by
  have hq : z_mth 116 = some z_r116 := rfl
  unfold g_c_take at h
  show zGo xl xs (fun p' => p = p') 8 116 0 [(0, .ref 39), (1, .int X1)] [] m (vI o.1) o.2
  refine r_p hq 1 (pc' := 1) (L' := [(0, .ref 39), (1, .int X1)]) (st' := [.int X1]) rfl ?_
  obtain ⟨o_1, h_1, h⟩ := Option.bind_eq_some_iff.mp h
  refine r_csI (pc' := 4) (L' := [(0, .ref 39), (1, .int X1)]) (As := [.int X1]) (rest := []) (j := 80) hq (z_at.mk 3 rfl rfl) (Or.inl ⟨rfl, rfl⟩) rfl rfl (by omega) (g_so_isRow_ok hx1 H h_1) rfl rfl ?_
  intro R_1 m_1 p_1 e_1 hR_1 H_1
  subst e_1
  rcases z_ite h with ⟨c_4, h⟩ | ⟨c_4, h⟩
  · refine r_t1 (pc' := 9) (L' := [(0, .ref 39), (1, .int X1)]) hq (z_at.mk 3 rfl rfl) rfl hR_1 c_4 rfl rfl ?_
    refine r_p hq 1 (pc' := 10) (L' := [(0, .ref 39), (1, .int X1)]) (st' := [.ref 39]) rfl ?_
    refine r_gR (b := 40) (pc' := 13) (L' := [(0, .ref 39), (1, .int X1)]) H_1 hq (z_at.mk 3 rfl rfl) rfl rfl rfl rfl ?_
    refine r_gR (b := 41) (pc' := 16) (L' := [(0, .ref 39), (1, .int X1)]) H_1 hq (z_at.mk 3 rfl rfl) rfl rfl rfl rfl ?_
    refine r_p hq 1 (pc' := 17) (L' := [(0, .ref 39), (1, .int X1)]) (st' := [.int X1, .ref 41]) rfl ?_
    obtain ⟨o_17, h_17, h⟩ := Option.bind_eq_some_iff.mp h
    refine r_cvI (pc' := 20) (L' := [(0, .ref 39), (1, .int X1)]) (Ps := [.int X1]) (rest := []) hq (z_at.mk 3 rfl rfl) (Or.inl ⟨rfl, rfl⟩) rfl rfl (by decide) (by decide) rfl (Nat.not_lt.mpr (Nat.le_of_ble_eq_true rfl)) rfl rfl (z_cat_le 0 rfl (by decide)) (z_lgl_le 2 rfl (by decide)) (by decide) (H_1.tg rfl) (by omega) (g_so_isIn_ok hx1 H_1 h_17) rfl rfl ?_
    intro R_17 m_17 p_17 e_17 hR_17 H_17
    subst e_17
    rcases z_ite h with ⟨c_20, h⟩ | ⟨c_20, h⟩
    · refine r_t1 (pc' := 26) (L' := [(0, .ref 39), (1, .int X1)]) hq (z_at.mk 3 rfl rfl) rfl hR_17 c_20 rfl rfl ?_
      refine r_p hq 1 (pc' := 27) (L' := [(0, .ref 39), (1, .int X1)]) (st' := [.ref 39]) rfl ?_
      refine r_gR (b := 40) (pc' := 30) (L' := [(0, .ref 39), (1, .int X1)]) H_17 hq (z_at.mk 3 rfl rfl) rfl rfl rfl rfl ?_
      refine r_gR (b := 65) (pc' := 33) (L' := [(0, .ref 39), (1, .int X1)]) H_17 hq (z_at.mk 3 rfl rfl) rfl rfl rfl rfl ?_
      refine r_p hq 1 (pc' := 34) (L' := [(0, .ref 39), (1, .int X1)]) (st' := [.ref 39, .ref 65]) rfl ?_
      refine r_gR (b := 40) (pc' := 37) (L' := [(0, .ref 39), (1, .int X1)]) H_17 hq (z_at.mk 3 rfl rfl) rfl rfl rfl rfl ?_
      refine r_gR (b := 41) (pc' := 40) (L' := [(0, .ref 39), (1, .int X1)]) H_17 hq (z_at.mk 3 rfl rfl) rfl rfl rfl rfl ?_
      obtain ⟨o_40, h_40, h⟩ := Option.bind_eq_some_iff.mp h
      refine r_cvV (pc' := 43) (L' := [(0, .ref 39), (1, .int X1)]) (Ps := [.ref 41]) (rest := []) hq (z_at.mk 3 rfl rfl) (Or.inl ⟨rfl, rfl⟩) rfl rfl (by decide) (by decide) rfl (Nat.not_lt.mpr (Nat.le_of_ble_eq_true rfl)) rfl rfl (z_cat_le 0 rfl (by decide)) (z_lgl_le 2 rfl (by decide)) (by decide) (H_17.tg rfl) (by omega) (g_wa_remember_ok H_17 h_40) rfl rfl ?_
      intro m_40 p_40 e_40 H_40
      subst e_40
      refine r_p hq 1 (pc' := 44) (L' := [(0, .ref 39), (1, .int X1)]) (st' := [.ref 39]) rfl ?_
      refine r_gR (b := 40) (pc' := 47) (L' := [(0, .ref 39), (1, .int X1)]) H_40 hq (z_at.mk 3 rfl rfl) rfl rfl rfl rfl ?_
      refine r_gR (b := 48) (pc' := 50) (L' := [(0, .ref 39), (1, .int X1)]) H_40 hq (z_at.mk 3 rfl rfl) rfl rfl rfl rfl ?_
      refine r_p hq 1 (pc' := 51) (L' := [(0, .ref 39), (1, .int X1)]) (st' := [.ref 39, .ref 48]) rfl ?_
      refine r_gR (b := 40) (pc' := 54) (L' := [(0, .ref 39), (1, .int X1)]) H_40 hq (z_at.mk 3 rfl rfl) rfl rfl rfl rfl ?_
      refine r_gR (b := 41) (pc' := 57) (L' := [(0, .ref 39), (1, .int X1)]) H_40 hq (z_at.mk 3 rfl rfl) rfl rfl rfl rfl ?_
      refine r_p hq 1 (pc' := 58) (L' := [(0, .ref 39), (1, .int X1)]) (st' := [.int X1, .ref 41, .ref 48]) rfl ?_
      obtain ⟨o_58, h_58, h⟩ := Option.bind_eq_some_iff.mp h
      refine r_cvI (pc' := 61) (L' := [(0, .ref 39), (1, .int X1)]) (Ps := [.int X1]) (rest := [.ref 48]) hq (z_at.mk 3 rfl rfl) (Or.inl ⟨rfl, rfl⟩) rfl rfl (by decide) (by decide) rfl (Nat.not_lt.mpr (Nat.le_of_ble_eq_true rfl)) rfl rfl (z_cat_le 1 rfl (by decide)) (z_lgl_le 2 rfl (by decide)) (by decide) (H_40.tg rfl) (by omega) (g_so_bringOut_ok hx1 H_40 h_58) rfl rfl ?_
      intro R_58 m_58 p_58 e_58 hR_58 H_58
      subst e_58
      obtain ⟨o_61, h_61, h⟩ := Option.bind_eq_some_iff.mp h
      refine r_cvV (pc' := 64) (L' := [(0, .ref 39), (1, .int X1)]) (Ps := [.int R_58]) (rest := []) hq (z_at.mk 3 rfl rfl) (Or.inl ⟨rfl, rfl⟩) rfl rfl (by decide) (by decide) rfl (Nat.not_lt.mpr (Nat.le_of_ble_eq_true rfl)) rfl rfl (z_cat_le 0 rfl (by decide)) (z_lgl_le 2 rfl (by decide)) (by decide) (H_58.tg rfl) (by omega) (g_ca_write_ok rfl hR_58 H_58 h_61) rfl rfl ?_
      intro m_61 p_61 e_61 H_61
      subst e_61
      refine r_p hq 1 (pc' := 65) (L' := [(0, .ref 39), (1, .int X1)]) (st' := [.ref 39]) rfl ?_
      obtain ⟨o_65, h_65, h⟩ := Option.bind_eq_some_iff.mp h
      refine r_cvI (pc' := 68) (L' := [(0, .ref 39), (1, .int X1)]) (Ps := []) (rest := []) hq (z_at.mk 3 rfl rfl) (Or.inl ⟨rfl, rfl⟩) rfl rfl (by decide) (by decide) rfl (Nat.not_lt.mpr (Nat.le_of_ble_eq_true rfl)) rfl rfl (z_cat_le 0 rfl (by decide)) (z_lgl_le 1 rfl (by decide)) (by decide) (H_61.tg rfl) (by omega) (g_c_afterWrites_ok H_61 h_65) rfl rfl ?_
      intro R_65 m_65 p_65 e_65 hR_65 H_65
      subst e_65
      cases h
      exact r_ri hq (z_at.mk 1 rfl rfl) rfl rfl hR_65 rfl H_65
    · refine r_f1 (pc' := 23) (L' := [(0, .ref 39), (1, .int X1)]) hq (z_at.mk 3 rfl rfl) rfl hR_17 c_20 rfl rfl ?_
      refine r_p hq 1 (pc' := 25) (L' := [(0, .ref 39), (1, .int X1)]) (st' := [.int ((-3 : Int32))]) rfl ?_
      cases h
      exact r_ri hq (z_at.mk 1 rfl rfl) rfl rfl (rfl : (-3 : Int32).toInt = -3) rfl H_17
  · refine r_f1 (pc' := 7) (L' := [(0, .ref 39), (1, .int X1)]) hq (z_at.mk 3 rfl rfl) rfl hR_1 c_4 rfl rfl ?_
    refine r_p hq 1 (pc' := 8) (L' := [(0, .ref 39), (1, .int X1)]) (st' := [.int ((-1 : Int32))]) rfl ?_
    cases h
    exact r_ri hq (z_at.mk 1 rfl rfl) rfl rfl (rfl : (-1 : Int32).toInt = -1) rfl H_1
def g_c_row (x1 : Int) (x2 : Int) (σ : zS) : Option (Int × zS) :=
  (g_so_isRow x1 σ).bind fun o_1 =>
  if o_1.1 = 0 then
    some (-1, o_1.2)
  else
    if x2 < 0 then
      some (-1, o_1.2)
    else
      if x2 ≤ 1 then
        (g_so_isIn x1 o_1.2).bind fun o_26 =>
        if o_26.1 ≠ 0 then
          if x2 ≠ 0 then
            if 0 ≤ x1 ∧ x1 < 60 then
            let v_65 := o_26.2 43 x1
            some (v_65, o_26.2)
            else none
          else
            if 0 ≤ x1 ∧ x1 < 60 then
            let v_50 := o_26.2 42 x1
            some (v_50, o_26.2)
            else none
        else
          some (-3, o_26.2)
      else
        some (-1, o_1.2)
set_option maxHeartbeats 4000000 in
theorem g_c_row_ok {xl : Nat} {xs : Nat → Int32} {X1 : Int32} {x1 : Int} (hx1 : X1.toInt = x1) {X2 : Int32} {x2 : Int} (hx2 : X2.toInt = x2) {σ : zS} {p : Nat} {m : zM} {o : Int × zS} (H : zRep xl xs p m σ) (h : g_c_row x1 x2 σ = some o) : zGo xl xs (fun p' => p = p') 3 118 0 (z_can 118 0 (lv_args 0 [.ref 39, .int X1, .int X2])) [] m (vI o.1) o.2 := by
  have hq : z_mth 118 = some z_r118 := rfl
  unfold g_c_row at h
  show zGo xl xs (fun p' => p = p') 3 118 0 [(0, .ref 39), (1, .int X1), (2, .int X2)] [] m (vI o.1) o.2
  refine r_p hq 1 (pc' := 1) (L' := [(0, .ref 39), (1, .int X1), (2, .int X2)]) (st' := [.int X1]) rfl ?_
  obtain ⟨o_1, h_1, h⟩ := Option.bind_eq_some_iff.mp h
  refine r_csI (pc' := 4) (L' := [(0, .ref 39), (1, .int X1), (2, .int X2)]) (As := [.int X1]) (rest := []) (j := 80) hq (z_at.mk 3 rfl rfl) (Or.inl ⟨rfl, rfl⟩) rfl rfl (by omega) (g_so_isRow_ok hx1 H h_1) rfl rfl ?_
  intro R_1 m_1 p_1 e_1 hR_1 H_1
  subst e_1
  rcases z_ite h with ⟨c_4, h⟩ | ⟨c_4, h⟩
  · refine r_t1 (pc' := 16) (L' := []) hq (z_at.mk 3 rfl rfl) rfl hR_1 c_4 rfl rfl ?_
    refine r_p hq 1 (pc' := 17) (L' := []) (st' := [.int ((-1 : Int32))]) rfl ?_
    cases h
    exact r_ri hq (z_at.mk 1 rfl rfl) rfl rfl (rfl : (-1 : Int32).toInt = -1) rfl H_1
  · refine r_f1 (pc' := 7) (L' := [(0, .ref 39), (1, .int X1), (2, .int X2)]) hq (z_at.mk 3 rfl rfl) rfl hR_1 c_4 rfl rfl ?_
    refine r_p hq 1 (pc' := 8) (L' := [(0, .ref 39), (1, .int X1), (2, .int X2)]) (st' := [.int X2]) rfl ?_
    rcases z_ite h with ⟨c_8, h⟩ | ⟨c_8, h⟩
    · refine r_t1 (pc' := 16) (L' := []) hq (z_at.mk 3 rfl rfl) rfl hx2 c_8 rfl rfl ?_
      refine r_p hq 1 (pc' := 17) (L' := []) (st' := [.int ((-1 : Int32))]) rfl ?_
      cases h
      exact r_ri hq (z_at.mk 1 rfl rfl) rfl rfl (rfl : (-1 : Int32).toInt = -1) rfl H_1
    · refine r_f1 (pc' := 11) (L' := [(0, .ref 39), (1, .int X1), (2, .int X2)]) hq (z_at.mk 3 rfl rfl) rfl hx2 c_8 rfl rfl ?_
      refine r_p hq 2 (pc' := 13) (L' := [(0, .ref 39), (1, .int X1), (2, .int X2)]) (st' := [.int ((1 : Int32)), .int X2]) rfl ?_
      rcases z_ite h with ⟨c_13, h⟩ | ⟨c_13, h⟩
      · refine r_t2 (pc' := 18) (L' := [(0, .ref 39), (1, .int X1), (2, .int X2)]) hq (z_at.mk 3 rfl rfl) rfl hx2 (rfl : (1 : Int32).toInt = 1) c_13 rfl rfl ?_
        refine r_p hq 1 (pc' := 19) (L' := [(0, .ref 39), (1, .int X1), (2, .int X2)]) (st' := [.ref 39]) rfl ?_
        refine r_gR (b := 40) (pc' := 22) (L' := [(0, .ref 39), (1, .int X1), (2, .int X2)]) H_1 hq (z_at.mk 3 rfl rfl) rfl rfl rfl rfl ?_
        refine r_gR (b := 41) (pc' := 25) (L' := [(0, .ref 39), (1, .int X1), (2, .int X2)]) H_1 hq (z_at.mk 3 rfl rfl) rfl rfl rfl rfl ?_
        refine r_p hq 1 (pc' := 26) (L' := [(0, .ref 39), (1, .int X1), (2, .int X2)]) (st' := [.int X1, .ref 41]) rfl ?_
        obtain ⟨o_26, h_26, h⟩ := Option.bind_eq_some_iff.mp h
        refine r_cvI (pc' := 29) (L' := [(0, .ref 39), (1, .int X1), (2, .int X2)]) (Ps := [.int X1]) (rest := []) hq (z_at.mk 3 rfl rfl) (Or.inl ⟨rfl, rfl⟩) rfl rfl (by decide) (by decide) rfl (Nat.not_lt.mpr (Nat.le_of_ble_eq_true rfl)) rfl rfl (z_cat_le 0 rfl (by decide)) (z_lgl_le 2 rfl (by decide)) (by decide) (H_1.tg rfl) (by omega) (g_so_isIn_ok hx1 H_1 h_26) rfl rfl ?_
        intro R_26 m_26 p_26 e_26 hR_26 H_26
        subst e_26
        rcases z_ite h with ⟨c_29, h⟩ | ⟨c_29, h⟩
        · refine r_t1 (pc' := 35) (L' := [(0, .ref 39), (1, .int X1), (2, .int X2)]) hq (z_at.mk 3 rfl rfl) rfl hR_26 c_29 rfl rfl ?_
          refine r_p hq 1 (pc' := 36) (L' := [(0, .ref 39), (1, .int X1), (2, .int X2)]) (st' := [.int X2]) rfl ?_
          rcases z_ite h with ⟨c_36, h⟩ | ⟨c_36, h⟩
          · refine r_t1 (pc' := 54) (L' := [(0, .ref 39), (1, .int X1), (2, .int X2)]) hq (z_at.mk 3 rfl rfl) rfl hx2 c_36 rfl rfl ?_
            refine r_p hq 1 (pc' := 55) (L' := [(0, .ref 39), (1, .int X1), (2, .int X2)]) (st' := [.ref 39]) rfl ?_
            refine r_gR (b := 40) (pc' := 58) (L' := [(0, .ref 39), (1, .int X1), (2, .int X2)]) H_26 hq (z_at.mk 3 rfl rfl) rfl rfl rfl rfl ?_
            refine r_gR (b := 41) (pc' := 61) (L' := [(0, .ref 39), (1, .int X1), (2, .int X2)]) H_26 hq (z_at.mk 3 rfl rfl) rfl rfl rfl rfl ?_
            refine r_gR (b := 43) (pc' := 64) (L' := [(0, .ref 39), (1, .int X1), (2, .int X2)]) H_26 hq (z_at.mk 3 rfl rfl) rfl rfl rfl rfl ?_
            refine r_p hq 1 (pc' := 65) (L' := [(0, .ref 39), (1, .int X1), (2, .int X2)]) (st' := [.int X1, .ref 43]) rfl ?_
            obtain ⟨g_65, h⟩ := z_ifo_some h
            refine r_ia (pc' := 66) (L' := []) H_26 hq (z_at.mk 1 rfl rfl) (show zAr 43 0 60 = true from rfl) hx1 g_65 rfl rfl ?_
            intro V_65 hV_65
            cases h
            exact r_ri hq (z_at.mk 1 rfl rfl) rfl rfl hV_65 rfl H_26
          · refine r_f1 (pc' := 39) (L' := [(0, .ref 39), (1, .int X1), (2, .int X2)]) hq (z_at.mk 3 rfl rfl) rfl hx2 c_36 rfl rfl ?_
            refine r_p hq 1 (pc' := 40) (L' := [(0, .ref 39), (1, .int X1), (2, .int X2)]) (st' := [.ref 39]) rfl ?_
            refine r_gR (b := 40) (pc' := 43) (L' := [(0, .ref 39), (1, .int X1), (2, .int X2)]) H_26 hq (z_at.mk 3 rfl rfl) rfl rfl rfl rfl ?_
            refine r_gR (b := 41) (pc' := 46) (L' := [(0, .ref 39), (1, .int X1), (2, .int X2)]) H_26 hq (z_at.mk 3 rfl rfl) rfl rfl rfl rfl ?_
            refine r_gR (b := 42) (pc' := 49) (L' := [(0, .ref 39), (1, .int X1), (2, .int X2)]) H_26 hq (z_at.mk 3 rfl rfl) rfl rfl rfl rfl ?_
            refine r_p hq 1 (pc' := 50) (L' := [(0, .ref 39), (1, .int X1), (2, .int X2)]) (st' := [.int X1, .ref 42]) rfl ?_
            obtain ⟨g_50, h⟩ := z_ifo_some h
            refine r_ia (pc' := 51) (L' := [(0, .ref 39), (1, .int X1), (2, .int X2)]) H_26 hq (z_at.mk 1 rfl rfl) (show zAr 42 0 60 = true from rfl) hx1 g_50 rfl rfl ?_
            intro V_50 hV_50
            refine r_p hq 1 (pc' := 66) (L' := []) (st' := [.int V_50]) rfl ?_
            cases h
            exact r_ri hq (z_at.mk 1 rfl rfl) rfl rfl hV_50 rfl H_26
        · refine r_f1 (pc' := 32) (L' := [(0, .ref 39), (1, .int X1), (2, .int X2)]) hq (z_at.mk 3 rfl rfl) rfl hR_26 c_29 rfl rfl ?_
          refine r_p hq 1 (pc' := 34) (L' := [(0, .ref 39), (1, .int X1), (2, .int X2)]) (st' := [.int ((-3 : Int32))]) rfl ?_
          cases h
          exact r_ri hq (z_at.mk 1 rfl rfl) rfl rfl (rfl : (-3 : Int32).toInt = -3) rfl H_26
      · refine r_f2 (pc' := 16) (L' := []) hq (z_at.mk 3 rfl rfl) rfl hx2 (rfl : (1 : Int32).toInt = 1) c_13 rfl rfl ?_
        refine r_p hq 1 (pc' := 17) (L' := []) (st' := [.int ((-1 : Int32))]) rfl ?_
        cases h
        exact r_ri hq (z_at.mk 1 rfl rfl) rfl rfl (rfl : (-1 : Int32).toInt = -1) rfl H_1
def g_c_worth (x1 : Int) (σ : zS) : Option (Int × zS) :=
  (g_so_isIn x1 σ).bind fun o_8 =>
  if o_8.1 = 0 then
    some (-9223372036854775808, o_8.2)
  else
    if 0 ≤ x1 ∧ x1 < 60 then
    let v_25 := o_8.2 44 x1
    some (v_25, o_8.2)
    else none
set_option maxHeartbeats 4000000 in
theorem g_c_worth_ok {xl : Nat} {xs : Nat → Int32} {X1 : Int32} {x1 : Int} (hx1 : X1.toInt = x1) {σ : zS} {p : Nat} {m : zM} {o : Int × zS} (H : zRep xl xs p m σ) (h : g_c_worth x1 σ = some o) : zGo xl xs (fun p' => p = p') 3 119 0 (z_can 119 0 (lv_args 0 [.ref 39, .int X1])) [] m (vL o.1) o.2 := by
  have hq : z_mth 119 = some z_r119 := rfl
  unfold g_c_worth at h
  show zGo xl xs (fun p' => p = p') 3 119 0 [(0, .ref 39), (1, .int X1)] [] m (vL o.1) o.2
  refine r_p hq 1 (pc' := 1) (L' := [(0, .ref 39), (1, .int X1)]) (st' := [.ref 39]) rfl ?_
  refine r_gR (b := 40) (pc' := 4) (L' := [(0, .ref 39), (1, .int X1)]) H hq (z_at.mk 3 rfl rfl) rfl rfl rfl rfl ?_
  refine r_gR (b := 41) (pc' := 7) (L' := [(0, .ref 39), (1, .int X1)]) H hq (z_at.mk 3 rfl rfl) rfl rfl rfl rfl ?_
  refine r_p hq 1 (pc' := 8) (L' := [(0, .ref 39), (1, .int X1)]) (st' := [.int X1, .ref 41]) rfl ?_
  obtain ⟨o_8, h_8, h⟩ := Option.bind_eq_some_iff.mp h
  refine r_cvI (pc' := 11) (L' := [(0, .ref 39), (1, .int X1)]) (Ps := [.int X1]) (rest := []) hq (z_at.mk 3 rfl rfl) (Or.inl ⟨rfl, rfl⟩) rfl rfl (by decide) (by decide) rfl (Nat.not_lt.mpr (Nat.le_of_ble_eq_true rfl)) rfl rfl (z_cat_le 0 rfl (by decide)) (z_lgl_le 2 rfl (by decide)) (by decide) (H.tg rfl) (by omega) (g_so_isIn_ok hx1 H h_8) rfl rfl ?_
  intro R_8 m_8 p_8 e_8 hR_8 H_8
  subst e_8
  rcases z_ite h with ⟨c_11, h⟩ | ⟨c_11, h⟩
  · refine r_t1 (pc' := 29) (L' := [(0, .ref 39), (1, .int X1)]) hq (z_at.mk 3 rfl rfl) rfl hR_8 c_11 rfl rfl ?_
    refine r_p hq 1 (pc' := 32) (L' := []) (st' := [.long ((-9223372036854775808 : Int64))]) rfl ?_
    cases h
    exact r_rl hq (z_at.mk 1 rfl rfl) rfl (rfl : (-9223372036854775808 : Int64).toInt = -9223372036854775808) rfl H_8
  · refine r_f1 (pc' := 14) (L' := [(0, .ref 39), (1, .int X1)]) hq (z_at.mk 3 rfl rfl) rfl hR_8 c_11 rfl rfl ?_
    refine r_p hq 1 (pc' := 15) (L' := [(0, .ref 39), (1, .int X1)]) (st' := [.ref 39]) rfl ?_
    refine r_gR (b := 40) (pc' := 18) (L' := [(0, .ref 39), (1, .int X1)]) H_8 hq (z_at.mk 3 rfl rfl) rfl rfl rfl rfl ?_
    refine r_gR (b := 41) (pc' := 21) (L' := [(0, .ref 39), (1, .int X1)]) H_8 hq (z_at.mk 3 rfl rfl) rfl rfl rfl rfl ?_
    refine r_gR (b := 44) (pc' := 24) (L' := [(0, .ref 39), (1, .int X1)]) H_8 hq (z_at.mk 3 rfl rfl) rfl rfl rfl rfl ?_
    refine r_p hq 1 (pc' := 25) (L' := [(0, .ref 39), (1, .int X1)]) (st' := [.int X1, .ref 44]) rfl ?_
    obtain ⟨g_25, h⟩ := z_ifo_some h
    refine r_la (pc' := 26) (L' := [(0, .ref 39), (1, .int X1)]) H_8 hq (z_at.mk 1 rfl rfl) (show zAr 44 1 60 = true from rfl) hx1 g_25 rfl rfl ?_
    intro V_25 hV_25
    refine r_p hq 1 (pc' := 32) (L' := []) (st' := [.long V_25]) rfl ?_
    cases h
    exact r_rl hq (z_at.mk 1 rfl rfl) rfl hV_25 rfl H_8
def g_c_feed (x1 : Int) (σ : zS) : Option (Int × zS) :=
  if x1 < 1 then
    some (-2, σ)
  else
    if x1 ≤ 127 then
      (g_ta_append x1 σ).bind fun o_19 =>
      if o_19.1 = 0 then
        some (-4, o_19.2)
      else
        let v_29 := o_19.2 120 1
        some (v_29, o_19.2)
    else
      some (-2, σ)
set_option maxHeartbeats 4000000 in
theorem g_c_feed_ok {xl : Nat} {xs : Nat → Int32} {X1 : Int32} {x1 : Int} (hx1 : X1.toInt = x1) {σ : zS} {p : Nat} {m : zM} {o : Int × zS} (H : zRep xl xs p m σ) (h : g_c_feed x1 σ = some o) : zGo xl xs (fun p' => p = p') 2 120 0 (z_can 120 0 (lv_args 0 [.ref 39, .int X1])) [] m (vI o.1) o.2 := by
  have hq : z_mth 120 = some z_r120 := rfl
  unfold g_c_feed at h
  show zGo xl xs (fun p' => p = p') 2 120 0 [(0, .ref 39), (1, .int X1)] [] m (vI o.1) o.2
  refine r_p hq 2 (pc' := 2) (L' := [(0, .ref 39), (1, .int X1)]) (st' := [.int ((1 : Int32)), .int X1]) rfl ?_
  rcases z_ite h with ⟨c_2, h⟩ | ⟨c_2, h⟩
  · refine r_t2 (pc' := 11) (L' := []) hq (z_at.mk 3 rfl rfl) rfl hx1 (rfl : (1 : Int32).toInt = 1) c_2 rfl rfl ?_
    refine r_p hq 1 (pc' := 13) (L' := []) (st' := [.int ((-2 : Int32))]) rfl ?_
    cases h
    exact r_ri hq (z_at.mk 1 rfl rfl) rfl rfl (rfl : (-2 : Int32).toInt = -2) rfl H
  · refine r_f2 (pc' := 5) (L' := [(0, .ref 39), (1, .int X1)]) hq (z_at.mk 3 rfl rfl) rfl hx1 (rfl : (1 : Int32).toInt = 1) c_2 rfl rfl ?_
    refine r_p hq 2 (pc' := 8) (L' := [(0, .ref 39), (1, .int X1)]) (st' := [.int ((127 : Int32)), .int X1]) rfl ?_
    rcases z_ite h with ⟨c_8, h⟩ | ⟨c_8, h⟩
    · refine r_t2 (pc' := 14) (L' := [(0, .ref 39), (1, .int X1)]) hq (z_at.mk 3 rfl rfl) rfl hx1 (rfl : (127 : Int32).toInt = 127) c_8 rfl rfl ?_
      refine r_p hq 1 (pc' := 15) (L' := [(0, .ref 39), (1, .int X1)]) (st' := [.ref 39]) rfl ?_
      refine r_gR (b := 120) (pc' := 18) (L' := [(0, .ref 39), (1, .int X1)]) H hq (z_at.mk 3 rfl rfl) rfl rfl rfl rfl ?_
      refine r_p hq 1 (pc' := 19) (L' := [(0, .ref 39), (1, .int X1)]) (st' := [.int X1, .ref 120]) rfl ?_
      obtain ⟨o_19, h_19, h⟩ := Option.bind_eq_some_iff.mp h
      refine r_cvI (pc' := 22) (L' := [(0, .ref 39), (1, .int X1)]) (Ps := [.int X1]) (rest := []) hq (z_at.mk 3 rfl rfl) (Or.inl ⟨rfl, rfl⟩) rfl rfl (by decide) (by decide) rfl (Nat.not_lt.mpr (Nat.le_of_ble_eq_true rfl)) rfl rfl (z_cat_le 0 rfl (by decide)) (z_lgl_le 2 rfl (by decide)) (by decide) (H.tg rfl) (by omega) (g_ta_append_ok hx1 H h_19) rfl rfl ?_
      intro R_19 m_19 p_19 e_19 hR_19 H_19
      subst e_19
      rcases z_ite h with ⟨c_22, h⟩ | ⟨c_22, h⟩
      · refine r_t1 (pc' := 35) (L' := [(0, .ref 39), (1, .int X1)]) hq (z_at.mk 3 rfl rfl) rfl hR_19 c_22 rfl rfl ?_
        refine r_p hq 1 (pc' := 37) (L' := []) (st' := [.int ((-4 : Int32))]) rfl ?_
        cases h
        exact r_ri hq (z_at.mk 1 rfl rfl) rfl rfl (rfl : (-4 : Int32).toInt = -4) rfl H_19
      · refine r_f1 (pc' := 25) (L' := [(0, .ref 39), (1, .int X1)]) hq (z_at.mk 3 rfl rfl) rfl hR_19 c_22 rfl rfl ?_
        refine r_p hq 1 (pc' := 26) (L' := [(0, .ref 39), (1, .int X1)]) (st' := [.ref 39]) rfl ?_
        refine r_gR (b := 120) (pc' := 29) (L' := [(0, .ref 39), (1, .int X1)]) H_19 hq (z_at.mk 3 rfl rfl) rfl rfl rfl rfl ?_
        refine r_gI (pc' := 32) (L' := [(0, .ref 39), (1, .int X1)]) H_19 hq (z_at.mk 3 rfl rfl) rfl rfl rfl rfl ?_
        intro V_29 hV_29
        refine r_p hq 1 (pc' := 37) (L' := []) (st' := [.int V_29]) rfl ?_
        cases h
        exact r_ri hq (z_at.mk 1 rfl rfl) rfl rfl hV_29 rfl H_19
    · refine r_f2 (pc' := 11) (L' := []) hq (z_at.mk 3 rfl rfl) rfl hx1 (rfl : (127 : Int32).toInt = 127) c_8 rfl rfl ?_
      refine r_p hq 1 (pc' := 13) (L' := []) (st' := [.int ((-2 : Int32))]) rfl ?_
      cases h
      exact r_ri hq (z_at.mk 1 rfl rfl) rfl rfl (rfl : (-2 : Int32).toInt = -2) rfl H
def g_c_clear (σ : zS) : Option (Int × zS) :=
  let v_4 := σ 120 1
  let s_13 := zu σ 120 1 0
  some (v_4, s_13)
set_option maxHeartbeats 4000000 in
theorem g_c_clear_ok {xl : Nat} {xs : Nat → Int32} {σ : zS} {p : Nat} {m : zM} {o : Int × zS} (H : zRep xl xs p m σ) (h : g_c_clear σ = some o) : zGo xl xs (fun p' => p = p') 1 121 0 (z_can 121 0 (lv_args 0 [.ref 39])) [] m (vI o.1) o.2 := by
  have hq : z_mth 121 = some z_r121 := rfl
  unfold g_c_clear at h
  show zGo xl xs (fun p' => p = p') 1 121 0 [(0, .ref 39)] [] m (vI o.1) o.2
  refine r_p hq 1 (pc' := 1) (L' := [(0, .ref 39)]) (st' := [.ref 39]) rfl ?_
  refine r_gR (b := 120) (pc' := 4) (L' := [(0, .ref 39)]) H hq (z_at.mk 3 rfl rfl) rfl rfl rfl rfl ?_
  refine r_gI (pc' := 7) (L' := [(0, .ref 39)]) H hq (z_at.mk 3 rfl rfl) rfl rfl rfl rfl ?_
  intro V_4 hV_4
  refine r_p hq 2 (pc' := 9) (L' := [(1, .int V_4), (0, .ref 39)]) (st' := [.ref 39]) rfl ?_
  refine r_gR (b := 120) (pc' := 12) (L' := [(1, .int V_4), (0, .ref 39)]) H hq (z_at.mk 3 rfl rfl) rfl rfl rfl rfl ?_
  refine r_p hq 1 (pc' := 13) (L' := [(1, .int V_4), (0, .ref 39)]) (st' := [.int ((0 : Int32)), .ref 120]) rfl ?_
  refine r_pI (X := (0 : Int32)) (pc' := 16) (L' := [(1, .int V_4), (0, .ref 39)]) H hq (z_at.mk 3 rfl rfl) rfl rfl (rfl : (0 : Int32).toInt = 0) (by decide) rfl rfl rfl rfl ?_
  intro m_13 H_13
  refine r_p hq 1 (pc' := 17) (L' := [(1, .int V_4), (0, .ref 39)]) (st' := [.int V_4]) rfl ?_
  cases h
  exact r_ri hq (z_at.mk 1 rfl rfl) rfl rfl hV_4 rfl H_13
def g_c_settings_L73 (x1 : Int) (σ : zS) : Option (Int × zS) :=
  (g_ta_end x1 σ).bind fun o_78 =>
  some (o_78.1, o_78.2)
set_option maxHeartbeats 4000000 in
theorem g_c_settings_L73_ok {xl : Nat} {xs : Nat → Int32} {X1 : Int32} {x1 : Int} (hx1 : X1.toInt = x1) {σ : zS} {p : Nat} {m : zM} {o : Int × zS} (H : zRep xl xs p m σ) (h : g_c_settings_L73 x1 σ = some o) : zGo xl xs (fun p' => p = p') 7 122 73 [(0, .ref 39), (1, .int X1)] [] m (vI o.1) o.2 := by
  have hq : z_mth 122 = some z_r122 := rfl
  unfold g_c_settings_L73 at h
  refine r_p hq 1 (pc' := 74) (L' := [(0, .ref 39), (1, .int X1)]) (st' := [.ref 39]) rfl ?_
  refine r_gR (b := 120) (pc' := 77) (L' := [(0, .ref 39), (1, .int X1)]) H hq (z_at.mk 3 rfl rfl) rfl rfl rfl rfl ?_
  refine r_p hq 1 (pc' := 78) (L' := [(0, .ref 39), (1, .int X1)]) (st' := [.int X1, .ref 120]) rfl ?_
  obtain ⟨o_78, h_78, h⟩ := Option.bind_eq_some_iff.mp h
  refine r_cvI (pc' := 81) (L' := [(0, .ref 39), (1, .int X1)]) (Ps := [.int X1]) (rest := []) hq (z_at.mk 3 rfl rfl) (Or.inl ⟨rfl, rfl⟩) rfl rfl (by decide) (by decide) rfl (Nat.not_lt.mpr (Nat.le_of_ble_eq_true rfl)) rfl rfl (z_cat_le 0 rfl (by decide)) (z_lgl_le 2 rfl (by decide)) (by decide) (H.tg rfl) (by omega) (g_ta_end_ok hx1 H h_78) rfl rfl ?_
  intro R_78 m_78 p_78 e_78 hR_78 H_78
  subst e_78
  cases h
  exact r_ri hq (z_at.mk 1 rfl rfl) rfl rfl hR_78 rfl H_78
def g_c_settings (σ : zS) : Option (Int × zS) :=
  (g_ta_begin σ).bind fun o_4 =>
  (g_se_copyFrom 118 49 o_4.2).bind fun o_21 =>
  (g_se_readParts o_21.2).bind fun o_32 =>
  (g_ta_isSound o_32.2).bind fun o_40 =>
  if o_40.1 = 0 then
    g_c_settings_L73 o_32.1 o_40.2
  else
    (g_se_copyFrom 49 118 o_40.2).bind fun o_60 =>
    (g_ca_trim 48 o_60.2).bind fun o_70 =>
    g_c_settings_L73 o_32.1 o_70.2
set_option maxHeartbeats 4000000 in
theorem g_c_settings_ok {xl : Nat} {xs : Nat → Int32} {σ : zS} {p : Nat} {m : zM} {o : Int × zS} (H : zRep xl xs p m σ) (h : g_c_settings σ = some o) : zGo xl xs (fun p' => p = p') 7 122 0 (z_can 122 0 (lv_args 0 [.ref 39])) [] m (vI o.1) o.2 := by
  have hq : z_mth 122 = some z_r122 := rfl
  unfold g_c_settings at h
  show zGo xl xs (fun p' => p = p') 7 122 0 [(0, .ref 39)] [] m (vI o.1) o.2
  refine r_p hq 1 (pc' := 1) (L' := [(0, .ref 39)]) (st' := [.ref 39]) rfl ?_
  refine r_gR (b := 120) (pc' := 4) (L' := [(0, .ref 39)]) H hq (z_at.mk 3 rfl rfl) rfl rfl rfl rfl ?_
  obtain ⟨o_4, h_4, h⟩ := Option.bind_eq_some_iff.mp h
  refine r_cvV (pc' := 7) (L' := [(0, .ref 39)]) (Ps := []) (rest := []) hq (z_at.mk 3 rfl rfl) (Or.inl ⟨rfl, rfl⟩) rfl rfl (by decide) (by decide) rfl (Nat.not_lt.mpr (Nat.le_of_ble_eq_true rfl)) rfl rfl (z_cat_le 0 rfl (by decide)) (z_lgl_le 1 rfl (by decide)) (by decide) (H.tg rfl) (by omega) (g_ta_begin_ok H h_4) rfl rfl ?_
  intro m_4 p_4 e_4 H_4
  subst e_4
  refine r_p hq 1 (pc' := 8) (L' := [(0, .ref 39)]) (st' := [.ref 39]) rfl ?_
  refine r_gR (b := 118) (pc' := 11) (L' := [(0, .ref 39)]) H_4 hq (z_at.mk 3 rfl rfl) rfl rfl rfl rfl ?_
  refine r_p hq 1 (pc' := 12) (L' := [(0, .ref 39)]) (st' := [.ref 39, .ref 118]) rfl ?_
  refine r_gR (b := 40) (pc' := 15) (L' := [(0, .ref 39)]) H_4 hq (z_at.mk 3 rfl rfl) rfl rfl rfl rfl ?_
  refine r_gR (b := 48) (pc' := 18) (L' := [(0, .ref 39)]) H_4 hq (z_at.mk 3 rfl rfl) rfl rfl rfl rfl ?_
  refine r_gR (b := 49) (pc' := 21) (L' := [(0, .ref 39)]) H_4 hq (z_at.mk 3 rfl rfl) rfl rfl rfl rfl ?_
  obtain ⟨o_21, h_21, h⟩ := Option.bind_eq_some_iff.mp h
  refine r_cvV (pc' := 24) (L' := [(0, .ref 39)]) (Ps := [.ref 49]) (rest := []) hq (z_at.mk 3 rfl rfl) (Or.inl ⟨rfl, rfl⟩) rfl rfl (by decide) (by decide) rfl (Nat.not_lt.mpr (Nat.le_of_ble_eq_true rfl)) rfl rfl (z_cat_le 0 rfl (by decide)) (z_lgl_le 2 rfl (by decide)) (by decide) (H_4.tg rfl) (by omega) (g_se_copyFrom_ok rfl rfl H_4 h_21) rfl rfl ?_
  intro m_21 p_21 e_21 H_21
  subst e_21
  refine r_p hq 1 (pc' := 25) (L' := [(0, .ref 39)]) (st' := [.ref 39]) rfl ?_
  refine r_gR (b := 118) (pc' := 28) (L' := [(0, .ref 39)]) H_21 hq (z_at.mk 3 rfl rfl) rfl rfl rfl rfl ?_
  refine r_p hq 1 (pc' := 29) (L' := [(0, .ref 39)]) (st' := [.ref 39, .ref 118]) rfl ?_
  refine r_gR (b := 120) (pc' := 32) (L' := [(0, .ref 39)]) H_21 hq (z_at.mk 3 rfl rfl) rfl rfl rfl rfl ?_
  obtain ⟨o_32, h_32, h⟩ := Option.bind_eq_some_iff.mp h
  refine r_cvI (pc' := 35) (L' := [(0, .ref 39)]) (Ps := [.ref 120]) (rest := []) hq (z_at.mk 3 rfl rfl) (Or.inl ⟨rfl, rfl⟩) rfl rfl (by decide) (by decide) rfl (Nat.not_lt.mpr (Nat.le_of_ble_eq_true rfl)) rfl rfl (z_cat_le 0 rfl (by decide)) (z_lgl_le 2 rfl (by decide)) (by decide) (H_21.tg rfl) (by omega) (g_se_readParts_ok H_21 h_32) rfl rfl ?_
  intro R_32 m_32 p_32 e_32 hR_32 H_32
  subst e_32
  refine r_p hq 2 (pc' := 37) (L' := [(1, .int R_32), (0, .ref 39)]) (st' := [.ref 39]) rfl ?_
  refine r_gR (b := 120) (pc' := 40) (L' := [(1, .int R_32), (0, .ref 39)]) H_32 hq (z_at.mk 3 rfl rfl) rfl rfl rfl rfl ?_
  obtain ⟨o_40, h_40, h⟩ := Option.bind_eq_some_iff.mp h
  refine r_cvI (pc' := 43) (L' := [(1, .int R_32), (0, .ref 39)]) (Ps := []) (rest := []) hq (z_at.mk 3 rfl rfl) (Or.inl ⟨rfl, rfl⟩) rfl rfl (by decide) (by decide) rfl (Nat.not_lt.mpr (Nat.le_of_ble_eq_true rfl)) rfl rfl (z_cat_le 0 rfl (by decide)) (z_lgl_le 1 rfl (by decide)) (by decide) (H_32.tg rfl) (by omega) (g_ta_isSound_ok H_32 h_40) rfl rfl ?_
  intro R_40 m_40 p_40 e_40 hR_40 H_40
  subst e_40
  rcases z_ite h with ⟨c_43, h⟩ | ⟨c_43, h⟩
  · refine r_t1 (pc' := 73) (L' := [(0, .ref 39), (1, .int R_32)]) hq (z_at.mk 3 rfl rfl) rfl hR_40 c_43 rfl rfl ?_
    exact g_c_settings_L73_ok hR_32 H_40 h
  · refine r_f1 (pc' := 46) (L' := [(1, .int R_32), (0, .ref 39)]) hq (z_at.mk 3 rfl rfl) rfl hR_40 c_43 rfl rfl ?_
    refine r_p hq 1 (pc' := 47) (L' := [(1, .int R_32), (0, .ref 39)]) (st' := [.ref 39]) rfl ?_
    refine r_gR (b := 40) (pc' := 50) (L' := [(1, .int R_32), (0, .ref 39)]) H_40 hq (z_at.mk 3 rfl rfl) rfl rfl rfl rfl ?_
    refine r_gR (b := 48) (pc' := 53) (L' := [(1, .int R_32), (0, .ref 39)]) H_40 hq (z_at.mk 3 rfl rfl) rfl rfl rfl rfl ?_
    refine r_gR (b := 49) (pc' := 56) (L' := [(1, .int R_32), (0, .ref 39)]) H_40 hq (z_at.mk 3 rfl rfl) rfl rfl rfl rfl ?_
    refine r_p hq 1 (pc' := 57) (L' := [(1, .int R_32), (0, .ref 39)]) (st' := [.ref 39, .ref 49]) rfl ?_
    refine r_gR (b := 118) (pc' := 60) (L' := [(1, .int R_32), (0, .ref 39)]) H_40 hq (z_at.mk 3 rfl rfl) rfl rfl rfl rfl ?_
    obtain ⟨o_60, h_60, h⟩ := Option.bind_eq_some_iff.mp h
    refine r_cvV (pc' := 63) (L' := [(1, .int R_32), (0, .ref 39)]) (Ps := [.ref 118]) (rest := []) hq (z_at.mk 3 rfl rfl) (Or.inl ⟨rfl, rfl⟩) rfl rfl (by decide) (by decide) rfl (Nat.not_lt.mpr (Nat.le_of_ble_eq_true rfl)) rfl rfl (z_cat_le 0 rfl (by decide)) (z_lgl_le 2 rfl (by decide)) (by decide) (H_40.tg rfl) (by omega) (g_se_copyFrom_ok rfl rfl H_40 h_60) rfl rfl ?_
    intro m_60 p_60 e_60 H_60
    subst e_60
    refine r_p hq 1 (pc' := 64) (L' := [(1, .int R_32), (0, .ref 39)]) (st' := [.ref 39]) rfl ?_
    refine r_gR (b := 40) (pc' := 67) (L' := [(1, .int R_32), (0, .ref 39)]) H_60 hq (z_at.mk 3 rfl rfl) rfl rfl rfl rfl ?_
    refine r_gR (b := 48) (pc' := 70) (L' := [(1, .int R_32), (0, .ref 39)]) H_60 hq (z_at.mk 3 rfl rfl) rfl rfl rfl rfl ?_
    obtain ⟨o_70, h_70, h⟩ := Option.bind_eq_some_iff.mp h
    refine r_cvV (pc' := 73) (L' := [(0, .ref 39), (1, .int R_32)]) (Ps := []) (rest := []) hq (z_at.mk 3 rfl rfl) (Or.inl ⟨rfl, rfl⟩) rfl rfl (by decide) (by decide) rfl (Nat.not_lt.mpr (Nat.le_of_ble_eq_true rfl)) rfl rfl (z_cat_le 0 rfl (by decide)) (z_lgl_le 1 rfl (by decide)) (by decide) (H_60.tg rfl) (by omega) (g_ca_trim_ok rfl H_60 h_70) rfl rfl ?_
    intro m_70 p_70 e_70 H_70
    subst e_70
    exact g_c_settings_L73_ok hR_32 H_70 h
def g_c_setting (x1 : Int) (σ : zS) : Option (Int × zS) :=
  (g_se_of 49 x1 σ).bind fun o_11 =>
  some (o_11.1, o_11.2)
set_option maxHeartbeats 4000000 in
theorem g_c_setting_ok {xl : Nat} {xs : Nat → Int32} {X1 : Int32} {x1 : Int} (hx1 : X1.toInt = x1) {σ : zS} {p : Nat} {m : zM} {o : Int × zS} (H : zRep xl xs p m σ) (h : g_c_setting x1 σ = some o) : zGo xl xs (fun p' => p = p') 2 123 0 (z_can 123 0 (lv_args 0 [.ref 39, .int X1])) [] m (vI o.1) o.2 := by
  have hq : z_mth 123 = some z_r123 := rfl
  unfold g_c_setting at h
  show zGo xl xs (fun p' => p = p') 2 123 0 [(0, .ref 39), (1, .int X1)] [] m (vI o.1) o.2
  refine r_p hq 1 (pc' := 1) (L' := [(0, .ref 39), (1, .int X1)]) (st' := [.ref 39]) rfl ?_
  refine r_gR (b := 40) (pc' := 4) (L' := [(0, .ref 39), (1, .int X1)]) H hq (z_at.mk 3 rfl rfl) rfl rfl rfl rfl ?_
  refine r_gR (b := 48) (pc' := 7) (L' := [(0, .ref 39), (1, .int X1)]) H hq (z_at.mk 3 rfl rfl) rfl rfl rfl rfl ?_
  refine r_gR (b := 49) (pc' := 10) (L' := [(0, .ref 39), (1, .int X1)]) H hq (z_at.mk 3 rfl rfl) rfl rfl rfl rfl ?_
  refine r_p hq 1 (pc' := 11) (L' := [(0, .ref 39), (1, .int X1)]) (st' := [.int X1, .ref 49]) rfl ?_
  obtain ⟨o_11, h_11, h⟩ := Option.bind_eq_some_iff.mp h
  refine r_cvI (pc' := 14) (L' := [(0, .ref 39), (1, .int X1)]) (Ps := [.int X1]) (rest := []) hq (z_at.mk 3 rfl rfl) (Or.inl ⟨rfl, rfl⟩) rfl rfl (by decide) (by decide) rfl (Nat.not_lt.mpr (Nat.le_of_ble_eq_true rfl)) rfl rfl (z_cat_le 0 rfl (by decide)) (z_lgl_le 2 rfl (by decide)) (by decide) (H.tg rfl) (by omega) (g_se_of_ok rfl hx1 H h_11) rfl rfl ?_
  intro R_11 m_11 p_11 e_11 hR_11 H_11
  subst e_11
  cases h
  exact r_ri hq (z_at.mk 1 rfl rfl) rfl rfl hR_11 rfl H_11
def g_c_done (x1 : Int) (x2 : Int) (y3 : Int) (σ : zS) : Option (Int × zS) :=
  (g_ca_serve 48 x2 σ).bind fun o_8 =>
  (g_so_rowsIn x2 o_8.2).bind fun o_33 =>
  (g_fi_gather 60 (lAnd o_33.1 y3) o_33.2).bind fun o_38 =>
  (g_fi_measured 60 x1 o_38.2).bind fun o_49 =>
  some (o_49.1, o_49.2)
set_option maxHeartbeats 4000000 in
theorem g_c_done_ok {xl : Nat} {xs : Nat → Int32} {X1 : Int32} {x1 : Int} (hx1 : X1.toInt = x1) {X2 : Int32} {x2 : Int} (hx2 : X2.toInt = x2) {Y3 : Int64} {y3 : Int} (hy3 : Y3.toInt = y3) {σ : zS} {p : Nat} {m : zM} {o : Int × zS} (H : zRep xl xs p m σ) (h : g_c_done x1 x2 y3 σ = some o) : zGo xl xs (fun p' => p = p') 7 125 0 (z_can 125 0 (lv_args 0 [.ref 39, .int X1, .int X2, .long Y3])) [] m (vL o.1) o.2 := by
  have hq : z_mth 125 = some z_r125 := rfl
  unfold g_c_done at h
  show zGo xl xs (fun p' => p = p') 7 125 0 [(0, .ref 39), (1, .int X1), (2, .int X2), (3, .long Y3)] [] m (vL o.1) o.2
  refine r_p hq 1 (pc' := 1) (L' := [(0, .ref 39), (1, .int X1), (2, .int X2), (3, .long Y3)]) (st' := [.ref 39]) rfl ?_
  refine r_gR (b := 40) (pc' := 4) (L' := [(0, .ref 39), (1, .int X1), (2, .int X2), (3, .long Y3)]) H hq (z_at.mk 3 rfl rfl) rfl rfl rfl rfl ?_
  refine r_gR (b := 48) (pc' := 7) (L' := [(0, .ref 39), (1, .int X1), (2, .int X2), (3, .long Y3)]) H hq (z_at.mk 3 rfl rfl) rfl rfl rfl rfl ?_
  refine r_p hq 1 (pc' := 8) (L' := [(0, .ref 39), (1, .int X1), (2, .int X2), (3, .long Y3)]) (st' := [.int X2, .ref 48]) rfl ?_
  obtain ⟨o_8, h_8, h⟩ := Option.bind_eq_some_iff.mp h
  refine r_cvV (pc' := 11) (L' := [(0, .ref 39), (1, .int X1), (2, .int X2), (3, .long Y3)]) (Ps := [.int X2]) (rest := []) hq (z_at.mk 3 rfl rfl) (Or.inl ⟨rfl, rfl⟩) rfl rfl (by decide) (by decide) rfl (Nat.not_lt.mpr (Nat.le_of_ble_eq_true rfl)) rfl rfl (z_cat_le 0 rfl (by decide)) (z_lgl_le 2 rfl (by decide)) (by decide) (H.tg rfl) (by omega) (g_ca_serve_ok rfl hx2 H h_8) rfl rfl ?_
  intro m_8 p_8 e_8 H_8
  subst e_8
  refine r_p hq 1 (pc' := 12) (L' := [(0, .ref 39), (1, .int X1), (2, .int X2), (3, .long Y3)]) (st' := [.ref 39]) rfl ?_
  refine r_gR (b := 40) (pc' := 15) (L' := [(0, .ref 39), (1, .int X1), (2, .int X2), (3, .long Y3)]) H_8 hq (z_at.mk 3 rfl rfl) rfl rfl rfl rfl ?_
  refine r_gR (b := 60) (pc' := 18) (L' := [(0, .ref 39), (1, .int X1), (2, .int X2), (3, .long Y3)]) H_8 hq (z_at.mk 3 rfl rfl) rfl rfl rfl rfl ?_
  refine r_p hq 1 (pc' := 19) (L' := [(0, .ref 39), (1, .int X1), (2, .int X2), (3, .long Y3)]) (st' := [.ref 39, .ref 60]) rfl ?_
  refine r_gR (b := 40) (pc' := 22) (L' := [(0, .ref 39), (1, .int X1), (2, .int X2), (3, .long Y3)]) H_8 hq (z_at.mk 3 rfl rfl) rfl rfl rfl rfl ?_
  refine r_gR (b := 41) (pc' := 25) (L' := [(0, .ref 39), (1, .int X1), (2, .int X2), (3, .long Y3)]) H_8 hq (z_at.mk 3 rfl rfl) rfl rfl rfl rfl ?_
  refine r_p hq 1 (pc' := 26) (L' := [(0, .ref 39), (1, .int X1), (2, .int X2), (3, .long Y3)]) (st' := [.ref 39, .ref 41, .ref 60]) rfl ?_
  refine r_gR (b := 40) (pc' := 29) (L' := [(0, .ref 39), (1, .int X1), (2, .int X2), (3, .long Y3)]) H_8 hq (z_at.mk 3 rfl rfl) rfl rfl rfl rfl ?_
  refine r_gR (b := 41) (pc' := 32) (L' := [(0, .ref 39), (1, .int X1), (2, .int X2), (3, .long Y3)]) H_8 hq (z_at.mk 3 rfl rfl) rfl rfl rfl rfl ?_
  refine r_p hq 1 (pc' := 33) (L' := [(0, .ref 39), (1, .int X1), (2, .int X2), (3, .long Y3)]) (st' := [.int X2, .ref 41, .ref 41, .ref 60]) rfl ?_
  obtain ⟨o_33, h_33, h⟩ := Option.bind_eq_some_iff.mp h
  refine r_cvL (pc' := 36) (L' := [(0, .ref 39), (1, .int X1), (2, .int X2), (3, .long Y3)]) (Ps := [.int X2]) (rest := [.ref 41, .ref 60]) hq (z_at.mk 3 rfl rfl) (Or.inl ⟨rfl, rfl⟩) rfl rfl (by decide) (by decide) rfl (Nat.not_lt.mpr (Nat.le_of_ble_eq_true rfl)) rfl rfl (z_cat_le 2 rfl (by decide)) (z_lgl_le 2 rfl (by decide)) (by decide) (H_8.tg rfl) (by omega) (g_so_rowsIn_ok hx2 H_8 h_33) rfl rfl ?_
  intro R_33 m_33 p_33 e_33 hR_33 H_33
  subst e_33
  refine r_p hq 2 (pc' := 38) (L' := [(0, .ref 39), (1, .int X1), (2, .int X2), (3, .long Y3)]) (st' := [.long (R_33 &&& Y3), .ref 41, .ref 60]) rfl ?_
  obtain ⟨o_38, h_38, h⟩ := Option.bind_eq_some_iff.mp h
  refine r_cvV (pc' := 41) (L' := [(0, .ref 39), (1, .int X1), (2, .int X2), (3, .long Y3)]) (Ps := [.ref 41, .long (R_33 &&& Y3)]) (rest := []) hq (z_at.mk 3 rfl rfl) (Or.inl ⟨rfl, rfl⟩) rfl rfl (by decide) (by decide) rfl (Nat.not_lt.mpr (Nat.le_of_ble_eq_true rfl)) rfl rfl (z_cat_le 0 rfl (by decide)) (z_lgl_le 4 rfl (by decide)) (by decide) (H_33.tg rfl) (by omega) (g_fi_gather_ok rfl (tx_land hR_33 hy3) H_33 h_38) rfl rfl ?_
  intro m_38 p_38 e_38 H_38
  subst e_38
  refine r_p hq 1 (pc' := 42) (L' := [(0, .ref 39), (1, .int X1), (2, .int X2), (3, .long Y3)]) (st' := [.ref 39]) rfl ?_
  refine r_gR (b := 40) (pc' := 45) (L' := [(0, .ref 39), (1, .int X1), (2, .int X2), (3, .long Y3)]) H_38 hq (z_at.mk 3 rfl rfl) rfl rfl rfl rfl ?_
  refine r_gR (b := 60) (pc' := 48) (L' := [(0, .ref 39), (1, .int X1), (2, .int X2), (3, .long Y3)]) H_38 hq (z_at.mk 3 rfl rfl) rfl rfl rfl rfl ?_
  refine r_p hq 1 (pc' := 49) (L' := [(0, .ref 39), (1, .int X1), (2, .int X2), (3, .long Y3)]) (st' := [.int X1, .ref 60]) rfl ?_
  obtain ⟨o_49, h_49, h⟩ := Option.bind_eq_some_iff.mp h
  refine r_cvL (pc' := 52) (L' := [(0, .ref 39), (1, .int X1), (2, .int X2), (3, .long Y3)]) (Ps := [.int X1]) (rest := []) hq (z_at.mk 3 rfl rfl) (Or.inl ⟨rfl, rfl⟩) rfl rfl (by decide) (by decide) rfl (Nat.not_lt.mpr (Nat.le_of_ble_eq_true rfl)) rfl rfl (z_cat_le 0 rfl (by decide)) (z_lgl_le 2 rfl (by decide)) (by decide) (H_38.tg rfl) (by omega) (g_fi_measured_ok rfl hx1 H_38 h_49) rfl rfl ?_
  intro R_49 m_49 p_49 e_49 hR_49 H_49
  subst e_49
  cases h
  exact r_rl hq (z_at.mk 1 rfl rfl) rfl hR_49 rfl H_49
def g_c_run_L100 (σ : zS) : Option (Int × zS) :=
  let v_108 := σ 122 5
  (g_ta_end v_108 σ).bind fun o_111 =>
  some (o_111.1, o_111.2)
set_option maxHeartbeats 4000000 in
theorem g_c_run_L100_ok {xl : Nat} {xs : Nat → Int32} {σ : zS} {p : Nat} {m : zM} {o : Int × zS} (H : zRep xl xs p m σ) (h : g_c_run_L100 σ = some o) : zGo xl xs (fun p' => p = p') 509 124 100 [(0, .ref 39)] [] m (vI o.1) o.2 := by
  have hq : z_mth 124 = some z_r124 := rfl
  unfold g_c_run_L100 at h
  refine r_p hq 1 (pc' := 101) (L' := [(0, .ref 39)]) (st' := [.ref 39]) rfl ?_
  refine r_gR (b := 120) (pc' := 104) (L' := [(0, .ref 39)]) H hq (z_at.mk 3 rfl rfl) rfl rfl rfl rfl ?_
  refine r_p hq 1 (pc' := 105) (L' := [(0, .ref 39)]) (st' := [.ref 39, .ref 120]) rfl ?_
  refine r_gR (b := 122) (pc' := 108) (L' := [(0, .ref 39)]) H hq (z_at.mk 3 rfl rfl) rfl rfl rfl rfl ?_
  refine r_gI (pc' := 111) (L' := [(0, .ref 39)]) H hq (z_at.mk 3 rfl rfl) rfl rfl rfl rfl ?_
  intro V_108 hV_108
  obtain ⟨o_111, h_111, h⟩ := Option.bind_eq_some_iff.mp h
  refine r_cvI (pc' := 114) (L' := [(0, .ref 39)]) (Ps := [.int V_108]) (rest := []) hq (z_at.mk 3 rfl rfl) (Or.inl ⟨rfl, rfl⟩) rfl rfl (by decide) (by decide) rfl (Nat.not_lt.mpr (Nat.le_of_ble_eq_true rfl)) rfl rfl (z_cat_le 0 rfl (by decide)) (z_lgl_le 2 rfl (by decide)) (by decide) (H.tg rfl) (by omega) (g_ta_end_ok hV_108 H h_111) rfl rfl ?_
  intro R_111 m_111 p_111 e_111 hR_111 H_111
  subst e_111
  cases h
  exact r_ri hq (z_at.mk 1 rfl rfl) rfl rfl hR_111 rfl H_111
def g_c_run_L37 : Nat → Int → zS → Option (Int × zS)
  | 0, _, _ => none
  | n + 1, x1, σ =>
    let v_42 := σ 122 5
    if v_42 ≤ x1 then
      g_c_run_L100 σ
    else
      if 8 ≤ x1 then
        g_c_run_L100 σ
      else
        if 0 ≤ x1 ∧ x1 < 8 then
        let v_71 := σ 123 x1
        if 0 ≤ x1 ∧ x1 < 8 then
        let v_80 := σ 124 x1
        if 0 ≤ x1 ∧ x1 < 8 then
        let v_89 := σ 125 x1
        (g_c_done v_71 v_80 v_89 σ).bind fun o_90 =>
        if 0 ≤ x1 ∧ x1 < 8 then
        let s_93 := zu o_90.2 128 x1 o_90.1
        (g_c_run_L37 n) (w32 (x1 + 1)) s_93
        else none
        else none
        else none
        else none
set_option maxHeartbeats 4000000 in
theorem g_c_run_L37_ok {xl : Nat} {xs : Nat → Int32} : ∀ (n : Nat) {X1 : Int32} {x1 : Int} {σ : zS} {p : Nat} {m : zM} {o : Int × zS}, X1.toInt = x1 → zRep xl xs p m σ → g_c_run_L37 n x1 σ = some o → zGo xl xs (fun p' => p = p') 509 124 37 [(0, .ref 39), (1, .int X1)] [] m (vI o.1) o.2
  | 0, _, _, _, _, _, _, _, _, h => by cases h
  | n + 1, X1, x1, σ, p, m, o, hx1, H, h => by
    have hq : z_mth 124 = some z_r124 := rfl
    have ih := fun {X1 : Int32} {x1 : Int} {σ : zS} {p : Nat} {m : zM} {o : Int × zS} => g_c_run_L37_ok (xl := xl) (xs := xs) n (X1 := X1) (x1 := x1) (σ := σ) (p := p) (m := m) (o := o)
    unfold g_c_run_L37 at h
    refine r_p hq 2 (pc' := 39) (L' := [(0, .ref 39), (1, .int X1)]) (st' := [.ref 39, .int X1]) rfl ?_
    refine r_gR (b := 122) (pc' := 42) (L' := [(0, .ref 39), (1, .int X1)]) H hq (z_at.mk 3 rfl rfl) rfl rfl rfl rfl ?_
    refine r_gI (pc' := 45) (L' := [(0, .ref 39), (1, .int X1)]) H hq (z_at.mk 3 rfl rfl) rfl rfl rfl rfl ?_
    intro V_42 hV_42
    rcases z_ite h with ⟨c_45, h⟩ | ⟨c_45, h⟩
    · refine r_t2 (pc' := 100) (L' := [(0, .ref 39)]) hq (z_at.mk 3 rfl rfl) rfl hx1 hV_42 c_45 rfl rfl ?_
      exact g_c_run_L100_ok  H h
    · refine r_f2 (pc' := 48) (L' := [(0, .ref 39), (1, .int X1)]) hq (z_at.mk 3 rfl rfl) rfl hx1 hV_42 c_45 rfl rfl ?_
      refine r_p hq 2 (pc' := 50) (L' := [(0, .ref 39), (1, .int X1)]) (st' := [.ref 39, .int X1]) rfl ?_
      refine r_gR (b := 128) (pc' := 53) (L' := [(0, .ref 39), (1, .int X1)]) H hq (z_at.mk 3 rfl rfl) rfl rfl rfl rfl ?_
      refine r_le (pc' := 54) (L' := [(0, .ref 39), (1, .int X1)]) H hq (z_at.mk 1 rfl rfl) (show zAr 128 1 8 = true from rfl) rfl rfl rfl ?_
      intro V_53 hV_53
      rcases z_ite h with ⟨c_54, h⟩ | ⟨c_54, h⟩
      · refine r_t2 (pc' := 100) (L' := [(0, .ref 39)]) hq (z_at.mk 3 rfl rfl) rfl hx1 hV_53 c_54 rfl rfl ?_
        exact g_c_run_L100_ok  H h
      · refine r_f2 (pc' := 57) (L' := [(0, .ref 39), (1, .int X1)]) hq (z_at.mk 3 rfl rfl) rfl hx1 hV_53 c_54 rfl rfl ?_
        refine r_p hq 1 (pc' := 58) (L' := [(0, .ref 39), (1, .int X1)]) (st' := [.ref 39]) rfl ?_
        refine r_gR (b := 128) (pc' := 61) (L' := [(0, .ref 39), (1, .int X1)]) H hq (z_at.mk 3 rfl rfl) rfl rfl rfl rfl ?_
        refine r_p hq 3 (pc' := 64) (L' := [(0, .ref 39), (1, .int X1)]) (st' := [.ref 39, .ref 39, .int X1, .ref 128]) rfl ?_
        refine r_gR (b := 122) (pc' := 67) (L' := [(0, .ref 39), (1, .int X1)]) H hq (z_at.mk 3 rfl rfl) rfl rfl rfl rfl ?_
        refine r_gR (b := 123) (pc' := 70) (L' := [(0, .ref 39), (1, .int X1)]) H hq (z_at.mk 3 rfl rfl) rfl rfl rfl rfl ?_
        refine r_p hq 1 (pc' := 71) (L' := [(0, .ref 39), (1, .int X1)]) (st' := [.int X1, .ref 123, .ref 39, .int X1, .ref 128]) rfl ?_
        obtain ⟨g_71, h⟩ := z_ifo_some h
        refine r_ia (pc' := 72) (L' := [(0, .ref 39), (1, .int X1)]) H hq (z_at.mk 1 rfl rfl) (show zAr 123 0 8 = true from rfl) hx1 g_71 rfl rfl ?_
        intro V_71 hV_71
        refine r_p hq 1 (pc' := 73) (L' := [(0, .ref 39), (1, .int X1)]) (st' := [.ref 39, .int V_71, .ref 39, .int X1, .ref 128]) rfl ?_
        refine r_gR (b := 122) (pc' := 76) (L' := [(0, .ref 39), (1, .int X1)]) H hq (z_at.mk 3 rfl rfl) rfl rfl rfl rfl ?_
        refine r_gR (b := 124) (pc' := 79) (L' := [(0, .ref 39), (1, .int X1)]) H hq (z_at.mk 3 rfl rfl) rfl rfl rfl rfl ?_
        refine r_p hq 1 (pc' := 80) (L' := [(0, .ref 39), (1, .int X1)]) (st' := [.int X1, .ref 124, .int V_71, .ref 39, .int X1, .ref 128]) rfl ?_
        obtain ⟨g_80, h⟩ := z_ifo_some h
        refine r_ia (pc' := 81) (L' := [(0, .ref 39), (1, .int X1)]) H hq (z_at.mk 1 rfl rfl) (show zAr 124 0 8 = true from rfl) hx1 g_80 rfl rfl ?_
        intro V_80 hV_80
        refine r_p hq 1 (pc' := 82) (L' := [(0, .ref 39), (1, .int X1)]) (st' := [.ref 39, .int V_80, .int V_71, .ref 39, .int X1, .ref 128]) rfl ?_
        refine r_gR (b := 122) (pc' := 85) (L' := [(0, .ref 39), (1, .int X1)]) H hq (z_at.mk 3 rfl rfl) rfl rfl rfl rfl ?_
        refine r_gR (b := 125) (pc' := 88) (L' := [(0, .ref 39), (1, .int X1)]) H hq (z_at.mk 3 rfl rfl) rfl rfl rfl rfl ?_
        refine r_p hq 1 (pc' := 89) (L' := [(0, .ref 39), (1, .int X1)]) (st' := [.int X1, .ref 125, .int V_80, .int V_71, .ref 39, .int X1, .ref 128]) rfl ?_
        obtain ⟨g_89, h⟩ := z_ifo_some h
        refine r_la (pc' := 90) (L' := [(0, .ref 39), (1, .int X1)]) H hq (z_at.mk 1 rfl rfl) (show zAr 125 1 8 = true from rfl) hx1 g_89 rfl rfl ?_
        intro V_89 hV_89
        obtain ⟨o_90, h_90, h⟩ := Option.bind_eq_some_iff.mp h
        refine r_cvL (pc' := 93) (L' := [(0, .ref 39), (1, .int X1)]) (Ps := [.int V_71, .int V_80, .long V_89]) (rest := [.int X1, .ref 128]) hq (z_at.mk 3 rfl rfl) (Or.inl ⟨rfl, rfl⟩) rfl rfl (by decide) (by decide) rfl (Nat.not_lt.mpr (Nat.le_of_ble_eq_true rfl)) rfl rfl (z_cat_le 2 rfl (by decide)) (z_lgl_le 5 rfl (by decide)) (by decide) (H.tg rfl) (by omega) (g_c_done_ok hV_71 hV_80 hV_89 H h_90) rfl rfl ?_
        intro R_90 m_90 p_90 e_90 hR_90 H_90
        subst e_90
        obtain ⟨g_93, h⟩ := z_ifo_some h
        refine r_ls (pc' := 94) (L' := [(0, .ref 39), (1, .int X1)]) H_90 hq (z_at.mk 1 rfl rfl) (show zAr 128 1 8 = true from rfl) hx1 g_93 hR_90 rfl rfl ?_
        intro m_93 H_93
        refine r_p hq 2 (pc' := 37) (L' := [(0, .ref 39), (1, .int (X1 + (1 : Int32)))]) (st' := []) rfl ?_
        exact ih (tx_iadd hx1 (rfl : (1 : Int32).toInt = 1)) H_93 h
def g_c_run (σ : zS) : Option (Int × zS) :=
  (g_ta_begin σ).bind fun o_4 =>
  (g_qu_readParts o_4.2).bind fun o_11 =>
  (g_ta_isSound o_11.2).bind fun o_18 =>
  if o_18.1 = 0 then
    g_c_run_L100 o_18.2
  else
    let v_29 := o_18.2 122 5
    let s_32 := zu o_18.2 39 9 v_29
    g_c_run_L37 zK 0 s_32
set_option maxHeartbeats 4000000 in
theorem g_c_run_ok {xl : Nat} {xs : Nat → Int32} {σ : zS} {p : Nat} {m : zM} {o : Int × zS} (H : zRep xl xs p m σ) (h : g_c_run σ = some o) : zGo xl xs (fun p' => p = p') 509 124 0 (z_can 124 0 (lv_args 0 [.ref 39])) [] m (vI o.1) o.2 := by
  have hq : z_mth 124 = some z_r124 := rfl
  unfold g_c_run at h
  show zGo xl xs (fun p' => p = p') 509 124 0 [(0, .ref 39)] [] m (vI o.1) o.2
  refine r_p hq 1 (pc' := 1) (L' := [(0, .ref 39)]) (st' := [.ref 39]) rfl ?_
  refine r_gR (b := 120) (pc' := 4) (L' := [(0, .ref 39)]) H hq (z_at.mk 3 rfl rfl) rfl rfl rfl rfl ?_
  obtain ⟨o_4, h_4, h⟩ := Option.bind_eq_some_iff.mp h
  refine r_cvV (pc' := 7) (L' := [(0, .ref 39)]) (Ps := []) (rest := []) hq (z_at.mk 3 rfl rfl) (Or.inl ⟨rfl, rfl⟩) rfl rfl (by decide) (by decide) rfl (Nat.not_lt.mpr (Nat.le_of_ble_eq_true rfl)) rfl rfl (z_cat_le 0 rfl (by decide)) (z_lgl_le 1 rfl (by decide)) (by decide) (H.tg rfl) (by omega) (g_ta_begin_ok H h_4) rfl rfl ?_
  intro m_4 p_4 e_4 H_4
  subst e_4
  refine r_p hq 1 (pc' := 8) (L' := [(0, .ref 39)]) (st' := [.ref 39]) rfl ?_
  refine r_gR (b := 122) (pc' := 11) (L' := [(0, .ref 39)]) H_4 hq (z_at.mk 3 rfl rfl) rfl rfl rfl rfl ?_
  obtain ⟨o_11, h_11, h⟩ := Option.bind_eq_some_iff.mp h
  refine r_cvV (pc' := 14) (L' := [(0, .ref 39)]) (Ps := []) (rest := []) hq (z_at.mk 3 rfl rfl) (Or.inl ⟨rfl, rfl⟩) rfl rfl (by decide) (by decide) rfl (Nat.not_lt.mpr (Nat.le_of_ble_eq_true rfl)) rfl rfl (z_cat_le 0 rfl (by decide)) (z_lgl_le 1 rfl (by decide)) (by decide) (H_4.tg rfl) (by omega) (g_qu_readParts_ok H_4 h_11) rfl rfl ?_
  intro m_11 p_11 e_11 H_11
  subst e_11
  refine r_p hq 1 (pc' := 15) (L' := [(0, .ref 39)]) (st' := [.ref 39]) rfl ?_
  refine r_gR (b := 120) (pc' := 18) (L' := [(0, .ref 39)]) H_11 hq (z_at.mk 3 rfl rfl) rfl rfl rfl rfl ?_
  obtain ⟨o_18, h_18, h⟩ := Option.bind_eq_some_iff.mp h
  refine r_cvI (pc' := 21) (L' := [(0, .ref 39)]) (Ps := []) (rest := []) hq (z_at.mk 3 rfl rfl) (Or.inl ⟨rfl, rfl⟩) rfl rfl (by decide) (by decide) rfl (Nat.not_lt.mpr (Nat.le_of_ble_eq_true rfl)) rfl rfl (z_cat_le 0 rfl (by decide)) (z_lgl_le 1 rfl (by decide)) (by decide) (H_11.tg rfl) (by omega) (g_ta_isSound_ok H_11 h_18) rfl rfl ?_
  intro R_18 m_18 p_18 e_18 hR_18 H_18
  subst e_18
  rcases z_ite h with ⟨c_21, h⟩ | ⟨c_21, h⟩
  · refine r_t1 (pc' := 100) (L' := [(0, .ref 39)]) hq (z_at.mk 3 rfl rfl) rfl hR_18 c_21 rfl rfl ?_
    exact g_c_run_L100_ok  H_18 h
  · refine r_f1 (pc' := 24) (L' := [(0, .ref 39)]) hq (z_at.mk 3 rfl rfl) rfl hR_18 c_21 rfl rfl ?_
    refine r_p hq 2 (pc' := 26) (L' := [(0, .ref 39)]) (st' := [.ref 39, .ref 39]) rfl ?_
    refine r_gR (b := 122) (pc' := 29) (L' := [(0, .ref 39)]) H_18 hq (z_at.mk 3 rfl rfl) rfl rfl rfl rfl ?_
    refine r_gI (pc' := 32) (L' := [(0, .ref 39)]) H_18 hq (z_at.mk 3 rfl rfl) rfl rfl rfl rfl ?_
    intro V_29 hV_29
    refine r_pI (X := V_29) (pc' := 35) (L' := [(0, .ref 39)]) H_18 hq (z_at.mk 3 rfl rfl) rfl rfl hV_29 (by decide) rfl rfl rfl rfl ?_
    intro m_32 H_32
    refine r_p hq 2 (pc' := 37) (L' := [(0, .ref 39), (1, .int ((0 : Int32)))]) (st' := []) rfl ?_
    exact g_c_run_L37_ok zK (rfl : (0 : Int32).toInt = 0) H_32 h
def g_c_answer (x1 : Int) (σ : zS) : Option (Int × zS) :=
  if x1 < 0 then
    some (-9223372036854775808, σ)
  else
    let v_6 := σ 39 9
    if v_6 ≤ x1 then
      some (-9223372036854775808, σ)
    else
      if 8 ≤ x1 then
        some (-9223372036854775808, σ)
      else
        if 0 ≤ x1 ∧ x1 < 8 then
        let v_26 := σ 128 x1
        some (v_26, σ)
        else none
set_option maxHeartbeats 4000000 in
theorem g_c_answer_ok {xl : Nat} {xs : Nat → Int32} {X1 : Int32} {x1 : Int} (hx1 : X1.toInt = x1) {σ : zS} {p : Nat} {m : zM} {o : Int × zS} (H : zRep xl xs p m σ) (h : g_c_answer x1 σ = some o) : zGo xl xs (fun p' => p = p') 1 126 0 (z_can 126 0 (lv_args 0 [.ref 39, .int X1])) [] m (vL o.1) o.2 := by
  have hq : z_mth 126 = some z_r126 := rfl
  unfold g_c_answer at h
  show zGo xl xs (fun p' => p = p') 1 126 0 [(0, .ref 39), (1, .int X1)] [] m (vL o.1) o.2
  refine r_p hq 1 (pc' := 1) (L' := [(0, .ref 39), (1, .int X1)]) (st' := [.int X1]) rfl ?_
  rcases z_ite h with ⟨c_1, h⟩ | ⟨c_1, h⟩
  · refine r_t1 (pc' := 30) (L' := []) hq (z_at.mk 3 rfl rfl) rfl hx1 c_1 rfl rfl ?_
    refine r_p hq 1 (pc' := 33) (L' := []) (st' := [.long ((-9223372036854775808 : Int64))]) rfl ?_
    cases h
    exact r_rl hq (z_at.mk 1 rfl rfl) rfl (rfl : (-9223372036854775808 : Int64).toInt = -9223372036854775808) rfl H
  · refine r_f1 (pc' := 4) (L' := [(0, .ref 39), (1, .int X1)]) hq (z_at.mk 3 rfl rfl) rfl hx1 c_1 rfl rfl ?_
    refine r_p hq 2 (pc' := 6) (L' := [(0, .ref 39), (1, .int X1)]) (st' := [.ref 39, .int X1]) rfl ?_
    refine r_gI (pc' := 9) (L' := [(0, .ref 39), (1, .int X1)]) H hq (z_at.mk 3 rfl rfl) rfl rfl rfl rfl ?_
    intro V_6 hV_6
    rcases z_ite h with ⟨c_9, h⟩ | ⟨c_9, h⟩
    · refine r_t2 (pc' := 30) (L' := []) hq (z_at.mk 3 rfl rfl) rfl hx1 hV_6 c_9 rfl rfl ?_
      refine r_p hq 1 (pc' := 33) (L' := []) (st' := [.long ((-9223372036854775808 : Int64))]) rfl ?_
      cases h
      exact r_rl hq (z_at.mk 1 rfl rfl) rfl (rfl : (-9223372036854775808 : Int64).toInt = -9223372036854775808) rfl H
    · refine r_f2 (pc' := 12) (L' := [(0, .ref 39), (1, .int X1)]) hq (z_at.mk 3 rfl rfl) rfl hx1 hV_6 c_9 rfl rfl ?_
      refine r_p hq 2 (pc' := 14) (L' := [(0, .ref 39), (1, .int X1)]) (st' := [.ref 39, .int X1]) rfl ?_
      refine r_gR (b := 128) (pc' := 17) (L' := [(0, .ref 39), (1, .int X1)]) H hq (z_at.mk 3 rfl rfl) rfl rfl rfl rfl ?_
      refine r_le (pc' := 18) (L' := [(0, .ref 39), (1, .int X1)]) H hq (z_at.mk 1 rfl rfl) (show zAr 128 1 8 = true from rfl) rfl rfl rfl ?_
      intro V_17 hV_17
      rcases z_ite h with ⟨c_18, h⟩ | ⟨c_18, h⟩
      · refine r_t2 (pc' := 30) (L' := []) hq (z_at.mk 3 rfl rfl) rfl hx1 hV_17 c_18 rfl rfl ?_
        refine r_p hq 1 (pc' := 33) (L' := []) (st' := [.long ((-9223372036854775808 : Int64))]) rfl ?_
        cases h
        exact r_rl hq (z_at.mk 1 rfl rfl) rfl (rfl : (-9223372036854775808 : Int64).toInt = -9223372036854775808) rfl H
      · refine r_f2 (pc' := 21) (L' := [(0, .ref 39), (1, .int X1)]) hq (z_at.mk 3 rfl rfl) rfl hx1 hV_17 c_18 rfl rfl ?_
        refine r_p hq 1 (pc' := 22) (L' := [(0, .ref 39), (1, .int X1)]) (st' := [.ref 39]) rfl ?_
        refine r_gR (b := 128) (pc' := 25) (L' := [(0, .ref 39), (1, .int X1)]) H hq (z_at.mk 3 rfl rfl) rfl rfl rfl rfl ?_
        refine r_p hq 1 (pc' := 26) (L' := [(0, .ref 39), (1, .int X1)]) (st' := [.int X1, .ref 128]) rfl ?_
        obtain ⟨g_26, h⟩ := z_ifo_some h
        refine r_la (pc' := 27) (L' := [(0, .ref 39), (1, .int X1)]) H hq (z_at.mk 1 rfl rfl) (show zAr 128 1 8 = true from rfl) hx1 g_26 rfl rfl ?_
        intro V_26 hV_26
        refine r_p hq 1 (pc' := 33) (L' := []) (st' := [.long V_26]) rfl ?_
        cases h
        exact r_rl hq (z_at.mk 1 rfl rfl) rfl hV_26 rfl H
def g_jAbstractStringBuilder_isLatin1 (σ : zS) : Option (Int × zS) :=
  if (1 : Int) = 0 then
    some (0, σ)
  else
    let v_7 := σ 129 1
    if v_7 ≠ 0 then
      some (0, σ)
    else
      some (1, σ)
set_option maxHeartbeats 4000000 in
theorem g_jAbstractStringBuilder_isLatin1_ok {xl : Nat} {xs : Nat → Int32} {σ : zS} {p : Nat} {m : zM} {o : Int × zS} (H : zRep xl xs p m σ) (h : g_jAbstractStringBuilder_isLatin1 σ = some o) : zGo xl xs (fun p' => p = p') 1 281 0 (z_can 281 0 (lv_args 0 [.ref 129])) [] m (vI o.1) o.2 := by
  have hq : z_mth 281 = some z_r281 := rfl
  unfold g_jAbstractStringBuilder_isLatin1 at h
  show zGo xl xs (fun p' => p = p') 1 281 0 [(0, .ref 129)] [] m (vI o.1) o.2
  refine r_p hq 1 (pc' := 3) (L' := [(0, .ref 129)]) (st' := [.int ((1 : Int32))]) rfl ?_
  rcases z_ite h with ⟨c_3, h⟩ | ⟨c_3, h⟩
  · refine r_t1 (pc' := 17) (L' := []) hq (z_at.mk 3 rfl rfl) rfl (show (1 : Int32).toInt = 1 from rfl) c_3 rfl rfl ?_
    refine r_p hq 1 (pc' := 18) (L' := []) (st' := [.int ((0 : Int32))]) rfl ?_
    cases h
    exact r_ri hq (z_at.mk 1 rfl rfl) rfl rfl (rfl : (0 : Int32).toInt = 0) rfl H
  · refine r_f1 (pc' := 6) (L' := [(0, .ref 129)]) hq (z_at.mk 3 rfl rfl) rfl (show (1 : Int32).toInt = 1 from rfl) c_3 rfl rfl ?_
    refine r_p hq 1 (pc' := 7) (L' := [(0, .ref 129)]) (st' := [.ref 129]) rfl ?_
    refine r_gI (pc' := 10) (L' := [(0, .ref 129)]) H hq (z_at.mk 3 rfl rfl) rfl rfl rfl rfl ?_
    intro V_7 hV_7
    rcases z_ite h with ⟨c_10, h⟩ | ⟨c_10, h⟩
    · refine r_t1 (pc' := 17) (L' := []) hq (z_at.mk 3 rfl rfl) rfl hV_7 c_10 rfl rfl ?_
      refine r_p hq 1 (pc' := 18) (L' := []) (st' := [.int ((0 : Int32))]) rfl ?_
      cases h
      exact r_ri hq (z_at.mk 1 rfl rfl) rfl rfl (rfl : (0 : Int32).toInt = 0) rfl H
    · refine r_f1 (pc' := 13) (L' := [(0, .ref 129)]) hq (z_at.mk 3 rfl rfl) rfl hV_7 c_10 rfl rfl ?_
      refine r_p hq 2 (pc' := 18) (L' := []) (st' := [.int ((1 : Int32))]) rfl ?_
      cases h
      exact r_ri hq (z_at.mk 1 rfl rfl) rfl rfl (rfl : (1 : Int32).toInt = 1) rfl H
def g_jInteger_getChars_L104 (x5 : Int) (x6 : Int) (σ : zS) : Option (Int × zS) :=
  if x6 = 0 then
    some (x5, σ)
  else
    if 0 ≤ w32 (x5 - 1) ∧ w32 (x5 - 1) < σ 169 0 then
    let s_117 := zu σ 168 (w32 (x5 - 1)) (w8 45)
    some (w32 (x5 - 1), s_117)
    else none
set_option maxHeartbeats 4000000 in
theorem g_jInteger_getChars_L104_ok {xl : Nat} {xs : Nat → Int32} {X5 : Int32} {x5 : Int} (hx5 : X5.toInt = x5) {X6 : Int32} {x6 : Int} (hx6 : X6.toInt = x6) {σ : zS} {p : Nat} {m : zM} {o : Int × zS} (H : zRep xl xs p m σ) (h : g_jInteger_getChars_L104 x5 x6 σ = some o) : zGo xl xs (fun p' => p = p') 1 284 104 [(2, .ref p), (5, .int X5), (6, .int X6)] [] m (vI o.1) o.2 := by
  have hq : z_mth 284 = some z_r284 := rfl
  unfold g_jInteger_getChars_L104 at h
  refine r_p hq 1 (pc' := 106) (L' := [(2, .ref p), (5, .int X5), (6, .int X6)]) (st' := [.int X6]) rfl ?_
  rcases z_ite h with ⟨c_106, h⟩ | ⟨c_106, h⟩
  · refine r_t1 (pc' := 118) (L' := [(5, .int X5)]) hq (z_at.mk 3 rfl rfl) rfl hx6 c_106 rfl rfl ?_
    refine r_p hq 1 (pc' := 120) (L' := [(5, .int X5)]) (st' := [.int X5]) rfl ?_
    cases h
    exact r_ri hq (z_at.mk 1 rfl rfl) rfl rfl hx5 rfl H
  · refine r_f1 (pc' := 109) (L' := [(2, .ref p), (5, .int X5), (6, .int X6)]) hq (z_at.mk 3 rfl rfl) rfl hx6 c_106 rfl rfl ?_
    refine r_p hq 4 (pc' := 117) (L' := [(5, .int (X5 + (-1 : Int32))), (2, .ref p), (6, .int X6)]) (st' := [.int ((45 : Int32)), .int (X5 + (-1 : Int32)), .ref p]) rfl ?_
    obtain ⟨g_117, h⟩ := z_ifo_some h
    refine r_bsP (pc' := 118) (L' := [(5, .int (X5 + (-1 : Int32)))]) H hq (z_at.mk 1 rfl rfl) (tx_iaddn hx5 (rfl : (-1 : Int32).toInt = -1)) g_117 (rfl : (45 : Int32).toInt = 45) rfl rfl ?_
    intro m_117 H_117
    refine r_p hq 1 (pc' := 120) (L' := [(5, .int (X5 + (-1 : Int32)))]) (st' := [.int (X5 + (-1 : Int32))]) rfl ?_
    cases h
    exact r_ri hq (z_at.mk 1 rfl rfl) rfl rfl (tx_iaddn hx5 (rfl : (-1 : Int32).toInt = -1)) rfl H_117
def g_jInteger_getChars_L22 : Nat → Int → Int → Int → zS → Option (Int × zS)
  | 0, _, _, _, _ => none
  | n + 1, x0, x5, x6, σ =>
    if -100 < x0 then
      if 0 ≤ w32 (-x0) ∧ w32 (-x0) < 100 then
      let v_83 := zs0 37 (w32 (-x0))
      if 0 ≤ w32 (x5 - 1) ∧ w32 (x5 - 1) < σ 169 0 then
      let s_84 := zu σ 168 (w32 (x5 - 1)) (w8 v_83)
      if -9 ≤ x0 then
        g_jInteger_getChars_L104 (w32 (x5 - 1)) x6 s_84
      else
        if 0 ≤ w32 (-x0) ∧ w32 (-x0) < 100 then
        let v_102 := zs0 38 (w32 (-x0))
        if 0 ≤ w32 ((w32 (x5 - 1)) - 1) ∧ w32 ((w32 (x5 - 1)) - 1) < s_84 169 0 then
        let s_103 := zu s_84 168 (w32 ((w32 (x5 - 1)) - 1)) (w8 v_102)
        g_jInteger_getChars_L104 (w32 ((w32 (x5 - 1)) - 1)) x6 s_103
        else none
        else none
      else none
      else none
    else
      if 0 ≤ w32 ((w32 ((w32 (Int.tdiv x0 100)) * 100)) - x0) ∧ w32 ((w32 ((w32 (Int.tdiv x0 100)) * 100)) - x0) < 100 then
      let v_54 := zs0 37 (w32 ((w32 ((w32 (Int.tdiv x0 100)) * 100)) - x0))
      if 0 ≤ w32 (x5 - 1) ∧ w32 (x5 - 1) < σ 169 0 then
      let s_55 := zu σ 168 (w32 (x5 - 1)) (w8 v_54)
      if 0 ≤ w32 ((w32 ((w32 (Int.tdiv x0 100)) * 100)) - x0) ∧ w32 ((w32 ((w32 (Int.tdiv x0 100)) * 100)) - x0) < 100 then
      let v_67 := zs0 38 (w32 ((w32 ((w32 (Int.tdiv x0 100)) * 100)) - x0))
      if 0 ≤ w32 ((w32 (x5 - 1)) - 1) ∧ w32 ((w32 (x5 - 1)) - 1) < s_55 169 0 then
      let s_68 := zu s_55 168 (w32 ((w32 (x5 - 1)) - 1)) (w8 v_67)
      (g_jInteger_getChars_L22 n) (w32 (Int.tdiv x0 100)) (w32 ((w32 (x5 - 1)) - 1)) x6 s_68
      else none
      else none
      else none
      else none
set_option maxHeartbeats 4000000 in
theorem g_jInteger_getChars_L22_ok {xl : Nat} {xs : Nat → Int32} : ∀ (n : Nat) {X0 : Int32} {x0 : Int} {X5 : Int32} {x5 : Int} {X6 : Int32} {x6 : Int} {σ : zS} {p : Nat} {m : zM} {o : Int × zS}, X0.toInt = x0 → X5.toInt = x5 → X6.toInt = x6 → zRep xl xs p m σ → g_jInteger_getChars_L22 n x0 x5 x6 σ = some o → zGo xl xs (fun p' => p = p') 1 284 22 [(0, .int X0), (2, .ref p), (5, .int X5), (6, .int X6)] [] m (vI o.1) o.2
  | 0, _, _, _, _, _, _, _, _, _, _, _, _, _, _, h => by cases h
  | n + 1, X0, x0, X5, x5, X6, x6, σ, p, m, o, hx0, hx5, hx6, H, h => by
    have hq : z_mth 284 = some z_r284 := rfl
    have ih := fun {X0 : Int32} {x0 : Int} {X5 : Int32} {x5 : Int} {X6 : Int32} {x6 : Int} {σ : zS} {p : Nat} {m : zM} {o : Int × zS} => g_jInteger_getChars_L22_ok (xl := xl) (xs := xs) n (X0 := X0) (x0 := x0) (X5 := X5) (x5 := x5) (X6 := X6) (x6 := x6) (σ := σ) (p := p) (m := m) (o := o)
    unfold g_jInteger_getChars_L22 at h
    refine r_p hq 2 (pc' := 25) (L' := [(0, .int X0), (2, .ref p), (5, .int X5), (6, .int X6)]) (st' := [.int ((-100 : Int32)), .int X0]) rfl ?_
    rcases z_ite h with ⟨c_25, h⟩ | ⟨c_25, h⟩
    · refine r_t2 (pc' := 72) (L' := [(0, .int X0), (2, .ref p), (5, .int X5), (6, .int X6)]) hq (z_at.mk 3 rfl rfl) rfl hx0 (rfl : (-100 : Int32).toInt = -100) c_25 rfl rfl ?_
      refine r_p hq 6 (pc' := 83) (L' := [(5, .int (X5 + (-1 : Int32))), (0, .int X0), (2, .ref p), (6, .int X6)]) (st' := [.int (-X0), .ref 37, .int (X5 + (-1 : Int32)), .ref p]) rfl ?_
      obtain ⟨g_83, h⟩ := z_ifo_some h
      refine r_ba0 (pc' := 84) (L' := [(5, .int (X5 + (-1 : Int32))), (0, .int X0), (2, .ref p), (6, .int X6)]) H hq (z_at.mk 1 rfl rfl) (show zAz 37 2 100 = true from rfl) (tx_ineg hx0) g_83 rfl rfl ?_
      intro V_83 hV_83
      obtain ⟨g_84, h⟩ := z_ifo_some h
      refine r_bsP (pc' := 85) (L' := [(5, .int (X5 + (-1 : Int32))), (0, .int X0), (2, .ref p), (6, .int X6)]) H hq (z_at.mk 1 rfl rfl) (tx_iaddn hx5 (rfl : (-1 : Int32).toInt = -1)) g_84 hV_83 rfl rfl ?_
      intro m_84 H_84
      refine r_p hq 2 (pc' := 88) (L' := [(5, .int (X5 + (-1 : Int32))), (0, .int X0), (2, .ref p), (6, .int X6)]) (st' := [.int ((-9 : Int32)), .int X0]) rfl ?_
      rcases z_ite h with ⟨c_88, h⟩ | ⟨c_88, h⟩
      · refine r_t2 (pc' := 104) (L' := [(2, .ref p), (5, .int (X5 + (-1 : Int32))), (6, .int X6)]) hq (z_at.mk 3 rfl rfl) rfl hx0 (rfl : (-9 : Int32).toInt = -9) c_88 rfl rfl ?_
        exact g_jInteger_getChars_L104_ok (tx_iaddn hx5 (rfl : (-1 : Int32).toInt = -1)) hx6 H_84 h
      · refine r_f2 (pc' := 91) (L' := [(5, .int (X5 + (-1 : Int32))), (0, .int X0), (2, .ref p), (6, .int X6)]) hq (z_at.mk 3 rfl rfl) rfl hx0 (rfl : (-9 : Int32).toInt = -9) c_88 rfl rfl ?_
        refine r_p hq 6 (pc' := 102) (L' := [(5, .int ((X5 + (-1 : Int32)) + (-1 : Int32))), (0, .int X0), (2, .ref p), (6, .int X6)]) (st' := [.int (-X0), .ref 38, .int ((X5 + (-1 : Int32)) + (-1 : Int32)), .ref p]) rfl ?_
        obtain ⟨g_102, h⟩ := z_ifo_some h
        refine r_ba0 (pc' := 103) (L' := [(5, .int ((X5 + (-1 : Int32)) + (-1 : Int32))), (0, .int X0), (2, .ref p), (6, .int X6)]) H_84 hq (z_at.mk 1 rfl rfl) (show zAz 38 2 100 = true from rfl) (tx_ineg hx0) g_102 rfl rfl ?_
        intro V_102 hV_102
        obtain ⟨g_103, h⟩ := z_ifo_some h
        refine r_bsP (pc' := 104) (L' := [(2, .ref p), (5, .int ((X5 + (-1 : Int32)) + (-1 : Int32))), (6, .int X6)]) H_84 hq (z_at.mk 1 rfl rfl) (tx_iaddn (tx_iaddn hx5 (rfl : (-1 : Int32).toInt = -1)) (rfl : (-1 : Int32).toInt = -1)) g_103 hV_102 rfl rfl ?_
        intro m_103 H_103
        exact g_jInteger_getChars_L104_ok (tx_iaddn (tx_iaddn hx5 (rfl : (-1 : Int32).toInt = -1)) (rfl : (-1 : Int32).toInt = -1)) hx6 H_103 h
    · refine r_f2 (pc' := 28) (L' := [(0, .int X0), (2, .ref p), (5, .int X5), (6, .int X6)]) hq (z_at.mk 3 rfl rfl) rfl hx0 (rfl : (-100 : Int32).toInt = -100) c_25 rfl rfl ?_
      refine r_p hq 2 (pc' := 31) (L' := [(0, .int X0), (2, .ref p), (5, .int X5), (6, .int X6)]) (st' := [.int ((100 : Int32)), .int X0]) rfl ?_
      refine r_idiv (pc' := 32) (L' := [(0, .int X0), (2, .ref p), (5, .int X5), (6, .int X6)]) hq (z_at.mk 1 rfl rfl) hx0 (rfl : (100 : Int32).toInt = 100) (by decide) rfl rfl ?_
      intro V_31 hV_31
      refine r_p hq 14 (pc' := 54) (L' := [(5, .int (X5 + (-1 : Int32))), (0, .int V_31), (4, .int ((V_31 * ((100 : Int32))) - X0)), (3, .int V_31), (2, .ref p), (6, .int X6)]) (st' := [.int ((V_31 * ((100 : Int32))) - X0), .ref 37, .int (X5 + (-1 : Int32)), .ref p]) rfl ?_
      obtain ⟨g_54, h⟩ := z_ifo_some h
      refine r_ba0 (pc' := 55) (L' := [(5, .int (X5 + (-1 : Int32))), (0, .int V_31), (4, .int ((V_31 * ((100 : Int32))) - X0)), (3, .int V_31), (2, .ref p), (6, .int X6)]) H hq (z_at.mk 1 rfl rfl) (show zAz 37 2 100 = true from rfl) (tx_isub (tx_imul hV_31 (rfl : (100 : Int32).toInt = 100)) hx0) g_54 rfl rfl ?_
      intro V_54 hV_54
      obtain ⟨g_55, h⟩ := z_ifo_some h
      refine r_bsP (pc' := 56) (L' := [(5, .int (X5 + (-1 : Int32))), (0, .int V_31), (4, .int ((V_31 * ((100 : Int32))) - X0)), (3, .int V_31), (2, .ref p), (6, .int X6)]) H hq (z_at.mk 1 rfl rfl) (tx_iaddn hx5 (rfl : (-1 : Int32).toInt = -1)) g_55 hV_54 rfl rfl ?_
      intro m_55 H_55
      refine r_p hq 5 (pc' := 67) (L' := [(5, .int ((X5 + (-1 : Int32)) + (-1 : Int32))), (0, .int V_31), (4, .int ((V_31 * ((100 : Int32))) - X0)), (3, .int V_31), (2, .ref p), (6, .int X6)]) (st' := [.int ((V_31 * ((100 : Int32))) - X0), .ref 38, .int ((X5 + (-1 : Int32)) + (-1 : Int32)), .ref p]) rfl ?_
      obtain ⟨g_67, h⟩ := z_ifo_some h
      refine r_ba0 (pc' := 68) (L' := [(5, .int ((X5 + (-1 : Int32)) + (-1 : Int32))), (0, .int V_31), (4, .int ((V_31 * ((100 : Int32))) - X0)), (3, .int V_31), (2, .ref p), (6, .int X6)]) H_55 hq (z_at.mk 1 rfl rfl) (show zAz 38 2 100 = true from rfl) (tx_isub (tx_imul hV_31 (rfl : (100 : Int32).toInt = 100)) hx0) g_67 rfl rfl ?_
      intro V_67 hV_67
      obtain ⟨g_68, h⟩ := z_ifo_some h
      refine r_bsP (pc' := 69) (L' := [(5, .int ((X5 + (-1 : Int32)) + (-1 : Int32))), (0, .int V_31), (4, .int ((V_31 * ((100 : Int32))) - X0)), (3, .int V_31), (2, .ref p), (6, .int X6)]) H_55 hq (z_at.mk 1 rfl rfl) (tx_iaddn (tx_iaddn hx5 (rfl : (-1 : Int32).toInt = -1)) (rfl : (-1 : Int32).toInt = -1)) g_68 hV_67 rfl rfl ?_
      intro m_68 H_68
      refine r_p hq 1 (pc' := 22) (L' := [(0, .int V_31), (2, .ref p), (5, .int ((X5 + (-1 : Int32)) + (-1 : Int32))), (6, .int X6)]) (st' := []) rfl ?_
      exact ih hV_31 (tx_iaddn (tx_iaddn hx5 (rfl : (-1 : Int32).toInt = -1)) (rfl : (-1 : Int32).toInt = -1)) hx6 H_68 h
def g_jInteger_getChars_L12 (x0 : Int) (x5 : Int) (xs0 : Int) (σ : zS) : Option (Int × zS) :=
  if xs0 ≠ 0 then
    g_jInteger_getChars_L22 zK x0 x5 xs0 σ
  else
    g_jInteger_getChars_L22 zK (w32 (-x0)) x5 xs0 σ
set_option maxHeartbeats 4000000 in
theorem g_jInteger_getChars_L12_ok {xl : Nat} {xs : Nat → Int32} {X0 : Int32} {x0 : Int} (hx0 : X0.toInt = x0) {X5 : Int32} {x5 : Int} (hx5 : X5.toInt = x5) {Xs0 : Int32} {xs0 : Int} (hxs0 : Xs0.toInt = xs0) {σ : zS} {p : Nat} {m : zM} {o : Int × zS} (H : zRep xl xs p m σ) (h : g_jInteger_getChars_L12 x0 x5 xs0 σ = some o) : zGo xl xs (fun p' => p = p') 1 284 12 [(0, .int X0), (2, .ref p), (5, .int X5)] [.int Xs0] m (vI o.1) o.2 := by
  have hq : z_mth 284 = some z_r284 := rfl
  unfold g_jInteger_getChars_L12 at h
  refine r_p hq 2 (pc' := 16) (L' := [(6, .int Xs0), (0, .int X0), (2, .ref p), (5, .int X5)]) (st' := [.int Xs0]) rfl ?_
  rcases z_ite h with ⟨c_16, h⟩ | ⟨c_16, h⟩
  · refine r_t1 (pc' := 22) (L' := [(0, .int X0), (2, .ref p), (5, .int X5), (6, .int Xs0)]) hq (z_at.mk 3 rfl rfl) rfl hxs0 c_16 rfl rfl ?_
    exact g_jInteger_getChars_L22_ok zK hx0 hx5 hxs0 H h
  · refine r_f1 (pc' := 19) (L' := [(6, .int Xs0), (0, .int X0), (2, .ref p), (5, .int X5)]) hq (z_at.mk 3 rfl rfl) rfl hxs0 c_16 rfl rfl ?_
    refine r_p hq 3 (pc' := 22) (L' := [(0, .int (-X0)), (2, .ref p), (5, .int X5), (6, .int Xs0)]) (st' := []) rfl ?_
    exact g_jInteger_getChars_L22_ok zK (tx_ineg hx0) hx5 hxs0 H h
def g_jInteger_getChars (x0 : Int) (x1 : Int) (σ : zS) : Option (Int × zS) :=
  if 0 ≤ x0 then
    g_jInteger_getChars_L12 x0 x1 0 σ
  else
    g_jInteger_getChars_L12 x0 x1 1 σ
set_option maxHeartbeats 4000000 in
theorem g_jInteger_getChars_ok {xl : Nat} {xs : Nat → Int32} {X0 : Int32} {x0 : Int} (hx0 : X0.toInt = x0) {X1 : Int32} {x1 : Int} (hx1 : X1.toInt = x1) {σ : zS} {p : Nat} {m : zM} {o : Int × zS} (H : zRep xl xs p m σ) (h : g_jInteger_getChars x0 x1 σ = some o) : zGo xl xs (fun p' => p = p') 1 284 0 (z_can 284 0 (lv_args 0 [.int X0, .int X1, .ref p])) [] m (vI o.1) o.2 := by
  have hq : z_mth 284 = some z_r284 := rfl
  unfold g_jInteger_getChars at h
  show zGo xl xs (fun p' => p = p') 1 284 0 [(0, .int X0), (1, .int X1), (2, .ref p)] [] m (vI o.1) o.2
  refine r_p hq 3 (pc' := 4) (L' := [(5, .int X1), (0, .int X0), (1, .int X1), (2, .ref p)]) (st' := [.int X0]) rfl ?_
  rcases z_ite h with ⟨c_4, h⟩ | ⟨c_4, h⟩
  · refine r_t1 (pc' := 11) (L' := [(5, .int X1), (0, .int X0), (1, .int X1), (2, .ref p)]) hq (z_at.mk 3 rfl rfl) rfl hx0 c_4 rfl rfl ?_
    refine r_p hq 1 (pc' := 12) (L' := [(0, .int X0), (2, .ref p), (5, .int X1)]) (st' := [.int ((0 : Int32))]) rfl ?_
    exact g_jInteger_getChars_L12_ok hx0 hx1 (rfl : (0 : Int32).toInt = 0) H h
  · refine r_f1 (pc' := 7) (L' := [(5, .int X1), (0, .int X0), (1, .int X1), (2, .ref p)]) hq (z_at.mk 3 rfl rfl) rfl hx0 c_4 rfl rfl ?_
    refine r_p hq 2 (pc' := 12) (L' := [(0, .int X0), (2, .ref p), (5, .int X1)]) (st' := [.int ((1 : Int32))]) rfl ?_
    exact g_jInteger_getChars_L12_ok hx0 hx1 (rfl : (1 : Int32).toInt = 1) H h
def g_jInteger_stringSize_L16 : Nat → Int → Int → Int → Int → zS → Option (Int × zS)
  | 0, _, _, _, _, _ => none
  | n + 1, x0, x1, x2, x3, σ =>
    if 10 ≤ x3 then
      some (w32 (10 + x1), σ)
    else
      if x0 ≤ x2 then
        (g_jInteger_stringSize_L16 n) x0 x1 (w32 (10 * x2)) (w32 (x3 + 1)) σ
      else
        some (w32 (x3 + x1), σ)
set_option maxHeartbeats 4000000 in
theorem g_jInteger_stringSize_L16_ok {xl : Nat} {xs : Nat → Int32} : ∀ (n : Nat) {X0 : Int32} {x0 : Int} {X1 : Int32} {x1 : Int} {X2 : Int32} {x2 : Int} {X3 : Int32} {x3 : Int} {σ : zS} {p : Nat} {m : zM} {o : Int × zS}, X0.toInt = x0 → X1.toInt = x1 → X2.toInt = x2 → X3.toInt = x3 → zRep xl xs p m σ → g_jInteger_stringSize_L16 n x0 x1 x2 x3 σ = some o → zGo xl xs (fun p' => p = p') 1 285 16 [(0, .int X0), (1, .int X1), (2, .int X2), (3, .int X3)] [] m (vI o.1) o.2
  | 0, _, _, _, _, _, _, _, _, _, _, _, _, _, _, _, _, _, h => by cases h
  | n + 1, X0, x0, X1, x1, X2, x2, X3, x3, σ, p, m, o, hx0, hx1, hx2, hx3, H, h => by
    have hq : z_mth 285 = some z_r285 := rfl
    have ih := fun {X0 : Int32} {x0 : Int} {X1 : Int32} {x1 : Int} {X2 : Int32} {x2 : Int} {X3 : Int32} {x3 : Int} {σ : zS} {p : Nat} {m : zM} {o : Int × zS} => g_jInteger_stringSize_L16_ok (xl := xl) (xs := xs) n (X0 := X0) (x0 := x0) (X1 := X1) (x1 := x1) (X2 := X2) (x2 := x2) (X3 := X3) (x3 := x3) (σ := σ) (p := p) (m := m) (o := o)
    unfold g_jInteger_stringSize_L16 at h
    refine r_p hq 2 (pc' := 19) (L' := [(0, .int X0), (1, .int X1), (2, .int X2), (3, .int X3)]) (st' := [.int ((10 : Int32)), .int X3]) rfl ?_
    rcases z_ite h with ⟨c_19, h⟩ | ⟨c_19, h⟩
    · refine r_t2 (pc' := 42) (L' := [(0, .int X0), (1, .int X1), (2, .int X2), (3, .int X3)]) hq (z_at.mk 3 rfl rfl) rfl hx3 (rfl : (10 : Int32).toInt = 10) c_19 rfl rfl ?_
      refine r_p hq 3 (pc' := 46) (L' := [(0, .int X0), (1, .int X1), (2, .int X2), (3, .int X3)]) (st' := [.int (((10 : Int32)) + X1)]) rfl ?_
      cases h
      exact r_ri hq (z_at.mk 1 rfl rfl) rfl rfl (tx_iadd (rfl : (10 : Int32).toInt = 10) hx1) rfl H
    · refine r_f2 (pc' := 22) (L' := [(0, .int X0), (1, .int X1), (2, .int X2), (3, .int X3)]) hq (z_at.mk 3 rfl rfl) rfl hx3 (rfl : (10 : Int32).toInt = 10) c_19 rfl rfl ?_
      refine r_p hq 2 (pc' := 24) (L' := [(0, .int X0), (1, .int X1), (2, .int X2), (3, .int X3)]) (st' := [.int X2, .int X0]) rfl ?_
      rcases z_ite h with ⟨c_24, h⟩ | ⟨c_24, h⟩
      · refine r_t2 (pc' := 31) (L' := [(0, .int X0), (1, .int X1), (2, .int X2), (3, .int X3)]) hq (z_at.mk 3 rfl rfl) rfl hx0 hx2 c_24 rfl rfl ?_
        refine r_p hq 6 (pc' := 16) (L' := [(0, .int X0), (1, .int X1), (2, .int (((10 : Int32)) * X2)), (3, .int (X3 + (1 : Int32)))]) (st' := []) rfl ?_
        exact ih hx0 hx1 (tx_imul (rfl : (10 : Int32).toInt = 10) hx2) (tx_iadd hx3 (rfl : (1 : Int32).toInt = 1)) H h
      · refine r_f2 (pc' := 27) (L' := [(0, .int X0), (1, .int X1), (2, .int X2), (3, .int X3)]) hq (z_at.mk 3 rfl rfl) rfl hx0 hx2 c_24 rfl rfl ?_
        refine r_p hq 3 (pc' := 30) (L' := [(0, .int X0), (1, .int X1), (2, .int X2), (3, .int X3)]) (st' := [.int (X3 + X1)]) rfl ?_
        cases h
        exact r_ri hq (z_at.mk 1 rfl rfl) rfl rfl (tx_iadd hx3 hx1) rfl H
def g_jInteger_stringSize_L11 (x0 : Int) (x1 : Int) (σ : zS) : Option (Int × zS) :=
  g_jInteger_stringSize_L16 zK x0 x1 (-10) 1 σ
set_option maxHeartbeats 4000000 in
theorem g_jInteger_stringSize_L11_ok {xl : Nat} {xs : Nat → Int32} {X0 : Int32} {x0 : Int} (hx0 : X0.toInt = x0) {X1 : Int32} {x1 : Int} (hx1 : X1.toInt = x1) {σ : zS} {p : Nat} {m : zM} {o : Int × zS} (H : zRep xl xs p m σ) (h : g_jInteger_stringSize_L11 x0 x1 σ = some o) : zGo xl xs (fun p' => p = p') 1 285 11 [(0, .int X0), (1, .int X1)] [] m (vI o.1) o.2 := by
  have hq : z_mth 285 = some z_r285 := rfl
  unfold g_jInteger_stringSize_L11 at h
  refine r_p hq 4 (pc' := 16) (L' := [(0, .int X0), (1, .int X1), (2, .int ((-10 : Int32))), (3, .int ((1 : Int32)))]) (st' := []) rfl ?_
  exact g_jInteger_stringSize_L16_ok zK hx0 hx1 (rfl : (-10 : Int32).toInt = -10) (rfl : (1 : Int32).toInt = 1) H h
def g_jInteger_stringSize (x0 : Int) (σ : zS) : Option (Int × zS) :=
  if x0 < 0 then
    g_jInteger_stringSize_L11 x0 1 σ
  else
    g_jInteger_stringSize_L11 (w32 (-x0)) 0 σ
set_option maxHeartbeats 4000000 in
theorem g_jInteger_stringSize_ok {xl : Nat} {xs : Nat → Int32} {X0 : Int32} {x0 : Int} (hx0 : X0.toInt = x0) {σ : zS} {p : Nat} {m : zM} {o : Int × zS} (H : zRep xl xs p m σ) (h : g_jInteger_stringSize x0 σ = some o) : zGo xl xs (fun p' => p = p') 1 285 0 (z_can 285 0 (lv_args 0 [.int X0])) [] m (vI o.1) o.2 := by
  have hq : z_mth 285 = some z_r285 := rfl
  unfold g_jInteger_stringSize at h
  show zGo xl xs (fun p' => p = p') 1 285 0 [(0, .int X0)] [] m (vI o.1) o.2
  refine r_p hq 3 (pc' := 3) (L' := [(1, .int ((1 : Int32))), (0, .int X0)]) (st' := [.int X0]) rfl ?_
  rcases z_ite h with ⟨c_3, h⟩ | ⟨c_3, h⟩
  · refine r_t1 (pc' := 11) (L' := [(0, .int X0), (1, .int ((1 : Int32)))]) hq (z_at.mk 3 rfl rfl) rfl hx0 c_3 rfl rfl ?_
    exact g_jInteger_stringSize_L11_ok hx0 (rfl : (1 : Int32).toInt = 1) H h
  · refine r_f1 (pc' := 6) (L' := [(1, .int ((1 : Int32))), (0, .int X0)]) hq (z_at.mk 3 rfl rfl) rfl hx0 c_3 rfl rfl ?_
    refine r_p hq 5 (pc' := 11) (L' := [(0, .int (-X0)), (1, .int ((0 : Int32)))]) (st' := []) rfl ?_
    exact g_jInteger_stringSize_L11_ok (tx_ineg hx0) (rfl : (0 : Int32).toInt = 0) H h
def g_jAbstractStringBuilder_append_280_L48 (x3 : Int) (σ : zS) : Option (Unit × zS) :=
  let s_50 := zu σ 129 3 x3
  some ((), s_50)
set_option maxHeartbeats 4000000 in
theorem g_jAbstractStringBuilder_append_280_L48_ok {xl : Nat} {xs : Nat → Int32} {X3 : Int32} {x3 : Int} (hx3 : X3.toInt = x3) {σ : zS} {p : Nat} {m : zM} {o : Unit × zS} (H : zRep xl xs p m σ) (h : g_jAbstractStringBuilder_append_280_L48 x3 σ = some o) : zGo xl xs (fun _ => True) 11 280 48 [(0, .ref 129), (3, .int X3)] [] m (vR (129)) o.2 := by
  have hq : z_mth 280 = some z_r280 := rfl
  unfold g_jAbstractStringBuilder_append_280_L48 at h
  refine r_p hq 2 (pc' := 50) (L' := [(0, .ref 129), (3, .int X3)]) (st' := [.int X3, .ref 129]) rfl ?_
  refine r_pI (X := X3) (pc' := 53) (L' := [(0, .ref 129), (3, .int X3)]) H hq (z_at.mk 3 rfl rfl) rfl rfl hx3 (by decide) rfl rfl rfl rfl ?_
  intro m_50 H_50
  refine r_p hq 1 (pc' := 54) (L' := [(0, .ref 129), (3, .int X3)]) (st' := [.ref 129]) rfl ?_
  cases h
  exact r_ra hq (z_at.mk 1 rfl rfl) rfl trivial H_50
def g_jAbstractStringBuilder_append_280 (x1 : Int) (σ : zS) : Option (Unit × zS) :=
  let v_1 := σ 129 3
  (g_jInteger_stringSize x1 σ).bind fun o_7 =>
  (g_sb_ensure (w32 (v_1 + o_7.1)) o_7.2).bind fun o_14 =>
  (g_jAbstractStringBuilder_isLatin1 o_14.2).bind fun o_18 =>
  if o_18.1 = 0 then
    none
  else
    (g_jInteger_getChars x1 (w32 (v_1 + o_7.1)) o_18.2).bind fun o_30 =>
    g_jAbstractStringBuilder_append_280_L48 (w32 (v_1 + o_7.1)) o_30.2
set_option maxHeartbeats 4000000 in
theorem g_jAbstractStringBuilder_append_280_ok {xl : Nat} {xs : Nat → Int32} {X1 : Int32} {x1 : Int} (hx1 : X1.toInt = x1) {σ : zS} {p : Nat} {m : zM} {o : Unit × zS} (H : zRep xl xs p m σ) (h : g_jAbstractStringBuilder_append_280 x1 σ = some o) : zGo xl xs (fun _ => True) 11 280 0 (z_can 280 0 (lv_args 0 [.ref 129, .int X1])) [] m (vR (129)) o.2 := by
  have hq : z_mth 280 = some z_r280 := rfl
  unfold g_jAbstractStringBuilder_append_280 at h
  show zGo xl xs (fun _ => True) 11 280 0 [(0, .ref 129), (1, .int X1)] [] m (vR (129)) o.2
  refine r_p hq 1 (pc' := 1) (L' := [(0, .ref 129), (1, .int X1)]) (st' := [.ref 129]) rfl ?_
  refine r_gI (pc' := 4) (L' := [(0, .ref 129), (1, .int X1)]) H hq (z_at.mk 3 rfl rfl) rfl rfl rfl rfl ?_
  intro V_1 hV_1
  refine r_p hq 3 (pc' := 7) (L' := [(2, .int V_1), (0, .ref 129), (1, .int X1)]) (st' := [.int X1, .int V_1]) rfl ?_
  obtain ⟨o_7, h_7, h⟩ := Option.bind_eq_some_iff.mp h
  refine r_csI (pc' := 10) (L' := [(2, .int V_1), (0, .ref 129), (1, .int X1)]) (As := [.int X1]) (rest := [.int V_1]) (j := 285) hq (z_at.mk 3 rfl rfl) (Or.inl ⟨rfl, rfl⟩) rfl rfl (by omega) (g_jInteger_stringSize_ok hx1 H h_7) rfl rfl ?_
  intro R_7 m_7 p_7 e_7 hR_7 H_7
  subst e_7
  refine r_p hq 4 (pc' := 14) (L' := [(3, .int (V_1 + R_7)), (2, .int V_1), (0, .ref 129), (1, .int X1)]) (st' := [.int (V_1 + R_7), .ref 129]) rfl ?_
  obtain ⟨o_14, h_14, h⟩ := Option.bind_eq_some_iff.mp h
  refine r_cvV (pc' := 17) (L' := [(3, .int (V_1 + R_7)), (2, .int V_1), (0, .ref 129), (1, .int X1)]) (Ps := [.int (V_1 + R_7)]) (rest := []) hq (z_at.mk 3 rfl rfl) (Or.inl ⟨rfl, rfl⟩) rfl rfl (by decide) (by decide) rfl (Nat.not_lt.mpr (Nat.le_of_ble_eq_true rfl)) rfl rfl (z_cat_le 0 rfl (by decide)) (z_lgl_le 2 rfl (by decide)) (by decide) (H_7.tg rfl) (by omega) (g_sb_ensure_ok (tx_iadd hV_1 hR_7) H_7 h_14) rfl rfl ?_
  intro m_14 p_14 e_14 H_14
  refine r_p hq 1 (pc' := 18) (L' := [(3, .int (V_1 + R_7)), (2, .int V_1), (0, .ref 129), (1, .int X1)]) (st' := [.ref 129]) rfl ?_
  obtain ⟨o_18, h_18, h⟩ := Option.bind_eq_some_iff.mp h
  refine r_cvI (pc' := 21) (L' := [(3, .int (V_1 + R_7)), (2, .int V_1), (0, .ref 129), (1, .int X1)]) (Ps := []) (rest := []) hq (z_at.mk 3 rfl rfl) (Or.inl ⟨rfl, rfl⟩) rfl rfl (by decide) (by decide) rfl (Nat.not_lt.mpr (Nat.le_of_ble_eq_true rfl)) rfl rfl (z_cat_le 0 rfl (by decide)) (z_lgl_le 1 rfl (by decide)) (by decide) (H_14.tg rfl) (by omega) (g_jAbstractStringBuilder_isLatin1_ok H_14 h_18) rfl rfl ?_
  intro R_18 m_18 p_18 e_18 hR_18 H_18
  subst e_18
  rcases z_ite h with ⟨c_21, h⟩ | ⟨c_21, h⟩
  · refine r_t1 (pc' := 37) (L' := [(3, .int (V_1 + R_7)), (2, .int V_1), (0, .ref 129), (1, .int X1)]) hq (z_at.mk 3 rfl rfl) rfl hR_18 c_21 rfl rfl ?_
    refine r_p hq 4 (pc' := 41) (L' := [(3, .int (V_1 + R_7)), (2, .int V_1), (0, .ref 129), (1, .int X1)]) (st' := [.ref 129, .int (V_1 + R_7), .int V_1, .int X1]) rfl ?_
    refine r_gP (pc' := 44) (L' := [(3, .int (V_1 + R_7)), (2, .int V_1), (0, .ref 129), (1, .int X1)]) H_18 hq (z_at.mk 3 rfl rfl) rfl rfl rfl ?_
    cases h
  · refine r_f1 (pc' := 24) (L' := [(3, .int (V_1 + R_7)), (2, .int V_1), (0, .ref 129), (1, .int X1)]) hq (z_at.mk 3 rfl rfl) rfl hR_18 c_21 rfl rfl ?_
    refine r_p hq 3 (pc' := 27) (L' := [(3, .int (V_1 + R_7)), (2, .int V_1), (0, .ref 129), (1, .int X1)]) (st' := [.ref 129, .int (V_1 + R_7), .int X1]) rfl ?_
    refine r_gP (pc' := 30) (L' := [(3, .int (V_1 + R_7)), (2, .int V_1), (0, .ref 129), (1, .int X1)]) H_18 hq (z_at.mk 3 rfl rfl) rfl rfl rfl ?_
    obtain ⟨o_30, h_30, h⟩ := Option.bind_eq_some_iff.mp h
    refine r_csI (pc' := 33) (L' := [(3, .int (V_1 + R_7)), (2, .int V_1), (0, .ref 129), (1, .int X1)]) (As := [.int X1, .int (V_1 + R_7), .ref p_14]) (rest := []) (j := 284) hq (z_at.mk 3 rfl rfl) (Or.inl ⟨rfl, rfl⟩) rfl rfl (by omega) (g_jInteger_getChars_ok hx1 (tx_iadd hV_1 hR_7) H_18 h_30) rfl rfl ?_
    intro R_30 m_30 p_30 e_30 hR_30 H_30
    subst e_30
    refine r_p hq 2 (pc' := 48) (L' := [(0, .ref 129), (3, .int (V_1 + R_7))]) (st' := []) rfl ?_
    exact g_jAbstractStringBuilder_append_280_L48_ok (tx_iadd hV_1 hR_7) H_30 h
end
