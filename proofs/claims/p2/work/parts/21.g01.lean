/-! THE METHODS over the typed memory, 1 (by wip/zg.py) -/
def g_so_rowsIn (x1 : Int) (σ : zS) : Option (Int × zS) :=
  (g_b_x1 x1 σ).bind fun o_5 =>
  if 0 ≤ w32 (o_5.1 + 1) ∧ w32 (o_5.1 + 1) < 33 then
  let v_10 := o_5.2 46 (w32 (o_5.1 + 1))
  (g_b_x0 x1 o_5.2).bind fun o_16 =>
  if 0 ≤ o_16.1 ∧ o_16.1 < 33 then
  let v_19 := o_16.2 46 o_16.1
  (g_b_y1 x1 o_16.2).bind fun o_30 =>
  if 0 ≤ w32 (o_30.1 + 1) ∧ w32 (o_30.1 + 1) < 33 then
  let v_35 := o_30.2 47 (w32 (o_30.1 + 1))
  (g_b_y0 x1 o_30.2).bind fun o_42 =>
  if 0 ≤ o_42.1 ∧ o_42.1 < 33 then
  let v_45 := o_42.2 47 o_42.1
  some (lAnd (lAnd (lAnd v_10 (lXor v_19 (-1))) v_35) (lXor v_45 (-1)), o_42.2)
  else none
  else none
  else none
  else none
set_option maxHeartbeats 4000000 in
theorem g_so_rowsIn_ok {xl : Nat} {xs : Nat → Int32} {X1 : Int32} {x1 : Int} (hx1 : X1.toInt = x1) {σ : zS} {p : Nat} {m : zM} {o : Int × zS} (H : zRep xl xs p m σ) (h : g_so_rowsIn x1 σ = some o) : zGo xl xs (fun p' => p = p') 2 82 0 (z_can 82 0 (lv_args 0 [.ref 41, .int X1])) [] m (vL o.1) o.2 := by
  have hq : z_mth 82 = some z_r82 := rfl
  unfold g_so_rowsIn at h
  show zGo xl xs (fun p' => p = p') 2 82 0 [(0, .ref 41), (1, .int X1)] [] m (vL o.1) o.2
  refine r_p hq 1 (pc' := 1) (L' := [(0, .ref 41), (1, .int X1)]) (st' := [.ref 41]) rfl ?_
  refine r_gR (b := 46) (pc' := 4) (L' := [(0, .ref 41), (1, .int X1)]) H hq (z_at.mk 3 rfl rfl) rfl rfl rfl rfl ?_
  refine r_p hq 1 (pc' := 5) (L' := [(0, .ref 41), (1, .int X1)]) (st' := [.int X1, .ref 46]) rfl ?_
  obtain ⟨o_5, h_5, h⟩ := Option.bind_eq_some_iff.mp h
  refine r_csI (pc' := 8) (L' := [(0, .ref 41), (1, .int X1)]) (As := [.int X1]) (rest := [.ref 46]) (j := 5) hq (z_at.mk 3 rfl rfl) (Or.inl ⟨rfl, rfl⟩) rfl rfl (by omega) (g_b_x1_ok hx1 H h_5) rfl rfl ?_
  intro R_5 m_5 p_5 e_5 hR_5 H_5
  subst e_5
  refine r_p hq 2 (pc' := 10) (L' := [(0, .ref 41), (1, .int X1)]) (st' := [.int (R_5 + ((1 : Int32))), .ref 46]) rfl ?_
  obtain ⟨g_10, h⟩ := z_ifo_some h
  refine r_la (pc' := 11) (L' := [(0, .ref 41), (1, .int X1)]) H_5 hq (z_at.mk 1 rfl rfl) (show zAr 46 1 33 = true from rfl) (tx_iadd hR_5 (rfl : (1 : Int32).toInt = 1)) g_10 rfl rfl ?_
  intro V_10 hV_10
  refine r_p hq 1 (pc' := 12) (L' := [(0, .ref 41), (1, .int X1)]) (st' := [.ref 41, .long V_10]) rfl ?_
  refine r_gR (b := 46) (pc' := 15) (L' := [(0, .ref 41), (1, .int X1)]) H_5 hq (z_at.mk 3 rfl rfl) rfl rfl rfl rfl ?_
  refine r_p hq 1 (pc' := 16) (L' := [(0, .ref 41), (1, .int X1)]) (st' := [.int X1, .ref 46, .long V_10]) rfl ?_
  obtain ⟨o_16, h_16, h⟩ := Option.bind_eq_some_iff.mp h
  refine r_csI (pc' := 19) (L' := [(0, .ref 41), (1, .int X1)]) (As := [.int X1]) (rest := [.ref 46, .long V_10]) (j := 4) hq (z_at.mk 3 rfl rfl) (Or.inl ⟨rfl, rfl⟩) rfl rfl (by omega) (g_b_x0_ok hx1 H_5 h_16) rfl rfl ?_
  intro R_16 m_16 p_16 e_16 hR_16 H_16
  subst e_16
  obtain ⟨g_19, h⟩ := z_ifo_some h
  refine r_la (pc' := 20) (L' := [(0, .ref 41), (1, .int X1)]) H_16 hq (z_at.mk 1 rfl rfl) (show zAr 46 1 33 = true from rfl) hR_16 g_19 rfl rfl ?_
  intro V_19 hV_19
  refine r_p hq 4 (pc' := 26) (L' := [(0, .ref 41), (1, .int X1)]) (st' := [.ref 41, .long (V_10 &&& (V_19 ^^^ ((-1 : Int64))))]) rfl ?_
  refine r_gR (b := 47) (pc' := 29) (L' := [(0, .ref 41), (1, .int X1)]) H_16 hq (z_at.mk 3 rfl rfl) rfl rfl rfl rfl ?_
  refine r_p hq 1 (pc' := 30) (L' := [(0, .ref 41), (1, .int X1)]) (st' := [.int X1, .ref 47, .long (V_10 &&& (V_19 ^^^ ((-1 : Int64))))]) rfl ?_
  obtain ⟨o_30, h_30, h⟩ := Option.bind_eq_some_iff.mp h
  refine r_csI (pc' := 33) (L' := [(0, .ref 41), (1, .int X1)]) (As := [.int X1]) (rest := [.ref 47, .long (V_10 &&& (V_19 ^^^ ((-1 : Int64))))]) (j := 7) hq (z_at.mk 3 rfl rfl) (Or.inl ⟨rfl, rfl⟩) rfl rfl (by omega) (g_b_y1_ok hx1 H_16 h_30) rfl rfl ?_
  intro R_30 m_30 p_30 e_30 hR_30 H_30
  subst e_30
  refine r_p hq 2 (pc' := 35) (L' := [(0, .ref 41), (1, .int X1)]) (st' := [.int (R_30 + ((1 : Int32))), .ref 47, .long (V_10 &&& (V_19 ^^^ ((-1 : Int64))))]) rfl ?_
  obtain ⟨g_35, h⟩ := z_ifo_some h
  refine r_la (pc' := 36) (L' := [(0, .ref 41), (1, .int X1)]) H_30 hq (z_at.mk 1 rfl rfl) (show zAr 47 1 33 = true from rfl) (tx_iadd hR_30 (rfl : (1 : Int32).toInt = 1)) g_35 rfl rfl ?_
  intro V_35 hV_35
  refine r_p hq 2 (pc' := 38) (L' := [(0, .ref 41), (1, .int X1)]) (st' := [.ref 41, .long ((V_10 &&& (V_19 ^^^ ((-1 : Int64)))) &&& V_35)]) rfl ?_
  refine r_gR (b := 47) (pc' := 41) (L' := [(0, .ref 41), (1, .int X1)]) H_30 hq (z_at.mk 3 rfl rfl) rfl rfl rfl rfl ?_
  refine r_p hq 1 (pc' := 42) (L' := [(0, .ref 41), (1, .int X1)]) (st' := [.int X1, .ref 47, .long ((V_10 &&& (V_19 ^^^ ((-1 : Int64)))) &&& V_35)]) rfl ?_
  obtain ⟨o_42, h_42, h⟩ := Option.bind_eq_some_iff.mp h
  refine r_csI (pc' := 45) (L' := [(0, .ref 41), (1, .int X1)]) (As := [.int X1]) (rest := [.ref 47, .long ((V_10 &&& (V_19 ^^^ ((-1 : Int64)))) &&& V_35)]) (j := 6) hq (z_at.mk 3 rfl rfl) (Or.inl ⟨rfl, rfl⟩) rfl rfl (by omega) (g_b_y0_ok hx1 H_30 h_42) rfl rfl ?_
  intro R_42 m_42 p_42 e_42 hR_42 H_42
  subst e_42
  obtain ⟨g_45, h⟩ := z_ifo_some h
  refine r_la (pc' := 46) (L' := [(0, .ref 41), (1, .int X1)]) H_42 hq (z_at.mk 1 rfl rfl) (show zAr 47 1 33 = true from rfl) hR_42 g_45 rfl rfl ?_
  intro V_45 hV_45
  refine r_p hq 3 (pc' := 51) (L' := [(0, .ref 41), (1, .int X1)]) (st' := [.long (((V_10 &&& (V_19 ^^^ ((-1 : Int64)))) &&& V_35) &&& (V_45 ^^^ ((-1 : Int64))))]) rfl ?_
  cases h
  exact r_rl hq (z_at.mk 1 rfl rfl) rfl (tx_land (tx_land (tx_land hV_10 (tx_lxor hV_19 (rfl : (-1 : Int64).toInt = -1))) hV_35) (tx_lxor hV_45 (rfl : (-1 : Int64).toInt = -1))) rfl H_42
def g_jLong_bitCount (y0 : Int) (σ : zS) : Option (Int × zS) :=
  some (iAnd (w32 (w64 ((w64 ((w64 ((lAnd (w64 ((w64 ((lAnd (w64 (y0 - (lAnd (lUshr y0 1) 6148914691236517205))) 3689348814741910323) + (lAnd (lUshr (w64 (y0 - (lAnd (lUshr y0 1) 6148914691236517205))) 2) 3689348814741910323))) + (lUshr (w64 ((lAnd (w64 (y0 - (lAnd (lUshr y0 1) 6148914691236517205))) 3689348814741910323) + (lAnd (lUshr (w64 (y0 - (lAnd (lUshr y0 1) 6148914691236517205))) 2) 3689348814741910323))) 4))) 1085102592571150095) + (lUshr (lAnd (w64 ((w64 ((lAnd (w64 (y0 - (lAnd (lUshr y0 1) 6148914691236517205))) 3689348814741910323) + (lAnd (lUshr (w64 (y0 - (lAnd (lUshr y0 1) 6148914691236517205))) 2) 3689348814741910323))) + (lUshr (w64 ((lAnd (w64 (y0 - (lAnd (lUshr y0 1) 6148914691236517205))) 3689348814741910323) + (lAnd (lUshr (w64 (y0 - (lAnd (lUshr y0 1) 6148914691236517205))) 2) 3689348814741910323))) 4))) 1085102592571150095) 8))) + (lUshr (w64 ((lAnd (w64 ((w64 ((lAnd (w64 (y0 - (lAnd (lUshr y0 1) 6148914691236517205))) 3689348814741910323) + (lAnd (lUshr (w64 (y0 - (lAnd (lUshr y0 1) 6148914691236517205))) 2) 3689348814741910323))) + (lUshr (w64 ((lAnd (w64 (y0 - (lAnd (lUshr y0 1) 6148914691236517205))) 3689348814741910323) + (lAnd (lUshr (w64 (y0 - (lAnd (lUshr y0 1) 6148914691236517205))) 2) 3689348814741910323))) 4))) 1085102592571150095) + (lUshr (lAnd (w64 ((w64 ((lAnd (w64 (y0 - (lAnd (lUshr y0 1) 6148914691236517205))) 3689348814741910323) + (lAnd (lUshr (w64 (y0 - (lAnd (lUshr y0 1) 6148914691236517205))) 2) 3689348814741910323))) + (lUshr (w64 ((lAnd (w64 (y0 - (lAnd (lUshr y0 1) 6148914691236517205))) 3689348814741910323) + (lAnd (lUshr (w64 (y0 - (lAnd (lUshr y0 1) 6148914691236517205))) 2) 3689348814741910323))) 4))) 1085102592571150095) 8))) 16))) + (lUshr (w64 ((w64 ((lAnd (w64 ((w64 ((lAnd (w64 (y0 - (lAnd (lUshr y0 1) 6148914691236517205))) 3689348814741910323) + (lAnd (lUshr (w64 (y0 - (lAnd (lUshr y0 1) 6148914691236517205))) 2) 3689348814741910323))) + (lUshr (w64 ((lAnd (w64 (y0 - (lAnd (lUshr y0 1) 6148914691236517205))) 3689348814741910323) + (lAnd (lUshr (w64 (y0 - (lAnd (lUshr y0 1) 6148914691236517205))) 2) 3689348814741910323))) 4))) 1085102592571150095) + (lUshr (lAnd (w64 ((w64 ((lAnd (w64 (y0 - (lAnd (lUshr y0 1) 6148914691236517205))) 3689348814741910323) + (lAnd (lUshr (w64 (y0 - (lAnd (lUshr y0 1) 6148914691236517205))) 2) 3689348814741910323))) + (lUshr (w64 ((lAnd (w64 (y0 - (lAnd (lUshr y0 1) 6148914691236517205))) 3689348814741910323) + (lAnd (lUshr (w64 (y0 - (lAnd (lUshr y0 1) 6148914691236517205))) 2) 3689348814741910323))) 4))) 1085102592571150095) 8))) + (lUshr (w64 ((lAnd (w64 ((w64 ((lAnd (w64 (y0 - (lAnd (lUshr y0 1) 6148914691236517205))) 3689348814741910323) + (lAnd (lUshr (w64 (y0 - (lAnd (lUshr y0 1) 6148914691236517205))) 2) 3689348814741910323))) + (lUshr (w64 ((lAnd (w64 (y0 - (lAnd (lUshr y0 1) 6148914691236517205))) 3689348814741910323) + (lAnd (lUshr (w64 (y0 - (lAnd (lUshr y0 1) 6148914691236517205))) 2) 3689348814741910323))) 4))) 1085102592571150095) + (lUshr (lAnd (w64 ((w64 ((lAnd (w64 (y0 - (lAnd (lUshr y0 1) 6148914691236517205))) 3689348814741910323) + (lAnd (lUshr (w64 (y0 - (lAnd (lUshr y0 1) 6148914691236517205))) 2) 3689348814741910323))) + (lUshr (w64 ((lAnd (w64 (y0 - (lAnd (lUshr y0 1) 6148914691236517205))) 3689348814741910323) + (lAnd (lUshr (w64 (y0 - (lAnd (lUshr y0 1) 6148914691236517205))) 2) 3689348814741910323))) 4))) 1085102592571150095) 8))) 16))) 32)))) 127, σ)
set_option maxHeartbeats 4000000 in
theorem g_jLong_bitCount_ok {xl : Nat} {xs : Nat → Int32} {Y0 : Int64} {y0 : Int} (hy0 : Y0.toInt = y0) {σ : zS} {p : Nat} {m : zM} {o : Int × zS} (H : zRep xl xs p m σ) (h : g_jLong_bitCount y0 σ = some o) : zGo xl xs (fun p' => p = p') 1 287 0 (z_can 287 0 (lv_args 0 [.long Y0])) [] m (vI o.1) o.2 := by
  have hq : z_mth 287 = some z_r287 := rfl
  unfold g_jLong_bitCount at h
  show zGo xl xs (fun p' => p = p') 1 287 0 [(0, .long Y0)] [] m (vI o.1) o.2
  refine r_p hq 48 (pc' := 60) (L' := [(0, .long ((((((((Y0 - (((Y0.toUInt64 >>> (((1 : Int32)).toInt64.toUInt64 &&& Int64.toUInt64 63)).toInt64) &&& ((6148914691236517205 : Int64)))) &&& ((3689348814741910323 : Int64))) + ((((Y0 - (((Y0.toUInt64 >>> (((1 : Int32)).toInt64.toUInt64 &&& Int64.toUInt64 63)).toInt64) &&& ((6148914691236517205 : Int64)))).toUInt64 >>> (((2 : Int32)).toInt64.toUInt64 &&& Int64.toUInt64 63)).toInt64) &&& ((3689348814741910323 : Int64)))) + (((((Y0 - (((Y0.toUInt64 >>> (((1 : Int32)).toInt64.toUInt64 &&& Int64.toUInt64 63)).toInt64) &&& ((6148914691236517205 : Int64)))) &&& ((3689348814741910323 : Int64))) + ((((Y0 - (((Y0.toUInt64 >>> (((1 : Int32)).toInt64.toUInt64 &&& Int64.toUInt64 63)).toInt64) &&& ((6148914691236517205 : Int64)))).toUInt64 >>> (((2 : Int32)).toInt64.toUInt64 &&& Int64.toUInt64 63)).toInt64) &&& ((3689348814741910323 : Int64)))).toUInt64 >>> (((4 : Int32)).toInt64.toUInt64 &&& Int64.toUInt64 63)).toInt64)) &&& ((1085102592571150095 : Int64))) + (((((((Y0 - (((Y0.toUInt64 >>> (((1 : Int32)).toInt64.toUInt64 &&& Int64.toUInt64 63)).toInt64) &&& ((6148914691236517205 : Int64)))) &&& ((3689348814741910323 : Int64))) + ((((Y0 - (((Y0.toUInt64 >>> (((1 : Int32)).toInt64.toUInt64 &&& Int64.toUInt64 63)).toInt64) &&& ((6148914691236517205 : Int64)))).toUInt64 >>> (((2 : Int32)).toInt64.toUInt64 &&& Int64.toUInt64 63)).toInt64) &&& ((3689348814741910323 : Int64)))) + (((((Y0 - (((Y0.toUInt64 >>> (((1 : Int32)).toInt64.toUInt64 &&& Int64.toUInt64 63)).toInt64) &&& ((6148914691236517205 : Int64)))) &&& ((3689348814741910323 : Int64))) + ((((Y0 - (((Y0.toUInt64 >>> (((1 : Int32)).toInt64.toUInt64 &&& Int64.toUInt64 63)).toInt64) &&& ((6148914691236517205 : Int64)))).toUInt64 >>> (((2 : Int32)).toInt64.toUInt64 &&& Int64.toUInt64 63)).toInt64) &&& ((3689348814741910323 : Int64)))).toUInt64 >>> (((4 : Int32)).toInt64.toUInt64 &&& Int64.toUInt64 63)).toInt64)) &&& ((1085102592571150095 : Int64))).toUInt64 >>> (((8 : Int32)).toInt64.toUInt64 &&& Int64.toUInt64 63)).toInt64)) + ((((((((Y0 - (((Y0.toUInt64 >>> (((1 : Int32)).toInt64.toUInt64 &&& Int64.toUInt64 63)).toInt64) &&& ((6148914691236517205 : Int64)))) &&& ((3689348814741910323 : Int64))) + ((((Y0 - (((Y0.toUInt64 >>> (((1 : Int32)).toInt64.toUInt64 &&& Int64.toUInt64 63)).toInt64) &&& ((6148914691236517205 : Int64)))).toUInt64 >>> (((2 : Int32)).toInt64.toUInt64 &&& Int64.toUInt64 63)).toInt64) &&& ((3689348814741910323 : Int64)))) + (((((Y0 - (((Y0.toUInt64 >>> (((1 : Int32)).toInt64.toUInt64 &&& Int64.toUInt64 63)).toInt64) &&& ((6148914691236517205 : Int64)))) &&& ((3689348814741910323 : Int64))) + ((((Y0 - (((Y0.toUInt64 >>> (((1 : Int32)).toInt64.toUInt64 &&& Int64.toUInt64 63)).toInt64) &&& ((6148914691236517205 : Int64)))).toUInt64 >>> (((2 : Int32)).toInt64.toUInt64 &&& Int64.toUInt64 63)).toInt64) &&& ((3689348814741910323 : Int64)))).toUInt64 >>> (((4 : Int32)).toInt64.toUInt64 &&& Int64.toUInt64 63)).toInt64)) &&& ((1085102592571150095 : Int64))) + (((((((Y0 - (((Y0.toUInt64 >>> (((1 : Int32)).toInt64.toUInt64 &&& Int64.toUInt64 63)).toInt64) &&& ((6148914691236517205 : Int64)))) &&& ((3689348814741910323 : Int64))) + ((((Y0 - (((Y0.toUInt64 >>> (((1 : Int32)).toInt64.toUInt64 &&& Int64.toUInt64 63)).toInt64) &&& ((6148914691236517205 : Int64)))).toUInt64 >>> (((2 : Int32)).toInt64.toUInt64 &&& Int64.toUInt64 63)).toInt64) &&& ((3689348814741910323 : Int64)))) + (((((Y0 - (((Y0.toUInt64 >>> (((1 : Int32)).toInt64.toUInt64 &&& Int64.toUInt64 63)).toInt64) &&& ((6148914691236517205 : Int64)))) &&& ((3689348814741910323 : Int64))) + ((((Y0 - (((Y0.toUInt64 >>> (((1 : Int32)).toInt64.toUInt64 &&& Int64.toUInt64 63)).toInt64) &&& ((6148914691236517205 : Int64)))).toUInt64 >>> (((2 : Int32)).toInt64.toUInt64 &&& Int64.toUInt64 63)).toInt64) &&& ((3689348814741910323 : Int64)))).toUInt64 >>> (((4 : Int32)).toInt64.toUInt64 &&& Int64.toUInt64 63)).toInt64)) &&& ((1085102592571150095 : Int64))).toUInt64 >>> (((8 : Int32)).toInt64.toUInt64 &&& Int64.toUInt64 63)).toInt64)).toUInt64 >>> (((16 : Int32)).toInt64.toUInt64 &&& Int64.toUInt64 63)).toInt64)) + (((((((((Y0 - (((Y0.toUInt64 >>> (((1 : Int32)).toInt64.toUInt64 &&& Int64.toUInt64 63)).toInt64) &&& ((6148914691236517205 : Int64)))) &&& ((3689348814741910323 : Int64))) + ((((Y0 - (((Y0.toUInt64 >>> (((1 : Int32)).toInt64.toUInt64 &&& Int64.toUInt64 63)).toInt64) &&& ((6148914691236517205 : Int64)))).toUInt64 >>> (((2 : Int32)).toInt64.toUInt64 &&& Int64.toUInt64 63)).toInt64) &&& ((3689348814741910323 : Int64)))) + (((((Y0 - (((Y0.toUInt64 >>> (((1 : Int32)).toInt64.toUInt64 &&& Int64.toUInt64 63)).toInt64) &&& ((6148914691236517205 : Int64)))) &&& ((3689348814741910323 : Int64))) + ((((Y0 - (((Y0.toUInt64 >>> (((1 : Int32)).toInt64.toUInt64 &&& Int64.toUInt64 63)).toInt64) &&& ((6148914691236517205 : Int64)))).toUInt64 >>> (((2 : Int32)).toInt64.toUInt64 &&& Int64.toUInt64 63)).toInt64) &&& ((3689348814741910323 : Int64)))).toUInt64 >>> (((4 : Int32)).toInt64.toUInt64 &&& Int64.toUInt64 63)).toInt64)) &&& ((1085102592571150095 : Int64))) + (((((((Y0 - (((Y0.toUInt64 >>> (((1 : Int32)).toInt64.toUInt64 &&& Int64.toUInt64 63)).toInt64) &&& ((6148914691236517205 : Int64)))) &&& ((3689348814741910323 : Int64))) + ((((Y0 - (((Y0.toUInt64 >>> (((1 : Int32)).toInt64.toUInt64 &&& Int64.toUInt64 63)).toInt64) &&& ((6148914691236517205 : Int64)))).toUInt64 >>> (((2 : Int32)).toInt64.toUInt64 &&& Int64.toUInt64 63)).toInt64) &&& ((3689348814741910323 : Int64)))) + (((((Y0 - (((Y0.toUInt64 >>> (((1 : Int32)).toInt64.toUInt64 &&& Int64.toUInt64 63)).toInt64) &&& ((6148914691236517205 : Int64)))) &&& ((3689348814741910323 : Int64))) + ((((Y0 - (((Y0.toUInt64 >>> (((1 : Int32)).toInt64.toUInt64 &&& Int64.toUInt64 63)).toInt64) &&& ((6148914691236517205 : Int64)))).toUInt64 >>> (((2 : Int32)).toInt64.toUInt64 &&& Int64.toUInt64 63)).toInt64) &&& ((3689348814741910323 : Int64)))).toUInt64 >>> (((4 : Int32)).toInt64.toUInt64 &&& Int64.toUInt64 63)).toInt64)) &&& ((1085102592571150095 : Int64))).toUInt64 >>> (((8 : Int32)).toInt64.toUInt64 &&& Int64.toUInt64 63)).toInt64)) + ((((((((Y0 - (((Y0.toUInt64 >>> (((1 : Int32)).toInt64.toUInt64 &&& Int64.toUInt64 63)).toInt64) &&& ((6148914691236517205 : Int64)))) &&& ((3689348814741910323 : Int64))) + ((((Y0 - (((Y0.toUInt64 >>> (((1 : Int32)).toInt64.toUInt64 &&& Int64.toUInt64 63)).toInt64) &&& ((6148914691236517205 : Int64)))).toUInt64 >>> (((2 : Int32)).toInt64.toUInt64 &&& Int64.toUInt64 63)).toInt64) &&& ((3689348814741910323 : Int64)))) + (((((Y0 - (((Y0.toUInt64 >>> (((1 : Int32)).toInt64.toUInt64 &&& Int64.toUInt64 63)).toInt64) &&& ((6148914691236517205 : Int64)))) &&& ((3689348814741910323 : Int64))) + ((((Y0 - (((Y0.toUInt64 >>> (((1 : Int32)).toInt64.toUInt64 &&& Int64.toUInt64 63)).toInt64) &&& ((6148914691236517205 : Int64)))).toUInt64 >>> (((2 : Int32)).toInt64.toUInt64 &&& Int64.toUInt64 63)).toInt64) &&& ((3689348814741910323 : Int64)))).toUInt64 >>> (((4 : Int32)).toInt64.toUInt64 &&& Int64.toUInt64 63)).toInt64)) &&& ((1085102592571150095 : Int64))) + (((((((Y0 - (((Y0.toUInt64 >>> (((1 : Int32)).toInt64.toUInt64 &&& Int64.toUInt64 63)).toInt64) &&& ((6148914691236517205 : Int64)))) &&& ((3689348814741910323 : Int64))) + ((((Y0 - (((Y0.toUInt64 >>> (((1 : Int32)).toInt64.toUInt64 &&& Int64.toUInt64 63)).toInt64) &&& ((6148914691236517205 : Int64)))).toUInt64 >>> (((2 : Int32)).toInt64.toUInt64 &&& Int64.toUInt64 63)).toInt64) &&& ((3689348814741910323 : Int64)))) + (((((Y0 - (((Y0.toUInt64 >>> (((1 : Int32)).toInt64.toUInt64 &&& Int64.toUInt64 63)).toInt64) &&& ((6148914691236517205 : Int64)))) &&& ((3689348814741910323 : Int64))) + ((((Y0 - (((Y0.toUInt64 >>> (((1 : Int32)).toInt64.toUInt64 &&& Int64.toUInt64 63)).toInt64) &&& ((6148914691236517205 : Int64)))).toUInt64 >>> (((2 : Int32)).toInt64.toUInt64 &&& Int64.toUInt64 63)).toInt64) &&& ((3689348814741910323 : Int64)))).toUInt64 >>> (((4 : Int32)).toInt64.toUInt64 &&& Int64.toUInt64 63)).toInt64)) &&& ((1085102592571150095 : Int64))).toUInt64 >>> (((8 : Int32)).toInt64.toUInt64 &&& Int64.toUInt64 63)).toInt64)).toUInt64 >>> (((16 : Int32)).toInt64.toUInt64 &&& Int64.toUInt64 63)).toInt64)).toUInt64 >>> (((32 : Int32)).toInt64.toUInt64 &&& Int64.toUInt64 63)).toInt64)))]) (st' := [.int ((((((((((Y0 - (((Y0.toUInt64 >>> (((1 : Int32)).toInt64.toUInt64 &&& Int64.toUInt64 63)).toInt64) &&& ((6148914691236517205 : Int64)))) &&& ((3689348814741910323 : Int64))) + ((((Y0 - (((Y0.toUInt64 >>> (((1 : Int32)).toInt64.toUInt64 &&& Int64.toUInt64 63)).toInt64) &&& ((6148914691236517205 : Int64)))).toUInt64 >>> (((2 : Int32)).toInt64.toUInt64 &&& Int64.toUInt64 63)).toInt64) &&& ((3689348814741910323 : Int64)))) + (((((Y0 - (((Y0.toUInt64 >>> (((1 : Int32)).toInt64.toUInt64 &&& Int64.toUInt64 63)).toInt64) &&& ((6148914691236517205 : Int64)))) &&& ((3689348814741910323 : Int64))) + ((((Y0 - (((Y0.toUInt64 >>> (((1 : Int32)).toInt64.toUInt64 &&& Int64.toUInt64 63)).toInt64) &&& ((6148914691236517205 : Int64)))).toUInt64 >>> (((2 : Int32)).toInt64.toUInt64 &&& Int64.toUInt64 63)).toInt64) &&& ((3689348814741910323 : Int64)))).toUInt64 >>> (((4 : Int32)).toInt64.toUInt64 &&& Int64.toUInt64 63)).toInt64)) &&& ((1085102592571150095 : Int64))) + (((((((Y0 - (((Y0.toUInt64 >>> (((1 : Int32)).toInt64.toUInt64 &&& Int64.toUInt64 63)).toInt64) &&& ((6148914691236517205 : Int64)))) &&& ((3689348814741910323 : Int64))) + ((((Y0 - (((Y0.toUInt64 >>> (((1 : Int32)).toInt64.toUInt64 &&& Int64.toUInt64 63)).toInt64) &&& ((6148914691236517205 : Int64)))).toUInt64 >>> (((2 : Int32)).toInt64.toUInt64 &&& Int64.toUInt64 63)).toInt64) &&& ((3689348814741910323 : Int64)))) + (((((Y0 - (((Y0.toUInt64 >>> (((1 : Int32)).toInt64.toUInt64 &&& Int64.toUInt64 63)).toInt64) &&& ((6148914691236517205 : Int64)))) &&& ((3689348814741910323 : Int64))) + ((((Y0 - (((Y0.toUInt64 >>> (((1 : Int32)).toInt64.toUInt64 &&& Int64.toUInt64 63)).toInt64) &&& ((6148914691236517205 : Int64)))).toUInt64 >>> (((2 : Int32)).toInt64.toUInt64 &&& Int64.toUInt64 63)).toInt64) &&& ((3689348814741910323 : Int64)))).toUInt64 >>> (((4 : Int32)).toInt64.toUInt64 &&& Int64.toUInt64 63)).toInt64)) &&& ((1085102592571150095 : Int64))).toUInt64 >>> (((8 : Int32)).toInt64.toUInt64 &&& Int64.toUInt64 63)).toInt64)) + ((((((((Y0 - (((Y0.toUInt64 >>> (((1 : Int32)).toInt64.toUInt64 &&& Int64.toUInt64 63)).toInt64) &&& ((6148914691236517205 : Int64)))) &&& ((3689348814741910323 : Int64))) + ((((Y0 - (((Y0.toUInt64 >>> (((1 : Int32)).toInt64.toUInt64 &&& Int64.toUInt64 63)).toInt64) &&& ((6148914691236517205 : Int64)))).toUInt64 >>> (((2 : Int32)).toInt64.toUInt64 &&& Int64.toUInt64 63)).toInt64) &&& ((3689348814741910323 : Int64)))) + (((((Y0 - (((Y0.toUInt64 >>> (((1 : Int32)).toInt64.toUInt64 &&& Int64.toUInt64 63)).toInt64) &&& ((6148914691236517205 : Int64)))) &&& ((3689348814741910323 : Int64))) + ((((Y0 - (((Y0.toUInt64 >>> (((1 : Int32)).toInt64.toUInt64 &&& Int64.toUInt64 63)).toInt64) &&& ((6148914691236517205 : Int64)))).toUInt64 >>> (((2 : Int32)).toInt64.toUInt64 &&& Int64.toUInt64 63)).toInt64) &&& ((3689348814741910323 : Int64)))).toUInt64 >>> (((4 : Int32)).toInt64.toUInt64 &&& Int64.toUInt64 63)).toInt64)) &&& ((1085102592571150095 : Int64))) + (((((((Y0 - (((Y0.toUInt64 >>> (((1 : Int32)).toInt64.toUInt64 &&& Int64.toUInt64 63)).toInt64) &&& ((6148914691236517205 : Int64)))) &&& ((3689348814741910323 : Int64))) + ((((Y0 - (((Y0.toUInt64 >>> (((1 : Int32)).toInt64.toUInt64 &&& Int64.toUInt64 63)).toInt64) &&& ((6148914691236517205 : Int64)))).toUInt64 >>> (((2 : Int32)).toInt64.toUInt64 &&& Int64.toUInt64 63)).toInt64) &&& ((3689348814741910323 : Int64)))) + (((((Y0 - (((Y0.toUInt64 >>> (((1 : Int32)).toInt64.toUInt64 &&& Int64.toUInt64 63)).toInt64) &&& ((6148914691236517205 : Int64)))) &&& ((3689348814741910323 : Int64))) + ((((Y0 - (((Y0.toUInt64 >>> (((1 : Int32)).toInt64.toUInt64 &&& Int64.toUInt64 63)).toInt64) &&& ((6148914691236517205 : Int64)))).toUInt64 >>> (((2 : Int32)).toInt64.toUInt64 &&& Int64.toUInt64 63)).toInt64) &&& ((3689348814741910323 : Int64)))).toUInt64 >>> (((4 : Int32)).toInt64.toUInt64 &&& Int64.toUInt64 63)).toInt64)) &&& ((1085102592571150095 : Int64))).toUInt64 >>> (((8 : Int32)).toInt64.toUInt64 &&& Int64.toUInt64 63)).toInt64)).toUInt64 >>> (((16 : Int32)).toInt64.toUInt64 &&& Int64.toUInt64 63)).toInt64)) + (((((((((Y0 - (((Y0.toUInt64 >>> (((1 : Int32)).toInt64.toUInt64 &&& Int64.toUInt64 63)).toInt64) &&& ((6148914691236517205 : Int64)))) &&& ((3689348814741910323 : Int64))) + ((((Y0 - (((Y0.toUInt64 >>> (((1 : Int32)).toInt64.toUInt64 &&& Int64.toUInt64 63)).toInt64) &&& ((6148914691236517205 : Int64)))).toUInt64 >>> (((2 : Int32)).toInt64.toUInt64 &&& Int64.toUInt64 63)).toInt64) &&& ((3689348814741910323 : Int64)))) + (((((Y0 - (((Y0.toUInt64 >>> (((1 : Int32)).toInt64.toUInt64 &&& Int64.toUInt64 63)).toInt64) &&& ((6148914691236517205 : Int64)))) &&& ((3689348814741910323 : Int64))) + ((((Y0 - (((Y0.toUInt64 >>> (((1 : Int32)).toInt64.toUInt64 &&& Int64.toUInt64 63)).toInt64) &&& ((6148914691236517205 : Int64)))).toUInt64 >>> (((2 : Int32)).toInt64.toUInt64 &&& Int64.toUInt64 63)).toInt64) &&& ((3689348814741910323 : Int64)))).toUInt64 >>> (((4 : Int32)).toInt64.toUInt64 &&& Int64.toUInt64 63)).toInt64)) &&& ((1085102592571150095 : Int64))) + (((((((Y0 - (((Y0.toUInt64 >>> (((1 : Int32)).toInt64.toUInt64 &&& Int64.toUInt64 63)).toInt64) &&& ((6148914691236517205 : Int64)))) &&& ((3689348814741910323 : Int64))) + ((((Y0 - (((Y0.toUInt64 >>> (((1 : Int32)).toInt64.toUInt64 &&& Int64.toUInt64 63)).toInt64) &&& ((6148914691236517205 : Int64)))).toUInt64 >>> (((2 : Int32)).toInt64.toUInt64 &&& Int64.toUInt64 63)).toInt64) &&& ((3689348814741910323 : Int64)))) + (((((Y0 - (((Y0.toUInt64 >>> (((1 : Int32)).toInt64.toUInt64 &&& Int64.toUInt64 63)).toInt64) &&& ((6148914691236517205 : Int64)))) &&& ((3689348814741910323 : Int64))) + ((((Y0 - (((Y0.toUInt64 >>> (((1 : Int32)).toInt64.toUInt64 &&& Int64.toUInt64 63)).toInt64) &&& ((6148914691236517205 : Int64)))).toUInt64 >>> (((2 : Int32)).toInt64.toUInt64 &&& Int64.toUInt64 63)).toInt64) &&& ((3689348814741910323 : Int64)))).toUInt64 >>> (((4 : Int32)).toInt64.toUInt64 &&& Int64.toUInt64 63)).toInt64)) &&& ((1085102592571150095 : Int64))).toUInt64 >>> (((8 : Int32)).toInt64.toUInt64 &&& Int64.toUInt64 63)).toInt64)) + ((((((((Y0 - (((Y0.toUInt64 >>> (((1 : Int32)).toInt64.toUInt64 &&& Int64.toUInt64 63)).toInt64) &&& ((6148914691236517205 : Int64)))) &&& ((3689348814741910323 : Int64))) + ((((Y0 - (((Y0.toUInt64 >>> (((1 : Int32)).toInt64.toUInt64 &&& Int64.toUInt64 63)).toInt64) &&& ((6148914691236517205 : Int64)))).toUInt64 >>> (((2 : Int32)).toInt64.toUInt64 &&& Int64.toUInt64 63)).toInt64) &&& ((3689348814741910323 : Int64)))) + (((((Y0 - (((Y0.toUInt64 >>> (((1 : Int32)).toInt64.toUInt64 &&& Int64.toUInt64 63)).toInt64) &&& ((6148914691236517205 : Int64)))) &&& ((3689348814741910323 : Int64))) + ((((Y0 - (((Y0.toUInt64 >>> (((1 : Int32)).toInt64.toUInt64 &&& Int64.toUInt64 63)).toInt64) &&& ((6148914691236517205 : Int64)))).toUInt64 >>> (((2 : Int32)).toInt64.toUInt64 &&& Int64.toUInt64 63)).toInt64) &&& ((3689348814741910323 : Int64)))).toUInt64 >>> (((4 : Int32)).toInt64.toUInt64 &&& Int64.toUInt64 63)).toInt64)) &&& ((1085102592571150095 : Int64))) + (((((((Y0 - (((Y0.toUInt64 >>> (((1 : Int32)).toInt64.toUInt64 &&& Int64.toUInt64 63)).toInt64) &&& ((6148914691236517205 : Int64)))) &&& ((3689348814741910323 : Int64))) + ((((Y0 - (((Y0.toUInt64 >>> (((1 : Int32)).toInt64.toUInt64 &&& Int64.toUInt64 63)).toInt64) &&& ((6148914691236517205 : Int64)))).toUInt64 >>> (((2 : Int32)).toInt64.toUInt64 &&& Int64.toUInt64 63)).toInt64) &&& ((3689348814741910323 : Int64)))) + (((((Y0 - (((Y0.toUInt64 >>> (((1 : Int32)).toInt64.toUInt64 &&& Int64.toUInt64 63)).toInt64) &&& ((6148914691236517205 : Int64)))) &&& ((3689348814741910323 : Int64))) + ((((Y0 - (((Y0.toUInt64 >>> (((1 : Int32)).toInt64.toUInt64 &&& Int64.toUInt64 63)).toInt64) &&& ((6148914691236517205 : Int64)))).toUInt64 >>> (((2 : Int32)).toInt64.toUInt64 &&& Int64.toUInt64 63)).toInt64) &&& ((3689348814741910323 : Int64)))).toUInt64 >>> (((4 : Int32)).toInt64.toUInt64 &&& Int64.toUInt64 63)).toInt64)) &&& ((1085102592571150095 : Int64))).toUInt64 >>> (((8 : Int32)).toInt64.toUInt64 &&& Int64.toUInt64 63)).toInt64)).toUInt64 >>> (((16 : Int32)).toInt64.toUInt64 &&& Int64.toUInt64 63)).toInt64)).toUInt64 >>> (((32 : Int32)).toInt64.toUInt64 &&& Int64.toUInt64 63)).toInt64)).toInt32) &&& ((127 : Int32)))]) rfl ?_
  cases h
  exact r_ri hq (z_at.mk 1 rfl rfl) rfl rfl (tx_iand (tx_l2i (tx_ladd (tx_ladd (tx_ladd (tx_land (tx_ladd (tx_ladd (tx_land (tx_lsub hy0 (tx_land (tx_lushr hy0 (rfl : (1 : Int32).toInt = 1)) (rfl : (6148914691236517205 : Int64).toInt = 6148914691236517205))) (rfl : (3689348814741910323 : Int64).toInt = 3689348814741910323)) (tx_land (tx_lushr (tx_lsub hy0 (tx_land (tx_lushr hy0 (rfl : (1 : Int32).toInt = 1)) (rfl : (6148914691236517205 : Int64).toInt = 6148914691236517205))) (rfl : (2 : Int32).toInt = 2)) (rfl : (3689348814741910323 : Int64).toInt = 3689348814741910323))) (tx_lushr (tx_ladd (tx_land (tx_lsub hy0 (tx_land (tx_lushr hy0 (rfl : (1 : Int32).toInt = 1)) (rfl : (6148914691236517205 : Int64).toInt = 6148914691236517205))) (rfl : (3689348814741910323 : Int64).toInt = 3689348814741910323)) (tx_land (tx_lushr (tx_lsub hy0 (tx_land (tx_lushr hy0 (rfl : (1 : Int32).toInt = 1)) (rfl : (6148914691236517205 : Int64).toInt = 6148914691236517205))) (rfl : (2 : Int32).toInt = 2)) (rfl : (3689348814741910323 : Int64).toInt = 3689348814741910323))) (rfl : (4 : Int32).toInt = 4))) (rfl : (1085102592571150095 : Int64).toInt = 1085102592571150095)) (tx_lushr (tx_land (tx_ladd (tx_ladd (tx_land (tx_lsub hy0 (tx_land (tx_lushr hy0 (rfl : (1 : Int32).toInt = 1)) (rfl : (6148914691236517205 : Int64).toInt = 6148914691236517205))) (rfl : (3689348814741910323 : Int64).toInt = 3689348814741910323)) (tx_land (tx_lushr (tx_lsub hy0 (tx_land (tx_lushr hy0 (rfl : (1 : Int32).toInt = 1)) (rfl : (6148914691236517205 : Int64).toInt = 6148914691236517205))) (rfl : (2 : Int32).toInt = 2)) (rfl : (3689348814741910323 : Int64).toInt = 3689348814741910323))) (tx_lushr (tx_ladd (tx_land (tx_lsub hy0 (tx_land (tx_lushr hy0 (rfl : (1 : Int32).toInt = 1)) (rfl : (6148914691236517205 : Int64).toInt = 6148914691236517205))) (rfl : (3689348814741910323 : Int64).toInt = 3689348814741910323)) (tx_land (tx_lushr (tx_lsub hy0 (tx_land (tx_lushr hy0 (rfl : (1 : Int32).toInt = 1)) (rfl : (6148914691236517205 : Int64).toInt = 6148914691236517205))) (rfl : (2 : Int32).toInt = 2)) (rfl : (3689348814741910323 : Int64).toInt = 3689348814741910323))) (rfl : (4 : Int32).toInt = 4))) (rfl : (1085102592571150095 : Int64).toInt = 1085102592571150095)) (rfl : (8 : Int32).toInt = 8))) (tx_lushr (tx_ladd (tx_land (tx_ladd (tx_ladd (tx_land (tx_lsub hy0 (tx_land (tx_lushr hy0 (rfl : (1 : Int32).toInt = 1)) (rfl : (6148914691236517205 : Int64).toInt = 6148914691236517205))) (rfl : (3689348814741910323 : Int64).toInt = 3689348814741910323)) (tx_land (tx_lushr (tx_lsub hy0 (tx_land (tx_lushr hy0 (rfl : (1 : Int32).toInt = 1)) (rfl : (6148914691236517205 : Int64).toInt = 6148914691236517205))) (rfl : (2 : Int32).toInt = 2)) (rfl : (3689348814741910323 : Int64).toInt = 3689348814741910323))) (tx_lushr (tx_ladd (tx_land (tx_lsub hy0 (tx_land (tx_lushr hy0 (rfl : (1 : Int32).toInt = 1)) (rfl : (6148914691236517205 : Int64).toInt = 6148914691236517205))) (rfl : (3689348814741910323 : Int64).toInt = 3689348814741910323)) (tx_land (tx_lushr (tx_lsub hy0 (tx_land (tx_lushr hy0 (rfl : (1 : Int32).toInt = 1)) (rfl : (6148914691236517205 : Int64).toInt = 6148914691236517205))) (rfl : (2 : Int32).toInt = 2)) (rfl : (3689348814741910323 : Int64).toInt = 3689348814741910323))) (rfl : (4 : Int32).toInt = 4))) (rfl : (1085102592571150095 : Int64).toInt = 1085102592571150095)) (tx_lushr (tx_land (tx_ladd (tx_ladd (tx_land (tx_lsub hy0 (tx_land (tx_lushr hy0 (rfl : (1 : Int32).toInt = 1)) (rfl : (6148914691236517205 : Int64).toInt = 6148914691236517205))) (rfl : (3689348814741910323 : Int64).toInt = 3689348814741910323)) (tx_land (tx_lushr (tx_lsub hy0 (tx_land (tx_lushr hy0 (rfl : (1 : Int32).toInt = 1)) (rfl : (6148914691236517205 : Int64).toInt = 6148914691236517205))) (rfl : (2 : Int32).toInt = 2)) (rfl : (3689348814741910323 : Int64).toInt = 3689348814741910323))) (tx_lushr (tx_ladd (tx_land (tx_lsub hy0 (tx_land (tx_lushr hy0 (rfl : (1 : Int32).toInt = 1)) (rfl : (6148914691236517205 : Int64).toInt = 6148914691236517205))) (rfl : (3689348814741910323 : Int64).toInt = 3689348814741910323)) (tx_land (tx_lushr (tx_lsub hy0 (tx_land (tx_lushr hy0 (rfl : (1 : Int32).toInt = 1)) (rfl : (6148914691236517205 : Int64).toInt = 6148914691236517205))) (rfl : (2 : Int32).toInt = 2)) (rfl : (3689348814741910323 : Int64).toInt = 3689348814741910323))) (rfl : (4 : Int32).toInt = 4))) (rfl : (1085102592571150095 : Int64).toInt = 1085102592571150095)) (rfl : (8 : Int32).toInt = 8))) (rfl : (16 : Int32).toInt = 16))) (tx_lushr (tx_ladd (tx_ladd (tx_land (tx_ladd (tx_ladd (tx_land (tx_lsub hy0 (tx_land (tx_lushr hy0 (rfl : (1 : Int32).toInt = 1)) (rfl : (6148914691236517205 : Int64).toInt = 6148914691236517205))) (rfl : (3689348814741910323 : Int64).toInt = 3689348814741910323)) (tx_land (tx_lushr (tx_lsub hy0 (tx_land (tx_lushr hy0 (rfl : (1 : Int32).toInt = 1)) (rfl : (6148914691236517205 : Int64).toInt = 6148914691236517205))) (rfl : (2 : Int32).toInt = 2)) (rfl : (3689348814741910323 : Int64).toInt = 3689348814741910323))) (tx_lushr (tx_ladd (tx_land (tx_lsub hy0 (tx_land (tx_lushr hy0 (rfl : (1 : Int32).toInt = 1)) (rfl : (6148914691236517205 : Int64).toInt = 6148914691236517205))) (rfl : (3689348814741910323 : Int64).toInt = 3689348814741910323)) (tx_land (tx_lushr (tx_lsub hy0 (tx_land (tx_lushr hy0 (rfl : (1 : Int32).toInt = 1)) (rfl : (6148914691236517205 : Int64).toInt = 6148914691236517205))) (rfl : (2 : Int32).toInt = 2)) (rfl : (3689348814741910323 : Int64).toInt = 3689348814741910323))) (rfl : (4 : Int32).toInt = 4))) (rfl : (1085102592571150095 : Int64).toInt = 1085102592571150095)) (tx_lushr (tx_land (tx_ladd (tx_ladd (tx_land (tx_lsub hy0 (tx_land (tx_lushr hy0 (rfl : (1 : Int32).toInt = 1)) (rfl : (6148914691236517205 : Int64).toInt = 6148914691236517205))) (rfl : (3689348814741910323 : Int64).toInt = 3689348814741910323)) (tx_land (tx_lushr (tx_lsub hy0 (tx_land (tx_lushr hy0 (rfl : (1 : Int32).toInt = 1)) (rfl : (6148914691236517205 : Int64).toInt = 6148914691236517205))) (rfl : (2 : Int32).toInt = 2)) (rfl : (3689348814741910323 : Int64).toInt = 3689348814741910323))) (tx_lushr (tx_ladd (tx_land (tx_lsub hy0 (tx_land (tx_lushr hy0 (rfl : (1 : Int32).toInt = 1)) (rfl : (6148914691236517205 : Int64).toInt = 6148914691236517205))) (rfl : (3689348814741910323 : Int64).toInt = 3689348814741910323)) (tx_land (tx_lushr (tx_lsub hy0 (tx_land (tx_lushr hy0 (rfl : (1 : Int32).toInt = 1)) (rfl : (6148914691236517205 : Int64).toInt = 6148914691236517205))) (rfl : (2 : Int32).toInt = 2)) (rfl : (3689348814741910323 : Int64).toInt = 3689348814741910323))) (rfl : (4 : Int32).toInt = 4))) (rfl : (1085102592571150095 : Int64).toInt = 1085102592571150095)) (rfl : (8 : Int32).toInt = 8))) (tx_lushr (tx_ladd (tx_land (tx_ladd (tx_ladd (tx_land (tx_lsub hy0 (tx_land (tx_lushr hy0 (rfl : (1 : Int32).toInt = 1)) (rfl : (6148914691236517205 : Int64).toInt = 6148914691236517205))) (rfl : (3689348814741910323 : Int64).toInt = 3689348814741910323)) (tx_land (tx_lushr (tx_lsub hy0 (tx_land (tx_lushr hy0 (rfl : (1 : Int32).toInt = 1)) (rfl : (6148914691236517205 : Int64).toInt = 6148914691236517205))) (rfl : (2 : Int32).toInt = 2)) (rfl : (3689348814741910323 : Int64).toInt = 3689348814741910323))) (tx_lushr (tx_ladd (tx_land (tx_lsub hy0 (tx_land (tx_lushr hy0 (rfl : (1 : Int32).toInt = 1)) (rfl : (6148914691236517205 : Int64).toInt = 6148914691236517205))) (rfl : (3689348814741910323 : Int64).toInt = 3689348814741910323)) (tx_land (tx_lushr (tx_lsub hy0 (tx_land (tx_lushr hy0 (rfl : (1 : Int32).toInt = 1)) (rfl : (6148914691236517205 : Int64).toInt = 6148914691236517205))) (rfl : (2 : Int32).toInt = 2)) (rfl : (3689348814741910323 : Int64).toInt = 3689348814741910323))) (rfl : (4 : Int32).toInt = 4))) (rfl : (1085102592571150095 : Int64).toInt = 1085102592571150095)) (tx_lushr (tx_land (tx_ladd (tx_ladd (tx_land (tx_lsub hy0 (tx_land (tx_lushr hy0 (rfl : (1 : Int32).toInt = 1)) (rfl : (6148914691236517205 : Int64).toInt = 6148914691236517205))) (rfl : (3689348814741910323 : Int64).toInt = 3689348814741910323)) (tx_land (tx_lushr (tx_lsub hy0 (tx_land (tx_lushr hy0 (rfl : (1 : Int32).toInt = 1)) (rfl : (6148914691236517205 : Int64).toInt = 6148914691236517205))) (rfl : (2 : Int32).toInt = 2)) (rfl : (3689348814741910323 : Int64).toInt = 3689348814741910323))) (tx_lushr (tx_ladd (tx_land (tx_lsub hy0 (tx_land (tx_lushr hy0 (rfl : (1 : Int32).toInt = 1)) (rfl : (6148914691236517205 : Int64).toInt = 6148914691236517205))) (rfl : (3689348814741910323 : Int64).toInt = 3689348814741910323)) (tx_land (tx_lushr (tx_lsub hy0 (tx_land (tx_lushr hy0 (rfl : (1 : Int32).toInt = 1)) (rfl : (6148914691236517205 : Int64).toInt = 6148914691236517205))) (rfl : (2 : Int32).toInt = 2)) (rfl : (3689348814741910323 : Int64).toInt = 3689348814741910323))) (rfl : (4 : Int32).toInt = 4))) (rfl : (1085102592571150095 : Int64).toInt = 1085102592571150095)) (rfl : (8 : Int32).toInt = 8))) (rfl : (16 : Int32).toInt = 16))) (rfl : (32 : Int32).toInt = 32)))) (rfl : (127 : Int32).toInt = 127)) rfl H
def g_ca_sizeOf (a0 : Nat) (x1 : Int) (σ : zS) : Option (Int × zS) :=
  (g_so_rowsIn x1 σ).bind fun o_6 =>
  (g_jLong_bitCount o_6.1 o_6.2).bind fun o_9 =>
  some (w32 (1 + o_9.1), o_9.2)
set_option maxHeartbeats 4000000 in
theorem g_ca_sizeOf_ok {xl : Nat} {xs : Nat → Int32} {a0 : Nat} (ha0 : zIn [48, 106] a0 = true) {X1 : Int32} {x1 : Int} (hx1 : X1.toInt = x1) {σ : zS} {p : Nat} {m : zM} {o : Int × zS} (H : zRep xl xs p m σ) (h : g_ca_sizeOf a0 x1 σ = some o) : zGo xl xs (fun p' => p = p') 3 22 0 (z_can 22 0 (lv_args 0 [.ref a0, .int X1])) [] m (vI o.1) o.2 := by
  have hq : z_mth 22 = some z_r22 := rfl
  unfold g_ca_sizeOf at h
  show zGo xl xs (fun p' => p = p') 3 22 0 [(0, .ref a0), (1, .int X1)] [] m (vI o.1) o.2
  refine r_p hq 2 (pc' := 2) (L' := [(0, .ref a0), (1, .int X1)]) (st' := [.ref a0, .int ((1 : Int32))]) rfl ?_
  refine r_gR (b := 41) (pc' := 5) (L' := [(0, .ref a0), (1, .int X1)]) H hq (z_at.mk 3 rfl rfl) rfl (zIn_all (l := [48, 106]) (p := fun a => zQ a 12 0 (100 + 41)) rfl ha0) rfl rfl ?_
  refine r_p hq 1 (pc' := 6) (L' := [(0, .ref a0), (1, .int X1)]) (st' := [.int X1, .ref 41, .int ((1 : Int32))]) rfl ?_
  obtain ⟨o_6, h_6, h⟩ := Option.bind_eq_some_iff.mp h
  refine r_cvL (pc' := 9) (L' := [(0, .ref a0), (1, .int X1)]) (Ps := [.int X1]) (rest := [.int ((1 : Int32))]) hq (z_at.mk 3 rfl rfl) (Or.inl ⟨rfl, rfl⟩) rfl rfl (by decide) (by decide) rfl (Nat.not_lt.mpr (Nat.le_of_ble_eq_true rfl)) rfl rfl (z_cat_le 1 rfl (by decide)) (z_lgl_le 2 rfl (by decide)) (by decide) (H.tg rfl) (by omega) (g_so_rowsIn_ok hx1 H h_6) rfl rfl ?_
  intro R_6 m_6 p_6 e_6 hR_6 H_6
  subst e_6
  obtain ⟨o_9, h_9, h⟩ := Option.bind_eq_some_iff.mp h
  refine r_csI (pc' := 12) (L' := [(0, .ref a0), (1, .int X1)]) (As := [.long R_6]) (rest := [.int ((1 : Int32))]) (j := 287) hq (z_at.mk 3 rfl rfl) (Or.inl ⟨rfl, rfl⟩) rfl rfl (by omega) (g_jLong_bitCount_ok hR_6 H_6 h_9) rfl rfl ?_
  intro R_9 m_9 p_9 e_9 hR_9 H_9
  subst e_9
  refine r_p hq 1 (pc' := 13) (L' := [(0, .ref a0), (1, .int X1)]) (st' := [.int (((1 : Int32)) + R_9)]) rfl ?_
  cases h
  exact r_ri hq (z_at.mk 1 rfl rfl) rfl rfl (tx_iadd (rfl : (1 : Int32).toInt = 1) hR_9) rfl H_9
def g_se_of (a0 : Nat) (x1 : Int) (σ : zS) : Option (Int × zS) :=
  if x1 < 0 then
    some (-1, σ)
  else
    if 7 ≤ x1 then
      some (-1, σ)
    else
      if 0 ≤ x1 ∧ x1 < 7 then
      let v_15 := σ (a0 + 1) x1
      some (v_15, σ)
      else none
set_option maxHeartbeats 4000000 in
theorem g_se_of_ok {xl : Nat} {xs : Nat → Int32} {a0 : Nat} (ha0 : zIn [49, 82, 107, 118] a0 = true) {X1 : Int32} {x1 : Int} (hx1 : X1.toInt = x1) {σ : zS} {p : Nat} {m : zM} {o : Int × zS} (H : zRep xl xs p m σ) (h : g_se_of a0 x1 σ = some o) : zGo xl xs (fun p' => p = p') 1 72 0 (z_can 72 0 (lv_args 0 [.ref a0, .int X1])) [] m (vI o.1) o.2 := by
  have hq : z_mth 72 = some z_r72 := rfl
  unfold g_se_of at h
  show zGo xl xs (fun p' => p = p') 1 72 0 [(0, .ref a0), (1, .int X1)] [] m (vI o.1) o.2
  refine r_p hq 1 (pc' := 1) (L' := [(0, .ref a0), (1, .int X1)]) (st' := [.int X1]) rfl ?_
  rcases z_ite h with ⟨c_1, h⟩ | ⟨c_1, h⟩
  · refine r_t1 (pc' := 19) (L' := []) hq (z_at.mk 3 rfl rfl) rfl hx1 c_1 rfl rfl ?_
    refine r_p hq 1 (pc' := 20) (L' := []) (st' := [.int ((-1 : Int32))]) rfl ?_
    cases h
    exact r_ri hq (z_at.mk 1 rfl rfl) rfl rfl (rfl : (-1 : Int32).toInt = -1) rfl H
  · refine r_f1 (pc' := 4) (L' := [(0, .ref a0), (1, .int X1)]) hq (z_at.mk 3 rfl rfl) rfl hx1 c_1 rfl rfl ?_
    refine r_p hq 2 (pc' := 7) (L' := [(0, .ref a0), (1, .int X1)]) (st' := [.int ((7 : Int32)), .int X1]) rfl ?_
    rcases z_ite h with ⟨c_7, h⟩ | ⟨c_7, h⟩
    · refine r_t2 (pc' := 19) (L' := []) hq (z_at.mk 3 rfl rfl) rfl hx1 (rfl : (7 : Int32).toInt = 7) c_7 rfl rfl ?_
      refine r_p hq 1 (pc' := 20) (L' := []) (st' := [.int ((-1 : Int32))]) rfl ?_
      cases h
      exact r_ri hq (z_at.mk 1 rfl rfl) rfl rfl (rfl : (-1 : Int32).toInt = -1) rfl H
    · refine r_f2 (pc' := 10) (L' := [(0, .ref a0), (1, .int X1)]) hq (z_at.mk 3 rfl rfl) rfl hx1 (rfl : (7 : Int32).toInt = 7) c_7 rfl rfl ?_
      refine r_p hq 1 (pc' := 11) (L' := [(0, .ref a0), (1, .int X1)]) (st' := [.ref a0]) rfl ?_
      refine r_gR (b := a0 + 1) (pc' := 14) (L' := [(0, .ref a0), (1, .int X1)]) H hq (z_at.mk 3 rfl rfl) rfl (zIn_all (l := [49, 82, 107, 118]) (p := fun a => zQ a 16 0 (100 + a + 1)) rfl ha0) rfl rfl ?_
      refine r_p hq 1 (pc' := 15) (L' := [(0, .ref a0), (1, .int X1)]) (st' := [.int X1, .ref (a0 + 1)]) rfl ?_
      obtain ⟨g_15, h⟩ := z_ifo_some h
      refine r_ia (pc' := 16) (L' := [(0, .ref a0), (1, .int X1)]) H hq (z_at.mk 1 rfl rfl) (zIn_all (l := [49, 82, 107, 118]) (p := fun a => zAr (a + 1) 0 7) rfl ha0) hx1 g_15 rfl rfl ?_
      intro V_15 hV_15
      refine r_p hq 1 (pc' := 20) (L' := []) (st' := [.int V_15]) rfl ?_
      cases h
      exact r_ri hq (z_at.mk 1 rfl rfl) rfl rfl hV_15 rfl H
def g_ca_costOf (a0 : Nat) (x1 : Int) (σ : zS) : Option (Int × zS) :=
  (g_se_of (a0 + 1) 0 σ).bind fun o_5 =>
  (g_so_rowsIn x1 o_5.2).bind fun o_13 =>
  (g_jLong_bitCount o_13.1 o_13.2).bind fun o_16 =>
  some (w32 (o_5.1 + o_16.1), o_16.2)
set_option maxHeartbeats 4000000 in
theorem g_ca_costOf_ok {xl : Nat} {xs : Nat → Int32} {a0 : Nat} (ha0 : zIn [48, 106] a0 = true) {X1 : Int32} {x1 : Int} (hx1 : X1.toInt = x1) {σ : zS} {p : Nat} {m : zM} {o : Int × zS} (H : zRep xl xs p m σ) (h : g_ca_costOf a0 x1 σ = some o) : zGo xl xs (fun p' => p = p') 3 23 0 (z_can 23 0 (lv_args 0 [.ref a0, .int X1])) [] m (vI o.1) o.2 := by
  have hq : z_mth 23 = some z_r23 := rfl
  unfold g_ca_costOf at h
  show zGo xl xs (fun p' => p = p') 3 23 0 [(0, .ref a0), (1, .int X1)] [] m (vI o.1) o.2
  refine r_p hq 1 (pc' := 1) (L' := [(0, .ref a0), (1, .int X1)]) (st' := [.ref a0]) rfl ?_
  refine r_gR (b := a0 + 1) (pc' := 4) (L' := [(0, .ref a0), (1, .int X1)]) H hq (z_at.mk 3 rfl rfl) rfl (zIn_all (l := [48, 106]) (p := fun a => zQ a 12 1 (100 + a + 1)) rfl ha0) rfl rfl ?_
  refine r_p hq 1 (pc' := 5) (L' := [(0, .ref a0), (1, .int X1)]) (st' := [.int ((0 : Int32)), .ref (a0 + 1)]) rfl ?_
  obtain ⟨o_5, h_5, h⟩ := Option.bind_eq_some_iff.mp h
  refine r_cvI (pc' := 8) (L' := [(0, .ref a0), (1, .int X1)]) (Ps := [.int ((0 : Int32))]) (rest := []) hq (z_at.mk 3 rfl rfl) (Or.inl ⟨rfl, rfl⟩) rfl rfl (by decide) (by decide) rfl (Nat.not_lt.mpr (Nat.le_of_ble_eq_true rfl)) rfl rfl (z_cat_le 0 rfl (by decide)) (z_lgl_le 2 rfl (by decide)) (by decide) (H.tg (zIn_all (l := [48, 106]) (p := fun a => zT (a + 1) 16) rfl ha0)) (by omega) (g_se_of_ok (zIn_all (l := [48, 106]) (p := fun a => zIn [49, 82, 107, 118] (a + 1)) rfl ha0) (rfl : (0 : Int32).toInt = 0) H h_5) rfl rfl ?_
  intro R_5 m_5 p_5 e_5 hR_5 H_5
  subst e_5
  refine r_p hq 1 (pc' := 9) (L' := [(0, .ref a0), (1, .int X1)]) (st' := [.ref a0, .int R_5]) rfl ?_
  refine r_gR (b := 41) (pc' := 12) (L' := [(0, .ref a0), (1, .int X1)]) H_5 hq (z_at.mk 3 rfl rfl) rfl (zIn_all (l := [48, 106]) (p := fun a => zQ a 12 0 (100 + 41)) rfl ha0) rfl rfl ?_
  refine r_p hq 1 (pc' := 13) (L' := [(0, .ref a0), (1, .int X1)]) (st' := [.int X1, .ref 41, .int R_5]) rfl ?_
  obtain ⟨o_13, h_13, h⟩ := Option.bind_eq_some_iff.mp h
  refine r_cvL (pc' := 16) (L' := [(0, .ref a0), (1, .int X1)]) (Ps := [.int X1]) (rest := [.int R_5]) hq (z_at.mk 3 rfl rfl) (Or.inl ⟨rfl, rfl⟩) rfl rfl (by decide) (by decide) rfl (Nat.not_lt.mpr (Nat.le_of_ble_eq_true rfl)) rfl rfl (z_cat_le 1 rfl (by decide)) (z_lgl_le 2 rfl (by decide)) (by decide) (H_5.tg rfl) (by omega) (g_so_rowsIn_ok hx1 H_5 h_13) rfl rfl ?_
  intro R_13 m_13 p_13 e_13 hR_13 H_13
  subst e_13
  obtain ⟨o_16, h_16, h⟩ := Option.bind_eq_some_iff.mp h
  refine r_csI (pc' := 19) (L' := [(0, .ref a0), (1, .int X1)]) (As := [.long R_13]) (rest := [.int R_5]) (j := 287) hq (z_at.mk 3 rfl rfl) (Or.inl ⟨rfl, rfl⟩) rfl rfl (by omega) (g_jLong_bitCount_ok hR_13 H_13 h_16) rfl rfl ?_
  intro R_16 m_16 p_16 e_16 hR_16 H_16
  subst e_16
  refine r_p hq 1 (pc' := 20) (L' := [(0, .ref a0), (1, .int X1)]) (st' := [.int (R_5 + R_16)]) rfl ?_
  cases h
  exact r_ri hq (z_at.mk 1 rfl rfl) rfl rfl (tx_iadd hR_5 hR_16) rfl H_16
def g_ca_sizes_L7 (a0 : Nat) : Nat → Int → Int → zS → Option (Int × zS)
  | 0, _, _, _ => none
  | n + 1, x1, x2, σ =>
    let v_9 := σ a0 2
    if v_9 ≤ x2 then
      some (x1, σ)
    else
      if 0 ≤ x2 ∧ x2 < 181 then
      let v_25 := σ (a0 + 4) x2
      (g_so_rowsIn v_25 σ).bind fun o_26 =>
      (g_jLong_bitCount o_26.1 o_26.2).bind fun o_29 =>
      (g_ca_sizes_L7 a0 n) (w32 (x1 + o_29.1)) (w32 (x2 + 1)) o_29.2
      else none
set_option maxHeartbeats 4000000 in
theorem g_ca_sizes_L7_ok {xl : Nat} {xs : Nat → Int32} {a0 : Nat} (ha0 : zIn [48, 106] a0 = true) : ∀ (n : Nat) {X1 : Int32} {x1 : Int} {X2 : Int32} {x2 : Int} {σ : zS} {p : Nat} {m : zM} {o : Int × zS}, X1.toInt = x1 → X2.toInt = x2 → zRep xl xs p m σ → g_ca_sizes_L7 a0 n x1 x2 σ = some o → zGo xl xs (fun p' => p = p') 3 24 7 [(0, .ref a0), (1, .int X1), (2, .int X2)] [] m (vI o.1) o.2
  | 0, _, _, _, _, _, _, _, _, _, _, _, h => by cases h
  | n + 1, X1, x1, X2, x2, σ, p, m, o, hx1, hx2, H, h => by
    have hq : z_mth 24 = some z_r24 := rfl
    have ih := fun {X1 : Int32} {x1 : Int} {X2 : Int32} {x2 : Int} {σ : zS} {p : Nat} {m : zM} {o : Int × zS} => g_ca_sizes_L7_ok (xl := xl) (xs := xs) ha0 n (X1 := X1) (x1 := x1) (X2 := X2) (x2 := x2) (σ := σ) (p := p) (m := m) (o := o)
    unfold g_ca_sizes_L7 at h
    refine r_p hq 2 (pc' := 9) (L' := [(0, .ref a0), (1, .int X1), (2, .int X2)]) (st' := [.ref a0, .int X2]) rfl ?_
    refine r_gI (pc' := 12) (L' := [(0, .ref a0), (1, .int X1), (2, .int X2)]) H hq (z_at.mk 3 rfl rfl) rfl (zIn_all (l := [48, 106]) (p := fun a => zQ a 12 2 0) rfl ha0) rfl rfl ?_
    intro V_9 hV_9
    rcases z_ite h with ⟨c_12, h⟩ | ⟨c_12, h⟩
    · refine r_t2 (pc' := 40) (L' := [(0, .ref a0), (1, .int X1), (2, .int X2)]) hq (z_at.mk 3 rfl rfl) rfl hx2 hV_9 c_12 rfl rfl ?_
      refine r_p hq 1 (pc' := 41) (L' := [(0, .ref a0), (1, .int X1), (2, .int X2)]) (st' := [.int X1]) rfl ?_
      cases h
      exact r_ri hq (z_at.mk 1 rfl rfl) rfl rfl hx1 rfl H
    · refine r_f2 (pc' := 15) (L' := [(0, .ref a0), (1, .int X1), (2, .int X2)]) hq (z_at.mk 3 rfl rfl) rfl hx2 hV_9 c_12 rfl rfl ?_
      refine r_p hq 2 (pc' := 17) (L' := [(0, .ref a0), (1, .int X1), (2, .int X2)]) (st' := [.ref a0, .int X1]) rfl ?_
      refine r_gR (b := 41) (pc' := 20) (L' := [(0, .ref a0), (1, .int X1), (2, .int X2)]) H hq (z_at.mk 3 rfl rfl) rfl (zIn_all (l := [48, 106]) (p := fun a => zQ a 12 0 (100 + 41)) rfl ha0) rfl rfl ?_
      refine r_p hq 1 (pc' := 21) (L' := [(0, .ref a0), (1, .int X1), (2, .int X2)]) (st' := [.ref a0, .ref 41, .int X1]) rfl ?_
      refine r_gR (b := a0 + 4) (pc' := 24) (L' := [(0, .ref a0), (1, .int X1), (2, .int X2)]) H hq (z_at.mk 3 rfl rfl) rfl (zIn_all (l := [48, 106]) (p := fun a => zQ a 12 4 (100 + a + 4)) rfl ha0) rfl rfl ?_
      refine r_p hq 1 (pc' := 25) (L' := [(0, .ref a0), (1, .int X1), (2, .int X2)]) (st' := [.int X2, .ref (a0 + 4), .ref 41, .int X1]) rfl ?_
      obtain ⟨g_25, h⟩ := z_ifo_some h
      refine r_ia (pc' := 26) (L' := [(0, .ref a0), (1, .int X1), (2, .int X2)]) H hq (z_at.mk 1 rfl rfl) (zIn_all (l := [48, 106]) (p := fun a => zAr (a + 4) 0 181) rfl ha0) hx2 g_25 rfl rfl ?_
      intro V_25 hV_25
      obtain ⟨o_26, h_26, h⟩ := Option.bind_eq_some_iff.mp h
      refine r_cvL (pc' := 29) (L' := [(0, .ref a0), (1, .int X1), (2, .int X2)]) (Ps := [.int V_25]) (rest := [.int X1]) hq (z_at.mk 3 rfl rfl) (Or.inl ⟨rfl, rfl⟩) rfl rfl (by decide) (by decide) rfl (Nat.not_lt.mpr (Nat.le_of_ble_eq_true rfl)) rfl rfl (z_cat_le 1 rfl (by decide)) (z_lgl_le 2 rfl (by decide)) (by decide) (H.tg rfl) (by omega) (g_so_rowsIn_ok hV_25 H h_26) rfl rfl ?_
      intro R_26 m_26 p_26 e_26 hR_26 H_26
      subst e_26
      obtain ⟨o_29, h_29, h⟩ := Option.bind_eq_some_iff.mp h
      refine r_csI (pc' := 32) (L' := [(0, .ref a0), (1, .int X1), (2, .int X2)]) (As := [.long R_26]) (rest := [.int X1]) (j := 287) hq (z_at.mk 3 rfl rfl) (Or.inl ⟨rfl, rfl⟩) rfl rfl (by omega) (g_jLong_bitCount_ok hR_26 H_26 h_29) rfl rfl ?_
      intro R_29 m_29 p_29 e_29 hR_29 H_29
      subst e_29
      refine r_p hq 4 (pc' := 7) (L' := [(0, .ref a0), (1, .int (X1 + R_29)), (2, .int (X2 + (1 : Int32)))]) (st' := []) rfl ?_
      exact ih (tx_iadd hx1 hR_29) (tx_iadd hx2 (rfl : (1 : Int32).toInt = 1)) H_29 h
def g_ca_sizes (a0 : Nat) (σ : zS) : Option (Int × zS) :=
  let v_1 := σ a0 2
  g_ca_sizes_L7 a0 zK v_1 0 σ
set_option maxHeartbeats 4000000 in
theorem g_ca_sizes_ok {xl : Nat} {xs : Nat → Int32} {a0 : Nat} (ha0 : zIn [48, 106] a0 = true) {σ : zS} {p : Nat} {m : zM} {o : Int × zS} (H : zRep xl xs p m σ) (h : g_ca_sizes a0 σ = some o) : zGo xl xs (fun p' => p = p') 3 24 0 (z_can 24 0 (lv_args 0 [.ref a0])) [] m (vI o.1) o.2 := by
  have hq : z_mth 24 = some z_r24 := rfl
  unfold g_ca_sizes at h
  show zGo xl xs (fun p' => p = p') 3 24 0 [(0, .ref a0)] [] m (vI o.1) o.2
  refine r_p hq 1 (pc' := 1) (L' := [(0, .ref a0)]) (st' := [.ref a0]) rfl ?_
  refine r_gI (pc' := 4) (L' := [(0, .ref a0)]) H hq (z_at.mk 3 rfl rfl) rfl (zIn_all (l := [48, 106]) (p := fun a => zQ a 12 2 0) rfl ha0) rfl rfl ?_
  intro V_1 hV_1
  refine r_p hq 3 (pc' := 7) (L' := [(0, .ref a0), (1, .int V_1), (2, .int ((0 : Int32)))]) (st' := []) rfl ?_
  exact g_ca_sizes_L7_ok ha0 zK hV_1 (rfl : (0 : Int32).toInt = 0) H h
def g_ca_otherBehind_L4 (a0 : Nat) : Nat → Int → Int → zS → Option (Int × zS)
  | 0, _, _, _ => none
  | n + 1, x1, x2, σ =>
    let v_6 := σ a0 2
    if v_6 ≤ x2 then
      some (-1, σ)
    else
      if 0 ≤ x1 ∧ x1 < 181 then
      let v_17 := σ (a0 + 4) x1
      if 0 ≤ x2 ∧ x2 < 181 then
      let v_23 := σ (a0 + 4) x2
      (g_b_join v_17 v_23 σ).bind fun o_24 =>
      if o_24.1 = 0 then
        (g_ca_otherBehind_L4 a0 n) x1 (w32 (x2 + 1)) o_24.2
      else
        some (x2, o_24.2)
      else none
      else none
set_option maxHeartbeats 4000000 in
theorem g_ca_otherBehind_L4_ok {xl : Nat} {xs : Nat → Int32} {a0 : Nat} (ha0 : zIn [48, 106] a0 = true) : ∀ (n : Nat) {X1 : Int32} {x1 : Int} {X2 : Int32} {x2 : Int} {σ : zS} {p : Nat} {m : zM} {o : Int × zS}, X1.toInt = x1 → X2.toInt = x2 → zRep xl xs p m σ → g_ca_otherBehind_L4 a0 n x1 x2 σ = some o → zGo xl xs (fun p' => p = p') 3 34 4 [(0, .ref a0), (1, .int X1), (2, .int X2)] [] m (vI o.1) o.2
  | 0, _, _, _, _, _, _, _, _, _, _, _, h => by cases h
  | n + 1, X1, x1, X2, x2, σ, p, m, o, hx1, hx2, H, h => by
    have hq : z_mth 34 = some z_r34 := rfl
    have ih := fun {X1 : Int32} {x1 : Int} {X2 : Int32} {x2 : Int} {σ : zS} {p : Nat} {m : zM} {o : Int × zS} => g_ca_otherBehind_L4_ok (xl := xl) (xs := xs) ha0 n (X1 := X1) (x1 := x1) (X2 := X2) (x2 := x2) (σ := σ) (p := p) (m := m) (o := o)
    unfold g_ca_otherBehind_L4 at h
    refine r_p hq 2 (pc' := 6) (L' := [(0, .ref a0), (1, .int X1), (2, .int X2)]) (st' := [.ref a0, .int X2]) rfl ?_
    refine r_gI (pc' := 9) (L' := [(0, .ref a0), (1, .int X1), (2, .int X2)]) H hq (z_at.mk 3 rfl rfl) rfl (zIn_all (l := [48, 106]) (p := fun a => zQ a 12 2 0) rfl ha0) rfl rfl ?_
    intro V_6 hV_6
    rcases z_ite h with ⟨c_9, h⟩ | ⟨c_9, h⟩
    · refine r_t2 (pc' := 38) (L' := [(0, .ref a0), (1, .int X1), (2, .int X2)]) hq (z_at.mk 3 rfl rfl) rfl hx2 hV_6 c_9 rfl rfl ?_
      refine r_p hq 1 (pc' := 39) (L' := [(0, .ref a0), (1, .int X1), (2, .int X2)]) (st' := [.int ((-1 : Int32))]) rfl ?_
      cases h
      exact r_ri hq (z_at.mk 1 rfl rfl) rfl rfl (rfl : (-1 : Int32).toInt = -1) rfl H
    · refine r_f2 (pc' := 12) (L' := [(0, .ref a0), (1, .int X1), (2, .int X2)]) hq (z_at.mk 3 rfl rfl) rfl hx2 hV_6 c_9 rfl rfl ?_
      refine r_p hq 1 (pc' := 13) (L' := [(0, .ref a0), (1, .int X1), (2, .int X2)]) (st' := [.ref a0]) rfl ?_
      refine r_gR (b := a0 + 4) (pc' := 16) (L' := [(0, .ref a0), (1, .int X1), (2, .int X2)]) H hq (z_at.mk 3 rfl rfl) rfl (zIn_all (l := [48, 106]) (p := fun a => zQ a 12 4 (100 + a + 4)) rfl ha0) rfl rfl ?_
      refine r_p hq 1 (pc' := 17) (L' := [(0, .ref a0), (1, .int X1), (2, .int X2)]) (st' := [.int X1, .ref (a0 + 4)]) rfl ?_
      obtain ⟨g_17, h⟩ := z_ifo_some h
      refine r_ia (pc' := 18) (L' := [(0, .ref a0), (1, .int X1), (2, .int X2)]) H hq (z_at.mk 1 rfl rfl) (zIn_all (l := [48, 106]) (p := fun a => zAr (a + 4) 0 181) rfl ha0) hx1 g_17 rfl rfl ?_
      intro V_17 hV_17
      refine r_p hq 1 (pc' := 19) (L' := [(0, .ref a0), (1, .int X1), (2, .int X2)]) (st' := [.ref a0, .int V_17]) rfl ?_
      refine r_gR (b := a0 + 4) (pc' := 22) (L' := [(0, .ref a0), (1, .int X1), (2, .int X2)]) H hq (z_at.mk 3 rfl rfl) rfl (zIn_all (l := [48, 106]) (p := fun a => zQ a 12 4 (100 + a + 4)) rfl ha0) rfl rfl ?_
      refine r_p hq 1 (pc' := 23) (L' := [(0, .ref a0), (1, .int X1), (2, .int X2)]) (st' := [.int X2, .ref (a0 + 4), .int V_17]) rfl ?_
      obtain ⟨g_23, h⟩ := z_ifo_some h
      refine r_ia (pc' := 24) (L' := [(0, .ref a0), (1, .int X1), (2, .int X2)]) H hq (z_at.mk 1 rfl rfl) (zIn_all (l := [48, 106]) (p := fun a => zAr (a + 4) 0 181) rfl ha0) hx2 g_23 rfl rfl ?_
      intro V_23 hV_23
      obtain ⟨o_24, h_24, h⟩ := Option.bind_eq_some_iff.mp h
      refine r_csI (pc' := 27) (L' := [(0, .ref a0), (1, .int X1), (2, .int X2)]) (As := [.int V_17, .int V_23]) (rest := []) (j := 12) hq (z_at.mk 3 rfl rfl) (Or.inl ⟨rfl, rfl⟩) rfl rfl (by omega) (g_b_join_ok hV_17 hV_23 H h_24) rfl rfl ?_
      intro R_24 m_24 p_24 e_24 hR_24 H_24
      subst e_24
      rcases z_ite h with ⟨c_27, h⟩ | ⟨c_27, h⟩
      · refine r_t1 (pc' := 32) (L' := [(0, .ref a0), (1, .int X1), (2, .int X2)]) hq (z_at.mk 3 rfl rfl) rfl hR_24 c_27 rfl rfl ?_
        refine r_p hq 2 (pc' := 4) (L' := [(0, .ref a0), (1, .int X1), (2, .int (X2 + (1 : Int32)))]) (st' := []) rfl ?_
        exact ih hx1 (tx_iadd hx2 (rfl : (1 : Int32).toInt = 1)) H_24 h
      · refine r_f1 (pc' := 30) (L' := [(0, .ref a0), (1, .int X1), (2, .int X2)]) hq (z_at.mk 3 rfl rfl) rfl hR_24 c_27 rfl rfl ?_
        refine r_p hq 1 (pc' := 31) (L' := [(0, .ref a0), (1, .int X1), (2, .int X2)]) (st' := [.int X2]) rfl ?_
        cases h
        exact r_ri hq (z_at.mk 1 rfl rfl) rfl rfl hx2 rfl H_24
def g_ca_otherBehind (a0 : Nat) (x1 : Int) (σ : zS) : Option (Int × zS) :=
  g_ca_otherBehind_L4 a0 zK x1 (w32 (x1 + 1)) σ
set_option maxHeartbeats 4000000 in
theorem g_ca_otherBehind_ok {xl : Nat} {xs : Nat → Int32} {a0 : Nat} (ha0 : zIn [48, 106] a0 = true) {X1 : Int32} {x1 : Int} (hx1 : X1.toInt = x1) {σ : zS} {p : Nat} {m : zM} {o : Int × zS} (H : zRep xl xs p m σ) (h : g_ca_otherBehind a0 x1 σ = some o) : zGo xl xs (fun p' => p = p') 3 34 0 (z_can 34 0 (lv_args 0 [.ref a0, .int X1])) [] m (vI o.1) o.2 := by
  have hq : z_mth 34 = some z_r34 := rfl
  unfold g_ca_otherBehind at h
  show zGo xl xs (fun p' => p = p') 3 34 0 [(0, .ref a0), (1, .int X1)] [] m (vI o.1) o.2
  refine r_p hq 4 (pc' := 4) (L' := [(0, .ref a0), (1, .int X1), (2, .int (X1 + ((1 : Int32))))]) (st' := []) rfl ?_
  exact g_ca_otherBehind_L4_ok ha0 zK hx1 (tx_iadd hx1 (rfl : (1 : Int32).toInt = 1)) H h
def g_ca_earliestFor_L2 (a0 : Nat) : Nat → Int → Int → zS → Option (Int × zS)
  | 0, _, _, _ => none
  | n + 1, x1, x2, σ =>
    if x1 ≤ x2 then
      some (x1, σ)
    else
      if 0 ≤ x2 ∧ x2 < 181 then
      let v_12 := σ (a0 + 4) x2
      if 0 ≤ x1 ∧ x1 < 181 then
      let v_18 := σ (a0 + 4) x1
      (g_b_join v_12 v_18 σ).bind fun o_19 =>
      if o_19.1 = 0 then
        (g_ca_earliestFor_L2 a0 n) x1 (w32 (x2 + 1)) o_19.2
      else
        some (x2, o_19.2)
      else none
      else none
set_option maxHeartbeats 4000000 in
theorem g_ca_earliestFor_L2_ok {xl : Nat} {xs : Nat → Int32} {a0 : Nat} (ha0 : zIn [48, 106] a0 = true) : ∀ (n : Nat) {X1 : Int32} {x1 : Int} {X2 : Int32} {x2 : Int} {σ : zS} {p : Nat} {m : zM} {o : Int × zS}, X1.toInt = x1 → X2.toInt = x2 → zRep xl xs p m σ → g_ca_earliestFor_L2 a0 n x1 x2 σ = some o → zGo xl xs (fun p' => p = p') 3 35 2 [(0, .ref a0), (1, .int X1), (2, .int X2)] [] m (vI o.1) o.2
  | 0, _, _, _, _, _, _, _, _, _, _, _, h => by cases h
  | n + 1, X1, x1, X2, x2, σ, p, m, o, hx1, hx2, H, h => by
    have hq : z_mth 35 = some z_r35 := rfl
    have ih := fun {X1 : Int32} {x1 : Int} {X2 : Int32} {x2 : Int} {σ : zS} {p : Nat} {m : zM} {o : Int × zS} => g_ca_earliestFor_L2_ok (xl := xl) (xs := xs) ha0 n (X1 := X1) (x1 := x1) (X2 := X2) (x2 := x2) (σ := σ) (p := p) (m := m) (o := o)
    unfold g_ca_earliestFor_L2 at h
    refine r_p hq 2 (pc' := 4) (L' := [(0, .ref a0), (1, .int X1), (2, .int X2)]) (st' := [.int X1, .int X2]) rfl ?_
    rcases z_ite h with ⟨c_4, h⟩ | ⟨c_4, h⟩
    · refine r_t2 (pc' := 33) (L' := [(0, .ref a0), (1, .int X1), (2, .int X2)]) hq (z_at.mk 3 rfl rfl) rfl hx2 hx1 c_4 rfl rfl ?_
      refine r_p hq 1 (pc' := 34) (L' := [(0, .ref a0), (1, .int X1), (2, .int X2)]) (st' := [.int X1]) rfl ?_
      cases h
      exact r_ri hq (z_at.mk 1 rfl rfl) rfl rfl hx1 rfl H
    · refine r_f2 (pc' := 7) (L' := [(0, .ref a0), (1, .int X1), (2, .int X2)]) hq (z_at.mk 3 rfl rfl) rfl hx2 hx1 c_4 rfl rfl ?_
      refine r_p hq 1 (pc' := 8) (L' := [(0, .ref a0), (1, .int X1), (2, .int X2)]) (st' := [.ref a0]) rfl ?_
      refine r_gR (b := a0 + 4) (pc' := 11) (L' := [(0, .ref a0), (1, .int X1), (2, .int X2)]) H hq (z_at.mk 3 rfl rfl) rfl (zIn_all (l := [48, 106]) (p := fun a => zQ a 12 4 (100 + a + 4)) rfl ha0) rfl rfl ?_
      refine r_p hq 1 (pc' := 12) (L' := [(0, .ref a0), (1, .int X1), (2, .int X2)]) (st' := [.int X2, .ref (a0 + 4)]) rfl ?_
      obtain ⟨g_12, h⟩ := z_ifo_some h
      refine r_ia (pc' := 13) (L' := [(0, .ref a0), (1, .int X1), (2, .int X2)]) H hq (z_at.mk 1 rfl rfl) (zIn_all (l := [48, 106]) (p := fun a => zAr (a + 4) 0 181) rfl ha0) hx2 g_12 rfl rfl ?_
      intro V_12 hV_12
      refine r_p hq 1 (pc' := 14) (L' := [(0, .ref a0), (1, .int X1), (2, .int X2)]) (st' := [.ref a0, .int V_12]) rfl ?_
      refine r_gR (b := a0 + 4) (pc' := 17) (L' := [(0, .ref a0), (1, .int X1), (2, .int X2)]) H hq (z_at.mk 3 rfl rfl) rfl (zIn_all (l := [48, 106]) (p := fun a => zQ a 12 4 (100 + a + 4)) rfl ha0) rfl rfl ?_
      refine r_p hq 1 (pc' := 18) (L' := [(0, .ref a0), (1, .int X1), (2, .int X2)]) (st' := [.int X1, .ref (a0 + 4), .int V_12]) rfl ?_
      obtain ⟨g_18, h⟩ := z_ifo_some h
      refine r_ia (pc' := 19) (L' := [(0, .ref a0), (1, .int X1), (2, .int X2)]) H hq (z_at.mk 1 rfl rfl) (zIn_all (l := [48, 106]) (p := fun a => zAr (a + 4) 0 181) rfl ha0) hx1 g_18 rfl rfl ?_
      intro V_18 hV_18
      obtain ⟨o_19, h_19, h⟩ := Option.bind_eq_some_iff.mp h
      refine r_csI (pc' := 22) (L' := [(0, .ref a0), (1, .int X1), (2, .int X2)]) (As := [.int V_12, .int V_18]) (rest := []) (j := 12) hq (z_at.mk 3 rfl rfl) (Or.inl ⟨rfl, rfl⟩) rfl rfl (by omega) (g_b_join_ok hV_12 hV_18 H h_19) rfl rfl ?_
      intro R_19 m_19 p_19 e_19 hR_19 H_19
      subst e_19
      rcases z_ite h with ⟨c_22, h⟩ | ⟨c_22, h⟩
      · refine r_t1 (pc' := 27) (L' := [(0, .ref a0), (1, .int X1), (2, .int X2)]) hq (z_at.mk 3 rfl rfl) rfl hR_19 c_22 rfl rfl ?_
        refine r_p hq 2 (pc' := 2) (L' := [(0, .ref a0), (1, .int X1), (2, .int (X2 + (1 : Int32)))]) (st' := []) rfl ?_
        exact ih hx1 (tx_iadd hx2 (rfl : (1 : Int32).toInt = 1)) H_19 h
      · refine r_f1 (pc' := 25) (L' := [(0, .ref a0), (1, .int X1), (2, .int X2)]) hq (z_at.mk 3 rfl rfl) rfl hR_19 c_22 rfl rfl ?_
        refine r_p hq 1 (pc' := 26) (L' := [(0, .ref a0), (1, .int X1), (2, .int X2)]) (st' := [.int X2]) rfl ?_
        cases h
        exact r_ri hq (z_at.mk 1 rfl rfl) rfl rfl hx2 rfl H_19
def g_ca_earliestFor (a0 : Nat) (x1 : Int) (σ : zS) : Option (Int × zS) :=
  g_ca_earliestFor_L2 a0 zK x1 0 σ
set_option maxHeartbeats 4000000 in
theorem g_ca_earliestFor_ok {xl : Nat} {xs : Nat → Int32} {a0 : Nat} (ha0 : zIn [48, 106] a0 = true) {X1 : Int32} {x1 : Int} (hx1 : X1.toInt = x1) {σ : zS} {p : Nat} {m : zM} {o : Int × zS} (H : zRep xl xs p m σ) (h : g_ca_earliestFor a0 x1 σ = some o) : zGo xl xs (fun p' => p = p') 3 35 0 (z_can 35 0 (lv_args 0 [.ref a0, .int X1])) [] m (vI o.1) o.2 := by
  have hq : z_mth 35 = some z_r35 := rfl
  unfold g_ca_earliestFor at h
  show zGo xl xs (fun p' => p = p') 3 35 0 [(0, .ref a0), (1, .int X1)] [] m (vI o.1) o.2
  refine r_p hq 2 (pc' := 2) (L' := [(0, .ref a0), (1, .int X1), (2, .int ((0 : Int32)))]) (st' := []) rfl ?_
  exact g_ca_earliestFor_L2_ok ha0 zK hx1 (rfl : (0 : Int32).toInt = 0) H h
def g_ca_remove_L4 (a0 : Nat) : Nat → Int → zS → Option (Unit × zS)
  | 0, _, _ => none
  | n + 1, x2, σ =>
    let v_6 := σ a0 2
    if v_6 ≤ x2 then
      let v_90 := σ a0 2
      let s_95 := zu σ a0 2 (w32 (v_90 - 1))
      some ((), s_95)
    else
      if 0 ≤ x2 ∧ x2 < 181 then
      let v_24 := σ (a0 + 3) x2
      if 0 ≤ w32 (x2 - 1) ∧ w32 (x2 - 1) < 181 then
      let s_25 := zu σ (a0 + 3) (w32 (x2 - 1)) v_24
      if 0 ≤ x2 ∧ x2 < 181 then
      let v_38 := s_25 (a0 + 4) x2
      if 0 ≤ w32 (x2 - 1) ∧ w32 (x2 - 1) < 181 then
      let s_39 := zu s_25 (a0 + 4) (w32 (x2 - 1)) v_38
      if 0 ≤ x2 ∧ x2 < 181 then
      let v_52 := s_39 (a0 + 5) x2
      if 0 ≤ w32 (x2 - 1) ∧ w32 (x2 - 1) < 181 then
      let s_53 := zu s_39 (a0 + 5) (w32 (x2 - 1)) v_52
      if 0 ≤ x2 ∧ x2 < 181 then
      let v_66 := s_53 (a0 + 6) x2
      if 0 ≤ w32 (x2 - 1) ∧ w32 (x2 - 1) < 181 then
      let s_67 := zu s_53 (a0 + 6) (w32 (x2 - 1)) v_66
      if 0 ≤ x2 ∧ x2 < 181 then
      let v_80 := s_67 (a0 + 7) x2
      if 0 ≤ w32 (x2 - 1) ∧ w32 (x2 - 1) < 181 then
      let s_81 := zu s_67 (a0 + 7) (w32 (x2 - 1)) v_80
      (g_ca_remove_L4 a0 n) (w32 (x2 + 1)) s_81
      else none
      else none
      else none
      else none
      else none
      else none
      else none
      else none
      else none
      else none
set_option maxHeartbeats 4000000 in
theorem g_ca_remove_L4_ok {xl : Nat} {xs : Nat → Int32} {a0 : Nat} (ha0 : zIn [48, 106] a0 = true) : ∀ (n : Nat) {X2 : Int32} {x2 : Int} {σ : zS} {p : Nat} {m : zM} {o : Unit × zS}, X2.toInt = x2 → zRep xl xs p m σ → g_ca_remove_L4 a0 n x2 σ = some o → zGo xl xs (fun p' => p = p') 1 32 4 [(0, .ref a0), (2, .int X2)] [] m vV o.2
  | 0, _, _, _, _, _, _, _, _, h => by cases h
  | n + 1, X2, x2, σ, p, m, o, hx2, H, h => by
    have hq : z_mth 32 = some z_r32 := rfl
    have ih := fun {X2 : Int32} {x2 : Int} {σ : zS} {p : Nat} {m : zM} {o : Unit × zS} => g_ca_remove_L4_ok (xl := xl) (xs := xs) ha0 n (X2 := X2) (x2 := x2) (σ := σ) (p := p) (m := m) (o := o)
    unfold g_ca_remove_L4 at h
    refine r_p hq 2 (pc' := 6) (L' := [(0, .ref a0), (2, .int X2)]) (st' := [.ref a0, .int X2]) rfl ?_
    refine r_gI (pc' := 9) (L' := [(0, .ref a0), (2, .int X2)]) H hq (z_at.mk 3 rfl rfl) rfl (zIn_all (l := [48, 106]) (p := fun a => zQ a 12 2 0) rfl ha0) rfl rfl ?_
    intro V_6 hV_6
    rcases z_ite h with ⟨c_9, h⟩ | ⟨c_9, h⟩
    · refine r_t2 (pc' := 88) (L' := [(0, .ref a0), (2, .int X2)]) hq (z_at.mk 3 rfl rfl) rfl hx2 hV_6 c_9 rfl rfl ?_
      refine r_p hq 2 (pc' := 90) (L' := [(0, .ref a0), (2, .int X2)]) (st' := [.ref a0, .ref a0]) rfl ?_
      refine r_gI (pc' := 93) (L' := [(0, .ref a0), (2, .int X2)]) H hq (z_at.mk 3 rfl rfl) rfl (zIn_all (l := [48, 106]) (p := fun a => zQ a 12 2 0) rfl ha0) rfl rfl ?_
      intro V_90 hV_90
      refine r_p hq 2 (pc' := 95) (L' := [(0, .ref a0), (2, .int X2)]) (st' := [.int (V_90 - ((1 : Int32))), .ref a0]) rfl ?_
      refine r_pI (X := V_90 - ((1 : Int32))) (pc' := 98) (L' := [(0, .ref a0), (2, .int X2)]) H hq (z_at.mk 3 rfl rfl) rfl (zIn_all (l := [48, 106]) (p := fun a => zQ a 12 2 0) rfl ha0) (tx_isub hV_90 (rfl : (1 : Int32).toInt = 1)) (by decide) rfl rfl rfl rfl ?_
      intro m_95 H_95
      cases h
      exact r_rv hq (z_at.mk 1 rfl rfl) rfl rfl H_95
    · refine r_f2 (pc' := 12) (L' := [(0, .ref a0), (2, .int X2)]) hq (z_at.mk 3 rfl rfl) rfl hx2 hV_6 c_9 rfl rfl ?_
      refine r_p hq 1 (pc' := 13) (L' := [(0, .ref a0), (2, .int X2)]) (st' := [.ref a0]) rfl ?_
      refine r_gR (b := a0 + 3) (pc' := 16) (L' := [(0, .ref a0), (2, .int X2)]) H hq (z_at.mk 3 rfl rfl) rfl (zIn_all (l := [48, 106]) (p := fun a => zQ a 12 3 (100 + a + 3)) rfl ha0) rfl rfl ?_
      refine r_p hq 4 (pc' := 20) (L' := [(0, .ref a0), (2, .int X2)]) (st' := [.ref a0, .int (X2 - ((1 : Int32))), .ref (a0 + 3)]) rfl ?_
      refine r_gR (b := a0 + 3) (pc' := 23) (L' := [(0, .ref a0), (2, .int X2)]) H hq (z_at.mk 3 rfl rfl) rfl (zIn_all (l := [48, 106]) (p := fun a => zQ a 12 3 (100 + a + 3)) rfl ha0) rfl rfl ?_
      refine r_p hq 1 (pc' := 24) (L' := [(0, .ref a0), (2, .int X2)]) (st' := [.int X2, .ref (a0 + 3), .int (X2 - ((1 : Int32))), .ref (a0 + 3)]) rfl ?_
      obtain ⟨g_24, h⟩ := z_ifo_some h
      refine r_ia (pc' := 25) (L' := [(0, .ref a0), (2, .int X2)]) H hq (z_at.mk 1 rfl rfl) (zIn_all (l := [48, 106]) (p := fun a => zAr (a + 3) 0 181) rfl ha0) hx2 g_24 rfl rfl ?_
      intro V_24 hV_24
      obtain ⟨g_25, h⟩ := z_ifo_some h
      refine r_is (pc' := 26) (L' := [(0, .ref a0), (2, .int X2)]) H hq (z_at.mk 1 rfl rfl) (zIn_all (l := [48, 106]) (p := fun a => zAr (a + 3) 0 181) rfl ha0) (tx_isub hx2 (rfl : (1 : Int32).toInt = 1)) g_25 hV_24 rfl rfl ?_
      intro m_25 H_25
      refine r_p hq 1 (pc' := 27) (L' := [(0, .ref a0), (2, .int X2)]) (st' := [.ref a0]) rfl ?_
      refine r_gR (b := a0 + 4) (pc' := 30) (L' := [(0, .ref a0), (2, .int X2)]) H_25 hq (z_at.mk 3 rfl rfl) rfl (zIn_all (l := [48, 106]) (p := fun a => zQ a 12 4 (100 + a + 4)) rfl ha0) rfl rfl ?_
      refine r_p hq 4 (pc' := 34) (L' := [(0, .ref a0), (2, .int X2)]) (st' := [.ref a0, .int (X2 - ((1 : Int32))), .ref (a0 + 4)]) rfl ?_
      refine r_gR (b := a0 + 4) (pc' := 37) (L' := [(0, .ref a0), (2, .int X2)]) H_25 hq (z_at.mk 3 rfl rfl) rfl (zIn_all (l := [48, 106]) (p := fun a => zQ a 12 4 (100 + a + 4)) rfl ha0) rfl rfl ?_
      refine r_p hq 1 (pc' := 38) (L' := [(0, .ref a0), (2, .int X2)]) (st' := [.int X2, .ref (a0 + 4), .int (X2 - ((1 : Int32))), .ref (a0 + 4)]) rfl ?_
      obtain ⟨g_38, h⟩ := z_ifo_some h
      refine r_ia (pc' := 39) (L' := [(0, .ref a0), (2, .int X2)]) H_25 hq (z_at.mk 1 rfl rfl) (zIn_all (l := [48, 106]) (p := fun a => zAr (a + 4) 0 181) rfl ha0) hx2 g_38 rfl rfl ?_
      intro V_38 hV_38
      obtain ⟨g_39, h⟩ := z_ifo_some h
      refine r_is (pc' := 40) (L' := [(0, .ref a0), (2, .int X2)]) H_25 hq (z_at.mk 1 rfl rfl) (zIn_all (l := [48, 106]) (p := fun a => zAr (a + 4) 0 181) rfl ha0) (tx_isub hx2 (rfl : (1 : Int32).toInt = 1)) g_39 hV_38 rfl rfl ?_
      intro m_39 H_39
      refine r_p hq 1 (pc' := 41) (L' := [(0, .ref a0), (2, .int X2)]) (st' := [.ref a0]) rfl ?_
      refine r_gR (b := a0 + 5) (pc' := 44) (L' := [(0, .ref a0), (2, .int X2)]) H_39 hq (z_at.mk 3 rfl rfl) rfl (zIn_all (l := [48, 106]) (p := fun a => zQ a 12 5 (100 + a + 5)) rfl ha0) rfl rfl ?_
      refine r_p hq 4 (pc' := 48) (L' := [(0, .ref a0), (2, .int X2)]) (st' := [.ref a0, .int (X2 - ((1 : Int32))), .ref (a0 + 5)]) rfl ?_
      refine r_gR (b := a0 + 5) (pc' := 51) (L' := [(0, .ref a0), (2, .int X2)]) H_39 hq (z_at.mk 3 rfl rfl) rfl (zIn_all (l := [48, 106]) (p := fun a => zQ a 12 5 (100 + a + 5)) rfl ha0) rfl rfl ?_
      refine r_p hq 1 (pc' := 52) (L' := [(0, .ref a0), (2, .int X2)]) (st' := [.int X2, .ref (a0 + 5), .int (X2 - ((1 : Int32))), .ref (a0 + 5)]) rfl ?_
      obtain ⟨g_52, h⟩ := z_ifo_some h
      refine r_ia (pc' := 53) (L' := [(0, .ref a0), (2, .int X2)]) H_39 hq (z_at.mk 1 rfl rfl) (zIn_all (l := [48, 106]) (p := fun a => zAr (a + 5) 0 181) rfl ha0) hx2 g_52 rfl rfl ?_
      intro V_52 hV_52
      obtain ⟨g_53, h⟩ := z_ifo_some h
      refine r_is (pc' := 54) (L' := [(0, .ref a0), (2, .int X2)]) H_39 hq (z_at.mk 1 rfl rfl) (zIn_all (l := [48, 106]) (p := fun a => zAr (a + 5) 0 181) rfl ha0) (tx_isub hx2 (rfl : (1 : Int32).toInt = 1)) g_53 hV_52 rfl rfl ?_
      intro m_53 H_53
      refine r_p hq 1 (pc' := 55) (L' := [(0, .ref a0), (2, .int X2)]) (st' := [.ref a0]) rfl ?_
      refine r_gR (b := a0 + 6) (pc' := 58) (L' := [(0, .ref a0), (2, .int X2)]) H_53 hq (z_at.mk 3 rfl rfl) rfl (zIn_all (l := [48, 106]) (p := fun a => zQ a 12 6 (100 + a + 6)) rfl ha0) rfl rfl ?_
      refine r_p hq 4 (pc' := 62) (L' := [(0, .ref a0), (2, .int X2)]) (st' := [.ref a0, .int (X2 - ((1 : Int32))), .ref (a0 + 6)]) rfl ?_
      refine r_gR (b := a0 + 6) (pc' := 65) (L' := [(0, .ref a0), (2, .int X2)]) H_53 hq (z_at.mk 3 rfl rfl) rfl (zIn_all (l := [48, 106]) (p := fun a => zQ a 12 6 (100 + a + 6)) rfl ha0) rfl rfl ?_
      refine r_p hq 1 (pc' := 66) (L' := [(0, .ref a0), (2, .int X2)]) (st' := [.int X2, .ref (a0 + 6), .int (X2 - ((1 : Int32))), .ref (a0 + 6)]) rfl ?_
      obtain ⟨g_66, h⟩ := z_ifo_some h
      refine r_ia (pc' := 67) (L' := [(0, .ref a0), (2, .int X2)]) H_53 hq (z_at.mk 1 rfl rfl) (zIn_all (l := [48, 106]) (p := fun a => zAr (a + 6) 0 181) rfl ha0) hx2 g_66 rfl rfl ?_
      intro V_66 hV_66
      obtain ⟨g_67, h⟩ := z_ifo_some h
      refine r_is (pc' := 68) (L' := [(0, .ref a0), (2, .int X2)]) H_53 hq (z_at.mk 1 rfl rfl) (zIn_all (l := [48, 106]) (p := fun a => zAr (a + 6) 0 181) rfl ha0) (tx_isub hx2 (rfl : (1 : Int32).toInt = 1)) g_67 hV_66 rfl rfl ?_
      intro m_67 H_67
      refine r_p hq 1 (pc' := 69) (L' := [(0, .ref a0), (2, .int X2)]) (st' := [.ref a0]) rfl ?_
      refine r_gR (b := a0 + 7) (pc' := 72) (L' := [(0, .ref a0), (2, .int X2)]) H_67 hq (z_at.mk 3 rfl rfl) rfl (zIn_all (l := [48, 106]) (p := fun a => zQ a 12 7 (100 + a + 7)) rfl ha0) rfl rfl ?_
      refine r_p hq 4 (pc' := 76) (L' := [(0, .ref a0), (2, .int X2)]) (st' := [.ref a0, .int (X2 - ((1 : Int32))), .ref (a0 + 7)]) rfl ?_
      refine r_gR (b := a0 + 7) (pc' := 79) (L' := [(0, .ref a0), (2, .int X2)]) H_67 hq (z_at.mk 3 rfl rfl) rfl (zIn_all (l := [48, 106]) (p := fun a => zQ a 12 7 (100 + a + 7)) rfl ha0) rfl rfl ?_
      refine r_p hq 1 (pc' := 80) (L' := [(0, .ref a0), (2, .int X2)]) (st' := [.int X2, .ref (a0 + 7), .int (X2 - ((1 : Int32))), .ref (a0 + 7)]) rfl ?_
      obtain ⟨g_80, h⟩ := z_ifo_some h
      refine r_la (pc' := 81) (L' := [(0, .ref a0), (2, .int X2)]) H_67 hq (z_at.mk 1 rfl rfl) (zIn_all (l := [48, 106]) (p := fun a => zAr (a + 7) 1 181) rfl ha0) hx2 g_80 rfl rfl ?_
      intro V_80 hV_80
      obtain ⟨g_81, h⟩ := z_ifo_some h
      refine r_ls (pc' := 82) (L' := [(0, .ref a0), (2, .int X2)]) H_67 hq (z_at.mk 1 rfl rfl) (zIn_all (l := [48, 106]) (p := fun a => zAr (a + 7) 1 181) rfl ha0) (tx_isub hx2 (rfl : (1 : Int32).toInt = 1)) g_81 hV_80 rfl rfl ?_
      intro m_81 H_81
      refine r_p hq 2 (pc' := 4) (L' := [(0, .ref a0), (2, .int (X2 + (1 : Int32)))]) (st' := []) rfl ?_
      exact ih (tx_iadd hx2 (rfl : (1 : Int32).toInt = 1)) H_81 h
def g_ca_remove (a0 : Nat) (x1 : Int) (σ : zS) : Option (Unit × zS) :=
  g_ca_remove_L4 a0 zK (w32 (x1 + 1)) σ
set_option maxHeartbeats 4000000 in
theorem g_ca_remove_ok {xl : Nat} {xs : Nat → Int32} {a0 : Nat} (ha0 : zIn [48, 106] a0 = true) {X1 : Int32} {x1 : Int} (hx1 : X1.toInt = x1) {σ : zS} {p : Nat} {m : zM} {o : Unit × zS} (H : zRep xl xs p m σ) (h : g_ca_remove a0 x1 σ = some o) : zGo xl xs (fun p' => p = p') 1 32 0 (z_can 32 0 (lv_args 0 [.ref a0, .int X1])) [] m vV o.2 := by
  have hq : z_mth 32 = some z_r32 := rfl
  unfold g_ca_remove at h
  show zGo xl xs (fun p' => p = p') 1 32 0 [(0, .ref a0), (1, .int X1)] [] m vV o.2
  refine r_p hq 4 (pc' := 4) (L' := [(0, .ref a0), (2, .int (X1 + ((1 : Int32))))]) (st' := []) rfl ?_
  exact g_ca_remove_L4_ok ha0 zK (tx_iadd hx1 (rfl : (1 : Int32).toInt = 1)) H h
def g_jMath_max_290 (y0 : Int) (y2 : Int) (σ : zS) : Option (Int × zS) :=
  if lCmp y0 y2 < 0 then
    some (y2, σ)
  else
    some (y0, σ)
set_option maxHeartbeats 4000000 in
theorem g_jMath_max_290_ok {xl : Nat} {xs : Nat → Int32} {Y0 : Int64} {y0 : Int} (hy0 : Y0.toInt = y0) {Y2 : Int64} {y2 : Int} (hy2 : Y2.toInt = y2) {σ : zS} {p : Nat} {m : zM} {o : Int × zS} (H : zRep xl xs p m σ) (h : g_jMath_max_290 y0 y2 σ = some o) : zGo xl xs (fun p' => p = p') 1 290 0 (z_can 290 0 (lv_args 0 [.long Y0, .long Y2])) [] m (vL o.1) o.2 := by
  have hq : z_mth 290 = some z_r290 := rfl
  unfold g_jMath_max_290 at h
  show zGo xl xs (fun p' => p = p') 1 290 0 [(0, .long Y0), (2, .long Y2)] [] m (vL o.1) o.2
  refine r_p hq 3 (pc' := 3) (L' := [(0, .long Y0), (2, .long Y2)]) (st' := [.int (lg_cmp Y0 Y2)]) rfl ?_
  rcases z_ite h with ⟨c_3, h⟩ | ⟨c_3, h⟩
  · refine r_t1 (pc' := 10) (L' := [(0, .long Y0), (2, .long Y2)]) hq (z_at.mk 3 rfl rfl) rfl (tx_lcmp hy0 hy2) c_3 rfl rfl ?_
    refine r_p hq 1 (pc' := 11) (L' := []) (st' := [.long Y2]) rfl ?_
    cases h
    exact r_rl hq (z_at.mk 1 rfl rfl) rfl hy2 rfl H
  · refine r_f1 (pc' := 6) (L' := [(0, .long Y0), (2, .long Y2)]) hq (z_at.mk 3 rfl rfl) rfl (tx_lcmp hy0 hy2) c_3 rfl rfl ?_
    refine r_p hq 2 (pc' := 11) (L' := []) (st' := [.long Y0]) rfl ?_
    cases h
    exact r_rl hq (z_at.mk 1 rfl rfl) rfl hy0 rfl H
def g_ca_mergeInto (a0 : Nat) (x1 : Int) (x2 : Int) (σ : zS) : Option (Unit × zS) :=
  if 0 ≤ x1 ∧ x1 < 181 then
  let v_10 := σ (a0 + 4) x1
  if 0 ≤ x2 ∧ x2 < 181 then
  let v_16 := σ (a0 + 4) x2
  (g_b_around v_10 v_16 σ).bind fun o_17 =>
  if 0 ≤ x1 ∧ x1 < 181 then
  let s_20 := zu o_17.2 (a0 + 4) x1 o_17.1
  if 0 ≤ x1 ∧ x1 < 181 then
  let v_34 := s_20 (a0 + 5) x1
  if 0 ≤ x2 ∧ x2 < 181 then
  let v_40 := s_20 (a0 + 5) x2
  (g_jMath_min_291 9999 (w32 (v_34 + v_40)) s_20).bind fun o_42 =>
  if 0 ≤ x1 ∧ x1 < 181 then
  let s_45 := zu o_42.2 (a0 + 5) x1 o_42.1
  if 0 ≤ x1 ∧ x1 < 181 then
  let v_56 := s_45 (a0 + 6) x1
  if 0 ≤ x2 ∧ x2 < 181 then
  let v_62 := s_45 (a0 + 6) x2
  (g_b_around v_56 v_62 s_45).bind fun o_63 =>
  if 0 ≤ x1 ∧ x1 < 181 then
  let s_66 := zu o_63.2 (a0 + 6) x1 o_63.1
  if 0 ≤ x1 ∧ x1 < 181 then
  let v_77 := s_66 (a0 + 7) x1
  if 0 ≤ x2 ∧ x2 < 181 then
  let v_83 := s_66 (a0 + 7) x2
  (g_jMath_max_290 v_77 v_83 s_66).bind fun o_84 =>
  if 0 ≤ x1 ∧ x1 < 181 then
  let s_87 := zu o_84.2 (a0 + 7) x1 o_84.1
  (g_ca_remove a0 x2 s_87).bind fun o_90 =>
  let v_95 := o_90.2 a0 14
  let s_100 := zu o_90.2 a0 14 (w32 (v_95 + 1))
  some ((), s_100)
  else none
  else none
  else none
  else none
  else none
  else none
  else none
  else none
  else none
  else none
  else none
  else none
set_option maxHeartbeats 4000000 in
theorem g_ca_mergeInto_ok {xl : Nat} {xs : Nat → Int32} {a0 : Nat} (ha0 : zIn [48, 106] a0 = true) {X1 : Int32} {x1 : Int} (hx1 : X1.toInt = x1) {X2 : Int32} {x2 : Int} (hx2 : X2.toInt = x2) {σ : zS} {p : Nat} {m : zM} {o : Unit × zS} (H : zRep xl xs p m σ) (h : g_ca_mergeInto a0 x1 x2 σ = some o) : zGo xl xs (fun p' => p = p') 3 36 0 (z_can 36 0 (lv_args 0 [.ref a0, .int X1, .int X2])) [] m vV o.2 := by
  have hq : z_mth 36 = some z_r36 := rfl
  unfold g_ca_mergeInto at h
  show zGo xl xs (fun p' => p = p') 3 36 0 [(0, .ref a0), (1, .int X1), (2, .int X2)] [] m vV o.2
  refine r_p hq 1 (pc' := 1) (L' := [(0, .ref a0), (1, .int X1), (2, .int X2)]) (st' := [.ref a0]) rfl ?_
  refine r_gR (b := a0 + 4) (pc' := 4) (L' := [(0, .ref a0), (1, .int X1), (2, .int X2)]) H hq (z_at.mk 3 rfl rfl) rfl (zIn_all (l := [48, 106]) (p := fun a => zQ a 12 4 (100 + a + 4)) rfl ha0) rfl rfl ?_
  refine r_p hq 2 (pc' := 6) (L' := [(0, .ref a0), (1, .int X1), (2, .int X2)]) (st' := [.ref a0, .int X1, .ref (a0 + 4)]) rfl ?_
  refine r_gR (b := a0 + 4) (pc' := 9) (L' := [(0, .ref a0), (1, .int X1), (2, .int X2)]) H hq (z_at.mk 3 rfl rfl) rfl (zIn_all (l := [48, 106]) (p := fun a => zQ a 12 4 (100 + a + 4)) rfl ha0) rfl rfl ?_
  refine r_p hq 1 (pc' := 10) (L' := [(0, .ref a0), (1, .int X1), (2, .int X2)]) (st' := [.int X1, .ref (a0 + 4), .int X1, .ref (a0 + 4)]) rfl ?_
  obtain ⟨g_10, h⟩ := z_ifo_some h
  refine r_ia (pc' := 11) (L' := [(0, .ref a0), (1, .int X1), (2, .int X2)]) H hq (z_at.mk 1 rfl rfl) (zIn_all (l := [48, 106]) (p := fun a => zAr (a + 4) 0 181) rfl ha0) hx1 g_10 rfl rfl ?_
  intro V_10 hV_10
  refine r_p hq 1 (pc' := 12) (L' := [(0, .ref a0), (1, .int X1), (2, .int X2)]) (st' := [.ref a0, .int V_10, .int X1, .ref (a0 + 4)]) rfl ?_
  refine r_gR (b := a0 + 4) (pc' := 15) (L' := [(0, .ref a0), (1, .int X1), (2, .int X2)]) H hq (z_at.mk 3 rfl rfl) rfl (zIn_all (l := [48, 106]) (p := fun a => zQ a 12 4 (100 + a + 4)) rfl ha0) rfl rfl ?_
  refine r_p hq 1 (pc' := 16) (L' := [(0, .ref a0), (1, .int X1), (2, .int X2)]) (st' := [.int X2, .ref (a0 + 4), .int V_10, .int X1, .ref (a0 + 4)]) rfl ?_
  obtain ⟨g_16, h⟩ := z_ifo_some h
  refine r_ia (pc' := 17) (L' := [(0, .ref a0), (1, .int X1), (2, .int X2)]) H hq (z_at.mk 1 rfl rfl) (zIn_all (l := [48, 106]) (p := fun a => zAr (a + 4) 0 181) rfl ha0) hx2 g_16 rfl rfl ?_
  intro V_16 hV_16
  obtain ⟨o_17, h_17, h⟩ := Option.bind_eq_some_iff.mp h
  refine r_csI (pc' := 20) (L' := [(0, .ref a0), (1, .int X1), (2, .int X2)]) (As := [.int V_10, .int V_16]) (rest := [.int X1, .ref (a0 + 4)]) (j := 11) hq (z_at.mk 3 rfl rfl) (Or.inl ⟨rfl, rfl⟩) rfl rfl (by omega) (g_b_around_ok hV_10 hV_16 H h_17) rfl rfl ?_
  intro R_17 m_17 p_17 e_17 hR_17 H_17
  subst e_17
  obtain ⟨g_20, h⟩ := z_ifo_some h
  refine r_is (pc' := 21) (L' := [(0, .ref a0), (1, .int X1), (2, .int X2)]) H_17 hq (z_at.mk 1 rfl rfl) (zIn_all (l := [48, 106]) (p := fun a => zAr (a + 4) 0 181) rfl ha0) hx1 g_20 hR_17 rfl rfl ?_
  intro m_20 H_20
  refine r_p hq 1 (pc' := 22) (L' := [(0, .ref a0), (1, .int X1), (2, .int X2)]) (st' := [.ref a0]) rfl ?_
  refine r_gR (b := a0 + 5) (pc' := 25) (L' := [(0, .ref a0), (1, .int X1), (2, .int X2)]) H_20 hq (z_at.mk 3 rfl rfl) rfl (zIn_all (l := [48, 106]) (p := fun a => zQ a 12 5 (100 + a + 5)) rfl ha0) rfl rfl ?_
  refine r_p hq 3 (pc' := 30) (L' := [(0, .ref a0), (1, .int X1), (2, .int X2)]) (st' := [.ref a0, .int ((9999 : Int32)), .int X1, .ref (a0 + 5)]) rfl ?_
  refine r_gR (b := a0 + 5) (pc' := 33) (L' := [(0, .ref a0), (1, .int X1), (2, .int X2)]) H_20 hq (z_at.mk 3 rfl rfl) rfl (zIn_all (l := [48, 106]) (p := fun a => zQ a 12 5 (100 + a + 5)) rfl ha0) rfl rfl ?_
  refine r_p hq 1 (pc' := 34) (L' := [(0, .ref a0), (1, .int X1), (2, .int X2)]) (st' := [.int X1, .ref (a0 + 5), .int ((9999 : Int32)), .int X1, .ref (a0 + 5)]) rfl ?_
  obtain ⟨g_34, h⟩ := z_ifo_some h
  refine r_ia (pc' := 35) (L' := [(0, .ref a0), (1, .int X1), (2, .int X2)]) H_20 hq (z_at.mk 1 rfl rfl) (zIn_all (l := [48, 106]) (p := fun a => zAr (a + 5) 0 181) rfl ha0) hx1 g_34 rfl rfl ?_
  intro V_34 hV_34
  refine r_p hq 1 (pc' := 36) (L' := [(0, .ref a0), (1, .int X1), (2, .int X2)]) (st' := [.ref a0, .int V_34, .int ((9999 : Int32)), .int X1, .ref (a0 + 5)]) rfl ?_
  refine r_gR (b := a0 + 5) (pc' := 39) (L' := [(0, .ref a0), (1, .int X1), (2, .int X2)]) H_20 hq (z_at.mk 3 rfl rfl) rfl (zIn_all (l := [48, 106]) (p := fun a => zQ a 12 5 (100 + a + 5)) rfl ha0) rfl rfl ?_
  refine r_p hq 1 (pc' := 40) (L' := [(0, .ref a0), (1, .int X1), (2, .int X2)]) (st' := [.int X2, .ref (a0 + 5), .int V_34, .int ((9999 : Int32)), .int X1, .ref (a0 + 5)]) rfl ?_
  obtain ⟨g_40, h⟩ := z_ifo_some h
  refine r_ia (pc' := 41) (L' := [(0, .ref a0), (1, .int X1), (2, .int X2)]) H_20 hq (z_at.mk 1 rfl rfl) (zIn_all (l := [48, 106]) (p := fun a => zAr (a + 5) 0 181) rfl ha0) hx2 g_40 rfl rfl ?_
  intro V_40 hV_40
  refine r_p hq 1 (pc' := 42) (L' := [(0, .ref a0), (1, .int X1), (2, .int X2)]) (st' := [.int (V_34 + V_40), .int ((9999 : Int32)), .int X1, .ref (a0 + 5)]) rfl ?_
  obtain ⟨o_42, h_42, h⟩ := Option.bind_eq_some_iff.mp h
  refine r_csI (pc' := 45) (L' := [(0, .ref a0), (1, .int X1), (2, .int X2)]) (As := [.int ((9999 : Int32)), .int (V_34 + V_40)]) (rest := [.int X1, .ref (a0 + 5)]) (j := 291) hq (z_at.mk 3 rfl rfl) (Or.inl ⟨rfl, rfl⟩) rfl rfl (by omega) (g_jMath_min_291_ok (rfl : (9999 : Int32).toInt = 9999) (tx_iadd hV_34 hV_40) H_20 h_42) rfl rfl ?_
  intro R_42 m_42 p_42 e_42 hR_42 H_42
  subst e_42
  obtain ⟨g_45, h⟩ := z_ifo_some h
  refine r_is (pc' := 46) (L' := [(0, .ref a0), (1, .int X1), (2, .int X2)]) H_42 hq (z_at.mk 1 rfl rfl) (zIn_all (l := [48, 106]) (p := fun a => zAr (a + 5) 0 181) rfl ha0) hx1 g_45 hR_42 rfl rfl ?_
  intro m_45 H_45
  refine r_p hq 1 (pc' := 47) (L' := [(0, .ref a0), (1, .int X1), (2, .int X2)]) (st' := [.ref a0]) rfl ?_
  refine r_gR (b := a0 + 6) (pc' := 50) (L' := [(0, .ref a0), (1, .int X1), (2, .int X2)]) H_45 hq (z_at.mk 3 rfl rfl) rfl (zIn_all (l := [48, 106]) (p := fun a => zQ a 12 6 (100 + a + 6)) rfl ha0) rfl rfl ?_
  refine r_p hq 2 (pc' := 52) (L' := [(0, .ref a0), (1, .int X1), (2, .int X2)]) (st' := [.ref a0, .int X1, .ref (a0 + 6)]) rfl ?_
  refine r_gR (b := a0 + 6) (pc' := 55) (L' := [(0, .ref a0), (1, .int X1), (2, .int X2)]) H_45 hq (z_at.mk 3 rfl rfl) rfl (zIn_all (l := [48, 106]) (p := fun a => zQ a 12 6 (100 + a + 6)) rfl ha0) rfl rfl ?_
  refine r_p hq 1 (pc' := 56) (L' := [(0, .ref a0), (1, .int X1), (2, .int X2)]) (st' := [.int X1, .ref (a0 + 6), .int X1, .ref (a0 + 6)]) rfl ?_
  obtain ⟨g_56, h⟩ := z_ifo_some h
  refine r_ia (pc' := 57) (L' := [(0, .ref a0), (1, .int X1), (2, .int X2)]) H_45 hq (z_at.mk 1 rfl rfl) (zIn_all (l := [48, 106]) (p := fun a => zAr (a + 6) 0 181) rfl ha0) hx1 g_56 rfl rfl ?_
  intro V_56 hV_56
  refine r_p hq 1 (pc' := 58) (L' := [(0, .ref a0), (1, .int X1), (2, .int X2)]) (st' := [.ref a0, .int V_56, .int X1, .ref (a0 + 6)]) rfl ?_
  refine r_gR (b := a0 + 6) (pc' := 61) (L' := [(0, .ref a0), (1, .int X1), (2, .int X2)]) H_45 hq (z_at.mk 3 rfl rfl) rfl (zIn_all (l := [48, 106]) (p := fun a => zQ a 12 6 (100 + a + 6)) rfl ha0) rfl rfl ?_
  refine r_p hq 1 (pc' := 62) (L' := [(0, .ref a0), (1, .int X1), (2, .int X2)]) (st' := [.int X2, .ref (a0 + 6), .int V_56, .int X1, .ref (a0 + 6)]) rfl ?_
  obtain ⟨g_62, h⟩ := z_ifo_some h
  refine r_ia (pc' := 63) (L' := [(0, .ref a0), (1, .int X1), (2, .int X2)]) H_45 hq (z_at.mk 1 rfl rfl) (zIn_all (l := [48, 106]) (p := fun a => zAr (a + 6) 0 181) rfl ha0) hx2 g_62 rfl rfl ?_
  intro V_62 hV_62
  obtain ⟨o_63, h_63, h⟩ := Option.bind_eq_some_iff.mp h
  refine r_csI (pc' := 66) (L' := [(0, .ref a0), (1, .int X1), (2, .int X2)]) (As := [.int V_56, .int V_62]) (rest := [.int X1, .ref (a0 + 6)]) (j := 11) hq (z_at.mk 3 rfl rfl) (Or.inl ⟨rfl, rfl⟩) rfl rfl (by omega) (g_b_around_ok hV_56 hV_62 H_45 h_63) rfl rfl ?_
  intro R_63 m_63 p_63 e_63 hR_63 H_63
  subst e_63
  obtain ⟨g_66, h⟩ := z_ifo_some h
  refine r_is (pc' := 67) (L' := [(0, .ref a0), (1, .int X1), (2, .int X2)]) H_63 hq (z_at.mk 1 rfl rfl) (zIn_all (l := [48, 106]) (p := fun a => zAr (a + 6) 0 181) rfl ha0) hx1 g_66 hR_63 rfl rfl ?_
  intro m_66 H_66
  refine r_p hq 1 (pc' := 68) (L' := [(0, .ref a0), (1, .int X1), (2, .int X2)]) (st' := [.ref a0]) rfl ?_
  refine r_gR (b := a0 + 7) (pc' := 71) (L' := [(0, .ref a0), (1, .int X1), (2, .int X2)]) H_66 hq (z_at.mk 3 rfl rfl) rfl (zIn_all (l := [48, 106]) (p := fun a => zQ a 12 7 (100 + a + 7)) rfl ha0) rfl rfl ?_
  refine r_p hq 2 (pc' := 73) (L' := [(0, .ref a0), (1, .int X1), (2, .int X2)]) (st' := [.ref a0, .int X1, .ref (a0 + 7)]) rfl ?_
  refine r_gR (b := a0 + 7) (pc' := 76) (L' := [(0, .ref a0), (1, .int X1), (2, .int X2)]) H_66 hq (z_at.mk 3 rfl rfl) rfl (zIn_all (l := [48, 106]) (p := fun a => zQ a 12 7 (100 + a + 7)) rfl ha0) rfl rfl ?_
  refine r_p hq 1 (pc' := 77) (L' := [(0, .ref a0), (1, .int X1), (2, .int X2)]) (st' := [.int X1, .ref (a0 + 7), .int X1, .ref (a0 + 7)]) rfl ?_
  obtain ⟨g_77, h⟩ := z_ifo_some h
  refine r_la (pc' := 78) (L' := [(0, .ref a0), (1, .int X1), (2, .int X2)]) H_66 hq (z_at.mk 1 rfl rfl) (zIn_all (l := [48, 106]) (p := fun a => zAr (a + 7) 1 181) rfl ha0) hx1 g_77 rfl rfl ?_
  intro V_77 hV_77
  refine r_p hq 1 (pc' := 79) (L' := [(0, .ref a0), (1, .int X1), (2, .int X2)]) (st' := [.ref a0, .long V_77, .int X1, .ref (a0 + 7)]) rfl ?_
  refine r_gR (b := a0 + 7) (pc' := 82) (L' := [(0, .ref a0), (1, .int X1), (2, .int X2)]) H_66 hq (z_at.mk 3 rfl rfl) rfl (zIn_all (l := [48, 106]) (p := fun a => zQ a 12 7 (100 + a + 7)) rfl ha0) rfl rfl ?_
  refine r_p hq 1 (pc' := 83) (L' := [(0, .ref a0), (1, .int X1), (2, .int X2)]) (st' := [.int X2, .ref (a0 + 7), .long V_77, .int X1, .ref (a0 + 7)]) rfl ?_
  obtain ⟨g_83, h⟩ := z_ifo_some h
  refine r_la (pc' := 84) (L' := [(0, .ref a0), (1, .int X1), (2, .int X2)]) H_66 hq (z_at.mk 1 rfl rfl) (zIn_all (l := [48, 106]) (p := fun a => zAr (a + 7) 1 181) rfl ha0) hx2 g_83 rfl rfl ?_
  intro V_83 hV_83
  obtain ⟨o_84, h_84, h⟩ := Option.bind_eq_some_iff.mp h
  refine r_csL (pc' := 87) (L' := [(0, .ref a0), (1, .int X1), (2, .int X2)]) (As := [.long V_77, .long V_83]) (rest := [.int X1, .ref (a0 + 7)]) (j := 290) hq (z_at.mk 3 rfl rfl) (Or.inl ⟨rfl, rfl⟩) rfl rfl (by omega) (g_jMath_max_290_ok hV_77 hV_83 H_66 h_84) rfl rfl ?_
  intro R_84 m_84 p_84 e_84 hR_84 H_84
  subst e_84
  obtain ⟨g_87, h⟩ := z_ifo_some h
  refine r_ls (pc' := 88) (L' := [(0, .ref a0), (1, .int X1), (2, .int X2)]) H_84 hq (z_at.mk 1 rfl rfl) (zIn_all (l := [48, 106]) (p := fun a => zAr (a + 7) 1 181) rfl ha0) hx1 g_87 hR_84 rfl rfl ?_
  intro m_87 H_87
  refine r_p hq 2 (pc' := 90) (L' := [(0, .ref a0), (1, .int X1), (2, .int X2)]) (st' := [.int X2, .ref a0]) rfl ?_
  obtain ⟨o_90, h_90, h⟩ := Option.bind_eq_some_iff.mp h
  refine r_cvV (pc' := 93) (L' := [(0, .ref a0), (1, .int X1), (2, .int X2)]) (Ps := [.int X2]) (rest := []) hq (z_at.mk 3 rfl rfl) (Or.inl ⟨rfl, rfl⟩) rfl rfl (by decide) (by decide) rfl (Nat.not_lt.mpr (Nat.le_of_ble_eq_true rfl)) rfl rfl (z_cat_le 0 rfl (by decide)) (z_lgl_le 2 rfl (by decide)) (by decide) (H_87.tg (zIn_all (l := [48, 106]) (p := fun a => zT a 12) rfl ha0)) (by omega) (g_ca_remove_ok (zIn_all (l := [48, 106]) (p := fun a => zIn [48, 106] a) rfl ha0) hx2 H_87 h_90) rfl rfl ?_
  intro m_90 p_90 e_90 H_90
  subst e_90
  refine r_p hq 2 (pc' := 95) (L' := [(0, .ref a0), (1, .int X1), (2, .int X2)]) (st' := [.ref a0, .ref a0]) rfl ?_
  refine r_gI (pc' := 98) (L' := [(0, .ref a0), (1, .int X1), (2, .int X2)]) H_90 hq (z_at.mk 3 rfl rfl) rfl (zIn_all (l := [48, 106]) (p := fun a => zQ a 12 14 0) rfl ha0) rfl rfl ?_
  intro V_95 hV_95
  refine r_p hq 2 (pc' := 100) (L' := [(0, .ref a0), (1, .int X1), (2, .int X2)]) (st' := [.int (V_95 + ((1 : Int32))), .ref a0]) rfl ?_
  refine r_pI (X := V_95 + ((1 : Int32))) (pc' := 103) (L' := [(0, .ref a0), (1, .int X1), (2, .int X2)]) H_90 hq (z_at.mk 3 rfl rfl) rfl (zIn_all (l := [48, 106]) (p := fun a => zQ a 12 14 0) rfl ha0) (tx_iadd hV_95 (rfl : (1 : Int32).toInt = 1)) (by decide) rfl rfl rfl rfl ?_
  intro m_100 H_100
  cases h
  exact r_rv hq (z_at.mk 1 rfl rfl) rfl rfl H_100
def g_ca_merge_L57 (a0 : Nat) (g17 : Int → Int → zS → Option (Unit × zS)) (x1 : Int) (x2 : Int) (σ : zS) : Option (Unit × zS) :=
  g17 x1 (w32 (x2 - 1)) σ
set_option maxHeartbeats 4000000 in
theorem g_ca_merge_L57_ok {xl : Nat} {xs : Nat → Int32} {a0 : Nat} (ha0 : zIn [48, 106] a0 = true) {g17 : Int → Int → zS → Option (Unit × zS)} (hg17 : ∀ {X1 : Int32} {x1 : Int} {X2 : Int32} {x2 : Int} {σ : zS} {p : Nat} {m : zM} {o : Unit × zS}, X1.toInt = x1 → X2.toInt = x2 → zRep xl xs p m σ → g17 x1 x2 σ = some o → zGo xl xs (fun p' => p = p') 4 33 17 [(0, .ref a0), (1, .int X1), (2, .int X2)] [] m vV o.2) {X1 : Int32} {x1 : Int} (hx1 : X1.toInt = x1) {X2 : Int32} {x2 : Int} (hx2 : X2.toInt = x2) {σ : zS} {p : Nat} {m : zM} {o : Unit × zS} (H : zRep xl xs p m σ) (h : g_ca_merge_L57 a0 g17 x1 x2 σ = some o) : zGo xl xs (fun p' => p = p') 4 33 57 [(0, .ref a0), (1, .int X1), (2, .int X2)] [] m vV o.2 := by
  have hq : z_mth 33 = some z_r33 := rfl
  unfold g_ca_merge_L57 at h
  refine r_p hq 2 (pc' := 17) (L' := [(0, .ref a0), (1, .int X1), (2, .int (X2 + (-1 : Int32)))]) (st' := []) rfl ?_
  exact hg17 hx1 (tx_iaddn hx2 (rfl : (-1 : Int32).toInt = -1)) H h
def g_ca_merge_L17 (a0 : Nat) : Nat → Int → Int → zS → Option (Unit × zS)
  | 0, _, _, _ => none
  | n + 1, x1, x2, σ =>
    if x2 ≤ 0 then
      some ((), σ)
    else
      let v_23 := σ a0 2
      if v_23 ≤ x1 then
        some ((), σ)
      else
        (g_ca_otherBehind a0 x1 σ).bind fun o_31 =>
        if 0 ≤ o_31.1 then
          (g_ca_mergeInto a0 x1 o_31.1 o_31.2).bind fun o_48 =>
          (g_ca_earliestFor a0 x1 o_48.2).bind fun o_53 =>
          g_ca_merge_L57 a0 ((g_ca_merge_L17 a0 n)) o_53.1 x2 o_53.2
        else
          g_ca_merge_L57 a0 ((g_ca_merge_L17 a0 n)) (w32 (x1 + 1)) x2 o_31.2
set_option maxHeartbeats 4000000 in
theorem g_ca_merge_L17_ok {xl : Nat} {xs : Nat → Int32} {a0 : Nat} (ha0 : zIn [48, 106] a0 = true) : ∀ (n : Nat) {X1 : Int32} {x1 : Int} {X2 : Int32} {x2 : Int} {σ : zS} {p : Nat} {m : zM} {o : Unit × zS}, X1.toInt = x1 → X2.toInt = x2 → zRep xl xs p m σ → g_ca_merge_L17 a0 n x1 x2 σ = some o → zGo xl xs (fun p' => p = p') 4 33 17 [(0, .ref a0), (1, .int X1), (2, .int X2)] [] m vV o.2
  | 0, _, _, _, _, _, _, _, _, _, _, _, h => by cases h
  | n + 1, X1, x1, X2, x2, σ, p, m, o, hx1, hx2, H, h => by
    have hq : z_mth 33 = some z_r33 := rfl
    have ih := fun {X1 : Int32} {x1 : Int} {X2 : Int32} {x2 : Int} {σ : zS} {p : Nat} {m : zM} {o : Unit × zS} => g_ca_merge_L17_ok (xl := xl) (xs := xs) ha0 n (X1 := X1) (x1 := x1) (X2 := X2) (x2 := x2) (σ := σ) (p := p) (m := m) (o := o)
    unfold g_ca_merge_L17 at h
    refine r_p hq 1 (pc' := 18) (L' := [(0, .ref a0), (1, .int X1), (2, .int X2)]) (st' := [.int X2]) rfl ?_
    rcases z_ite h with ⟨c_18, h⟩ | ⟨c_18, h⟩
    · refine r_t1 (pc' := 63) (L' := []) hq (z_at.mk 3 rfl rfl) rfl hx2 c_18 rfl rfl ?_
      cases h
      exact r_rv hq (z_at.mk 1 rfl rfl) rfl rfl H
    · refine r_f1 (pc' := 21) (L' := [(0, .ref a0), (1, .int X1), (2, .int X2)]) hq (z_at.mk 3 rfl rfl) rfl hx2 c_18 rfl rfl ?_
      refine r_p hq 2 (pc' := 23) (L' := [(0, .ref a0), (1, .int X1), (2, .int X2)]) (st' := [.ref a0, .int X1]) rfl ?_
      refine r_gI (pc' := 26) (L' := [(0, .ref a0), (1, .int X1), (2, .int X2)]) H hq (z_at.mk 3 rfl rfl) rfl (zIn_all (l := [48, 106]) (p := fun a => zQ a 12 2 0) rfl ha0) rfl rfl ?_
      intro V_23 hV_23
      rcases z_ite h with ⟨c_26, h⟩ | ⟨c_26, h⟩
      · refine r_t2 (pc' := 63) (L' := []) hq (z_at.mk 3 rfl rfl) rfl hx1 hV_23 c_26 rfl rfl ?_
        cases h
        exact r_rv hq (z_at.mk 1 rfl rfl) rfl rfl H
      · refine r_f2 (pc' := 29) (L' := [(0, .ref a0), (1, .int X1), (2, .int X2)]) hq (z_at.mk 3 rfl rfl) rfl hx1 hV_23 c_26 rfl rfl ?_
        refine r_p hq 2 (pc' := 31) (L' := [(0, .ref a0), (1, .int X1), (2, .int X2)]) (st' := [.int X1, .ref a0]) rfl ?_
        obtain ⟨o_31, h_31, h⟩ := Option.bind_eq_some_iff.mp h
        refine r_cvI (pc' := 34) (L' := [(0, .ref a0), (1, .int X1), (2, .int X2)]) (Ps := [.int X1]) (rest := []) hq (z_at.mk 3 rfl rfl) (Or.inl ⟨rfl, rfl⟩) rfl rfl (by decide) (by decide) rfl (Nat.not_lt.mpr (Nat.le_of_ble_eq_true rfl)) rfl rfl (z_cat_le 0 rfl (by decide)) (z_lgl_le 2 rfl (by decide)) (by decide) (H.tg (zIn_all (l := [48, 106]) (p := fun a => zT a 12) rfl ha0)) (by omega) (g_ca_otherBehind_ok (zIn_all (l := [48, 106]) (p := fun a => zIn [48, 106] a) rfl ha0) hx1 H h_31) rfl rfl ?_
        intro R_31 m_31 p_31 e_31 hR_31 H_31
        subst e_31
        refine r_p hq 2 (pc' := 36) (L' := [(3, .int R_31), (0, .ref a0), (1, .int X1), (2, .int X2)]) (st' := [.int R_31]) rfl ?_
        rcases z_ite h with ⟨c_36, h⟩ | ⟨c_36, h⟩
        · refine r_t1 (pc' := 45) (L' := [(3, .int R_31), (0, .ref a0), (1, .int X1), (2, .int X2)]) hq (z_at.mk 3 rfl rfl) rfl hR_31 c_36 rfl rfl ?_
          refine r_p hq 3 (pc' := 48) (L' := [(3, .int R_31), (0, .ref a0), (1, .int X1), (2, .int X2)]) (st' := [.int R_31, .int X1, .ref a0]) rfl ?_
          obtain ⟨o_48, h_48, h⟩ := Option.bind_eq_some_iff.mp h
          refine r_cvV (pc' := 51) (L' := [(3, .int R_31), (0, .ref a0), (1, .int X1), (2, .int X2)]) (Ps := [.int X1, .int R_31]) (rest := []) hq (z_at.mk 3 rfl rfl) (Or.inl ⟨rfl, rfl⟩) rfl rfl (by decide) (by decide) rfl (Nat.not_lt.mpr (Nat.le_of_ble_eq_true rfl)) rfl rfl (z_cat_le 0 rfl (by decide)) (z_lgl_le 3 rfl (by decide)) (by decide) (H_31.tg (zIn_all (l := [48, 106]) (p := fun a => zT a 12) rfl ha0)) (by omega) (g_ca_mergeInto_ok (zIn_all (l := [48, 106]) (p := fun a => zIn [48, 106] a) rfl ha0) hx1 hR_31 H_31 h_48) rfl rfl ?_
          intro m_48 p_48 e_48 H_48
          subst e_48
          refine r_p hq 2 (pc' := 53) (L' := [(3, .int R_31), (0, .ref a0), (1, .int X1), (2, .int X2)]) (st' := [.int X1, .ref a0]) rfl ?_
          obtain ⟨o_53, h_53, h⟩ := Option.bind_eq_some_iff.mp h
          refine r_cvI (pc' := 56) (L' := [(3, .int R_31), (0, .ref a0), (1, .int X1), (2, .int X2)]) (Ps := [.int X1]) (rest := []) hq (z_at.mk 3 rfl rfl) (Or.inl ⟨rfl, rfl⟩) rfl rfl (by decide) (by decide) rfl (Nat.not_lt.mpr (Nat.le_of_ble_eq_true rfl)) rfl rfl (z_cat_le 0 rfl (by decide)) (z_lgl_le 2 rfl (by decide)) (by decide) (H_48.tg (zIn_all (l := [48, 106]) (p := fun a => zT a 12) rfl ha0)) (by omega) (g_ca_earliestFor_ok (zIn_all (l := [48, 106]) (p := fun a => zIn [48, 106] a) rfl ha0) hx1 H_48 h_53) rfl rfl ?_
          intro R_53 m_53 p_53 e_53 hR_53 H_53
          subst e_53
          refine r_p hq 1 (pc' := 57) (L' := [(0, .ref a0), (1, .int R_53), (2, .int X2)]) (st' := []) rfl ?_
          exact g_ca_merge_L57_ok ha0 ih hR_53 hx2 H_53 h
        · refine r_f1 (pc' := 39) (L' := [(3, .int R_31), (0, .ref a0), (1, .int X1), (2, .int X2)]) hq (z_at.mk 3 rfl rfl) rfl hR_31 c_36 rfl rfl ?_
          refine r_p hq 2 (pc' := 57) (L' := [(0, .ref a0), (1, .int (X1 + (1 : Int32))), (2, .int X2)]) (st' := []) rfl ?_
          exact g_ca_merge_L57_ok ha0 ih (tx_iadd hx1 (rfl : (1 : Int32).toInt = 1)) hx2 H_31 h
def g_ca_merge (a0 : Nat) (σ : zS) : Option (Unit × zS) :=
  (g_se_of (a0 + 1) 4 σ).bind fun o_5 =>
  if o_5.1 ≠ 0 then
    g_ca_merge_L17 a0 zK 0 100000 o_5.2
  else
    some ((), o_5.2)
set_option maxHeartbeats 4000000 in
theorem g_ca_merge_ok {xl : Nat} {xs : Nat → Int32} {a0 : Nat} (ha0 : zIn [48, 106] a0 = true) {σ : zS} {p : Nat} {m : zM} {o : Unit × zS} (H : zRep xl xs p m σ) (h : g_ca_merge a0 σ = some o) : zGo xl xs (fun p' => p = p') 4 33 0 (z_can 33 0 (lv_args 0 [.ref a0])) [] m vV o.2 := by
  have hq : z_mth 33 = some z_r33 := rfl
  unfold g_ca_merge at h
  show zGo xl xs (fun p' => p = p') 4 33 0 [(0, .ref a0)] [] m vV o.2
  refine r_p hq 1 (pc' := 1) (L' := [(0, .ref a0)]) (st' := [.ref a0]) rfl ?_
  refine r_gR (b := a0 + 1) (pc' := 4) (L' := [(0, .ref a0)]) H hq (z_at.mk 3 rfl rfl) rfl (zIn_all (l := [48, 106]) (p := fun a => zQ a 12 1 (100 + a + 1)) rfl ha0) rfl rfl ?_
  refine r_p hq 1 (pc' := 5) (L' := [(0, .ref a0)]) (st' := [.int ((4 : Int32)), .ref (a0 + 1)]) rfl ?_
  obtain ⟨o_5, h_5, h⟩ := Option.bind_eq_some_iff.mp h
  refine r_cvI (pc' := 8) (L' := [(0, .ref a0)]) (Ps := [.int ((4 : Int32))]) (rest := []) hq (z_at.mk 3 rfl rfl) (Or.inl ⟨rfl, rfl⟩) rfl rfl (by decide) (by decide) rfl (Nat.not_lt.mpr (Nat.le_of_ble_eq_true rfl)) rfl rfl (z_cat_le 0 rfl (by decide)) (z_lgl_le 2 rfl (by decide)) (by decide) (H.tg (zIn_all (l := [48, 106]) (p := fun a => zT (a + 1) 16) rfl ha0)) (by omega) (g_se_of_ok (zIn_all (l := [48, 106]) (p := fun a => zIn [49, 82, 107, 118] (a + 1)) rfl ha0) (rfl : (4 : Int32).toInt = 4) H h_5) rfl rfl ?_
  intro R_5 m_5 p_5 e_5 hR_5 H_5
  subst e_5
  rcases z_ite h with ⟨c_8, h⟩ | ⟨c_8, h⟩
  · refine r_t1 (pc' := 12) (L' := [(0, .ref a0)]) hq (z_at.mk 3 rfl rfl) rfl hR_5 c_8 rfl rfl ?_
    refine r_p hq 4 (pc' := 17) (L' := [(0, .ref a0), (1, .int ((0 : Int32))), (2, .int ((100000 : Int32)))]) (st' := []) rfl ?_
    exact g_ca_merge_L17_ok ha0 zK (rfl : (0 : Int32).toInt = 0) (rfl : (100000 : Int32).toInt = 100000) H_5 h
  · refine r_f1 (pc' := 11) (L' := [(0, .ref a0)]) hq (z_at.mk 3 rfl rfl) rfl hR_5 c_8 rfl rfl ?_
    cases h
    exact r_rv hq (z_at.mk 1 rfl rfl) rfl rfl H_5
def g_ca_weigh (a0 : Nat) (x1 : Int) (σ : zS) : Option (Unit × zS) :=
  if 0 ≤ x1 ∧ x1 < 181 then
  let v_9 := σ (a0 + 4) x1
  (g_so_rowsIn v_9 σ).bind fun o_10 =>
  (g_jLong_bitCount o_10.1 o_10.2).bind fun o_13 =>
  (g_se_of (a0 + 1) 0 o_13.2).bind fun o_22 =>
  let v_35 := o_22.2 a0 9
  if 0 ≤ x1 ∧ x1 < 181 then
  let v_49 := o_22.2 (a0 + 5) x1
  if w32 (1 + o_13.1) = 0 then none else
  if 0 ≤ x1 ∧ x1 < 181 then
  let s_59 := zu o_22.2 (a0 + 7) x1 (w64 (v_35 + (w64 (Int.tdiv (w64 ((w64 (1000 * (w32 (o_22.1 + o_13.1)))) * (w32 (1 + v_49)))) (w32 (1 + o_13.1))))))
  some ((), s_59)
  else none
  else none
  else none
set_option maxHeartbeats 4000000 in
theorem g_ca_weigh_ok {xl : Nat} {xs : Nat → Int32} {a0 : Nat} (ha0 : zIn [48, 106] a0 = true) {X1 : Int32} {x1 : Int} (hx1 : X1.toInt = x1) {σ : zS} {p : Nat} {m : zM} {o : Unit × zS} (H : zRep xl xs p m σ) (h : g_ca_weigh a0 x1 σ = some o) : zGo xl xs (fun p' => p = p') 3 28 0 (z_can 28 0 (lv_args 0 [.ref a0, .int X1])) [] m vV o.2 := by
  have hq : z_mth 28 = some z_r28 := rfl
  unfold g_ca_weigh at h
  show zGo xl xs (fun p' => p = p') 3 28 0 [(0, .ref a0), (1, .int X1)] [] m vV o.2
  refine r_p hq 1 (pc' := 1) (L' := [(0, .ref a0), (1, .int X1)]) (st' := [.ref a0]) rfl ?_
  refine r_gR (b := 41) (pc' := 4) (L' := [(0, .ref a0), (1, .int X1)]) H hq (z_at.mk 3 rfl rfl) rfl (zIn_all (l := [48, 106]) (p := fun a => zQ a 12 0 (100 + 41)) rfl ha0) rfl rfl ?_
  refine r_p hq 1 (pc' := 5) (L' := [(0, .ref a0), (1, .int X1)]) (st' := [.ref a0, .ref 41]) rfl ?_
  refine r_gR (b := a0 + 4) (pc' := 8) (L' := [(0, .ref a0), (1, .int X1)]) H hq (z_at.mk 3 rfl rfl) rfl (zIn_all (l := [48, 106]) (p := fun a => zQ a 12 4 (100 + a + 4)) rfl ha0) rfl rfl ?_
  refine r_p hq 1 (pc' := 9) (L' := [(0, .ref a0), (1, .int X1)]) (st' := [.int X1, .ref (a0 + 4), .ref 41]) rfl ?_
  obtain ⟨g_9, h⟩ := z_ifo_some h
  refine r_ia (pc' := 10) (L' := [(0, .ref a0), (1, .int X1)]) H hq (z_at.mk 1 rfl rfl) (zIn_all (l := [48, 106]) (p := fun a => zAr (a + 4) 0 181) rfl ha0) hx1 g_9 rfl rfl ?_
  intro V_9 hV_9
  obtain ⟨o_10, h_10, h⟩ := Option.bind_eq_some_iff.mp h
  refine r_cvL (pc' := 13) (L' := [(0, .ref a0), (1, .int X1)]) (Ps := [.int V_9]) (rest := []) hq (z_at.mk 3 rfl rfl) (Or.inl ⟨rfl, rfl⟩) rfl rfl (by decide) (by decide) rfl (Nat.not_lt.mpr (Nat.le_of_ble_eq_true rfl)) rfl rfl (z_cat_le 0 rfl (by decide)) (z_lgl_le 2 rfl (by decide)) (by decide) (H.tg rfl) (by omega) (g_so_rowsIn_ok hV_9 H h_10) rfl rfl ?_
  intro R_10 m_10 p_10 e_10 hR_10 H_10
  subst e_10
  obtain ⟨o_13, h_13, h⟩ := Option.bind_eq_some_iff.mp h
  refine r_csI (pc' := 16) (L' := [(0, .ref a0), (1, .int X1)]) (As := [.long R_10]) (rest := []) (j := 287) hq (z_at.mk 3 rfl rfl) (Or.inl ⟨rfl, rfl⟩) rfl rfl (by omega) (g_jLong_bitCount_ok hR_10 H_10 h_13) rfl rfl ?_
  intro R_13 m_13 p_13 e_13 hR_13 H_13
  subst e_13
  refine r_p hq 2 (pc' := 18) (L' := [(2, .int R_13), (0, .ref a0), (1, .int X1)]) (st' := [.ref a0]) rfl ?_
  refine r_gR (b := a0 + 1) (pc' := 21) (L' := [(2, .int R_13), (0, .ref a0), (1, .int X1)]) H_13 hq (z_at.mk 3 rfl rfl) rfl (zIn_all (l := [48, 106]) (p := fun a => zQ a 12 1 (100 + a + 1)) rfl ha0) rfl rfl ?_
  refine r_p hq 1 (pc' := 22) (L' := [(2, .int R_13), (0, .ref a0), (1, .int X1)]) (st' := [.int ((0 : Int32)), .ref (a0 + 1)]) rfl ?_
  obtain ⟨o_22, h_22, h⟩ := Option.bind_eq_some_iff.mp h
  refine r_cvI (pc' := 25) (L' := [(2, .int R_13), (0, .ref a0), (1, .int X1)]) (Ps := [.int ((0 : Int32))]) (rest := []) hq (z_at.mk 3 rfl rfl) (Or.inl ⟨rfl, rfl⟩) rfl rfl (by decide) (by decide) rfl (Nat.not_lt.mpr (Nat.le_of_ble_eq_true rfl)) rfl rfl (z_cat_le 0 rfl (by decide)) (z_lgl_le 2 rfl (by decide)) (by decide) (H_13.tg (zIn_all (l := [48, 106]) (p := fun a => zT (a + 1) 16) rfl ha0)) (by omega) (g_se_of_ok (zIn_all (l := [48, 106]) (p := fun a => zIn [49, 82, 107, 118] (a + 1)) rfl ha0) (rfl : (0 : Int32).toInt = 0) H_13 h_22) rfl rfl ?_
  intro R_22 m_22 p_22 e_22 hR_22 H_22
  subst e_22
  refine r_p hq 5 (pc' := 30) (L' := [(3, .long ((R_22 + R_13).toInt64)), (2, .int R_13), (0, .ref a0), (1, .int X1)]) (st' := [.ref a0]) rfl ?_
  refine r_gR (b := a0 + 7) (pc' := 33) (L' := [(3, .long ((R_22 + R_13).toInt64)), (2, .int R_13), (0, .ref a0), (1, .int X1)]) H_22 hq (z_at.mk 3 rfl rfl) rfl (zIn_all (l := [48, 106]) (p := fun a => zQ a 12 7 (100 + a + 7)) rfl ha0) rfl rfl ?_
  refine r_p hq 2 (pc' := 35) (L' := [(3, .long ((R_22 + R_13).toInt64)), (2, .int R_13), (0, .ref a0), (1, .int X1)]) (st' := [.ref a0, .int X1, .ref (a0 + 7)]) rfl ?_
  refine r_gL (pc' := 38) (L' := [(3, .long ((R_22 + R_13).toInt64)), (2, .int R_13), (0, .ref a0), (1, .int X1)]) H_22 hq (z_at.mk 3 rfl rfl) rfl (zIn_all (l := [48, 106]) (p := fun a => zQ a 12 9 1) rfl ha0) rfl rfl ?_
  intro V_35 hV_35
  refine r_p hq 5 (pc' := 45) (L' := [(3, .long ((R_22 + R_13).toInt64)), (2, .int R_13), (0, .ref a0), (1, .int X1)]) (st' := [.ref a0, .int ((1 : Int32)), .long (((1000 : Int64)) * ((R_22 + R_13).toInt64)), .long V_35, .int X1, .ref (a0 + 7)]) rfl ?_
  refine r_gR (b := a0 + 5) (pc' := 48) (L' := [(3, .long ((R_22 + R_13).toInt64)), (2, .int R_13), (0, .ref a0), (1, .int X1)]) H_22 hq (z_at.mk 3 rfl rfl) rfl (zIn_all (l := [48, 106]) (p := fun a => zQ a 12 5 (100 + a + 5)) rfl ha0) rfl rfl ?_
  refine r_p hq 1 (pc' := 49) (L' := [(3, .long ((R_22 + R_13).toInt64)), (2, .int R_13), (0, .ref a0), (1, .int X1)]) (st' := [.int X1, .ref (a0 + 5), .int ((1 : Int32)), .long (((1000 : Int64)) * ((R_22 + R_13).toInt64)), .long V_35, .int X1, .ref (a0 + 7)]) rfl ?_
  obtain ⟨g_49, h⟩ := z_ifo_some h
  refine r_ia (pc' := 50) (L' := [(3, .long ((R_22 + R_13).toInt64)), (2, .int R_13), (0, .ref a0), (1, .int X1)]) H_22 hq (z_at.mk 1 rfl rfl) (zIn_all (l := [48, 106]) (p := fun a => zAr (a + 5) 0 181) rfl ha0) hx1 g_49 rfl rfl ?_
  intro V_49 hV_49
  refine r_p hq 7 (pc' := 57) (L' := [(3, .long ((R_22 + R_13).toInt64)), (2, .int R_13), (0, .ref a0), (1, .int X1)]) (st' := [.long ((((1 : Int32)) + R_13).toInt64), .long ((((1000 : Int64)) * ((R_22 + R_13).toInt64)) * ((((1 : Int32)) + V_49).toInt64)), .long V_35, .int X1, .ref (a0 + 7)]) rfl ?_
  obtain ⟨g_57, h⟩ := z_ifno_some h
  refine r_ldiv (pc' := 58) (L' := [(3, .long ((R_22 + R_13).toInt64)), (2, .int R_13), (0, .ref a0), (1, .int X1)]) hq (z_at.mk 1 rfl rfl) (tx_lmul (tx_lmul (rfl : (1000 : Int64).toInt = 1000) (tx_i2l (tx_iadd hR_22 hR_13))) (tx_i2l (tx_iadd (rfl : (1 : Int32).toInt = 1) hV_49))) (tx_i2l (tx_iadd (rfl : (1 : Int32).toInt = 1) hR_13)) g_57 rfl rfl ?_
  intro V_57 hV_57
  refine r_p hq 1 (pc' := 59) (L' := [(3, .long ((R_22 + R_13).toInt64)), (2, .int R_13), (0, .ref a0), (1, .int X1)]) (st' := [.long (V_35 + V_57), .int X1, .ref (a0 + 7)]) rfl ?_
  obtain ⟨g_59, h⟩ := z_ifo_some h
  refine r_ls (pc' := 60) (L' := [(3, .long ((R_22 + R_13).toInt64)), (2, .int R_13), (0, .ref a0), (1, .int X1)]) H_22 hq (z_at.mk 1 rfl rfl) (zIn_all (l := [48, 106]) (p := fun a => zAr (a + 7) 1 181) rfl ha0) hx1 g_59 (tx_ladd hV_35 hV_57) rfl rfl ?_
  intro m_59 H_59
  cases h
  exact r_rv hq (z_at.mk 1 rfl rfl) rfl rfl H_59
def g_ca_giveUp_L69 (a0 : Nat) (x1 : Int) (σ : zS) : Option (Unit × zS) :=
  (g_ca_remove a0 x1 σ).bind fun o_71 =>
  let v_76 := o_71.2 a0 12
  let s_81 := zu o_71.2 a0 12 (w32 (v_76 + 1))
  some ((), s_81)
set_option maxHeartbeats 4000000 in
theorem g_ca_giveUp_L69_ok {xl : Nat} {xs : Nat → Int32} {a0 : Nat} (ha0 : zIn [48, 106] a0 = true) {X1 : Int32} {x1 : Int} (hx1 : X1.toInt = x1) {σ : zS} {p : Nat} {m : zM} {o : Unit × zS} (H : zRep xl xs p m σ) (h : g_ca_giveUp_L69 a0 x1 σ = some o) : zGo xl xs (fun p' => p = p') 4 40 69 [(0, .ref a0), (1, .int X1)] [] m vV o.2 := by
  have hq : z_mth 40 = some z_r40 := rfl
  unfold g_ca_giveUp_L69 at h
  refine r_p hq 2 (pc' := 71) (L' := [(0, .ref a0), (1, .int X1)]) (st' := [.int X1, .ref a0]) rfl ?_
  obtain ⟨o_71, h_71, h⟩ := Option.bind_eq_some_iff.mp h
  refine r_cvV (pc' := 74) (L' := [(0, .ref a0), (1, .int X1)]) (Ps := [.int X1]) (rest := []) hq (z_at.mk 3 rfl rfl) (Or.inl ⟨rfl, rfl⟩) rfl rfl (by decide) (by decide) rfl (Nat.not_lt.mpr (Nat.le_of_ble_eq_true rfl)) rfl rfl (z_cat_le 0 rfl (by decide)) (z_lgl_le 2 rfl (by decide)) (by decide) (H.tg (zIn_all (l := [48, 106]) (p := fun a => zT a 12) rfl ha0)) (by omega) (g_ca_remove_ok (zIn_all (l := [48, 106]) (p := fun a => zIn [48, 106] a) rfl ha0) hx1 H h_71) rfl rfl ?_
  intro m_71 p_71 e_71 H_71
  subst e_71
  refine r_p hq 2 (pc' := 76) (L' := [(0, .ref a0), (1, .int X1)]) (st' := [.ref a0, .ref a0]) rfl ?_
  refine r_gI (pc' := 79) (L' := [(0, .ref a0), (1, .int X1)]) H_71 hq (z_at.mk 3 rfl rfl) rfl (zIn_all (l := [48, 106]) (p := fun a => zQ a 12 12 0) rfl ha0) rfl rfl ?_
  intro V_76 hV_76
  refine r_p hq 2 (pc' := 81) (L' := [(0, .ref a0), (1, .int X1)]) (st' := [.int (V_76 + ((1 : Int32))), .ref a0]) rfl ?_
  refine r_pI (X := V_76 + ((1 : Int32))) (pc' := 84) (L' := [(0, .ref a0), (1, .int X1)]) H_71 hq (z_at.mk 3 rfl rfl) rfl (zIn_all (l := [48, 106]) (p := fun a => zQ a 12 12 0) rfl ha0) (tx_iadd hV_76 (rfl : (1 : Int32).toInt = 1)) (by decide) rfl rfl rfl rfl ?_
  intro m_81 H_81
  cases h
  exact r_rv hq (z_at.mk 1 rfl rfl) rfl rfl H_81
def g_ca_giveUp_L53 (a0 : Nat) (x1 : Int) (xs0 : Int) (σ : zS) : Option (Unit × zS) :=
  (g_se_of (a0 + 1) 5 σ).bind fun o_59 =>
  if o_59.1 = 0 then
    g_ca_giveUp_L69 a0 x1 o_59.2
  else
    if xs0 ≠ 0 then
      if 0 ≤ x1 ∧ x1 < 181 then
      let v_95 := o_59.2 (a0 + 6) x1
      if 0 ≤ x1 ∧ x1 < 181 then
      let s_96 := zu o_59.2 (a0 + 4) x1 v_95
      if 0 ≤ x1 ∧ x1 < 181 then
      let s_103 := zu s_96 (a0 + 6) x1 (-1)
      if 0 ≤ x1 ∧ x1 < 181 then
      let v_110 := s_103 (a0 + 5) x1
      if 0 ≤ x1 ∧ x1 < 181 then
      let s_113 := zu s_103 (a0 + 5) x1 (w32 (Int.tdiv v_110 2))
      (g_ca_weigh a0 x1 s_113).bind fun o_116 =>
      let v_121 := o_116.2 a0 13
      let s_126 := zu o_116.2 a0 13 (w32 (v_121 + 1))
      some ((), s_126)
      else none
      else none
      else none
      else none
      else none
    else
      g_ca_giveUp_L69 a0 x1 o_59.2
set_option maxHeartbeats 4000000 in
theorem g_ca_giveUp_L53_ok {xl : Nat} {xs : Nat → Int32} {a0 : Nat} (ha0 : zIn [48, 106] a0 = true) {X1 : Int32} {x1 : Int} (hx1 : X1.toInt = x1) {Xs0 : Int32} {xs0 : Int} (hxs0 : Xs0.toInt = xs0) {σ : zS} {p : Nat} {m : zM} {o : Unit × zS} (H : zRep xl xs p m σ) (h : g_ca_giveUp_L53 a0 x1 xs0 σ = some o) : zGo xl xs (fun p' => p = p') 4 40 53 [(0, .ref a0), (1, .int X1)] [.int Xs0] m vV o.2 := by
  have hq : z_mth 40 = some z_r40 := rfl
  unfold g_ca_giveUp_L53 at h
  refine r_p hq 2 (pc' := 55) (L' := [(2, .int Xs0), (0, .ref a0), (1, .int X1)]) (st' := [.ref a0]) rfl ?_
  refine r_gR (b := a0 + 1) (pc' := 58) (L' := [(2, .int Xs0), (0, .ref a0), (1, .int X1)]) H hq (z_at.mk 3 rfl rfl) rfl (zIn_all (l := [48, 106]) (p := fun a => zQ a 12 1 (100 + a + 1)) rfl ha0) rfl rfl ?_
  refine r_p hq 1 (pc' := 59) (L' := [(2, .int Xs0), (0, .ref a0), (1, .int X1)]) (st' := [.int ((5 : Int32)), .ref (a0 + 1)]) rfl ?_
  obtain ⟨o_59, h_59, h⟩ := Option.bind_eq_some_iff.mp h
  refine r_cvI (pc' := 62) (L' := [(2, .int Xs0), (0, .ref a0), (1, .int X1)]) (Ps := [.int ((5 : Int32))]) (rest := []) hq (z_at.mk 3 rfl rfl) (Or.inl ⟨rfl, rfl⟩) rfl rfl (by decide) (by decide) rfl (Nat.not_lt.mpr (Nat.le_of_ble_eq_true rfl)) rfl rfl (z_cat_le 0 rfl (by decide)) (z_lgl_le 2 rfl (by decide)) (by decide) (H.tg (zIn_all (l := [48, 106]) (p := fun a => zT (a + 1) 16) rfl ha0)) (by omega) (g_se_of_ok (zIn_all (l := [48, 106]) (p := fun a => zIn [49, 82, 107, 118] (a + 1)) rfl ha0) (rfl : (5 : Int32).toInt = 5) H h_59) rfl rfl ?_
  intro R_59 m_59 p_59 e_59 hR_59 H_59
  subst e_59
  rcases z_ite h with ⟨c_62, h⟩ | ⟨c_62, h⟩
  · refine r_t1 (pc' := 69) (L' := [(0, .ref a0), (1, .int X1)]) hq (z_at.mk 3 rfl rfl) rfl hR_59 c_62 rfl rfl ?_
    exact g_ca_giveUp_L69_ok ha0 hx1 H_59 h
  · refine r_f1 (pc' := 65) (L' := [(2, .int Xs0), (0, .ref a0), (1, .int X1)]) hq (z_at.mk 3 rfl rfl) rfl hR_59 c_62 rfl rfl ?_
    refine r_p hq 1 (pc' := 66) (L' := [(2, .int Xs0), (0, .ref a0), (1, .int X1)]) (st' := [.int Xs0]) rfl ?_
    rcases z_ite h with ⟨c_66, h⟩ | ⟨c_66, h⟩
    · refine r_t1 (pc' := 85) (L' := [(2, .int Xs0), (0, .ref a0), (1, .int X1)]) hq (z_at.mk 3 rfl rfl) rfl hxs0 c_66 rfl rfl ?_
      refine r_p hq 1 (pc' := 86) (L' := [(2, .int Xs0), (0, .ref a0), (1, .int X1)]) (st' := [.ref a0]) rfl ?_
      refine r_gR (b := a0 + 4) (pc' := 89) (L' := [(2, .int Xs0), (0, .ref a0), (1, .int X1)]) H_59 hq (z_at.mk 3 rfl rfl) rfl (zIn_all (l := [48, 106]) (p := fun a => zQ a 12 4 (100 + a + 4)) rfl ha0) rfl rfl ?_
      refine r_p hq 2 (pc' := 91) (L' := [(2, .int Xs0), (0, .ref a0), (1, .int X1)]) (st' := [.ref a0, .int X1, .ref (a0 + 4)]) rfl ?_
      refine r_gR (b := a0 + 6) (pc' := 94) (L' := [(2, .int Xs0), (0, .ref a0), (1, .int X1)]) H_59 hq (z_at.mk 3 rfl rfl) rfl (zIn_all (l := [48, 106]) (p := fun a => zQ a 12 6 (100 + a + 6)) rfl ha0) rfl rfl ?_
      refine r_p hq 1 (pc' := 95) (L' := [(2, .int Xs0), (0, .ref a0), (1, .int X1)]) (st' := [.int X1, .ref (a0 + 6), .int X1, .ref (a0 + 4)]) rfl ?_
      obtain ⟨g_95, h⟩ := z_ifo_some h
      refine r_ia (pc' := 96) (L' := [(2, .int Xs0), (0, .ref a0), (1, .int X1)]) H_59 hq (z_at.mk 1 rfl rfl) (zIn_all (l := [48, 106]) (p := fun a => zAr (a + 6) 0 181) rfl ha0) hx1 g_95 rfl rfl ?_
      intro V_95 hV_95
      obtain ⟨g_96, h⟩ := z_ifo_some h
      refine r_is (pc' := 97) (L' := [(2, .int Xs0), (0, .ref a0), (1, .int X1)]) H_59 hq (z_at.mk 1 rfl rfl) (zIn_all (l := [48, 106]) (p := fun a => zAr (a + 4) 0 181) rfl ha0) hx1 g_96 hV_95 rfl rfl ?_
      intro m_96 H_96
      refine r_p hq 1 (pc' := 98) (L' := [(2, .int Xs0), (0, .ref a0), (1, .int X1)]) (st' := [.ref a0]) rfl ?_
      refine r_gR (b := a0 + 6) (pc' := 101) (L' := [(2, .int Xs0), (0, .ref a0), (1, .int X1)]) H_96 hq (z_at.mk 3 rfl rfl) rfl (zIn_all (l := [48, 106]) (p := fun a => zQ a 12 6 (100 + a + 6)) rfl ha0) rfl rfl ?_
      refine r_p hq 2 (pc' := 103) (L' := [(2, .int Xs0), (0, .ref a0), (1, .int X1)]) (st' := [.int ((-1 : Int32)), .int X1, .ref (a0 + 6)]) rfl ?_
      obtain ⟨g_103, h⟩ := z_ifo_some h
      refine r_is (pc' := 104) (L' := [(2, .int Xs0), (0, .ref a0), (1, .int X1)]) H_96 hq (z_at.mk 1 rfl rfl) (zIn_all (l := [48, 106]) (p := fun a => zAr (a + 6) 0 181) rfl ha0) hx1 g_103 (rfl : (-1 : Int32).toInt = -1) rfl rfl ?_
      intro m_103 H_103
      refine r_p hq 1 (pc' := 105) (L' := [(2, .int Xs0), (0, .ref a0), (1, .int X1)]) (st' := [.ref a0]) rfl ?_
      refine r_gR (b := a0 + 5) (pc' := 108) (L' := [(2, .int Xs0), (0, .ref a0), (1, .int X1)]) H_103 hq (z_at.mk 3 rfl rfl) rfl (zIn_all (l := [48, 106]) (p := fun a => zQ a 12 5 (100 + a + 5)) rfl ha0) rfl rfl ?_
      refine r_p hq 2 (pc' := 110) (L' := [(2, .int Xs0), (0, .ref a0), (1, .int X1)]) (st' := [.int X1, .ref (a0 + 5), .int X1, .ref (a0 + 5)]) rfl ?_
      obtain ⟨g_110, h⟩ := z_ifo_some h
      refine r_ia (pc' := 111) (L' := [(2, .int Xs0), (0, .ref a0), (1, .int X1)]) H_103 hq (z_at.mk 1 rfl rfl) (zIn_all (l := [48, 106]) (p := fun a => zAr (a + 5) 0 181) rfl ha0) hx1 g_110 rfl rfl ?_
      intro V_110 hV_110
      refine r_p hq 1 (pc' := 112) (L' := [(2, .int Xs0), (0, .ref a0), (1, .int X1)]) (st' := [.int ((2 : Int32)), .int V_110, .int X1, .ref (a0 + 5)]) rfl ?_
      refine r_idiv (pc' := 113) (L' := [(2, .int Xs0), (0, .ref a0), (1, .int X1)]) hq (z_at.mk 1 rfl rfl) hV_110 (rfl : (2 : Int32).toInt = 2) (by decide) rfl rfl ?_
      intro V_112 hV_112
      obtain ⟨g_113, h⟩ := z_ifo_some h
      refine r_is (pc' := 114) (L' := [(2, .int Xs0), (0, .ref a0), (1, .int X1)]) H_103 hq (z_at.mk 1 rfl rfl) (zIn_all (l := [48, 106]) (p := fun a => zAr (a + 5) 0 181) rfl ha0) hx1 g_113 hV_112 rfl rfl ?_
      intro m_113 H_113
      refine r_p hq 2 (pc' := 116) (L' := [(2, .int Xs0), (0, .ref a0), (1, .int X1)]) (st' := [.int X1, .ref a0]) rfl ?_
      obtain ⟨o_116, h_116, h⟩ := Option.bind_eq_some_iff.mp h
      refine r_cvV (pc' := 119) (L' := [(2, .int Xs0), (0, .ref a0), (1, .int X1)]) (Ps := [.int X1]) (rest := []) hq (z_at.mk 3 rfl rfl) (Or.inl ⟨rfl, rfl⟩) rfl rfl (by decide) (by decide) rfl (Nat.not_lt.mpr (Nat.le_of_ble_eq_true rfl)) rfl rfl (z_cat_le 0 rfl (by decide)) (z_lgl_le 2 rfl (by decide)) (by decide) (H_113.tg (zIn_all (l := [48, 106]) (p := fun a => zT a 12) rfl ha0)) (by omega) (g_ca_weigh_ok (zIn_all (l := [48, 106]) (p := fun a => zIn [48, 106] a) rfl ha0) hx1 H_113 h_116) rfl rfl ?_
      intro m_116 p_116 e_116 H_116
      subst e_116
      refine r_p hq 2 (pc' := 121) (L' := [(2, .int Xs0), (0, .ref a0), (1, .int X1)]) (st' := [.ref a0, .ref a0]) rfl ?_
      refine r_gI (pc' := 124) (L' := [(2, .int Xs0), (0, .ref a0), (1, .int X1)]) H_116 hq (z_at.mk 3 rfl rfl) rfl (zIn_all (l := [48, 106]) (p := fun a => zQ a 12 13 0) rfl ha0) rfl rfl ?_
      intro V_121 hV_121
      refine r_p hq 2 (pc' := 126) (L' := [(2, .int Xs0), (0, .ref a0), (1, .int X1)]) (st' := [.int (V_121 + ((1 : Int32))), .ref a0]) rfl ?_
      refine r_pI (X := V_121 + ((1 : Int32))) (pc' := 129) (L' := [(2, .int Xs0), (0, .ref a0), (1, .int X1)]) H_116 hq (z_at.mk 3 rfl rfl) rfl (zIn_all (l := [48, 106]) (p := fun a => zQ a 12 13 0) rfl ha0) (tx_iadd hV_121 (rfl : (1 : Int32).toInt = 1)) (by decide) rfl rfl rfl rfl ?_
      intro m_126 H_126
      cases h
      exact r_rv hq (z_at.mk 1 rfl rfl) rfl rfl H_126
    · refine r_f1 (pc' := 69) (L' := [(0, .ref a0), (1, .int X1)]) hq (z_at.mk 3 rfl rfl) rfl hxs0 c_66 rfl rfl ?_
      exact g_ca_giveUp_L69_ok ha0 hx1 H_59 h
def g_ca_giveUp_L52 (a0 : Nat) (x1 : Int) (σ : zS) : Option (Unit × zS) :=
  g_ca_giveUp_L53 a0 x1 0 σ
set_option maxHeartbeats 4000000 in
theorem g_ca_giveUp_L52_ok {xl : Nat} {xs : Nat → Int32} {a0 : Nat} (ha0 : zIn [48, 106] a0 = true) {X1 : Int32} {x1 : Int} (hx1 : X1.toInt = x1) {σ : zS} {p : Nat} {m : zM} {o : Unit × zS} (H : zRep xl xs p m σ) (h : g_ca_giveUp_L52 a0 x1 σ = some o) : zGo xl xs (fun p' => p = p') 4 40 52 [(0, .ref a0), (1, .int X1)] [] m vV o.2 := by
  have hq : z_mth 40 = some z_r40 := rfl
  unfold g_ca_giveUp_L52 at h
  refine r_p hq 1 (pc' := 53) (L' := [(0, .ref a0), (1, .int X1)]) (st' := [.int ((0 : Int32))]) rfl ?_
  exact g_ca_giveUp_L53_ok ha0 hx1 (rfl : (0 : Int32).toInt = 0) H h
def g_ca_giveUp (a0 : Nat) (x1 : Int) (σ : zS) : Option (Unit × zS) :=
  let v_2 := σ a0 9
  if 0 ≤ x1 ∧ x1 < 181 then
  let v_10 := σ (a0 + 7) x1
  (g_jMath_max_290 v_2 v_10 σ).bind fun o_11 =>
  let s_14 := zu o_11.2 a0 9 o_11.1
  if 0 ≤ x1 ∧ x1 < 181 then
  let v_22 := s_14 (a0 + 6) x1
  if v_22 = -1 then
    g_ca_giveUp_L52 a0 x1 s_14
  else
    if 0 ≤ x1 ∧ x1 < 181 then
    let v_32 := s_14 (a0 + 6) x1
    (g_b_area v_32 s_14).bind fun o_33 =>
    if 0 ≤ x1 ∧ x1 < 181 then
    let v_41 := o_33.2 (a0 + 4) x1
    (g_b_area v_41 o_33.2).bind fun o_42 =>
    if o_42.1 ≤ o_33.1 then
      g_ca_giveUp_L52 a0 x1 o_42.2
    else
      g_ca_giveUp_L53 a0 x1 1 o_42.2
    else none
    else none
  else none
  else none
set_option maxHeartbeats 4000000 in
theorem g_ca_giveUp_ok {xl : Nat} {xs : Nat → Int32} {a0 : Nat} (ha0 : zIn [48, 106] a0 = true) {X1 : Int32} {x1 : Int} (hx1 : X1.toInt = x1) {σ : zS} {p : Nat} {m : zM} {o : Unit × zS} (H : zRep xl xs p m σ) (h : g_ca_giveUp a0 x1 σ = some o) : zGo xl xs (fun p' => p = p') 4 40 0 (z_can 40 0 (lv_args 0 [.ref a0, .int X1])) [] m vV o.2 := by
  have hq : z_mth 40 = some z_r40 := rfl
  unfold g_ca_giveUp at h
  show zGo xl xs (fun p' => p = p') 4 40 0 [(0, .ref a0), (1, .int X1)] [] m vV o.2
  refine r_p hq 2 (pc' := 2) (L' := [(0, .ref a0), (1, .int X1)]) (st' := [.ref a0, .ref a0]) rfl ?_
  refine r_gL (pc' := 5) (L' := [(0, .ref a0), (1, .int X1)]) H hq (z_at.mk 3 rfl rfl) rfl (zIn_all (l := [48, 106]) (p := fun a => zQ a 12 9 1) rfl ha0) rfl rfl ?_
  intro V_2 hV_2
  refine r_p hq 1 (pc' := 6) (L' := [(0, .ref a0), (1, .int X1)]) (st' := [.ref a0, .long V_2, .ref a0]) rfl ?_
  refine r_gR (b := a0 + 7) (pc' := 9) (L' := [(0, .ref a0), (1, .int X1)]) H hq (z_at.mk 3 rfl rfl) rfl (zIn_all (l := [48, 106]) (p := fun a => zQ a 12 7 (100 + a + 7)) rfl ha0) rfl rfl ?_
  refine r_p hq 1 (pc' := 10) (L' := [(0, .ref a0), (1, .int X1)]) (st' := [.int X1, .ref (a0 + 7), .long V_2, .ref a0]) rfl ?_
  obtain ⟨g_10, h⟩ := z_ifo_some h
  refine r_la (pc' := 11) (L' := [(0, .ref a0), (1, .int X1)]) H hq (z_at.mk 1 rfl rfl) (zIn_all (l := [48, 106]) (p := fun a => zAr (a + 7) 1 181) rfl ha0) hx1 g_10 rfl rfl ?_
  intro V_10 hV_10
  obtain ⟨o_11, h_11, h⟩ := Option.bind_eq_some_iff.mp h
  refine r_csL (pc' := 14) (L' := [(0, .ref a0), (1, .int X1)]) (As := [.long V_2, .long V_10]) (rest := [.ref a0]) (j := 290) hq (z_at.mk 3 rfl rfl) (Or.inl ⟨rfl, rfl⟩) rfl rfl (by omega) (g_jMath_max_290_ok hV_2 hV_10 H h_11) rfl rfl ?_
  intro R_11 m_11 p_11 e_11 hR_11 H_11
  subst e_11
  refine r_pL (X := R_11) (pc' := 17) (L' := [(0, .ref a0), (1, .int X1)]) H_11 hq (z_at.mk 3 rfl rfl) rfl (zIn_all (l := [48, 106]) (p := fun a => zQ a 12 9 1) rfl ha0) hR_11 (by decide) rfl rfl rfl rfl ?_
  intro m_14 H_14
  refine r_p hq 1 (pc' := 18) (L' := [(0, .ref a0), (1, .int X1)]) (st' := [.ref a0]) rfl ?_
  refine r_gR (b := a0 + 6) (pc' := 21) (L' := [(0, .ref a0), (1, .int X1)]) H_14 hq (z_at.mk 3 rfl rfl) rfl (zIn_all (l := [48, 106]) (p := fun a => zQ a 12 6 (100 + a + 6)) rfl ha0) rfl rfl ?_
  refine r_p hq 1 (pc' := 22) (L' := [(0, .ref a0), (1, .int X1)]) (st' := [.int X1, .ref (a0 + 6)]) rfl ?_
  obtain ⟨g_22, h⟩ := z_ifo_some h
  refine r_ia (pc' := 23) (L' := [(0, .ref a0), (1, .int X1)]) H_14 hq (z_at.mk 1 rfl rfl) (zIn_all (l := [48, 106]) (p := fun a => zAr (a + 6) 0 181) rfl ha0) hx1 g_22 rfl rfl ?_
  intro V_22 hV_22
  refine r_p hq 1 (pc' := 24) (L' := [(0, .ref a0), (1, .int X1)]) (st' := [.int ((-1 : Int32)), .int V_22]) rfl ?_
  rcases z_ite h with ⟨c_24, h⟩ | ⟨c_24, h⟩
  · refine r_t2 (pc' := 52) (L' := [(0, .ref a0), (1, .int X1)]) hq (z_at.mk 3 rfl rfl) rfl hV_22 (rfl : (-1 : Int32).toInt = -1) c_24 rfl rfl ?_
    exact g_ca_giveUp_L52_ok ha0 hx1 H_14 h
  · refine r_f2 (pc' := 27) (L' := [(0, .ref a0), (1, .int X1)]) hq (z_at.mk 3 rfl rfl) rfl hV_22 (rfl : (-1 : Int32).toInt = -1) c_24 rfl rfl ?_
    refine r_p hq 1 (pc' := 28) (L' := [(0, .ref a0), (1, .int X1)]) (st' := [.ref a0]) rfl ?_
    refine r_gR (b := a0 + 6) (pc' := 31) (L' := [(0, .ref a0), (1, .int X1)]) H_14 hq (z_at.mk 3 rfl rfl) rfl (zIn_all (l := [48, 106]) (p := fun a => zQ a 12 6 (100 + a + 6)) rfl ha0) rfl rfl ?_
    refine r_p hq 1 (pc' := 32) (L' := [(0, .ref a0), (1, .int X1)]) (st' := [.int X1, .ref (a0 + 6)]) rfl ?_
    obtain ⟨g_32, h⟩ := z_ifo_some h
    refine r_ia (pc' := 33) (L' := [(0, .ref a0), (1, .int X1)]) H_14 hq (z_at.mk 1 rfl rfl) (zIn_all (l := [48, 106]) (p := fun a => zAr (a + 6) 0 181) rfl ha0) hx1 g_32 rfl rfl ?_
    intro V_32 hV_32
    obtain ⟨o_33, h_33, h⟩ := Option.bind_eq_some_iff.mp h
    refine r_csI (pc' := 36) (L' := [(0, .ref a0), (1, .int X1)]) (As := [.int V_32]) (rest := []) (j := 8) hq (z_at.mk 3 rfl rfl) (Or.inl ⟨rfl, rfl⟩) rfl rfl (by omega) (g_b_area_ok hV_32 H_14 h_33) rfl rfl ?_
    intro R_33 m_33 p_33 e_33 hR_33 H_33
    subst e_33
    refine r_p hq 1 (pc' := 37) (L' := [(0, .ref a0), (1, .int X1)]) (st' := [.ref a0, .int R_33]) rfl ?_
    refine r_gR (b := a0 + 4) (pc' := 40) (L' := [(0, .ref a0), (1, .int X1)]) H_33 hq (z_at.mk 3 rfl rfl) rfl (zIn_all (l := [48, 106]) (p := fun a => zQ a 12 4 (100 + a + 4)) rfl ha0) rfl rfl ?_
    refine r_p hq 1 (pc' := 41) (L' := [(0, .ref a0), (1, .int X1)]) (st' := [.int X1, .ref (a0 + 4), .int R_33]) rfl ?_
    obtain ⟨g_41, h⟩ := z_ifo_some h
    refine r_ia (pc' := 42) (L' := [(0, .ref a0), (1, .int X1)]) H_33 hq (z_at.mk 1 rfl rfl) (zIn_all (l := [48, 106]) (p := fun a => zAr (a + 4) 0 181) rfl ha0) hx1 g_41 rfl rfl ?_
    intro V_41 hV_41
    obtain ⟨o_42, h_42, h⟩ := Option.bind_eq_some_iff.mp h
    refine r_csI (pc' := 45) (L' := [(0, .ref a0), (1, .int X1)]) (As := [.int V_41]) (rest := [.int R_33]) (j := 8) hq (z_at.mk 3 rfl rfl) (Or.inl ⟨rfl, rfl⟩) rfl rfl (by omega) (g_b_area_ok hV_41 H_33 h_42) rfl rfl ?_
    intro R_42 m_42 p_42 e_42 hR_42 H_42
    subst e_42
    rcases z_ite h with ⟨c_45, h⟩ | ⟨c_45, h⟩
    · refine r_t2 (pc' := 52) (L' := [(0, .ref a0), (1, .int X1)]) hq (z_at.mk 3 rfl rfl) rfl hR_33 hR_42 c_45 rfl rfl ?_
      exact g_ca_giveUp_L52_ok ha0 hx1 H_42 h
    · refine r_f2 (pc' := 48) (L' := [(0, .ref a0), (1, .int X1)]) hq (z_at.mk 3 rfl rfl) rfl hR_33 hR_42 c_45 rfl rfl ?_
      refine r_p hq 2 (pc' := 53) (L' := [(0, .ref a0), (1, .int X1)]) (st' := [.int ((1 : Int32))]) rfl ?_
      exact g_ca_giveUp_L53_ok ha0 hx1 (rfl : (1 : Int32).toInt = 1) H_42 h
def g_ca_isTooMuch (a0 : Nat) (σ : zS) : Option (Int × zS) :=
  let v_1 := σ a0 2
  (g_se_of (a0 + 1) 2 σ).bind fun o_9 =>
  if o_9.1 < v_1 then
    some (1, o_9.2)
  else
    (g_ca_sizes a0 o_9.2).bind fun o_16 =>
    (g_se_of (a0 + 1) 1 o_16.2).bind fun o_24 =>
    if o_16.1 ≤ o_24.1 then
      some (0, o_24.2)
    else
      some (1, o_24.2)
set_option maxHeartbeats 4000000 in
theorem g_ca_isTooMuch_ok {xl : Nat} {xs : Nat → Int32} {a0 : Nat} (ha0 : zIn [48, 106] a0 = true) {σ : zS} {p : Nat} {m : zM} {o : Int × zS} (H : zRep xl xs p m σ) (h : g_ca_isTooMuch a0 σ = some o) : zGo xl xs (fun p' => p = p') 4 38 0 (z_can 38 0 (lv_args 0 [.ref a0])) [] m (vI o.1) o.2 := by
  have hq : z_mth 38 = some z_r38 := rfl
  unfold g_ca_isTooMuch at h
  show zGo xl xs (fun p' => p = p') 4 38 0 [(0, .ref a0)] [] m (vI o.1) o.2
  refine r_p hq 1 (pc' := 1) (L' := [(0, .ref a0)]) (st' := [.ref a0]) rfl ?_
  refine r_gI (pc' := 4) (L' := [(0, .ref a0)]) H hq (z_at.mk 3 rfl rfl) rfl (zIn_all (l := [48, 106]) (p := fun a => zQ a 12 2 0) rfl ha0) rfl rfl ?_
  intro V_1 hV_1
  refine r_p hq 1 (pc' := 5) (L' := [(0, .ref a0)]) (st' := [.ref a0, .int V_1]) rfl ?_
  refine r_gR (b := a0 + 1) (pc' := 8) (L' := [(0, .ref a0)]) H hq (z_at.mk 3 rfl rfl) rfl (zIn_all (l := [48, 106]) (p := fun a => zQ a 12 1 (100 + a + 1)) rfl ha0) rfl rfl ?_
  refine r_p hq 1 (pc' := 9) (L' := [(0, .ref a0)]) (st' := [.int ((2 : Int32)), .ref (a0 + 1), .int V_1]) rfl ?_
  obtain ⟨o_9, h_9, h⟩ := Option.bind_eq_some_iff.mp h
  refine r_cvI (pc' := 12) (L' := [(0, .ref a0)]) (Ps := [.int ((2 : Int32))]) (rest := [.int V_1]) hq (z_at.mk 3 rfl rfl) (Or.inl ⟨rfl, rfl⟩) rfl rfl (by decide) (by decide) rfl (Nat.not_lt.mpr (Nat.le_of_ble_eq_true rfl)) rfl rfl (z_cat_le 1 rfl (by decide)) (z_lgl_le 2 rfl (by decide)) (by decide) (H.tg (zIn_all (l := [48, 106]) (p := fun a => zT (a + 1) 16) rfl ha0)) (by omega) (g_se_of_ok (zIn_all (l := [48, 106]) (p := fun a => zIn [49, 82, 107, 118] (a + 1)) rfl ha0) (rfl : (2 : Int32).toInt = 2) H h_9) rfl rfl ?_
  intro R_9 m_9 p_9 e_9 hR_9 H_9
  subst e_9
  rcases z_ite h with ⟨c_12, h⟩ | ⟨c_12, h⟩
  · refine r_t2 (pc' := 30) (L' := []) hq (z_at.mk 3 rfl rfl) rfl hV_1 hR_9 c_12 rfl rfl ?_
    refine r_p hq 2 (pc' := 35) (L' := []) (st' := [.int ((1 : Int32))]) rfl ?_
    cases h
    exact r_ri hq (z_at.mk 1 rfl rfl) rfl rfl (rfl : (1 : Int32).toInt = 1) rfl H_9
  · refine r_f2 (pc' := 15) (L' := [(0, .ref a0)]) hq (z_at.mk 3 rfl rfl) rfl hV_1 hR_9 c_12 rfl rfl ?_
    refine r_p hq 1 (pc' := 16) (L' := [(0, .ref a0)]) (st' := [.ref a0]) rfl ?_
    obtain ⟨o_16, h_16, h⟩ := Option.bind_eq_some_iff.mp h
    refine r_cvI (pc' := 19) (L' := [(0, .ref a0)]) (Ps := []) (rest := []) hq (z_at.mk 3 rfl rfl) (Or.inl ⟨rfl, rfl⟩) rfl rfl (by decide) (by decide) rfl (Nat.not_lt.mpr (Nat.le_of_ble_eq_true rfl)) rfl rfl (z_cat_le 0 rfl (by decide)) (z_lgl_le 1 rfl (by decide)) (by decide) (H_9.tg (zIn_all (l := [48, 106]) (p := fun a => zT a 12) rfl ha0)) (by omega) (g_ca_sizes_ok (zIn_all (l := [48, 106]) (p := fun a => zIn [48, 106] a) rfl ha0) H_9 h_16) rfl rfl ?_
    intro R_16 m_16 p_16 e_16 hR_16 H_16
    subst e_16
    refine r_p hq 1 (pc' := 20) (L' := [(0, .ref a0)]) (st' := [.ref a0, .int R_16]) rfl ?_
    refine r_gR (b := a0 + 1) (pc' := 23) (L' := [(0, .ref a0)]) H_16 hq (z_at.mk 3 rfl rfl) rfl (zIn_all (l := [48, 106]) (p := fun a => zQ a 12 1 (100 + a + 1)) rfl ha0) rfl rfl ?_
    refine r_p hq 1 (pc' := 24) (L' := [(0, .ref a0)]) (st' := [.int ((1 : Int32)), .ref (a0 + 1), .int R_16]) rfl ?_
    obtain ⟨o_24, h_24, h⟩ := Option.bind_eq_some_iff.mp h
    refine r_cvI (pc' := 27) (L' := [(0, .ref a0)]) (Ps := [.int ((1 : Int32))]) (rest := [.int R_16]) hq (z_at.mk 3 rfl rfl) (Or.inl ⟨rfl, rfl⟩) rfl rfl (by decide) (by decide) rfl (Nat.not_lt.mpr (Nat.le_of_ble_eq_true rfl)) rfl rfl (z_cat_le 1 rfl (by decide)) (z_lgl_le 2 rfl (by decide)) (by decide) (H_16.tg (zIn_all (l := [48, 106]) (p := fun a => zT (a + 1) 16) rfl ha0)) (by omega) (g_se_of_ok (zIn_all (l := [48, 106]) (p := fun a => zIn [49, 82, 107, 118] (a + 1)) rfl ha0) (rfl : (1 : Int32).toInt = 1) H_16 h_24) rfl rfl ?_
    intro R_24 m_24 p_24 e_24 hR_24 H_24
    subst e_24
    rcases z_ite h with ⟨c_27, h⟩ | ⟨c_27, h⟩
    · refine r_t2 (pc' := 34) (L' := [(0, .ref a0)]) hq (z_at.mk 3 rfl rfl) rfl hR_16 hR_24 c_27 rfl rfl ?_
      refine r_p hq 1 (pc' := 35) (L' := []) (st' := [.int ((0 : Int32))]) rfl ?_
      cases h
      exact r_ri hq (z_at.mk 1 rfl rfl) rfl rfl (rfl : (0 : Int32).toInt = 0) rfl H_24
    · refine r_f2 (pc' := 30) (L' := []) hq (z_at.mk 3 rfl rfl) rfl hR_16 hR_24 c_27 rfl rfl ?_
      refine r_p hq 2 (pc' := 35) (L' := []) (st' := [.int ((1 : Int32))]) rfl ?_
      cases h
      exact r_ri hq (z_at.mk 1 rfl rfl) rfl rfl (rfl : (1 : Int32).toInt = 1) rfl H_24
def g_ca_lightest_L30 (a0 : Nat) (g4 : Int → Int → zS → Option (Int × zS)) (x1 : Int) (x2 : Int) (σ : zS) : Option (Int × zS) :=
  g4 x1 (w32 (x2 + 1)) σ
set_option maxHeartbeats 4000000 in
theorem g_ca_lightest_L30_ok {xl : Nat} {xs : Nat → Int32} {a0 : Nat} (ha0 : zIn [48, 106] a0 = true) {g4 : Int → Int → zS → Option (Int × zS)} (hg4 : ∀ {X1 : Int32} {x1 : Int} {X2 : Int32} {x2 : Int} {σ : zS} {p : Nat} {m : zM} {o : Int × zS}, X1.toInt = x1 → X2.toInt = x2 → zRep xl xs p m σ → g4 x1 x2 σ = some o → zGo xl xs (fun p' => p = p') 1 39 4 [(0, .ref a0), (1, .int X1), (2, .int X2)] [] m (vI o.1) o.2) {X1 : Int32} {x1 : Int} (hx1 : X1.toInt = x1) {X2 : Int32} {x2 : Int} (hx2 : X2.toInt = x2) {σ : zS} {p : Nat} {m : zM} {o : Int × zS} (H : zRep xl xs p m σ) (h : g_ca_lightest_L30 a0 g4 x1 x2 σ = some o) : zGo xl xs (fun p' => p = p') 1 39 30 [(0, .ref a0), (1, .int X1), (2, .int X2)] [] m (vI o.1) o.2 := by
  have hq : z_mth 39 = some z_r39 := rfl
  unfold g_ca_lightest_L30 at h
  refine r_p hq 2 (pc' := 4) (L' := [(0, .ref a0), (1, .int X1), (2, .int (X2 + (1 : Int32)))]) (st' := []) rfl ?_
  exact hg4 hx1 (tx_iadd hx2 (rfl : (1 : Int32).toInt = 1)) H h
def g_ca_lightest_L4 (a0 : Nat) : Nat → Int → Int → zS → Option (Int × zS)
  | 0, _, _, _ => none
  | n + 1, x1, x2, σ =>
    let v_6 := σ a0 2
    if v_6 ≤ x2 then
      some (x1, σ)
    else
      if 0 ≤ x2 ∧ x2 < 181 then
      let v_17 := σ (a0 + 7) x2
      if 0 ≤ x1 ∧ x1 < 181 then
      let v_23 := σ (a0 + 7) x1
      if 0 ≤ lCmp v_17 v_23 then
        g_ca_lightest_L30 a0 ((g_ca_lightest_L4 a0 n)) x1 x2 σ
      else
        g_ca_lightest_L30 a0 ((g_ca_lightest_L4 a0 n)) x2 x2 σ
      else none
      else none
set_option maxHeartbeats 4000000 in
theorem g_ca_lightest_L4_ok {xl : Nat} {xs : Nat → Int32} {a0 : Nat} (ha0 : zIn [48, 106] a0 = true) : ∀ (n : Nat) {X1 : Int32} {x1 : Int} {X2 : Int32} {x2 : Int} {σ : zS} {p : Nat} {m : zM} {o : Int × zS}, X1.toInt = x1 → X2.toInt = x2 → zRep xl xs p m σ → g_ca_lightest_L4 a0 n x1 x2 σ = some o → zGo xl xs (fun p' => p = p') 1 39 4 [(0, .ref a0), (1, .int X1), (2, .int X2)] [] m (vI o.1) o.2
  | 0, _, _, _, _, _, _, _, _, _, _, _, h => by cases h
  | n + 1, X1, x1, X2, x2, σ, p, m, o, hx1, hx2, H, h => by
    have hq : z_mth 39 = some z_r39 := rfl
    have ih := fun {X1 : Int32} {x1 : Int} {X2 : Int32} {x2 : Int} {σ : zS} {p : Nat} {m : zM} {o : Int × zS} => g_ca_lightest_L4_ok (xl := xl) (xs := xs) ha0 n (X1 := X1) (x1 := x1) (X2 := X2) (x2 := x2) (σ := σ) (p := p) (m := m) (o := o)
    unfold g_ca_lightest_L4 at h
    refine r_p hq 2 (pc' := 6) (L' := [(0, .ref a0), (1, .int X1), (2, .int X2)]) (st' := [.ref a0, .int X2]) rfl ?_
    refine r_gI (pc' := 9) (L' := [(0, .ref a0), (1, .int X1), (2, .int X2)]) H hq (z_at.mk 3 rfl rfl) rfl (zIn_all (l := [48, 106]) (p := fun a => zQ a 12 2 0) rfl ha0) rfl rfl ?_
    intro V_6 hV_6
    rcases z_ite h with ⟨c_9, h⟩ | ⟨c_9, h⟩
    · refine r_t2 (pc' := 36) (L' := [(0, .ref a0), (1, .int X1), (2, .int X2)]) hq (z_at.mk 3 rfl rfl) rfl hx2 hV_6 c_9 rfl rfl ?_
      refine r_p hq 1 (pc' := 37) (L' := [(0, .ref a0), (1, .int X1), (2, .int X2)]) (st' := [.int X1]) rfl ?_
      cases h
      exact r_ri hq (z_at.mk 1 rfl rfl) rfl rfl hx1 rfl H
    · refine r_f2 (pc' := 12) (L' := [(0, .ref a0), (1, .int X1), (2, .int X2)]) hq (z_at.mk 3 rfl rfl) rfl hx2 hV_6 c_9 rfl rfl ?_
      refine r_p hq 1 (pc' := 13) (L' := [(0, .ref a0), (1, .int X1), (2, .int X2)]) (st' := [.ref a0]) rfl ?_
      refine r_gR (b := a0 + 7) (pc' := 16) (L' := [(0, .ref a0), (1, .int X1), (2, .int X2)]) H hq (z_at.mk 3 rfl rfl) rfl (zIn_all (l := [48, 106]) (p := fun a => zQ a 12 7 (100 + a + 7)) rfl ha0) rfl rfl ?_
      refine r_p hq 1 (pc' := 17) (L' := [(0, .ref a0), (1, .int X1), (2, .int X2)]) (st' := [.int X2, .ref (a0 + 7)]) rfl ?_
      obtain ⟨g_17, h⟩ := z_ifo_some h
      refine r_la (pc' := 18) (L' := [(0, .ref a0), (1, .int X1), (2, .int X2)]) H hq (z_at.mk 1 rfl rfl) (zIn_all (l := [48, 106]) (p := fun a => zAr (a + 7) 1 181) rfl ha0) hx2 g_17 rfl rfl ?_
      intro V_17 hV_17
      refine r_p hq 1 (pc' := 19) (L' := [(0, .ref a0), (1, .int X1), (2, .int X2)]) (st' := [.ref a0, .long V_17]) rfl ?_
      refine r_gR (b := a0 + 7) (pc' := 22) (L' := [(0, .ref a0), (1, .int X1), (2, .int X2)]) H hq (z_at.mk 3 rfl rfl) rfl (zIn_all (l := [48, 106]) (p := fun a => zQ a 12 7 (100 + a + 7)) rfl ha0) rfl rfl ?_
      refine r_p hq 1 (pc' := 23) (L' := [(0, .ref a0), (1, .int X1), (2, .int X2)]) (st' := [.int X1, .ref (a0 + 7), .long V_17]) rfl ?_
      obtain ⟨g_23, h⟩ := z_ifo_some h
      refine r_la (pc' := 24) (L' := [(0, .ref a0), (1, .int X1), (2, .int X2)]) H hq (z_at.mk 1 rfl rfl) (zIn_all (l := [48, 106]) (p := fun a => zAr (a + 7) 1 181) rfl ha0) hx1 g_23 rfl rfl ?_
      intro V_23 hV_23
      refine r_p hq 1 (pc' := 25) (L' := [(0, .ref a0), (1, .int X1), (2, .int X2)]) (st' := [.int (lg_cmp V_17 V_23)]) rfl ?_
      rcases z_ite h with ⟨c_25, h⟩ | ⟨c_25, h⟩
      · refine r_t1 (pc' := 30) (L' := [(0, .ref a0), (1, .int X1), (2, .int X2)]) hq (z_at.mk 3 rfl rfl) rfl (tx_lcmp hV_17 hV_23) c_25 rfl rfl ?_
        exact g_ca_lightest_L30_ok ha0 ih hx1 hx2 H h
      · refine r_f1 (pc' := 28) (L' := [(0, .ref a0), (1, .int X1), (2, .int X2)]) hq (z_at.mk 3 rfl rfl) rfl (tx_lcmp hV_17 hV_23) c_25 rfl rfl ?_
        refine r_p hq 2 (pc' := 30) (L' := [(0, .ref a0), (1, .int X2), (2, .int X2)]) (st' := []) rfl ?_
        exact g_ca_lightest_L30_ok ha0 ih hx2 hx2 H h
def g_ca_lightest (a0 : Nat) (σ : zS) : Option (Int × zS) :=
  g_ca_lightest_L4 a0 zK 0 1 σ
set_option maxHeartbeats 4000000 in
theorem g_ca_lightest_ok {xl : Nat} {xs : Nat → Int32} {a0 : Nat} (ha0 : zIn [48, 106] a0 = true) {σ : zS} {p : Nat} {m : zM} {o : Int × zS} (H : zRep xl xs p m σ) (h : g_ca_lightest a0 σ = some o) : zGo xl xs (fun p' => p = p') 1 39 0 (z_can 39 0 (lv_args 0 [.ref a0])) [] m (vI o.1) o.2 := by
  have hq : z_mth 39 = some z_r39 := rfl
  unfold g_ca_lightest at h
  show zGo xl xs (fun p' => p = p') 1 39 0 [(0, .ref a0)] [] m (vI o.1) o.2
  refine r_p hq 4 (pc' := 4) (L' := [(0, .ref a0), (1, .int ((0 : Int32))), (2, .int ((1 : Int32)))]) (st' := []) rfl ?_
  exact g_ca_lightest_L4_ok ha0 zK (rfl : (0 : Int32).toInt = 0) (rfl : (1 : Int32).toInt = 1) H h
def g_ca_trim_L7 (a0 : Nat) : Nat → Int → zS → Option (Unit × zS)
  | 0, _, _ => none
  | n + 1, x1, σ =>
    if x1 ≤ 0 then
      some ((), σ)
    else
      let v_12 := σ a0 2
      if v_12 ≤ 0 then
        some ((), σ)
      else
        (g_ca_isTooMuch a0 σ).bind fun o_19 =>
        if o_19.1 = 0 then
          some ((), o_19.2)
        else
          (g_ca_lightest a0 o_19.2).bind fun o_27 =>
          (g_ca_giveUp a0 o_27.1 o_27.2).bind fun o_30 =>
          (g_ca_trim_L7 a0 n) (w32 (x1 - 1)) o_30.2
set_option maxHeartbeats 4000000 in
theorem g_ca_trim_L7_ok {xl : Nat} {xs : Nat → Int32} {a0 : Nat} (ha0 : zIn [48, 106] a0 = true) : ∀ (n : Nat) {X1 : Int32} {x1 : Int} {σ : zS} {p : Nat} {m : zM} {o : Unit × zS}, X1.toInt = x1 → zRep xl xs p m σ → g_ca_trim_L7 a0 n x1 σ = some o → zGo xl xs (fun p' => p = p') 5 37 7 [(0, .ref a0), (1, .int X1)] [] m vV o.2
  | 0, _, _, _, _, _, _, _, _, h => by cases h
  | n + 1, X1, x1, σ, p, m, o, hx1, H, h => by
    have hq : z_mth 37 = some z_r37 := rfl
    have ih := fun {X1 : Int32} {x1 : Int} {σ : zS} {p : Nat} {m : zM} {o : Unit × zS} => g_ca_trim_L7_ok (xl := xl) (xs := xs) ha0 n (X1 := X1) (x1 := x1) (σ := σ) (p := p) (m := m) (o := o)
    unfold g_ca_trim_L7 at h
    refine r_p hq 1 (pc' := 8) (L' := [(0, .ref a0), (1, .int X1)]) (st' := [.int X1]) rfl ?_
    rcases z_ite h with ⟨c_8, h⟩ | ⟨c_8, h⟩
    · refine r_t1 (pc' := 39) (L' := []) hq (z_at.mk 3 rfl rfl) rfl hx1 c_8 rfl rfl ?_
      cases h
      exact r_rv hq (z_at.mk 1 rfl rfl) rfl rfl H
    · refine r_f1 (pc' := 11) (L' := [(0, .ref a0), (1, .int X1)]) hq (z_at.mk 3 rfl rfl) rfl hx1 c_8 rfl rfl ?_
      refine r_p hq 1 (pc' := 12) (L' := [(0, .ref a0), (1, .int X1)]) (st' := [.ref a0]) rfl ?_
      refine r_gI (pc' := 15) (L' := [(0, .ref a0), (1, .int X1)]) H hq (z_at.mk 3 rfl rfl) rfl (zIn_all (l := [48, 106]) (p := fun a => zQ a 12 2 0) rfl ha0) rfl rfl ?_
      intro V_12 hV_12
      rcases z_ite h with ⟨c_15, h⟩ | ⟨c_15, h⟩
      · refine r_t1 (pc' := 39) (L' := []) hq (z_at.mk 3 rfl rfl) rfl hV_12 c_15 rfl rfl ?_
        cases h
        exact r_rv hq (z_at.mk 1 rfl rfl) rfl rfl H
      · refine r_f1 (pc' := 18) (L' := [(0, .ref a0), (1, .int X1)]) hq (z_at.mk 3 rfl rfl) rfl hV_12 c_15 rfl rfl ?_
        refine r_p hq 1 (pc' := 19) (L' := [(0, .ref a0), (1, .int X1)]) (st' := [.ref a0]) rfl ?_
        obtain ⟨o_19, h_19, h⟩ := Option.bind_eq_some_iff.mp h
        refine r_cvI (pc' := 22) (L' := [(0, .ref a0), (1, .int X1)]) (Ps := []) (rest := []) hq (z_at.mk 3 rfl rfl) (Or.inl ⟨rfl, rfl⟩) rfl rfl (by decide) (by decide) rfl (Nat.not_lt.mpr (Nat.le_of_ble_eq_true rfl)) rfl rfl (z_cat_le 0 rfl (by decide)) (z_lgl_le 1 rfl (by decide)) (by decide) (H.tg (zIn_all (l := [48, 106]) (p := fun a => zT a 12) rfl ha0)) (by omega) (g_ca_isTooMuch_ok (zIn_all (l := [48, 106]) (p := fun a => zIn [48, 106] a) rfl ha0) H h_19) rfl rfl ?_
        intro R_19 m_19 p_19 e_19 hR_19 H_19
        subst e_19
        rcases z_ite h with ⟨c_22, h⟩ | ⟨c_22, h⟩
        · refine r_t1 (pc' := 39) (L' := []) hq (z_at.mk 3 rfl rfl) rfl hR_19 c_22 rfl rfl ?_
          cases h
          exact r_rv hq (z_at.mk 1 rfl rfl) rfl rfl H_19
        · refine r_f1 (pc' := 25) (L' := [(0, .ref a0), (1, .int X1)]) hq (z_at.mk 3 rfl rfl) rfl hR_19 c_22 rfl rfl ?_
          refine r_p hq 2 (pc' := 27) (L' := [(0, .ref a0), (1, .int X1)]) (st' := [.ref a0, .ref a0]) rfl ?_
          obtain ⟨o_27, h_27, h⟩ := Option.bind_eq_some_iff.mp h
          refine r_cvI (pc' := 30) (L' := [(0, .ref a0), (1, .int X1)]) (Ps := []) (rest := [.ref a0]) hq (z_at.mk 3 rfl rfl) (Or.inl ⟨rfl, rfl⟩) rfl rfl (by decide) (by decide) rfl (Nat.not_lt.mpr (Nat.le_of_ble_eq_true rfl)) rfl rfl (z_cat_le 1 rfl (by decide)) (z_lgl_le 1 rfl (by decide)) (by decide) (H_19.tg (zIn_all (l := [48, 106]) (p := fun a => zT a 12) rfl ha0)) (by omega) (g_ca_lightest_ok (zIn_all (l := [48, 106]) (p := fun a => zIn [48, 106] a) rfl ha0) H_19 h_27) rfl rfl ?_
          intro R_27 m_27 p_27 e_27 hR_27 H_27
          subst e_27
          obtain ⟨o_30, h_30, h⟩ := Option.bind_eq_some_iff.mp h
          refine r_cvV (pc' := 33) (L' := [(0, .ref a0), (1, .int X1)]) (Ps := [.int R_27]) (rest := []) hq (z_at.mk 3 rfl rfl) (Or.inl ⟨rfl, rfl⟩) rfl rfl (by decide) (by decide) rfl (Nat.not_lt.mpr (Nat.le_of_ble_eq_true rfl)) rfl rfl (z_cat_le 0 rfl (by decide)) (z_lgl_le 2 rfl (by decide)) (by decide) (H_27.tg (zIn_all (l := [48, 106]) (p := fun a => zT a 12) rfl ha0)) (by omega) (g_ca_giveUp_ok (zIn_all (l := [48, 106]) (p := fun a => zIn [48, 106] a) rfl ha0) hR_27 H_27 h_30) rfl rfl ?_
          intro m_30 p_30 e_30 H_30
          subst e_30
          refine r_p hq 2 (pc' := 7) (L' := [(0, .ref a0), (1, .int (X1 + (-1 : Int32)))]) (st' := []) rfl ?_
          exact ih (tx_iaddn hx1 (rfl : (-1 : Int32).toInt = -1)) H_30 h
def g_ca_trim (a0 : Nat) (σ : zS) : Option (Unit × zS) :=
  let v_2 := σ a0 2
  g_ca_trim_L7 a0 zK (w32 (2 * v_2)) σ
set_option maxHeartbeats 4000000 in
theorem g_ca_trim_ok {xl : Nat} {xs : Nat → Int32} {a0 : Nat} (ha0 : zIn [48, 106] a0 = true) {σ : zS} {p : Nat} {m : zM} {o : Unit × zS} (H : zRep xl xs p m σ) (h : g_ca_trim a0 σ = some o) : zGo xl xs (fun p' => p = p') 5 37 0 (z_can 37 0 (lv_args 0 [.ref a0])) [] m vV o.2 := by
  have hq : z_mth 37 = some z_r37 := rfl
  unfold g_ca_trim at h
  show zGo xl xs (fun p' => p = p') 5 37 0 [(0, .ref a0)] [] m vV o.2
  refine r_p hq 2 (pc' := 2) (L' := [(0, .ref a0)]) (st' := [.ref a0, .int ((2 : Int32))]) rfl ?_
  refine r_gI (pc' := 5) (L' := [(0, .ref a0)]) H hq (z_at.mk 3 rfl rfl) rfl (zIn_all (l := [48, 106]) (p := fun a => zQ a 12 2 0) rfl ha0) rfl rfl ?_
  intro V_2 hV_2
  refine r_p hq 2 (pc' := 7) (L' := [(0, .ref a0), (1, .int (((2 : Int32)) * V_2))]) (st' := []) rfl ?_
  exact g_ca_trim_L7_ok ha0 zK (tx_imul (rfl : (2 : Int32).toInt = 2) hV_2) H h
def g_ca_missingOf_L68 (a0 : Nat) (g19 : Int → Int → zS → Option (Unit × zS)) (x1 : Int) (x2 : Int) (σ : zS) : Option (Unit × zS) :=
  g19 x1 (w32 (x2 + 1)) σ
set_option maxHeartbeats 4000000 in
theorem g_ca_missingOf_L68_ok {xl : Nat} {xs : Nat → Int32} {a0 : Nat} (ha0 : zIn [48, 106] a0 = true) {g19 : Int → Int → zS → Option (Unit × zS)} (hg19 : ∀ {X1 : Int32} {x1 : Int} {X2 : Int32} {x2 : Int} {σ : zS} {p : Nat} {m : zM} {o : Unit × zS}, X1.toInt = x1 → X2.toInt = x2 → zRep xl xs p m σ → g19 x1 x2 σ = some o → zGo xl xs (fun p' => p = p') 5 26 19 [(0, .ref a0), (1, .int X1), (2, .int X2)] [] m (vR (a0 + 8)) o.2) {X1 : Int32} {x1 : Int} (hx1 : X1.toInt = x1) {X2 : Int32} {x2 : Int} (hx2 : X2.toInt = x2) {σ : zS} {p : Nat} {m : zM} {o : Unit × zS} (H : zRep xl xs p m σ) (h : g_ca_missingOf_L68 a0 g19 x1 x2 σ = some o) : zGo xl xs (fun p' => p = p') 5 26 68 [(0, .ref a0), (1, .int X1), (2, .int X2)] [] m (vR (a0 + 8)) o.2 := by
  have hq : z_mth 26 = some z_r26 := rfl
  unfold g_ca_missingOf_L68 at h
  refine r_p hq 2 (pc' := 19) (L' := [(0, .ref a0), (1, .int X1), (2, .int (X2 + (1 : Int32)))]) (st' := []) rfl ?_
  exact hg19 hx1 (tx_iadd hx2 (rfl : (1 : Int32).toInt = 1)) H h
def g_ca_missingOf_L19 (a0 : Nat) : Nat → Int → Int → zS → Option (Unit × zS)
  | 0, _, _, _ => none
  | n + 1, x1, x2, σ =>
    let v_21 := σ a0 2
    if v_21 ≤ x2 then
      some ((), σ)
    else
      if 0 ≤ x2 ∧ x2 < 181 then
      let v_32 := σ (a0 + 4) x2
      (g_b_meet v_32 x1 σ).bind fun o_34 =>
      if o_34.1 = 0 then
        g_ca_missingOf_L68 a0 ((g_ca_missingOf_L19 a0 n)) x1 x2 o_34.2
      else
        if 0 ≤ x2 ∧ x2 < 181 then
        let v_53 := o_34.2 (a0 + 4) x2
        (g_bs_becomeRest (a0 + 10) (a0 + 8) v_53 o_34.2).bind fun o_54 =>
        (g_bs_copyFrom (a0 + 8) (a0 + 10) o_54.2).bind fun o_65 =>
        g_ca_missingOf_L68 a0 ((g_ca_missingOf_L19 a0 n)) x1 x2 o_65.2
        else none
      else none
set_option maxHeartbeats 4000000 in
theorem g_ca_missingOf_L19_ok {xl : Nat} {xs : Nat → Int32} {a0 : Nat} (ha0 : zIn [48, 106] a0 = true) : ∀ (n : Nat) {X1 : Int32} {x1 : Int} {X2 : Int32} {x2 : Int} {σ : zS} {p : Nat} {m : zM} {o : Unit × zS}, X1.toInt = x1 → X2.toInt = x2 → zRep xl xs p m σ → g_ca_missingOf_L19 a0 n x1 x2 σ = some o → zGo xl xs (fun p' => p = p') 5 26 19 [(0, .ref a0), (1, .int X1), (2, .int X2)] [] m (vR (a0 + 8)) o.2
  | 0, _, _, _, _, _, _, _, _, _, _, _, h => by cases h
  | n + 1, X1, x1, X2, x2, σ, p, m, o, hx1, hx2, H, h => by
    have hq : z_mth 26 = some z_r26 := rfl
    have ih := fun {X1 : Int32} {x1 : Int} {X2 : Int32} {x2 : Int} {σ : zS} {p : Nat} {m : zM} {o : Unit × zS} => g_ca_missingOf_L19_ok (xl := xl) (xs := xs) ha0 n (X1 := X1) (x1 := x1) (X2 := X2) (x2 := x2) (σ := σ) (p := p) (m := m) (o := o)
    unfold g_ca_missingOf_L19 at h
    refine r_p hq 2 (pc' := 21) (L' := [(0, .ref a0), (1, .int X1), (2, .int X2)]) (st' := [.ref a0, .int X2]) rfl ?_
    refine r_gI (pc' := 24) (L' := [(0, .ref a0), (1, .int X1), (2, .int X2)]) H hq (z_at.mk 3 rfl rfl) rfl (zIn_all (l := [48, 106]) (p := fun a => zQ a 12 2 0) rfl ha0) rfl rfl ?_
    intro V_21 hV_21
    rcases z_ite h with ⟨c_24, h⟩ | ⟨c_24, h⟩
    · refine r_t2 (pc' := 74) (L' := [(0, .ref a0), (1, .int X1), (2, .int X2)]) hq (z_at.mk 3 rfl rfl) rfl hx2 hV_21 c_24 rfl rfl ?_
      refine r_p hq 1 (pc' := 75) (L' := [(0, .ref a0), (1, .int X1), (2, .int X2)]) (st' := [.ref a0]) rfl ?_
      refine r_gR (b := a0 + 8) (pc' := 78) (L' := [(0, .ref a0), (1, .int X1), (2, .int X2)]) H hq (z_at.mk 3 rfl rfl) rfl (zIn_all (l := [48, 106]) (p := fun a => zQ a 12 16 (100 + a + 8)) rfl ha0) rfl rfl ?_
      cases h
      exact r_ra hq (z_at.mk 1 rfl rfl) rfl rfl H
    · refine r_f2 (pc' := 27) (L' := [(0, .ref a0), (1, .int X1), (2, .int X2)]) hq (z_at.mk 3 rfl rfl) rfl hx2 hV_21 c_24 rfl rfl ?_
      refine r_p hq 1 (pc' := 28) (L' := [(0, .ref a0), (1, .int X1), (2, .int X2)]) (st' := [.ref a0]) rfl ?_
      refine r_gR (b := a0 + 4) (pc' := 31) (L' := [(0, .ref a0), (1, .int X1), (2, .int X2)]) H hq (z_at.mk 3 rfl rfl) rfl (zIn_all (l := [48, 106]) (p := fun a => zQ a 12 4 (100 + a + 4)) rfl ha0) rfl rfl ?_
      refine r_p hq 1 (pc' := 32) (L' := [(0, .ref a0), (1, .int X1), (2, .int X2)]) (st' := [.int X2, .ref (a0 + 4)]) rfl ?_
      obtain ⟨g_32, h⟩ := z_ifo_some h
      refine r_ia (pc' := 33) (L' := [(0, .ref a0), (1, .int X1), (2, .int X2)]) H hq (z_at.mk 1 rfl rfl) (zIn_all (l := [48, 106]) (p := fun a => zAr (a + 4) 0 181) rfl ha0) hx2 g_32 rfl rfl ?_
      intro V_32 hV_32
      refine r_p hq 1 (pc' := 34) (L' := [(0, .ref a0), (1, .int X1), (2, .int X2)]) (st' := [.int X1, .int V_32]) rfl ?_
      obtain ⟨o_34, h_34, h⟩ := Option.bind_eq_some_iff.mp h
      refine r_csI (pc' := 37) (L' := [(0, .ref a0), (1, .int X1), (2, .int X2)]) (As := [.int V_32, .int X1]) (rest := []) (j := 9) hq (z_at.mk 3 rfl rfl) (Or.inl ⟨rfl, rfl⟩) rfl rfl (by omega) (g_b_meet_ok hV_32 hx1 H h_34) rfl rfl ?_
      intro R_34 m_34 p_34 e_34 hR_34 H_34
      subst e_34
      rcases z_ite h with ⟨c_37, h⟩ | ⟨c_37, h⟩
      · refine r_t1 (pc' := 68) (L' := [(0, .ref a0), (1, .int X1), (2, .int X2)]) hq (z_at.mk 3 rfl rfl) rfl hR_34 c_37 rfl rfl ?_
        exact g_ca_missingOf_L68_ok ha0 ih hx1 hx2 H_34 h
      · refine r_f1 (pc' := 40) (L' := [(0, .ref a0), (1, .int X1), (2, .int X2)]) hq (z_at.mk 3 rfl rfl) rfl hR_34 c_37 rfl rfl ?_
        refine r_p hq 1 (pc' := 41) (L' := [(0, .ref a0), (1, .int X1), (2, .int X2)]) (st' := [.ref a0]) rfl ?_
        refine r_gR (b := a0 + 10) (pc' := 44) (L' := [(0, .ref a0), (1, .int X1), (2, .int X2)]) H_34 hq (z_at.mk 3 rfl rfl) rfl (zIn_all (l := [48, 106]) (p := fun a => zQ a 12 17 (100 + a + 10)) rfl ha0) rfl rfl ?_
        refine r_p hq 1 (pc' := 45) (L' := [(0, .ref a0), (1, .int X1), (2, .int X2)]) (st' := [.ref a0, .ref (a0 + 10)]) rfl ?_
        refine r_gR (b := a0 + 8) (pc' := 48) (L' := [(0, .ref a0), (1, .int X1), (2, .int X2)]) H_34 hq (z_at.mk 3 rfl rfl) rfl (zIn_all (l := [48, 106]) (p := fun a => zQ a 12 16 (100 + a + 8)) rfl ha0) rfl rfl ?_
        refine r_p hq 1 (pc' := 49) (L' := [(0, .ref a0), (1, .int X1), (2, .int X2)]) (st' := [.ref a0, .ref (a0 + 8), .ref (a0 + 10)]) rfl ?_
        refine r_gR (b := a0 + 4) (pc' := 52) (L' := [(0, .ref a0), (1, .int X1), (2, .int X2)]) H_34 hq (z_at.mk 3 rfl rfl) rfl (zIn_all (l := [48, 106]) (p := fun a => zQ a 12 4 (100 + a + 4)) rfl ha0) rfl rfl ?_
        refine r_p hq 1 (pc' := 53) (L' := [(0, .ref a0), (1, .int X1), (2, .int X2)]) (st' := [.int X2, .ref (a0 + 4), .ref (a0 + 8), .ref (a0 + 10)]) rfl ?_
        obtain ⟨g_53, h⟩ := z_ifo_some h
        refine r_ia (pc' := 54) (L' := [(0, .ref a0), (1, .int X1), (2, .int X2)]) H_34 hq (z_at.mk 1 rfl rfl) (zIn_all (l := [48, 106]) (p := fun a => zAr (a + 4) 0 181) rfl ha0) hx2 g_53 rfl rfl ?_
        intro V_53 hV_53
        obtain ⟨o_54, h_54, h⟩ := Option.bind_eq_some_iff.mp h
        refine r_cvV (pc' := 57) (L' := [(0, .ref a0), (1, .int X1), (2, .int X2)]) (Ps := [.ref (a0 + 8), .int V_53]) (rest := []) hq (z_at.mk 3 rfl rfl) (Or.inl ⟨rfl, rfl⟩) rfl rfl (by decide) (by decide) rfl (Nat.not_lt.mpr (Nat.le_of_ble_eq_true rfl)) rfl rfl (z_cat_le 0 rfl (by decide)) (z_lgl_le 3 rfl (by decide)) (by decide) (H_34.tg (zIn_all (l := [48, 106]) (p := fun a => zT (a + 10) 11) rfl ha0)) (by omega) (g_bs_becomeRest_ok (zIn_all (l := [48, 106]) (p := fun a => zIn [58, 116] (a + 10)) rfl ha0) (zIn_all (l := [48, 106]) (p := fun a => zIn [56, 114] (a + 8)) rfl ha0) hV_53 H_34 h_54) rfl rfl ?_
        intro m_54 p_54 e_54 H_54
        subst e_54
        refine r_p hq 1 (pc' := 58) (L' := [(0, .ref a0), (1, .int X1), (2, .int X2)]) (st' := [.ref a0]) rfl ?_
        refine r_gR (b := a0 + 8) (pc' := 61) (L' := [(0, .ref a0), (1, .int X1), (2, .int X2)]) H_54 hq (z_at.mk 3 rfl rfl) rfl (zIn_all (l := [48, 106]) (p := fun a => zQ a 12 16 (100 + a + 8)) rfl ha0) rfl rfl ?_
        refine r_p hq 1 (pc' := 62) (L' := [(0, .ref a0), (1, .int X1), (2, .int X2)]) (st' := [.ref a0, .ref (a0 + 8)]) rfl ?_
        refine r_gR (b := a0 + 10) (pc' := 65) (L' := [(0, .ref a0), (1, .int X1), (2, .int X2)]) H_54 hq (z_at.mk 3 rfl rfl) rfl (zIn_all (l := [48, 106]) (p := fun a => zQ a 12 17 (100 + a + 10)) rfl ha0) rfl rfl ?_
        obtain ⟨o_65, h_65, h⟩ := Option.bind_eq_some_iff.mp h
        refine r_cvV (pc' := 68) (L' := [(0, .ref a0), (1, .int X1), (2, .int X2)]) (Ps := [.ref (a0 + 10)]) (rest := []) hq (z_at.mk 3 rfl rfl) (Or.inl ⟨rfl, rfl⟩) rfl rfl (by decide) (by decide) rfl (Nat.not_lt.mpr (Nat.le_of_ble_eq_true rfl)) rfl rfl (z_cat_le 0 rfl (by decide)) (z_lgl_le 2 rfl (by decide)) (by decide) (H_54.tg (zIn_all (l := [48, 106]) (p := fun a => zT (a + 8) 11) rfl ha0)) (by omega) (g_bs_copyFrom_ok (zIn_all (l := [48, 106]) (p := fun a => zIn [56, 58, 63, 96, 114, 116] (a + 8)) rfl ha0) (zIn_all (l := [48, 106]) (p := fun a => zIn [56, 58, 63, 96, 114, 116] (a + 10)) rfl ha0) H_54 h_65) rfl rfl ?_
        intro m_65 p_65 e_65 H_65
        subst e_65
        exact g_ca_missingOf_L68_ok ha0 ih hx1 hx2 H_65 h
def g_ca_missingOf (a0 : Nat) (x1 : Int) (σ : zS) : Option (Unit × zS) :=
  let s_5 := zu σ (a0 + 8) 1 0
  (g_bs_add (a0 + 8) x1 s_5).bind fun o_13 =>
  g_ca_missingOf_L19 a0 zK x1 0 o_13.2
set_option maxHeartbeats 4000000 in
theorem g_ca_missingOf_ok {xl : Nat} {xs : Nat → Int32} {a0 : Nat} (ha0 : zIn [48, 106] a0 = true) {X1 : Int32} {x1 : Int} (hx1 : X1.toInt = x1) {σ : zS} {p : Nat} {m : zM} {o : Unit × zS} (H : zRep xl xs p m σ) (h : g_ca_missingOf a0 x1 σ = some o) : zGo xl xs (fun p' => p = p') 5 26 0 (z_can 26 0 (lv_args 0 [.ref a0, .int X1])) [] m (vR (a0 + 8)) o.2 := by
  have hq : z_mth 26 = some z_r26 := rfl
  unfold g_ca_missingOf at h
  show zGo xl xs (fun p' => p = p') 5 26 0 [(0, .ref a0), (1, .int X1)] [] m (vR (a0 + 8)) o.2
  refine r_p hq 1 (pc' := 1) (L' := [(0, .ref a0), (1, .int X1)]) (st' := [.ref a0]) rfl ?_
  refine r_gR (b := a0 + 8) (pc' := 4) (L' := [(0, .ref a0), (1, .int X1)]) H hq (z_at.mk 3 rfl rfl) rfl (zIn_all (l := [48, 106]) (p := fun a => zQ a 12 16 (100 + a + 8)) rfl ha0) rfl rfl ?_
  refine r_p hq 1 (pc' := 5) (L' := [(0, .ref a0), (1, .int X1)]) (st' := [.int ((0 : Int32)), .ref (a0 + 8)]) rfl ?_
  refine r_pI (X := (0 : Int32)) (pc' := 8) (L' := [(0, .ref a0), (1, .int X1)]) H hq (z_at.mk 3 rfl rfl) rfl (zIn_all (l := [48, 106]) (p := fun a => zQ (a + 8) 11 1 0) rfl ha0) (rfl : (0 : Int32).toInt = 0) (by decide) rfl rfl rfl rfl ?_
  intro m_5 H_5
  refine r_p hq 1 (pc' := 9) (L' := [(0, .ref a0), (1, .int X1)]) (st' := [.ref a0]) rfl ?_
  refine r_gR (b := a0 + 8) (pc' := 12) (L' := [(0, .ref a0), (1, .int X1)]) H_5 hq (z_at.mk 3 rfl rfl) rfl (zIn_all (l := [48, 106]) (p := fun a => zQ a 12 16 (100 + a + 8)) rfl ha0) rfl rfl ?_
  refine r_p hq 1 (pc' := 13) (L' := [(0, .ref a0), (1, .int X1)]) (st' := [.int X1, .ref (a0 + 8)]) rfl ?_
  obtain ⟨o_13, h_13, h⟩ := Option.bind_eq_some_iff.mp h
  refine r_cvI (pc' := 16) (L' := [(0, .ref a0), (1, .int X1)]) (Ps := [.int X1]) (rest := []) hq (z_at.mk 3 rfl rfl) (Or.inl ⟨rfl, rfl⟩) rfl rfl (by decide) (by decide) rfl (Nat.not_lt.mpr (Nat.le_of_ble_eq_true rfl)) rfl rfl (z_cat_le 0 rfl (by decide)) (z_lgl_le 2 rfl (by decide)) (by decide) (H_5.tg (zIn_all (l := [48, 106]) (p := fun a => zT (a + 8) 11) rfl ha0)) (by omega) (g_bs_add_ok (zIn_all (l := [48, 106]) (p := fun a => zIn [56, 58, 63, 96, 114, 116, 126, 131] (a + 8)) rfl ha0) hx1 H_5 h_13) rfl rfl ?_
  intro R_13 m_13 p_13 e_13 hR_13 H_13
  subst e_13
  refine r_p hq 3 (pc' := 19) (L' := [(0, .ref a0), (1, .int X1), (2, .int ((0 : Int32)))]) (st' := []) rfl ?_
  exact g_ca_missingOf_L19_ok ha0 zK hx1 (rfl : (0 : Int32).toInt = 0) H_13 h
