section
/-! 21.g01 -/
/-! THE METHODS over the typed memory, 1 (by wip/zg.py) -/
def g_so_rowsIn (x1 : Int) (σ : zS) : Option (Int × zS) :=
  (g_b_x1 x1 σ).bind fun o_5 =>
  if 0 ≤ w32 (o_5.1 + 1) ∧ w32 (o_5.1 + 1) < 33 then
  let v_10 := o_5.2 46 (w32 (o_5.1 + 1))
  (g_b_x0 x1 o_5.2).bind fun o_16 =>
  if 0 ≤ o_16.1 ∧ o_16.1 < 33 then
  let v_19 := o_16.2 46 o_16.1
  (g_b_y1 x1 o_16.2).bind fun o_30 =>
  if 0 ≤ w32 (o_30.1 + 1) ∧ w32 (o_30.1 + 1) < 33 then
  let v_35 := o_30.2 47 (w32 (o_30.1 + 1))
  (g_b_y0 x1 o_30.2).bind fun o_42 =>
  if 0 ≤ o_42.1 ∧ o_42.1 < 33 then
  let v_45 := o_42.2 47 o_42.1
  some (lAnd (lAnd (lAnd v_10 (lXor v_19 (-1))) v_35) (lXor v_45 (-1)), o_42.2)
  else none
  else none
  else none
  else none
set_option maxHeartbeats 4000000 in
theorem g_so_rowsIn_ok {xl : Nat} {xs : Nat → Int32} {X1 : Int32} {x1 : Int} (hx1 : X1.toInt = x1) {σ : zS} {p : Nat} {m : zM} {o : Int × zS} (H : zRep xl xs p m σ) (h : g_so_rowsIn x1 σ = some o) : zGo xl xs (fun p' => p = p') 2 82 0 (z_can 82 0 (lv_args 0 [.ref 41, .int X1])) [] m (vL o.1) o.2 := by
  have hq : z_mth 82 = some z_r82 := rfl
  unfold g_so_rowsIn at h
  show zGo xl xs (fun p' => p = p') 2 82 0 [(0, .ref 41), (1, .int X1)] [] m (vL o.1) o.2
  refine r_p hq 1 (pc' := 1) (L' := [(0, .ref 41), (1, .int X1)]) (st' := [.ref 41]) rfl ?_
  refine r_gR (b := 46) (pc' := 4) (L' := [(0, .ref 41), (1, .int X1)]) H hq (z_at.mk 3 rfl rfl) rfl rfl rfl rfl ?_
  refine r_p hq 1 (pc' := 5) (L' := [(0, .ref 41), (1, .int X1)]) (st' := [.int X1, .ref 46]) rfl ?_
  obtain ⟨o_5, h_5, h⟩ := Option.bind_eq_some_iff.mp h
  refine r_csI (pc' := 8) (L' := [(0, .ref 41), (1, .int X1)]) (As := [.int X1]) (rest := [.ref 46]) (j := 5) hq (z_at.mk 3 rfl rfl) (Or.inl ⟨rfl, rfl⟩) rfl rfl (by omega) (g_b_x1_ok hx1 H h_5) rfl rfl ?_
  intro R_5 m_5 p_5 e_5 hR_5 H_5
  subst e_5
  refine r_p hq 2 (pc' := 10) (L' := [(0, .ref 41), (1, .int X1)]) (st' := [.int (R_5 + ((1 : Int32))), .ref 46]) rfl ?_
  obtain ⟨g_10, h⟩ := z_ifo_some h
  refine r_la (pc' := 11) (L' := [(0, .ref 41), (1, .int X1)]) H_5 hq (z_at.mk 1 rfl rfl) (show zAr 46 1 33 = true from rfl) (tx_iadd hR_5 (rfl : (1 : Int32).toInt = 1)) g_10 rfl rfl ?_
  intro V_10 hV_10
  refine r_p hq 1 (pc' := 12) (L' := [(0, .ref 41), (1, .int X1)]) (st' := [.ref 41, .long V_10]) rfl ?_
  refine r_gR (b := 46) (pc' := 15) (L' := [(0, .ref 41), (1, .int X1)]) H_5 hq (z_at.mk 3 rfl rfl) rfl rfl rfl rfl ?_
  refine r_p hq 1 (pc' := 16) (L' := [(0, .ref 41), (1, .int X1)]) (st' := [.int X1, .ref 46, .long V_10]) rfl ?_
  obtain ⟨o_16, h_16, h⟩ := Option.bind_eq_some_iff.mp h
  refine r_csI (pc' := 19) (L' := [(0, .ref 41), (1, .int X1)]) (As := [.int X1]) (rest := [.ref 46, .long V_10]) (j := 4) hq (z_at.mk 3 rfl rfl) (Or.inl ⟨rfl, rfl⟩) rfl rfl (by omega) (g_b_x0_ok hx1 H_5 h_16) rfl rfl ?_
  intro R_16 m_16 p_16 e_16 hR_16 H_16
  subst e_16
  obtain ⟨g_19, h⟩ := z_ifo_some h
  refine r_la (pc' := 20) (L' := [(0, .ref 41), (1, .int X1)]) H_16 hq (z_at.mk 1 rfl rfl) (show zAr 46 1 33 = true from rfl) hR_16 g_19 rfl rfl ?_
  intro V_19 hV_19
  refine r_p hq 4 (pc' := 26) (L' := [(0, .ref 41), (1, .int X1)]) (st' := [.ref 41, .long (V_10 &&& (V_19 ^^^ ((-1 : Int64))))]) rfl ?_
  refine r_gR (b := 47) (pc' := 29) (L' := [(0, .ref 41), (1, .int X1)]) H_16 hq (z_at.mk 3 rfl rfl) rfl rfl rfl rfl ?_
  refine r_p hq 1 (pc' := 30) (L' := [(0, .ref 41), (1, .int X1)]) (st' := [.int X1, .ref 47, .long (V_10 &&& (V_19 ^^^ ((-1 : Int64))))]) rfl ?_
  obtain ⟨o_30, h_30, h⟩ := Option.bind_eq_some_iff.mp h
  refine r_csI (pc' := 33) (L' := [(0, .ref 41), (1, .int X1)]) (As := [.int X1]) (rest := [.ref 47, .long (V_10 &&& (V_19 ^^^ ((-1 : Int64))))]) (j := 7) hq (z_at.mk 3 rfl rfl) (Or.inl ⟨rfl, rfl⟩) rfl rfl (by omega) (g_b_y1_ok hx1 H_16 h_30) rfl rfl ?_
  intro R_30 m_30 p_30 e_30 hR_30 H_30
  subst e_30
  refine r_p hq 2 (pc' := 35) (L' := [(0, .ref 41), (1, .int X1)]) (st' := [.int (R_30 + ((1 : Int32))), .ref 47, .long (V_10 &&& (V_19 ^^^ ((-1 : Int64))))]) rfl ?_
  obtain ⟨g_35, h⟩ := z_ifo_some h
  refine r_la (pc' := 36) (L' := [(0, .ref 41), (1, .int X1)]) H_30 hq (z_at.mk 1 rfl rfl) (show zAr 47 1 33 = true from rfl) (tx_iadd hR_30 (rfl : (1 : Int32).toInt = 1)) g_35 rfl rfl ?_
  intro V_35 hV_35
  refine r_p hq 2 (pc' := 38) (L' := [(0, .ref 41), (1, .int X1)]) (st' := [.ref 41, .long ((V_10 &&& (V_19 ^^^ ((-1 : Int64)))) &&& V_35)]) rfl ?_
  refine r_gR (b := 47) (pc' := 41) (L' := [(0, .ref 41), (1, .int X1)]) H_30 hq (z_at.mk 3 rfl rfl) rfl rfl rfl rfl ?_
  refine r_p hq 1 (pc' := 42) (L' := [(0, .ref 41), (1, .int X1)]) (st' := [.int X1, .ref 47, .long ((V_10 &&& (V_19 ^^^ ((-1 : Int64)))) &&& V_35)]) rfl ?_
  obtain ⟨o_42, h_42, h⟩ := Option.bind_eq_some_iff.mp h
  refine r_csI (pc' := 45) (L' := [(0, .ref 41), (1, .int X1)]) (As := [.int X1]) (rest := [.ref 47, .long ((V_10 &&& (V_19 ^^^ ((-1 : Int64)))) &&& V_35)]) (j := 6) hq (z_at.mk 3 rfl rfl) (Or.inl ⟨rfl, rfl⟩) rfl rfl (by omega) (g_b_y0_ok hx1 H_30 h_42) rfl rfl ?_
  intro R_42 m_42 p_42 e_42 hR_42 H_42
  subst e_42
  obtain ⟨g_45, h⟩ := z_ifo_some h
  refine r_la (pc' := 46) (L' := [(0, .ref 41), (1, .int X1)]) H_42 hq (z_at.mk 1 rfl rfl) (show zAr 47 1 33 = true from rfl) hR_42 g_45 rfl rfl ?_
  intro V_45 hV_45
  refine r_p hq 3 (pc' := 51) (L' := [(0, .ref 41), (1, .int X1)]) (st' := [.long (((V_10 &&& (V_19 ^^^ ((-1 : Int64)))) &&& V_35) &&& (V_45 ^^^ ((-1 : Int64))))]) rfl ?_
  cases h
  exact r_rl hq (z_at.mk 1 rfl rfl) rfl (tx_land (tx_land (tx_land hV_10 (tx_lxor hV_19 (rfl : (-1 : Int64).toInt = -1))) hV_35) (tx_lxor hV_45 (rfl : (-1 : Int64).toInt = -1))) rfl H_42
def g_jLong_bitCount (y0 : Int) (σ : zS) : Option (Int × zS) :=
  some (iAnd (w32 (w64 ((w64 ((w64 ((lAnd (w64 ((w64 ((lAnd (w64 (y0 - (lAnd (lUshr y0 1) 6148914691236517205))) 3689348814741910323) + (lAnd (lUshr (w64 (y0 - (lAnd (lUshr y0 1) 6148914691236517205))) 2) 3689348814741910323))) + (lUshr (w64 ((lAnd (w64 (y0 - (lAnd (lUshr y0 1) 6148914691236517205))) 3689348814741910323) + (lAnd (lUshr (w64 (y0 - (lAnd (lUshr y0 1) 6148914691236517205))) 2) 3689348814741910323))) 4))) 1085102592571150095) + (lUshr (lAnd (w64 ((w64 ((lAnd (w64 (y0 - (lAnd (lUshr y0 1) 6148914691236517205))) 3689348814741910323) + (lAnd (lUshr (w64 (y0 - (lAnd (lUshr y0 1) 6148914691236517205))) 2) 3689348814741910323))) + (lUshr (w64 ((lAnd (w64 (y0 - (lAnd (lUshr y0 1) 6148914691236517205))) 3689348814741910323) + (lAnd (lUshr (w64 (y0 - (lAnd (lUshr y0 1) 6148914691236517205))) 2) 3689348814741910323))) 4))) 1085102592571150095) 8))) + (lUshr (w64 ((lAnd (w64 ((w64 ((lAnd (w64 (y0 - (lAnd (lUshr y0 1) 6148914691236517205))) 3689348814741910323) + (lAnd (lUshr (w64 (y0 - (lAnd (lUshr y0 1) 6148914691236517205))) 2) 3689348814741910323))) + (lUshr (w64 ((lAnd (w64 (y0 - (lAnd (lUshr y0 1) 6148914691236517205))) 3689348814741910323) + (lAnd (lUshr (w64 (y0 - (lAnd (lUshr y0 1) 6148914691236517205))) 2) 3689348814741910323))) 4))) 1085102592571150095) + (lUshr (lAnd (w64 ((w64 ((lAnd (w64 (y0 - (lAnd (lUshr y0 1) 6148914691236517205))) 3689348814741910323) + (lAnd (lUshr (w64 (y0 - (lAnd (lUshr y0 1) 6148914691236517205))) 2) 3689348814741910323))) + (lUshr (w64 ((lAnd (w64 (y0 - (lAnd (lUshr y0 1) 6148914691236517205))) 3689348814741910323) + (lAnd (lUshr (w64 (y0 - (lAnd (lUshr y0 1) 6148914691236517205))) 2) 3689348814741910323))) 4))) 1085102592571150095) 8))) 16))) + (lUshr (w64 ((w64 ((lAnd (w64 ((w64 ((lAnd (w64 (y0 - (lAnd (lUshr y0 1) 6148914691236517205))) 3689348814741910323) + (lAnd (lUshr (w64 (y0 - (lAnd (lUshr y0 1) 6148914691236517205))) 2) 3689348814741910323))) + (lUshr (w64 ((lAnd (w64 (y0 - (lAnd (lUshr y0 1) 6148914691236517205))) 3689348814741910323) + (lAnd (lUshr (w64 (y0 - (lAnd (lUshr y0 1) 6148914691236517205))) 2) 3689348814741910323))) 4))) 1085102592571150095) + (lUshr (lAnd (w64 ((w64 ((lAnd (w64 (y0 - (lAnd (lUshr y0 1) 6148914691236517205))) 3689348814741910323) + (lAnd (lUshr (w64 (y0 - (lAnd (lUshr y0 1) 6148914691236517205))) 2) 3689348814741910323))) + (lUshr (w64 ((lAnd (w64 (y0 - (lAnd (lUshr y0 1) 6148914691236517205))) 3689348814741910323) + (lAnd (lUshr (w64 (y0 - (lAnd (lUshr y0 1) 6148914691236517205))) 2) 3689348814741910323))) 4))) 1085102592571150095) 8))) + (lUshr (w64 ((lAnd (w64 ((w64 ((lAnd (w64 (y0 - (lAnd (lUshr y0 1) 6148914691236517205))) 3689348814741910323) + (lAnd (lUshr (w64 (y0 - (lAnd (lUshr y0 1) 6148914691236517205))) 2) 3689348814741910323))) + (lUshr (w64 ((lAnd (w64 (y0 - (lAnd (lUshr y0 1) 6148914691236517205))) 3689348814741910323) + (lAnd (lUshr (w64 (y0 - (lAnd (lUshr y0 1) 6148914691236517205))) 2) 3689348814741910323))) 4))) 1085102592571150095) + (lUshr (lAnd (w64 ((w64 ((lAnd (w64 (y0 - (lAnd (lUshr y0 1) 6148914691236517205))) 3689348814741910323) + (lAnd (lUshr (w64 (y0 - (lAnd (lUshr y0 1) 6148914691236517205))) 2) 3689348814741910323))) + (lUshr (w64 ((lAnd (w64 (y0 - (lAnd (lUshr y0 1) 6148914691236517205))) 3689348814741910323) + (lAnd (lUshr (w64 (y0 - (lAnd (lUshr y0 1) 6148914691236517205))) 2) 3689348814741910323))) 4))) 1085102592571150095) 8))) 16))) 32)))) 127, σ)
set_option maxHeartbeats 4000000 in
theorem g_jLong_bitCount_ok {xl : Nat} {xs : Nat → Int32} {Y0 : Int64} {y0 : Int} (hy0 : Y0.toInt = y0) {σ : zS} {p : Nat} {m : zM} {o : Int × zS} (H : zRep xl xs p m σ) (h : g_jLong_bitCount y0 σ = some o) : zGo xl xs (fun p' => p = p') 1 287 0 (z_can 287 0 (lv_args 0 [.long Y0])) [] m (vI o.1) o.2 := by
  have hq : z_mth 287 = some z_r287 := rfl
  unfold g_jLong_bitCount at h
  show zGo xl xs (fun p' => p = p') 1 287 0 [(0, .long Y0)] [] m (vI o.1) o.2
  refine r_p hq 48 (pc' := 60) (L' := [(0, .long ((((((((Y0 - (((Y0.toUInt64 >>> (((1 : Int32)).toInt64.toUInt64 &&& Int64.toUInt64 63)).toInt64) &&& ((6148914691236517205 : Int64)))) &&& ((3689348814741910323 : Int64))) + ((((Y0 - (((Y0.toUInt64 >>> (((1 : Int32)).toInt64.toUInt64 &&& Int64.toUInt64 63)).toInt64) &&& ((6148914691236517205 : Int64)))).toUInt64 >>> (((2 : Int32)).toInt64.toUInt64 &&& Int64.toUInt64 63)).toInt64) &&& ((3689348814741910323 : Int64)))) + (((((Y0 - (((Y0.toUInt64 >>> (((1 : Int32)).toInt64.toUInt64 &&& Int64.toUInt64 63)).toInt64) &&& ((6148914691236517205 : Int64)))) &&& ((3689348814741910323 : Int64))) + ((((Y0 - (((Y0.toUInt64 >>> (((1 : Int32)).toInt64.toUInt64 &&& Int64.toUInt64 63)).toInt64) &&& ((6148914691236517205 : Int64)))).toUInt64 >>> (((2 : Int32)).toInt64.toUInt64 &&& Int64.toUInt64 63)).toInt64) &&& ((3689348814741910323 : Int64)))).toUInt64 >>> (((4 : Int32)).toInt64.toUInt64 &&& Int64.toUInt64 63)).toInt64)) &&& ((1085102592571150095 : Int64))) + (((((((Y0 - (((Y0.toUInt64 >>> (((1 : Int32)).toInt64.toUInt64 &&& Int64.toUInt64 63)).toInt64) &&& ((6148914691236517205 : Int64)))) &&& ((3689348814741910323 : Int64))) + ((((Y0 - (((Y0.toUInt64 >>> (((1 : Int32)).toInt64.toUInt64 &&& Int64.toUInt64 63)).toInt64) &&& ((6148914691236517205 : Int64)))).toUInt64 >>> (((2 : Int32)).toInt64.toUInt64 &&& Int64.toUInt64 63)).toInt64) &&& ((3689348814741910323 : Int64)))) + (((((Y0 - (((Y0.toUInt64 >>> (((1 : Int32)).toInt64.toUInt64 &&& Int64.toUInt64 63)).toInt64) &&& ((6148914691236517205 : Int64)))) &&& ((3689348814741910323 : Int64))) + ((((Y0 - (((Y0.toUInt64 >>> (((1 : Int32)).toInt64.toUInt64 &&& Int64.toUInt64 63)).toInt64) &&& ((6148914691236517205 : Int64)))).toUInt64 >>> (((2 : Int32)).toInt64.toUInt64 &&& Int64.toUInt64 63)).toInt64) &&& ((3689348814741910323 : Int64)))).toUInt64 >>> (((4 : Int32)).toInt64.toUInt64 &&& Int64.toUInt64 63)).toInt64)) &&& ((1085102592571150095 : Int64))).toUInt64 >>> (((8 : Int32)).toInt64.toUInt64 &&& Int64.toUInt64 63)).toInt64)) + ((((((((Y0 - (((Y0.toUInt64 >>> (((1 : Int32)).toInt64.toUInt64 &&& Int64.toUInt64 63)).toInt64) &&& ((6148914691236517205 : Int64)))) &&& ((3689348814741910323 : Int64))) + ((((Y0 - (((Y0.toUInt64 >>> (((1 : Int32)).toInt64.toUInt64 &&& Int64.toUInt64 63)).toInt64) &&& ((6148914691236517205 : Int64)))).toUInt64 >>> (((2 : Int32)).toInt64.toUInt64 &&& Int64.toUInt64 63)).toInt64) &&& ((3689348814741910323 : Int64)))) + (((((Y0 - (((Y0.toUInt64 >>> (((1 : Int32)).toInt64.toUInt64 &&& Int64.toUInt64 63)).toInt64) &&& ((6148914691236517205 : Int64)))) &&& ((3689348814741910323 : Int64))) + ((((Y0 - (((Y0.toUInt64 >>> (((1 : Int32)).toInt64.toUInt64 &&& Int64.toUInt64 63)).toInt64) &&& ((6148914691236517205 : Int64)))).toUInt64 >>> (((2 : Int32)).toInt64.toUInt64 &&& Int64.toUInt64 63)).toInt64) &&& ((3689348814741910323 : Int64)))).toUInt64 >>> (((4 : Int32)).toInt64.toUInt64 &&& Int64.toUInt64 63)).toInt64)) &&& ((1085102592571150095 : Int64))) + (((((((Y0 - (((Y0.toUInt64 >>> (((1 : Int32)).toInt64.toUInt64 &&& Int64.toUInt64 63)).toInt64) &&& ((6148914691236517205 : Int64)))) &&& ((3689348814741910323 : Int64))) + ((((Y0 - (((Y0.toUInt64 >>> (((1 : Int32)).toInt64.toUInt64 &&& Int64.toUInt64 63)).toInt64) &&& ((6148914691236517205 : Int64)))).toUInt64 >>> (((2 : Int32)).toInt64.toUInt64 &&& Int64.toUInt64 63)).toInt64) &&& ((3689348814741910323 : Int64)))) + (((((Y0 - (((Y0.toUInt64 >>> (((1 : Int32)).toInt64.toUInt64 &&& Int64.toUInt64 63)).toInt64) &&& ((6148914691236517205 : Int64)))) &&& ((3689348814741910323 : Int64))) + ((((Y0 - (((Y0.toUInt64 >>> (((1 : Int32)).toInt64.toUInt64 &&& Int64.toUInt64 63)).toInt64) &&& ((6148914691236517205 : Int64)))).toUInt64 >>> (((2 : Int32)).toInt64.toUInt64 &&& Int64.toUInt64 63)).toInt64) &&& ((3689348814741910323 : Int64)))).toUInt64 >>> (((4 : Int32)).toInt64.toUInt64 &&& Int64.toUInt64 63)).toInt64)) &&& ((1085102592571150095 : Int64))).toUInt64 >>> (((8 : Int32)).toInt64.toUInt64 &&& Int64.toUInt64 63)).toInt64)).toUInt64 >>> (((16 : Int32)).toInt64.toUInt64 &&& Int64.toUInt64 63)).toInt64)) + (((((((((Y0 - (((Y0.toUInt64 >>> (((1 : Int32)).toInt64.toUInt64 &&& Int64.toUInt64 63)).toInt64) &&& ((6148914691236517205 : Int64)))) &&& ((3689348814741910323 : Int64))) + ((((Y0 - (((Y0.toUInt64 >>> (((1 : Int32)).toInt64.toUInt64 &&& Int64.toUInt64 63)).toInt64) &&& ((6148914691236517205 : Int64)))).toUInt64 >>> (((2 : Int32)).toInt64.toUInt64 &&& Int64.toUInt64 63)).toInt64) &&& ((3689348814741910323 : Int64)))) + (((((Y0 - (((Y0.toUInt64 >>> (((1 : Int32)).toInt64.toUInt64 &&& Int64.toUInt64 63)).toInt64) &&& ((6148914691236517205 : Int64)))) &&& ((3689348814741910323 : Int64))) + ((((Y0 - (((Y0.toUInt64 >>> (((1 : Int32)).toInt64.toUInt64 &&& Int64.toUInt64 63)).toInt64) &&& ((6148914691236517205 : Int64)))).toUInt64 >>> (((2 : Int32)).toInt64.toUInt64 &&& Int64.toUInt64 63)).toInt64) &&& ((3689348814741910323 : Int64)))).toUInt64 >>> (((4 : Int32)).toInt64.toUInt64 &&& Int64.toUInt64 63)).toInt64)) &&& ((1085102592571150095 : Int64))) + (((((((Y0 - (((Y0.toUInt64 >>> (((1 : Int32)).toInt64.toUInt64 &&& Int64.toUInt64 63)).toInt64) &&& ((6148914691236517205 : Int64)))) &&& ((3689348814741910323 : Int64))) + ((((Y0 - (((Y0.toUInt64 >>> (((1 : Int32)).toInt64.toUInt64 &&& Int64.toUInt64 63)).toInt64) &&& ((6148914691236517205 : Int64)))).toUInt64 >>> (((2 : Int32)).toInt64.toUInt64 &&& Int64.toUInt64 63)).toInt64) &&& ((3689348814741910323 : Int64)))) + (((((Y0 - (((Y0.toUInt64 >>> (((1 : Int32)).toInt64.toUInt64 &&& Int64.toUInt64 63)).toInt64) &&& ((6148914691236517205 : Int64)))) &&& ((3689348814741910323 : Int64))) + ((((Y0 - (((Y0.toUInt64 >>> (((1 : Int32)).toInt64.toUInt64 &&& Int64.toUInt64 63)).toInt64) &&& ((6148914691236517205 : Int64)))).toUInt64 >>> (((2 : Int32)).toInt64.toUInt64 &&& Int64.toUInt64 63)).toInt64) &&& ((3689348814741910323 : Int64)))).toUInt64 >>> (((4 : Int32)).toInt64.toUInt64 &&& Int64.toUInt64 63)).toInt64)) &&& ((1085102592571150095 : Int64))).toUInt64 >>> (((8 : Int32)).toInt64.toUInt64 &&& Int64.toUInt64 63)).toInt64)) + ((((((((Y0 - (((Y0.toUInt64 >>> (((1 : Int32)).toInt64.toUInt64 &&& Int64.toUInt64 63)).toInt64) &&& ((6148914691236517205 : Int64)))) &&& ((3689348814741910323 : Int64))) + ((((Y0 - (((Y0.toUInt64 >>> (((1 : Int32)).toInt64.toUInt64 &&& Int64.toUInt64 63)).toInt64) &&& ((6148914691236517205 : Int64)))).toUInt64 >>> (((2 : Int32)).toInt64.toUInt64 &&& Int64.toUInt64 63)).toInt64) &&& ((3689348814741910323 : Int64)))) + (((((Y0 - (((Y0.toUInt64 >>> (((1 : Int32)).toInt64.toUInt64 &&& Int64.toUInt64 63)).toInt64) &&& ((6148914691236517205 : Int64)))) &&& ((3689348814741910323 : Int64))) + ((((Y0 - (((Y0.toUInt64 >>> (((1 : Int32)).toInt64.toUInt64 &&& Int64.toUInt64 63)).toInt64) &&& ((6148914691236517205 : Int64)))).toUInt64 >>> (((2 : Int32)).toInt64.toUInt64 &&& Int64.toUInt64 63)).toInt64) &&& ((3689348814741910323 : Int64)))).toUInt64 >>> (((4 : Int32)).toInt64.toUInt64 &&& Int64.toUInt64 63)).toInt64)) &&& ((1085102592571150095 : Int64))) + (((((((Y0 - (((Y0.toUInt64 >>> (((1 : Int32)).toInt64.toUInt64 &&& Int64.toUInt64 63)).toInt64) &&& ((6148914691236517205 : Int64)))) &&& ((3689348814741910323 : Int64))) + ((((Y0 - (((Y0.toUInt64 >>> (((1 : Int32)).toInt64.toUInt64 &&& Int64.toUInt64 63)).toInt64) &&& ((6148914691236517205 : Int64)))).toUInt64 >>> (((2 : Int32)).toInt64.toUInt64 &&& Int64.toUInt64 63)).toInt64) &&& ((3689348814741910323 : Int64)))) + (((((Y0 - (((Y0.toUInt64 >>> (((1 : Int32)).toInt64.toUInt64 &&& Int64.toUInt64 63)).toInt64) &&& ((6148914691236517205 : Int64)))) &&& ((3689348814741910323 : Int64))) + ((((Y0 - (((Y0.toUInt64 >>> (((1 : Int32)).toInt64.toUInt64 &&& Int64.toUInt64 63)).toInt64) &&& ((6148914691236517205 : Int64)))).toUInt64 >>> (((2 : Int32)).toInt64.toUInt64 &&& Int64.toUInt64 63)).toInt64) &&& ((3689348814741910323 : Int64)))).toUInt64 >>> (((4 : Int32)).toInt64.toUInt64 &&& Int64.toUInt64 63)).toInt64)) &&& ((1085102592571150095 : Int64))).toUInt64 >>> (((8 : Int32)).toInt64.toUInt64 &&& Int64.toUInt64 63)).toInt64)).toUInt64 >>> (((16 : Int32)).toInt64.toUInt64 &&& Int64.toUInt64 63)).toInt64)).toUInt64 >>> (((32 : Int32)).toInt64.toUInt64 &&& Int64.toUInt64 63)).toInt64)))]) (st' := [.int ((((((((((Y0 - (((Y0.toUInt64 >>> (((1 : Int32)).toInt64.toUInt64 &&& Int64.toUInt64 63)).toInt64) &&& ((6148914691236517205 : Int64)))) &&& ((3689348814741910323 : Int64))) + ((((Y0 - (((Y0.toUInt64 >>> (((1 : Int32)).toInt64.toUInt64 &&& Int64.toUInt64 63)).toInt64) &&& ((6148914691236517205 : Int64)))).toUInt64 >>> (((2 : Int32)).toInt64.toUInt64 &&& Int64.toUInt64 63)).toInt64) &&& ((3689348814741910323 : Int64)))) + (((((Y0 - (((Y0.toUInt64 >>> (((1 : Int32)).toInt64.toUInt64 &&& Int64.toUInt64 63)).toInt64) &&& ((6148914691236517205 : Int64)))) &&& ((3689348814741910323 : Int64))) + ((((Y0 - (((Y0.toUInt64 >>> (((1 : Int32)).toInt64.toUInt64 &&& Int64.toUInt64 63)).toInt64) &&& ((6148914691236517205 : Int64)))).toUInt64 >>> (((2 : Int32)).toInt64.toUInt64 &&& Int64.toUInt64 63)).toInt64) &&& ((3689348814741910323 : Int64)))).toUInt64 >>> (((4 : Int32)).toInt64.toUInt64 &&& Int64.toUInt64 63)).toInt64)) &&& ((1085102592571150095 : Int64))) + (((((((Y0 - (((Y0.toUInt64 >>> (((1 : Int32)).toInt64.toUInt64 &&& Int64.toUInt64 63)).toInt64) &&& ((6148914691236517205 : Int64)))) &&& ((3689348814741910323 : Int64))) + ((((Y0 - (((Y0.toUInt64 >>> (((1 : Int32)).toInt64.toUInt64 &&& Int64.toUInt64 63)).toInt64) &&& ((6148914691236517205 : Int64)))).toUInt64 >>> (((2 : Int32)).toInt64.toUInt64 &&& Int64.toUInt64 63)).toInt64) &&& ((3689348814741910323 : Int64)))) + (((((Y0 - (((Y0.toUInt64 >>> (((1 : Int32)).toInt64.toUInt64 &&& Int64.toUInt64 63)).toInt64) &&& ((6148914691236517205 : Int64)))) &&& ((3689348814741910323 : Int64))) + ((((Y0 - (((Y0.toUInt64 >>> (((1 : Int32)).toInt64.toUInt64 &&& Int64.toUInt64 63)).toInt64) &&& ((6148914691236517205 : Int64)))).toUInt64 >>> (((2 : Int32)).toInt64.toUInt64 &&& Int64.toUInt64 63)).toInt64) &&& ((3689348814741910323 : Int64)))).toUInt64 >>> (((4 : Int32)).toInt64.toUInt64 &&& Int64.toUInt64 63)).toInt64)) &&& ((1085102592571150095 : Int64))).toUInt64 >>> (((8 : Int32)).toInt64.toUInt64 &&& Int64.toUInt64 63)).toInt64)) + ((((((((Y0 - (((Y0.toUInt64 >>> (((1 : Int32)).toInt64.toUInt64 &&& Int64.toUInt64 63)).toInt64) &&& ((6148914691236517205 : Int64)))) &&& ((3689348814741910323 : Int64))) + ((((Y0 - (((Y0.toUInt64 >>> (((1 : Int32)).toInt64.toUInt64 &&& Int64.toUInt64 63)).toInt64) &&& ((6148914691236517205 : Int64)))).toUInt64 >>> (((2 : Int32)).toInt64.toUInt64 &&& Int64.toUInt64 63)).toInt64) &&& ((3689348814741910323 : Int64)))) + (((((Y0 - (((Y0.toUInt64 >>> (((1 : Int32)).toInt64.toUInt64 &&& Int64.toUInt64 63)).toInt64) &&& ((6148914691236517205 : Int64)))) &&& ((3689348814741910323 : Int64))) + ((((Y0 - (((Y0.toUInt64 >>> (((1 : Int32)).toInt64.toUInt64 &&& Int64.toUInt64 63)).toInt64) &&& ((6148914691236517205 : Int64)))).toUInt64 >>> (((2 : Int32)).toInt64.toUInt64 &&& Int64.toUInt64 63)).toInt64) &&& ((3689348814741910323 : Int64)))).toUInt64 >>> (((4 : Int32)).toInt64.toUInt64 &&& Int64.toUInt64 63)).toInt64)) &&& ((1085102592571150095 : Int64))) + (((((((Y0 - (((Y0.toUInt64 >>> (((1 : Int32)).toInt64.toUInt64 &&& Int64.toUInt64 63)).toInt64) &&& ((6148914691236517205 : Int64)))) &&& ((3689348814741910323 : Int64))) + ((((Y0 - (((Y0.toUInt64 >>> (((1 : Int32)).toInt64.toUInt64 &&& Int64.toUInt64 63)).toInt64) &&& ((6148914691236517205 : Int64)))).toUInt64 >>> (((2 : Int32)).toInt64.toUInt64 &&& Int64.toUInt64 63)).toInt64) &&& ((3689348814741910323 : Int64)))) + (((((Y0 - (((Y0.toUInt64 >>> (((1 : Int32)).toInt64.toUInt64 &&& Int64.toUInt64 63)).toInt64) &&& ((6148914691236517205 : Int64)))) &&& ((3689348814741910323 : Int64))) + ((((Y0 - (((Y0.toUInt64 >>> (((1 : Int32)).toInt64.toUInt64 &&& Int64.toUInt64 63)).toInt64) &&& ((6148914691236517205 : Int64)))).toUInt64 >>> (((2 : Int32)).toInt64.toUInt64 &&& Int64.toUInt64 63)).toInt64) &&& ((3689348814741910323 : Int64)))).toUInt64 >>> (((4 : Int32)).toInt64.toUInt64 &&& Int64.toUInt64 63)).toInt64)) &&& ((1085102592571150095 : Int64))).toUInt64 >>> (((8 : Int32)).toInt64.toUInt64 &&& Int64.toUInt64 63)).toInt64)).toUInt64 >>> (((16 : Int32)).toInt64.toUInt64 &&& Int64.toUInt64 63)).toInt64)) + (((((((((Y0 - (((Y0.toUInt64 >>> (((1 : Int32)).toInt64.toUInt64 &&& Int64.toUInt64 63)).toInt64) &&& ((6148914691236517205 : Int64)))) &&& ((3689348814741910323 : Int64))) + ((((Y0 - (((Y0.toUInt64 >>> (((1 : Int32)).toInt64.toUInt64 &&& Int64.toUInt64 63)).toInt64) &&& ((6148914691236517205 : Int64)))).toUInt64 >>> (((2 : Int32)).toInt64.toUInt64 &&& Int64.toUInt64 63)).toInt64) &&& ((3689348814741910323 : Int64)))) + (((((Y0 - (((Y0.toUInt64 >>> (((1 : Int32)).toInt64.toUInt64 &&& Int64.toUInt64 63)).toInt64) &&& ((6148914691236517205 : Int64)))) &&& ((3689348814741910323 : Int64))) + ((((Y0 - (((Y0.toUInt64 >>> (((1 : Int32)).toInt64.toUInt64 &&& Int64.toUInt64 63)).toInt64) &&& ((6148914691236517205 : Int64)))).toUInt64 >>> (((2 : Int32)).toInt64.toUInt64 &&& Int64.toUInt64 63)).toInt64) &&& ((3689348814741910323 : Int64)))).toUInt64 >>> (((4 : Int32)).toInt64.toUInt64 &&& Int64.toUInt64 63)).toInt64)) &&& ((1085102592571150095 : Int64))) + (((((((Y0 - (((Y0.toUInt64 >>> (((1 : Int32)).toInt64.toUInt64 &&& Int64.toUInt64 63)).toInt64) &&& ((6148914691236517205 : Int64)))) &&& ((3689348814741910323 : Int64))) + ((((Y0 - (((Y0.toUInt64 >>> (((1 : Int32)).toInt64.toUInt64 &&& Int64.toUInt64 63)).toInt64) &&& ((6148914691236517205 : Int64)))).toUInt64 >>> (((2 : Int32)).toInt64.toUInt64 &&& Int64.toUInt64 63)).toInt64) &&& ((3689348814741910323 : Int64)))) + (((((Y0 - (((Y0.toUInt64 >>> (((1 : Int32)).toInt64.toUInt64 &&& Int64.toUInt64 63)).toInt64) &&& ((6148914691236517205 : Int64)))) &&& ((3689348814741910323 : Int64))) + ((((Y0 - (((Y0.toUInt64 >>> (((1 : Int32)).toInt64.toUInt64 &&& Int64.toUInt64 63)).toInt64) &&& ((6148914691236517205 : Int64)))).toUInt64 >>> (((2 : Int32)).toInt64.toUInt64 &&& Int64.toUInt64 63)).toInt64) &&& ((3689348814741910323 : Int64)))).toUInt64 >>> (((4 : Int32)).toInt64.toUInt64 &&& Int64.toUInt64 63)).toInt64)) &&& ((1085102592571150095 : Int64))).toUInt64 >>> (((8 : Int32)).toInt64.toUInt64 &&& Int64.toUInt64 63)).toInt64)) + ((((((((Y0 - (((Y0.toUInt64 >>> (((1 : Int32)).toInt64.toUInt64 &&& Int64.toUInt64 63)).toInt64) &&& ((6148914691236517205 : Int64)))) &&& ((3689348814741910323 : Int64))) + ((((Y0 - (((Y0.toUInt64 >>> (((1 : Int32)).toInt64.toUInt64 &&& Int64.toUInt64 63)).toInt64) &&& ((6148914691236517205 : Int64)))).toUInt64 >>> (((2 : Int32)).toInt64.toUInt64 &&& Int64.toUInt64 63)).toInt64) &&& ((3689348814741910323 : Int64)))) + (((((Y0 - (((Y0.toUInt64 >>> (((1 : Int32)).toInt64.toUInt64 &&& Int64.toUInt64 63)).toInt64) &&& ((6148914691236517205 : Int64)))) &&& ((3689348814741910323 : Int64))) + ((((Y0 - (((Y0.toUInt64 >>> (((1 : Int32)).toInt64.toUInt64 &&& Int64.toUInt64 63)).toInt64) &&& ((6148914691236517205 : Int64)))).toUInt64 >>> (((2 : Int32)).toInt64.toUInt64 &&& Int64.toUInt64 63)).toInt64) &&& ((3689348814741910323 : Int64)))).toUInt64 >>> (((4 : Int32)).toInt64.toUInt64 &&& Int64.toUInt64 63)).toInt64)) &&& ((1085102592571150095 : Int64))) + (((((((Y0 - (((Y0.toUInt64 >>> (((1 : Int32)).toInt64.toUInt64 &&& Int64.toUInt64 63)).toInt64) &&& ((6148914691236517205 : Int64)))) &&& ((3689348814741910323 : Int64))) + ((((Y0 - (((Y0.toUInt64 >>> (((1 : Int32)).toInt64.toUInt64 &&& Int64.toUInt64 63)).toInt64) &&& ((6148914691236517205 : Int64)))).toUInt64 >>> (((2 : Int32)).toInt64.toUInt64 &&& Int64.toUInt64 63)).toInt64) &&& ((3689348814741910323 : Int64)))) + (((((Y0 - (((Y0.toUInt64 >>> (((1 : Int32)).toInt64.toUInt64 &&& Int64.toUInt64 63)).toInt64) &&& ((6148914691236517205 : Int64)))) &&& ((3689348814741910323 : Int64))) + ((((Y0 - (((Y0.toUInt64 >>> (((1 : Int32)).toInt64.toUInt64 &&& Int64.toUInt64 63)).toInt64) &&& ((6148914691236517205 : Int64)))).toUInt64 >>> (((2 : Int32)).toInt64.toUInt64 &&& Int64.toUInt64 63)).toInt64) &&& ((3689348814741910323 : Int64)))).toUInt64 >>> (((4 : Int32)).toInt64.toUInt64 &&& Int64.toUInt64 63)).toInt64)) &&& ((1085102592571150095 : Int64))).toUInt64 >>> (((8 : Int32)).toInt64.toUInt64 &&& Int64.toUInt64 63)).toInt64)).toUInt64 >>> (((16 : Int32)).toInt64.toUInt64 &&& Int64.toUInt64 63)).toInt64)).toUInt64 >>> (((32 : Int32)).toInt64.toUInt64 &&& Int64.toUInt64 63)).toInt64)).toInt32) &&& ((127 : Int32)))]) rfl ?_
  cases h
  exact r_ri hq (z_at.mk 1 rfl rfl) rfl rfl (tx_iand (tx_l2i (tx_ladd (tx_ladd (tx_ladd (tx_land (tx_ladd (tx_ladd (tx_land (tx_lsub hy0 (tx_land (tx_lushr hy0 (rfl : (1 : Int32).toInt = 1)) (rfl : (6148914691236517205 : Int64).toInt = 6148914691236517205))) (rfl : (3689348814741910323 : Int64).toInt = 3689348814741910323)) (tx_land (tx_lushr (tx_lsub hy0 (tx_land (tx_lushr hy0 (rfl : (1 : Int32).toInt = 1)) (rfl : (6148914691236517205 : Int64).toInt = 6148914691236517205))) (rfl : (2 : Int32).toInt = 2)) (rfl : (3689348814741910323 : Int64).toInt = 3689348814741910323))) (tx_lushr (tx_ladd (tx_land (tx_lsub hy0 (tx_land (tx_lushr hy0 (rfl : (1 : Int32).toInt = 1)) (rfl : (6148914691236517205 : Int64).toInt = 6148914691236517205))) (rfl : (3689348814741910323 : Int64).toInt = 3689348814741910323)) (tx_land (tx_lushr (tx_lsub hy0 (tx_land (tx_lushr hy0 (rfl : (1 : Int32).toInt = 1)) (rfl : (6148914691236517205 : Int64).toInt = 6148914691236517205))) (rfl : (2 : Int32).toInt = 2)) (rfl : (3689348814741910323 : Int64).toInt = 3689348814741910323))) (rfl : (4 : Int32).toInt = 4))) (rfl : (1085102592571150095 : Int64).toInt = 1085102592571150095)) (tx_lushr (tx_land (tx_ladd (tx_ladd (tx_land (tx_lsub hy0 (tx_land (tx_lushr hy0 (rfl : (1 : Int32).toInt = 1)) (rfl : (6148914691236517205 : Int64).toInt = 6148914691236517205))) (rfl : (3689348814741910323 : Int64).toInt = 3689348814741910323)) (tx_land (tx_lushr (tx_lsub hy0 (tx_land (tx_lushr hy0 (rfl : (1 : Int32).toInt = 1)) (rfl : (6148914691236517205 : Int64).toInt = 6148914691236517205))) (rfl : (2 : Int32).toInt = 2)) (rfl : (3689348814741910323 : Int64).toInt = 3689348814741910323))) (tx_lushr (tx_ladd (tx_land (tx_lsub hy0 (tx_land (tx_lushr hy0 (rfl : (1 : Int32).toInt = 1)) (rfl : (6148914691236517205 : Int64).toInt = 6148914691236517205))) (rfl : (3689348814741910323 : Int64).toInt = 3689348814741910323)) (tx_land (tx_lushr (tx_lsub hy0 (tx_land (tx_lushr hy0 (rfl : (1 : Int32).toInt = 1)) (rfl : (6148914691236517205 : Int64).toInt = 6148914691236517205))) (rfl : (2 : Int32).toInt = 2)) (rfl : (3689348814741910323 : Int64).toInt = 3689348814741910323))) (rfl : (4 : Int32).toInt = 4))) (rfl : (1085102592571150095 : Int64).toInt = 1085102592571150095)) (rfl : (8 : Int32).toInt = 8))) (tx_lushr (tx_ladd (tx_land (tx_ladd (tx_ladd (tx_land (tx_lsub hy0 (tx_land (tx_lushr hy0 (rfl : (1 : Int32).toInt = 1)) (rfl : (6148914691236517205 : Int64).toInt = 6148914691236517205))) (rfl : (3689348814741910323 : Int64).toInt = 3689348814741910323)) (tx_land (tx_lushr (tx_lsub hy0 (tx_land (tx_lushr hy0 (rfl : (1 : Int32).toInt = 1)) (rfl : (6148914691236517205 : Int64).toInt = 6148914691236517205))) (rfl : (2 : Int32).toInt = 2)) (rfl : (3689348814741910323 : Int64).toInt = 3689348814741910323))) (tx_lushr (tx_ladd (tx_land (tx_lsub hy0 (tx_land (tx_lushr hy0 (rfl : (1 : Int32).toInt = 1)) (rfl : (6148914691236517205 : Int64).toInt = 6148914691236517205))) (rfl : (3689348814741910323 : Int64).toInt = 3689348814741910323)) (tx_land (tx_lushr (tx_lsub hy0 (tx_land (tx_lushr hy0 (rfl : (1 : Int32).toInt = 1)) (rfl : (6148914691236517205 : Int64).toInt = 6148914691236517205))) (rfl : (2 : Int32).toInt = 2)) (rfl : (3689348814741910323 : Int64).toInt = 3689348814741910323))) (rfl : (4 : Int32).toInt = 4))) (rfl : (1085102592571150095 : Int64).toInt = 1085102592571150095)) (tx_lushr (tx_land (tx_ladd (tx_ladd (tx_land (tx_lsub hy0 (tx_land (tx_lushr hy0 (rfl : (1 : Int32).toInt = 1)) (rfl : (6148914691236517205 : Int64).toInt = 6148914691236517205))) (rfl : (3689348814741910323 : Int64).toInt = 3689348814741910323)) (tx_land (tx_lushr (tx_lsub hy0 (tx_land (tx_lushr hy0 (rfl : (1 : Int32).toInt = 1)) (rfl : (6148914691236517205 : Int64).toInt = 6148914691236517205))) (rfl : (2 : Int32).toInt = 2)) (rfl : (3689348814741910323 : Int64).toInt = 3689348814741910323))) (tx_lushr (tx_ladd (tx_land (tx_lsub hy0 (tx_land (tx_lushr hy0 (rfl : (1 : Int32).toInt = 1)) (rfl : (6148914691236517205 : Int64).toInt = 6148914691236517205))) (rfl : (3689348814741910323 : Int64).toInt = 3689348814741910323)) (tx_land (tx_lushr (tx_lsub hy0 (tx_land (tx_lushr hy0 (rfl : (1 : Int32).toInt = 1)) (rfl : (6148914691236517205 : Int64).toInt = 6148914691236517205))) (rfl : (2 : Int32).toInt = 2)) (rfl : (3689348814741910323 : Int64).toInt = 3689348814741910323))) (rfl : (4 : Int32).toInt = 4))) (rfl : (1085102592571150095 : Int64).toInt = 1085102592571150095)) (rfl : (8 : Int32).toInt = 8))) (rfl : (16 : Int32).toInt = 16))) (tx_lushr (tx_ladd (tx_ladd (tx_land (tx_ladd (tx_ladd (tx_land (tx_lsub hy0 (tx_land (tx_lushr hy0 (rfl : (1 : Int32).toInt = 1)) (rfl : (6148914691236517205 : Int64).toInt = 6148914691236517205))) (rfl : (3689348814741910323 : Int64).toInt = 3689348814741910323)) (tx_land (tx_lushr (tx_lsub hy0 (tx_land (tx_lushr hy0 (rfl : (1 : Int32).toInt = 1)) (rfl : (6148914691236517205 : Int64).toInt = 6148914691236517205))) (rfl : (2 : Int32).toInt = 2)) (rfl : (3689348814741910323 : Int64).toInt = 3689348814741910323))) (tx_lushr (tx_ladd (tx_land (tx_lsub hy0 (tx_land (tx_lushr hy0 (rfl : (1 : Int32).toInt = 1)) (rfl : (6148914691236517205 : Int64).toInt = 6148914691236517205))) (rfl : (3689348814741910323 : Int64).toInt = 3689348814741910323)) (tx_land (tx_lushr (tx_lsub hy0 (tx_land (tx_lushr hy0 (rfl : (1 : Int32).toInt = 1)) (rfl : (6148914691236517205 : Int64).toInt = 6148914691236517205))) (rfl : (2 : Int32).toInt = 2)) (rfl : (3689348814741910323 : Int64).toInt = 3689348814741910323))) (rfl : (4 : Int32).toInt = 4))) (rfl : (1085102592571150095 : Int64).toInt = 1085102592571150095)) (tx_lushr (tx_land (tx_ladd (tx_ladd (tx_land (tx_lsub hy0 (tx_land (tx_lushr hy0 (rfl : (1 : Int32).toInt = 1)) (rfl : (6148914691236517205 : Int64).toInt = 6148914691236517205))) (rfl : (3689348814741910323 : Int64).toInt = 3689348814741910323)) (tx_land (tx_lushr (tx_lsub hy0 (tx_land (tx_lushr hy0 (rfl : (1 : Int32).toInt = 1)) (rfl : (6148914691236517205 : Int64).toInt = 6148914691236517205))) (rfl : (2 : Int32).toInt = 2)) (rfl : (3689348814741910323 : Int64).toInt = 3689348814741910323))) (tx_lushr (tx_ladd (tx_land (tx_lsub hy0 (tx_land (tx_lushr hy0 (rfl : (1 : Int32).toInt = 1)) (rfl : (6148914691236517205 : Int64).toInt = 6148914691236517205))) (rfl : (3689348814741910323 : Int64).toInt = 3689348814741910323)) (tx_land (tx_lushr (tx_lsub hy0 (tx_land (tx_lushr hy0 (rfl : (1 : Int32).toInt = 1)) (rfl : (6148914691236517205 : Int64).toInt = 6148914691236517205))) (rfl : (2 : Int32).toInt = 2)) (rfl : (3689348814741910323 : Int64).toInt = 3689348814741910323))) (rfl : (4 : Int32).toInt = 4))) (rfl : (1085102592571150095 : Int64).toInt = 1085102592571150095)) (rfl : (8 : Int32).toInt = 8))) (tx_lushr (tx_ladd (tx_land (tx_ladd (tx_ladd (tx_land (tx_lsub hy0 (tx_land (tx_lushr hy0 (rfl : (1 : Int32).toInt = 1)) (rfl : (6148914691236517205 : Int64).toInt = 6148914691236517205))) (rfl : (3689348814741910323 : Int64).toInt = 3689348814741910323)) (tx_land (tx_lushr (tx_lsub hy0 (tx_land (tx_lushr hy0 (rfl : (1 : Int32).toInt = 1)) (rfl : (6148914691236517205 : Int64).toInt = 6148914691236517205))) (rfl : (2 : Int32).toInt = 2)) (rfl : (3689348814741910323 : Int64).toInt = 3689348814741910323))) (tx_lushr (tx_ladd (tx_land (tx_lsub hy0 (tx_land (tx_lushr hy0 (rfl : (1 : Int32).toInt = 1)) (rfl : (6148914691236517205 : Int64).toInt = 6148914691236517205))) (rfl : (3689348814741910323 : Int64).toInt = 3689348814741910323)) (tx_land (tx_lushr (tx_lsub hy0 (tx_land (tx_lushr hy0 (rfl : (1 : Int32).toInt = 1)) (rfl : (6148914691236517205 : Int64).toInt = 6148914691236517205))) (rfl : (2 : Int32).toInt = 2)) (rfl : (3689348814741910323 : Int64).toInt = 3689348814741910323))) (rfl : (4 : Int32).toInt = 4))) (rfl : (1085102592571150095 : Int64).toInt = 1085102592571150095)) (tx_lushr (tx_land (tx_ladd (tx_ladd (tx_land (tx_lsub hy0 (tx_land (tx_lushr hy0 (rfl : (1 : Int32).toInt = 1)) (rfl : (6148914691236517205 : Int64).toInt = 6148914691236517205))) (rfl : (3689348814741910323 : Int64).toInt = 3689348814741910323)) (tx_land (tx_lushr (tx_lsub hy0 (tx_land (tx_lushr hy0 (rfl : (1 : Int32).toInt = 1)) (rfl : (6148914691236517205 : Int64).toInt = 6148914691236517205))) (rfl : (2 : Int32).toInt = 2)) (rfl : (3689348814741910323 : Int64).toInt = 3689348814741910323))) (tx_lushr (tx_ladd (tx_land (tx_lsub hy0 (tx_land (tx_lushr hy0 (rfl : (1 : Int32).toInt = 1)) (rfl : (6148914691236517205 : Int64).toInt = 6148914691236517205))) (rfl : (3689348814741910323 : Int64).toInt = 3689348814741910323)) (tx_land (tx_lushr (tx_lsub hy0 (tx_land (tx_lushr hy0 (rfl : (1 : Int32).toInt = 1)) (rfl : (6148914691236517205 : Int64).toInt = 6148914691236517205))) (rfl : (2 : Int32).toInt = 2)) (rfl : (3689348814741910323 : Int64).toInt = 3689348814741910323))) (rfl : (4 : Int32).toInt = 4))) (rfl : (1085102592571150095 : Int64).toInt = 1085102592571150095)) (rfl : (8 : Int32).toInt = 8))) (rfl : (16 : Int32).toInt = 16))) (rfl : (32 : Int32).toInt = 32)))) (rfl : (127 : Int32).toInt = 127)) rfl H
def g_ca_sizeOf (a0 : Nat) (x1 : Int) (σ : zS) : Option (Int × zS) :=
  (g_so_rowsIn x1 σ).bind fun o_6 =>
  (g_jLong_bitCount o_6.1 o_6.2).bind fun o_9 =>
  some (w32 (1 + o_9.1), o_9.2)
set_option maxHeartbeats 4000000 in
theorem g_ca_sizeOf_ok {xl : Nat} {xs : Nat → Int32} {a0 : Nat} (ha0 : zIn [48, 106] a0 = true) {X1 : Int32} {x1 : Int} (hx1 : X1.toInt = x1) {σ : zS} {p : Nat} {m : zM} {o : Int × zS} (H : zRep xl xs p m σ) (h : g_ca_sizeOf a0 x1 σ = some o) : zGo xl xs (fun p' => p = p') 3 22 0 (z_can 22 0 (lv_args 0 [.ref a0, .int X1])) [] m (vI o.1) o.2 := by
  have hq : z_mth 22 = some z_r22 := rfl
  unfold g_ca_sizeOf at h
  show zGo xl xs (fun p' => p = p') 3 22 0 [(0, .ref a0), (1, .int X1)] [] m (vI o.1) o.2
  refine r_p hq 2 (pc' := 2) (L' := [(0, .ref a0), (1, .int X1)]) (st' := [.ref a0, .int ((1 : Int32))]) rfl ?_
  refine r_gR (b := 41) (pc' := 5) (L' := [(0, .ref a0), (1, .int X1)]) H hq (z_at.mk 3 rfl rfl) rfl (zIn_all (l := [48, 106]) (p := fun a => zQ a 12 0 (100 + 41)) rfl ha0) rfl rfl ?_
  refine r_p hq 1 (pc' := 6) (L' := [(0, .ref a0), (1, .int X1)]) (st' := [.int X1, .ref 41, .int ((1 : Int32))]) rfl ?_
  obtain ⟨o_6, h_6, h⟩ := Option.bind_eq_some_iff.mp h
  refine r_cvL (pc' := 9) (L' := [(0, .ref a0), (1, .int X1)]) (Ps := [.int X1]) (rest := [.int ((1 : Int32))]) hq (z_at.mk 3 rfl rfl) (Or.inl ⟨rfl, rfl⟩) rfl rfl (by decide) (by decide) rfl (Nat.not_lt.mpr (Nat.le_of_ble_eq_true rfl)) rfl rfl (z_cat_le 1 rfl (by decide)) (z_lgl_le 2 rfl (by decide)) (by decide) (H.tg rfl) (by omega) (g_so_rowsIn_ok hx1 H h_6) rfl rfl ?_
  intro R_6 m_6 p_6 e_6 hR_6 H_6
  subst e_6
  obtain ⟨o_9, h_9, h⟩ := Option.bind_eq_some_iff.mp h
  refine r_csI (pc' := 12) (L' := [(0, .ref a0), (1, .int X1)]) (As := [.long R_6]) (rest := [.int ((1 : Int32))]) (j := 287) hq (z_at.mk 3 rfl rfl) (Or.inl ⟨rfl, rfl⟩) rfl rfl (by omega) (g_jLong_bitCount_ok hR_6 H_6 h_9) rfl rfl ?_
  intro R_9 m_9 p_9 e_9 hR_9 H_9
  subst e_9
  refine r_p hq 1 (pc' := 13) (L' := [(0, .ref a0), (1, .int X1)]) (st' := [.int (((1 : Int32)) + R_9)]) rfl ?_
  cases h
  exact r_ri hq (z_at.mk 1 rfl rfl) rfl rfl (tx_iadd (rfl : (1 : Int32).toInt = 1) hR_9) rfl H_9
def g_se_of (a0 : Nat) (x1 : Int) (σ : zS) : Option (Int × zS) :=
  if x1 < 0 then
    some (-1, σ)
  else
    if 7 ≤ x1 then
      some (-1, σ)
    else
      if 0 ≤ x1 ∧ x1 < 7 then
      let v_15 := σ (a0 + 1) x1
      some (v_15, σ)
      else none
set_option maxHeartbeats 4000000 in
theorem g_se_of_ok {xl : Nat} {xs : Nat → Int32} {a0 : Nat} (ha0 : zIn [49, 82, 107, 118] a0 = true) {X1 : Int32} {x1 : Int} (hx1 : X1.toInt = x1) {σ : zS} {p : Nat} {m : zM} {o : Int × zS} (H : zRep xl xs p m σ) (h : g_se_of a0 x1 σ = some o) : zGo xl xs (fun p' => p = p') 1 72 0 (z_can 72 0 (lv_args 0 [.ref a0, .int X1])) [] m (vI o.1) o.2 := by
  have hq : z_mth 72 = some z_r72 := rfl
  unfold g_se_of at h
  show zGo xl xs (fun p' => p = p') 1 72 0 [(0, .ref a0), (1, .int X1)] [] m (vI o.1) o.2
  refine r_p hq 1 (pc' := 1) (L' := [(0, .ref a0), (1, .int X1)]) (st' := [.int X1]) rfl ?_
  rcases z_ite h with ⟨c_1, h⟩ | ⟨c_1, h⟩
  · refine r_t1 (pc' := 19) (L' := []) hq (z_at.mk 3 rfl rfl) rfl hx1 c_1 rfl rfl ?_
    refine r_p hq 1 (pc' := 20) (L' := []) (st' := [.int ((-1 : Int32))]) rfl ?_
    cases h
    exact r_ri hq (z_at.mk 1 rfl rfl) rfl rfl (rfl : (-1 : Int32).toInt = -1) rfl H
  · refine r_f1 (pc' := 4) (L' := [(0, .ref a0), (1, .int X1)]) hq (z_at.mk 3 rfl rfl) rfl hx1 c_1 rfl rfl ?_
    refine r_p hq 2 (pc' := 7) (L' := [(0, .ref a0), (1, .int X1)]) (st' := [.int ((7 : Int32)), .int X1]) rfl ?_
    rcases z_ite h with ⟨c_7, h⟩ | ⟨c_7, h⟩
    · refine r_t2 (pc' := 19) (L' := []) hq (z_at.mk 3 rfl rfl) rfl hx1 (rfl : (7 : Int32).toInt = 7) c_7 rfl rfl ?_
      refine r_p hq 1 (pc' := 20) (L' := []) (st' := [.int ((-1 : Int32))]) rfl ?_
      cases h
      exact r_ri hq (z_at.mk 1 rfl rfl) rfl rfl (rfl : (-1 : Int32).toInt = -1) rfl H
    · refine r_f2 (pc' := 10) (L' := [(0, .ref a0), (1, .int X1)]) hq (z_at.mk 3 rfl rfl) rfl hx1 (rfl : (7 : Int32).toInt = 7) c_7 rfl rfl ?_
      refine r_p hq 1 (pc' := 11) (L' := [(0, .ref a0), (1, .int X1)]) (st' := [.ref a0]) rfl ?_
      refine r_gR (b := a0 + 1) (pc' := 14) (L' := [(0, .ref a0), (1, .int X1)]) H hq (z_at.mk 3 rfl rfl) rfl (zIn_all (l := [49, 82, 107, 118]) (p := fun a => zQ a 16 0 (100 + a + 1)) rfl ha0) rfl rfl ?_
      refine r_p hq 1 (pc' := 15) (L' := [(0, .ref a0), (1, .int X1)]) (st' := [.int X1, .ref (a0 + 1)]) rfl ?_
      obtain ⟨g_15, h⟩ := z_ifo_some h
      refine r_ia (pc' := 16) (L' := [(0, .ref a0), (1, .int X1)]) H hq (z_at.mk 1 rfl rfl) (zIn_all (l := [49, 82, 107, 118]) (p := fun a => zAr (a + 1) 0 7) rfl ha0) hx1 g_15 rfl rfl ?_
      intro V_15 hV_15
      refine r_p hq 1 (pc' := 20) (L' := []) (st' := [.int V_15]) rfl ?_
      cases h
      exact r_ri hq (z_at.mk 1 rfl rfl) rfl rfl hV_15 rfl H
def g_ca_costOf (a0 : Nat) (x1 : Int) (σ : zS) : Option (Int × zS) :=
  (g_se_of (a0 + 1) 0 σ).bind fun o_5 =>
  (g_so_rowsIn x1 o_5.2).bind fun o_13 =>
  (g_jLong_bitCount o_13.1 o_13.2).bind fun o_16 =>
  some (w32 (o_5.1 + o_16.1), o_16.2)
set_option maxHeartbeats 4000000 in
theorem g_ca_costOf_ok {xl : Nat} {xs : Nat → Int32} {a0 : Nat} (ha0 : zIn [48, 106] a0 = true) {X1 : Int32} {x1 : Int} (hx1 : X1.toInt = x1) {σ : zS} {p : Nat} {m : zM} {o : Int × zS} (H : zRep xl xs p m σ) (h : g_ca_costOf a0 x1 σ = some o) : zGo xl xs (fun p' => p = p') 3 23 0 (z_can 23 0 (lv_args 0 [.ref a0, .int X1])) [] m (vI o.1) o.2 := by
  have hq : z_mth 23 = some z_r23 := rfl
  unfold g_ca_costOf at h
  show zGo xl xs (fun p' => p = p') 3 23 0 [(0, .ref a0), (1, .int X1)] [] m (vI o.1) o.2
  refine r_p hq 1 (pc' := 1) (L' := [(0, .ref a0), (1, .int X1)]) (st' := [.ref a0]) rfl ?_
  refine r_gR (b := a0 + 1) (pc' := 4) (L' := [(0, .ref a0), (1, .int X1)]) H hq (z_at.mk 3 rfl rfl) rfl (zIn_all (l := [48, 106]) (p := fun a => zQ a 12 1 (100 + a + 1)) rfl ha0) rfl rfl ?_
  refine r_p hq 1 (pc' := 5) (L' := [(0, .ref a0), (1, .int X1)]) (st' := [.int ((0 : Int32)), .ref (a0 + 1)]) rfl ?_
  obtain ⟨o_5, h_5, h⟩ := Option.bind_eq_some_iff.mp h
  refine r_cvI (pc' := 8) (L' := [(0, .ref a0), (1, .int X1)]) (Ps := [.int ((0 : Int32))]) (rest := []) hq (z_at.mk 3 rfl rfl) (Or.inl ⟨rfl, rfl⟩) rfl rfl (by decide) (by decide) rfl (Nat.not_lt.mpr (Nat.le_of_ble_eq_true rfl)) rfl rfl (z_cat_le 0 rfl (by decide)) (z_lgl_le 2 rfl (by decide)) (by decide) (H.tg (zIn_all (l := [48, 106]) (p := fun a => zT (a + 1) 16) rfl ha0)) (by omega) (g_se_of_ok (zIn_all (l := [48, 106]) (p := fun a => zIn [49, 82, 107, 118] (a + 1)) rfl ha0) (rfl : (0 : Int32).toInt = 0) H h_5) rfl rfl ?_
  intro R_5 m_5 p_5 e_5 hR_5 H_5
  subst e_5
  refine r_p hq 1 (pc' := 9) (L' := [(0, .ref a0), (1, .int X1)]) (st' := [.ref a0, .int R_5]) rfl ?_
  refine r_gR (b := 41) (pc' := 12) (L' := [(0, .ref a0), (1, .int X1)]) H_5 hq (z_at.mk 3 rfl rfl) rfl (zIn_all (l := [48, 106]) (p := fun a => zQ a 12 0 (100 + 41)) rfl ha0) rfl rfl ?_
  refine r_p hq 1 (pc' := 13) (L' := [(0, .ref a0), (1, .int X1)]) (st' := [.int X1, .ref 41, .int R_5]) rfl ?_
  obtain ⟨o_13, h_13, h⟩ := Option.bind_eq_some_iff.mp h
  refine r_cvL (pc' := 16) (L' := [(0, .ref a0), (1, .int X1)]) (Ps := [.int X1]) (rest := [.int R_5]) hq (z_at.mk 3 rfl rfl) (Or.inl ⟨rfl, rfl⟩) rfl rfl (by decide) (by decide) rfl (Nat.not_lt.mpr (Nat.le_of_ble_eq_true rfl)) rfl rfl (z_cat_le 1 rfl (by decide)) (z_lgl_le 2 rfl (by decide)) (by decide) (H_5.tg rfl) (by omega) (g_so_rowsIn_ok hx1 H_5 h_13) rfl rfl ?_
  intro R_13 m_13 p_13 e_13 hR_13 H_13
  subst e_13
  obtain ⟨o_16, h_16, h⟩ := Option.bind_eq_some_iff.mp h
  refine r_csI (pc' := 19) (L' := [(0, .ref a0), (1, .int X1)]) (As := [.long R_13]) (rest := [.int R_5]) (j := 287) hq (z_at.mk 3 rfl rfl) (Or.inl ⟨rfl, rfl⟩) rfl rfl (by omega) (g_jLong_bitCount_ok hR_13 H_13 h_16) rfl rfl ?_
  intro R_16 m_16 p_16 e_16 hR_16 H_16
  subst e_16
  refine r_p hq 1 (pc' := 20) (L' := [(0, .ref a0), (1, .int X1)]) (st' := [.int (R_5 + R_16)]) rfl ?_
  cases h
  exact r_ri hq (z_at.mk 1 rfl rfl) rfl rfl (tx_iadd hR_5 hR_16) rfl H_16
def g_ca_sizes_L7 (a0 : Nat) : Nat → Int → Int → zS → Option (Int × zS)
  | 0, _, _, _ => none
  | n + 1, x1, x2, σ =>
    let v_9 := σ a0 2
    if v_9 ≤ x2 then
      some (x1, σ)
    else
      if 0 ≤ x2 ∧ x2 < 181 then
      let v_25 := σ (a0 + 4) x2
      (g_so_rowsIn v_25 σ).bind fun o_26 =>
      (g_jLong_bitCount o_26.1 o_26.2).bind fun o_29 =>
      (g_ca_sizes_L7 a0 n) (w32 (x1 + o_29.1)) (w32 (x2 + 1)) o_29.2
      else none
set_option maxHeartbeats 4000000 in
theorem g_ca_sizes_L7_ok {xl : Nat} {xs : Nat → Int32} {a0 : Nat} (ha0 : zIn [48, 106] a0 = true) : ∀ (n : Nat) {X1 : Int32} {x1 : Int} {X2 : Int32} {x2 : Int} {σ : zS} {p : Nat} {m : zM} {o : Int × zS}, X1.toInt = x1 → X2.toInt = x2 → zRep xl xs p m σ → g_ca_sizes_L7 a0 n x1 x2 σ = some o → zGo xl xs (fun p' => p = p') 3 24 7 [(0, .ref a0), (1, .int X1), (2, .int X2)] [] m (vI o.1) o.2
  | 0, _, _, _, _, _, _, _, _, _, _, _, h => by cases h
  | n + 1, X1, x1, X2, x2, σ, p, m, o, hx1, hx2, H, h => by
    have hq : z_mth 24 = some z_r24 := rfl
    have ih := fun {X1 : Int32} {x1 : Int} {X2 : Int32} {x2 : Int} {σ : zS} {p : Nat} {m : zM} {o : Int × zS} => g_ca_sizes_L7_ok (xl := xl) (xs := xs) ha0 n (X1 := X1) (x1 := x1) (X2 := X2) (x2 := x2) (σ := σ) (p := p) (m := m) (o := o)
    unfold g_ca_sizes_L7 at h
    refine r_p hq 2 (pc' := 9) (L' := [(0, .ref a0), (1, .int X1), (2, .int X2)]) (st' := [.ref a0, .int X2]) rfl ?_
    refine r_gI (pc' := 12) (L' := [(0, .ref a0), (1, .int X1), (2, .int X2)]) H hq (z_at.mk 3 rfl rfl) rfl (zIn_all (l := [48, 106]) (p := fun a => zQ a 12 2 0) rfl ha0) rfl rfl ?_
    intro V_9 hV_9
    rcases z_ite h with ⟨c_12, h⟩ | ⟨c_12, h⟩
    · refine r_t2 (pc' := 40) (L' := [(0, .ref a0), (1, .int X1), (2, .int X2)]) hq (z_at.mk 3 rfl rfl) rfl hx2 hV_9 c_12 rfl rfl ?_
      refine r_p hq 1 (pc' := 41) (L' := [(0, .ref a0), (1, .int X1), (2, .int X2)]) (st' := [.int X1]) rfl ?_
      cases h
      exact r_ri hq (z_at.mk 1 rfl rfl) rfl rfl hx1 rfl H
    · refine r_f2 (pc' := 15) (L' := [(0, .ref a0), (1, .int X1), (2, .int X2)]) hq (z_at.mk 3 rfl rfl) rfl hx2 hV_9 c_12 rfl rfl ?_
      refine r_p hq 2 (pc' := 17) (L' := [(0, .ref a0), (1, .int X1), (2, .int X2)]) (st' := [.ref a0, .int X1]) rfl ?_
      refine r_gR (b := 41) (pc' := 20) (L' := [(0, .ref a0), (1, .int X1), (2, .int X2)]) H hq (z_at.mk 3 rfl rfl) rfl (zIn_all (l := [48, 106]) (p := fun a => zQ a 12 0 (100 + 41)) rfl ha0) rfl rfl ?_
      refine r_p hq 1 (pc' := 21) (L' := [(0, .ref a0), (1, .int X1), (2, .int X2)]) (st' := [.ref a0, .ref 41, .int X1]) rfl ?_
      refine r_gR (b := a0 + 4) (pc' := 24) (L' := [(0, .ref a0), (1, .int X1), (2, .int X2)]) H hq (z_at.mk 3 rfl rfl) rfl (zIn_all (l := [48, 106]) (p := fun a => zQ a 12 4 (100 + a + 4)) rfl ha0) rfl rfl ?_
      refine r_p hq 1 (pc' := 25) (L' := [(0, .ref a0), (1, .int X1), (2, .int X2)]) (st' := [.int X2, .ref (a0 + 4), .ref 41, .int X1]) rfl ?_
      obtain ⟨g_25, h⟩ := z_ifo_some h
      refine r_ia (pc' := 26) (L' := [(0, .ref a0), (1, .int X1), (2, .int X2)]) H hq (z_at.mk 1 rfl rfl) (zIn_all (l := [48, 106]) (p := fun a => zAr (a + 4) 0 181) rfl ha0) hx2 g_25 rfl rfl ?_
      intro V_25 hV_25
      obtain ⟨o_26, h_26, h⟩ := Option.bind_eq_some_iff.mp h
      refine r_cvL (pc' := 29) (L' := [(0, .ref a0), (1, .int X1), (2, .int X2)]) (Ps := [.int V_25]) (rest := [.int X1]) hq (z_at.mk 3 rfl rfl) (Or.inl ⟨rfl, rfl⟩) rfl rfl (by decide) (by decide) rfl (Nat.not_lt.mpr (Nat.le_of_ble_eq_true rfl)) rfl rfl (z_cat_le 1 rfl (by decide)) (z_lgl_le 2 rfl (by decide)) (by decide) (H.tg rfl) (by omega) (g_so_rowsIn_ok hV_25 H h_26) rfl rfl ?_
      intro R_26 m_26 p_26 e_26 hR_26 H_26
      subst e_26
      obtain ⟨o_29, h_29, h⟩ := Option.bind_eq_some_iff.mp h
      refine r_csI (pc' := 32) (L' := [(0, .ref a0), (1, .int X1), (2, .int X2)]) (As := [.long R_26]) (rest := [.int X1]) (j := 287) hq (z_at.mk 3 rfl rfl) (Or.inl ⟨rfl, rfl⟩) rfl rfl (by omega) (g_jLong_bitCount_ok hR_26 H_26 h_29) rfl rfl ?_
      intro R_29 m_29 p_29 e_29 hR_29 H_29
      subst e_29
      refine r_p hq 4 (pc' := 7) (L' := [(0, .ref a0), (1, .int (X1 + R_29)), (2, .int (X2 + (1 : Int32)))]) (st' := []) rfl ?_
      exact ih (tx_iadd hx1 hR_29) (tx_iadd hx2 (rfl : (1 : Int32).toInt = 1)) H_29 h
def g_ca_sizes (a0 : Nat) (σ : zS) : Option (Int × zS) :=
  let v_1 := σ a0 2
  g_ca_sizes_L7 a0 zK v_1 0 σ
set_option maxHeartbeats 4000000 in
theorem g_ca_sizes_ok {xl : Nat} {xs : Nat → Int32} {a0 : Nat} (ha0 : zIn [48, 106] a0 = true) {σ : zS} {p : Nat} {m : zM} {o : Int × zS} (H : zRep xl xs p m σ) (h : g_ca_sizes a0 σ = some o) : zGo xl xs (fun p' => p = p') 3 24 0 (z_can 24 0 (lv_args 0 [.ref a0])) [] m (vI o.1) o.2 := by
  have hq : z_mth 24 = some z_r24 := rfl
  unfold g_ca_sizes at h
  show zGo xl xs (fun p' => p = p') 3 24 0 [(0, .ref a0)] [] m (vI o.1) o.2
  refine r_p hq 1 (pc' := 1) (L' := [(0, .ref a0)]) (st' := [.ref a0]) rfl ?_
  refine r_gI (pc' := 4) (L' := [(0, .ref a0)]) H hq (z_at.mk 3 rfl rfl) rfl (zIn_all (l := [48, 106]) (p := fun a => zQ a 12 2 0) rfl ha0) rfl rfl ?_
  intro V_1 hV_1
  refine r_p hq 3 (pc' := 7) (L' := [(0, .ref a0), (1, .int V_1), (2, .int ((0 : Int32)))]) (st' := []) rfl ?_
  exact g_ca_sizes_L7_ok ha0 zK hV_1 (rfl : (0 : Int32).toInt = 0) H h
def g_ca_otherBehind_L4 (a0 : Nat) : Nat → Int → Int → zS → Option (Int × zS)
  | 0, _, _, _ => none
  | n + 1, x1, x2, σ =>
    let v_6 := σ a0 2
    if v_6 ≤ x2 then
      some (-1, σ)
    else
      if 0 ≤ x1 ∧ x1 < 181 then
      let v_17 := σ (a0 + 4) x1
      if 0 ≤ x2 ∧ x2 < 181 then
      let v_23 := σ (a0 + 4) x2
      (g_b_join v_17 v_23 σ).bind fun o_24 =>
      if o_24.1 = 0 then
        (g_ca_otherBehind_L4 a0 n) x1 (w32 (x2 + 1)) o_24.2
      else
        some (x2, o_24.2)
      else none
      else none
set_option maxHeartbeats 4000000 in
theorem g_ca_otherBehind_L4_ok {xl : Nat} {xs : Nat → Int32} {a0 : Nat} (ha0 : zIn [48, 106] a0 = true) : ∀ (n : Nat) {X1 : Int32} {x1 : Int} {X2 : Int32} {x2 : Int} {σ : zS} {p : Nat} {m : zM} {o : Int × zS}, X1.toInt = x1 → X2.toInt = x2 → zRep xl xs p m σ → g_ca_otherBehind_L4 a0 n x1 x2 σ = some o → zGo xl xs (fun p' => p = p') 3 34 4 [(0, .ref a0), (1, .int X1), (2, .int X2)] [] m (vI o.1) o.2
  | 0, _, _, _, _, _, _, _, _, _, _, _, h => by cases h
  | n + 1, X1, x1, X2, x2, σ, p, m, o, hx1, hx2, H, h => by
    have hq : z_mth 34 = some z_r34 := rfl
    have ih := fun {X1 : Int32} {x1 : Int} {X2 : Int32} {x2 : Int} {σ : zS} {p : Nat} {m : zM} {o : Int × zS} => g_ca_otherBehind_L4_ok (xl := xl) (xs := xs) ha0 n (X1 := X1) (x1 := x1) (X2 := X2) (x2 := x2) (σ := σ) (p := p) (m := m) (o := o)
    unfold g_ca_otherBehind_L4 at h
    refine r_p hq 2 (pc' := 6) (L' := [(0, .ref a0), (1, .int X1), (2, .int X2)]) (st' := [.ref a0, .int X2]) rfl ?_
    refine r_gI (pc' := 9) (L' := [(0, .ref a0), (1, .int X1), (2, .int X2)]) H hq (z_at.mk 3 rfl rfl) rfl (zIn_all (l := [48, 106]) (p := fun a => zQ a 12 2 0) rfl ha0) rfl rfl ?_
    intro V_6 hV_6
    rcases z_ite h with ⟨c_9, h⟩ | ⟨c_9, h⟩
    · refine r_t2 (pc' := 38) (L' := [(0, .ref a0), (1, .int X1), (2, .int X2)]) hq (z_at.mk 3 rfl rfl) rfl hx2 hV_6 c_9 rfl rfl ?_
      refine r_p hq 1 (pc' := 39) (L' := [(0, .ref a0), (1, .int X1), (2, .int X2)]) (st' := [.int ((-1 : Int32))]) rfl ?_
      cases h
      exact r_ri hq (z_at.mk 1 rfl rfl) rfl rfl (rfl : (-1 : Int32).toInt = -1) rfl H
    · refine r_f2 (pc' := 12) (L' := [(0, .ref a0), (1, .int X1), (2, .int X2)]) hq (z_at.mk 3 rfl rfl) rfl hx2 hV_6 c_9 rfl rfl ?_
      refine r_p hq 1 (pc' := 13) (L' := [(0, .ref a0), (1, .int X1), (2, .int X2)]) (st' := [.ref a0]) rfl ?_
      refine r_gR (b := a0 + 4) (pc' := 16) (L' := [(0, .ref a0), (1, .int X1), (2, .int X2)]) H hq (z_at.mk 3 rfl rfl) rfl (zIn_all (l := [48, 106]) (p := fun a => zQ a 12 4 (100 + a + 4)) rfl ha0) rfl rfl ?_
      refine r_p hq 1 (pc' := 17) (L' := [(0, .ref a0), (1, .int X1), (2, .int X2)]) (st' := [.int X1, .ref (a0 + 4)]) rfl ?_
      obtain ⟨g_17, h⟩ := z_ifo_some h
      refine r_ia (pc' := 18) (L' := [(0, .ref a0), (1, .int X1), (2, .int X2)]) H hq (z_at.mk 1 rfl rfl) (zIn_all (l := [48, 106]) (p := fun a => zAr (a + 4) 0 181) rfl ha0) hx1 g_17 rfl rfl ?_
      intro V_17 hV_17
      refine r_p hq 1 (pc' := 19) (L' := [(0, .ref a0), (1, .int X1), (2, .int X2)]) (st' := [.ref a0, .int V_17]) rfl ?_
      refine r_gR (b := a0 + 4) (pc' := 22) (L' := [(0, .ref a0), (1, .int X1), (2, .int X2)]) H hq (z_at.mk 3 rfl rfl) rfl (zIn_all (l := [48, 106]) (p := fun a => zQ a 12 4 (100 + a + 4)) rfl ha0) rfl rfl ?_
      refine r_p hq 1 (pc' := 23) (L' := [(0, .ref a0), (1, .int X1), (2, .int X2)]) (st' := [.int X2, .ref (a0 + 4), .int V_17]) rfl ?_
      obtain ⟨g_23, h⟩ := z_ifo_some h
      refine r_ia (pc' := 24) (L' := [(0, .ref a0), (1, .int X1), (2, .int X2)]) H hq (z_at.mk 1 rfl rfl) (zIn_all (l := [48, 106]) (p := fun a => zAr (a + 4) 0 181) rfl ha0) hx2 g_23 rfl rfl ?_
      intro V_23 hV_23
      obtain ⟨o_24, h_24, h⟩ := Option.bind_eq_some_iff.mp h
      refine r_csI (pc' := 27) (L' := [(0, .ref a0), (1, .int X1), (2, .int X2)]) (As := [.int V_17, .int V_23]) (rest := []) (j := 12) hq (z_at.mk 3 rfl rfl) (Or.inl ⟨rfl, rfl⟩) rfl rfl (by omega) (g_b_join_ok hV_17 hV_23 H h_24) rfl rfl ?_
      intro R_24 m_24 p_24 e_24 hR_24 H_24
      subst e_24
      rcases z_ite h with ⟨c_27, h⟩ | ⟨c_27, h⟩
      · refine r_t1 (pc' := 32) (L' := [(0, .ref a0), (1, .int X1), (2, .int X2)]) hq (z_at.mk 3 rfl rfl) rfl hR_24 c_27 rfl rfl ?_
        refine r_p hq 2 (pc' := 4) (L' := [(0, .ref a0), (1, .int X1), (2, .int (X2 + (1 : Int32)))]) (st' := []) rfl ?_
        exact ih hx1 (tx_iadd hx2 (rfl : (1 : Int32).toInt = 1)) H_24 h
      · refine r_f1 (pc' := 30) (L' := [(0, .ref a0), (1, .int X1), (2, .int X2)]) hq (z_at.mk 3 rfl rfl) rfl hR_24 c_27 rfl rfl ?_
        refine r_p hq 1 (pc' := 31) (L' := [(0, .ref a0), (1, .int X1), (2, .int X2)]) (st' := [.int X2]) rfl ?_
        cases h
        exact r_ri hq (z_at.mk 1 rfl rfl) rfl rfl hx2 rfl H_24
def g_ca_otherBehind (a0 : Nat) (x1 : Int) (σ : zS) : Option (Int × zS) :=
  g_ca_otherBehind_L4 a0 zK x1 (w32 (x1 + 1)) σ
set_option maxHeartbeats 4000000 in
theorem g_ca_otherBehind_ok {xl : Nat} {xs : Nat → Int32} {a0 : Nat} (ha0 : zIn [48, 106] a0 = true) {X1 : Int32} {x1 : Int} (hx1 : X1.toInt = x1) {σ : zS} {p : Nat} {m : zM} {o : Int × zS} (H : zRep xl xs p m σ) (h : g_ca_otherBehind a0 x1 σ = some o) : zGo xl xs (fun p' => p = p') 3 34 0 (z_can 34 0 (lv_args 0 [.ref a0, .int X1])) [] m (vI o.1) o.2 := by
  have hq : z_mth 34 = some z_r34 := rfl
  unfold g_ca_otherBehind at h
  show zGo xl xs (fun p' => p = p') 3 34 0 [(0, .ref a0), (1, .int X1)] [] m (vI o.1) o.2
  refine r_p hq 4 (pc' := 4) (L' := [(0, .ref a0), (1, .int X1), (2, .int (X1 + ((1 : Int32))))]) (st' := []) rfl ?_
  exact g_ca_otherBehind_L4_ok ha0 zK hx1 (tx_iadd hx1 (rfl : (1 : Int32).toInt = 1)) H h
def g_ca_earliestFor_L2 (a0 : Nat) : Nat → Int → Int → zS → Option (Int × zS)
  | 0, _, _, _ => none
  | n + 1, x1, x2, σ =>
    if x1 ≤ x2 then
      some (x1, σ)
    else
      if 0 ≤ x2 ∧ x2 < 181 then
      let v_12 := σ (a0 + 4) x2
      if 0 ≤ x1 ∧ x1 < 181 then
      let v_18 := σ (a0 + 4) x1
      (g_b_join v_12 v_18 σ).bind fun o_19 =>
      if o_19.1 = 0 then
        (g_ca_earliestFor_L2 a0 n) x1 (w32 (x2 + 1)) o_19.2
      else
        some (x2, o_19.2)
      else none
      else none
set_option maxHeartbeats 4000000 in
theorem g_ca_earliestFor_L2_ok {xl : Nat} {xs : Nat → Int32} {a0 : Nat} (ha0 : zIn [48, 106] a0 = true) : ∀ (n : Nat) {X1 : Int32} {x1 : Int} {X2 : Int32} {x2 : Int} {σ : zS} {p : Nat} {m : zM} {o : Int × zS}, X1.toInt = x1 → X2.toInt = x2 → zRep xl xs p m σ → g_ca_earliestFor_L2 a0 n x1 x2 σ = some o → zGo xl xs (fun p' => p = p') 3 35 2 [(0, .ref a0), (1, .int X1), (2, .int X2)] [] m (vI o.1) o.2
  | 0, _, _, _, _, _, _, _, _, _, _, _, h => by cases h
  | n + 1, X1, x1, X2, x2, σ, p, m, o, hx1, hx2, H, h => by
    have hq : z_mth 35 = some z_r35 := rfl
    have ih := fun {X1 : Int32} {x1 : Int} {X2 : Int32} {x2 : Int} {σ : zS} {p : Nat} {m : zM} {o : Int × zS} => g_ca_earliestFor_L2_ok (xl := xl) (xs := xs) ha0 n (X1 := X1) (x1 := x1) (X2 := X2) (x2 := x2) (σ := σ) (p := p) (m := m) (o := o)
    unfold g_ca_earliestFor_L2 at h
    refine r_p hq 2 (pc' := 4) (L' := [(0, .ref a0), (1, .int X1), (2, .int X2)]) (st' := [.int X1, .int X2]) rfl ?_
    rcases z_ite h with ⟨c_4, h⟩ | ⟨c_4, h⟩
    · refine r_t2 (pc' := 33) (L' := [(0, .ref a0), (1, .int X1), (2, .int X2)]) hq (z_at.mk 3 rfl rfl) rfl hx2 hx1 c_4 rfl rfl ?_
      refine r_p hq 1 (pc' := 34) (L' := [(0, .ref a0), (1, .int X1), (2, .int X2)]) (st' := [.int X1]) rfl ?_
      cases h
      exact r_ri hq (z_at.mk 1 rfl rfl) rfl rfl hx1 rfl H
    · refine r_f2 (pc' := 7) (L' := [(0, .ref a0), (1, .int X1), (2, .int X2)]) hq (z_at.mk 3 rfl rfl) rfl hx2 hx1 c_4 rfl rfl ?_
      refine r_p hq 1 (pc' := 8) (L' := [(0, .ref a0), (1, .int X1), (2, .int X2)]) (st' := [.ref a0]) rfl ?_
      refine r_gR (b := a0 + 4) (pc' := 11) (L' := [(0, .ref a0), (1, .int X1), (2, .int X2)]) H hq (z_at.mk 3 rfl rfl) rfl (zIn_all (l := [48, 106]) (p := fun a => zQ a 12 4 (100 + a + 4)) rfl ha0) rfl rfl ?_
      refine r_p hq 1 (pc' := 12) (L' := [(0, .ref a0), (1, .int X1), (2, .int X2)]) (st' := [.int X2, .ref (a0 + 4)]) rfl ?_
      obtain ⟨g_12, h⟩ := z_ifo_some h
      refine r_ia (pc' := 13) (L' := [(0, .ref a0), (1, .int X1), (2, .int X2)]) H hq (z_at.mk 1 rfl rfl) (zIn_all (l := [48, 106]) (p := fun a => zAr (a + 4) 0 181) rfl ha0) hx2 g_12 rfl rfl ?_
      intro V_12 hV_12
      refine r_p hq 1 (pc' := 14) (L' := [(0, .ref a0), (1, .int X1), (2, .int X2)]) (st' := [.ref a0, .int V_12]) rfl ?_
      refine r_gR (b := a0 + 4) (pc' := 17) (L' := [(0, .ref a0), (1, .int X1), (2, .int X2)]) H hq (z_at.mk 3 rfl rfl) rfl (zIn_all (l := [48, 106]) (p := fun a => zQ a 12 4 (100 + a + 4)) rfl ha0) rfl rfl ?_
      refine r_p hq 1 (pc' := 18) (L' := [(0, .ref a0), (1, .int X1), (2, .int X2)]) (st' := [.int X1, .ref (a0 + 4), .int V_12]) rfl ?_
      obtain ⟨g_18, h⟩ := z_ifo_some h
      refine r_ia (pc' := 19) (L' := [(0, .ref a0), (1, .int X1), (2, .int X2)]) H hq (z_at.mk 1 rfl rfl) (zIn_all (l := [48, 106]) (p := fun a => zAr (a + 4) 0 181) rfl ha0) hx1 g_18 rfl rfl ?_
      intro V_18 hV_18
      obtain ⟨o_19, h_19, h⟩ := Option.bind_eq_some_iff.mp h
      refine r_csI (pc' := 22) (L' := [(0, .ref a0), (1, .int X1), (2, .int X2)]) (As := [.int V_12, .int V_18]) (rest := []) (j := 12) hq (z_at.mk 3 rfl rfl) (Or.inl ⟨rfl, rfl⟩) rfl rfl (by omega) (g_b_join_ok hV_12 hV_18 H h_19) rfl rfl ?_
      intro R_19 m_19 p_19 e_19 hR_19 H_19
      subst e_19
      rcases z_ite h with ⟨c_22, h⟩ | ⟨c_22, h⟩
      · refine r_t1 (pc' := 27) (L' := [(0, .ref a0), (1, .int X1), (2, .int X2)]) hq (z_at.mk 3 rfl rfl) rfl hR_19 c_22 rfl rfl ?_
        refine r_p hq 2 (pc' := 2) (L' := [(0, .ref a0), (1, .int X1), (2, .int (X2 + (1 : Int32)))]) (st' := []) rfl ?_
        exact ih hx1 (tx_iadd hx2 (rfl : (1 : Int32).toInt = 1)) H_19 h
      · refine r_f1 (pc' := 25) (L' := [(0, .ref a0), (1, .int X1), (2, .int X2)]) hq (z_at.mk 3 rfl rfl) rfl hR_19 c_22 rfl rfl ?_
        refine r_p hq 1 (pc' := 26) (L' := [(0, .ref a0), (1, .int X1), (2, .int X2)]) (st' := [.int X2]) rfl ?_
        cases h
        exact r_ri hq (z_at.mk 1 rfl rfl) rfl rfl hx2 rfl H_19
def g_ca_earliestFor (a0 : Nat) (x1 : Int) (σ : zS) : Option (Int × zS) :=
  g_ca_earliestFor_L2 a0 zK x1 0 σ
set_option maxHeartbeats 4000000 in
theorem g_ca_earliestFor_ok {xl : Nat} {xs : Nat → Int32} {a0 : Nat} (ha0 : zIn [48, 106] a0 = true) {X1 : Int32} {x1 : Int} (hx1 : X1.toInt = x1) {σ : zS} {p : Nat} {m : zM} {o : Int × zS} (H : zRep xl xs p m σ) (h : g_ca_earliestFor a0 x1 σ = some o) : zGo xl xs (fun p' => p = p') 3 35 0 (z_can 35 0 (lv_args 0 [.ref a0, .int X1])) [] m (vI o.1) o.2 := by
  have hq : z_mth 35 = some z_r35 := rfl
  unfold g_ca_earliestFor at h
  show zGo xl xs (fun p' => p = p') 3 35 0 [(0, .ref a0), (1, .int X1)] [] m (vI o.1) o.2
  refine r_p hq 2 (pc' := 2) (L' := [(0, .ref a0), (1, .int X1), (2, .int ((0 : Int32)))]) (st' := []) rfl ?_
  exact g_ca_earliestFor_L2_ok ha0 zK hx1 (rfl : (0 : Int32).toInt = 0) H h
def g_ca_remove_L4 (a0 : Nat) : Nat → Int → zS → Option (Unit × zS)
  | 0, _, _ => none
  | n + 1, x2, σ =>
    let v_6 := σ a0 2
    if v_6 ≤ x2 then
      let v_90 := σ a0 2
      let s_95 := zu σ a0 2 (w32 (v_90 - 1))
      some ((), s_95)
    else
      if 0 ≤ x2 ∧ x2 < 181 then
      let v_24 := σ (a0 + 3) x2
      if 0 ≤ w32 (x2 - 1) ∧ w32 (x2 - 1) < 181 then
      let s_25 := zu σ (a0 + 3) (w32 (x2 - 1)) v_24
      if 0 ≤ x2 ∧ x2 < 181 then
      let v_38 := s_25 (a0 + 4) x2
      if 0 ≤ w32 (x2 - 1) ∧ w32 (x2 - 1) < 181 then
      let s_39 := zu s_25 (a0 + 4) (w32 (x2 - 1)) v_38
      if 0 ≤ x2 ∧ x2 < 181 then
      let v_52 := s_39 (a0 + 5) x2
      if 0 ≤ w32 (x2 - 1) ∧ w32 (x2 - 1) < 181 then
      let s_53 := zu s_39 (a0 + 5) (w32 (x2 - 1)) v_52
      if 0 ≤ x2 ∧ x2 < 181 then
      let v_66 := s_53 (a0 + 6) x2
      if 0 ≤ w32 (x2 - 1) ∧ w32 (x2 - 1) < 181 then
      let s_67 := zu s_53 (a0 + 6) (w32 (x2 - 1)) v_66
      if 0 ≤ x2 ∧ x2 < 181 then
      let v_80 := s_67 (a0 + 7) x2
      if 0 ≤ w32 (x2 - 1) ∧ w32 (x2 - 1) < 181 then
      let s_81 := zu s_67 (a0 + 7) (w32 (x2 - 1)) v_80
      (g_ca_remove_L4 a0 n) (w32 (x2 + 1)) s_81
      else none
      else none
      else none
      else none
      else none
      else none
      else none
      else none
      else none
      else none
set_option maxHeartbeats 4000000 in
theorem g_ca_remove_L4_ok {xl : Nat} {xs : Nat → Int32} {a0 : Nat} (ha0 : zIn [48, 106] a0 = true) : ∀ (n : Nat) {X2 : Int32} {x2 : Int} {σ : zS} {p : Nat} {m : zM} {o : Unit × zS}, X2.toInt = x2 → zRep xl xs p m σ → g_ca_remove_L4 a0 n x2 σ = some o → zGo xl xs (fun p' => p = p') 1 32 4 [(0, .ref a0), (2, .int X2)] [] m vV o.2
  | 0, _, _, _, _, _, _, _, _, h => by cases h
  | n + 1, X2, x2, σ, p, m, o, hx2, H, h => by
    have hq : z_mth 32 = some z_r32 := rfl
    have ih := fun {X2 : Int32} {x2 : Int} {σ : zS} {p : Nat} {m : zM} {o : Unit × zS} => g_ca_remove_L4_ok (xl := xl) (xs := xs) ha0 n (X2 := X2) (x2 := x2) (σ := σ) (p := p) (m := m) (o := o)
    unfold g_ca_remove_L4 at h
    refine r_p hq 2 (pc' := 6) (L' := [(0, .ref a0), (2, .int X2)]) (st' := [.ref a0, .int X2]) rfl ?_
    refine r_gI (pc' := 9) (L' := [(0, .ref a0), (2, .int X2)]) H hq (z_at.mk 3 rfl rfl) rfl (zIn_all (l := [48, 106]) (p := fun a => zQ a 12 2 0) rfl ha0) rfl rfl ?_
    intro V_6 hV_6
    rcases z_ite h with ⟨c_9, h⟩ | ⟨c_9, h⟩
    · refine r_t2 (pc' := 88) (L' := [(0, .ref a0), (2, .int X2)]) hq (z_at.mk 3 rfl rfl) rfl hx2 hV_6 c_9 rfl rfl ?_
      refine r_p hq 2 (pc' := 90) (L' := [(0, .ref a0), (2, .int X2)]) (st' := [.ref a0, .ref a0]) rfl ?_
      refine r_gI (pc' := 93) (L' := [(0, .ref a0), (2, .int X2)]) H hq (z_at.mk 3 rfl rfl) rfl (zIn_all (l := [48, 106]) (p := fun a => zQ a 12 2 0) rfl ha0) rfl rfl ?_
      intro V_90 hV_90
      refine r_p hq 2 (pc' := 95) (L' := [(0, .ref a0), (2, .int X2)]) (st' := [.int (V_90 - ((1 : Int32))), .ref a0]) rfl ?_
      refine r_pI (X := V_90 - ((1 : Int32))) (pc' := 98) (L' := [(0, .ref a0), (2, .int X2)]) H hq (z_at.mk 3 rfl rfl) rfl (zIn_all (l := [48, 106]) (p := fun a => zQ a 12 2 0) rfl ha0) (tx_isub hV_90 (rfl : (1 : Int32).toInt = 1)) (by decide) rfl rfl rfl rfl ?_
      intro m_95 H_95
      cases h
      exact r_rv hq (z_at.mk 1 rfl rfl) rfl rfl H_95
    · refine r_f2 (pc' := 12) (L' := [(0, .ref a0), (2, .int X2)]) hq (z_at.mk 3 rfl rfl) rfl hx2 hV_6 c_9 rfl rfl ?_
      refine r_p hq 1 (pc' := 13) (L' := [(0, .ref a0), (2, .int X2)]) (st' := [.ref a0]) rfl ?_
      refine r_gR (b := a0 + 3) (pc' := 16) (L' := [(0, .ref a0), (2, .int X2)]) H hq (z_at.mk 3 rfl rfl) rfl (zIn_all (l := [48, 106]) (p := fun a => zQ a 12 3 (100 + a + 3)) rfl ha0) rfl rfl ?_
      refine r_p hq 4 (pc' := 20) (L' := [(0, .ref a0), (2, .int X2)]) (st' := [.ref a0, .int (X2 - ((1 : Int32))), .ref (a0 + 3)]) rfl ?_
      refine r_gR (b := a0 + 3) (pc' := 23) (L' := [(0, .ref a0), (2, .int X2)]) H hq (z_at.mk 3 rfl rfl) rfl (zIn_all (l := [48, 106]) (p := fun a => zQ a 12 3 (100 + a + 3)) rfl ha0) rfl rfl ?_
      refine r_p hq 1 (pc' := 24) (L' := [(0, .ref a0), (2, .int X2)]) (st' := [.int X2, .ref (a0 + 3), .int (X2 - ((1 : Int32))), .ref (a0 + 3)]) rfl ?_
      obtain ⟨g_24, h⟩ := z_ifo_some h
      refine r_ia (pc' := 25) (L' := [(0, .ref a0), (2, .int X2)]) H hq (z_at.mk 1 rfl rfl) (zIn_all (l := [48, 106]) (p := fun a => zAr (a + 3) 0 181) rfl ha0) hx2 g_24 rfl rfl ?_
      intro V_24 hV_24
      obtain ⟨g_25, h⟩ := z_ifo_some h
      refine r_is (pc' := 26) (L' := [(0, .ref a0), (2, .int X2)]) H hq (z_at.mk 1 rfl rfl) (zIn_all (l := [48, 106]) (p := fun a => zAr (a + 3) 0 181) rfl ha0) (tx_isub hx2 (rfl : (1 : Int32).toInt = 1)) g_25 hV_24 rfl rfl ?_
      intro m_25 H_25
      refine r_p hq 1 (pc' := 27) (L' := [(0, .ref a0), (2, .int X2)]) (st' := [.ref a0]) rfl ?_
      refine r_gR (b := a0 + 4) (pc' := 30) (L' := [(0, .ref a0), (2, .int X2)]) H_25 hq (z_at.mk 3 rfl rfl) rfl (zIn_all (l := [48, 106]) (p := fun a => zQ a 12 4 (100 + a + 4)) rfl ha0) rfl rfl ?_
      refine r_p hq 4 (pc' := 34) (L' := [(0, .ref a0), (2, .int X2)]) (st' := [.ref a0, .int (X2 - ((1 : Int32))), .ref (a0 + 4)]) rfl ?_
      refine r_gR (b := a0 + 4) (pc' := 37) (L' := [(0, .ref a0), (2, .int X2)]) H_25 hq (z_at.mk 3 rfl rfl) rfl (zIn_all (l := [48, 106]) (p := fun a => zQ a 12 4 (100 + a + 4)) rfl ha0) rfl rfl ?_
      refine r_p hq 1 (pc' := 38) (L' := [(0, .ref a0), (2, .int X2)]) (st' := [.int X2, .ref (a0 + 4), .int (X2 - ((1 : Int32))), .ref (a0 + 4)]) rfl ?_
      obtain ⟨g_38, h⟩ := z_ifo_some h
      refine r_ia (pc' := 39) (L' := [(0, .ref a0), (2, .int X2)]) H_25 hq (z_at.mk 1 rfl rfl) (zIn_all (l := [48, 106]) (p := fun a => zAr (a + 4) 0 181) rfl ha0) hx2 g_38 rfl rfl ?_
      intro V_38 hV_38
      obtain ⟨g_39, h⟩ := z_ifo_some h
      refine r_is (pc' := 40) (L' := [(0, .ref a0), (2, .int X2)]) H_25 hq (z_at.mk 1 rfl rfl) (zIn_all (l := [48, 106]) (p := fun a => zAr (a + 4) 0 181) rfl ha0) (tx_isub hx2 (rfl : (1 : Int32).toInt = 1)) g_39 hV_38 rfl rfl ?_
      intro m_39 H_39
      refine r_p hq 1 (pc' := 41) (L' := [(0, .ref a0), (2, .int X2)]) (st' := [.ref a0]) rfl ?_
      refine r_gR (b := a0 + 5) (pc' := 44) (L' := [(0, .ref a0), (2, .int X2)]) H_39 hq (z_at.mk 3 rfl rfl) rfl (zIn_all (l := [48, 106]) (p := fun a => zQ a 12 5 (100 + a + 5)) rfl ha0) rfl rfl ?_
      refine r_p hq 4 (pc' := 48) (L' := [(0, .ref a0), (2, .int X2)]) (st' := [.ref a0, .int (X2 - ((1 : Int32))), .ref (a0 + 5)]) rfl ?_
      refine r_gR (b := a0 + 5) (pc' := 51) (L' := [(0, .ref a0), (2, .int X2)]) H_39 hq (z_at.mk 3 rfl rfl) rfl (zIn_all (l := [48, 106]) (p := fun a => zQ a 12 5 (100 + a + 5)) rfl ha0) rfl rfl ?_
      refine r_p hq 1 (pc' := 52) (L' := [(0, .ref a0), (2, .int X2)]) (st' := [.int X2, .ref (a0 + 5), .int (X2 - ((1 : Int32))), .ref (a0 + 5)]) rfl ?_
      obtain ⟨g_52, h⟩ := z_ifo_some h
      refine r_ia (pc' := 53) (L' := [(0, .ref a0), (2, .int X2)]) H_39 hq (z_at.mk 1 rfl rfl) (zIn_all (l := [48, 106]) (p := fun a => zAr (a + 5) 0 181) rfl ha0) hx2 g_52 rfl rfl ?_
      intro V_52 hV_52
      obtain ⟨g_53, h⟩ := z_ifo_some h
      refine r_is (pc' := 54) (L' := [(0, .ref a0), (2, .int X2)]) H_39 hq (z_at.mk 1 rfl rfl) (zIn_all (l := [48, 106]) (p := fun a => zAr (a + 5) 0 181) rfl ha0) (tx_isub hx2 (rfl : (1 : Int32).toInt = 1)) g_53 hV_52 rfl rfl ?_
      intro m_53 H_53
      refine r_p hq 1 (pc' := 55) (L' := [(0, .ref a0), (2, .int X2)]) (st' := [.ref a0]) rfl ?_
      refine r_gR (b := a0 + 6) (pc' := 58) (L' := [(0, .ref a0), (2, .int X2)]) H_53 hq (z_at.mk 3 rfl rfl) rfl (zIn_all (l := [48, 106]) (p := fun a => zQ a 12 6 (100 + a + 6)) rfl ha0) rfl rfl ?_
      refine r_p hq 4 (pc' := 62) (L' := [(0, .ref a0), (2, .int X2)]) (st' := [.ref a0, .int (X2 - ((1 : Int32))), .ref (a0 + 6)]) rfl ?_
      refine r_gR (b := a0 + 6) (pc' := 65) (L' := [(0, .ref a0), (2, .int X2)]) H_53 hq (z_at.mk 3 rfl rfl) rfl (zIn_all (l := [48, 106]) (p := fun a => zQ a 12 6 (100 + a + 6)) rfl ha0) rfl rfl ?_
      refine r_p hq 1 (pc' := 66) (L' := [(0, .ref a0), (2, .int X2)]) (st' := [.int X2, .ref (a0 + 6), .int (X2 - ((1 : Int32))), .ref (a0 + 6)]) rfl ?_
      obtain ⟨g_66, h⟩ := z_ifo_some h
      refine r_ia (pc' := 67) (L' := [(0, .ref a0), (2, .int X2)]) H_53 hq (z_at.mk 1 rfl rfl) (zIn_all (l := [48, 106]) (p := fun a => zAr (a + 6) 0 181) rfl ha0) hx2 g_66 rfl rfl ?_
      intro V_66 hV_66
      obtain ⟨g_67, h⟩ := z_ifo_some h
      refine r_is (pc' := 68) (L' := [(0, .ref a0), (2, .int X2)]) H_53 hq (z_at.mk 1 rfl rfl) (zIn_all (l := [48, 106]) (p := fun a => zAr (a + 6) 0 181) rfl ha0) (tx_isub hx2 (rfl : (1 : Int32).toInt = 1)) g_67 hV_66 rfl rfl ?_
      intro m_67 H_67
      refine r_p hq 1 (pc' := 69) (L' := [(0, .ref a0), (2, .int X2)]) (st' := [.ref a0]) rfl ?_
      refine r_gR (b := a0 + 7) (pc' := 72) (L' := [(0, .ref a0), (2, .int X2)]) H_67 hq (z_at.mk 3 rfl rfl) rfl (zIn_all (l := [48, 106]) (p := fun a => zQ a 12 7 (100 + a + 7)) rfl ha0) rfl rfl ?_
      refine r_p hq 4 (pc' := 76) (L' := [(0, .ref a0), (2, .int X2)]) (st' := [.ref a0, .int (X2 - ((1 : Int32))), .ref (a0 + 7)]) rfl ?_
      refine r_gR (b := a0 + 7) (pc' := 79) (L' := [(0, .ref a0), (2, .int X2)]) H_67 hq (z_at.mk 3 rfl rfl) rfl (zIn_all (l := [48, 106]) (p := fun a => zQ a 12 7 (100 + a + 7)) rfl ha0) rfl rfl ?_
      refine r_p hq 1 (pc' := 80) (L' := [(0, .ref a0), (2, .int X2)]) (st' := [.int X2, .ref (a0 + 7), .int (X2 - ((1 : Int32))), .ref (a0 + 7)]) rfl ?_
      obtain ⟨g_80, h⟩ := z_ifo_some h
      refine r_la (pc' := 81) (L' := [(0, .ref a0), (2, .int X2)]) H_67 hq (z_at.mk 1 rfl rfl) (zIn_all (l := [48, 106]) (p := fun a => zAr (a + 7) 1 181) rfl ha0) hx2 g_80 rfl rfl ?_
      intro V_80 hV_80
      obtain ⟨g_81, h⟩ := z_ifo_some h
      refine r_ls (pc' := 82) (L' := [(0, .ref a0), (2, .int X2)]) H_67 hq (z_at.mk 1 rfl rfl) (zIn_all (l := [48, 106]) (p := fun a => zAr (a + 7) 1 181) rfl ha0) (tx_isub hx2 (rfl : (1 : Int32).toInt = 1)) g_81 hV_80 rfl rfl ?_
      intro m_81 H_81
      refine r_p hq 2 (pc' := 4) (L' := [(0, .ref a0), (2, .int (X2 + (1 : Int32)))]) (st' := []) rfl ?_
      exact ih (tx_iadd hx2 (rfl : (1 : Int32).toInt = 1)) H_81 h
def g_ca_remove (a0 : Nat) (x1 : Int) (σ : zS) : Option (Unit × zS) :=
  g_ca_remove_L4 a0 zK (w32 (x1 + 1)) σ
set_option maxHeartbeats 4000000 in
theorem g_ca_remove_ok {xl : Nat} {xs : Nat → Int32} {a0 : Nat} (ha0 : zIn [48, 106] a0 = true) {X1 : Int32} {x1 : Int} (hx1 : X1.toInt = x1) {σ : zS} {p : Nat} {m : zM} {o : Unit × zS} (H : zRep xl xs p m σ) (h : g_ca_remove a0 x1 σ = some o) : zGo xl xs (fun p' => p = p') 1 32 0 (z_can 32 0 (lv_args 0 [.ref a0, .int X1])) [] m vV o.2 := by
  have hq : z_mth 32 = some z_r32 := rfl
  unfold g_ca_remove at h
  show zGo xl xs (fun p' => p = p') 1 32 0 [(0, .ref a0), (1, .int X1)] [] m vV o.2
  refine r_p hq 4 (pc' := 4) (L' := [(0, .ref a0), (2, .int (X1 + ((1 : Int32))))]) (st' := []) rfl ?_
  exact g_ca_remove_L4_ok ha0 zK (tx_iadd hx1 (rfl : (1 : Int32).toInt = 1)) H h
def g_jMath_max_290 (y0 : Int) (y2 : Int) (σ : zS) : Option (Int × zS) :=
  if lCmp y0 y2 < 0 then
    some (y2, σ)
  else
    some (y0, σ)
set_option maxHeartbeats 4000000 in
theorem g_jMath_max_290_ok {xl : Nat} {xs : Nat → Int32} {Y0 : Int64} {y0 : Int} (hy0 : Y0.toInt = y0) {Y2 : Int64} {y2 : Int} (hy2 : Y2.toInt = y2) {σ : zS} {p : Nat} {m : zM} {o : Int × zS} (H : zRep xl xs p m σ) (h : g_jMath_max_290 y0 y2 σ = some o) : zGo xl xs (fun p' => p = p') 1 290 0 (z_can 290 0 (lv_args 0 [.long Y0, .long Y2])) [] m (vL o.1) o.2 := by
  have hq : z_mth 290 = some z_r290 := rfl
  unfold g_jMath_max_290 at h
  show zGo xl xs (fun p' => p = p') 1 290 0 [(0, .long Y0), (2, .long Y2)] [] m (vL o.1) o.2
  refine r_p hq 3 (pc' := 3) (L' := [(0, .long Y0), (2, .long Y2)]) (st' := [.int (lg_cmp Y0 Y2)]) rfl ?_
  rcases z_ite h with ⟨c_3, h⟩ | ⟨c_3, h⟩
  · refine r_t1 (pc' := 10) (L' := [(0, .long Y0), (2, .long Y2)]) hq (z_at.mk 3 rfl rfl) rfl (tx_lcmp hy0 hy2) c_3 rfl rfl ?_
    refine r_p hq 1 (pc' := 11) (L' := []) (st' := [.long Y2]) rfl ?_
    cases h
    exact r_rl hq (z_at.mk 1 rfl rfl) rfl hy2 rfl H
  · refine r_f1 (pc' := 6) (L' := [(0, .long Y0), (2, .long Y2)]) hq (z_at.mk 3 rfl rfl) rfl (tx_lcmp hy0 hy2) c_3 rfl rfl ?_
    refine r_p hq 2 (pc' := 11) (L' := []) (st' := [.long Y0]) rfl ?_
    cases h
    exact r_rl hq (z_at.mk 1 rfl rfl) rfl hy0 rfl H
def g_ca_mergeInto (a0 : Nat) (x1 : Int) (x2 : Int) (σ : zS) : Option (Unit × zS) :=
  if 0 ≤ x1 ∧ x1 < 181 then
  let v_10 := σ (a0 + 4) x1
  if 0 ≤ x2 ∧ x2 < 181 then
  let v_16 := σ (a0 + 4) x2
  (g_b_around v_10 v_16 σ).bind fun o_17 =>
  if 0 ≤ x1 ∧ x1 < 181 then
  let s_20 := zu o_17.2 (a0 + 4) x1 o_17.1
  if 0 ≤ x1 ∧ x1 < 181 then
  let v_34 := s_20 (a0 + 5) x1
  if 0 ≤ x2 ∧ x2 < 181 then
  let v_40 := s_20 (a0 + 5) x2
  (g_jMath_min_291 9999 (w32 (v_34 + v_40)) s_20).bind fun o_42 =>
  if 0 ≤ x1 ∧ x1 < 181 then
  let s_45 := zu o_42.2 (a0 + 5) x1 o_42.1
  if 0 ≤ x1 ∧ x1 < 181 then
  let v_56 := s_45 (a0 + 6) x1
  if 0 ≤ x2 ∧ x2 < 181 then
  let v_62 := s_45 (a0 + 6) x2
  (g_b_around v_56 v_62 s_45).bind fun o_63 =>
  if 0 ≤ x1 ∧ x1 < 181 then
  let s_66 := zu o_63.2 (a0 + 6) x1 o_63.1
  if 0 ≤ x1 ∧ x1 < 181 then
  let v_77 := s_66 (a0 + 7) x1
  if 0 ≤ x2 ∧ x2 < 181 then
  let v_83 := s_66 (a0 + 7) x2
  (g_jMath_max_290 v_77 v_83 s_66).bind fun o_84 =>
  if 0 ≤ x1 ∧ x1 < 181 then
  let s_87 := zu o_84.2 (a0 + 7) x1 o_84.1
  (g_ca_remove a0 x2 s_87).bind fun o_90 =>
  let v_95 := o_90.2 a0 14
  let s_100 := zu o_90.2 a0 14 (w32 (v_95 + 1))
  some ((), s_100)
  else none
  else none
  else none
  else none
  else none
  else none
  else none
  else none
  else none
  else none
  else none
  else none
set_option maxHeartbeats 4000000 in
theorem g_ca_mergeInto_ok {xl : Nat} {xs : Nat → Int32} {a0 : Nat} (ha0 : zIn [48, 106] a0 = true) {X1 : Int32} {x1 : Int} (hx1 : X1.toInt = x1) {X2 : Int32} {x2 : Int} (hx2 : X2.toInt = x2) {σ : zS} {p : Nat} {m : zM} {o : Unit × zS} (H : zRep xl xs p m σ) (h : g_ca_mergeInto a0 x1 x2 σ = some o) : zGo xl xs (fun p' => p = p') 3 36 0 (z_can 36 0 (lv_args 0 [.ref a0, .int X1, .int X2])) [] m vV o.2 := by
  have hq : z_mth 36 = some z_r36 := rfl
  unfold g_ca_mergeInto at h
  show zGo xl xs (fun p' => p = p') 3 36 0 [(0, .ref a0), (1, .int X1), (2, .int X2)] [] m vV o.2
  refine r_p hq 1 (pc' := 1) (L' := [(0, .ref a0), (1, .int X1), (2, .int X2)]) (st' := [.ref a0]) rfl ?_
  refine r_gR (b := a0 + 4) (pc' := 4) (L' := [(0, .ref a0), (1, .int X1), (2, .int X2)]) H hq (z_at.mk 3 rfl rfl) rfl (zIn_all (l := [48, 106]) (p := fun a => zQ a 12 4 (100 + a + 4)) rfl ha0) rfl rfl ?_
  refine r_p hq 2 (pc' := 6) (L' := [(0, .ref a0), (1, .int X1), (2, .int X2)]) (st' := [.ref a0, .int X1, .ref (a0 + 4)]) rfl ?_
  refine r_gR (b := a0 + 4) (pc' := 9) (L' := [(0, .ref a0), (1, .int X1), (2, .int X2)]) H hq (z_at.mk 3 rfl rfl) rfl (zIn_all (l := [48, 106]) (p := fun a => zQ a 12 4 (100 + a + 4)) rfl ha0) rfl rfl ?_
  refine r_p hq 1 (pc' := 10) (L' := [(0, .ref a0), (1, .int X1), (2, .int X2)]) (st' := [.int X1, .ref (a0 + 4), .int X1, .ref (a0 + 4)]) rfl ?_
  obtain ⟨g_10, h⟩ := z_ifo_some h
  refine r_ia (pc' := 11) (L' := [(0, .ref a0), (1, .int X1), (2, .int X2)]) H hq (z_at.mk 1 rfl rfl) (zIn_all (l := [48, 106]) (p := fun a => zAr (a + 4) 0 181) rfl ha0) hx1 g_10 rfl rfl ?_
  intro V_10 hV_10
  refine r_p hq 1 (pc' := 12) (L' := [(0, .ref a0), (1, .int X1), (2, .int X2)]) (st' := [.ref a0, .int V_10, .int X1, .ref (a0 + 4)]) rfl ?_
  refine r_gR (b := a0 + 4) (pc' := 15) (L' := [(0, .ref a0), (1, .int X1), (2, .int X2)]) H hq (z_at.mk 3 rfl rfl) rfl (zIn_all (l := [48, 106]) (p := fun a => zQ a 12 4 (100 + a + 4)) rfl ha0) rfl rfl ?_
  refine r_p hq 1 (pc' := 16) (L' := [(0, .ref a0), (1, .int X1), (2, .int X2)]) (st' := [.int X2, .ref (a0 + 4), .int V_10, .int X1, .ref (a0 + 4)]) rfl ?_
  obtain ⟨g_16, h⟩ := z_ifo_some h
  refine r_ia (pc' := 17) (L' := [(0, .ref a0), (1, .int X1), (2, .int X2)]) H hq (z_at.mk 1 rfl rfl) (zIn_all (l := [48, 106]) (p := fun a => zAr (a + 4) 0 181) rfl ha0) hx2 g_16 rfl rfl ?_
  intro V_16 hV_16
  obtain ⟨o_17, h_17, h⟩ := Option.bind_eq_some_iff.mp h
  refine r_csI (pc' := 20) (L' := [(0, .ref a0), (1, .int X1), (2, .int X2)]) (As := [.int V_10, .int V_16]) (rest := [.int X1, .ref (a0 + 4)]) (j := 11) hq (z_at.mk 3 rfl rfl) (Or.inl ⟨rfl, rfl⟩) rfl rfl (by omega) (g_b_around_ok hV_10 hV_16 H h_17) rfl rfl ?_
  intro R_17 m_17 p_17 e_17 hR_17 H_17
  subst e_17
  obtain ⟨g_20, h⟩ := z_ifo_some h
  refine r_is (pc' := 21) (L' := [(0, .ref a0), (1, .int X1), (2, .int X2)]) H_17 hq (z_at.mk 1 rfl rfl) (zIn_all (l := [48, 106]) (p := fun a => zAr (a + 4) 0 181) rfl ha0) hx1 g_20 hR_17 rfl rfl ?_
  intro m_20 H_20
  refine r_p hq 1 (pc' := 22) (L' := [(0, .ref a0), (1, .int X1), (2, .int X2)]) (st' := [.ref a0]) rfl ?_
  refine r_gR (b := a0 + 5) (pc' := 25) (L' := [(0, .ref a0), (1, .int X1), (2, .int X2)]) H_20 hq (z_at.mk 3 rfl rfl) rfl (zIn_all (l := [48, 106]) (p := fun a => zQ a 12 5 (100 + a + 5)) rfl ha0) rfl rfl ?_
  refine r_p hq 3 (pc' := 30) (L' := [(0, .ref a0), (1, .int X1), (2, .int X2)]) (st' := [.ref a0, .int ((9999 : Int32)), .int X1, .ref (a0 + 5)]) rfl ?_
  refine r_gR (b := a0 + 5) (pc' := 33) (L' := [(0, .ref a0), (1, .int X1), (2, .int X2)]) H_20 hq (z_at.mk 3 rfl rfl) rfl (zIn_all (l := [48, 106]) (p := fun a => zQ a 12 5 (100 + a + 5)) rfl ha0) rfl rfl ?_
  refine r_p hq 1 (pc' := 34) (L' := [(0, .ref a0), (1, .int X1), (2, .int X2)]) (st' := [.int X1, .ref (a0 + 5), .int ((9999 : Int32)), .int X1, .ref (a0 + 5)]) rfl ?_
  obtain ⟨g_34, h⟩ := z_ifo_some h
  refine r_ia (pc' := 35) (L' := [(0, .ref a0), (1, .int X1), (2, .int X2)]) H_20 hq (z_at.mk 1 rfl rfl) (zIn_all (l := [48, 106]) (p := fun a => zAr (a + 5) 0 181) rfl ha0) hx1 g_34 rfl rfl ?_
  intro V_34 hV_34
  refine r_p hq 1 (pc' := 36) (L' := [(0, .ref a0), (1, .int X1), (2, .int X2)]) (st' := [.ref a0, .int V_34, .int ((9999 : Int32)), .int X1, .ref (a0 + 5)]) rfl ?_
  refine r_gR (b := a0 + 5) (pc' := 39) (L' := [(0, .ref a0), (1, .int X1), (2, .int X2)]) H_20 hq (z_at.mk 3 rfl rfl) rfl (zIn_all (l := [48, 106]) (p := fun a => zQ a 12 5 (100 + a + 5)) rfl ha0) rfl rfl ?_
  refine r_p hq 1 (pc' := 40) (L' := [(0, .ref a0), (1, .int X1), (2, .int X2)]) (st' := [.int X2, .ref (a0 + 5), .int V_34, .int ((9999 : Int32)), .int X1, .ref (a0 + 5)]) rfl ?_
  obtain ⟨g_40, h⟩ := z_ifo_some h
  refine r_ia (pc' := 41) (L' := [(0, .ref a0), (1, .int X1), (2, .int X2)]) H_20 hq (z_at.mk 1 rfl rfl) (zIn_all (l := [48, 106]) (p := fun a => zAr (a + 5) 0 181) rfl ha0) hx2 g_40 rfl rfl ?_
  intro V_40 hV_40
  refine r_p hq 1 (pc' := 42) (L' := [(0, .ref a0), (1, .int X1), (2, .int X2)]) (st' := [.int (V_34 + V_40), .int ((9999 : Int32)), .int X1, .ref (a0 + 5)]) rfl ?_
  obtain ⟨o_42, h_42, h⟩ := Option.bind_eq_some_iff.mp h
  refine r_csI (pc' := 45) (L' := [(0, .ref a0), (1, .int X1), (2, .int X2)]) (As := [.int ((9999 : Int32)), .int (V_34 + V_40)]) (rest := [.int X1, .ref (a0 + 5)]) (j := 291) hq (z_at.mk 3 rfl rfl) (Or.inl ⟨rfl, rfl⟩) rfl rfl (by omega) (g_jMath_min_291_ok (rfl : (9999 : Int32).toInt = 9999) (tx_iadd hV_34 hV_40) H_20 h_42) rfl rfl ?_
  intro R_42 m_42 p_42 e_42 hR_42 H_42
  subst e_42
  obtain ⟨g_45, h⟩ := z_ifo_some h
  refine r_is (pc' := 46) (L' := [(0, .ref a0), (1, .int X1), (2, .int X2)]) H_42 hq (z_at.mk 1 rfl rfl) (zIn_all (l := [48, 106]) (p := fun a => zAr (a + 5) 0 181) rfl ha0) hx1 g_45 hR_42 rfl rfl ?_
  intro m_45 H_45
  refine r_p hq 1 (pc' := 47) (L' := [(0, .ref a0), (1, .int X1), (2, .int X2)]) (st' := [.ref a0]) rfl ?_
  refine r_gR (b := a0 + 6) (pc' := 50) (L' := [(0, .ref a0), (1, .int X1), (2, .int X2)]) H_45 hq (z_at.mk 3 rfl rfl) rfl (zIn_all (l := [48, 106]) (p := fun a => zQ a 12 6 (100 + a + 6)) rfl ha0) rfl rfl ?_
  refine r_p hq 2 (pc' := 52) (L' := [(0, .ref a0), (1, .int X1), (2, .int X2)]) (st' := [.ref a0, .int X1, .ref (a0 + 6)]) rfl ?_
  refine r_gR (b := a0 + 6) (pc' := 55) (L' := [(0, .ref a0), (1, .int X1), (2, .int X2)]) H_45 hq (z_at.mk 3 rfl rfl) rfl (zIn_all (l := [48, 106]) (p := fun a => zQ a 12 6 (100 + a + 6)) rfl ha0) rfl rfl ?_
  refine r_p hq 1 (pc' := 56) (L' := [(0, .ref a0), (1, .int X1), (2, .int X2)]) (st' := [.int X1, .ref (a0 + 6), .int X1, .ref (a0 + 6)]) rfl ?_
  obtain ⟨g_56, h⟩ := z_ifo_some h
  refine r_ia (pc' := 57) (L' := [(0, .ref a0), (1, .int X1), (2, .int X2)]) H_45 hq (z_at.mk 1 rfl rfl) (zIn_all (l := [48, 106]) (p := fun a => zAr (a + 6) 0 181) rfl ha0) hx1 g_56 rfl rfl ?_
  intro V_56 hV_56
  refine r_p hq 1 (pc' := 58) (L' := [(0, .ref a0), (1, .int X1), (2, .int X2)]) (st' := [.ref a0, .int V_56, .int X1, .ref (a0 + 6)]) rfl ?_
  refine r_gR (b := a0 + 6) (pc' := 61) (L' := [(0, .ref a0), (1, .int X1), (2, .int X2)]) H_45 hq (z_at.mk 3 rfl rfl) rfl (zIn_all (l := [48, 106]) (p := fun a => zQ a 12 6 (100 + a + 6)) rfl ha0) rfl rfl ?_
  refine r_p hq 1 (pc' := 62) (L' := [(0, .ref a0), (1, .int X1), (2, .int X2)]) (st' := [.int X2, .ref (a0 + 6), .int V_56, .int X1, .ref (a0 + 6)]) rfl ?_
  obtain ⟨g_62, h⟩ := z_ifo_some h
  refine r_ia (pc' := 63) (L' := [(0, .ref a0), (1, .int X1), (2, .int X2)]) H_45 hq (z_at.mk 1 rfl rfl) (zIn_all (l := [48, 106]) (p := fun a => zAr (a + 6) 0 181) rfl ha0) hx2 g_62 rfl rfl ?_
  intro V_62 hV_62
  obtain ⟨o_63, h_63, h⟩ := Option.bind_eq_some_iff.mp h
  refine r_csI (pc' := 66) (L' := [(0, .ref a0), (1, .int X1), (2, .int X2)]) (As := [.int V_56, .int V_62]) (rest := [.int X1, .ref (a0 + 6)]) (j := 11) hq (z_at.mk 3 rfl rfl) (Or.inl ⟨rfl, rfl⟩) rfl rfl (by omega) (g_b_around_ok hV_56 hV_62 H_45 h_63) rfl rfl ?_
  intro R_63 m_63 p_63 e_63 hR_63 H_63
  subst e_63
  obtain ⟨g_66, h⟩ := z_ifo_some h
  refine r_is (pc' := 67) (L' := [(0, .ref a0), (1, .int X1), (2, .int X2)]) H_63 hq (z_at.mk 1 rfl rfl) (zIn_all (l := [48, 106]) (p := fun a => zAr (a + 6) 0 181) rfl ha0) hx1 g_66 hR_63 rfl rfl ?_
  intro m_66 H_66
  refine r_p hq 1 (pc' := 68) (L' := [(0, .ref a0), (1, .int X1), (2, .int X2)]) (st' := [.ref a0]) rfl ?_
  refine r_gR (b := a0 + 7) (pc' := 71) (L' := [(0, .ref a0), (1, .int X1), (2, .int X2)]) H_66 hq (z_at.mk 3 rfl rfl) rfl (zIn_all (l := [48, 106]) (p := fun a => zQ a 12 7 (100 + a + 7)) rfl ha0) rfl rfl ?_
  refine r_p hq 2 (pc' := 73) (L' := [(0, .ref a0), (1, .int X1), (2, .int X2)]) (st' := [.ref a0, .int X1, .ref (a0 + 7)]) rfl ?_
  refine r_gR (b := a0 + 7) (pc' := 76) (L' := [(0, .ref a0), (1, .int X1), (2, .int X2)]) H_66 hq (z_at.mk 3 rfl rfl) rfl (zIn_all (l := [48, 106]) (p := fun a => zQ a 12 7 (100 + a + 7)) rfl ha0) rfl rfl ?_
  refine r_p hq 1 (pc' := 77) (L' := [(0, .ref a0), (1, .int X1), (2, .int X2)]) (st' := [.int X1, .ref (a0 + 7), .int X1, .ref (a0 + 7)]) rfl ?_
  obtain ⟨g_77, h⟩ := z_ifo_some h
  refine r_la (pc' := 78) (L' := [(0, .ref a0), (1, .int X1), (2, .int X2)]) H_66 hq (z_at.mk 1 rfl rfl) (zIn_all (l := [48, 106]) (p := fun a => zAr (a + 7) 1 181) rfl ha0) hx1 g_77 rfl rfl ?_
  intro V_77 hV_77
  refine r_p hq 1 (pc' := 79) (L' := [(0, .ref a0), (1, .int X1), (2, .int X2)]) (st' := [.ref a0, .long V_77, .int X1, .ref (a0 + 7)]) rfl ?_
  refine r_gR (b := a0 + 7) (pc' := 82) (L' := [(0, .ref a0), (1, .int X1), (2, .int X2)]) H_66 hq (z_at.mk 3 rfl rfl) rfl (zIn_all (l := [48, 106]) (p := fun a => zQ a 12 7 (100 + a + 7)) rfl ha0) rfl rfl ?_
  refine r_p hq 1 (pc' := 83) (L' := [(0, .ref a0), (1, .int X1), (2, .int X2)]) (st' := [.int X2, .ref (a0 + 7), .long V_77, .int X1, .ref (a0 + 7)]) rfl ?_
  obtain ⟨g_83, h⟩ := z_ifo_some h
  refine r_la (pc' := 84) (L' := [(0, .ref a0), (1, .int X1), (2, .int X2)]) H_66 hq (z_at.mk 1 rfl rfl) (zIn_all (l := [48, 106]) (p := fun a => zAr (a + 7) 1 181) rfl ha0) hx2 g_83 rfl rfl ?_
  intro V_83 hV_83
  obtain ⟨o_84, h_84, h⟩ := Option.bind_eq_some_iff.mp h
  refine r_csL (pc' := 87) (L' := [(0, .ref a0), (1, .int X1), (2, .int X2)]) (As := [.long V_77, .long V_83]) (rest := [.int X1, .ref (a0 + 7)]) (j := 290) hq (z_at.mk 3 rfl rfl) (Or.inl ⟨rfl, rfl⟩) rfl rfl (by omega) (g_jMath_max_290_ok hV_77 hV_83 H_66 h_84) rfl rfl ?_
  intro R_84 m_84 p_84 e_84 hR_84 H_84
  subst e_84
  obtain ⟨g_87, h⟩ := z_ifo_some h
  refine r_ls (pc' := 88) (L' := [(0, .ref a0), (1, .int X1), (2, .int X2)]) H_84 hq (z_at.mk 1 rfl rfl) (zIn_all (l := [48, 106]) (p := fun a => zAr (a + 7) 1 181) rfl ha0) hx1 g_87 hR_84 rfl rfl ?_
  intro m_87 H_87
  refine r_p hq 2 (pc' := 90) (L' := [(0, .ref a0), (1, .int X1), (2, .int X2)]) (st' := [.int X2, .ref a0]) rfl ?_
  obtain ⟨o_90, h_90, h⟩ := Option.bind_eq_some_iff.mp h
  refine r_cvV (pc' := 93) (L' := [(0, .ref a0), (1, .int X1), (2, .int X2)]) (Ps := [.int X2]) (rest := []) hq (z_at.mk 3 rfl rfl) (Or.inl ⟨rfl, rfl⟩) rfl rfl (by decide) (by decide) rfl (Nat.not_lt.mpr (Nat.le_of_ble_eq_true rfl)) rfl rfl (z_cat_le 0 rfl (by decide)) (z_lgl_le 2 rfl (by decide)) (by decide) (H_87.tg (zIn_all (l := [48, 106]) (p := fun a => zT a 12) rfl ha0)) (by omega) (g_ca_remove_ok (zIn_all (l := [48, 106]) (p := fun a => zIn [48, 106] a) rfl ha0) hx2 H_87 h_90) rfl rfl ?_
  intro m_90 p_90 e_90 H_90
  subst e_90
  refine r_p hq 2 (pc' := 95) (L' := [(0, .ref a0), (1, .int X1), (2, .int X2)]) (st' := [.ref a0, .ref a0]) rfl ?_
  refine r_gI (pc' := 98) (L' := [(0, .ref a0), (1, .int X1), (2, .int X2)]) H_90 hq (z_at.mk 3 rfl rfl) rfl (zIn_all (l := [48, 106]) (p := fun a => zQ a 12 14 0) rfl ha0) rfl rfl ?_
  intro V_95 hV_95
  refine r_p hq 2 (pc' := 100) (L' := [(0, .ref a0), (1, .int X1), (2, .int X2)]) (st' := [.int (V_95 + ((1 : Int32))), .ref a0]) rfl ?_
  refine r_pI (X := V_95 + ((1 : Int32))) (pc' := 103) (L' := [(0, .ref a0), (1, .int X1), (2, .int X2)]) H_90 hq (z_at.mk 3 rfl rfl) rfl (zIn_all (l := [48, 106]) (p := fun a => zQ a 12 14 0) rfl ha0) (tx_iadd hV_95 (rfl : (1 : Int32).toInt = 1)) (by decide) rfl rfl rfl rfl ?_
  intro m_100 H_100
  cases h
  exact r_rv hq (z_at.mk 1 rfl rfl) rfl rfl H_100
def g_ca_merge_L57 (a0 : Nat) (g17 : Int → Int → zS → Option (Unit × zS)) (x1 : Int) (x2 : Int) (σ : zS) : Option (Unit × zS) :=
  g17 x1 (w32 (x2 - 1)) σ
set_option maxHeartbeats 4000000 in
theorem g_ca_merge_L57_ok {xl : Nat} {xs : Nat → Int32} {a0 : Nat} (ha0 : zIn [48, 106] a0 = true) {g17 : Int → Int → zS → Option (Unit × zS)} (hg17 : ∀ {X1 : Int32} {x1 : Int} {X2 : Int32} {x2 : Int} {σ : zS} {p : Nat} {m : zM} {o : Unit × zS}, X1.toInt = x1 → X2.toInt = x2 → zRep xl xs p m σ → g17 x1 x2 σ = some o → zGo xl xs (fun p' => p = p') 4 33 17 [(0, .ref a0), (1, .int X1), (2, .int X2)] [] m vV o.2) {X1 : Int32} {x1 : Int} (hx1 : X1.toInt = x1) {X2 : Int32} {x2 : Int} (hx2 : X2.toInt = x2) {σ : zS} {p : Nat} {m : zM} {o : Unit × zS} (H : zRep xl xs p m σ) (h : g_ca_merge_L57 a0 g17 x1 x2 σ = some o) : zGo xl xs (fun p' => p = p') 4 33 57 [(0, .ref a0), (1, .int X1), (2, .int X2)] [] m vV o.2 := by
  have hq : z_mth 33 = some z_r33 := rfl
  unfold g_ca_merge_L57 at h
  refine r_p hq 2 (pc' := 17) (L' := [(0, .ref a0), (1, .int X1), (2, .int (X2 + (-1 : Int32)))]) (st' := []) rfl ?_
  exact hg17 hx1 (tx_iaddn hx2 (rfl : (-1 : Int32).toInt = -1)) H h
def g_ca_merge_L17 (a0 : Nat) : Nat → Int → Int → zS → Option (Unit × zS)
  | 0, _, _, _ => none
  | n + 1, x1, x2, σ =>
    if x2 ≤ 0 then
      some ((), σ)
    else
      let v_23 := σ a0 2
      if v_23 ≤ x1 then
        some ((), σ)
      else
        (g_ca_otherBehind a0 x1 σ).bind fun o_31 =>
        if 0 ≤ o_31.1 then
          (g_ca_mergeInto a0 x1 o_31.1 o_31.2).bind fun o_48 =>
          (g_ca_earliestFor a0 x1 o_48.2).bind fun o_53 =>
          g_ca_merge_L57 a0 ((g_ca_merge_L17 a0 n)) o_53.1 x2 o_53.2
        else
          g_ca_merge_L57 a0 ((g_ca_merge_L17 a0 n)) (w32 (x1 + 1)) x2 o_31.2
set_option maxHeartbeats 4000000 in
theorem g_ca_merge_L17_ok {xl : Nat} {xs : Nat → Int32} {a0 : Nat} (ha0 : zIn [48, 106] a0 = true) : ∀ (n : Nat) {X1 : Int32} {x1 : Int} {X2 : Int32} {x2 : Int} {σ : zS} {p : Nat} {m : zM} {o : Unit × zS}, X1.toInt = x1 → X2.toInt = x2 → zRep xl xs p m σ → g_ca_merge_L17 a0 n x1 x2 σ = some o → zGo xl xs (fun p' => p = p') 4 33 17 [(0, .ref a0), (1, .int X1), (2, .int X2)] [] m vV o.2
  | 0, _, _, _, _, _, _, _, _, _, _, _, h => by cases h
  | n + 1, X1, x1, X2, x2, σ, p, m, o, hx1, hx2, H, h => by
    have hq : z_mth 33 = some z_r33 := rfl
    have ih := fun {X1 : Int32} {x1 : Int} {X2 : Int32} {x2 : Int} {σ : zS} {p : Nat} {m : zM} {o : Unit × zS} => g_ca_merge_L17_ok (xl := xl) (xs := xs) ha0 n (X1 := X1) (x1 := x1) (X2 := X2) (x2 := x2) (σ := σ) (p := p) (m := m) (o := o)
    unfold g_ca_merge_L17 at h
    refine r_p hq 1 (pc' := 18) (L' := [(0, .ref a0), (1, .int X1), (2, .int X2)]) (st' := [.int X2]) rfl ?_
    rcases z_ite h with ⟨c_18, h⟩ | ⟨c_18, h⟩
    · refine r_t1 (pc' := 63) (L' := []) hq (z_at.mk 3 rfl rfl) rfl hx2 c_18 rfl rfl ?_
      cases h
      exact r_rv hq (z_at.mk 1 rfl rfl) rfl rfl H
    · refine r_f1 (pc' := 21) (L' := [(0, .ref a0), (1, .int X1), (2, .int X2)]) hq (z_at.mk 3 rfl rfl) rfl hx2 c_18 rfl rfl ?_
      refine r_p hq 2 (pc' := 23) (L' := [(0, .ref a0), (1, .int X1), (2, .int X2)]) (st' := [.ref a0, .int X1]) rfl ?_
      refine r_gI (pc' := 26) (L' := [(0, .ref a0), (1, .int X1), (2, .int X2)]) H hq (z_at.mk 3 rfl rfl) rfl (zIn_all (l := [48, 106]) (p := fun a => zQ a 12 2 0) rfl ha0) rfl rfl ?_
      intro V_23 hV_23
      rcases z_ite h with ⟨c_26, h⟩ | ⟨c_26, h⟩
      · refine r_t2 (pc' := 63) (L' := []) hq (z_at.mk 3 rfl rfl) rfl hx1 hV_23 c_26 rfl rfl ?_
        cases h
        exact r_rv hq (z_at.mk 1 rfl rfl) rfl rfl H
      · refine r_f2 (pc' := 29) (L' := [(0, .ref a0), (1, .int X1), (2, .int X2)]) hq (z_at.mk 3 rfl rfl) rfl hx1 hV_23 c_26 rfl rfl ?_
        refine r_p hq 2 (pc' := 31) (L' := [(0, .ref a0), (1, .int X1), (2, .int X2)]) (st' := [.int X1, .ref a0]) rfl ?_
        obtain ⟨o_31, h_31, h⟩ := Option.bind_eq_some_iff.mp h
        refine r_cvI (pc' := 34) (L' := [(0, .ref a0), (1, .int X1), (2, .int X2)]) (Ps := [.int X1]) (rest := []) hq (z_at.mk 3 rfl rfl) (Or.inl ⟨rfl, rfl⟩) rfl rfl (by decide) (by decide) rfl (Nat.not_lt.mpr (Nat.le_of_ble_eq_true rfl)) rfl rfl (z_cat_le 0 rfl (by decide)) (z_lgl_le 2 rfl (by decide)) (by decide) (H.tg (zIn_all (l := [48, 106]) (p := fun a => zT a 12) rfl ha0)) (by omega) (g_ca_otherBehind_ok (zIn_all (l := [48, 106]) (p := fun a => zIn [48, 106] a) rfl ha0) hx1 H h_31) rfl rfl ?_
        intro R_31 m_31 p_31 e_31 hR_31 H_31
        subst e_31
        refine r_p hq 2 (pc' := 36) (L' := [(3, .int R_31), (0, .ref a0), (1, .int X1), (2, .int X2)]) (st' := [.int R_31]) rfl ?_
        rcases z_ite h with ⟨c_36, h⟩ | ⟨c_36, h⟩
        · refine r_t1 (pc' := 45) (L' := [(3, .int R_31), (0, .ref a0), (1, .int X1), (2, .int X2)]) hq (z_at.mk 3 rfl rfl) rfl hR_31 c_36 rfl rfl ?_
          refine r_p hq 3 (pc' := 48) (L' := [(3, .int R_31), (0, .ref a0), (1, .int X1), (2, .int X2)]) (st' := [.int R_31, .int X1, .ref a0]) rfl ?_
          obtain ⟨o_48, h_48, h⟩ := Option.bind_eq_some_iff.mp h
          refine r_cvV (pc' := 51) (L' := [(3, .int R_31), (0, .ref a0), (1, .int X1), (2, .int X2)]) (Ps := [.int X1, .int R_31]) (rest := []) hq (z_at.mk 3 rfl rfl) (Or.inl ⟨rfl, rfl⟩) rfl rfl (by decide) (by decide) rfl (Nat.not_lt.mpr (Nat.le_of_ble_eq_true rfl)) rfl rfl (z_cat_le 0 rfl (by decide)) (z_lgl_le 3 rfl (by decide)) (by decide) (H_31.tg (zIn_all (l := [48, 106]) (p := fun a => zT a 12) rfl ha0)) (by omega) (g_ca_mergeInto_ok (zIn_all (l := [48, 106]) (p := fun a => zIn [48, 106] a) rfl ha0) hx1 hR_31 H_31 h_48) rfl rfl ?_
          intro m_48 p_48 e_48 H_48
          subst e_48
          refine r_p hq 2 (pc' := 53) (L' := [(3, .int R_31), (0, .ref a0), (1, .int X1), (2, .int X2)]) (st' := [.int X1, .ref a0]) rfl ?_
          obtain ⟨o_53, h_53, h⟩ := Option.bind_eq_some_iff.mp h
          refine r_cvI (pc' := 56) (L' := [(3, .int R_31), (0, .ref a0), (1, .int X1), (2, .int X2)]) (Ps := [.int X1]) (rest := []) hq (z_at.mk 3 rfl rfl) (Or.inl ⟨rfl, rfl⟩) rfl rfl (by decide) (by decide) rfl (Nat.not_lt.mpr (Nat.le_of_ble_eq_true rfl)) rfl rfl (z_cat_le 0 rfl (by decide)) (z_lgl_le 2 rfl (by decide)) (by decide) (H_48.tg (zIn_all (l := [48, 106]) (p := fun a => zT a 12) rfl ha0)) (by omega) (g_ca_earliestFor_ok (zIn_all (l := [48, 106]) (p := fun a => zIn [48, 106] a) rfl ha0) hx1 H_48 h_53) rfl rfl ?_
          intro R_53 m_53 p_53 e_53 hR_53 H_53
          subst e_53
          refine r_p hq 1 (pc' := 57) (L' := [(0, .ref a0), (1, .int R_53), (2, .int X2)]) (st' := []) rfl ?_
          exact g_ca_merge_L57_ok ha0 ih hR_53 hx2 H_53 h
        · refine r_f1 (pc' := 39) (L' := [(3, .int R_31), (0, .ref a0), (1, .int X1), (2, .int X2)]) hq (z_at.mk 3 rfl rfl) rfl hR_31 c_36 rfl rfl ?_
          refine r_p hq 2 (pc' := 57) (L' := [(0, .ref a0), (1, .int (X1 + (1 : Int32))), (2, .int X2)]) (st' := []) rfl ?_
          exact g_ca_merge_L57_ok ha0 ih (tx_iadd hx1 (rfl : (1 : Int32).toInt = 1)) hx2 H_31 h
def g_ca_merge (a0 : Nat) (σ : zS) : Option (Unit × zS) :=
  (g_se_of (a0 + 1) 4 σ).bind fun o_5 =>
  if o_5.1 ≠ 0 then
    g_ca_merge_L17 a0 zK 0 100000 o_5.2
  else
    some ((), o_5.2)
set_option maxHeartbeats 4000000 in
theorem g_ca_merge_ok {xl : Nat} {xs : Nat → Int32} {a0 : Nat} (ha0 : zIn [48, 106] a0 = true) {σ : zS} {p : Nat} {m : zM} {o : Unit × zS} (H : zRep xl xs p m σ) (h : g_ca_merge a0 σ = some o) : zGo xl xs (fun p' => p = p') 4 33 0 (z_can 33 0 (lv_args 0 [.ref a0])) [] m vV o.2 := by
  have hq : z_mth 33 = some z_r33 := rfl
  unfold g_ca_merge at h
  show zGo xl xs (fun p' => p = p') 4 33 0 [(0, .ref a0)] [] m vV o.2
  refine r_p hq 1 (pc' := 1) (L' := [(0, .ref a0)]) (st' := [.ref a0]) rfl ?_
  refine r_gR (b := a0 + 1) (pc' := 4) (L' := [(0, .ref a0)]) H hq (z_at.mk 3 rfl rfl) rfl (zIn_all (l := [48, 106]) (p := fun a => zQ a 12 1 (100 + a + 1)) rfl ha0) rfl rfl ?_
  refine r_p hq 1 (pc' := 5) (L' := [(0, .ref a0)]) (st' := [.int ((4 : Int32)), .ref (a0 + 1)]) rfl ?_
  obtain ⟨o_5, h_5, h⟩ := Option.bind_eq_some_iff.mp h
  refine r_cvI (pc' := 8) (L' := [(0, .ref a0)]) (Ps := [.int ((4 : Int32))]) (rest := []) hq (z_at.mk 3 rfl rfl) (Or.inl ⟨rfl, rfl⟩) rfl rfl (by decide) (by decide) rfl (Nat.not_lt.mpr (Nat.le_of_ble_eq_true rfl)) rfl rfl (z_cat_le 0 rfl (by decide)) (z_lgl_le 2 rfl (by decide)) (by decide) (H.tg (zIn_all (l := [48, 106]) (p := fun a => zT (a + 1) 16) rfl ha0)) (by omega) (g_se_of_ok (zIn_all (l := [48, 106]) (p := fun a => zIn [49, 82, 107, 118] (a + 1)) rfl ha0) (rfl : (4 : Int32).toInt = 4) H h_5) rfl rfl ?_
  intro R_5 m_5 p_5 e_5 hR_5 H_5
  subst e_5
  rcases z_ite h with ⟨c_8, h⟩ | ⟨c_8, h⟩
  · refine r_t1 (pc' := 12) (L' := [(0, .ref a0)]) hq (z_at.mk 3 rfl rfl) rfl hR_5 c_8 rfl rfl ?_
    refine r_p hq 4 (pc' := 17) (L' := [(0, .ref a0), (1, .int ((0 : Int32))), (2, .int ((100000 : Int32)))]) (st' := []) rfl ?_
    exact g_ca_merge_L17_ok ha0 zK (rfl : (0 : Int32).toInt = 0) (rfl : (100000 : Int32).toInt = 100000) H_5 h
  · refine r_f1 (pc' := 11) (L' := [(0, .ref a0)]) hq (z_at.mk 3 rfl rfl) rfl hR_5 c_8 rfl rfl ?_
    cases h
    exact r_rv hq (z_at.mk 1 rfl rfl) rfl rfl H_5
def g_ca_weigh (a0 : Nat) (x1 : Int) (σ : zS) : Option (Unit × zS) :=
  if 0 ≤ x1 ∧ x1 < 181 then
  let v_9 := σ (a0 + 4) x1
  (g_so_rowsIn v_9 σ).bind fun o_10 =>
  (g_jLong_bitCount o_10.1 o_10.2).bind fun o_13 =>
  (g_se_of (a0 + 1) 0 o_13.2).bind fun o_22 =>
  let v_35 := o_22.2 a0 9
  if 0 ≤ x1 ∧ x1 < 181 then
  let v_49 := o_22.2 (a0 + 5) x1
  if w32 (1 + o_13.1) = 0 then none else
  if 0 ≤ x1 ∧ x1 < 181 then
  let s_59 := zu o_22.2 (a0 + 7) x1 (w64 (v_35 + (w64 (Int.tdiv (w64 ((w64 (1000 * (w32 (o_22.1 + o_13.1)))) * (w32 (1 + v_49)))) (w32 (1 + o_13.1))))))
  some ((), s_59)
  else none
  else none
  else none
set_option maxHeartbeats 4000000 in
theorem g_ca_weigh_ok {xl : Nat} {xs : Nat → Int32} {a0 : Nat} (ha0 : zIn [48, 106] a0 = true) {X1 : Int32} {x1 : Int} (hx1 : X1.toInt = x1) {σ : zS} {p : Nat} {m : zM} {o : Unit × zS} (H : zRep xl xs p m σ) (h : g_ca_weigh a0 x1 σ = some o) : zGo xl xs (fun p' => p = p') 3 28 0 (z_can 28 0 (lv_args 0 [.ref a0, .int X1])) [] m vV o.2 := by
  have hq : z_mth 28 = some z_r28 := rfl
  unfold g_ca_weigh at h
  show zGo xl xs (fun p' => p = p') 3 28 0 [(0, .ref a0), (1, .int X1)] [] m vV o.2
  refine r_p hq 1 (pc' := 1) (L' := [(0, .ref a0), (1, .int X1)]) (st' := [.ref a0]) rfl ?_
  refine r_gR (b := 41) (pc' := 4) (L' := [(0, .ref a0), (1, .int X1)]) H hq (z_at.mk 3 rfl rfl) rfl (zIn_all (l := [48, 106]) (p := fun a => zQ a 12 0 (100 + 41)) rfl ha0) rfl rfl ?_
  refine r_p hq 1 (pc' := 5) (L' := [(0, .ref a0), (1, .int X1)]) (st' := [.ref a0, .ref 41]) rfl ?_
  refine r_gR (b := a0 + 4) (pc' := 8) (L' := [(0, .ref a0), (1, .int X1)]) H hq (z_at.mk 3 rfl rfl) rfl (zIn_all (l := [48, 106]) (p := fun a => zQ a 12 4 (100 + a + 4)) rfl ha0) rfl rfl ?_
  refine r_p hq 1 (pc' := 9) (L' := [(0, .ref a0), (1, .int X1)]) (st' := [.int X1, .ref (a0 + 4), .ref 41]) rfl ?_
  obtain ⟨g_9, h⟩ := z_ifo_some h
  refine r_ia (pc' := 10) (L' := [(0, .ref a0), (1, .int X1)]) H hq (z_at.mk 1 rfl rfl) (zIn_all (l := [48, 106]) (p := fun a => zAr (a + 4) 0 181) rfl ha0) hx1 g_9 rfl rfl ?_
  intro V_9 hV_9
  obtain ⟨o_10, h_10, h⟩ := Option.bind_eq_some_iff.mp h
  refine r_cvL (pc' := 13) (L' := [(0, .ref a0), (1, .int X1)]) (Ps := [.int V_9]) (rest := []) hq (z_at.mk 3 rfl rfl) (Or.inl ⟨rfl, rfl⟩) rfl rfl (by decide) (by decide) rfl (Nat.not_lt.mpr (Nat.le_of_ble_eq_true rfl)) rfl rfl (z_cat_le 0 rfl (by decide)) (z_lgl_le 2 rfl (by decide)) (by decide) (H.tg rfl) (by omega) (g_so_rowsIn_ok hV_9 H h_10) rfl rfl ?_
  intro R_10 m_10 p_10 e_10 hR_10 H_10
  subst e_10
  obtain ⟨o_13, h_13, h⟩ := Option.bind_eq_some_iff.mp h
  refine r_csI (pc' := 16) (L' := [(0, .ref a0), (1, .int X1)]) (As := [.long R_10]) (rest := []) (j := 287) hq (z_at.mk 3 rfl rfl) (Or.inl ⟨rfl, rfl⟩) rfl rfl (by omega) (g_jLong_bitCount_ok hR_10 H_10 h_13) rfl rfl ?_
  intro R_13 m_13 p_13 e_13 hR_13 H_13
  subst e_13
  refine r_p hq 2 (pc' := 18) (L' := [(2, .int R_13), (0, .ref a0), (1, .int X1)]) (st' := [.ref a0]) rfl ?_
  refine r_gR (b := a0 + 1) (pc' := 21) (L' := [(2, .int R_13), (0, .ref a0), (1, .int X1)]) H_13 hq (z_at.mk 3 rfl rfl) rfl (zIn_all (l := [48, 106]) (p := fun a => zQ a 12 1 (100 + a + 1)) rfl ha0) rfl rfl ?_
  refine r_p hq 1 (pc' := 22) (L' := [(2, .int R_13), (0, .ref a0), (1, .int X1)]) (st' := [.int ((0 : Int32)), .ref (a0 + 1)]) rfl ?_
  obtain ⟨o_22, h_22, h⟩ := Option.bind_eq_some_iff.mp h
  refine r_cvI (pc' := 25) (L' := [(2, .int R_13), (0, .ref a0), (1, .int X1)]) (Ps := [.int ((0 : Int32))]) (rest := []) hq (z_at.mk 3 rfl rfl) (Or.inl ⟨rfl, rfl⟩) rfl rfl (by decide) (by decide) rfl (Nat.not_lt.mpr (Nat.le_of_ble_eq_true rfl)) rfl rfl (z_cat_le 0 rfl (by decide)) (z_lgl_le 2 rfl (by decide)) (by decide) (H_13.tg (zIn_all (l := [48, 106]) (p := fun a => zT (a + 1) 16) rfl ha0)) (by omega) (g_se_of_ok (zIn_all (l := [48, 106]) (p := fun a => zIn [49, 82, 107, 118] (a + 1)) rfl ha0) (rfl : (0 : Int32).toInt = 0) H_13 h_22) rfl rfl ?_
  intro R_22 m_22 p_22 e_22 hR_22 H_22
  subst e_22
  refine r_p hq 5 (pc' := 30) (L' := [(3, .long ((R_22 + R_13).toInt64)), (2, .int R_13), (0, .ref a0), (1, .int X1)]) (st' := [.ref a0]) rfl ?_
  refine r_gR (b := a0 + 7) (pc' := 33) (L' := [(3, .long ((R_22 + R_13).toInt64)), (2, .int R_13), (0, .ref a0), (1, .int X1)]) H_22 hq (z_at.mk 3 rfl rfl) rfl (zIn_all (l := [48, 106]) (p := fun a => zQ a 12 7 (100 + a + 7)) rfl ha0) rfl rfl ?_
  refine r_p hq 2 (pc' := 35) (L' := [(3, .long ((R_22 + R_13).toInt64)), (2, .int R_13), (0, .ref a0), (1, .int X1)]) (st' := [.ref a0, .int X1, .ref (a0 + 7)]) rfl ?_
  refine r_gL (pc' := 38) (L' := [(3, .long ((R_22 + R_13).toInt64)), (2, .int R_13), (0, .ref a0), (1, .int X1)]) H_22 hq (z_at.mk 3 rfl rfl) rfl (zIn_all (l := [48, 106]) (p := fun a => zQ a 12 9 1) rfl ha0) rfl rfl ?_
  intro V_35 hV_35
  refine r_p hq 5 (pc' := 45) (L' := [(3, .long ((R_22 + R_13).toInt64)), (2, .int R_13), (0, .ref a0), (1, .int X1)]) (st' := [.ref a0, .int ((1 : Int32)), .long (((1000 : Int64)) * ((R_22 + R_13).toInt64)), .long V_35, .int X1, .ref (a0 + 7)]) rfl ?_
  refine r_gR (b := a0 + 5) (pc' := 48) (L' := [(3, .long ((R_22 + R_13).toInt64)), (2, .int R_13), (0, .ref a0), (1, .int X1)]) H_22 hq (z_at.mk 3 rfl rfl) rfl (zIn_all (l := [48, 106]) (p := fun a => zQ a 12 5 (100 + a + 5)) rfl ha0) rfl rfl ?_
  refine r_p hq 1 (pc' := 49) (L' := [(3, .long ((R_22 + R_13).toInt64)), (2, .int R_13), (0, .ref a0), (1, .int X1)]) (st' := [.int X1, .ref (a0 + 5), .int ((1 : Int32)), .long (((1000 : Int64)) * ((R_22 + R_13).toInt64)), .long V_35, .int X1, .ref (a0 + 7)]) rfl ?_
  obtain ⟨g_49, h⟩ := z_ifo_some h
  refine r_ia (pc' := 50) (L' := [(3, .long ((R_22 + R_13).toInt64)), (2, .int R_13), (0, .ref a0), (1, .int X1)]) H_22 hq (z_at.mk 1 rfl rfl) (zIn_all (l := [48, 106]) (p := fun a => zAr (a + 5) 0 181) rfl ha0) hx1 g_49 rfl rfl ?_
  intro V_49 hV_49
  refine r_p hq 7 (pc' := 57) (L' := [(3, .long ((R_22 + R_13).toInt64)), (2, .int R_13), (0, .ref a0), (1, .int X1)]) (st' := [.long ((((1 : Int32)) + R_13).toInt64), .long ((((1000 : Int64)) * ((R_22 + R_13).toInt64)) * ((((1 : Int32)) + V_49).toInt64)), .long V_35, .int X1, .ref (a0 + 7)]) rfl ?_
  obtain ⟨g_57, h⟩ := z_ifno_some h
  refine r_ldiv (pc' := 58) (L' := [(3, .long ((R_22 + R_13).toInt64)), (2, .int R_13), (0, .ref a0), (1, .int X1)]) hq (z_at.mk 1 rfl rfl) (tx_lmul (tx_lmul (rfl : (1000 : Int64).toInt = 1000) (tx_i2l (tx_iadd hR_22 hR_13))) (tx_i2l (tx_iadd (rfl : (1 : Int32).toInt = 1) hV_49))) (tx_i2l (tx_iadd (rfl : (1 : Int32).toInt = 1) hR_13)) g_57 rfl rfl ?_
  intro V_57 hV_57
  refine r_p hq 1 (pc' := 59) (L' := [(3, .long ((R_22 + R_13).toInt64)), (2, .int R_13), (0, .ref a0), (1, .int X1)]) (st' := [.long (V_35 + V_57), .int X1, .ref (a0 + 7)]) rfl ?_
  obtain ⟨g_59, h⟩ := z_ifo_some h
  refine r_ls (pc' := 60) (L' := [(3, .long ((R_22 + R_13).toInt64)), (2, .int R_13), (0, .ref a0), (1, .int X1)]) H_22 hq (z_at.mk 1 rfl rfl) (zIn_all (l := [48, 106]) (p := fun a => zAr (a + 7) 1 181) rfl ha0) hx1 g_59 (tx_ladd hV_35 hV_57) rfl rfl ?_
  intro m_59 H_59
  cases h
  exact r_rv hq (z_at.mk 1 rfl rfl) rfl rfl H_59
def g_ca_giveUp_L69 (a0 : Nat) (x1 : Int) (σ : zS) : Option (Unit × zS) :=
  (g_ca_remove a0 x1 σ).bind fun o_71 =>
  let v_76 := o_71.2 a0 12
  let s_81 := zu o_71.2 a0 12 (w32 (v_76 + 1))
  some ((), s_81)
set_option maxHeartbeats 4000000 in
theorem g_ca_giveUp_L69_ok {xl : Nat} {xs : Nat → Int32} {a0 : Nat} (ha0 : zIn [48, 106] a0 = true) {X1 : Int32} {x1 : Int} (hx1 : X1.toInt = x1) {σ : zS} {p : Nat} {m : zM} {o : Unit × zS} (H : zRep xl xs p m σ) (h : g_ca_giveUp_L69 a0 x1 σ = some o) : zGo xl xs (fun p' => p = p') 4 40 69 [(0, .ref a0), (1, .int X1)] [] m vV o.2 := by
  have hq : z_mth 40 = some z_r40 := rfl
  unfold g_ca_giveUp_L69 at h
  refine r_p hq 2 (pc' := 71) (L' := [(0, .ref a0), (1, .int X1)]) (st' := [.int X1, .ref a0]) rfl ?_
  obtain ⟨o_71, h_71, h⟩ := Option.bind_eq_some_iff.mp h
  refine r_cvV (pc' := 74) (L' := [(0, .ref a0), (1, .int X1)]) (Ps := [.int X1]) (rest := []) hq (z_at.mk 3 rfl rfl) (Or.inl ⟨rfl, rfl⟩) rfl rfl (by decide) (by decide) rfl (Nat.not_lt.mpr (Nat.le_of_ble_eq_true rfl)) rfl rfl (z_cat_le 0 rfl (by decide)) (z_lgl_le 2 rfl (by decide)) (by decide) (H.tg (zIn_all (l := [48, 106]) (p := fun a => zT a 12) rfl ha0)) (by omega) (g_ca_remove_ok (zIn_all (l := [48, 106]) (p := fun a => zIn [48, 106] a) rfl ha0) hx1 H h_71) rfl rfl ?_
  intro m_71 p_71 e_71 H_71
  subst e_71
  refine r_p hq 2 (pc' := 76) (L' := [(0, .ref a0), (1, .int X1)]) (st' := [.ref a0, .ref a0]) rfl ?_
  refine r_gI (pc' := 79) (L' := [(0, .ref a0), (1, .int X1)]) H_71 hq (z_at.mk 3 rfl rfl) rfl (zIn_all (l := [48, 106]) (p := fun a => zQ a 12 12 0) rfl ha0) rfl rfl ?_
  intro V_76 hV_76
  refine r_p hq 2 (pc' := 81) (L' := [(0, .ref a0), (1, .int X1)]) (st' := [.int (V_76 + ((1 : Int32))), .ref a0]) rfl ?_
  refine r_pI (X := V_76 + ((1 : Int32))) (pc' := 84) (L' := [(0, .ref a0), (1, .int X1)]) H_71 hq (z_at.mk 3 rfl rfl) rfl (zIn_all (l := [48, 106]) (p := fun a => zQ a 12 12 0) rfl ha0) (tx_iadd hV_76 (rfl : (1 : Int32).toInt = 1)) (by decide) rfl rfl rfl rfl ?_
  intro m_81 H_81
  cases h
  exact r_rv hq (z_at.mk 1 rfl rfl) rfl rfl H_81
def g_ca_giveUp_L53 (a0 : Nat) (x1 : Int) (xs0 : Int) (σ : zS) : Option (Unit × zS) :=
  (g_se_of (a0 + 1) 5 σ).bind fun o_59 =>
  if o_59.1 = 0 then
    g_ca_giveUp_L69 a0 x1 o_59.2
  else
    if xs0 ≠ 0 then
      if 0 ≤ x1 ∧ x1 < 181 then
      let v_95 := o_59.2 (a0 + 6) x1
      if 0 ≤ x1 ∧ x1 < 181 then
      let s_96 := zu o_59.2 (a0 + 4) x1 v_95
      if 0 ≤ x1 ∧ x1 < 181 then
      let s_103 := zu s_96 (a0 + 6) x1 (-1)
      if 0 ≤ x1 ∧ x1 < 181 then
      let v_110 := s_103 (a0 + 5) x1
      if 0 ≤ x1 ∧ x1 < 181 then
      let s_113 := zu s_103 (a0 + 5) x1 (w32 (Int.tdiv v_110 2))
      (g_ca_weigh a0 x1 s_113).bind fun o_116 =>
      let v_121 := o_116.2 a0 13
      let s_126 := zu o_116.2 a0 13 (w32 (v_121 + 1))
      some ((), s_126)
      else none
      else none
      else none
      else none
      else none
    else
      g_ca_giveUp_L69 a0 x1 o_59.2
set_option maxHeartbeats 4000000 in
theorem g_ca_giveUp_L53_ok {xl : Nat} {xs : Nat → Int32} {a0 : Nat} (ha0 : zIn [48, 106] a0 = true) {X1 : Int32} {x1 : Int} (hx1 : X1.toInt = x1) {Xs0 : Int32} {xs0 : Int} (hxs0 : Xs0.toInt = xs0) {σ : zS} {p : Nat} {m : zM} {o : Unit × zS} (H : zRep xl xs p m σ) (h : g_ca_giveUp_L53 a0 x1 xs0 σ = some o) : zGo xl xs (fun p' => p = p') 4 40 53 [(0, .ref a0), (1, .int X1)] [.int Xs0] m vV o.2 := by
  have hq : z_mth 40 = some z_r40 := rfl
  unfold g_ca_giveUp_L53 at h
  refine r_p hq 2 (pc' := 55) (L' := [(2, .int Xs0), (0, .ref a0), (1, .int X1)]) (st' := [.ref a0]) rfl ?_
  refine r_gR (b := a0 + 1) (pc' := 58) (L' := [(2, .int Xs0), (0, .ref a0), (1, .int X1)]) H hq (z_at.mk 3 rfl rfl) rfl (zIn_all (l := [48, 106]) (p := fun a => zQ a 12 1 (100 + a + 1)) rfl ha0) rfl rfl ?_
  refine r_p hq 1 (pc' := 59) (L' := [(2, .int Xs0), (0, .ref a0), (1, .int X1)]) (st' := [.int ((5 : Int32)), .ref (a0 + 1)]) rfl ?_
  obtain ⟨o_59, h_59, h⟩ := Option.bind_eq_some_iff.mp h
  refine r_cvI (pc' := 62) (L' := [(2, .int Xs0), (0, .ref a0), (1, .int X1)]) (Ps := [.int ((5 : Int32))]) (rest := []) hq (z_at.mk 3 rfl rfl) (Or.inl ⟨rfl, rfl⟩) rfl rfl (by decide) (by decide) rfl (Nat.not_lt.mpr (Nat.le_of_ble_eq_true rfl)) rfl rfl (z_cat_le 0 rfl (by decide)) (z_lgl_le 2 rfl (by decide)) (by decide) (H.tg (zIn_all (l := [48, 106]) (p := fun a => zT (a + 1) 16) rfl ha0)) (by omega) (g_se_of_ok (zIn_all (l := [48, 106]) (p := fun a => zIn [49, 82, 107, 118] (a + 1)) rfl ha0) (rfl : (5 : Int32).toInt = 5) H h_59) rfl rfl ?_
  intro R_59 m_59 p_59 e_59 hR_59 H_59
  subst e_59
  rcases z_ite h with ⟨c_62, h⟩ | ⟨c_62, h⟩
  · refine r_t1 (pc' := 69) (L' := [(0, .ref a0), (1, .int X1)]) hq (z_at.mk 3 rfl rfl) rfl hR_59 c_62 rfl rfl ?_
    exact g_ca_giveUp_L69_ok ha0 hx1 H_59 h
  · refine r_f1 (pc' := 65) (L' := [(2, .int Xs0), (0, .ref a0), (1, .int X1)]) hq (z_at.mk 3 rfl rfl) rfl hR_59 c_62 rfl rfl ?_
    refine r_p hq 1 (pc' := 66) (L' := [(2, .int Xs0), (0, .ref a0), (1, .int X1)]) (st' := [.int Xs0]) rfl ?_
    rcases z_ite h with ⟨c_66, h⟩ | ⟨c_66, h⟩
    · refine r_t1 (pc' := 85) (L' := [(2, .int Xs0), (0, .ref a0), (1, .int X1)]) hq (z_at.mk 3 rfl rfl) rfl hxs0 c_66 rfl rfl ?_
      refine r_p hq 1 (pc' := 86) (L' := [(2, .int Xs0), (0, .ref a0), (1, .int X1)]) (st' := [.ref a0]) rfl ?_
      refine r_gR (b := a0 + 4) (pc' := 89) (L' := [(2, .int Xs0), (0, .ref a0), (1, .int X1)]) H_59 hq (z_at.mk 3 rfl rfl) rfl (zIn_all (l := [48, 106]) (p := fun a => zQ a 12 4 (100 + a + 4)) rfl ha0) rfl rfl ?_
      refine r_p hq 2 (pc' := 91) (L' := [(2, .int Xs0), (0, .ref a0), (1, .int X1)]) (st' := [.ref a0, .int X1, .ref (a0 + 4)]) rfl ?_
      refine r_gR (b := a0 + 6) (pc' := 94) (L' := [(2, .int Xs0), (0, .ref a0), (1, .int X1)]) H_59 hq (z_at.mk 3 rfl rfl) rfl (zIn_all (l := [48, 106]) (p := fun a => zQ a 12 6 (100 + a + 6)) rfl ha0) rfl rfl ?_
      refine r_p hq 1 (pc' := 95) (L' := [(2, .int Xs0), (0, .ref a0), (1, .int X1)]) (st' := [.int X1, .ref (a0 + 6), .int X1, .ref (a0 + 4)]) rfl ?_
      obtain ⟨g_95, h⟩ := z_ifo_some h
      refine r_ia (pc' := 96) (L' := [(2, .int Xs0), (0, .ref a0), (1, .int X1)]) H_59 hq (z_at.mk 1 rfl rfl) (zIn_all (l := [48, 106]) (p := fun a => zAr (a + 6) 0 181) rfl ha0) hx1 g_95 rfl rfl ?_
      intro V_95 hV_95
      obtain ⟨g_96, h⟩ := z_ifo_some h
      refine r_is (pc' := 97) (L' := [(2, .int Xs0), (0, .ref a0), (1, .int X1)]) H_59 hq (z_at.mk 1 rfl rfl) (zIn_all (l := [48, 106]) (p := fun a => zAr (a + 4) 0 181) rfl ha0) hx1 g_96 hV_95 rfl rfl ?_
      intro m_96 H_96
      refine r_p hq 1 (pc' := 98) (L' := [(2, .int Xs0), (0, .ref a0), (1, .int X1)]) (st' := [.ref a0]) rfl ?_
      refine r_gR (b := a0 + 6) (pc' := 101) (L' := [(2, .int Xs0), (0, .ref a0), (1, .int X1)]) H_96 hq (z_at.mk 3 rfl rfl) rfl (zIn_all (l := [48, 106]) (p := fun a => zQ a 12 6 (100 + a + 6)) rfl ha0) rfl rfl ?_
      refine r_p hq 2 (pc' := 103) (L' := [(2, .int Xs0), (0, .ref a0), (1, .int X1)]) (st' := [.int ((-1 : Int32)), .int X1, .ref (a0 + 6)]) rfl ?_
      obtain ⟨g_103, h⟩ := z_ifo_some h
      refine r_is (pc' := 104) (L' := [(2, .int Xs0), (0, .ref a0), (1, .int X1)]) H_96 hq (z_at.mk 1 rfl rfl) (zIn_all (l := [48, 106]) (p := fun a => zAr (a + 6) 0 181) rfl ha0) hx1 g_103 (rfl : (-1 : Int32).toInt = -1) rfl rfl ?_
      intro m_103 H_103
      refine r_p hq 1 (pc' := 105) (L' := [(2, .int Xs0), (0, .ref a0), (1, .int X1)]) (st' := [.ref a0]) rfl ?_
      refine r_gR (b := a0 + 5) (pc' := 108) (L' := [(2, .int Xs0), (0, .ref a0), (1, .int X1)]) H_103 hq (z_at.mk 3 rfl rfl) rfl (zIn_all (l := [48, 106]) (p := fun a => zQ a 12 5 (100 + a + 5)) rfl ha0) rfl rfl ?_
      refine r_p hq 2 (pc' := 110) (L' := [(2, .int Xs0), (0, .ref a0), (1, .int X1)]) (st' := [.int X1, .ref (a0 + 5), .int X1, .ref (a0 + 5)]) rfl ?_
      obtain ⟨g_110, h⟩ := z_ifo_some h
      refine r_ia (pc' := 111) (L' := [(2, .int Xs0), (0, .ref a0), (1, .int X1)]) H_103 hq (z_at.mk 1 rfl rfl) (zIn_all (l := [48, 106]) (p := fun a => zAr (a + 5) 0 181) rfl ha0) hx1 g_110 rfl rfl ?_
      intro V_110 hV_110
      refine r_p hq 1 (pc' := 112) (L' := [(2, .int Xs0), (0, .ref a0), (1, .int X1)]) (st' := [.int ((2 : Int32)), .int V_110, .int X1, .ref (a0 + 5)]) rfl ?_
      refine r_idiv (pc' := 113) (L' := [(2, .int Xs0), (0, .ref a0), (1, .int X1)]) hq (z_at.mk 1 rfl rfl) hV_110 (rfl : (2 : Int32).toInt = 2) (by decide) rfl rfl ?_
      intro V_112 hV_112
      obtain ⟨g_113, h⟩ := z_ifo_some h
      refine r_is (pc' := 114) (L' := [(2, .int Xs0), (0, .ref a0), (1, .int X1)]) H_103 hq (z_at.mk 1 rfl rfl) (zIn_all (l := [48, 106]) (p := fun a => zAr (a + 5) 0 181) rfl ha0) hx1 g_113 hV_112 rfl rfl ?_
      intro m_113 H_113
      refine r_p hq 2 (pc' := 116) (L' := [(2, .int Xs0), (0, .ref a0), (1, .int X1)]) (st' := [.int X1, .ref a0]) rfl ?_
      obtain ⟨o_116, h_116, h⟩ := Option.bind_eq_some_iff.mp h
      refine r_cvV (pc' := 119) (L' := [(2, .int Xs0), (0, .ref a0), (1, .int X1)]) (Ps := [.int X1]) (rest := []) hq (z_at.mk 3 rfl rfl) (Or.inl ⟨rfl, rfl⟩) rfl rfl (by decide) (by decide) rfl (Nat.not_lt.mpr (Nat.le_of_ble_eq_true rfl)) rfl rfl (z_cat_le 0 rfl (by decide)) (z_lgl_le 2 rfl (by decide)) (by decide) (H_113.tg (zIn_all (l := [48, 106]) (p := fun a => zT a 12) rfl ha0)) (by omega) (g_ca_weigh_ok (zIn_all (l := [48, 106]) (p := fun a => zIn [48, 106] a) rfl ha0) hx1 H_113 h_116) rfl rfl ?_
      intro m_116 p_116 e_116 H_116
      subst e_116
      refine r_p hq 2 (pc' := 121) (L' := [(2, .int Xs0), (0, .ref a0), (1, .int X1)]) (st' := [.ref a0, .ref a0]) rfl ?_
      refine r_gI (pc' := 124) (L' := [(2, .int Xs0), (0, .ref a0), (1, .int X1)]) H_116 hq (z_at.mk 3 rfl rfl) rfl (zIn_all (l := [48, 106]) (p := fun a => zQ a 12 13 0) rfl ha0) rfl rfl ?_
      intro V_121 hV_121
      refine r_p hq 2 (pc' := 126) (L' := [(2, .int Xs0), (0, .ref a0), (1, .int X1)]) (st' := [.int (V_121 + ((1 : Int32))), .ref a0]) rfl ?_
      refine r_pI (X := V_121 + ((1 : Int32))) (pc' := 129) (L' := [(2, .int Xs0), (0, .ref a0), (1, .int X1)]) H_116 hq (z_at.mk 3 rfl rfl) rfl (zIn_all (l := [48, 106]) (p := fun a => zQ a 12 13 0) rfl ha0) (tx_iadd hV_121 (rfl : (1 : Int32).toInt = 1)) (by decide) rfl rfl rfl rfl ?_
      intro m_126 H_126
      cases h
      exact r_rv hq (z_at.mk 1 rfl rfl) rfl rfl H_126
    · refine r_f1 (pc' := 69) (L' := [(0, .ref a0), (1, .int X1)]) hq (z_at.mk 3 rfl rfl) rfl hxs0 c_66 rfl rfl ?_
      exact g_ca_giveUp_L69_ok ha0 hx1 H_59 h
def g_ca_giveUp_L52 (a0 : Nat) (x1 : Int) (σ : zS) : Option (Unit × zS) :=
  g_ca_giveUp_L53 a0 x1 0 σ
set_option maxHeartbeats 4000000 in
theorem g_ca_giveUp_L52_ok {xl : Nat} {xs : Nat → Int32} {a0 : Nat} (ha0 : zIn [48, 106] a0 = true) {X1 : Int32} {x1 : Int} (hx1 : X1.toInt = x1) {σ : zS} {p : Nat} {m : zM} {o : Unit × zS} (H : zRep xl xs p m σ) (h : g_ca_giveUp_L52 a0 x1 σ = some o) : zGo xl xs (fun p' => p = p') 4 40 52 [(0, .ref a0), (1, .int X1)] [] m vV o.2 := by
  have hq : z_mth 40 = some z_r40 := rfl
  unfold g_ca_giveUp_L52 at h
  refine r_p hq 1 (pc' := 53) (L' := [(0, .ref a0), (1, .int X1)]) (st' := [.int ((0 : Int32))]) rfl ?_
  exact g_ca_giveUp_L53_ok ha0 hx1 (rfl : (0 : Int32).toInt = 0) H h
def g_ca_giveUp (a0 : Nat) (x1 : Int) (σ : zS) : Option (Unit × zS) :=
  let v_2 := σ a0 9
  if 0 ≤ x1 ∧ x1 < 181 then
  let v_10 := σ (a0 + 7) x1
  (g_jMath_max_290 v_2 v_10 σ).bind fun o_11 =>
  let s_14 := zu o_11.2 a0 9 o_11.1
  if 0 ≤ x1 ∧ x1 < 181 then
  let v_22 := s_14 (a0 + 6) x1
  if v_22 = -1 then
    g_ca_giveUp_L52 a0 x1 s_14
  else
    if 0 ≤ x1 ∧ x1 < 181 then
    let v_32 := s_14 (a0 + 6) x1
    (g_b_area v_32 s_14).bind fun o_33 =>
    if 0 ≤ x1 ∧ x1 < 181 then
    let v_41 := o_33.2 (a0 + 4) x1
    (g_b_area v_41 o_33.2).bind fun o_42 =>
    if o_42.1 ≤ o_33.1 then
      g_ca_giveUp_L52 a0 x1 o_42.2
    else
      g_ca_giveUp_L53 a0 x1 1 o_42.2
    else none
    else none
  else none
  else none
set_option maxHeartbeats 4000000 in
theorem g_ca_giveUp_ok {xl : Nat} {xs : Nat → Int32} {a0 : Nat} (ha0 : zIn [48, 106] a0 = true) {X1 : Int32} {x1 : Int} (hx1 : X1.toInt = x1) {σ : zS} {p : Nat} {m : zM} {o : Unit × zS} (H : zRep xl xs p m σ) (h : g_ca_giveUp a0 x1 σ = some o) : zGo xl xs (fun p' => p = p') 4 40 0 (z_can 40 0 (lv_args 0 [.ref a0, .int X1])) [] m vV o.2 := by
  have hq : z_mth 40 = some z_r40 := rfl
  unfold g_ca_giveUp at h
  show zGo xl xs (fun p' => p = p') 4 40 0 [(0, .ref a0), (1, .int X1)] [] m vV o.2
  refine r_p hq 2 (pc' := 2) (L' := [(0, .ref a0), (1, .int X1)]) (st' := [.ref a0, .ref a0]) rfl ?_
  refine r_gL (pc' := 5) (L' := [(0, .ref a0), (1, .int X1)]) H hq (z_at.mk 3 rfl rfl) rfl (zIn_all (l := [48, 106]) (p := fun a => zQ a 12 9 1) rfl ha0) rfl rfl ?_
  intro V_2 hV_2
  refine r_p hq 1 (pc' := 6) (L' := [(0, .ref a0), (1, .int X1)]) (st' := [.ref a0, .long V_2, .ref a0]) rfl ?_
  refine r_gR (b := a0 + 7) (pc' := 9) (L' := [(0, .ref a0), (1, .int X1)]) H hq (z_at.mk 3 rfl rfl) rfl (zIn_all (l := [48, 106]) (p := fun a => zQ a 12 7 (100 + a + 7)) rfl ha0) rfl rfl ?_
  refine r_p hq 1 (pc' := 10) (L' := [(0, .ref a0), (1, .int X1)]) (st' := [.int X1, .ref (a0 + 7), .long V_2, .ref a0]) rfl ?_
  obtain ⟨g_10, h⟩ := z_ifo_some h
  refine r_la (pc' := 11) (L' := [(0, .ref a0), (1, .int X1)]) H hq (z_at.mk 1 rfl rfl) (zIn_all (l := [48, 106]) (p := fun a => zAr (a + 7) 1 181) rfl ha0) hx1 g_10 rfl rfl ?_
  intro V_10 hV_10
  obtain ⟨o_11, h_11, h⟩ := Option.bind_eq_some_iff.mp h
  refine r_csL (pc' := 14) (L' := [(0, .ref a0), (1, .int X1)]) (As := [.long V_2, .long V_10]) (rest := [.ref a0]) (j := 290) hq (z_at.mk 3 rfl rfl) (Or.inl ⟨rfl, rfl⟩) rfl rfl (by omega) (g_jMath_max_290_ok hV_2 hV_10 H h_11) rfl rfl ?_
  intro R_11 m_11 p_11 e_11 hR_11 H_11
  subst e_11
  refine r_pL (X := R_11) (pc' := 17) (L' := [(0, .ref a0), (1, .int X1)]) H_11 hq (z_at.mk 3 rfl rfl) rfl (zIn_all (l := [48, 106]) (p := fun a => zQ a 12 9 1) rfl ha0) hR_11 (by decide) rfl rfl rfl rfl ?_
  intro m_14 H_14
  refine r_p hq 1 (pc' := 18) (L' := [(0, .ref a0), (1, .int X1)]) (st' := [.ref a0]) rfl ?_
  refine r_gR (b := a0 + 6) (pc' := 21) (L' := [(0, .ref a0), (1, .int X1)]) H_14 hq (z_at.mk 3 rfl rfl) rfl (zIn_all (l := [48, 106]) (p := fun a => zQ a 12 6 (100 + a + 6)) rfl ha0) rfl rfl ?_
  refine r_p hq 1 (pc' := 22) (L' := [(0, .ref a0), (1, .int X1)]) (st' := [.int X1, .ref (a0 + 6)]) rfl ?_
  obtain ⟨g_22, h⟩ := z_ifo_some h
  refine r_ia (pc' := 23) (L' := [(0, .ref a0), (1, .int X1)]) H_14 hq (z_at.mk 1 rfl rfl) (zIn_all (l := [48, 106]) (p := fun a => zAr (a + 6) 0 181) rfl ha0) hx1 g_22 rfl rfl ?_
  intro V_22 hV_22
  refine r_p hq 1 (pc' := 24) (L' := [(0, .ref a0), (1, .int X1)]) (st' := [.int ((-1 : Int32)), .int V_22]) rfl ?_
  rcases z_ite h with ⟨c_24, h⟩ | ⟨c_24, h⟩
  · refine r_t2 (pc' := 52) (L' := [(0, .ref a0), (1, .int X1)]) hq (z_at.mk 3 rfl rfl) rfl hV_22 (rfl : (-1 : Int32).toInt = -1) c_24 rfl rfl ?_
    exact g_ca_giveUp_L52_ok ha0 hx1 H_14 h
  · refine r_f2 (pc' := 27) (L' := [(0, .ref a0), (1, .int X1)]) hq (z_at.mk 3 rfl rfl) rfl hV_22 (rfl : (-1 : Int32).toInt = -1) c_24 rfl rfl ?_
    refine r_p hq 1 (pc' := 28) (L' := [(0, .ref a0), (1, .int X1)]) (st' := [.ref a0]) rfl ?_
    refine r_gR (b := a0 + 6) (pc' := 31) (L' := [(0, .ref a0), (1, .int X1)]) H_14 hq (z_at.mk 3 rfl rfl) rfl (zIn_all (l := [48, 106]) (p := fun a => zQ a 12 6 (100 + a + 6)) rfl ha0) rfl rfl ?_
    refine r_p hq 1 (pc' := 32) (L' := [(0, .ref a0), (1, .int X1)]) (st' := [.int X1, .ref (a0 + 6)]) rfl ?_
    obtain ⟨g_32, h⟩ := z_ifo_some h
    refine r_ia (pc' := 33) (L' := [(0, .ref a0), (1, .int X1)]) H_14 hq (z_at.mk 1 rfl rfl) (zIn_all (l := [48, 106]) (p := fun a => zAr (a + 6) 0 181) rfl ha0) hx1 g_32 rfl rfl ?_
    intro V_32 hV_32
    obtain ⟨o_33, h_33, h⟩ := Option.bind_eq_some_iff.mp h
    refine r_csI (pc' := 36) (L' := [(0, .ref a0), (1, .int X1)]) (As := [.int V_32]) (rest := []) (j := 8) hq (z_at.mk 3 rfl rfl) (Or.inl ⟨rfl, rfl⟩) rfl rfl (by omega) (g_b_area_ok hV_32 H_14 h_33) rfl rfl ?_
    intro R_33 m_33 p_33 e_33 hR_33 H_33
    subst e_33
    refine r_p hq 1 (pc' := 37) (L' := [(0, .ref a0), (1, .int X1)]) (st' := [.ref a0, .int R_33]) rfl ?_
    refine r_gR (b := a0 + 4) (pc' := 40) (L' := [(0, .ref a0), (1, .int X1)]) H_33 hq (z_at.mk 3 rfl rfl) rfl (zIn_all (l := [48, 106]) (p := fun a => zQ a 12 4 (100 + a + 4)) rfl ha0) rfl rfl ?_
    refine r_p hq 1 (pc' := 41) (L' := [(0, .ref a0), (1, .int X1)]) (st' := [.int X1, .ref (a0 + 4), .int R_33]) rfl ?_
    obtain ⟨g_41, h⟩ := z_ifo_some h
    refine r_ia (pc' := 42) (L' := [(0, .ref a0), (1, .int X1)]) H_33 hq (z_at.mk 1 rfl rfl) (zIn_all (l := [48, 106]) (p := fun a => zAr (a + 4) 0 181) rfl ha0) hx1 g_41 rfl rfl ?_
    intro V_41 hV_41
    obtain ⟨o_42, h_42, h⟩ := Option.bind_eq_some_iff.mp h
    refine r_csI (pc' := 45) (L' := [(0, .ref a0), (1, .int X1)]) (As := [.int V_41]) (rest := [.int R_33]) (j := 8) hq (z_at.mk 3 rfl rfl) (Or.inl ⟨rfl, rfl⟩) rfl rfl (by omega) (g_b_area_ok hV_41 H_33 h_42) rfl rfl ?_
    intro R_42 m_42 p_42 e_42 hR_42 H_42
    subst e_42
    rcases z_ite h with ⟨c_45, h⟩ | ⟨c_45, h⟩
    · refine r_t2 (pc' := 52) (L' := [(0, .ref a0), (1, .int X1)]) hq (z_at.mk 3 rfl rfl) rfl hR_33 hR_42 c_45 rfl rfl ?_
      exact g_ca_giveUp_L52_ok ha0 hx1 H_42 h
    · refine r_f2 (pc' := 48) (L' := [(0, .ref a0), (1, .int X1)]) hq (z_at.mk 3 rfl rfl) rfl hR_33 hR_42 c_45 rfl rfl ?_
      refine r_p hq 2 (pc' := 53) (L' := [(0, .ref a0), (1, .int X1)]) (st' := [.int ((1 : Int32))]) rfl ?_
      exact g_ca_giveUp_L53_ok ha0 hx1 (rfl : (1 : Int32).toInt = 1) H_42 h
def g_ca_isTooMuch (a0 : Nat) (σ : zS) : Option (Int × zS) :=
  let v_1 := σ a0 2
  (g_se_of (a0 + 1) 2 σ).bind fun o_9 =>
  if o_9.1 < v_1 then
    some (1, o_9.2)
  else
    (g_ca_sizes a0 o_9.2).bind fun o_16 =>
    (g_se_of (a0 + 1) 1 o_16.2).bind fun o_24 =>
    if o_16.1 ≤ o_24.1 then
      some (0, o_24.2)
    else
      some (1, o_24.2)
set_option maxHeartbeats 4000000 in
theorem g_ca_isTooMuch_ok {xl : Nat} {xs : Nat → Int32} {a0 : Nat} (ha0 : zIn [48, 106] a0 = true) {σ : zS} {p : Nat} {m : zM} {o : Int × zS} (H : zRep xl xs p m σ) (h : g_ca_isTooMuch a0 σ = some o) : zGo xl xs (fun p' => p = p') 4 38 0 (z_can 38 0 (lv_args 0 [.ref a0])) [] m (vI o.1) o.2 := by
  have hq : z_mth 38 = some z_r38 := rfl
  unfold g_ca_isTooMuch at h
  show zGo xl xs (fun p' => p = p') 4 38 0 [(0, .ref a0)] [] m (vI o.1) o.2
  refine r_p hq 1 (pc' := 1) (L' := [(0, .ref a0)]) (st' := [.ref a0]) rfl ?_
  refine r_gI (pc' := 4) (L' := [(0, .ref a0)]) H hq (z_at.mk 3 rfl rfl) rfl (zIn_all (l := [48, 106]) (p := fun a => zQ a 12 2 0) rfl ha0) rfl rfl ?_
  intro V_1 hV_1
  refine r_p hq 1 (pc' := 5) (L' := [(0, .ref a0)]) (st' := [.ref a0, .int V_1]) rfl ?_
  refine r_gR (b := a0 + 1) (pc' := 8) (L' := [(0, .ref a0)]) H hq (z_at.mk 3 rfl rfl) rfl (zIn_all (l := [48, 106]) (p := fun a => zQ a 12 1 (100 + a + 1)) rfl ha0) rfl rfl ?_
  refine r_p hq 1 (pc' := 9) (L' := [(0, .ref a0)]) (st' := [.int ((2 : Int32)), .ref (a0 + 1), .int V_1]) rfl ?_
  obtain ⟨o_9, h_9, h⟩ := Option.bind_eq_some_iff.mp h
  refine r_cvI (pc' := 12) (L' := [(0, .ref a0)]) (Ps := [.int ((2 : Int32))]) (rest := [.int V_1]) hq (z_at.mk 3 rfl rfl) (Or.inl ⟨rfl, rfl⟩) rfl rfl (by decide) (by decide) rfl (Nat.not_lt.mpr (Nat.le_of_ble_eq_true rfl)) rfl rfl (z_cat_le 1 rfl (by decide)) (z_lgl_le 2 rfl (by decide)) (by decide) (H.tg (zIn_all (l := [48, 106]) (p := fun a => zT (a + 1) 16) rfl ha0)) (by omega) (g_se_of_ok (zIn_all (l := [48, 106]) (p := fun a => zIn [49, 82, 107, 118] (a + 1)) rfl ha0) (rfl : (2 : Int32).toInt = 2) H h_9) rfl rfl ?_
  intro R_9 m_9 p_9 e_9 hR_9 H_9
  subst e_9
  rcases z_ite h with ⟨c_12, h⟩ | ⟨c_12, h⟩
  · refine r_t2 (pc' := 30) (L' := []) hq (z_at.mk 3 rfl rfl) rfl hV_1 hR_9 c_12 rfl rfl ?_
    refine r_p hq 2 (pc' := 35) (L' := []) (st' := [.int ((1 : Int32))]) rfl ?_
    cases h
    exact r_ri hq (z_at.mk 1 rfl rfl) rfl rfl (rfl : (1 : Int32).toInt = 1) rfl H_9
  · refine r_f2 (pc' := 15) (L' := [(0, .ref a0)]) hq (z_at.mk 3 rfl rfl) rfl hV_1 hR_9 c_12 rfl rfl ?_
    refine r_p hq 1 (pc' := 16) (L' := [(0, .ref a0)]) (st' := [.ref a0]) rfl ?_
    obtain ⟨o_16, h_16, h⟩ := Option.bind_eq_some_iff.mp h
    refine r_cvI (pc' := 19) (L' := [(0, .ref a0)]) (Ps := []) (rest := []) hq (z_at.mk 3 rfl rfl) (Or.inl ⟨rfl, rfl⟩) rfl rfl (by decide) (by decide) rfl (Nat.not_lt.mpr (Nat.le_of_ble_eq_true rfl)) rfl rfl (z_cat_le 0 rfl (by decide)) (z_lgl_le 1 rfl (by decide)) (by decide) (H_9.tg (zIn_all (l := [48, 106]) (p := fun a => zT a 12) rfl ha0)) (by omega) (g_ca_sizes_ok (zIn_all (l := [48, 106]) (p := fun a => zIn [48, 106] a) rfl ha0) H_9 h_16) rfl rfl ?_
    intro R_16 m_16 p_16 e_16 hR_16 H_16
    subst e_16
    refine r_p hq 1 (pc' := 20) (L' := [(0, .ref a0)]) (st' := [.ref a0, .int R_16]) rfl ?_
    refine r_gR (b := a0 + 1) (pc' := 23) (L' := [(0, .ref a0)]) H_16 hq (z_at.mk 3 rfl rfl) rfl (zIn_all (l := [48, 106]) (p := fun a => zQ a 12 1 (100 + a + 1)) rfl ha0) rfl rfl ?_
    refine r_p hq 1 (pc' := 24) (L' := [(0, .ref a0)]) (st' := [.int ((1 : Int32)), .ref (a0 + 1), .int R_16]) rfl ?_
    obtain ⟨o_24, h_24, h⟩ := Option.bind_eq_some_iff.mp h
    refine r_cvI (pc' := 27) (L' := [(0, .ref a0)]) (Ps := [.int ((1 : Int32))]) (rest := [.int R_16]) hq (z_at.mk 3 rfl rfl) (Or.inl ⟨rfl, rfl⟩) rfl rfl (by decide) (by decide) rfl (Nat.not_lt.mpr (Nat.le_of_ble_eq_true rfl)) rfl rfl (z_cat_le 1 rfl (by decide)) (z_lgl_le 2 rfl (by decide)) (by decide) (H_16.tg (zIn_all (l := [48, 106]) (p := fun a => zT (a + 1) 16) rfl ha0)) (by omega) (g_se_of_ok (zIn_all (l := [48, 106]) (p := fun a => zIn [49, 82, 107, 118] (a + 1)) rfl ha0) (rfl : (1 : Int32).toInt = 1) H_16 h_24) rfl rfl ?_
    intro R_24 m_24 p_24 e_24 hR_24 H_24
    subst e_24
    rcases z_ite h with ⟨c_27, h⟩ | ⟨c_27, h⟩
    · refine r_t2 (pc' := 34) (L' := [(0, .ref a0)]) hq (z_at.mk 3 rfl rfl) rfl hR_16 hR_24 c_27 rfl rfl ?_
      refine r_p hq 1 (pc' := 35) (L' := []) (st' := [.int ((0 : Int32))]) rfl ?_
      cases h
      exact r_ri hq (z_at.mk 1 rfl rfl) rfl rfl (rfl : (0 : Int32).toInt = 0) rfl H_24
    · refine r_f2 (pc' := 30) (L' := []) hq (z_at.mk 3 rfl rfl) rfl hR_16 hR_24 c_27 rfl rfl ?_
      refine r_p hq 2 (pc' := 35) (L' := []) (st' := [.int ((1 : Int32))]) rfl ?_
      cases h
      exact r_ri hq (z_at.mk 1 rfl rfl) rfl rfl (rfl : (1 : Int32).toInt = 1) rfl H_24
def g_ca_lightest_L30 (a0 : Nat) (g4 : Int → Int → zS → Option (Int × zS)) (x1 : Int) (x2 : Int) (σ : zS) : Option (Int × zS) :=
  g4 x1 (w32 (x2 + 1)) σ
set_option maxHeartbeats 4000000 in
theorem g_ca_lightest_L30_ok {xl : Nat} {xs : Nat → Int32} {a0 : Nat} (ha0 : zIn [48, 106] a0 = true) {g4 : Int → Int → zS → Option (Int × zS)} (hg4 : ∀ {X1 : Int32} {x1 : Int} {X2 : Int32} {x2 : Int} {σ : zS} {p : Nat} {m : zM} {o : Int × zS}, X1.toInt = x1 → X2.toInt = x2 → zRep xl xs p m σ → g4 x1 x2 σ = some o → zGo xl xs (fun p' => p = p') 1 39 4 [(0, .ref a0), (1, .int X1), (2, .int X2)] [] m (vI o.1) o.2) {X1 : Int32} {x1 : Int} (hx1 : X1.toInt = x1) {X2 : Int32} {x2 : Int} (hx2 : X2.toInt = x2) {σ : zS} {p : Nat} {m : zM} {o : Int × zS} (H : zRep xl xs p m σ) (h : g_ca_lightest_L30 a0 g4 x1 x2 σ = some o) : zGo xl xs (fun p' => p = p') 1 39 30 [(0, .ref a0), (1, .int X1), (2, .int X2)] [] m (vI o.1) o.2 := by
  have hq : z_mth 39 = some z_r39 := rfl
  unfold g_ca_lightest_L30 at h
  refine r_p hq 2 (pc' := 4) (L' := [(0, .ref a0), (1, .int X1), (2, .int (X2 + (1 : Int32)))]) (st' := []) rfl ?_
  exact hg4 hx1 (tx_iadd hx2 (rfl : (1 : Int32).toInt = 1)) H h
def g_ca_lightest_L4 (a0 : Nat) : Nat → Int → Int → zS → Option (Int × zS)
  | 0, _, _, _ => none
  | n + 1, x1, x2, σ =>
    let v_6 := σ a0 2
    if v_6 ≤ x2 then
      some (x1, σ)
    else
      if 0 ≤ x2 ∧ x2 < 181 then
      let v_17 := σ (a0 + 7) x2
      if 0 ≤ x1 ∧ x1 < 181 then
      let v_23 := σ (a0 + 7) x1
      if 0 ≤ lCmp v_17 v_23 then
        g_ca_lightest_L30 a0 ((g_ca_lightest_L4 a0 n)) x1 x2 σ
      else
        g_ca_lightest_L30 a0 ((g_ca_lightest_L4 a0 n)) x2 x2 σ
      else none
      else none
set_option maxHeartbeats 4000000 in
theorem g_ca_lightest_L4_ok {xl : Nat} {xs : Nat → Int32} {a0 : Nat} (ha0 : zIn [48, 106] a0 = true) : ∀ (n : Nat) {X1 : Int32} {x1 : Int} {X2 : Int32} {x2 : Int} {σ : zS} {p : Nat} {m : zM} {o : Int × zS}, X1.toInt = x1 → X2.toInt = x2 → zRep xl xs p m σ → g_ca_lightest_L4 a0 n x1 x2 σ = some o → zGo xl xs (fun p' => p = p') 1 39 4 [(0, .ref a0), (1, .int X1), (2, .int X2)] [] m (vI o.1) o.2
  | 0, _, _, _, _, _, _, _, _, _, _, _, h => by cases h
  | n + 1, X1, x1, X2, x2, σ, p, m, o, hx1, hx2, H, h => by
    have hq : z_mth 39 = some z_r39 := rfl
    have ih := fun {X1 : Int32} {x1 : Int} {X2 : Int32} {x2 : Int} {σ : zS} {p : Nat} {m : zM} {o : Int × zS} => g_ca_lightest_L4_ok (xl := xl) (xs := xs) ha0 n (X1 := X1) (x1 := x1) (X2 := X2) (x2 := x2) (σ := σ) (p := p) (m := m) (o := o)
    unfold g_ca_lightest_L4 at h
    refine r_p hq 2 (pc' := 6) (L' := [(0, .ref a0), (1, .int X1), (2, .int X2)]) (st' := [.ref a0, .int X2]) rfl ?_
    refine r_gI (pc' := 9) (L' := [(0, .ref a0), (1, .int X1), (2, .int X2)]) H hq (z_at.mk 3 rfl rfl) rfl (zIn_all (l := [48, 106]) (p := fun a => zQ a 12 2 0) rfl ha0) rfl rfl ?_
    intro V_6 hV_6
    rcases z_ite h with ⟨c_9, h⟩ | ⟨c_9, h⟩
    · refine r_t2 (pc' := 36) (L' := [(0, .ref a0), (1, .int X1), (2, .int X2)]) hq (z_at.mk 3 rfl rfl) rfl hx2 hV_6 c_9 rfl rfl ?_
      refine r_p hq 1 (pc' := 37) (L' := [(0, .ref a0), (1, .int X1), (2, .int X2)]) (st' := [.int X1]) rfl ?_
      cases h
      exact r_ri hq (z_at.mk 1 rfl rfl) rfl rfl hx1 rfl H
    · refine r_f2 (pc' := 12) (L' := [(0, .ref a0), (1, .int X1), (2, .int X2)]) hq (z_at.mk 3 rfl rfl) rfl hx2 hV_6 c_9 rfl rfl ?_
      refine r_p hq 1 (pc' := 13) (L' := [(0, .ref a0), (1, .int X1), (2, .int X2)]) (st' := [.ref a0]) rfl ?_
      refine r_gR (b := a0 + 7) (pc' := 16) (L' := [(0, .ref a0), (1, .int X1), (2, .int X2)]) H hq (z_at.mk 3 rfl rfl) rfl (zIn_all (l := [48, 106]) (p := fun a => zQ a 12 7 (100 + a + 7)) rfl ha0) rfl rfl ?_
      refine r_p hq 1 (pc' := 17) (L' := [(0, .ref a0), (1, .int X1), (2, .int X2)]) (st' := [.int X2, .ref (a0 + 7)]) rfl ?_
      obtain ⟨g_17, h⟩ := z_ifo_some h
      refine r_la (pc' := 18) (L' := [(0, .ref a0), (1, .int X1), (2, .int X2)]) H hq (z_at.mk 1 rfl rfl) (zIn_all (l := [48, 106]) (p := fun a => zAr (a + 7) 1 181) rfl ha0) hx2 g_17 rfl rfl ?_
      intro V_17 hV_17
      refine r_p hq 1 (pc' := 19) (L' := [(0, .ref a0), (1, .int X1), (2, .int X2)]) (st' := [.ref a0, .long V_17]) rfl ?_
      refine r_gR (b := a0 + 7) (pc' := 22) (L' := [(0, .ref a0), (1, .int X1), (2, .int X2)]) H hq (z_at.mk 3 rfl rfl) rfl (zIn_all (l := [48, 106]) (p := fun a => zQ a 12 7 (100 + a + 7)) rfl ha0) rfl rfl ?_
      refine r_p hq 1 (pc' := 23) (L' := [(0, .ref a0), (1, .int X1), (2, .int X2)]) (st' := [.int X1, .ref (a0 + 7), .long V_17]) rfl ?_
      obtain ⟨g_23, h⟩ := z_ifo_some h
      refine r_la (pc' := 24) (L' := [(0, .ref a0), (1, .int X1), (2, .int X2)]) H hq (z_at.mk 1 rfl rfl) (zIn_all (l := [48, 106]) (p := fun a => zAr (a + 7) 1 181) rfl ha0) hx1 g_23 rfl rfl ?_
      intro V_23 hV_23
      refine r_p hq 1 (pc' := 25) (L' := [(0, .ref a0), (1, .int X1), (2, .int X2)]) (st' := [.int (lg_cmp V_17 V_23)]) rfl ?_
      rcases z_ite h with ⟨c_25, h⟩ | ⟨c_25, h⟩
      · refine r_t1 (pc' := 30) (L' := [(0, .ref a0), (1, .int X1), (2, .int X2)]) hq (z_at.mk 3 rfl rfl) rfl (tx_lcmp hV_17 hV_23) c_25 rfl rfl ?_
        exact g_ca_lightest_L30_ok ha0 ih hx1 hx2 H h
      · refine r_f1 (pc' := 28) (L' := [(0, .ref a0), (1, .int X1), (2, .int X2)]) hq (z_at.mk 3 rfl rfl) rfl (tx_lcmp hV_17 hV_23) c_25 rfl rfl ?_
        refine r_p hq 2 (pc' := 30) (L' := [(0, .ref a0), (1, .int X2), (2, .int X2)]) (st' := []) rfl ?_
        exact g_ca_lightest_L30_ok ha0 ih hx2 hx2 H h
def g_ca_lightest (a0 : Nat) (σ : zS) : Option (Int × zS) :=
  g_ca_lightest_L4 a0 zK 0 1 σ
set_option maxHeartbeats 4000000 in
theorem g_ca_lightest_ok {xl : Nat} {xs : Nat → Int32} {a0 : Nat} (ha0 : zIn [48, 106] a0 = true) {σ : zS} {p : Nat} {m : zM} {o : Int × zS} (H : zRep xl xs p m σ) (h : g_ca_lightest a0 σ = some o) : zGo xl xs (fun p' => p = p') 1 39 0 (z_can 39 0 (lv_args 0 [.ref a0])) [] m (vI o.1) o.2 := by
  have hq : z_mth 39 = some z_r39 := rfl
  unfold g_ca_lightest at h
  show zGo xl xs (fun p' => p = p') 1 39 0 [(0, .ref a0)] [] m (vI o.1) o.2
  refine r_p hq 4 (pc' := 4) (L' := [(0, .ref a0), (1, .int ((0 : Int32))), (2, .int ((1 : Int32)))]) (st' := []) rfl ?_
  exact g_ca_lightest_L4_ok ha0 zK (rfl : (0 : Int32).toInt = 0) (rfl : (1 : Int32).toInt = 1) H h
def g_ca_trim_L7 (a0 : Nat) : Nat → Int → zS → Option (Unit × zS)
  | 0, _, _ => none
  | n + 1, x1, σ =>
    if x1 ≤ 0 then
      some ((), σ)
    else
      let v_12 := σ a0 2
      if v_12 ≤ 0 then
        some ((), σ)
      else
        (g_ca_isTooMuch a0 σ).bind fun o_19 =>
        if o_19.1 = 0 then
          some ((), o_19.2)
        else
          (g_ca_lightest a0 o_19.2).bind fun o_27 =>
          (g_ca_giveUp a0 o_27.1 o_27.2).bind fun o_30 =>
          (g_ca_trim_L7 a0 n) (w32 (x1 - 1)) o_30.2
set_option maxHeartbeats 4000000 in
theorem g_ca_trim_L7_ok {xl : Nat} {xs : Nat → Int32} {a0 : Nat} (ha0 : zIn [48, 106] a0 = true) : ∀ (n : Nat) {X1 : Int32} {x1 : Int} {σ : zS} {p : Nat} {m : zM} {o : Unit × zS}, X1.toInt = x1 → zRep xl xs p m σ → g_ca_trim_L7 a0 n x1 σ = some o → zGo xl xs (fun p' => p = p') 5 37 7 [(0, .ref a0), (1, .int X1)] [] m vV o.2
  | 0, _, _, _, _, _, _, _, _, h => by cases h
  | n + 1, X1, x1, σ, p, m, o, hx1, H, h => by
    have hq : z_mth 37 = some z_r37 := rfl
    have ih := fun {X1 : Int32} {x1 : Int} {σ : zS} {p : Nat} {m : zM} {o : Unit × zS} => g_ca_trim_L7_ok (xl := xl) (xs := xs) ha0 n (X1 := X1) (x1 := x1) (σ := σ) (p := p) (m := m) (o := o)
    unfold g_ca_trim_L7 at h
    refine r_p hq 1 (pc' := 8) (L' := [(0, .ref a0), (1, .int X1)]) (st' := [.int X1]) rfl ?_
    rcases z_ite h with ⟨c_8, h⟩ | ⟨c_8, h⟩
    · refine r_t1 (pc' := 39) (L' := []) hq (z_at.mk 3 rfl rfl) rfl hx1 c_8 rfl rfl ?_
      cases h
      exact r_rv hq (z_at.mk 1 rfl rfl) rfl rfl H
    · refine r_f1 (pc' := 11) (L' := [(0, .ref a0), (1, .int X1)]) hq (z_at.mk 3 rfl rfl) rfl hx1 c_8 rfl rfl ?_
      refine r_p hq 1 (pc' := 12) (L' := [(0, .ref a0), (1, .int X1)]) (st' := [.ref a0]) rfl ?_
      refine r_gI (pc' := 15) (L' := [(0, .ref a0), (1, .int X1)]) H hq (z_at.mk 3 rfl rfl) rfl (zIn_all (l := [48, 106]) (p := fun a => zQ a 12 2 0) rfl ha0) rfl rfl ?_
      intro V_12 hV_12
      rcases z_ite h with ⟨c_15, h⟩ | ⟨c_15, h⟩
      · refine r_t1 (pc' := 39) (L' := []) hq (z_at.mk 3 rfl rfl) rfl hV_12 c_15 rfl rfl ?_
        cases h
        exact r_rv hq (z_at.mk 1 rfl rfl) rfl rfl H
      · refine r_f1 (pc' := 18) (L' := [(0, .ref a0), (1, .int X1)]) hq (z_at.mk 3 rfl rfl) rfl hV_12 c_15 rfl rfl ?_
        refine r_p hq 1 (pc' := 19) (L' := [(0, .ref a0), (1, .int X1)]) (st' := [.ref a0]) rfl ?_
        obtain ⟨o_19, h_19, h⟩ := Option.bind_eq_some_iff.mp h
        refine r_cvI (pc' := 22) (L' := [(0, .ref a0), (1, .int X1)]) (Ps := []) (rest := []) hq (z_at.mk 3 rfl rfl) (Or.inl ⟨rfl, rfl⟩) rfl rfl (by decide) (by decide) rfl (Nat.not_lt.mpr (Nat.le_of_ble_eq_true rfl)) rfl rfl (z_cat_le 0 rfl (by decide)) (z_lgl_le 1 rfl (by decide)) (by decide) (H.tg (zIn_all (l := [48, 106]) (p := fun a => zT a 12) rfl ha0)) (by omega) (g_ca_isTooMuch_ok (zIn_all (l := [48, 106]) (p := fun a => zIn [48, 106] a) rfl ha0) H h_19) rfl rfl ?_
        intro R_19 m_19 p_19 e_19 hR_19 H_19
        subst e_19
        rcases z_ite h with ⟨c_22, h⟩ | ⟨c_22, h⟩
        · refine r_t1 (pc' := 39) (L' := []) hq (z_at.mk 3 rfl rfl) rfl hR_19 c_22 rfl rfl ?_
          cases h
          exact r_rv hq (z_at.mk 1 rfl rfl) rfl rfl H_19
        · refine r_f1 (pc' := 25) (L' := [(0, .ref a0), (1, .int X1)]) hq (z_at.mk 3 rfl rfl) rfl hR_19 c_22 rfl rfl ?_
          refine r_p hq 2 (pc' := 27) (L' := [(0, .ref a0), (1, .int X1)]) (st' := [.ref a0, .ref a0]) rfl ?_
          obtain ⟨o_27, h_27, h⟩ := Option.bind_eq_some_iff.mp h
          refine r_cvI (pc' := 30) (L' := [(0, .ref a0), (1, .int X1)]) (Ps := []) (rest := [.ref a0]) hq (z_at.mk 3 rfl rfl) (Or.inl ⟨rfl, rfl⟩) rfl rfl (by decide) (by decide) rfl (Nat.not_lt.mpr (Nat.le_of_ble_eq_true rfl)) rfl rfl (z_cat_le 1 rfl (by decide)) (z_lgl_le 1 rfl (by decide)) (by decide) (H_19.tg (zIn_all (l := [48, 106]) (p := fun a => zT a 12) rfl ha0)) (by omega) (g_ca_lightest_ok (zIn_all (l := [48, 106]) (p := fun a => zIn [48, 106] a) rfl ha0) H_19 h_27) rfl rfl ?_
          intro R_27 m_27 p_27 e_27 hR_27 H_27
          subst e_27
          obtain ⟨o_30, h_30, h⟩ := Option.bind_eq_some_iff.mp h
          refine r_cvV (pc' := 33) (L' := [(0, .ref a0), (1, .int X1)]) (Ps := [.int R_27]) (rest := []) hq (z_at.mk 3 rfl rfl) (Or.inl ⟨rfl, rfl⟩) rfl rfl (by decide) (by decide) rfl (Nat.not_lt.mpr (Nat.le_of_ble_eq_true rfl)) rfl rfl (z_cat_le 0 rfl (by decide)) (z_lgl_le 2 rfl (by decide)) (by decide) (H_27.tg (zIn_all (l := [48, 106]) (p := fun a => zT a 12) rfl ha0)) (by omega) (g_ca_giveUp_ok (zIn_all (l := [48, 106]) (p := fun a => zIn [48, 106] a) rfl ha0) hR_27 H_27 h_30) rfl rfl ?_
          intro m_30 p_30 e_30 H_30
          subst e_30
          refine r_p hq 2 (pc' := 7) (L' := [(0, .ref a0), (1, .int (X1 + (-1 : Int32)))]) (st' := []) rfl ?_
          exact ih (tx_iaddn hx1 (rfl : (-1 : Int32).toInt = -1)) H_30 h
def g_ca_trim (a0 : Nat) (σ : zS) : Option (Unit × zS) :=
  let v_2 := σ a0 2
  g_ca_trim_L7 a0 zK (w32 (2 * v_2)) σ
set_option maxHeartbeats 4000000 in
theorem g_ca_trim_ok {xl : Nat} {xs : Nat → Int32} {a0 : Nat} (ha0 : zIn [48, 106] a0 = true) {σ : zS} {p : Nat} {m : zM} {o : Unit × zS} (H : zRep xl xs p m σ) (h : g_ca_trim a0 σ = some o) : zGo xl xs (fun p' => p = p') 5 37 0 (z_can 37 0 (lv_args 0 [.ref a0])) [] m vV o.2 := by
  have hq : z_mth 37 = some z_r37 := rfl
  unfold g_ca_trim at h
  show zGo xl xs (fun p' => p = p') 5 37 0 [(0, .ref a0)] [] m vV o.2
  refine r_p hq 2 (pc' := 2) (L' := [(0, .ref a0)]) (st' := [.ref a0, .int ((2 : Int32))]) rfl ?_
  refine r_gI (pc' := 5) (L' := [(0, .ref a0)]) H hq (z_at.mk 3 rfl rfl) rfl (zIn_all (l := [48, 106]) (p := fun a => zQ a 12 2 0) rfl ha0) rfl rfl ?_
  intro V_2 hV_2
  refine r_p hq 2 (pc' := 7) (L' := [(0, .ref a0), (1, .int (((2 : Int32)) * V_2))]) (st' := []) rfl ?_
  exact g_ca_trim_L7_ok ha0 zK (tx_imul (rfl : (2 : Int32).toInt = 2) hV_2) H h
def g_ca_missingOf_L68 (a0 : Nat) (g19 : Int → Int → zS → Option (Unit × zS)) (x1 : Int) (x2 : Int) (σ : zS) : Option (Unit × zS) :=
  g19 x1 (w32 (x2 + 1)) σ
set_option maxHeartbeats 4000000 in
theorem g_ca_missingOf_L68_ok {xl : Nat} {xs : Nat → Int32} {a0 : Nat} (ha0 : zIn [48, 106] a0 = true) {g19 : Int → Int → zS → Option (Unit × zS)} (hg19 : ∀ {X1 : Int32} {x1 : Int} {X2 : Int32} {x2 : Int} {σ : zS} {p : Nat} {m : zM} {o : Unit × zS}, X1.toInt = x1 → X2.toInt = x2 → zRep xl xs p m σ → g19 x1 x2 σ = some o → zGo xl xs (fun p' => p = p') 5 26 19 [(0, .ref a0), (1, .int X1), (2, .int X2)] [] m (vR (a0 + 8)) o.2) {X1 : Int32} {x1 : Int} (hx1 : X1.toInt = x1) {X2 : Int32} {x2 : Int} (hx2 : X2.toInt = x2) {σ : zS} {p : Nat} {m : zM} {o : Unit × zS} (H : zRep xl xs p m σ) (h : g_ca_missingOf_L68 a0 g19 x1 x2 σ = some o) : zGo xl xs (fun p' => p = p') 5 26 68 [(0, .ref a0), (1, .int X1), (2, .int X2)] [] m (vR (a0 + 8)) o.2 := by
  have hq : z_mth 26 = some z_r26 := rfl
  unfold g_ca_missingOf_L68 at h
  refine r_p hq 2 (pc' := 19) (L' := [(0, .ref a0), (1, .int X1), (2, .int (X2 + (1 : Int32)))]) (st' := []) rfl ?_
  exact hg19 hx1 (tx_iadd hx2 (rfl : (1 : Int32).toInt = 1)) H h
def g_ca_missingOf_L19 (a0 : Nat) : Nat → Int → Int → zS → Option (Unit × zS)
  | 0, _, _, _ => none
  | n + 1, x1, x2, σ =>
    let v_21 := σ a0 2
    if v_21 ≤ x2 then
      some ((), σ)
    else
      if 0 ≤ x2 ∧ x2 < 181 then
      let v_32 := σ (a0 + 4) x2
      (g_b_meet v_32 x1 σ).bind fun o_34 =>
      if o_34.1 = 0 then
        g_ca_missingOf_L68 a0 ((g_ca_missingOf_L19 a0 n)) x1 x2 o_34.2
      else
        if 0 ≤ x2 ∧ x2 < 181 then
        let v_53 := o_34.2 (a0 + 4) x2
        (g_bs_becomeRest (a0 + 10) (a0 + 8) v_53 o_34.2).bind fun o_54 =>
        (g_bs_copyFrom (a0 + 8) (a0 + 10) o_54.2).bind fun o_65 =>
        g_ca_missingOf_L68 a0 ((g_ca_missingOf_L19 a0 n)) x1 x2 o_65.2
        else none
      else none
set_option maxHeartbeats 4000000 in
theorem g_ca_missingOf_L19_ok {xl : Nat} {xs : Nat → Int32} {a0 : Nat} (ha0 : zIn [48, 106] a0 = true) : ∀ (n : Nat) {X1 : Int32} {x1 : Int} {X2 : Int32} {x2 : Int} {σ : zS} {p : Nat} {m : zM} {o : Unit × zS}, X1.toInt = x1 → X2.toInt = x2 → zRep xl xs p m σ → g_ca_missingOf_L19 a0 n x1 x2 σ = some o → zGo xl xs (fun p' => p = p') 5 26 19 [(0, .ref a0), (1, .int X1), (2, .int X2)] [] m (vR (a0 + 8)) o.2
  | 0, _, _, _, _, _, _, _, _, _, _, _, h => by cases h
  | n + 1, X1, x1, X2, x2, σ, p, m, o, hx1, hx2, H, h => by
    have hq : z_mth 26 = some z_r26 := rfl
    have ih := fun {X1 : Int32} {x1 : Int} {X2 : Int32} {x2 : Int} {σ : zS} {p : Nat} {m : zM} {o : Unit × zS} => g_ca_missingOf_L19_ok (xl := xl) (xs := xs) ha0 n (X1 := X1) (x1 := x1) (X2 := X2) (x2 := x2) (σ := σ) (p := p) (m := m) (o := o)
    unfold g_ca_missingOf_L19 at h
    refine r_p hq 2 (pc' := 21) (L' := [(0, .ref a0), (1, .int X1), (2, .int X2)]) (st' := [.ref a0, .int X2]) rfl ?_
    refine r_gI (pc' := 24) (L' := [(0, .ref a0), (1, .int X1), (2, .int X2)]) H hq (z_at.mk 3 rfl rfl) rfl (zIn_all (l := [48, 106]) (p := fun a => zQ a 12 2 0) rfl ha0) rfl rfl ?_
    intro V_21 hV_21
    rcases z_ite h with ⟨c_24, h⟩ | ⟨c_24, h⟩
    · refine r_t2 (pc' := 74) (L' := [(0, .ref a0), (1, .int X1), (2, .int X2)]) hq (z_at.mk 3 rfl rfl) rfl hx2 hV_21 c_24 rfl rfl ?_
      refine r_p hq 1 (pc' := 75) (L' := [(0, .ref a0), (1, .int X1), (2, .int X2)]) (st' := [.ref a0]) rfl ?_
      refine r_gR (b := a0 + 8) (pc' := 78) (L' := [(0, .ref a0), (1, .int X1), (2, .int X2)]) H hq (z_at.mk 3 rfl rfl) rfl (zIn_all (l := [48, 106]) (p := fun a => zQ a 12 16 (100 + a + 8)) rfl ha0) rfl rfl ?_
      cases h
      exact r_ra hq (z_at.mk 1 rfl rfl) rfl rfl H
    · refine r_f2 (pc' := 27) (L' := [(0, .ref a0), (1, .int X1), (2, .int X2)]) hq (z_at.mk 3 rfl rfl) rfl hx2 hV_21 c_24 rfl rfl ?_
      refine r_p hq 1 (pc' := 28) (L' := [(0, .ref a0), (1, .int X1), (2, .int X2)]) (st' := [.ref a0]) rfl ?_
      refine r_gR (b := a0 + 4) (pc' := 31) (L' := [(0, .ref a0), (1, .int X1), (2, .int X2)]) H hq (z_at.mk 3 rfl rfl) rfl (zIn_all (l := [48, 106]) (p := fun a => zQ a 12 4 (100 + a + 4)) rfl ha0) rfl rfl ?_
      refine r_p hq 1 (pc' := 32) (L' := [(0, .ref a0), (1, .int X1), (2, .int X2)]) (st' := [.int X2, .ref (a0 + 4)]) rfl ?_
      obtain ⟨g_32, h⟩ := z_ifo_some h
      refine r_ia (pc' := 33) (L' := [(0, .ref a0), (1, .int X1), (2, .int X2)]) H hq (z_at.mk 1 rfl rfl) (zIn_all (l := [48, 106]) (p := fun a => zAr (a + 4) 0 181) rfl ha0) hx2 g_32 rfl rfl ?_
      intro V_32 hV_32
      refine r_p hq 1 (pc' := 34) (L' := [(0, .ref a0), (1, .int X1), (2, .int X2)]) (st' := [.int X1, .int V_32]) rfl ?_
      obtain ⟨o_34, h_34, h⟩ := Option.bind_eq_some_iff.mp h
      refine r_csI (pc' := 37) (L' := [(0, .ref a0), (1, .int X1), (2, .int X2)]) (As := [.int V_32, .int X1]) (rest := []) (j := 9) hq (z_at.mk 3 rfl rfl) (Or.inl ⟨rfl, rfl⟩) rfl rfl (by omega) (g_b_meet_ok hV_32 hx1 H h_34) rfl rfl ?_
      intro R_34 m_34 p_34 e_34 hR_34 H_34
      subst e_34
      rcases z_ite h with ⟨c_37, h⟩ | ⟨c_37, h⟩
      · refine r_t1 (pc' := 68) (L' := [(0, .ref a0), (1, .int X1), (2, .int X2)]) hq (z_at.mk 3 rfl rfl) rfl hR_34 c_37 rfl rfl ?_
        exact g_ca_missingOf_L68_ok ha0 ih hx1 hx2 H_34 h
      · refine r_f1 (pc' := 40) (L' := [(0, .ref a0), (1, .int X1), (2, .int X2)]) hq (z_at.mk 3 rfl rfl) rfl hR_34 c_37 rfl rfl ?_
        refine r_p hq 1 (pc' := 41) (L' := [(0, .ref a0), (1, .int X1), (2, .int X2)]) (st' := [.ref a0]) rfl ?_
        refine r_gR (b := a0 + 10) (pc' := 44) (L' := [(0, .ref a0), (1, .int X1), (2, .int X2)]) H_34 hq (z_at.mk 3 rfl rfl) rfl (zIn_all (l := [48, 106]) (p := fun a => zQ a 12 17 (100 + a + 10)) rfl ha0) rfl rfl ?_
        refine r_p hq 1 (pc' := 45) (L' := [(0, .ref a0), (1, .int X1), (2, .int X2)]) (st' := [.ref a0, .ref (a0 + 10)]) rfl ?_
        refine r_gR (b := a0 + 8) (pc' := 48) (L' := [(0, .ref a0), (1, .int X1), (2, .int X2)]) H_34 hq (z_at.mk 3 rfl rfl) rfl (zIn_all (l := [48, 106]) (p := fun a => zQ a 12 16 (100 + a + 8)) rfl ha0) rfl rfl ?_
        refine r_p hq 1 (pc' := 49) (L' := [(0, .ref a0), (1, .int X1), (2, .int X2)]) (st' := [.ref a0, .ref (a0 + 8), .ref (a0 + 10)]) rfl ?_
        refine r_gR (b := a0 + 4) (pc' := 52) (L' := [(0, .ref a0), (1, .int X1), (2, .int X2)]) H_34 hq (z_at.mk 3 rfl rfl) rfl (zIn_all (l := [48, 106]) (p := fun a => zQ a 12 4 (100 + a + 4)) rfl ha0) rfl rfl ?_
        refine r_p hq 1 (pc' := 53) (L' := [(0, .ref a0), (1, .int X1), (2, .int X2)]) (st' := [.int X2, .ref (a0 + 4), .ref (a0 + 8), .ref (a0 + 10)]) rfl ?_
        obtain ⟨g_53, h⟩ := z_ifo_some h
        refine r_ia (pc' := 54) (L' := [(0, .ref a0), (1, .int X1), (2, .int X2)]) H_34 hq (z_at.mk 1 rfl rfl) (zIn_all (l := [48, 106]) (p := fun a => zAr (a + 4) 0 181) rfl ha0) hx2 g_53 rfl rfl ?_
        intro V_53 hV_53
        obtain ⟨o_54, h_54, h⟩ := Option.bind_eq_some_iff.mp h
        refine r_cvV (pc' := 57) (L' := [(0, .ref a0), (1, .int X1), (2, .int X2)]) (Ps := [.ref (a0 + 8), .int V_53]) (rest := []) hq (z_at.mk 3 rfl rfl) (Or.inl ⟨rfl, rfl⟩) rfl rfl (by decide) (by decide) rfl (Nat.not_lt.mpr (Nat.le_of_ble_eq_true rfl)) rfl rfl (z_cat_le 0 rfl (by decide)) (z_lgl_le 3 rfl (by decide)) (by decide) (H_34.tg (zIn_all (l := [48, 106]) (p := fun a => zT (a + 10) 11) rfl ha0)) (by omega) (g_bs_becomeRest_ok (zIn_all (l := [48, 106]) (p := fun a => zIn [58, 116] (a + 10)) rfl ha0) (zIn_all (l := [48, 106]) (p := fun a => zIn [56, 114] (a + 8)) rfl ha0) hV_53 H_34 h_54) rfl rfl ?_
        intro m_54 p_54 e_54 H_54
        subst e_54
        refine r_p hq 1 (pc' := 58) (L' := [(0, .ref a0), (1, .int X1), (2, .int X2)]) (st' := [.ref a0]) rfl ?_
        refine r_gR (b := a0 + 8) (pc' := 61) (L' := [(0, .ref a0), (1, .int X1), (2, .int X2)]) H_54 hq (z_at.mk 3 rfl rfl) rfl (zIn_all (l := [48, 106]) (p := fun a => zQ a 12 16 (100 + a + 8)) rfl ha0) rfl rfl ?_
        refine r_p hq 1 (pc' := 62) (L' := [(0, .ref a0), (1, .int X1), (2, .int X2)]) (st' := [.ref a0, .ref (a0 + 8)]) rfl ?_
        refine r_gR (b := a0 + 10) (pc' := 65) (L' := [(0, .ref a0), (1, .int X1), (2, .int X2)]) H_54 hq (z_at.mk 3 rfl rfl) rfl (zIn_all (l := [48, 106]) (p := fun a => zQ a 12 17 (100 + a + 10)) rfl ha0) rfl rfl ?_
        obtain ⟨o_65, h_65, h⟩ := Option.bind_eq_some_iff.mp h
        refine r_cvV (pc' := 68) (L' := [(0, .ref a0), (1, .int X1), (2, .int X2)]) (Ps := [.ref (a0 + 10)]) (rest := []) hq (z_at.mk 3 rfl rfl) (Or.inl ⟨rfl, rfl⟩) rfl rfl (by decide) (by decide) rfl (Nat.not_lt.mpr (Nat.le_of_ble_eq_true rfl)) rfl rfl (z_cat_le 0 rfl (by decide)) (z_lgl_le 2 rfl (by decide)) (by decide) (H_54.tg (zIn_all (l := [48, 106]) (p := fun a => zT (a + 8) 11) rfl ha0)) (by omega) (g_bs_copyFrom_ok (zIn_all (l := [48, 106]) (p := fun a => zIn [56, 58, 63, 96, 114, 116] (a + 8)) rfl ha0) (zIn_all (l := [48, 106]) (p := fun a => zIn [56, 58, 63, 96, 114, 116] (a + 10)) rfl ha0) H_54 h_65) rfl rfl ?_
        intro m_65 p_65 e_65 H_65
        subst e_65
        exact g_ca_missingOf_L68_ok ha0 ih hx1 hx2 H_65 h
def g_ca_missingOf (a0 : Nat) (x1 : Int) (σ : zS) : Option (Unit × zS) :=
  let s_5 := zu σ (a0 + 8) 1 0
  (g_bs_add (a0 + 8) x1 s_5).bind fun o_13 =>
  g_ca_missingOf_L19 a0 zK x1 0 o_13.2
set_option maxHeartbeats 4000000 in
theorem g_ca_missingOf_ok {xl : Nat} {xs : Nat → Int32} {a0 : Nat} (ha0 : zIn [48, 106] a0 = true) {X1 : Int32} {x1 : Int} (hx1 : X1.toInt = x1) {σ : zS} {p : Nat} {m : zM} {o : Unit × zS} (H : zRep xl xs p m σ) (h : g_ca_missingOf a0 x1 σ = some o) : zGo xl xs (fun p' => p = p') 5 26 0 (z_can 26 0 (lv_args 0 [.ref a0, .int X1])) [] m (vR (a0 + 8)) o.2 := by
  have hq : z_mth 26 = some z_r26 := rfl
  unfold g_ca_missingOf at h
  show zGo xl xs (fun p' => p = p') 5 26 0 [(0, .ref a0), (1, .int X1)] [] m (vR (a0 + 8)) o.2
  refine r_p hq 1 (pc' := 1) (L' := [(0, .ref a0), (1, .int X1)]) (st' := [.ref a0]) rfl ?_
  refine r_gR (b := a0 + 8) (pc' := 4) (L' := [(0, .ref a0), (1, .int X1)]) H hq (z_at.mk 3 rfl rfl) rfl (zIn_all (l := [48, 106]) (p := fun a => zQ a 12 16 (100 + a + 8)) rfl ha0) rfl rfl ?_
  refine r_p hq 1 (pc' := 5) (L' := [(0, .ref a0), (1, .int X1)]) (st' := [.int ((0 : Int32)), .ref (a0 + 8)]) rfl ?_
  refine r_pI (X := (0 : Int32)) (pc' := 8) (L' := [(0, .ref a0), (1, .int X1)]) H hq (z_at.mk 3 rfl rfl) rfl (zIn_all (l := [48, 106]) (p := fun a => zQ (a + 8) 11 1 0) rfl ha0) (rfl : (0 : Int32).toInt = 0) (by decide) rfl rfl rfl rfl ?_
  intro m_5 H_5
  refine r_p hq 1 (pc' := 9) (L' := [(0, .ref a0), (1, .int X1)]) (st' := [.ref a0]) rfl ?_
  refine r_gR (b := a0 + 8) (pc' := 12) (L' := [(0, .ref a0), (1, .int X1)]) H_5 hq (z_at.mk 3 rfl rfl) rfl (zIn_all (l := [48, 106]) (p := fun a => zQ a 12 16 (100 + a + 8)) rfl ha0) rfl rfl ?_
  refine r_p hq 1 (pc' := 13) (L' := [(0, .ref a0), (1, .int X1)]) (st' := [.int X1, .ref (a0 + 8)]) rfl ?_
  obtain ⟨o_13, h_13, h⟩ := Option.bind_eq_some_iff.mp h
  refine r_cvI (pc' := 16) (L' := [(0, .ref a0), (1, .int X1)]) (Ps := [.int X1]) (rest := []) hq (z_at.mk 3 rfl rfl) (Or.inl ⟨rfl, rfl⟩) rfl rfl (by decide) (by decide) rfl (Nat.not_lt.mpr (Nat.le_of_ble_eq_true rfl)) rfl rfl (z_cat_le 0 rfl (by decide)) (z_lgl_le 2 rfl (by decide)) (by decide) (H_5.tg (zIn_all (l := [48, 106]) (p := fun a => zT (a + 8) 11) rfl ha0)) (by omega) (g_bs_add_ok (zIn_all (l := [48, 106]) (p := fun a => zIn [56, 58, 63, 96, 114, 116, 126, 131] (a + 8)) rfl ha0) hx1 H_5 h_13) rfl rfl ?_
  intro R_13 m_13 p_13 e_13 hR_13 H_13
  subst e_13
  refine r_p hq 3 (pc' := 19) (L' := [(0, .ref a0), (1, .int X1), (2, .int ((0 : Int32)))]) (st' := []) rfl ?_
  exact g_ca_missingOf_L19_ok ha0 zK hx1 (rfl : (0 : Int32).toInt = 0) H_13 h
end
section
/-! 21.g02 -/
/-! THE METHODS over the typed memory, 2 (by wip/zg.py) -/
def g_ca_hit (a0 : Nat) (x1 : Int) (x2 : Int) (σ : zS) : Option (Unit × zS) :=
  if 0 ≤ x1 ∧ x1 < 181 then
  let v_13 := σ (a0 + 5) x1
  (g_jMath_min_291 9999 (w32 (v_13 + 1)) σ).bind fun o_16 =>
  if 0 ≤ x1 ∧ x1 < 181 then
  let s_19 := zu o_16.2 (a0 + 5) x1 o_16.1
  if 0 ≤ x1 ∧ x1 < 181 then
  let v_30 := s_19 (a0 + 6) x1
  (g_b_around v_30 x2 s_19).bind fun o_32 =>
  if 0 ≤ x1 ∧ x1 < 181 then
  let s_35 := zu o_32.2 (a0 + 6) x1 o_32.1
  (g_ca_weigh a0 x1 s_35).bind fun o_38 =>
  some ((), o_38.2)
  else none
  else none
  else none
  else none
set_option maxHeartbeats 4000000 in
theorem g_ca_hit_ok {xl : Nat} {xs : Nat → Int32} {a0 : Nat} (ha0 : zIn [48, 106] a0 = true) {X1 : Int32} {x1 : Int} (hx1 : X1.toInt = x1) {X2 : Int32} {x2 : Int} (hx2 : X2.toInt = x2) {σ : zS} {p : Nat} {m : zM} {o : Unit × zS} (H : zRep xl xs p m σ) (h : g_ca_hit a0 x1 x2 σ = some o) : zGo xl xs (fun p' => p = p') 4 27 0 (z_can 27 0 (lv_args 0 [.ref a0, .int X1, .int X2])) [] m vV o.2 := by
  have hq : z_mth 27 = some z_r27 := rfl
  unfold g_ca_hit at h
  show zGo xl xs (fun p' => p = p') 4 27 0 [(0, .ref a0), (1, .int X1), (2, .int X2)] [] m vV o.2
  refine r_p hq 1 (pc' := 1) (L' := [(0, .ref a0), (1, .int X1), (2, .int X2)]) (st' := [.ref a0]) rfl ?_
  refine r_gR (b := a0 + 5) (pc' := 4) (L' := [(0, .ref a0), (1, .int X1), (2, .int X2)]) H hq (z_at.mk 3 rfl rfl) rfl (zIn_all (l := [48, 106]) (p := fun a => zQ a 12 5 (100 + a + 5)) rfl ha0) rfl rfl ?_
  refine r_p hq 3 (pc' := 9) (L' := [(0, .ref a0), (1, .int X1), (2, .int X2)]) (st' := [.ref a0, .int ((9999 : Int32)), .int X1, .ref (a0 + 5)]) rfl ?_
  refine r_gR (b := a0 + 5) (pc' := 12) (L' := [(0, .ref a0), (1, .int X1), (2, .int X2)]) H hq (z_at.mk 3 rfl rfl) rfl (zIn_all (l := [48, 106]) (p := fun a => zQ a 12 5 (100 + a + 5)) rfl ha0) rfl rfl ?_
  refine r_p hq 1 (pc' := 13) (L' := [(0, .ref a0), (1, .int X1), (2, .int X2)]) (st' := [.int X1, .ref (a0 + 5), .int ((9999 : Int32)), .int X1, .ref (a0 + 5)]) rfl ?_
  obtain ⟨g_13, h⟩ := z_ifo_some h
  refine r_ia (pc' := 14) (L' := [(0, .ref a0), (1, .int X1), (2, .int X2)]) H hq (z_at.mk 1 rfl rfl) (zIn_all (l := [48, 106]) (p := fun a => zAr (a + 5) 0 181) rfl ha0) hx1 g_13 rfl rfl ?_
  intro V_13 hV_13
  refine r_p hq 2 (pc' := 16) (L' := [(0, .ref a0), (1, .int X1), (2, .int X2)]) (st' := [.int (V_13 + ((1 : Int32))), .int ((9999 : Int32)), .int X1, .ref (a0 + 5)]) rfl ?_
  obtain ⟨o_16, h_16, h⟩ := Option.bind_eq_some_iff.mp h
  refine r_csI (pc' := 19) (L' := [(0, .ref a0), (1, .int X1), (2, .int X2)]) (As := [.int ((9999 : Int32)), .int (V_13 + ((1 : Int32)))]) (rest := [.int X1, .ref (a0 + 5)]) (j := 291) hq (z_at.mk 3 rfl rfl) (Or.inl ⟨rfl, rfl⟩) rfl rfl (by omega) (g_jMath_min_291_ok (rfl : (9999 : Int32).toInt = 9999) (tx_iadd hV_13 (rfl : (1 : Int32).toInt = 1)) H h_16) rfl rfl ?_
  intro R_16 m_16 p_16 e_16 hR_16 H_16
  subst e_16
  obtain ⟨g_19, h⟩ := z_ifo_some h
  refine r_is (pc' := 20) (L' := [(0, .ref a0), (1, .int X1), (2, .int X2)]) H_16 hq (z_at.mk 1 rfl rfl) (zIn_all (l := [48, 106]) (p := fun a => zAr (a + 5) 0 181) rfl ha0) hx1 g_19 hR_16 rfl rfl ?_
  intro m_19 H_19
  refine r_p hq 1 (pc' := 21) (L' := [(0, .ref a0), (1, .int X1), (2, .int X2)]) (st' := [.ref a0]) rfl ?_
  refine r_gR (b := a0 + 6) (pc' := 24) (L' := [(0, .ref a0), (1, .int X1), (2, .int X2)]) H_19 hq (z_at.mk 3 rfl rfl) rfl (zIn_all (l := [48, 106]) (p := fun a => zQ a 12 6 (100 + a + 6)) rfl ha0) rfl rfl ?_
  refine r_p hq 2 (pc' := 26) (L' := [(0, .ref a0), (1, .int X1), (2, .int X2)]) (st' := [.ref a0, .int X1, .ref (a0 + 6)]) rfl ?_
  refine r_gR (b := a0 + 6) (pc' := 29) (L' := [(0, .ref a0), (1, .int X1), (2, .int X2)]) H_19 hq (z_at.mk 3 rfl rfl) rfl (zIn_all (l := [48, 106]) (p := fun a => zQ a 12 6 (100 + a + 6)) rfl ha0) rfl rfl ?_
  refine r_p hq 1 (pc' := 30) (L' := [(0, .ref a0), (1, .int X1), (2, .int X2)]) (st' := [.int X1, .ref (a0 + 6), .int X1, .ref (a0 + 6)]) rfl ?_
  obtain ⟨g_30, h⟩ := z_ifo_some h
  refine r_ia (pc' := 31) (L' := [(0, .ref a0), (1, .int X1), (2, .int X2)]) H_19 hq (z_at.mk 1 rfl rfl) (zIn_all (l := [48, 106]) (p := fun a => zAr (a + 6) 0 181) rfl ha0) hx1 g_30 rfl rfl ?_
  intro V_30 hV_30
  refine r_p hq 1 (pc' := 32) (L' := [(0, .ref a0), (1, .int X1), (2, .int X2)]) (st' := [.int X2, .int V_30, .int X1, .ref (a0 + 6)]) rfl ?_
  obtain ⟨o_32, h_32, h⟩ := Option.bind_eq_some_iff.mp h
  refine r_csI (pc' := 35) (L' := [(0, .ref a0), (1, .int X1), (2, .int X2)]) (As := [.int V_30, .int X2]) (rest := [.int X1, .ref (a0 + 6)]) (j := 11) hq (z_at.mk 3 rfl rfl) (Or.inl ⟨rfl, rfl⟩) rfl rfl (by omega) (g_b_around_ok hV_30 hx2 H_19 h_32) rfl rfl ?_
  intro R_32 m_32 p_32 e_32 hR_32 H_32
  subst e_32
  obtain ⟨g_35, h⟩ := z_ifo_some h
  refine r_is (pc' := 36) (L' := [(0, .ref a0), (1, .int X1), (2, .int X2)]) H_32 hq (z_at.mk 1 rfl rfl) (zIn_all (l := [48, 106]) (p := fun a => zAr (a + 6) 0 181) rfl ha0) hx1 g_35 hR_32 rfl rfl ?_
  intro m_35 H_35
  refine r_p hq 2 (pc' := 38) (L' := [(0, .ref a0), (1, .int X1), (2, .int X2)]) (st' := [.int X1, .ref a0]) rfl ?_
  obtain ⟨o_38, h_38, h⟩ := Option.bind_eq_some_iff.mp h
  refine r_cvV (pc' := 41) (L' := [(0, .ref a0), (1, .int X1), (2, .int X2)]) (Ps := [.int X1]) (rest := []) hq (z_at.mk 3 rfl rfl) (Or.inl ⟨rfl, rfl⟩) rfl rfl (by decide) (by decide) rfl (Nat.not_lt.mpr (Nat.le_of_ble_eq_true rfl)) rfl rfl (z_cat_le 0 rfl (by decide)) (z_lgl_le 2 rfl (by decide)) (by decide) (H_35.tg (zIn_all (l := [48, 106]) (p := fun a => zT a 12) rfl ha0)) (by omega) (g_ca_weigh_ok (zIn_all (l := [48, 106]) (p := fun a => zIn [48, 106] a) rfl ha0) hx1 H_35 h_38) rfl rfl ?_
  intro m_38 p_38 e_38 H_38
  subst e_38
  cases h
  exact r_rv hq (z_at.mk 1 rfl rfl) rfl rfl H_38
def g_ca_ask (a0 : Nat) (x1 : Int) (σ : zS) : Option (Unit × zS) :=
  let v_2 := σ a0 10
  let s_7 := zu σ a0 10 (w32 (v_2 + 1))
  let v_12 := s_7 a0 11
  (g_ca_costOf a0 x1 s_7).bind fun o_17 =>
  let s_21 := zu o_17.2 a0 11 (w32 (v_12 + o_17.1))
  some ((), s_21)
set_option maxHeartbeats 4000000 in
theorem g_ca_ask_ok {xl : Nat} {xs : Nat → Int32} {a0 : Nat} (ha0 : zIn [48, 106] a0 = true) {X1 : Int32} {x1 : Int} (hx1 : X1.toInt = x1) {σ : zS} {p : Nat} {m : zM} {o : Unit × zS} (H : zRep xl xs p m σ) (h : g_ca_ask a0 x1 σ = some o) : zGo xl xs (fun p' => p = p') 4 29 0 (z_can 29 0 (lv_args 0 [.ref a0, .int X1])) [] m vV o.2 := by
  have hq : z_mth 29 = some z_r29 := rfl
  unfold g_ca_ask at h
  show zGo xl xs (fun p' => p = p') 4 29 0 [(0, .ref a0), (1, .int X1)] [] m vV o.2
  refine r_p hq 2 (pc' := 2) (L' := [(0, .ref a0), (1, .int X1)]) (st' := [.ref a0, .ref a0]) rfl ?_
  refine r_gI (pc' := 5) (L' := [(0, .ref a0), (1, .int X1)]) H hq (z_at.mk 3 rfl rfl) rfl (zIn_all (l := [48, 106]) (p := fun a => zQ a 12 10 0) rfl ha0) rfl rfl ?_
  intro V_2 hV_2
  refine r_p hq 2 (pc' := 7) (L' := [(0, .ref a0), (1, .int X1)]) (st' := [.int (V_2 + ((1 : Int32))), .ref a0]) rfl ?_
  refine r_pI (X := V_2 + ((1 : Int32))) (pc' := 10) (L' := [(0, .ref a0), (1, .int X1)]) H hq (z_at.mk 3 rfl rfl) rfl (zIn_all (l := [48, 106]) (p := fun a => zQ a 12 10 0) rfl ha0) (tx_iadd hV_2 (rfl : (1 : Int32).toInt = 1)) (by decide) rfl rfl rfl rfl ?_
  intro m_7 H_7
  refine r_p hq 2 (pc' := 12) (L' := [(0, .ref a0), (1, .int X1)]) (st' := [.ref a0, .ref a0]) rfl ?_
  refine r_gI (pc' := 15) (L' := [(0, .ref a0), (1, .int X1)]) H_7 hq (z_at.mk 3 rfl rfl) rfl (zIn_all (l := [48, 106]) (p := fun a => zQ a 12 11 0) rfl ha0) rfl rfl ?_
  intro V_12 hV_12
  refine r_p hq 2 (pc' := 17) (L' := [(0, .ref a0), (1, .int X1)]) (st' := [.int X1, .ref a0, .int V_12, .ref a0]) rfl ?_
  obtain ⟨o_17, h_17, h⟩ := Option.bind_eq_some_iff.mp h
  refine r_cvI (pc' := 20) (L' := [(0, .ref a0), (1, .int X1)]) (Ps := [.int X1]) (rest := [.int V_12, .ref a0]) hq (z_at.mk 3 rfl rfl) (Or.inl ⟨rfl, rfl⟩) rfl rfl (by decide) (by decide) rfl (Nat.not_lt.mpr (Nat.le_of_ble_eq_true rfl)) rfl rfl (z_cat_le 2 rfl (by decide)) (z_lgl_le 2 rfl (by decide)) (by decide) (H_7.tg (zIn_all (l := [48, 106]) (p := fun a => zT a 12) rfl ha0)) (by omega) (g_ca_costOf_ok (zIn_all (l := [48, 106]) (p := fun a => zIn [48, 106] a) rfl ha0) hx1 H_7 h_17) rfl rfl ?_
  intro R_17 m_17 p_17 e_17 hR_17 H_17
  subst e_17
  refine r_p hq 1 (pc' := 21) (L' := [(0, .ref a0), (1, .int X1)]) (st' := [.int (V_12 + R_17), .ref a0]) rfl ?_
  refine r_pI (X := V_12 + R_17) (pc' := 24) (L' := [(0, .ref a0), (1, .int X1)]) H_17 hq (z_at.mk 3 rfl rfl) rfl (zIn_all (l := [48, 106]) (p := fun a => zQ a 12 11 0) rfl ha0) (tx_iadd hV_12 hR_17) (by decide) rfl rfl rfl rfl ?_
  intro m_21 H_21
  cases h
  exact r_rv hq (z_at.mk 1 rfl rfl) rfl rfl H_21
def g_ca_addLast (a0 : Nat) (x1 : Int) (x2 : Int) (x3 : Int) (y4 : Int) (σ : zS) : Option (Int × zS) :=
  let v_1 := σ a0 2
  if v_1 < 181 then
    let v_17 := σ a0 2
    let v_21 := σ a0 8
    if 0 ≤ v_17 ∧ v_17 < 181 then
    let s_24 := zu σ (a0 + 3) v_17 v_21
    let v_30 := s_24 a0 2
    if 0 ≤ v_30 ∧ v_30 < 181 then
    let s_34 := zu s_24 (a0 + 4) v_30 x1
    let v_40 := s_34 a0 2
    if 0 ≤ v_40 ∧ v_40 < 181 then
    let s_44 := zu s_34 (a0 + 5) v_40 x2
    let v_50 := s_44 a0 2
    if 0 ≤ v_50 ∧ v_50 < 181 then
    let s_54 := zu s_44 (a0 + 6) v_50 x3
    let v_60 := s_54 a0 2
    if 0 ≤ v_60 ∧ v_60 < 181 then
    let s_65 := zu s_54 (a0 + 7) v_60 y4
    let v_68 := s_65 a0 8
    let s_73 := zu s_65 a0 8 (w32 (v_68 + 1))
    let v_78 := s_73 a0 2
    let s_83 := zu s_73 a0 2 (w32 (v_78 + 1))
    some (1, s_83)
    else none
    else none
    else none
    else none
    else none
  else
    some (0, σ)
set_option maxHeartbeats 4000000 in
theorem g_ca_addLast_ok {xl : Nat} {xs : Nat → Int32} {a0 : Nat} (ha0 : zIn [48, 106] a0 = true) {X1 : Int32} {x1 : Int} (hx1 : X1.toInt = x1) {X2 : Int32} {x2 : Int} (hx2 : X2.toInt = x2) {X3 : Int32} {x3 : Int} (hx3 : X3.toInt = x3) {Y4 : Int64} {y4 : Int} (hy4 : Y4.toInt = y4) {σ : zS} {p : Nat} {m : zM} {o : Int × zS} (H : zRep xl xs p m σ) (h : g_ca_addLast a0 x1 x2 x3 y4 σ = some o) : zGo xl xs (fun p' => p = p') 1 31 0 (z_can 31 0 (lv_args 0 [.ref a0, .int X1, .int X2, .int X3, .long Y4])) [] m (vI o.1) o.2 := by
  have hq : z_mth 31 = some z_r31 := rfl
  unfold g_ca_addLast at h
  show zGo xl xs (fun p' => p = p') 1 31 0 [(0, .ref a0), (1, .int X1), (2, .int X2), (3, .int X3), (4, .long Y4)] [] m (vI o.1) o.2
  refine r_p hq 1 (pc' := 1) (L' := [(0, .ref a0), (1, .int X1), (2, .int X2), (3, .int X3), (4, .long Y4)]) (st' := [.ref a0]) rfl ?_
  refine r_gI (pc' := 4) (L' := [(0, .ref a0), (1, .int X1), (2, .int X2), (3, .int X3), (4, .long Y4)]) H hq (z_at.mk 3 rfl rfl) rfl (zIn_all (l := [48, 106]) (p := fun a => zQ a 12 2 0) rfl ha0) rfl rfl ?_
  intro V_1 hV_1
  refine r_p hq 1 (pc' := 7) (L' := [(0, .ref a0), (1, .int X1), (2, .int X2), (3, .int X3), (4, .long Y4)]) (st' := [.int ((181 : Int32)), .int V_1]) rfl ?_
  rcases z_ite h with ⟨c_7, h⟩ | ⟨c_7, h⟩
  · refine r_t2 (pc' := 12) (L' := [(0, .ref a0), (1, .int X1), (2, .int X2), (3, .int X3), (4, .long Y4)]) hq (z_at.mk 3 rfl rfl) rfl hV_1 (rfl : (181 : Int32).toInt = 181) c_7 rfl rfl ?_
    refine r_p hq 1 (pc' := 13) (L' := [(0, .ref a0), (1, .int X1), (2, .int X2), (3, .int X3), (4, .long Y4)]) (st' := [.ref a0]) rfl ?_
    refine r_gR (b := a0 + 3) (pc' := 16) (L' := [(0, .ref a0), (1, .int X1), (2, .int X2), (3, .int X3), (4, .long Y4)]) H hq (z_at.mk 3 rfl rfl) rfl (zIn_all (l := [48, 106]) (p := fun a => zQ a 12 3 (100 + a + 3)) rfl ha0) rfl rfl ?_
    refine r_p hq 1 (pc' := 17) (L' := [(0, .ref a0), (1, .int X1), (2, .int X2), (3, .int X3), (4, .long Y4)]) (st' := [.ref a0, .ref (a0 + 3)]) rfl ?_
    refine r_gI (pc' := 20) (L' := [(0, .ref a0), (1, .int X1), (2, .int X2), (3, .int X3), (4, .long Y4)]) H hq (z_at.mk 3 rfl rfl) rfl (zIn_all (l := [48, 106]) (p := fun a => zQ a 12 2 0) rfl ha0) rfl rfl ?_
    intro V_17 hV_17
    refine r_p hq 1 (pc' := 21) (L' := [(0, .ref a0), (1, .int X1), (2, .int X2), (3, .int X3), (4, .long Y4)]) (st' := [.ref a0, .int V_17, .ref (a0 + 3)]) rfl ?_
    refine r_gI (pc' := 24) (L' := [(0, .ref a0), (1, .int X1), (2, .int X2), (3, .int X3), (4, .long Y4)]) H hq (z_at.mk 3 rfl rfl) rfl (zIn_all (l := [48, 106]) (p := fun a => zQ a 12 8 0) rfl ha0) rfl rfl ?_
    intro V_21 hV_21
    obtain ⟨g_24, h⟩ := z_ifo_some h
    refine r_is (pc' := 25) (L' := [(0, .ref a0), (1, .int X1), (2, .int X2), (3, .int X3), (4, .long Y4)]) H hq (z_at.mk 1 rfl rfl) (zIn_all (l := [48, 106]) (p := fun a => zAr (a + 3) 0 181) rfl ha0) hV_17 g_24 hV_21 rfl rfl ?_
    intro m_24 H_24
    refine r_p hq 1 (pc' := 26) (L' := [(0, .ref a0), (1, .int X1), (2, .int X2), (3, .int X3), (4, .long Y4)]) (st' := [.ref a0]) rfl ?_
    refine r_gR (b := a0 + 4) (pc' := 29) (L' := [(0, .ref a0), (1, .int X1), (2, .int X2), (3, .int X3), (4, .long Y4)]) H_24 hq (z_at.mk 3 rfl rfl) rfl (zIn_all (l := [48, 106]) (p := fun a => zQ a 12 4 (100 + a + 4)) rfl ha0) rfl rfl ?_
    refine r_p hq 1 (pc' := 30) (L' := [(0, .ref a0), (1, .int X1), (2, .int X2), (3, .int X3), (4, .long Y4)]) (st' := [.ref a0, .ref (a0 + 4)]) rfl ?_
    refine r_gI (pc' := 33) (L' := [(0, .ref a0), (1, .int X1), (2, .int X2), (3, .int X3), (4, .long Y4)]) H_24 hq (z_at.mk 3 rfl rfl) rfl (zIn_all (l := [48, 106]) (p := fun a => zQ a 12 2 0) rfl ha0) rfl rfl ?_
    intro V_30 hV_30
    refine r_p hq 1 (pc' := 34) (L' := [(0, .ref a0), (1, .int X1), (2, .int X2), (3, .int X3), (4, .long Y4)]) (st' := [.int X1, .int V_30, .ref (a0 + 4)]) rfl ?_
    obtain ⟨g_34, h⟩ := z_ifo_some h
    refine r_is (pc' := 35) (L' := [(0, .ref a0), (1, .int X1), (2, .int X2), (3, .int X3), (4, .long Y4)]) H_24 hq (z_at.mk 1 rfl rfl) (zIn_all (l := [48, 106]) (p := fun a => zAr (a + 4) 0 181) rfl ha0) hV_30 g_34 hx1 rfl rfl ?_
    intro m_34 H_34
    refine r_p hq 1 (pc' := 36) (L' := [(0, .ref a0), (1, .int X1), (2, .int X2), (3, .int X3), (4, .long Y4)]) (st' := [.ref a0]) rfl ?_
    refine r_gR (b := a0 + 5) (pc' := 39) (L' := [(0, .ref a0), (1, .int X1), (2, .int X2), (3, .int X3), (4, .long Y4)]) H_34 hq (z_at.mk 3 rfl rfl) rfl (zIn_all (l := [48, 106]) (p := fun a => zQ a 12 5 (100 + a + 5)) rfl ha0) rfl rfl ?_
    refine r_p hq 1 (pc' := 40) (L' := [(0, .ref a0), (1, .int X1), (2, .int X2), (3, .int X3), (4, .long Y4)]) (st' := [.ref a0, .ref (a0 + 5)]) rfl ?_
    refine r_gI (pc' := 43) (L' := [(0, .ref a0), (1, .int X1), (2, .int X2), (3, .int X3), (4, .long Y4)]) H_34 hq (z_at.mk 3 rfl rfl) rfl (zIn_all (l := [48, 106]) (p := fun a => zQ a 12 2 0) rfl ha0) rfl rfl ?_
    intro V_40 hV_40
    refine r_p hq 1 (pc' := 44) (L' := [(0, .ref a0), (1, .int X1), (2, .int X2), (3, .int X3), (4, .long Y4)]) (st' := [.int X2, .int V_40, .ref (a0 + 5)]) rfl ?_
    obtain ⟨g_44, h⟩ := z_ifo_some h
    refine r_is (pc' := 45) (L' := [(0, .ref a0), (1, .int X1), (2, .int X2), (3, .int X3), (4, .long Y4)]) H_34 hq (z_at.mk 1 rfl rfl) (zIn_all (l := [48, 106]) (p := fun a => zAr (a + 5) 0 181) rfl ha0) hV_40 g_44 hx2 rfl rfl ?_
    intro m_44 H_44
    refine r_p hq 1 (pc' := 46) (L' := [(0, .ref a0), (1, .int X1), (2, .int X2), (3, .int X3), (4, .long Y4)]) (st' := [.ref a0]) rfl ?_
    refine r_gR (b := a0 + 6) (pc' := 49) (L' := [(0, .ref a0), (1, .int X1), (2, .int X2), (3, .int X3), (4, .long Y4)]) H_44 hq (z_at.mk 3 rfl rfl) rfl (zIn_all (l := [48, 106]) (p := fun a => zQ a 12 6 (100 + a + 6)) rfl ha0) rfl rfl ?_
    refine r_p hq 1 (pc' := 50) (L' := [(0, .ref a0), (1, .int X1), (2, .int X2), (3, .int X3), (4, .long Y4)]) (st' := [.ref a0, .ref (a0 + 6)]) rfl ?_
    refine r_gI (pc' := 53) (L' := [(0, .ref a0), (1, .int X1), (2, .int X2), (3, .int X3), (4, .long Y4)]) H_44 hq (z_at.mk 3 rfl rfl) rfl (zIn_all (l := [48, 106]) (p := fun a => zQ a 12 2 0) rfl ha0) rfl rfl ?_
    intro V_50 hV_50
    refine r_p hq 1 (pc' := 54) (L' := [(0, .ref a0), (1, .int X1), (2, .int X2), (3, .int X3), (4, .long Y4)]) (st' := [.int X3, .int V_50, .ref (a0 + 6)]) rfl ?_
    obtain ⟨g_54, h⟩ := z_ifo_some h
    refine r_is (pc' := 55) (L' := [(0, .ref a0), (1, .int X1), (2, .int X2), (3, .int X3), (4, .long Y4)]) H_44 hq (z_at.mk 1 rfl rfl) (zIn_all (l := [48, 106]) (p := fun a => zAr (a + 6) 0 181) rfl ha0) hV_50 g_54 hx3 rfl rfl ?_
    intro m_54 H_54
    refine r_p hq 1 (pc' := 56) (L' := [(0, .ref a0), (1, .int X1), (2, .int X2), (3, .int X3), (4, .long Y4)]) (st' := [.ref a0]) rfl ?_
    refine r_gR (b := a0 + 7) (pc' := 59) (L' := [(0, .ref a0), (1, .int X1), (2, .int X2), (3, .int X3), (4, .long Y4)]) H_54 hq (z_at.mk 3 rfl rfl) rfl (zIn_all (l := [48, 106]) (p := fun a => zQ a 12 7 (100 + a + 7)) rfl ha0) rfl rfl ?_
    refine r_p hq 1 (pc' := 60) (L' := [(0, .ref a0), (1, .int X1), (2, .int X2), (3, .int X3), (4, .long Y4)]) (st' := [.ref a0, .ref (a0 + 7)]) rfl ?_
    refine r_gI (pc' := 63) (L' := [(0, .ref a0), (1, .int X1), (2, .int X2), (3, .int X3), (4, .long Y4)]) H_54 hq (z_at.mk 3 rfl rfl) rfl (zIn_all (l := [48, 106]) (p := fun a => zQ a 12 2 0) rfl ha0) rfl rfl ?_
    intro V_60 hV_60
    refine r_p hq 1 (pc' := 65) (L' := [(0, .ref a0), (1, .int X1), (2, .int X2), (3, .int X3), (4, .long Y4)]) (st' := [.long Y4, .int V_60, .ref (a0 + 7)]) rfl ?_
    obtain ⟨g_65, h⟩ := z_ifo_some h
    refine r_ls (pc' := 66) (L' := [(0, .ref a0), (1, .int X1), (2, .int X2), (3, .int X3), (4, .long Y4)]) H_54 hq (z_at.mk 1 rfl rfl) (zIn_all (l := [48, 106]) (p := fun a => zAr (a + 7) 1 181) rfl ha0) hV_60 g_65 hy4 rfl rfl ?_
    intro m_65 H_65
    refine r_p hq 2 (pc' := 68) (L' := [(0, .ref a0), (1, .int X1), (2, .int X2), (3, .int X3), (4, .long Y4)]) (st' := [.ref a0, .ref a0]) rfl ?_
    refine r_gI (pc' := 71) (L' := [(0, .ref a0), (1, .int X1), (2, .int X2), (3, .int X3), (4, .long Y4)]) H_65 hq (z_at.mk 3 rfl rfl) rfl (zIn_all (l := [48, 106]) (p := fun a => zQ a 12 8 0) rfl ha0) rfl rfl ?_
    intro V_68 hV_68
    refine r_p hq 2 (pc' := 73) (L' := [(0, .ref a0), (1, .int X1), (2, .int X2), (3, .int X3), (4, .long Y4)]) (st' := [.int (V_68 + ((1 : Int32))), .ref a0]) rfl ?_
    refine r_pI (X := V_68 + ((1 : Int32))) (pc' := 76) (L' := [(0, .ref a0), (1, .int X1), (2, .int X2), (3, .int X3), (4, .long Y4)]) H_65 hq (z_at.mk 3 rfl rfl) rfl (zIn_all (l := [48, 106]) (p := fun a => zQ a 12 8 0) rfl ha0) (tx_iadd hV_68 (rfl : (1 : Int32).toInt = 1)) (by decide) rfl rfl rfl rfl ?_
    intro m_73 H_73
    refine r_p hq 2 (pc' := 78) (L' := [(0, .ref a0), (1, .int X1), (2, .int X2), (3, .int X3), (4, .long Y4)]) (st' := [.ref a0, .ref a0]) rfl ?_
    refine r_gI (pc' := 81) (L' := [(0, .ref a0), (1, .int X1), (2, .int X2), (3, .int X3), (4, .long Y4)]) H_73 hq (z_at.mk 3 rfl rfl) rfl (zIn_all (l := [48, 106]) (p := fun a => zQ a 12 2 0) rfl ha0) rfl rfl ?_
    intro V_78 hV_78
    refine r_p hq 2 (pc' := 83) (L' := [(0, .ref a0), (1, .int X1), (2, .int X2), (3, .int X3), (4, .long Y4)]) (st' := [.int (V_78 + ((1 : Int32))), .ref a0]) rfl ?_
    refine r_pI (X := V_78 + ((1 : Int32))) (pc' := 86) (L' := [(0, .ref a0), (1, .int X1), (2, .int X2), (3, .int X3), (4, .long Y4)]) H_73 hq (z_at.mk 3 rfl rfl) rfl (zIn_all (l := [48, 106]) (p := fun a => zQ a 12 2 0) rfl ha0) (tx_iadd hV_78 (rfl : (1 : Int32).toInt = 1)) (by decide) rfl rfl rfl rfl ?_
    intro m_83 H_83
    refine r_p hq 1 (pc' := 87) (L' := [(0, .ref a0), (1, .int X1), (2, .int X2), (3, .int X3), (4, .long Y4)]) (st' := [.int ((1 : Int32))]) rfl ?_
    cases h
    exact r_ri hq (z_at.mk 1 rfl rfl) rfl rfl (rfl : (1 : Int32).toInt = 1) rfl H_83
  · refine r_f2 (pc' := 10) (L' := [(0, .ref a0), (1, .int X1), (2, .int X2), (3, .int X3), (4, .long Y4)]) hq (z_at.mk 3 rfl rfl) rfl hV_1 (rfl : (181 : Int32).toInt = 181) c_7 rfl rfl ?_
    refine r_p hq 1 (pc' := 11) (L' := [(0, .ref a0), (1, .int X1), (2, .int X2), (3, .int X3), (4, .long Y4)]) (st' := [.int ((0 : Int32))]) rfl ?_
    cases h
    exact r_ri hq (z_at.mk 1 rfl rfl) rfl rfl (rfl : (0 : Int32).toInt = 0) rfl H
def g_ca_addNew (a0 : Nat) (x1 : Int) (σ : zS) : Option (Unit × zS) :=
  (g_ca_addLast a0 x1 0 (-1) 0 σ).bind fun o_5 =>
  if o_5.1 = 0 then
    some ((), o_5.2)
  else
    let v_13 := o_5.2 a0 2
    (g_ca_weigh a0 (w32 (v_13 - 1)) o_5.2).bind fun o_18 =>
    some ((), o_18.2)
set_option maxHeartbeats 4000000 in
theorem g_ca_addNew_ok {xl : Nat} {xs : Nat → Int32} {a0 : Nat} (ha0 : zIn [48, 106] a0 = true) {X1 : Int32} {x1 : Int} (hx1 : X1.toInt = x1) {σ : zS} {p : Nat} {m : zM} {o : Unit × zS} (H : zRep xl xs p m σ) (h : g_ca_addNew a0 x1 σ = some o) : zGo xl xs (fun p' => p = p') 4 30 0 (z_can 30 0 (lv_args 0 [.ref a0, .int X1])) [] m vV o.2 := by
  have hq : z_mth 30 = some z_r30 := rfl
  unfold g_ca_addNew at h
  show zGo xl xs (fun p' => p = p') 4 30 0 [(0, .ref a0), (1, .int X1)] [] m vV o.2
  refine r_p hq 5 (pc' := 5) (L' := [(0, .ref a0), (1, .int X1)]) (st' := [.long ((0 : Int64)), .int ((-1 : Int32)), .int ((0 : Int32)), .int X1, .ref a0]) rfl ?_
  obtain ⟨o_5, h_5, h⟩ := Option.bind_eq_some_iff.mp h
  refine r_cvI (pc' := 8) (L' := [(0, .ref a0), (1, .int X1)]) (Ps := [.int X1, .int ((0 : Int32)), .int ((-1 : Int32)), .long ((0 : Int64))]) (rest := []) hq (z_at.mk 3 rfl rfl) (Or.inl ⟨rfl, rfl⟩) rfl rfl (by decide) (by decide) rfl (Nat.not_lt.mpr (Nat.le_of_ble_eq_true rfl)) rfl rfl (z_cat_le 0 rfl (by decide)) (z_lgl_le 6 rfl (by decide)) (by decide) (H.tg (zIn_all (l := [48, 106]) (p := fun a => zT a 12) rfl ha0)) (by omega) (g_ca_addLast_ok (zIn_all (l := [48, 106]) (p := fun a => zIn [48, 106] a) rfl ha0) hx1 (rfl : (0 : Int32).toInt = 0) (rfl : (-1 : Int32).toInt = -1) (rfl : (0 : Int64).toInt = 0) H h_5) rfl rfl ?_
  intro R_5 m_5 p_5 e_5 hR_5 H_5
  subst e_5
  rcases z_ite h with ⟨c_8, h⟩ | ⟨c_8, h⟩
  · refine r_t1 (pc' := 21) (L' := []) hq (z_at.mk 3 rfl rfl) rfl hR_5 c_8 rfl rfl ?_
    cases h
    exact r_rv hq (z_at.mk 1 rfl rfl) rfl rfl H_5
  · refine r_f1 (pc' := 11) (L' := [(0, .ref a0), (1, .int X1)]) hq (z_at.mk 3 rfl rfl) rfl hR_5 c_8 rfl rfl ?_
    refine r_p hq 2 (pc' := 13) (L' := [(0, .ref a0), (1, .int X1)]) (st' := [.ref a0, .ref a0]) rfl ?_
    refine r_gI (pc' := 16) (L' := [(0, .ref a0), (1, .int X1)]) H_5 hq (z_at.mk 3 rfl rfl) rfl (zIn_all (l := [48, 106]) (p := fun a => zQ a 12 2 0) rfl ha0) rfl rfl ?_
    intro V_13 hV_13
    refine r_p hq 2 (pc' := 18) (L' := [(0, .ref a0), (1, .int X1)]) (st' := [.int (V_13 - ((1 : Int32))), .ref a0]) rfl ?_
    obtain ⟨o_18, h_18, h⟩ := Option.bind_eq_some_iff.mp h
    refine r_cvV (pc' := 21) (L' := []) (Ps := [.int (V_13 - ((1 : Int32)))]) (rest := []) hq (z_at.mk 3 rfl rfl) (Or.inl ⟨rfl, rfl⟩) rfl rfl (by decide) (by decide) rfl (Nat.not_lt.mpr (Nat.le_of_ble_eq_true rfl)) rfl rfl (z_cat_le 0 rfl (by decide)) (z_lgl_le 2 rfl (by decide)) (by decide) (H_5.tg (zIn_all (l := [48, 106]) (p := fun a => zT a 12) rfl ha0)) (by omega) (g_ca_weigh_ok (zIn_all (l := [48, 106]) (p := fun a => zIn [48, 106] a) rfl ha0) (tx_isub hV_13 (rfl : (1 : Int32).toInt = 1)) H_5 h_18) rfl rfl ?_
    intro m_18 p_18 e_18 H_18
    subst e_18
    cases h
    exact r_rv hq (z_at.mk 1 rfl rfl) rfl rfl H_18
def g_ca_serve_L44 (a0 : Nat) (g8 : Int → Int → zS → Option (Unit × zS)) (x1 : Int) (x2 : Int) (σ : zS) : Option (Unit × zS) :=
  g8 x1 (w32 (x2 + 1)) σ
set_option maxHeartbeats 4000000 in
theorem g_ca_serve_L44_ok {xl : Nat} {xs : Nat → Int32} {a0 : Nat} (ha0 : zIn [48, 106] a0 = true) {g8 : Int → Int → zS → Option (Unit × zS)} (hg8 : ∀ {X1 : Int32} {x1 : Int} {X2 : Int32} {x2 : Int} {σ : zS} {p : Nat} {m : zM} {o : Unit × zS}, X1.toInt = x1 → X2.toInt = x2 → zRep xl xs p m σ → g8 x1 x2 σ = some o → zGo xl xs (fun p' => p = p') 6 25 8 [(0, .ref a0), (1, .int X1), (2, .int X2)] [] m vV o.2) {X1 : Int32} {x1 : Int} (hx1 : X1.toInt = x1) {X2 : Int32} {x2 : Int} (hx2 : X2.toInt = x2) {σ : zS} {p : Nat} {m : zM} {o : Unit × zS} (H : zRep xl xs p m σ) (h : g_ca_serve_L44 a0 g8 x1 x2 σ = some o) : zGo xl xs (fun p' => p = p') 6 25 44 [(0, .ref a0), (1, .int X1), (2, .int X2)] [] m vV o.2 := by
  have hq : z_mth 25 = some z_r25 := rfl
  unfold g_ca_serve_L44 at h
  refine r_p hq 2 (pc' := 8) (L' := [(0, .ref a0), (1, .int X1), (2, .int (X2 + (1 : Int32)))]) (st' := []) rfl ?_
  exact hg8 hx1 (tx_iadd hx2 (rfl : (1 : Int32).toInt = 1)) H h
def g_ca_serve_L98 (a0 : Nat) (g52 : Int → zS → Option (Unit × zS)) (x2 : Int) (σ : zS) : Option (Unit × zS) :=
  g52 (w32 (x2 + 1)) σ
set_option maxHeartbeats 4000000 in
theorem g_ca_serve_L98_ok {xl : Nat} {xs : Nat → Int32} {a0 : Nat} (ha0 : zIn [48, 106] a0 = true) {g52 : Int → zS → Option (Unit × zS)} (hg52 : ∀ {X2 : Int32} {x2 : Int} {σ : zS} {p : Nat} {m : zM} {o : Unit × zS}, X2.toInt = x2 → zRep xl xs p m σ → g52 x2 σ = some o → zGo xl xs (fun p' => p = p') 6 25 52 [(0, .ref a0), (2, .int X2)] [] m vV o.2) {X2 : Int32} {x2 : Int} (hx2 : X2.toInt = x2) {σ : zS} {p : Nat} {m : zM} {o : Unit × zS} (H : zRep xl xs p m σ) (h : g_ca_serve_L98 a0 g52 x2 σ = some o) : zGo xl xs (fun p' => p = p') 6 25 98 [(0, .ref a0), (2, .int X2)] [] m vV o.2 := by
  have hq : z_mth 25 = some z_r25 := rfl
  unfold g_ca_serve_L98 at h
  refine r_p hq 2 (pc' := 52) (L' := [(0, .ref a0), (2, .int (X2 + (1 : Int32)))]) (st' := []) rfl ?_
  exact hg52 (tx_iadd hx2 (rfl : (1 : Int32).toInt = 1)) H h
def g_ca_serve_L52 (a0 : Nat) : Nat → Int → zS → Option (Unit × zS)
  | 0, _, _ => none
  | n + 1, x2, σ =>
    let v_57 := σ (a0 + 8) 1
    if v_57 ≤ x2 then
      (g_ca_merge a0 σ).bind fun o_105 =>
      (g_ca_trim a0 o_105.2).bind fun o_109 =>
      some ((), o_109.2)
    else
      (g_bs_at (a0 + 8) x2 σ).bind fun o_68 =>
      (g_ca_ask a0 o_68.1 o_68.2).bind fun o_74 =>
      (g_b_area o_68.1 o_74.2).bind fun o_78 =>
      (g_se_of (a0 + 1) 6 o_78.2).bind fun o_87 =>
      if o_87.1 < o_78.1 then
        g_ca_serve_L98 a0 ((g_ca_serve_L52 a0 n)) x2 o_87.2
      else
        (g_ca_addNew a0 o_68.1 o_87.2).bind fun o_95 =>
        g_ca_serve_L98 a0 ((g_ca_serve_L52 a0 n)) x2 o_95.2
set_option maxHeartbeats 4000000 in
theorem g_ca_serve_L52_ok {xl : Nat} {xs : Nat → Int32} {a0 : Nat} (ha0 : zIn [48, 106] a0 = true) : ∀ (n : Nat) {X2 : Int32} {x2 : Int} {σ : zS} {p : Nat} {m : zM} {o : Unit × zS}, X2.toInt = x2 → zRep xl xs p m σ → g_ca_serve_L52 a0 n x2 σ = some o → zGo xl xs (fun p' => p = p') 6 25 52 [(0, .ref a0), (2, .int X2)] [] m vV o.2
  | 0, _, _, _, _, _, _, _, _, h => by cases h
  | n + 1, X2, x2, σ, p, m, o, hx2, H, h => by
    have hq : z_mth 25 = some z_r25 := rfl
    have ih := fun {X2 : Int32} {x2 : Int} {σ : zS} {p : Nat} {m : zM} {o : Unit × zS} => g_ca_serve_L52_ok (xl := xl) (xs := xs) ha0 n (X2 := X2) (x2 := x2) (σ := σ) (p := p) (m := m) (o := o)
    unfold g_ca_serve_L52 at h
    refine r_p hq 2 (pc' := 54) (L' := [(0, .ref a0), (2, .int X2)]) (st' := [.ref a0, .int X2]) rfl ?_
    refine r_gR (b := a0 + 8) (pc' := 57) (L' := [(0, .ref a0), (2, .int X2)]) H hq (z_at.mk 3 rfl rfl) rfl (zIn_all (l := [48, 106]) (p := fun a => zQ a 12 16 (100 + a + 8)) rfl ha0) rfl rfl ?_
    refine r_gI (pc' := 60) (L' := [(0, .ref a0), (2, .int X2)]) H hq (z_at.mk 3 rfl rfl) rfl (zIn_all (l := [48, 106]) (p := fun a => zQ (a + 8) 11 1 0) rfl ha0) rfl rfl ?_
    intro V_57 hV_57
    rcases z_ite h with ⟨c_60, h⟩ | ⟨c_60, h⟩
    · refine r_t2 (pc' := 104) (L' := [(0, .ref a0), (2, .int X2)]) hq (z_at.mk 3 rfl rfl) rfl hx2 hV_57 c_60 rfl rfl ?_
      refine r_p hq 1 (pc' := 105) (L' := [(0, .ref a0), (2, .int X2)]) (st' := [.ref a0]) rfl ?_
      obtain ⟨o_105, h_105, h⟩ := Option.bind_eq_some_iff.mp h
      refine r_cvV (pc' := 108) (L' := [(0, .ref a0), (2, .int X2)]) (Ps := []) (rest := []) hq (z_at.mk 3 rfl rfl) (Or.inl ⟨rfl, rfl⟩) rfl rfl (by decide) (by decide) rfl (Nat.not_lt.mpr (Nat.le_of_ble_eq_true rfl)) rfl rfl (z_cat_le 0 rfl (by decide)) (z_lgl_le 1 rfl (by decide)) (by decide) (H.tg (zIn_all (l := [48, 106]) (p := fun a => zT a 12) rfl ha0)) (by omega) (g_ca_merge_ok (zIn_all (l := [48, 106]) (p := fun a => zIn [48, 106] a) rfl ha0) H h_105) rfl rfl ?_
      intro m_105 p_105 e_105 H_105
      subst e_105
      refine r_p hq 1 (pc' := 109) (L' := [(0, .ref a0), (2, .int X2)]) (st' := [.ref a0]) rfl ?_
      obtain ⟨o_109, h_109, h⟩ := Option.bind_eq_some_iff.mp h
      refine r_cvV (pc' := 112) (L' := [(0, .ref a0), (2, .int X2)]) (Ps := []) (rest := []) hq (z_at.mk 3 rfl rfl) (Or.inl ⟨rfl, rfl⟩) rfl rfl (by decide) (by decide) rfl (Nat.not_lt.mpr (Nat.le_of_ble_eq_true rfl)) rfl rfl (z_cat_le 0 rfl (by decide)) (z_lgl_le 1 rfl (by decide)) (by decide) (H_105.tg (zIn_all (l := [48, 106]) (p := fun a => zT a 12) rfl ha0)) (by omega) (g_ca_trim_ok (zIn_all (l := [48, 106]) (p := fun a => zIn [48, 106] a) rfl ha0) H_105 h_109) rfl rfl ?_
      intro m_109 p_109 e_109 H_109
      subst e_109
      cases h
      exact r_rv hq (z_at.mk 1 rfl rfl) rfl rfl H_109
    · refine r_f2 (pc' := 63) (L' := [(0, .ref a0), (2, .int X2)]) hq (z_at.mk 3 rfl rfl) rfl hx2 hV_57 c_60 rfl rfl ?_
      refine r_p hq 1 (pc' := 64) (L' := [(0, .ref a0), (2, .int X2)]) (st' := [.ref a0]) rfl ?_
      refine r_gR (b := a0 + 8) (pc' := 67) (L' := [(0, .ref a0), (2, .int X2)]) H hq (z_at.mk 3 rfl rfl) rfl (zIn_all (l := [48, 106]) (p := fun a => zQ a 12 16 (100 + a + 8)) rfl ha0) rfl rfl ?_
      refine r_p hq 1 (pc' := 68) (L' := [(0, .ref a0), (2, .int X2)]) (st' := [.int X2, .ref (a0 + 8)]) rfl ?_
      obtain ⟨o_68, h_68, h⟩ := Option.bind_eq_some_iff.mp h
      refine r_cvI (pc' := 71) (L' := [(0, .ref a0), (2, .int X2)]) (Ps := [.int X2]) (rest := []) hq (z_at.mk 3 rfl rfl) (Or.inl ⟨rfl, rfl⟩) rfl rfl (by decide) (by decide) rfl (Nat.not_lt.mpr (Nat.le_of_ble_eq_true rfl)) rfl rfl (z_cat_le 0 rfl (by decide)) (z_lgl_le 2 rfl (by decide)) (by decide) (H.tg (zIn_all (l := [48, 106]) (p := fun a => zT (a + 8) 11) rfl ha0)) (by omega) (g_bs_at_ok (zIn_all (l := [48, 106]) (p := fun a => zIn [56, 58, 63, 96, 114, 116, 126, 131] (a + 8)) rfl ha0) hx2 H h_68) rfl rfl ?_
      intro R_68 m_68 p_68 e_68 hR_68 H_68
      subst e_68
      refine r_p hq 3 (pc' := 74) (L' := [(3, .int R_68), (0, .ref a0), (2, .int X2)]) (st' := [.int R_68, .ref a0]) rfl ?_
      obtain ⟨o_74, h_74, h⟩ := Option.bind_eq_some_iff.mp h
      refine r_cvV (pc' := 77) (L' := [(3, .int R_68), (0, .ref a0), (2, .int X2)]) (Ps := [.int R_68]) (rest := []) hq (z_at.mk 3 rfl rfl) (Or.inl ⟨rfl, rfl⟩) rfl rfl (by decide) (by decide) rfl (Nat.not_lt.mpr (Nat.le_of_ble_eq_true rfl)) rfl rfl (z_cat_le 0 rfl (by decide)) (z_lgl_le 2 rfl (by decide)) (by decide) (H_68.tg (zIn_all (l := [48, 106]) (p := fun a => zT a 12) rfl ha0)) (by omega) (g_ca_ask_ok (zIn_all (l := [48, 106]) (p := fun a => zIn [48, 106] a) rfl ha0) hR_68 H_68 h_74) rfl rfl ?_
      intro m_74 p_74 e_74 H_74
      subst e_74
      refine r_p hq 1 (pc' := 78) (L' := [(3, .int R_68), (0, .ref a0), (2, .int X2)]) (st' := [.int R_68]) rfl ?_
      obtain ⟨o_78, h_78, h⟩ := Option.bind_eq_some_iff.mp h
      refine r_csI (pc' := 81) (L' := [(3, .int R_68), (0, .ref a0), (2, .int X2)]) (As := [.int R_68]) (rest := []) (j := 8) hq (z_at.mk 3 rfl rfl) (Or.inl ⟨rfl, rfl⟩) rfl rfl (by omega) (g_b_area_ok hR_68 H_74 h_78) rfl rfl ?_
      intro R_78 m_78 p_78 e_78 hR_78 H_78
      subst e_78
      refine r_p hq 1 (pc' := 82) (L' := [(3, .int R_68), (0, .ref a0), (2, .int X2)]) (st' := [.ref a0, .int R_78]) rfl ?_
      refine r_gR (b := a0 + 1) (pc' := 85) (L' := [(3, .int R_68), (0, .ref a0), (2, .int X2)]) H_78 hq (z_at.mk 3 rfl rfl) rfl (zIn_all (l := [48, 106]) (p := fun a => zQ a 12 1 (100 + a + 1)) rfl ha0) rfl rfl ?_
      refine r_p hq 1 (pc' := 87) (L' := [(3, .int R_68), (0, .ref a0), (2, .int X2)]) (st' := [.int ((6 : Int32)), .ref (a0 + 1), .int R_78]) rfl ?_
      obtain ⟨o_87, h_87, h⟩ := Option.bind_eq_some_iff.mp h
      refine r_cvI (pc' := 90) (L' := [(3, .int R_68), (0, .ref a0), (2, .int X2)]) (Ps := [.int ((6 : Int32))]) (rest := [.int R_78]) hq (z_at.mk 3 rfl rfl) (Or.inl ⟨rfl, rfl⟩) rfl rfl (by decide) (by decide) rfl (Nat.not_lt.mpr (Nat.le_of_ble_eq_true rfl)) rfl rfl (z_cat_le 1 rfl (by decide)) (z_lgl_le 2 rfl (by decide)) (by decide) (H_78.tg (zIn_all (l := [48, 106]) (p := fun a => zT (a + 1) 16) rfl ha0)) (by omega) (g_se_of_ok (zIn_all (l := [48, 106]) (p := fun a => zIn [49, 82, 107, 118] (a + 1)) rfl ha0) (rfl : (6 : Int32).toInt = 6) H_78 h_87) rfl rfl ?_
      intro R_87 m_87 p_87 e_87 hR_87 H_87
      subst e_87
      rcases z_ite h with ⟨c_90, h⟩ | ⟨c_90, h⟩
      · refine r_t2 (pc' := 98) (L' := [(0, .ref a0), (2, .int X2)]) hq (z_at.mk 3 rfl rfl) rfl hR_78 hR_87 c_90 rfl rfl ?_
        exact g_ca_serve_L98_ok ha0 ih hx2 H_87 h
      · refine r_f2 (pc' := 93) (L' := [(3, .int R_68), (0, .ref a0), (2, .int X2)]) hq (z_at.mk 3 rfl rfl) rfl hR_78 hR_87 c_90 rfl rfl ?_
        refine r_p hq 2 (pc' := 95) (L' := [(3, .int R_68), (0, .ref a0), (2, .int X2)]) (st' := [.int R_68, .ref a0]) rfl ?_
        obtain ⟨o_95, h_95, h⟩ := Option.bind_eq_some_iff.mp h
        refine r_cvV (pc' := 98) (L' := [(0, .ref a0), (2, .int X2)]) (Ps := [.int R_68]) (rest := []) hq (z_at.mk 3 rfl rfl) (Or.inl ⟨rfl, rfl⟩) rfl rfl (by decide) (by decide) rfl (Nat.not_lt.mpr (Nat.le_of_ble_eq_true rfl)) rfl rfl (z_cat_le 0 rfl (by decide)) (z_lgl_le 2 rfl (by decide)) (by decide) (H_87.tg (zIn_all (l := [48, 106]) (p := fun a => zT a 12) rfl ha0)) (by omega) (g_ca_addNew_ok (zIn_all (l := [48, 106]) (p := fun a => zIn [48, 106] a) rfl ha0) hR_68 H_87 h_95) rfl rfl ?_
        intro m_95 p_95 e_95 H_95
        subst e_95
        exact g_ca_serve_L98_ok ha0 ih hx2 H_95 h
def g_ca_serve_L8 (a0 : Nat) : Nat → Int → Int → zS → Option (Unit × zS)
  | 0, _, _, _ => none
  | n + 1, x1, x2, σ =>
    let v_10 := σ a0 2
    if v_10 ≤ x2 then
      g_ca_serve_L52 a0 zK 0 σ
    else
      if 0 ≤ x2 ∧ x2 < 181 then
      let v_21 := σ (a0 + 4) x2
      (g_b_meet v_21 x1 σ).bind fun o_23 =>
      if o_23.1 = 0 then
        g_ca_serve_L44 a0 ((g_ca_serve_L8 a0 n)) x1 x2 o_23.2
      else
        if 0 ≤ x2 ∧ x2 < 181 then
        let v_36 := o_23.2 (a0 + 4) x2
        (g_b_common v_36 x1 o_23.2).bind fun o_38 =>
        (g_ca_hit a0 x2 o_38.1 o_38.2).bind fun o_41 =>
        g_ca_serve_L44 a0 ((g_ca_serve_L8 a0 n)) x1 x2 o_41.2
        else none
      else none
set_option maxHeartbeats 4000000 in
theorem g_ca_serve_L8_ok {xl : Nat} {xs : Nat → Int32} {a0 : Nat} (ha0 : zIn [48, 106] a0 = true) : ∀ (n : Nat) {X1 : Int32} {x1 : Int} {X2 : Int32} {x2 : Int} {σ : zS} {p : Nat} {m : zM} {o : Unit × zS}, X1.toInt = x1 → X2.toInt = x2 → zRep xl xs p m σ → g_ca_serve_L8 a0 n x1 x2 σ = some o → zGo xl xs (fun p' => p = p') 6 25 8 [(0, .ref a0), (1, .int X1), (2, .int X2)] [] m vV o.2
  | 0, _, _, _, _, _, _, _, _, _, _, _, h => by cases h
  | n + 1, X1, x1, X2, x2, σ, p, m, o, hx1, hx2, H, h => by
    have hq : z_mth 25 = some z_r25 := rfl
    have ih := fun {X1 : Int32} {x1 : Int} {X2 : Int32} {x2 : Int} {σ : zS} {p : Nat} {m : zM} {o : Unit × zS} => g_ca_serve_L8_ok (xl := xl) (xs := xs) ha0 n (X1 := X1) (x1 := x1) (X2 := X2) (x2 := x2) (σ := σ) (p := p) (m := m) (o := o)
    unfold g_ca_serve_L8 at h
    refine r_p hq 2 (pc' := 10) (L' := [(0, .ref a0), (1, .int X1), (2, .int X2)]) (st' := [.ref a0, .int X2]) rfl ?_
    refine r_gI (pc' := 13) (L' := [(0, .ref a0), (1, .int X1), (2, .int X2)]) H hq (z_at.mk 3 rfl rfl) rfl (zIn_all (l := [48, 106]) (p := fun a => zQ a 12 2 0) rfl ha0) rfl rfl ?_
    intro V_10 hV_10
    rcases z_ite h with ⟨c_13, h⟩ | ⟨c_13, h⟩
    · refine r_t2 (pc' := 50) (L' := [(0, .ref a0), (1, .int X1), (2, .int X2)]) hq (z_at.mk 3 rfl rfl) rfl hx2 hV_10 c_13 rfl rfl ?_
      refine r_p hq 2 (pc' := 52) (L' := [(0, .ref a0), (2, .int ((0 : Int32)))]) (st' := []) rfl ?_
      exact g_ca_serve_L52_ok ha0 zK (rfl : (0 : Int32).toInt = 0) H h
    · refine r_f2 (pc' := 16) (L' := [(0, .ref a0), (1, .int X1), (2, .int X2)]) hq (z_at.mk 3 rfl rfl) rfl hx2 hV_10 c_13 rfl rfl ?_
      refine r_p hq 1 (pc' := 17) (L' := [(0, .ref a0), (1, .int X1), (2, .int X2)]) (st' := [.ref a0]) rfl ?_
      refine r_gR (b := a0 + 4) (pc' := 20) (L' := [(0, .ref a0), (1, .int X1), (2, .int X2)]) H hq (z_at.mk 3 rfl rfl) rfl (zIn_all (l := [48, 106]) (p := fun a => zQ a 12 4 (100 + a + 4)) rfl ha0) rfl rfl ?_
      refine r_p hq 1 (pc' := 21) (L' := [(0, .ref a0), (1, .int X1), (2, .int X2)]) (st' := [.int X2, .ref (a0 + 4)]) rfl ?_
      obtain ⟨g_21, h⟩ := z_ifo_some h
      refine r_ia (pc' := 22) (L' := [(0, .ref a0), (1, .int X1), (2, .int X2)]) H hq (z_at.mk 1 rfl rfl) (zIn_all (l := [48, 106]) (p := fun a => zAr (a + 4) 0 181) rfl ha0) hx2 g_21 rfl rfl ?_
      intro V_21 hV_21
      refine r_p hq 1 (pc' := 23) (L' := [(0, .ref a0), (1, .int X1), (2, .int X2)]) (st' := [.int X1, .int V_21]) rfl ?_
      obtain ⟨o_23, h_23, h⟩ := Option.bind_eq_some_iff.mp h
      refine r_csI (pc' := 26) (L' := [(0, .ref a0), (1, .int X1), (2, .int X2)]) (As := [.int V_21, .int X1]) (rest := []) (j := 9) hq (z_at.mk 3 rfl rfl) (Or.inl ⟨rfl, rfl⟩) rfl rfl (by omega) (g_b_meet_ok hV_21 hx1 H h_23) rfl rfl ?_
      intro R_23 m_23 p_23 e_23 hR_23 H_23
      subst e_23
      rcases z_ite h with ⟨c_26, h⟩ | ⟨c_26, h⟩
      · refine r_t1 (pc' := 44) (L' := [(0, .ref a0), (1, .int X1), (2, .int X2)]) hq (z_at.mk 3 rfl rfl) rfl hR_23 c_26 rfl rfl ?_
        exact g_ca_serve_L44_ok ha0 ih hx1 hx2 H_23 h
      · refine r_f1 (pc' := 29) (L' := [(0, .ref a0), (1, .int X1), (2, .int X2)]) hq (z_at.mk 3 rfl rfl) rfl hR_23 c_26 rfl rfl ?_
        refine r_p hq 3 (pc' := 32) (L' := [(0, .ref a0), (1, .int X1), (2, .int X2)]) (st' := [.ref a0, .int X2, .ref a0]) rfl ?_
        refine r_gR (b := a0 + 4) (pc' := 35) (L' := [(0, .ref a0), (1, .int X1), (2, .int X2)]) H_23 hq (z_at.mk 3 rfl rfl) rfl (zIn_all (l := [48, 106]) (p := fun a => zQ a 12 4 (100 + a + 4)) rfl ha0) rfl rfl ?_
        refine r_p hq 1 (pc' := 36) (L' := [(0, .ref a0), (1, .int X1), (2, .int X2)]) (st' := [.int X2, .ref (a0 + 4), .int X2, .ref a0]) rfl ?_
        obtain ⟨g_36, h⟩ := z_ifo_some h
        refine r_ia (pc' := 37) (L' := [(0, .ref a0), (1, .int X1), (2, .int X2)]) H_23 hq (z_at.mk 1 rfl rfl) (zIn_all (l := [48, 106]) (p := fun a => zAr (a + 4) 0 181) rfl ha0) hx2 g_36 rfl rfl ?_
        intro V_36 hV_36
        refine r_p hq 1 (pc' := 38) (L' := [(0, .ref a0), (1, .int X1), (2, .int X2)]) (st' := [.int X1, .int V_36, .int X2, .ref a0]) rfl ?_
        obtain ⟨o_38, h_38, h⟩ := Option.bind_eq_some_iff.mp h
        refine r_csI (pc' := 41) (L' := [(0, .ref a0), (1, .int X1), (2, .int X2)]) (As := [.int V_36, .int X1]) (rest := [.int X2, .ref a0]) (j := 10) hq (z_at.mk 3 rfl rfl) (Or.inl ⟨rfl, rfl⟩) rfl rfl (by omega) (g_b_common_ok hV_36 hx1 H_23 h_38) rfl rfl ?_
        intro R_38 m_38 p_38 e_38 hR_38 H_38
        subst e_38
        obtain ⟨o_41, h_41, h⟩ := Option.bind_eq_some_iff.mp h
        refine r_cvV (pc' := 44) (L' := [(0, .ref a0), (1, .int X1), (2, .int X2)]) (Ps := [.int X2, .int R_38]) (rest := []) hq (z_at.mk 3 rfl rfl) (Or.inl ⟨rfl, rfl⟩) rfl rfl (by decide) (by decide) rfl (Nat.not_lt.mpr (Nat.le_of_ble_eq_true rfl)) rfl rfl (z_cat_le 0 rfl (by decide)) (z_lgl_le 3 rfl (by decide)) (by decide) (H_38.tg (zIn_all (l := [48, 106]) (p := fun a => zT a 12) rfl ha0)) (by omega) (g_ca_hit_ok (zIn_all (l := [48, 106]) (p := fun a => zIn [48, 106] a) rfl ha0) hx2 hR_38 H_38 h_41) rfl rfl ?_
        intro m_41 p_41 e_41 H_41
        subst e_41
        exact g_ca_serve_L44_ok ha0 ih hx1 hx2 H_41 h
def g_ca_serve (a0 : Nat) (x1 : Int) (σ : zS) : Option (Unit × zS) :=
  (g_ca_missingOf a0 x1 σ).bind fun o_2 =>
  g_ca_serve_L8 a0 zK x1 0 o_2.2
set_option maxHeartbeats 4000000 in
theorem g_ca_serve_ok {xl : Nat} {xs : Nat → Int32} {a0 : Nat} (ha0 : zIn [48, 106] a0 = true) {X1 : Int32} {x1 : Int} (hx1 : X1.toInt = x1) {σ : zS} {p : Nat} {m : zM} {o : Unit × zS} (H : zRep xl xs p m σ) (h : g_ca_serve a0 x1 σ = some o) : zGo xl xs (fun p' => p = p') 6 25 0 (z_can 25 0 (lv_args 0 [.ref a0, .int X1])) [] m vV o.2 := by
  have hq : z_mth 25 = some z_r25 := rfl
  unfold g_ca_serve at h
  show zGo xl xs (fun p' => p = p') 6 25 0 [(0, .ref a0), (1, .int X1)] [] m vV o.2
  refine r_p hq 2 (pc' := 2) (L' := [(0, .ref a0), (1, .int X1)]) (st' := [.int X1, .ref a0]) rfl ?_
  obtain ⟨o_2, h_2, h⟩ := Option.bind_eq_some_iff.mp h
  refine r_cvR (pc' := 5) (L' := [(0, .ref a0), (1, .int X1)]) (Ps := [.int X1]) (rest := []) hq (z_at.mk 3 rfl rfl) (Or.inl ⟨rfl, rfl⟩) rfl rfl (by decide) (by decide) rfl (Nat.not_lt.mpr (Nat.le_of_ble_eq_true rfl)) rfl rfl (z_cat_le 0 rfl (by decide)) (z_lgl_le 2 rfl (by decide)) (by decide) (H.tg (zIn_all (l := [48, 106]) (p := fun a => zT a 12) rfl ha0)) (by omega) (g_ca_missingOf_ok (zIn_all (l := [48, 106]) (p := fun a => zIn [48, 106] a) rfl ha0) hx1 H h_2) rfl rfl ?_
  intro m_2 p_2 e_2 H_2
  subst e_2
  refine r_p hq 3 (pc' := 8) (L' := [(0, .ref a0), (1, .int X1), (2, .int ((0 : Int32)))]) (st' := []) rfl ?_
  exact g_ca_serve_L8_ok ha0 zK hx1 (rfl : (0 : Int32).toInt = 0) H_2 h
def g_ca_regionAt_L2 (a0 : Nat) : Nat → Int → Int → zS → Option (Int × zS)
  | 0, _, _, _ => none
  | n + 1, x1, x2, σ =>
    let v_4 := σ a0 2
    if v_4 ≤ x2 then
      some (-1, σ)
    else
      if 0 ≤ x2 ∧ x2 < 181 then
      let v_15 := σ (a0 + 4) x2
      (g_b_meet v_15 x1 σ).bind fun o_17 =>
      if o_17.1 = 0 then
        (g_ca_regionAt_L2 a0 n) x1 (w32 (x2 + 1)) o_17.2
      else
        some (x2, o_17.2)
      else none
set_option maxHeartbeats 4000000 in
theorem g_ca_regionAt_L2_ok {xl : Nat} {xs : Nat → Int32} {a0 : Nat} (ha0 : zIn [48, 106] a0 = true) : ∀ (n : Nat) {X1 : Int32} {x1 : Int} {X2 : Int32} {x2 : Int} {σ : zS} {p : Nat} {m : zM} {o : Int × zS}, X1.toInt = x1 → X2.toInt = x2 → zRep xl xs p m σ → g_ca_regionAt_L2 a0 n x1 x2 σ = some o → zGo xl xs (fun p' => p = p') 3 42 2 [(0, .ref a0), (1, .int X1), (2, .int X2)] [] m (vI o.1) o.2
  | 0, _, _, _, _, _, _, _, _, _, _, _, h => by cases h
  | n + 1, X1, x1, X2, x2, σ, p, m, o, hx1, hx2, H, h => by
    have hq : z_mth 42 = some z_r42 := rfl
    have ih := fun {X1 : Int32} {x1 : Int} {X2 : Int32} {x2 : Int} {σ : zS} {p : Nat} {m : zM} {o : Int × zS} => g_ca_regionAt_L2_ok (xl := xl) (xs := xs) ha0 n (X1 := X1) (x1 := x1) (X2 := X2) (x2 := x2) (σ := σ) (p := p) (m := m) (o := o)
    unfold g_ca_regionAt_L2 at h
    refine r_p hq 2 (pc' := 4) (L' := [(0, .ref a0), (1, .int X1), (2, .int X2)]) (st' := [.ref a0, .int X2]) rfl ?_
    refine r_gI (pc' := 7) (L' := [(0, .ref a0), (1, .int X1), (2, .int X2)]) H hq (z_at.mk 3 rfl rfl) rfl (zIn_all (l := [48, 106]) (p := fun a => zQ a 12 2 0) rfl ha0) rfl rfl ?_
    intro V_4 hV_4
    rcases z_ite h with ⟨c_7, h⟩ | ⟨c_7, h⟩
    · refine r_t2 (pc' := 31) (L' := [(0, .ref a0), (1, .int X1), (2, .int X2)]) hq (z_at.mk 3 rfl rfl) rfl hx2 hV_4 c_7 rfl rfl ?_
      refine r_p hq 1 (pc' := 32) (L' := [(0, .ref a0), (1, .int X1), (2, .int X2)]) (st' := [.int ((-1 : Int32))]) rfl ?_
      cases h
      exact r_ri hq (z_at.mk 1 rfl rfl) rfl rfl (rfl : (-1 : Int32).toInt = -1) rfl H
    · refine r_f2 (pc' := 10) (L' := [(0, .ref a0), (1, .int X1), (2, .int X2)]) hq (z_at.mk 3 rfl rfl) rfl hx2 hV_4 c_7 rfl rfl ?_
      refine r_p hq 1 (pc' := 11) (L' := [(0, .ref a0), (1, .int X1), (2, .int X2)]) (st' := [.ref a0]) rfl ?_
      refine r_gR (b := a0 + 4) (pc' := 14) (L' := [(0, .ref a0), (1, .int X1), (2, .int X2)]) H hq (z_at.mk 3 rfl rfl) rfl (zIn_all (l := [48, 106]) (p := fun a => zQ a 12 4 (100 + a + 4)) rfl ha0) rfl rfl ?_
      refine r_p hq 1 (pc' := 15) (L' := [(0, .ref a0), (1, .int X1), (2, .int X2)]) (st' := [.int X2, .ref (a0 + 4)]) rfl ?_
      obtain ⟨g_15, h⟩ := z_ifo_some h
      refine r_ia (pc' := 16) (L' := [(0, .ref a0), (1, .int X1), (2, .int X2)]) H hq (z_at.mk 1 rfl rfl) (zIn_all (l := [48, 106]) (p := fun a => zAr (a + 4) 0 181) rfl ha0) hx2 g_15 rfl rfl ?_
      intro V_15 hV_15
      refine r_p hq 1 (pc' := 17) (L' := [(0, .ref a0), (1, .int X1), (2, .int X2)]) (st' := [.int X1, .int V_15]) rfl ?_
      obtain ⟨o_17, h_17, h⟩ := Option.bind_eq_some_iff.mp h
      refine r_csI (pc' := 20) (L' := [(0, .ref a0), (1, .int X1), (2, .int X2)]) (As := [.int V_15, .int X1]) (rest := []) (j := 9) hq (z_at.mk 3 rfl rfl) (Or.inl ⟨rfl, rfl⟩) rfl rfl (by omega) (g_b_meet_ok hV_15 hx1 H h_17) rfl rfl ?_
      intro R_17 m_17 p_17 e_17 hR_17 H_17
      subst e_17
      rcases z_ite h with ⟨c_20, h⟩ | ⟨c_20, h⟩
      · refine r_t1 (pc' := 25) (L' := [(0, .ref a0), (1, .int X1), (2, .int X2)]) hq (z_at.mk 3 rfl rfl) rfl hR_17 c_20 rfl rfl ?_
        refine r_p hq 2 (pc' := 2) (L' := [(0, .ref a0), (1, .int X1), (2, .int (X2 + (1 : Int32)))]) (st' := []) rfl ?_
        exact ih hx1 (tx_iadd hx2 (rfl : (1 : Int32).toInt = 1)) H_17 h
      · refine r_f1 (pc' := 23) (L' := [(0, .ref a0), (1, .int X1), (2, .int X2)]) hq (z_at.mk 3 rfl rfl) rfl hR_17 c_20 rfl rfl ?_
        refine r_p hq 1 (pc' := 24) (L' := [(0, .ref a0), (1, .int X1), (2, .int X2)]) (st' := [.int X2]) rfl ?_
        cases h
        exact r_ri hq (z_at.mk 1 rfl rfl) rfl rfl hx2 rfl H_17
def g_ca_regionAt (a0 : Nat) (x1 : Int) (σ : zS) : Option (Int × zS) :=
  g_ca_regionAt_L2 a0 zK x1 0 σ
set_option maxHeartbeats 4000000 in
theorem g_ca_regionAt_ok {xl : Nat} {xs : Nat → Int32} {a0 : Nat} (ha0 : zIn [48, 106] a0 = true) {X1 : Int32} {x1 : Int} (hx1 : X1.toInt = x1) {σ : zS} {p : Nat} {m : zM} {o : Int × zS} (H : zRep xl xs p m σ) (h : g_ca_regionAt a0 x1 σ = some o) : zGo xl xs (fun p' => p = p') 3 42 0 (z_can 42 0 (lv_args 0 [.ref a0, .int X1])) [] m (vI o.1) o.2 := by
  have hq : z_mth 42 = some z_r42 := rfl
  unfold g_ca_regionAt at h
  show zGo xl xs (fun p' => p = p') 3 42 0 [(0, .ref a0), (1, .int X1)] [] m (vI o.1) o.2
  refine r_p hq 2 (pc' := 2) (L' := [(0, .ref a0), (1, .int X1), (2, .int ((0 : Int32)))]) (st' := []) rfl ?_
  exact g_ca_regionAt_L2_ok ha0 zK hx1 (rfl : (0 : Int32).toInt = 0) H h
def g_ca_write_L99 (a0 : Nat) : Nat → Int → Int → Int → Int → zS → Option (Unit × zS)
  | 0, _, _, _, _, _ => none
  | n + 1, x5, x6, y7, x9, σ =>
    let v_105 := σ (a0 + 10) 1
    if v_105 ≤ x9 then
      some ((), σ)
    else
      (g_bs_at (a0 + 10) x9 σ).bind fun o_118 =>
      (g_bs_at (a0 + 10) x9 o_118.2).bind fun o_131 =>
      (g_b_common x6 o_131.1 o_131.2).bind fun o_134 =>
      (g_ca_addLast a0 o_118.1 x5 o_134.1 y7 o_134.2).bind fun o_139 =>
      (g_ca_write_L99 a0 n) x5 x6 y7 (w32 (x9 + 1)) o_139.2
set_option maxHeartbeats 4000000 in
theorem g_ca_write_L99_ok {xl : Nat} {xs : Nat → Int32} {a0 : Nat} (ha0 : zIn [48, 106] a0 = true) : ∀ (n : Nat) {X5 : Int32} {x5 : Int} {X6 : Int32} {x6 : Int} {Y7 : Int64} {y7 : Int} {X9 : Int32} {x9 : Int} {σ : zS} {p : Nat} {m : zM} {o : Unit × zS}, X5.toInt = x5 → X6.toInt = x6 → Y7.toInt = y7 → X9.toInt = x9 → zRep xl xs p m σ → g_ca_write_L99 a0 n x5 x6 y7 x9 σ = some o → zGo xl xs (fun p' => p = p') 4 41 99 [(0, .ref a0), (5, .int X5), (6, .int X6), (7, .long Y7), (9, .int X9)] [] m vV o.2
  | 0, _, _, _, _, _, _, _, _, _, _, _, _, _, _, _, _, _, h => by cases h
  | n + 1, X5, x5, X6, x6, Y7, y7, X9, x9, σ, p, m, o, hx5, hx6, hy7, hx9, H, h => by
    have hq : z_mth 41 = some z_r41 := rfl
    have ih := fun {X5 : Int32} {x5 : Int} {X6 : Int32} {x6 : Int} {Y7 : Int64} {y7 : Int} {X9 : Int32} {x9 : Int} {σ : zS} {p : Nat} {m : zM} {o : Unit × zS} => g_ca_write_L99_ok (xl := xl) (xs := xs) ha0 n (X5 := X5) (x5 := x5) (X6 := X6) (x6 := x6) (Y7 := Y7) (y7 := y7) (X9 := X9) (x9 := x9) (σ := σ) (p := p) (m := m) (o := o)
    unfold g_ca_write_L99 at h
    refine r_p hq 2 (pc' := 102) (L' := [(0, .ref a0), (5, .int X5), (6, .int X6), (7, .long Y7), (9, .int X9)]) (st' := [.ref a0, .int X9]) rfl ?_
    refine r_gR (b := a0 + 10) (pc' := 105) (L' := [(0, .ref a0), (5, .int X5), (6, .int X6), (7, .long Y7), (9, .int X9)]) H hq (z_at.mk 3 rfl rfl) rfl (zIn_all (l := [48, 106]) (p := fun a => zQ a 12 17 (100 + a + 10)) rfl ha0) rfl rfl ?_
    refine r_gI (pc' := 108) (L' := [(0, .ref a0), (5, .int X5), (6, .int X6), (7, .long Y7), (9, .int X9)]) H hq (z_at.mk 3 rfl rfl) rfl (zIn_all (l := [48, 106]) (p := fun a => zQ (a + 10) 11 1 0) rfl ha0) rfl rfl ?_
    intro V_105 hV_105
    rcases z_ite h with ⟨c_108, h⟩ | ⟨c_108, h⟩
    · refine r_t2 (pc' := 149) (L' := [(0, .ref a0), (5, .int X5), (6, .int X6), (7, .long Y7), (9, .int X9)]) hq (z_at.mk 3 rfl rfl) rfl hx9 hV_105 c_108 rfl rfl ?_
      cases h
      exact r_rv hq (z_at.mk 1 rfl rfl) rfl rfl H
    · refine r_f2 (pc' := 111) (L' := [(0, .ref a0), (5, .int X5), (6, .int X6), (7, .long Y7), (9, .int X9)]) hq (z_at.mk 3 rfl rfl) rfl hx9 hV_105 c_108 rfl rfl ?_
      refine r_p hq 2 (pc' := 113) (L' := [(0, .ref a0), (5, .int X5), (6, .int X6), (7, .long Y7), (9, .int X9)]) (st' := [.ref a0, .ref a0]) rfl ?_
      refine r_gR (b := a0 + 10) (pc' := 116) (L' := [(0, .ref a0), (5, .int X5), (6, .int X6), (7, .long Y7), (9, .int X9)]) H hq (z_at.mk 3 rfl rfl) rfl (zIn_all (l := [48, 106]) (p := fun a => zQ a 12 17 (100 + a + 10)) rfl ha0) rfl rfl ?_
      refine r_p hq 1 (pc' := 118) (L' := [(0, .ref a0), (5, .int X5), (6, .int X6), (7, .long Y7), (9, .int X9)]) (st' := [.int X9, .ref (a0 + 10), .ref a0]) rfl ?_
      obtain ⟨o_118, h_118, h⟩ := Option.bind_eq_some_iff.mp h
      refine r_cvI (pc' := 121) (L' := [(0, .ref a0), (5, .int X5), (6, .int X6), (7, .long Y7), (9, .int X9)]) (Ps := [.int X9]) (rest := [.ref a0]) hq (z_at.mk 3 rfl rfl) (Or.inl ⟨rfl, rfl⟩) rfl rfl (by decide) (by decide) rfl (Nat.not_lt.mpr (Nat.le_of_ble_eq_true rfl)) rfl rfl (z_cat_le 1 rfl (by decide)) (z_lgl_le 2 rfl (by decide)) (by decide) (H.tg (zIn_all (l := [48, 106]) (p := fun a => zT (a + 10) 11) rfl ha0)) (by omega) (g_bs_at_ok (zIn_all (l := [48, 106]) (p := fun a => zIn [56, 58, 63, 96, 114, 116, 126, 131] (a + 10)) rfl ha0) hx9 H h_118) rfl rfl ?_
      intro R_118 m_118 p_118 e_118 hR_118 H_118
      subst e_118
      refine r_p hq 3 (pc' := 126) (L' := [(0, .ref a0), (5, .int X5), (6, .int X6), (7, .long Y7), (9, .int X9)]) (st' := [.ref a0, .int X6, .int X5, .int R_118, .ref a0]) rfl ?_
      refine r_gR (b := a0 + 10) (pc' := 129) (L' := [(0, .ref a0), (5, .int X5), (6, .int X6), (7, .long Y7), (9, .int X9)]) H_118 hq (z_at.mk 3 rfl rfl) rfl (zIn_all (l := [48, 106]) (p := fun a => zQ a 12 17 (100 + a + 10)) rfl ha0) rfl rfl ?_
      refine r_p hq 1 (pc' := 131) (L' := [(0, .ref a0), (5, .int X5), (6, .int X6), (7, .long Y7), (9, .int X9)]) (st' := [.int X9, .ref (a0 + 10), .int X6, .int X5, .int R_118, .ref a0]) rfl ?_
      obtain ⟨o_131, h_131, h⟩ := Option.bind_eq_some_iff.mp h
      refine r_cvI (pc' := 134) (L' := [(0, .ref a0), (5, .int X5), (6, .int X6), (7, .long Y7), (9, .int X9)]) (Ps := [.int X9]) (rest := [.int X6, .int X5, .int R_118, .ref a0]) hq (z_at.mk 3 rfl rfl) (Or.inl ⟨rfl, rfl⟩) rfl rfl (by decide) (by decide) rfl (Nat.not_lt.mpr (Nat.le_of_ble_eq_true rfl)) rfl rfl (z_cat_le 4 rfl (by decide)) (z_lgl_le 2 rfl (by decide)) (by decide) (H_118.tg (zIn_all (l := [48, 106]) (p := fun a => zT (a + 10) 11) rfl ha0)) (by omega) (g_bs_at_ok (zIn_all (l := [48, 106]) (p := fun a => zIn [56, 58, 63, 96, 114, 116, 126, 131] (a + 10)) rfl ha0) hx9 H_118 h_131) rfl rfl ?_
      intro R_131 m_131 p_131 e_131 hR_131 H_131
      subst e_131
      obtain ⟨o_134, h_134, h⟩ := Option.bind_eq_some_iff.mp h
      refine r_csI (pc' := 137) (L' := [(0, .ref a0), (5, .int X5), (6, .int X6), (7, .long Y7), (9, .int X9)]) (As := [.int X6, .int R_131]) (rest := [.int X5, .int R_118, .ref a0]) (j := 10) hq (z_at.mk 3 rfl rfl) (Or.inl ⟨rfl, rfl⟩) rfl rfl (by omega) (g_b_common_ok hx6 hR_131 H_131 h_134) rfl rfl ?_
      intro R_134 m_134 p_134 e_134 hR_134 H_134
      subst e_134
      refine r_p hq 1 (pc' := 139) (L' := [(0, .ref a0), (5, .int X5), (6, .int X6), (7, .long Y7), (9, .int X9)]) (st' := [.long Y7, .int R_134, .int X5, .int R_118, .ref a0]) rfl ?_
      obtain ⟨o_139, h_139, h⟩ := Option.bind_eq_some_iff.mp h
      refine r_cvI (pc' := 142) (L' := [(0, .ref a0), (5, .int X5), (6, .int X6), (7, .long Y7), (9, .int X9)]) (Ps := [.int R_118, .int X5, .int R_134, .long Y7]) (rest := []) hq (z_at.mk 3 rfl rfl) (Or.inl ⟨rfl, rfl⟩) rfl rfl (by decide) (by decide) rfl (Nat.not_lt.mpr (Nat.le_of_ble_eq_true rfl)) rfl rfl (z_cat_le 0 rfl (by decide)) (z_lgl_le 6 rfl (by decide)) (by decide) (H_134.tg (zIn_all (l := [48, 106]) (p := fun a => zT a 12) rfl ha0)) (by omega) (g_ca_addLast_ok (zIn_all (l := [48, 106]) (p := fun a => zIn [48, 106] a) rfl ha0) hR_118 hx5 hR_134 hy7 H_134 h_139) rfl rfl ?_
      intro R_139 m_139 p_139 e_139 hR_139 H_139
      subst e_139
      refine r_p hq 3 (pc' := 99) (L' := [(0, .ref a0), (5, .int X5), (6, .int X6), (7, .long Y7), (9, .int (X9 + (1 : Int32)))]) (st' := []) rfl ?_
      exact ih hx5 hx6 hy7 (tx_iadd hx9 (rfl : (1 : Int32).toInt = 1)) H_139 h
def g_ca_write (a0 : Nat) (x1 : Int) (σ : zS) : Option (Unit × zS) :=
  (g_ca_regionAt a0 x1 σ).bind fun o_2 =>
  if 0 ≤ o_2.1 then
    let v_13 := o_2.2 a0 15
    let s_18 := zu o_2.2 a0 15 (w32 (v_13 + 1))
    (g_se_of (a0 + 1) 3 s_18).bind fun o_26 =>
    if o_26.1 ≠ 0 then
      if 0 ≤ o_2.1 ∧ o_2.1 < 181 then
      let v_40 := o_26.2 (a0 + 4) o_2.1
      if 0 ≤ o_2.1 ∧ o_2.1 < 181 then
      let v_48 := o_26.2 (a0 + 5) o_2.1
      if 0 ≤ o_2.1 ∧ o_2.1 < 181 then
      let v_56 := o_26.2 (a0 + 6) o_2.1
      if 0 ≤ o_2.1 ∧ o_2.1 < 181 then
      let v_64 := o_26.2 (a0 + 7) o_2.1
      (g_ca_remove a0 o_2.1 o_26.2).bind fun o_69 =>
      if o_26.1 ≠ 1 then
        let s_83 := zu o_69.2 (a0 + 10) 1 0
        (g_bs_addRest (a0 + 10) v_40 x1 s_83).bind fun o_93 =>
        g_ca_write_L99 a0 zK v_48 v_56 v_64 0 o_93.2
      else
        some ((), o_69.2)
      else none
      else none
      else none
      else none
    else
      some ((), o_26.2)
  else
    some ((), o_2.2)
set_option maxHeartbeats 4000000 in
theorem g_ca_write_ok {xl : Nat} {xs : Nat → Int32} {a0 : Nat} (ha0 : zIn [48, 106] a0 = true) {X1 : Int32} {x1 : Int} (hx1 : X1.toInt = x1) {σ : zS} {p : Nat} {m : zM} {o : Unit × zS} (H : zRep xl xs p m σ) (h : g_ca_write a0 x1 σ = some o) : zGo xl xs (fun p' => p = p') 4 41 0 (z_can 41 0 (lv_args 0 [.ref a0, .int X1])) [] m vV o.2 := by
  have hq : z_mth 41 = some z_r41 := rfl
  unfold g_ca_write at h
  show zGo xl xs (fun p' => p = p') 4 41 0 [(0, .ref a0), (1, .int X1)] [] m vV o.2
  refine r_p hq 2 (pc' := 2) (L' := [(0, .ref a0), (1, .int X1)]) (st' := [.int X1, .ref a0]) rfl ?_
  obtain ⟨o_2, h_2, h⟩ := Option.bind_eq_some_iff.mp h
  refine r_cvI (pc' := 5) (L' := [(0, .ref a0), (1, .int X1)]) (Ps := [.int X1]) (rest := []) hq (z_at.mk 3 rfl rfl) (Or.inl ⟨rfl, rfl⟩) rfl rfl (by decide) (by decide) rfl (Nat.not_lt.mpr (Nat.le_of_ble_eq_true rfl)) rfl rfl (z_cat_le 0 rfl (by decide)) (z_lgl_le 2 rfl (by decide)) (by decide) (H.tg (zIn_all (l := [48, 106]) (p := fun a => zT a 12) rfl ha0)) (by omega) (g_ca_regionAt_ok (zIn_all (l := [48, 106]) (p := fun a => zIn [48, 106] a) rfl ha0) hx1 H h_2) rfl rfl ?_
  intro R_2 m_2 p_2 e_2 hR_2 H_2
  subst e_2
  refine r_p hq 2 (pc' := 7) (L' := [(2, .int R_2), (0, .ref a0), (1, .int X1)]) (st' := [.int R_2]) rfl ?_
  rcases z_ite h with ⟨c_7, h⟩ | ⟨c_7, h⟩
  · refine r_t1 (pc' := 11) (L' := [(2, .int R_2), (0, .ref a0), (1, .int X1)]) hq (z_at.mk 3 rfl rfl) rfl hR_2 c_7 rfl rfl ?_
    refine r_p hq 2 (pc' := 13) (L' := [(2, .int R_2), (0, .ref a0), (1, .int X1)]) (st' := [.ref a0, .ref a0]) rfl ?_
    refine r_gI (pc' := 16) (L' := [(2, .int R_2), (0, .ref a0), (1, .int X1)]) H_2 hq (z_at.mk 3 rfl rfl) rfl (zIn_all (l := [48, 106]) (p := fun a => zQ a 12 15 0) rfl ha0) rfl rfl ?_
    intro V_13 hV_13
    refine r_p hq 2 (pc' := 18) (L' := [(2, .int R_2), (0, .ref a0), (1, .int X1)]) (st' := [.int (V_13 + ((1 : Int32))), .ref a0]) rfl ?_
    refine r_pI (X := V_13 + ((1 : Int32))) (pc' := 21) (L' := [(2, .int R_2), (0, .ref a0), (1, .int X1)]) H_2 hq (z_at.mk 3 rfl rfl) rfl (zIn_all (l := [48, 106]) (p := fun a => zQ a 12 15 0) rfl ha0) (tx_iadd hV_13 (rfl : (1 : Int32).toInt = 1)) (by decide) rfl rfl rfl rfl ?_
    intro m_18 H_18
    refine r_p hq 1 (pc' := 22) (L' := [(2, .int R_2), (0, .ref a0), (1, .int X1)]) (st' := [.ref a0]) rfl ?_
    refine r_gR (b := a0 + 1) (pc' := 25) (L' := [(2, .int R_2), (0, .ref a0), (1, .int X1)]) H_18 hq (z_at.mk 3 rfl rfl) rfl (zIn_all (l := [48, 106]) (p := fun a => zQ a 12 1 (100 + a + 1)) rfl ha0) rfl rfl ?_
    refine r_p hq 1 (pc' := 26) (L' := [(2, .int R_2), (0, .ref a0), (1, .int X1)]) (st' := [.int ((3 : Int32)), .ref (a0 + 1)]) rfl ?_
    obtain ⟨o_26, h_26, h⟩ := Option.bind_eq_some_iff.mp h
    refine r_cvI (pc' := 29) (L' := [(2, .int R_2), (0, .ref a0), (1, .int X1)]) (Ps := [.int ((3 : Int32))]) (rest := []) hq (z_at.mk 3 rfl rfl) (Or.inl ⟨rfl, rfl⟩) rfl rfl (by decide) (by decide) rfl (Nat.not_lt.mpr (Nat.le_of_ble_eq_true rfl)) rfl rfl (z_cat_le 0 rfl (by decide)) (z_lgl_le 2 rfl (by decide)) (by decide) (H_18.tg (zIn_all (l := [48, 106]) (p := fun a => zT (a + 1) 16) rfl ha0)) (by omega) (g_se_of_ok (zIn_all (l := [48, 106]) (p := fun a => zIn [49, 82, 107, 118] (a + 1)) rfl ha0) (rfl : (3 : Int32).toInt = 3) H_18 h_26) rfl rfl ?_
    intro R_26 m_26 p_26 e_26 hR_26 H_26
    subst e_26
    refine r_p hq 2 (pc' := 31) (L' := [(3, .int R_26), (2, .int R_2), (0, .ref a0), (1, .int X1)]) (st' := [.int R_26]) rfl ?_
    rcases z_ite h with ⟨c_31, h⟩ | ⟨c_31, h⟩
    · refine r_t1 (pc' := 35) (L' := [(3, .int R_26), (2, .int R_2), (0, .ref a0), (1, .int X1)]) hq (z_at.mk 3 rfl rfl) rfl hR_26 c_31 rfl rfl ?_
      refine r_p hq 1 (pc' := 36) (L' := [(3, .int R_26), (2, .int R_2), (0, .ref a0), (1, .int X1)]) (st' := [.ref a0]) rfl ?_
      refine r_gR (b := a0 + 4) (pc' := 39) (L' := [(3, .int R_26), (2, .int R_2), (0, .ref a0), (1, .int X1)]) H_26 hq (z_at.mk 3 rfl rfl) rfl (zIn_all (l := [48, 106]) (p := fun a => zQ a 12 4 (100 + a + 4)) rfl ha0) rfl rfl ?_
      refine r_p hq 1 (pc' := 40) (L' := [(3, .int R_26), (2, .int R_2), (0, .ref a0), (1, .int X1)]) (st' := [.int R_2, .ref (a0 + 4)]) rfl ?_
      obtain ⟨g_40, h⟩ := z_ifo_some h
      refine r_ia (pc' := 41) (L' := [(3, .int R_26), (2, .int R_2), (0, .ref a0), (1, .int X1)]) H_26 hq (z_at.mk 1 rfl rfl) (zIn_all (l := [48, 106]) (p := fun a => zAr (a + 4) 0 181) rfl ha0) hR_2 g_40 rfl rfl ?_
      intro V_40 hV_40
      refine r_p hq 2 (pc' := 44) (L' := [(4, .int V_40), (3, .int R_26), (2, .int R_2), (0, .ref a0), (1, .int X1)]) (st' := [.ref a0]) rfl ?_
      refine r_gR (b := a0 + 5) (pc' := 47) (L' := [(4, .int V_40), (3, .int R_26), (2, .int R_2), (0, .ref a0), (1, .int X1)]) H_26 hq (z_at.mk 3 rfl rfl) rfl (zIn_all (l := [48, 106]) (p := fun a => zQ a 12 5 (100 + a + 5)) rfl ha0) rfl rfl ?_
      refine r_p hq 1 (pc' := 48) (L' := [(4, .int V_40), (3, .int R_26), (2, .int R_2), (0, .ref a0), (1, .int X1)]) (st' := [.int R_2, .ref (a0 + 5)]) rfl ?_
      obtain ⟨g_48, h⟩ := z_ifo_some h
      refine r_ia (pc' := 49) (L' := [(4, .int V_40), (3, .int R_26), (2, .int R_2), (0, .ref a0), (1, .int X1)]) H_26 hq (z_at.mk 1 rfl rfl) (zIn_all (l := [48, 106]) (p := fun a => zAr (a + 5) 0 181) rfl ha0) hR_2 g_48 rfl rfl ?_
      intro V_48 hV_48
      refine r_p hq 2 (pc' := 52) (L' := [(5, .int V_48), (4, .int V_40), (3, .int R_26), (2, .int R_2), (0, .ref a0), (1, .int X1)]) (st' := [.ref a0]) rfl ?_
      refine r_gR (b := a0 + 6) (pc' := 55) (L' := [(5, .int V_48), (4, .int V_40), (3, .int R_26), (2, .int R_2), (0, .ref a0), (1, .int X1)]) H_26 hq (z_at.mk 3 rfl rfl) rfl (zIn_all (l := [48, 106]) (p := fun a => zQ a 12 6 (100 + a + 6)) rfl ha0) rfl rfl ?_
      refine r_p hq 1 (pc' := 56) (L' := [(5, .int V_48), (4, .int V_40), (3, .int R_26), (2, .int R_2), (0, .ref a0), (1, .int X1)]) (st' := [.int R_2, .ref (a0 + 6)]) rfl ?_
      obtain ⟨g_56, h⟩ := z_ifo_some h
      refine r_ia (pc' := 57) (L' := [(5, .int V_48), (4, .int V_40), (3, .int R_26), (2, .int R_2), (0, .ref a0), (1, .int X1)]) H_26 hq (z_at.mk 1 rfl rfl) (zIn_all (l := [48, 106]) (p := fun a => zAr (a + 6) 0 181) rfl ha0) hR_2 g_56 rfl rfl ?_
      intro V_56 hV_56
      refine r_p hq 2 (pc' := 60) (L' := [(6, .int V_56), (5, .int V_48), (4, .int V_40), (3, .int R_26), (2, .int R_2), (0, .ref a0), (1, .int X1)]) (st' := [.ref a0]) rfl ?_
      refine r_gR (b := a0 + 7) (pc' := 63) (L' := [(6, .int V_56), (5, .int V_48), (4, .int V_40), (3, .int R_26), (2, .int R_2), (0, .ref a0), (1, .int X1)]) H_26 hq (z_at.mk 3 rfl rfl) rfl (zIn_all (l := [48, 106]) (p := fun a => zQ a 12 7 (100 + a + 7)) rfl ha0) rfl rfl ?_
      refine r_p hq 1 (pc' := 64) (L' := [(6, .int V_56), (5, .int V_48), (4, .int V_40), (3, .int R_26), (2, .int R_2), (0, .ref a0), (1, .int X1)]) (st' := [.int R_2, .ref (a0 + 7)]) rfl ?_
      obtain ⟨g_64, h⟩ := z_ifo_some h
      refine r_la (pc' := 65) (L' := [(6, .int V_56), (5, .int V_48), (4, .int V_40), (3, .int R_26), (2, .int R_2), (0, .ref a0), (1, .int X1)]) H_26 hq (z_at.mk 1 rfl rfl) (zIn_all (l := [48, 106]) (p := fun a => zAr (a + 7) 1 181) rfl ha0) hR_2 g_64 rfl rfl ?_
      intro V_64 hV_64
      refine r_p hq 3 (pc' := 69) (L' := [(7, .long V_64), (6, .int V_56), (5, .int V_48), (4, .int V_40), (3, .int R_26), (2, .int R_2), (0, .ref a0), (1, .int X1)]) (st' := [.int R_2, .ref a0]) rfl ?_
      obtain ⟨o_69, h_69, h⟩ := Option.bind_eq_some_iff.mp h
      refine r_cvV (pc' := 72) (L' := [(7, .long V_64), (6, .int V_56), (5, .int V_48), (4, .int V_40), (3, .int R_26), (2, .int R_2), (0, .ref a0), (1, .int X1)]) (Ps := [.int R_2]) (rest := []) hq (z_at.mk 3 rfl rfl) (Or.inl ⟨rfl, rfl⟩) rfl rfl (by decide) (by decide) rfl (Nat.not_lt.mpr (Nat.le_of_ble_eq_true rfl)) rfl rfl (z_cat_le 0 rfl (by decide)) (z_lgl_le 2 rfl (by decide)) (by decide) (H_26.tg (zIn_all (l := [48, 106]) (p := fun a => zT a 12) rfl ha0)) (by omega) (g_ca_remove_ok (zIn_all (l := [48, 106]) (p := fun a => zIn [48, 106] a) rfl ha0) hR_2 H_26 h_69) rfl rfl ?_
      intro m_69 p_69 e_69 H_69
      subst e_69
      refine r_p hq 2 (pc' := 74) (L' := [(7, .long V_64), (6, .int V_56), (5, .int V_48), (4, .int V_40), (3, .int R_26), (2, .int R_2), (0, .ref a0), (1, .int X1)]) (st' := [.int ((1 : Int32)), .int R_26]) rfl ?_
      rcases z_ite h with ⟨c_74, h⟩ | ⟨c_74, h⟩
      · refine r_t2 (pc' := 78) (L' := [(7, .long V_64), (6, .int V_56), (5, .int V_48), (4, .int V_40), (3, .int R_26), (2, .int R_2), (0, .ref a0), (1, .int X1)]) hq (z_at.mk 3 rfl rfl) rfl hR_26 (rfl : (1 : Int32).toInt = 1) c_74 rfl rfl ?_
        refine r_p hq 1 (pc' := 79) (L' := [(7, .long V_64), (6, .int V_56), (5, .int V_48), (4, .int V_40), (3, .int R_26), (2, .int R_2), (0, .ref a0), (1, .int X1)]) (st' := [.ref a0]) rfl ?_
        refine r_gR (b := a0 + 10) (pc' := 82) (L' := [(7, .long V_64), (6, .int V_56), (5, .int V_48), (4, .int V_40), (3, .int R_26), (2, .int R_2), (0, .ref a0), (1, .int X1)]) H_69 hq (z_at.mk 3 rfl rfl) rfl (zIn_all (l := [48, 106]) (p := fun a => zQ a 12 17 (100 + a + 10)) rfl ha0) rfl rfl ?_
        refine r_p hq 1 (pc' := 83) (L' := [(7, .long V_64), (6, .int V_56), (5, .int V_48), (4, .int V_40), (3, .int R_26), (2, .int R_2), (0, .ref a0), (1, .int X1)]) (st' := [.int ((0 : Int32)), .ref (a0 + 10)]) rfl ?_
        refine r_pI (X := (0 : Int32)) (pc' := 86) (L' := [(7, .long V_64), (6, .int V_56), (5, .int V_48), (4, .int V_40), (3, .int R_26), (2, .int R_2), (0, .ref a0), (1, .int X1)]) H_69 hq (z_at.mk 3 rfl rfl) rfl (zIn_all (l := [48, 106]) (p := fun a => zQ (a + 10) 11 1 0) rfl ha0) (rfl : (0 : Int32).toInt = 0) (by decide) rfl rfl rfl rfl ?_
        intro m_83 H_83
        refine r_p hq 1 (pc' := 87) (L' := [(7, .long V_64), (6, .int V_56), (5, .int V_48), (4, .int V_40), (3, .int R_26), (2, .int R_2), (0, .ref a0), (1, .int X1)]) (st' := [.ref a0]) rfl ?_
        refine r_gR (b := a0 + 10) (pc' := 90) (L' := [(7, .long V_64), (6, .int V_56), (5, .int V_48), (4, .int V_40), (3, .int R_26), (2, .int R_2), (0, .ref a0), (1, .int X1)]) H_83 hq (z_at.mk 3 rfl rfl) rfl (zIn_all (l := [48, 106]) (p := fun a => zQ a 12 17 (100 + a + 10)) rfl ha0) rfl rfl ?_
        refine r_p hq 2 (pc' := 93) (L' := [(7, .long V_64), (6, .int V_56), (5, .int V_48), (4, .int V_40), (3, .int R_26), (2, .int R_2), (0, .ref a0), (1, .int X1)]) (st' := [.int X1, .int V_40, .ref (a0 + 10)]) rfl ?_
        obtain ⟨o_93, h_93, h⟩ := Option.bind_eq_some_iff.mp h
        refine r_cvV (pc' := 96) (L' := [(7, .long V_64), (6, .int V_56), (5, .int V_48), (4, .int V_40), (3, .int R_26), (2, .int R_2), (0, .ref a0), (1, .int X1)]) (Ps := [.int V_40, .int X1]) (rest := []) hq (z_at.mk 3 rfl rfl) (Or.inl ⟨rfl, rfl⟩) rfl rfl (by decide) (by decide) rfl (Nat.not_lt.mpr (Nat.le_of_ble_eq_true rfl)) rfl rfl (z_cat_le 0 rfl (by decide)) (z_lgl_le 3 rfl (by decide)) (by decide) (H_83.tg (zIn_all (l := [48, 106]) (p := fun a => zT (a + 10) 11) rfl ha0)) (by omega) (g_bs_addRest_ok (zIn_all (l := [48, 106]) (p := fun a => zIn [58, 116] (a + 10)) rfl ha0) hV_40 hx1 H_83 h_93) rfl rfl ?_
        intro m_93 p_93 e_93 H_93
        subst e_93
        refine r_p hq 2 (pc' := 99) (L' := [(0, .ref a0), (5, .int V_48), (6, .int V_56), (7, .long V_64), (9, .int ((0 : Int32)))]) (st' := []) rfl ?_
        exact g_ca_write_L99_ok ha0 zK hV_48 hV_56 hV_64 (rfl : (0 : Int32).toInt = 0) H_93 h
      · refine r_f2 (pc' := 77) (L' := [(7, .long V_64), (6, .int V_56), (5, .int V_48), (4, .int V_40), (3, .int R_26), (2, .int R_2), (0, .ref a0), (1, .int X1)]) hq (z_at.mk 3 rfl rfl) rfl hR_26 (rfl : (1 : Int32).toInt = 1) c_74 rfl rfl ?_
        cases h
        exact r_rv hq (z_at.mk 1 rfl rfl) rfl rfl H_69
    · refine r_f1 (pc' := 34) (L' := [(3, .int R_26), (2, .int R_2), (0, .ref a0), (1, .int X1)]) hq (z_at.mk 3 rfl rfl) rfl hR_26 c_31 rfl rfl ?_
      cases h
      exact r_rv hq (z_at.mk 1 rfl rfl) rfl rfl H_26
  · refine r_f1 (pc' := 10) (L' := [(2, .int R_2), (0, .ref a0), (1, .int X1)]) hq (z_at.mk 3 rfl rfl) rfl hR_2 c_7 rfl rfl ?_
    cases h
    exact r_rv hq (z_at.mk 1 rfl rfl) rfl rfl H_2
def g_ca_admit_L45 (a0 : Nat) (g4 : Int → Int → zS → Option (Int × zS)) (x2 : Int) (x3 : Int) (σ : zS) : Option (Int × zS) :=
  g4 x2 (w32 (x3 + 1)) σ
set_option maxHeartbeats 4000000 in
theorem g_ca_admit_L45_ok {xl : Nat} {xs : Nat → Int32} {a0 : Nat} (ha0 : zIn [48, 106] a0 = true) {g4 : Int → Int → zS → Option (Int × zS)} (hg4 : ∀ {X2 : Int32} {x2 : Int} {X3 : Int32} {x3 : Int} {σ : zS} {p : Nat} {m : zM} {o : Int × zS}, X2.toInt = x2 → X3.toInt = x3 → zRep xl xs p m σ → g4 x2 x3 σ = some o → zGo xl xs (fun p' => p = p') 6 43 4 [(0, .ref a0), (1, .ref 126), (2, .int X2), (3, .int X3)] [] m (vI o.1) o.2) {X2 : Int32} {x2 : Int} (hx2 : X2.toInt = x2) {X3 : Int32} {x3 : Int} (hx3 : X3.toInt = x3) {σ : zS} {p : Nat} {m : zM} {o : Int × zS} (H : zRep xl xs p m σ) (h : g_ca_admit_L45 a0 g4 x2 x3 σ = some o) : zGo xl xs (fun p' => p = p') 6 43 45 [(0, .ref a0), (1, .ref 126), (2, .int X2), (3, .int X3)] [] m (vI o.1) o.2 := by
  have hq : z_mth 43 = some z_r43 := rfl
  unfold g_ca_admit_L45 at h
  refine r_p hq 2 (pc' := 4) (L' := [(0, .ref a0), (1, .ref 126), (2, .int X2), (3, .int (X3 + (1 : Int32)))]) (st' := []) rfl ?_
  exact hg4 hx2 (tx_iadd hx3 (rfl : (1 : Int32).toInt = 1)) H h
def g_ca_admit_L4 (a0 : Nat) : Nat → Int → Int → zS → Option (Int × zS)
  | 0, _, _, _ => none
  | n + 1, x2, x3, σ =>
    let v_6 := σ 126 1
    if v_6 ≤ x3 then
      (g_ca_trim a0 σ).bind fun o_52 =>
      some (x2, o_52.2)
    else
      (g_bs_at 126 x3 σ).bind fun o_15 =>
      (g_ca_regionAt a0 o_15.1 o_15.2).bind fun o_18 =>
      if 0 ≤ o_18.1 then
        g_ca_admit_L45 a0 ((g_ca_admit_L4 a0 n)) x2 x3 o_18.2
      else
        (g_bs_at 126 x3 o_18.2).bind fun o_27 =>
        (g_ca_ask a0 o_27.1 o_27.2).bind fun o_30 =>
        (g_bs_at 126 x3 o_30.2).bind fun o_36 =>
        (g_ca_addNew a0 o_36.1 o_36.2).bind fun o_39 =>
        g_ca_admit_L45 a0 ((g_ca_admit_L4 a0 n)) (w32 (x2 + 1)) x3 o_39.2
set_option maxHeartbeats 4000000 in
theorem g_ca_admit_L4_ok {xl : Nat} {xs : Nat → Int32} {a0 : Nat} (ha0 : zIn [48, 106] a0 = true) : ∀ (n : Nat) {X2 : Int32} {x2 : Int} {X3 : Int32} {x3 : Int} {σ : zS} {p : Nat} {m : zM} {o : Int × zS}, X2.toInt = x2 → X3.toInt = x3 → zRep xl xs p m σ → g_ca_admit_L4 a0 n x2 x3 σ = some o → zGo xl xs (fun p' => p = p') 6 43 4 [(0, .ref a0), (1, .ref 126), (2, .int X2), (3, .int X3)] [] m (vI o.1) o.2
  | 0, _, _, _, _, _, _, _, _, _, _, _, h => by cases h
  | n + 1, X2, x2, X3, x3, σ, p, m, o, hx2, hx3, H, h => by
    have hq : z_mth 43 = some z_r43 := rfl
    have ih := fun {X2 : Int32} {x2 : Int} {X3 : Int32} {x3 : Int} {σ : zS} {p : Nat} {m : zM} {o : Int × zS} => g_ca_admit_L4_ok (xl := xl) (xs := xs) ha0 n (X2 := X2) (x2 := x2) (X3 := X3) (x3 := x3) (σ := σ) (p := p) (m := m) (o := o)
    unfold g_ca_admit_L4 at h
    refine r_p hq 2 (pc' := 6) (L' := [(0, .ref a0), (1, .ref 126), (2, .int X2), (3, .int X3)]) (st' := [.ref 126, .int X3]) rfl ?_
    refine r_gI (pc' := 9) (L' := [(0, .ref a0), (1, .ref 126), (2, .int X2), (3, .int X3)]) H hq (z_at.mk 3 rfl rfl) rfl rfl rfl rfl ?_
    intro V_6 hV_6
    rcases z_ite h with ⟨c_9, h⟩ | ⟨c_9, h⟩
    · refine r_t2 (pc' := 51) (L' := [(0, .ref a0), (1, .ref 126), (2, .int X2), (3, .int X3)]) hq (z_at.mk 3 rfl rfl) rfl hx3 hV_6 c_9 rfl rfl ?_
      refine r_p hq 1 (pc' := 52) (L' := [(0, .ref a0), (1, .ref 126), (2, .int X2), (3, .int X3)]) (st' := [.ref a0]) rfl ?_
      obtain ⟨o_52, h_52, h⟩ := Option.bind_eq_some_iff.mp h
      refine r_cvV (pc' := 55) (L' := [(0, .ref a0), (1, .ref 126), (2, .int X2), (3, .int X3)]) (Ps := []) (rest := []) hq (z_at.mk 3 rfl rfl) (Or.inl ⟨rfl, rfl⟩) rfl rfl (by decide) (by decide) rfl (Nat.not_lt.mpr (Nat.le_of_ble_eq_true rfl)) rfl rfl (z_cat_le 0 rfl (by decide)) (z_lgl_le 1 rfl (by decide)) (by decide) (H.tg (zIn_all (l := [48, 106]) (p := fun a => zT a 12) rfl ha0)) (by omega) (g_ca_trim_ok (zIn_all (l := [48, 106]) (p := fun a => zIn [48, 106] a) rfl ha0) H h_52) rfl rfl ?_
      intro m_52 p_52 e_52 H_52
      subst e_52
      refine r_p hq 1 (pc' := 56) (L' := [(0, .ref a0), (1, .ref 126), (2, .int X2), (3, .int X3)]) (st' := [.int X2]) rfl ?_
      cases h
      exact r_ri hq (z_at.mk 1 rfl rfl) rfl rfl hx2 rfl H_52
    · refine r_f2 (pc' := 12) (L' := [(0, .ref a0), (1, .ref 126), (2, .int X2), (3, .int X3)]) hq (z_at.mk 3 rfl rfl) rfl hx3 hV_6 c_9 rfl rfl ?_
      refine r_p hq 3 (pc' := 15) (L' := [(0, .ref a0), (1, .ref 126), (2, .int X2), (3, .int X3)]) (st' := [.int X3, .ref 126, .ref a0]) rfl ?_
      obtain ⟨o_15, h_15, h⟩ := Option.bind_eq_some_iff.mp h
      refine r_cvI (pc' := 18) (L' := [(0, .ref a0), (1, .ref 126), (2, .int X2), (3, .int X3)]) (Ps := [.int X3]) (rest := [.ref a0]) hq (z_at.mk 3 rfl rfl) (Or.inl ⟨rfl, rfl⟩) rfl rfl (by decide) (by decide) rfl (Nat.not_lt.mpr (Nat.le_of_ble_eq_true rfl)) rfl rfl (z_cat_le 1 rfl (by decide)) (z_lgl_le 2 rfl (by decide)) (by decide) (H.tg rfl) (by omega) (g_bs_at_ok rfl hx3 H h_15) rfl rfl ?_
      intro R_15 m_15 p_15 e_15 hR_15 H_15
      subst e_15
      obtain ⟨o_18, h_18, h⟩ := Option.bind_eq_some_iff.mp h
      refine r_cvI (pc' := 21) (L' := [(0, .ref a0), (1, .ref 126), (2, .int X2), (3, .int X3)]) (Ps := [.int R_15]) (rest := []) hq (z_at.mk 3 rfl rfl) (Or.inl ⟨rfl, rfl⟩) rfl rfl (by decide) (by decide) rfl (Nat.not_lt.mpr (Nat.le_of_ble_eq_true rfl)) rfl rfl (z_cat_le 0 rfl (by decide)) (z_lgl_le 2 rfl (by decide)) (by decide) (H_15.tg (zIn_all (l := [48, 106]) (p := fun a => zT a 12) rfl ha0)) (by omega) (g_ca_regionAt_ok (zIn_all (l := [48, 106]) (p := fun a => zIn [48, 106] a) rfl ha0) hR_15 H_15 h_18) rfl rfl ?_
      intro R_18 m_18 p_18 e_18 hR_18 H_18
      subst e_18
      rcases z_ite h with ⟨c_21, h⟩ | ⟨c_21, h⟩
      · refine r_t1 (pc' := 45) (L' := [(0, .ref a0), (1, .ref 126), (2, .int X2), (3, .int X3)]) hq (z_at.mk 3 rfl rfl) rfl hR_18 c_21 rfl rfl ?_
        exact g_ca_admit_L45_ok ha0 ih hx2 hx3 H_18 h
      · refine r_f1 (pc' := 24) (L' := [(0, .ref a0), (1, .ref 126), (2, .int X2), (3, .int X3)]) hq (z_at.mk 3 rfl rfl) rfl hR_18 c_21 rfl rfl ?_
        refine r_p hq 3 (pc' := 27) (L' := [(0, .ref a0), (1, .ref 126), (2, .int X2), (3, .int X3)]) (st' := [.int X3, .ref 126, .ref a0]) rfl ?_
        obtain ⟨o_27, h_27, h⟩ := Option.bind_eq_some_iff.mp h
        refine r_cvI (pc' := 30) (L' := [(0, .ref a0), (1, .ref 126), (2, .int X2), (3, .int X3)]) (Ps := [.int X3]) (rest := [.ref a0]) hq (z_at.mk 3 rfl rfl) (Or.inl ⟨rfl, rfl⟩) rfl rfl (by decide) (by decide) rfl (Nat.not_lt.mpr (Nat.le_of_ble_eq_true rfl)) rfl rfl (z_cat_le 1 rfl (by decide)) (z_lgl_le 2 rfl (by decide)) (by decide) (H_18.tg rfl) (by omega) (g_bs_at_ok rfl hx3 H_18 h_27) rfl rfl ?_
        intro R_27 m_27 p_27 e_27 hR_27 H_27
        subst e_27
        obtain ⟨o_30, h_30, h⟩ := Option.bind_eq_some_iff.mp h
        refine r_cvV (pc' := 33) (L' := [(0, .ref a0), (1, .ref 126), (2, .int X2), (3, .int X3)]) (Ps := [.int R_27]) (rest := []) hq (z_at.mk 3 rfl rfl) (Or.inl ⟨rfl, rfl⟩) rfl rfl (by decide) (by decide) rfl (Nat.not_lt.mpr (Nat.le_of_ble_eq_true rfl)) rfl rfl (z_cat_le 0 rfl (by decide)) (z_lgl_le 2 rfl (by decide)) (by decide) (H_27.tg (zIn_all (l := [48, 106]) (p := fun a => zT a 12) rfl ha0)) (by omega) (g_ca_ask_ok (zIn_all (l := [48, 106]) (p := fun a => zIn [48, 106] a) rfl ha0) hR_27 H_27 h_30) rfl rfl ?_
        intro m_30 p_30 e_30 H_30
        subst e_30
        refine r_p hq 3 (pc' := 36) (L' := [(0, .ref a0), (1, .ref 126), (2, .int X2), (3, .int X3)]) (st' := [.int X3, .ref 126, .ref a0]) rfl ?_
        obtain ⟨o_36, h_36, h⟩ := Option.bind_eq_some_iff.mp h
        refine r_cvI (pc' := 39) (L' := [(0, .ref a0), (1, .ref 126), (2, .int X2), (3, .int X3)]) (Ps := [.int X3]) (rest := [.ref a0]) hq (z_at.mk 3 rfl rfl) (Or.inl ⟨rfl, rfl⟩) rfl rfl (by decide) (by decide) rfl (Nat.not_lt.mpr (Nat.le_of_ble_eq_true rfl)) rfl rfl (z_cat_le 1 rfl (by decide)) (z_lgl_le 2 rfl (by decide)) (by decide) (H_30.tg rfl) (by omega) (g_bs_at_ok rfl hx3 H_30 h_36) rfl rfl ?_
        intro R_36 m_36 p_36 e_36 hR_36 H_36
        subst e_36
        obtain ⟨o_39, h_39, h⟩ := Option.bind_eq_some_iff.mp h
        refine r_cvV (pc' := 42) (L' := [(0, .ref a0), (1, .ref 126), (2, .int X2), (3, .int X3)]) (Ps := [.int R_36]) (rest := []) hq (z_at.mk 3 rfl rfl) (Or.inl ⟨rfl, rfl⟩) rfl rfl (by decide) (by decide) rfl (Nat.not_lt.mpr (Nat.le_of_ble_eq_true rfl)) rfl rfl (z_cat_le 0 rfl (by decide)) (z_lgl_le 2 rfl (by decide)) (by decide) (H_36.tg (zIn_all (l := [48, 106]) (p := fun a => zT a 12) rfl ha0)) (by omega) (g_ca_addNew_ok (zIn_all (l := [48, 106]) (p := fun a => zIn [48, 106] a) rfl ha0) hR_36 H_36 h_39) rfl rfl ?_
        intro m_39 p_39 e_39 H_39
        subst e_39
        refine r_p hq 1 (pc' := 45) (L' := [(0, .ref a0), (1, .ref 126), (2, .int (X2 + (1 : Int32))), (3, .int X3)]) (st' := []) rfl ?_
        exact g_ca_admit_L45_ok ha0 ih (tx_iadd hx2 (rfl : (1 : Int32).toInt = 1)) hx3 H_39 h
def g_ca_admit (a0 : Nat) (σ : zS) : Option (Int × zS) :=
  g_ca_admit_L4 a0 zK 0 0 σ
set_option maxHeartbeats 4000000 in
theorem g_ca_admit_ok {xl : Nat} {xs : Nat → Int32} {a0 : Nat} (ha0 : zIn [48, 106] a0 = true) {σ : zS} {p : Nat} {m : zM} {o : Int × zS} (H : zRep xl xs p m σ) (h : g_ca_admit a0 σ = some o) : zGo xl xs (fun p' => p = p') 6 43 0 (z_can 43 0 (lv_args 0 [.ref a0, .ref 126])) [] m (vI o.1) o.2 := by
  have hq : z_mth 43 = some z_r43 := rfl
  unfold g_ca_admit at h
  show zGo xl xs (fun p' => p = p') 6 43 0 [(0, .ref a0), (1, .ref 126)] [] m (vI o.1) o.2
  refine r_p hq 4 (pc' := 4) (L' := [(0, .ref a0), (1, .ref 126), (2, .int ((0 : Int32))), (3, .int ((0 : Int32)))]) (st' := []) rfl ?_
  exact g_ca_admit_L4_ok ha0 zK (rfl : (0 : Int32).toInt = 0) (rfl : (0 : Int32).toInt = 0) H h
def g_ca_bestSet_L141 (a0 : Nat) (g7 : Int → Int → Int → Int → zS → Option (Int × zS)) (x1 : Int) (x2 : Int) (y3 : Int) (x5 : Int) (σ : zS) : Option (Int × zS) :=
  g7 x1 x2 y3 (w32 (x5 + 1)) σ
set_option maxHeartbeats 4000000 in
theorem g_ca_bestSet_L141_ok {xl : Nat} {xs : Nat → Int32} {a0 : Nat} (ha0 : zIn [48, 106] a0 = true) {g7 : Int → Int → Int → Int → zS → Option (Int × zS)} (hg7 : ∀ {X1 : Int32} {x1 : Int} {X2 : Int32} {x2 : Int} {Y3 : Int64} {y3 : Int} {X5 : Int32} {x5 : Int} {σ : zS} {p : Nat} {m : zM} {o : Int × zS}, X1.toInt = x1 → X2.toInt = x2 → Y3.toInt = y3 → X5.toInt = x5 → zRep xl xs p m σ → g7 x1 x2 y3 x5 σ = some o → zGo xl xs (fun p' => p = p') 3 44 7 [(0, .ref a0), (1, .int X1), (2, .int X2), (3, .long Y3), (5, .int X5)] [] m (vI o.1) o.2) {X1 : Int32} {x1 : Int} (hx1 : X1.toInt = x1) {X2 : Int32} {x2 : Int} (hx2 : X2.toInt = x2) {Y3 : Int64} {y3 : Int} (hy3 : Y3.toInt = y3) {X5 : Int32} {x5 : Int} (hx5 : X5.toInt = x5) {σ : zS} {p : Nat} {m : zM} {o : Int × zS} (H : zRep xl xs p m σ) (h : g_ca_bestSet_L141 a0 g7 x1 x2 y3 x5 σ = some o) : zGo xl xs (fun p' => p = p') 3 44 141 [(0, .ref a0), (1, .int X1), (2, .int X2), (3, .long Y3), (5, .int X5)] [] m (vI o.1) o.2 := by
  have hq : z_mth 44 = some z_r44 := rfl
  unfold g_ca_bestSet_L141 at h
  refine r_p hq 2 (pc' := 7) (L' := [(0, .ref a0), (1, .int X1), (2, .int X2), (3, .long Y3), (5, .int (X5 + (1 : Int32)))]) (st' := []) rfl ?_
  exact hg7 hx1 hx2 hy3 (tx_iadd hx5 (rfl : (1 : Int32).toInt = 1)) H h
def g_ca_bestSet_L122 (a0 : Nat) (g7 : Int → Int → Int → Int → zS → Option (Int × zS)) (x1 : Int) (x2 : Int) (y3 : Int) (x5 : Int) (x6 : Int) (y7 : Int) (σ : zS) : Option (Int × zS) :=
  if x1 < x6 then
    g_ca_bestSet_L141 a0 g7 x1 x2 y3 x5 σ
  else
    if lCmp y7 y3 ≤ 0 then
      g_ca_bestSet_L141 a0 g7 x1 x2 y3 x5 σ
    else
      g_ca_bestSet_L141 a0 g7 x1 x5 y7 x5 σ
set_option maxHeartbeats 4000000 in
theorem g_ca_bestSet_L122_ok {xl : Nat} {xs : Nat → Int32} {a0 : Nat} (ha0 : zIn [48, 106] a0 = true) {g7 : Int → Int → Int → Int → zS → Option (Int × zS)} (hg7 : ∀ {X1 : Int32} {x1 : Int} {X2 : Int32} {x2 : Int} {Y3 : Int64} {y3 : Int} {X5 : Int32} {x5 : Int} {σ : zS} {p : Nat} {m : zM} {o : Int × zS}, X1.toInt = x1 → X2.toInt = x2 → Y3.toInt = y3 → X5.toInt = x5 → zRep xl xs p m σ → g7 x1 x2 y3 x5 σ = some o → zGo xl xs (fun p' => p = p') 3 44 7 [(0, .ref a0), (1, .int X1), (2, .int X2), (3, .long Y3), (5, .int X5)] [] m (vI o.1) o.2) {X1 : Int32} {x1 : Int} (hx1 : X1.toInt = x1) {X2 : Int32} {x2 : Int} (hx2 : X2.toInt = x2) {Y3 : Int64} {y3 : Int} (hy3 : Y3.toInt = y3) {X5 : Int32} {x5 : Int} (hx5 : X5.toInt = x5) {X6 : Int32} {x6 : Int} (hx6 : X6.toInt = x6) {Y7 : Int64} {y7 : Int} (hy7 : Y7.toInt = y7) {σ : zS} {p : Nat} {m : zM} {o : Int × zS} (H : zRep xl xs p m σ) (h : g_ca_bestSet_L122 a0 g7 x1 x2 y3 x5 x6 y7 σ = some o) : zGo xl xs (fun p' => p = p') 3 44 122 [(0, .ref a0), (1, .int X1), (2, .int X2), (3, .long Y3), (5, .int X5), (6, .int X6), (7, .long Y7)] [] m (vI o.1) o.2 := by
  have hq : z_mth 44 = some z_r44 := rfl
  unfold g_ca_bestSet_L122 at h
  refine r_p hq 2 (pc' := 125) (L' := [(0, .ref a0), (1, .int X1), (2, .int X2), (3, .long Y3), (5, .int X5), (6, .int X6), (7, .long Y7)]) (st' := [.int X1, .int X6]) rfl ?_
  rcases z_ite h with ⟨c_125, h⟩ | ⟨c_125, h⟩
  · refine r_t2 (pc' := 141) (L' := [(0, .ref a0), (1, .int X1), (2, .int X2), (3, .long Y3), (5, .int X5)]) hq (z_at.mk 3 rfl rfl) rfl hx6 hx1 c_125 rfl rfl ?_
    exact g_ca_bestSet_L141_ok ha0 hg7 hx1 hx2 hy3 hx5 H h
  · refine r_f2 (pc' := 128) (L' := [(0, .ref a0), (1, .int X1), (2, .int X2), (3, .long Y3), (5, .int X5), (6, .int X6), (7, .long Y7)]) hq (z_at.mk 3 rfl rfl) rfl hx6 hx1 c_125 rfl rfl ?_
    refine r_p hq 3 (pc' := 132) (L' := [(0, .ref a0), (1, .int X1), (2, .int X2), (3, .long Y3), (5, .int X5), (6, .int X6), (7, .long Y7)]) (st' := [.int (lg_cmp Y7 Y3)]) rfl ?_
    rcases z_ite h with ⟨c_132, h⟩ | ⟨c_132, h⟩
    · refine r_t1 (pc' := 141) (L' := [(0, .ref a0), (1, .int X1), (2, .int X2), (3, .long Y3), (5, .int X5)]) hq (z_at.mk 3 rfl rfl) rfl (tx_lcmp hy7 hy3) c_132 rfl rfl ?_
      exact g_ca_bestSet_L141_ok ha0 hg7 hx1 hx2 hy3 hx5 H h
    · refine r_f1 (pc' := 135) (L' := [(0, .ref a0), (1, .int X1), (2, .int X2), (3, .long Y3), (5, .int X5), (6, .int X6), (7, .long Y7)]) hq (z_at.mk 3 rfl rfl) rfl (tx_lcmp hy7 hy3) c_132 rfl rfl ?_
      refine r_p hq 4 (pc' := 141) (L' := [(0, .ref a0), (1, .int X1), (2, .int X5), (3, .long Y7), (5, .int X5)]) (st' := []) rfl ?_
      exact g_ca_bestSet_L141_ok ha0 hg7 hx1 hx5 hy7 hx5 H h
def g_ca_bestSet_L116 (a0 : Nat) (g32 : Int → Int → Int → Int → Int → Int → Int → zS → Option (Int × zS)) (x1 : Int) (x2 : Int) (y3 : Int) (x5 : Int) (x6 : Int) (y7 : Int) (x9 : Int) (σ : zS) : Option (Int × zS) :=
  g32 x1 x2 y3 x5 x6 y7 (w32 (x9 + 1)) σ
set_option maxHeartbeats 4000000 in
theorem g_ca_bestSet_L116_ok {xl : Nat} {xs : Nat → Int32} {a0 : Nat} (ha0 : zIn [48, 106] a0 = true) {g32 : Int → Int → Int → Int → Int → Int → Int → zS → Option (Int × zS)} (hg32 : ∀ {X1 : Int32} {x1 : Int} {X2 : Int32} {x2 : Int} {Y3 : Int64} {y3 : Int} {X5 : Int32} {x5 : Int} {X6 : Int32} {x6 : Int} {Y7 : Int64} {y7 : Int} {X9 : Int32} {x9 : Int} {σ : zS} {p : Nat} {m : zM} {o : Int × zS}, X1.toInt = x1 → X2.toInt = x2 → Y3.toInt = y3 → X5.toInt = x5 → X6.toInt = x6 → Y7.toInt = y7 → X9.toInt = x9 → zRep xl xs p m σ → g32 x1 x2 y3 x5 x6 y7 x9 σ = some o → zGo xl xs (fun p' => p = p') 3 44 32 [(0, .ref a0), (1, .int X1), (2, .int X2), (3, .long Y3), (5, .int X5), (6, .int X6), (7, .long Y7), (9, .int X9)] [] m (vI o.1) o.2) {X1 : Int32} {x1 : Int} (hx1 : X1.toInt = x1) {X2 : Int32} {x2 : Int} (hx2 : X2.toInt = x2) {Y3 : Int64} {y3 : Int} (hy3 : Y3.toInt = y3) {X5 : Int32} {x5 : Int} (hx5 : X5.toInt = x5) {X6 : Int32} {x6 : Int} (hx6 : X6.toInt = x6) {Y7 : Int64} {y7 : Int} (hy7 : Y7.toInt = y7) {X9 : Int32} {x9 : Int} (hx9 : X9.toInt = x9) {σ : zS} {p : Nat} {m : zM} {o : Int × zS} (H : zRep xl xs p m σ) (h : g_ca_bestSet_L116 a0 g32 x1 x2 y3 x5 x6 y7 x9 σ = some o) : zGo xl xs (fun p' => p = p') 3 44 116 [(0, .ref a0), (1, .int X1), (2, .int X2), (3, .long Y3), (5, .int X5), (6, .int X6), (7, .long Y7), (9, .int X9)] [] m (vI o.1) o.2 := by
  have hq : z_mth 44 = some z_r44 := rfl
  unfold g_ca_bestSet_L116 at h
  refine r_p hq 2 (pc' := 32) (L' := [(0, .ref a0), (1, .int X1), (2, .int X2), (3, .long Y3), (5, .int X5), (6, .int X6), (7, .long Y7), (9, .int (X9 + (1 : Int32)))]) (st' := []) rfl ?_
  exact hg32 hx1 hx2 hy3 hx5 hx6 hy7 (tx_iadd hx9 (rfl : (1 : Int32).toInt = 1)) H h
def g_ca_bestSet_L32 (a0 : Nat) (g7 : Int → Int → Int → Int → zS → Option (Int × zS)) : Nat → Int → Int → Int → Int → Int → Int → Int → zS → Option (Int × zS)
  | 0, _, _, _, _, _, _, _, _ => none
  | n + 1, x1, x2, y3, x5, x6, y7, x9, σ =>
    let v_35 := σ a0 2
    if v_35 ≤ x9 then
      g_ca_bestSet_L122 a0 g7 x1 x2 y3 x5 x6 y7 σ
    else
      if x1 < x6 then
        g_ca_bestSet_L122 a0 g7 x1 x2 y3 x5 x6 y7 σ
      else
        if iAnd (iShr x5 x9) 1 ≠ 0 then
          if 0 ≤ x9 ∧ x9 < 181 then
          let v_70 := σ (a0 + 4) x9
          (g_so_rowsIn v_70 σ).bind fun o_71 =>
          (g_jLong_bitCount o_71.1 o_71.2).bind fun o_74 =>
          (g_se_of (a0 + 1) 0 o_74.2).bind fun o_95 =>
          if 0 ≤ x9 ∧ x9 < 181 then
          let v_109 := o_95.2 (a0 + 5) x9
          g_ca_bestSet_L116 a0 ((g_ca_bestSet_L32 a0 g7 n)) x1 x2 y3 x5 (w32 (x6 + (w32 (1 + o_74.1)))) (w64 (y7 + (w64 ((w32 (o_95.1 + o_74.1)) * (w64 (1 + v_109)))))) x9 o_95.2
          else none
          else none
        else
          g_ca_bestSet_L116 a0 ((g_ca_bestSet_L32 a0 g7 n)) x1 x2 y3 x5 x6 y7 x9 σ
set_option maxHeartbeats 4000000 in
theorem g_ca_bestSet_L32_ok {xl : Nat} {xs : Nat → Int32} {a0 : Nat} (ha0 : zIn [48, 106] a0 = true) {g7 : Int → Int → Int → Int → zS → Option (Int × zS)} (hg7 : ∀ {X1 : Int32} {x1 : Int} {X2 : Int32} {x2 : Int} {Y3 : Int64} {y3 : Int} {X5 : Int32} {x5 : Int} {σ : zS} {p : Nat} {m : zM} {o : Int × zS}, X1.toInt = x1 → X2.toInt = x2 → Y3.toInt = y3 → X5.toInt = x5 → zRep xl xs p m σ → g7 x1 x2 y3 x5 σ = some o → zGo xl xs (fun p' => p = p') 3 44 7 [(0, .ref a0), (1, .int X1), (2, .int X2), (3, .long Y3), (5, .int X5)] [] m (vI o.1) o.2) : ∀ (n : Nat) {X1 : Int32} {x1 : Int} {X2 : Int32} {x2 : Int} {Y3 : Int64} {y3 : Int} {X5 : Int32} {x5 : Int} {X6 : Int32} {x6 : Int} {Y7 : Int64} {y7 : Int} {X9 : Int32} {x9 : Int} {σ : zS} {p : Nat} {m : zM} {o : Int × zS}, X1.toInt = x1 → X2.toInt = x2 → Y3.toInt = y3 → X5.toInt = x5 → X6.toInt = x6 → Y7.toInt = y7 → X9.toInt = x9 → zRep xl xs p m σ → g_ca_bestSet_L32 a0 g7 n x1 x2 y3 x5 x6 y7 x9 σ = some o → zGo xl xs (fun p' => p = p') 3 44 32 [(0, .ref a0), (1, .int X1), (2, .int X2), (3, .long Y3), (5, .int X5), (6, .int X6), (7, .long Y7), (9, .int X9)] [] m (vI o.1) o.2
  | 0, _, _, _, _, _, _, _, _, _, _, _, _, _, _, _, _, _, _, _, _, _, _, _, _, _, _, h => by cases h
  | n + 1, X1, x1, X2, x2, Y3, y3, X5, x5, X6, x6, Y7, y7, X9, x9, σ, p, m, o, hx1, hx2, hy3, hx5, hx6, hy7, hx9, H, h => by
    have hq : z_mth 44 = some z_r44 := rfl
    have ih := fun {X1 : Int32} {x1 : Int} {X2 : Int32} {x2 : Int} {Y3 : Int64} {y3 : Int} {X5 : Int32} {x5 : Int} {X6 : Int32} {x6 : Int} {Y7 : Int64} {y7 : Int} {X9 : Int32} {x9 : Int} {σ : zS} {p : Nat} {m : zM} {o : Int × zS} => g_ca_bestSet_L32_ok (xl := xl) (xs := xs) ha0 hg7 n (X1 := X1) (x1 := x1) (X2 := X2) (x2 := x2) (Y3 := Y3) (y3 := y3) (X5 := X5) (x5 := x5) (X6 := X6) (x6 := x6) (Y7 := Y7) (y7 := y7) (X9 := X9) (x9 := x9) (σ := σ) (p := p) (m := m) (o := o)
    unfold g_ca_bestSet_L32 at h
    refine r_p hq 2 (pc' := 35) (L' := [(0, .ref a0), (1, .int X1), (2, .int X2), (3, .long Y3), (5, .int X5), (6, .int X6), (7, .long Y7), (9, .int X9)]) (st' := [.ref a0, .int X9]) rfl ?_
    refine r_gI (pc' := 38) (L' := [(0, .ref a0), (1, .int X1), (2, .int X2), (3, .long Y3), (5, .int X5), (6, .int X6), (7, .long Y7), (9, .int X9)]) H hq (z_at.mk 3 rfl rfl) rfl (zIn_all (l := [48, 106]) (p := fun a => zQ a 12 2 0) rfl ha0) rfl rfl ?_
    intro V_35 hV_35
    rcases z_ite h with ⟨c_38, h⟩ | ⟨c_38, h⟩
    · refine r_t2 (pc' := 122) (L' := [(0, .ref a0), (1, .int X1), (2, .int X2), (3, .long Y3), (5, .int X5), (6, .int X6), (7, .long Y7)]) hq (z_at.mk 3 rfl rfl) rfl hx9 hV_35 c_38 rfl rfl ?_
      exact g_ca_bestSet_L122_ok ha0 hg7 hx1 hx2 hy3 hx5 hx6 hy7 H h
    · refine r_f2 (pc' := 41) (L' := [(0, .ref a0), (1, .int X1), (2, .int X2), (3, .long Y3), (5, .int X5), (6, .int X6), (7, .long Y7), (9, .int X9)]) hq (z_at.mk 3 rfl rfl) rfl hx9 hV_35 c_38 rfl rfl ?_
      refine r_p hq 2 (pc' := 44) (L' := [(0, .ref a0), (1, .int X1), (2, .int X2), (3, .long Y3), (5, .int X5), (6, .int X6), (7, .long Y7), (9, .int X9)]) (st' := [.int X1, .int X6]) rfl ?_
      rcases z_ite h with ⟨c_44, h⟩ | ⟨c_44, h⟩
      · refine r_t2 (pc' := 122) (L' := [(0, .ref a0), (1, .int X1), (2, .int X2), (3, .long Y3), (5, .int X5), (6, .int X6), (7, .long Y7)]) hq (z_at.mk 3 rfl rfl) rfl hx6 hx1 c_44 rfl rfl ?_
        exact g_ca_bestSet_L122_ok ha0 hg7 hx1 hx2 hy3 hx5 hx6 hy7 H h
      · refine r_f2 (pc' := 47) (L' := [(0, .ref a0), (1, .int X1), (2, .int X2), (3, .long Y3), (5, .int X5), (6, .int X6), (7, .long Y7), (9, .int X9)]) hq (z_at.mk 3 rfl rfl) rfl hx6 hx1 c_44 rfl rfl ?_
        refine r_p hq 5 (pc' := 54) (L' := [(0, .ref a0), (1, .int X1), (2, .int X2), (3, .long Y3), (5, .int X5), (6, .int X6), (7, .long Y7), (9, .int X9)]) (st' := [.int ((X5 >>> (X9 &&& 31)) &&& ((1 : Int32)))]) rfl ?_
        rcases z_ite h with ⟨c_54, h⟩ | ⟨c_54, h⟩
        · refine r_t1 (pc' := 60) (L' := [(0, .ref a0), (1, .int X1), (2, .int X2), (3, .long Y3), (5, .int X5), (6, .int X6), (7, .long Y7), (9, .int X9)]) hq (z_at.mk 3 rfl rfl) rfl (tx_iand (tx_ishr hx5 hx9) (rfl : (1 : Int32).toInt = 1)) c_54 rfl rfl ?_
          refine r_p hq 1 (pc' := 61) (L' := [(0, .ref a0), (1, .int X1), (2, .int X2), (3, .long Y3), (5, .int X5), (6, .int X6), (7, .long Y7), (9, .int X9)]) (st' := [.ref a0]) rfl ?_
          refine r_gR (b := 41) (pc' := 64) (L' := [(0, .ref a0), (1, .int X1), (2, .int X2), (3, .long Y3), (5, .int X5), (6, .int X6), (7, .long Y7), (9, .int X9)]) H hq (z_at.mk 3 rfl rfl) rfl (zIn_all (l := [48, 106]) (p := fun a => zQ a 12 0 (100 + 41)) rfl ha0) rfl rfl ?_
          refine r_p hq 1 (pc' := 65) (L' := [(0, .ref a0), (1, .int X1), (2, .int X2), (3, .long Y3), (5, .int X5), (6, .int X6), (7, .long Y7), (9, .int X9)]) (st' := [.ref a0, .ref 41]) rfl ?_
          refine r_gR (b := a0 + 4) (pc' := 68) (L' := [(0, .ref a0), (1, .int X1), (2, .int X2), (3, .long Y3), (5, .int X5), (6, .int X6), (7, .long Y7), (9, .int X9)]) H hq (z_at.mk 3 rfl rfl) rfl (zIn_all (l := [48, 106]) (p := fun a => zQ a 12 4 (100 + a + 4)) rfl ha0) rfl rfl ?_
          refine r_p hq 1 (pc' := 70) (L' := [(0, .ref a0), (1, .int X1), (2, .int X2), (3, .long Y3), (5, .int X5), (6, .int X6), (7, .long Y7), (9, .int X9)]) (st' := [.int X9, .ref (a0 + 4), .ref 41]) rfl ?_
          obtain ⟨g_70, h⟩ := z_ifo_some h
          refine r_ia (pc' := 71) (L' := [(0, .ref a0), (1, .int X1), (2, .int X2), (3, .long Y3), (5, .int X5), (6, .int X6), (7, .long Y7), (9, .int X9)]) H hq (z_at.mk 1 rfl rfl) (zIn_all (l := [48, 106]) (p := fun a => zAr (a + 4) 0 181) rfl ha0) hx9 g_70 rfl rfl ?_
          intro V_70 hV_70
          obtain ⟨o_71, h_71, h⟩ := Option.bind_eq_some_iff.mp h
          refine r_cvL (pc' := 74) (L' := [(0, .ref a0), (1, .int X1), (2, .int X2), (3, .long Y3), (5, .int X5), (6, .int X6), (7, .long Y7), (9, .int X9)]) (Ps := [.int V_70]) (rest := []) hq (z_at.mk 3 rfl rfl) (Or.inl ⟨rfl, rfl⟩) rfl rfl (by decide) (by decide) rfl (Nat.not_lt.mpr (Nat.le_of_ble_eq_true rfl)) rfl rfl (z_cat_le 0 rfl (by decide)) (z_lgl_le 2 rfl (by decide)) (by decide) (H.tg rfl) (by omega) (g_so_rowsIn_ok hV_70 H h_71) rfl rfl ?_
          intro R_71 m_71 p_71 e_71 hR_71 H_71
          subst e_71
          obtain ⟨o_74, h_74, h⟩ := Option.bind_eq_some_iff.mp h
          refine r_csI (pc' := 77) (L' := [(0, .ref a0), (1, .int X1), (2, .int X2), (3, .long Y3), (5, .int X5), (6, .int X6), (7, .long Y7), (9, .int X9)]) (As := [.long R_71]) (rest := []) (j := 287) hq (z_at.mk 3 rfl rfl) (Or.inl ⟨rfl, rfl⟩) rfl rfl (by omega) (g_jLong_bitCount_ok hR_71 H_71 h_74) rfl rfl ?_
          intro R_74 m_74 p_74 e_74 hR_74 H_74
          subst e_74
          refine r_p hq 9 (pc' := 91) (L' := [(6, .int (X6 + (((1 : Int32)) + R_74))), (10, .int R_74), (0, .ref a0), (1, .int X1), (2, .int X2), (3, .long Y3), (5, .int X5), (7, .long Y7), (9, .int X9)]) (st' := [.ref a0, .long Y7]) rfl ?_
          refine r_gR (b := a0 + 1) (pc' := 94) (L' := [(6, .int (X6 + (((1 : Int32)) + R_74))), (10, .int R_74), (0, .ref a0), (1, .int X1), (2, .int X2), (3, .long Y3), (5, .int X5), (7, .long Y7), (9, .int X9)]) H_74 hq (z_at.mk 3 rfl rfl) rfl (zIn_all (l := [48, 106]) (p := fun a => zQ a 12 1 (100 + a + 1)) rfl ha0) rfl rfl ?_
          refine r_p hq 1 (pc' := 95) (L' := [(6, .int (X6 + (((1 : Int32)) + R_74))), (10, .int R_74), (0, .ref a0), (1, .int X1), (2, .int X2), (3, .long Y3), (5, .int X5), (7, .long Y7), (9, .int X9)]) (st' := [.int ((0 : Int32)), .ref (a0 + 1), .long Y7]) rfl ?_
          obtain ⟨o_95, h_95, h⟩ := Option.bind_eq_some_iff.mp h
          refine r_cvI (pc' := 98) (L' := [(6, .int (X6 + (((1 : Int32)) + R_74))), (10, .int R_74), (0, .ref a0), (1, .int X1), (2, .int X2), (3, .long Y3), (5, .int X5), (7, .long Y7), (9, .int X9)]) (Ps := [.int ((0 : Int32))]) (rest := [.long Y7]) hq (z_at.mk 3 rfl rfl) (Or.inl ⟨rfl, rfl⟩) rfl rfl (by decide) (by decide) rfl (Nat.not_lt.mpr (Nat.le_of_ble_eq_true rfl)) rfl rfl (z_cat_le 2 rfl (by decide)) (z_lgl_le 2 rfl (by decide)) (by decide) (H_74.tg (zIn_all (l := [48, 106]) (p := fun a => zT (a + 1) 16) rfl ha0)) (by omega) (g_se_of_ok (zIn_all (l := [48, 106]) (p := fun a => zIn [49, 82, 107, 118] (a + 1)) rfl ha0) (rfl : (0 : Int32).toInt = 0) H_74 h_95) rfl rfl ?_
          intro R_95 m_95 p_95 e_95 hR_95 H_95
          subst e_95
          refine r_p hq 5 (pc' := 104) (L' := [(6, .int (X6 + (((1 : Int32)) + R_74))), (10, .int R_74), (0, .ref a0), (1, .int X1), (2, .int X2), (3, .long Y3), (5, .int X5), (7, .long Y7), (9, .int X9)]) (st' := [.ref a0, .long ((1 : Int64)), .long ((R_95 + R_74).toInt64), .long Y7]) rfl ?_
          refine r_gR (b := a0 + 5) (pc' := 107) (L' := [(6, .int (X6 + (((1 : Int32)) + R_74))), (10, .int R_74), (0, .ref a0), (1, .int X1), (2, .int X2), (3, .long Y3), (5, .int X5), (7, .long Y7), (9, .int X9)]) H_95 hq (z_at.mk 3 rfl rfl) rfl (zIn_all (l := [48, 106]) (p := fun a => zQ a 12 5 (100 + a + 5)) rfl ha0) rfl rfl ?_
          refine r_p hq 1 (pc' := 109) (L' := [(6, .int (X6 + (((1 : Int32)) + R_74))), (10, .int R_74), (0, .ref a0), (1, .int X1), (2, .int X2), (3, .long Y3), (5, .int X5), (7, .long Y7), (9, .int X9)]) (st' := [.int X9, .ref (a0 + 5), .long ((1 : Int64)), .long ((R_95 + R_74).toInt64), .long Y7]) rfl ?_
          obtain ⟨g_109, h⟩ := z_ifo_some h
          refine r_ia (pc' := 110) (L' := [(6, .int (X6 + (((1 : Int32)) + R_74))), (10, .int R_74), (0, .ref a0), (1, .int X1), (2, .int X2), (3, .long Y3), (5, .int X5), (7, .long Y7), (9, .int X9)]) H_95 hq (z_at.mk 1 rfl rfl) (zIn_all (l := [48, 106]) (p := fun a => zAr (a + 5) 0 181) rfl ha0) hx9 g_109 rfl rfl ?_
          intro V_109 hV_109
          refine r_p hq 5 (pc' := 116) (L' := [(0, .ref a0), (1, .int X1), (2, .int X2), (3, .long Y3), (5, .int X5), (6, .int (X6 + (((1 : Int32)) + R_74))), (7, .long (Y7 + (((R_95 + R_74).toInt64) * (((1 : Int64)) + V_109.toInt64)))), (9, .int X9)]) (st' := []) rfl ?_
          exact g_ca_bestSet_L116_ok ha0 ih hx1 hx2 hy3 hx5 (tx_iadd hx6 (tx_iadd (rfl : (1 : Int32).toInt = 1) hR_74)) (tx_ladd hy7 (tx_lmul (tx_i2l (tx_iadd hR_95 hR_74)) (tx_ladd (rfl : (1 : Int64).toInt = 1) (tx_i2l hV_109)))) hx9 H_95 h
        · refine r_f1 (pc' := 57) (L' := [(0, .ref a0), (1, .int X1), (2, .int X2), (3, .long Y3), (5, .int X5), (6, .int X6), (7, .long Y7), (9, .int X9)]) hq (z_at.mk 3 rfl rfl) rfl (tx_iand (tx_ishr hx5 hx9) (rfl : (1 : Int32).toInt = 1)) c_54 rfl rfl ?_
          refine r_p hq 1 (pc' := 116) (L' := [(0, .ref a0), (1, .int X1), (2, .int X2), (3, .long Y3), (5, .int X5), (6, .int X6), (7, .long Y7), (9, .int X9)]) (st' := []) rfl ?_
          exact g_ca_bestSet_L116_ok ha0 ih hx1 hx2 hy3 hx5 hx6 hy7 hx9 H h
def g_ca_bestSet_L7 (a0 : Nat) : Nat → Int → Int → Int → Int → zS → Option (Int × zS)
  | 0, _, _, _, _, _ => none
  | n + 1, x1, x2, y3, x5, σ =>
    let v_11 := σ a0 2
    (g_jMath_min_291 v_11 12 σ).bind fun o_16 =>
    if iShl 1 o_16.1 ≤ x5 then
      some (x2, o_16.2)
    else
      g_ca_bestSet_L32 a0 ((g_ca_bestSet_L7 a0 n)) zK x1 x2 y3 x5 0 0 0 o_16.2
set_option maxHeartbeats 4000000 in
theorem g_ca_bestSet_L7_ok {xl : Nat} {xs : Nat → Int32} {a0 : Nat} (ha0 : zIn [48, 106] a0 = true) : ∀ (n : Nat) {X1 : Int32} {x1 : Int} {X2 : Int32} {x2 : Int} {Y3 : Int64} {y3 : Int} {X5 : Int32} {x5 : Int} {σ : zS} {p : Nat} {m : zM} {o : Int × zS}, X1.toInt = x1 → X2.toInt = x2 → Y3.toInt = y3 → X5.toInt = x5 → zRep xl xs p m σ → g_ca_bestSet_L7 a0 n x1 x2 y3 x5 σ = some o → zGo xl xs (fun p' => p = p') 3 44 7 [(0, .ref a0), (1, .int X1), (2, .int X2), (3, .long Y3), (5, .int X5)] [] m (vI o.1) o.2
  | 0, _, _, _, _, _, _, _, _, _, _, _, _, _, _, _, _, _, h => by cases h
  | n + 1, X1, x1, X2, x2, Y3, y3, X5, x5, σ, p, m, o, hx1, hx2, hy3, hx5, H, h => by
    have hq : z_mth 44 = some z_r44 := rfl
    have ih := fun {X1 : Int32} {x1 : Int} {X2 : Int32} {x2 : Int} {Y3 : Int64} {y3 : Int} {X5 : Int32} {x5 : Int} {σ : zS} {p : Nat} {m : zM} {o : Int × zS} => g_ca_bestSet_L7_ok (xl := xl) (xs := xs) ha0 n (X1 := X1) (x1 := x1) (X2 := X2) (x2 := x2) (Y3 := Y3) (y3 := y3) (X5 := X5) (x5 := x5) (σ := σ) (p := p) (m := m) (o := o)
    unfold g_ca_bestSet_L7 at h
    refine r_p hq 3 (pc' := 11) (L' := [(0, .ref a0), (1, .int X1), (2, .int X2), (3, .long Y3), (5, .int X5)]) (st' := [.ref a0, .int ((1 : Int32)), .int X5]) rfl ?_
    refine r_gI (pc' := 14) (L' := [(0, .ref a0), (1, .int X1), (2, .int X2), (3, .long Y3), (5, .int X5)]) H hq (z_at.mk 3 rfl rfl) rfl (zIn_all (l := [48, 106]) (p := fun a => zQ a 12 2 0) rfl ha0) rfl rfl ?_
    intro V_11 hV_11
    refine r_p hq 1 (pc' := 16) (L' := [(0, .ref a0), (1, .int X1), (2, .int X2), (3, .long Y3), (5, .int X5)]) (st' := [.int ((12 : Int32)), .int V_11, .int ((1 : Int32)), .int X5]) rfl ?_
    obtain ⟨o_16, h_16, h⟩ := Option.bind_eq_some_iff.mp h
    refine r_csI (pc' := 19) (L' := [(0, .ref a0), (1, .int X1), (2, .int X2), (3, .long Y3), (5, .int X5)]) (As := [.int V_11, .int ((12 : Int32))]) (rest := [.int ((1 : Int32)), .int X5]) (j := 291) hq (z_at.mk 3 rfl rfl) (Or.inl ⟨rfl, rfl⟩) rfl rfl (by omega) (g_jMath_min_291_ok hV_11 (rfl : (12 : Int32).toInt = 12) H h_16) rfl rfl ?_
    intro R_16 m_16 p_16 e_16 hR_16 H_16
    subst e_16
    refine r_p hq 1 (pc' := 20) (L' := [(0, .ref a0), (1, .int X1), (2, .int X2), (3, .long Y3), (5, .int X5)]) (st' := [.int (((1 : Int32)) <<< (R_16 &&& 31)), .int X5]) rfl ?_
    rcases z_ite h with ⟨c_20, h⟩ | ⟨c_20, h⟩
    · refine r_t2 (pc' := 147) (L' := [(0, .ref a0), (1, .int X1), (2, .int X2), (3, .long Y3), (5, .int X5)]) hq (z_at.mk 3 rfl rfl) rfl hx5 (tx_ishl (rfl : (1 : Int32).toInt = 1) hR_16) c_20 rfl rfl ?_
      refine r_p hq 1 (pc' := 148) (L' := [(0, .ref a0), (1, .int X1), (2, .int X2), (3, .long Y3), (5, .int X5)]) (st' := [.int X2]) rfl ?_
      cases h
      exact r_ri hq (z_at.mk 1 rfl rfl) rfl rfl hx2 rfl H_16
    · refine r_f2 (pc' := 23) (L' := [(0, .ref a0), (1, .int X1), (2, .int X2), (3, .long Y3), (5, .int X5)]) hq (z_at.mk 3 rfl rfl) rfl hx5 (tx_ishl (rfl : (1 : Int32).toInt = 1) hR_16) c_20 rfl rfl ?_
      refine r_p hq 6 (pc' := 32) (L' := [(0, .ref a0), (1, .int X1), (2, .int X2), (3, .long Y3), (5, .int X5), (6, .int ((0 : Int32))), (7, .long ((0 : Int64))), (9, .int ((0 : Int32)))]) (st' := []) rfl ?_
      exact g_ca_bestSet_L32_ok ha0 ih zK hx1 hx2 hy3 hx5 (rfl : (0 : Int32).toInt = 0) (rfl : (0 : Int64).toInt = 0) (rfl : (0 : Int32).toInt = 0) H_16 h
def g_ca_bestSet (a0 : Nat) (x1 : Int) (σ : zS) : Option (Int × zS) :=
  g_ca_bestSet_L7 a0 zK x1 0 0 1 σ
set_option maxHeartbeats 4000000 in
theorem g_ca_bestSet_ok {xl : Nat} {xs : Nat → Int32} {a0 : Nat} (ha0 : zIn [48, 106] a0 = true) {X1 : Int32} {x1 : Int} (hx1 : X1.toInt = x1) {σ : zS} {p : Nat} {m : zM} {o : Int × zS} (H : zRep xl xs p m σ) (h : g_ca_bestSet a0 x1 σ = some o) : zGo xl xs (fun p' => p = p') 3 44 0 (z_can 44 0 (lv_args 0 [.ref a0, .int X1])) [] m (vI o.1) o.2 := by
  have hq : z_mth 44 = some z_r44 := rfl
  unfold g_ca_bestSet at h
  show zGo xl xs (fun p' => p = p') 3 44 0 [(0, .ref a0), (1, .int X1)] [] m (vI o.1) o.2
  refine r_p hq 6 (pc' := 7) (L' := [(0, .ref a0), (1, .int X1), (2, .int ((0 : Int32))), (3, .long ((0 : Int64))), (5, .int ((1 : Int32)))]) (st' := []) rfl ?_
  exact g_ca_bestSet_L7_ok ha0 zK hx1 (rfl : (0 : Int32).toInt = 0) (rfl : (0 : Int64).toInt = 0) (rfl : (1 : Int32).toInt = 1) H h
def g_fi_isMeasure (x0 : Int) (σ : zS) : Option (Int × zS) :=
  if x0 < 0 then
    some (0, σ)
  else
    if 6 < x0 then
      some (0, σ)
    else
      some (1, σ)
set_option maxHeartbeats 4000000 in
theorem g_fi_isMeasure_ok {xl : Nat} {xs : Nat → Int32} {X0 : Int32} {x0 : Int} (hx0 : X0.toInt = x0) {σ : zS} {p : Nat} {m : zM} {o : Int × zS} (H : zRep xl xs p m σ) (h : g_fi_isMeasure x0 σ = some o) : zGo xl xs (fun p' => p = p') 1 46 0 (z_can 46 0 (lv_args 0 [.int X0])) [] m (vI o.1) o.2 := by
  have hq : z_mth 46 = some z_r46 := rfl
  unfold g_fi_isMeasure at h
  show zGo xl xs (fun p' => p = p') 1 46 0 [(0, .int X0)] [] m (vI o.1) o.2
  refine r_p hq 1 (pc' := 1) (L' := [(0, .int X0)]) (st' := [.int X0]) rfl ?_
  rcases z_ite h with ⟨c_1, h⟩ | ⟨c_1, h⟩
  · refine r_t1 (pc' := 14) (L' := []) hq (z_at.mk 3 rfl rfl) rfl hx0 c_1 rfl rfl ?_
    refine r_p hq 1 (pc' := 15) (L' := []) (st' := [.int ((0 : Int32))]) rfl ?_
    cases h
    exact r_ri hq (z_at.mk 1 rfl rfl) rfl rfl (rfl : (0 : Int32).toInt = 0) rfl H
  · refine r_f1 (pc' := 4) (L' := [(0, .int X0)]) hq (z_at.mk 3 rfl rfl) rfl hx0 c_1 rfl rfl ?_
    refine r_p hq 2 (pc' := 7) (L' := [(0, .int X0)]) (st' := [.int ((6 : Int32)), .int X0]) rfl ?_
    rcases z_ite h with ⟨c_7, h⟩ | ⟨c_7, h⟩
    · refine r_t2 (pc' := 14) (L' := []) hq (z_at.mk 3 rfl rfl) rfl hx0 (rfl : (6 : Int32).toInt = 6) c_7 rfl rfl ?_
      refine r_p hq 1 (pc' := 15) (L' := []) (st' := [.int ((0 : Int32))]) rfl ?_
      cases h
      exact r_ri hq (z_at.mk 1 rfl rfl) rfl rfl (rfl : (0 : Int32).toInt = 0) rfl H
    · refine r_f2 (pc' := 10) (L' := [(0, .int X0)]) hq (z_at.mk 3 rfl rfl) rfl hx0 (rfl : (6 : Int32).toInt = 6) c_7 rfl rfl ?_
      refine r_p hq 2 (pc' := 15) (L' := []) (st' := [.int ((1 : Int32))]) rfl ?_
      cases h
      exact r_ri hq (z_at.mk 1 rfl rfl) rfl rfl (rfl : (1 : Int32).toInt = 1) rfl H
def g_so_isRow (x0 : Int) (σ : zS) : Option (Int × zS) :=
  if x0 < 0 then
    some (0, σ)
  else
    if 60 ≤ x0 then
      some (0, σ)
    else
      some (1, σ)
set_option maxHeartbeats 4000000 in
theorem g_so_isRow_ok {xl : Nat} {xs : Nat → Int32} {X0 : Int32} {x0 : Int} (hx0 : X0.toInt = x0) {σ : zS} {p : Nat} {m : zM} {o : Int × zS} (H : zRep xl xs p m σ) (h : g_so_isRow x0 σ = some o) : zGo xl xs (fun p' => p = p') 1 80 0 (z_can 80 0 (lv_args 0 [.int X0])) [] m (vI o.1) o.2 := by
  have hq : z_mth 80 = some z_r80 := rfl
  unfold g_so_isRow at h
  show zGo xl xs (fun p' => p = p') 1 80 0 [(0, .int X0)] [] m (vI o.1) o.2
  refine r_p hq 1 (pc' := 1) (L' := [(0, .int X0)]) (st' := [.int X0]) rfl ?_
  rcases z_ite h with ⟨c_1, h⟩ | ⟨c_1, h⟩
  · refine r_t1 (pc' := 14) (L' := []) hq (z_at.mk 3 rfl rfl) rfl hx0 c_1 rfl rfl ?_
    refine r_p hq 1 (pc' := 15) (L' := []) (st' := [.int ((0 : Int32))]) rfl ?_
    cases h
    exact r_ri hq (z_at.mk 1 rfl rfl) rfl rfl (rfl : (0 : Int32).toInt = 0) rfl H
  · refine r_f1 (pc' := 4) (L' := [(0, .int X0)]) hq (z_at.mk 3 rfl rfl) rfl hx0 c_1 rfl rfl ?_
    refine r_p hq 2 (pc' := 7) (L' := [(0, .int X0)]) (st' := [.int ((60 : Int32)), .int X0]) rfl ?_
    rcases z_ite h with ⟨c_7, h⟩ | ⟨c_7, h⟩
    · refine r_t2 (pc' := 14) (L' := []) hq (z_at.mk 3 rfl rfl) rfl hx0 (rfl : (60 : Int32).toInt = 60) c_7 rfl rfl ?_
      refine r_p hq 1 (pc' := 15) (L' := []) (st' := [.int ((0 : Int32))]) rfl ?_
      cases h
      exact r_ri hq (z_at.mk 1 rfl rfl) rfl rfl (rfl : (0 : Int32).toInt = 0) rfl H
    · refine r_f2 (pc' := 10) (L' := [(0, .int X0)]) hq (z_at.mk 3 rfl rfl) rfl hx0 (rfl : (60 : Int32).toInt = 60) c_7 rfl rfl ?_
      refine r_p hq 2 (pc' := 15) (L' := []) (st' := [.int ((1 : Int32))]) rfl ?_
      cases h
      exact r_ri hq (z_at.mk 1 rfl rfl) rfl rfl (rfl : (1 : Int32).toInt = 1) rfl H
def g_fi_gather_L89 (a0 : Nat) (g8 : Int → Int → zS → Option (Unit × zS)) (y2 : Int) (x4 : Int) (σ : zS) : Option (Unit × zS) :=
  g8 y2 (w32 (x4 + 1)) σ
set_option maxHeartbeats 4000000 in
theorem g_fi_gather_L89_ok {xl : Nat} {xs : Nat → Int32} {a0 : Nat} (ha0 : zIn [60, 70] a0 = true) {g8 : Int → Int → zS → Option (Unit × zS)} (hg8 : ∀ {Y2 : Int64} {y2 : Int} {X4 : Int32} {x4 : Int} {σ : zS} {p : Nat} {m : zM} {o : Unit × zS}, Y2.toInt = y2 → X4.toInt = x4 → zRep xl xs p m σ → g8 y2 x4 σ = some o → zGo xl xs (fun p' => p = p') 2 47 8 [(0, .ref a0), (1, .ref 41), (2, .long Y2), (4, .int X4)] [] m vV o.2) {Y2 : Int64} {y2 : Int} (hy2 : Y2.toInt = y2) {X4 : Int32} {x4 : Int} (hx4 : X4.toInt = x4) {σ : zS} {p : Nat} {m : zM} {o : Unit × zS} (H : zRep xl xs p m σ) (h : g_fi_gather_L89 a0 g8 y2 x4 σ = some o) : zGo xl xs (fun p' => p = p') 2 47 89 [(0, .ref a0), (1, .ref 41), (2, .long Y2), (4, .int X4)] [] m vV o.2 := by
  have hq : z_mth 47 = some z_r47 := rfl
  unfold g_fi_gather_L89 at h
  refine r_p hq 2 (pc' := 8) (L' := [(0, .ref a0), (1, .ref 41), (2, .long Y2), (4, .int (X4 + (1 : Int32)))]) (st' := []) rfl ?_
  exact hg8 hy2 (tx_iadd hx4 (rfl : (1 : Int32).toInt = 1)) H h
def g_fi_gather_L8 (a0 : Nat) : Nat → Int → Int → zS → Option (Unit × zS)
  | 0, _, _, _ => none
  | n + 1, y2, x4, σ =>
    let v_11 := σ 41 4
    if v_11 ≤ x4 then
      some ((), σ)
    else
      if 60 ≤ x4 then
        some ((), σ)
      else
        if 0 ≤ x4 ∧ x4 < 60 then
        let v_30 := σ 45 x4
        (g_so_isRow v_30 σ).bind fun o_35 =>
        if o_35.1 = 0 then
          g_fi_gather_L89 a0 ((g_fi_gather_L8 a0 n)) y2 x4 o_35.2
        else
          if lCmp (lAnd (lUshr y2 v_30) 1) 0 = 0 then
            g_fi_gather_L89 a0 ((g_fi_gather_L8 a0 n)) y2 x4 o_35.2
          else
            let v_57 := o_35.2 a0 2
            if 0 ≤ v_57 ∧ v_57 < 60 then
            let s_62 := zu o_35.2 (a0 + 1) v_57 v_30
            let v_68 := s_62 a0 2
            if 0 ≤ v_30 ∧ v_30 < 60 then
            let v_77 := s_62 44 v_30
            if 0 ≤ v_68 ∧ v_68 < 60 then
            let s_78 := zu s_62 (a0 + 2) v_68 v_77
            let v_81 := s_78 a0 2
            let s_86 := zu s_78 a0 2 (w32 (v_81 + 1))
            g_fi_gather_L89 a0 ((g_fi_gather_L8 a0 n)) y2 x4 s_86
            else none
            else none
            else none
        else none
set_option maxHeartbeats 4000000 in
theorem g_fi_gather_L8_ok {xl : Nat} {xs : Nat → Int32} {a0 : Nat} (ha0 : zIn [60, 70] a0 = true) : ∀ (n : Nat) {Y2 : Int64} {y2 : Int} {X4 : Int32} {x4 : Int} {σ : zS} {p : Nat} {m : zM} {o : Unit × zS}, Y2.toInt = y2 → X4.toInt = x4 → zRep xl xs p m σ → g_fi_gather_L8 a0 n y2 x4 σ = some o → zGo xl xs (fun p' => p = p') 2 47 8 [(0, .ref a0), (1, .ref 41), (2, .long Y2), (4, .int X4)] [] m vV o.2
  | 0, _, _, _, _, _, _, _, _, _, _, _, h => by cases h
  | n + 1, Y2, y2, X4, x4, σ, p, m, o, hy2, hx4, H, h => by
    have hq : z_mth 47 = some z_r47 := rfl
    have ih := fun {Y2 : Int64} {y2 : Int} {X4 : Int32} {x4 : Int} {σ : zS} {p : Nat} {m : zM} {o : Unit × zS} => g_fi_gather_L8_ok (xl := xl) (xs := xs) ha0 n (Y2 := Y2) (y2 := y2) (X4 := X4) (x4 := x4) (σ := σ) (p := p) (m := m) (o := o)
    unfold g_fi_gather_L8 at h
    refine r_p hq 2 (pc' := 11) (L' := [(0, .ref a0), (1, .ref 41), (2, .long Y2), (4, .int X4)]) (st' := [.ref 41, .int X4]) rfl ?_
    refine r_gI (pc' := 14) (L' := [(0, .ref a0), (1, .ref 41), (2, .long Y2), (4, .int X4)]) H hq (z_at.mk 3 rfl rfl) rfl rfl rfl rfl ?_
    intro V_11 hV_11
    rcases z_ite h with ⟨c_14, h⟩ | ⟨c_14, h⟩
    · refine r_t2 (pc' := 95) (L' := []) hq (z_at.mk 3 rfl rfl) rfl hx4 hV_11 c_14 rfl rfl ?_
      cases h
      exact r_rv hq (z_at.mk 1 rfl rfl) rfl rfl H
    · refine r_f2 (pc' := 17) (L' := [(0, .ref a0), (1, .ref 41), (2, .long Y2), (4, .int X4)]) hq (z_at.mk 3 rfl rfl) rfl hx4 hV_11 c_14 rfl rfl ?_
      refine r_p hq 2 (pc' := 21) (L' := [(0, .ref a0), (1, .ref 41), (2, .long Y2), (4, .int X4)]) (st' := [.int ((60 : Int32)), .int X4]) rfl ?_
      rcases z_ite h with ⟨c_21, h⟩ | ⟨c_21, h⟩
      · refine r_t2 (pc' := 95) (L' := []) hq (z_at.mk 3 rfl rfl) rfl hx4 (rfl : (60 : Int32).toInt = 60) c_21 rfl rfl ?_
        cases h
        exact r_rv hq (z_at.mk 1 rfl rfl) rfl rfl H
      · refine r_f2 (pc' := 24) (L' := [(0, .ref a0), (1, .ref 41), (2, .long Y2), (4, .int X4)]) hq (z_at.mk 3 rfl rfl) rfl hx4 (rfl : (60 : Int32).toInt = 60) c_21 rfl rfl ?_
        refine r_p hq 1 (pc' := 25) (L' := [(0, .ref a0), (1, .ref 41), (2, .long Y2), (4, .int X4)]) (st' := [.ref 41]) rfl ?_
        refine r_gR (b := 45) (pc' := 28) (L' := [(0, .ref a0), (1, .ref 41), (2, .long Y2), (4, .int X4)]) H hq (z_at.mk 3 rfl rfl) rfl rfl rfl rfl ?_
        refine r_p hq 1 (pc' := 30) (L' := [(0, .ref a0), (1, .ref 41), (2, .long Y2), (4, .int X4)]) (st' := [.int X4, .ref 45]) rfl ?_
        obtain ⟨g_30, h⟩ := z_ifo_some h
        refine r_ia (pc' := 31) (L' := [(0, .ref a0), (1, .ref 41), (2, .long Y2), (4, .int X4)]) H hq (z_at.mk 1 rfl rfl) (show zAr 45 0 60 = true from rfl) hx4 g_30 rfl rfl ?_
        intro V_30 hV_30
        refine r_p hq 2 (pc' := 35) (L' := [(5, .int V_30), (0, .ref a0), (1, .ref 41), (2, .long Y2), (4, .int X4)]) (st' := [.int V_30]) rfl ?_
        obtain ⟨o_35, h_35, h⟩ := Option.bind_eq_some_iff.mp h
        refine r_csI (pc' := 38) (L' := [(5, .int V_30), (0, .ref a0), (1, .ref 41), (2, .long Y2), (4, .int X4)]) (As := [.int V_30]) (rest := []) (j := 80) hq (z_at.mk 3 rfl rfl) (Or.inl ⟨rfl, rfl⟩) rfl rfl (by omega) (g_so_isRow_ok hV_30 H h_35) rfl rfl ?_
        intro R_35 m_35 p_35 e_35 hR_35 H_35
        subst e_35
        rcases z_ite h with ⟨c_38, h⟩ | ⟨c_38, h⟩
        · refine r_t1 (pc' := 89) (L' := [(0, .ref a0), (1, .ref 41), (2, .long Y2), (4, .int X4)]) hq (z_at.mk 3 rfl rfl) rfl hR_35 c_38 rfl rfl ?_
          exact g_fi_gather_L89_ok ha0 ih hy2 hx4 H_35 h
        · refine r_f1 (pc' := 41) (L' := [(5, .int V_30), (0, .ref a0), (1, .ref 41), (2, .long Y2), (4, .int X4)]) hq (z_at.mk 3 rfl rfl) rfl hR_35 c_38 rfl rfl ?_
          refine r_p hq 7 (pc' := 49) (L' := [(5, .int V_30), (0, .ref a0), (1, .ref 41), (2, .long Y2), (4, .int X4)]) (st' := [.int (lg_cmp (((Y2.toUInt64 >>> (V_30.toInt64.toUInt64 &&& Int64.toUInt64 63)).toInt64) &&& ((1 : Int64))) ((0 : Int64)))]) rfl ?_
          rcases z_ite h with ⟨c_49, h⟩ | ⟨c_49, h⟩
          · refine r_t1 (pc' := 89) (L' := [(0, .ref a0), (1, .ref 41), (2, .long Y2), (4, .int X4)]) hq (z_at.mk 3 rfl rfl) rfl (tx_lcmp (tx_land (tx_lushr hy2 hV_30) (rfl : (1 : Int64).toInt = 1)) (rfl : (0 : Int64).toInt = 0)) c_49 rfl rfl ?_
            exact g_fi_gather_L89_ok ha0 ih hy2 hx4 H_35 h
          · refine r_f1 (pc' := 52) (L' := [(5, .int V_30), (0, .ref a0), (1, .ref 41), (2, .long Y2), (4, .int X4)]) hq (z_at.mk 3 rfl rfl) rfl (tx_lcmp (tx_land (tx_lushr hy2 hV_30) (rfl : (1 : Int64).toInt = 1)) (rfl : (0 : Int64).toInt = 0)) c_49 rfl rfl ?_
            refine r_p hq 1 (pc' := 53) (L' := [(5, .int V_30), (0, .ref a0), (1, .ref 41), (2, .long Y2), (4, .int X4)]) (st' := [.ref a0]) rfl ?_
            refine r_gR (b := a0 + 1) (pc' := 56) (L' := [(5, .int V_30), (0, .ref a0), (1, .ref 41), (2, .long Y2), (4, .int X4)]) H_35 hq (z_at.mk 3 rfl rfl) rfl (zIn_all (l := [60, 70]) (p := fun a => zQ a 13 0 (100 + a + 1)) rfl ha0) rfl rfl ?_
            refine r_p hq 1 (pc' := 57) (L' := [(5, .int V_30), (0, .ref a0), (1, .ref 41), (2, .long Y2), (4, .int X4)]) (st' := [.ref a0, .ref (a0 + 1)]) rfl ?_
            refine r_gI (pc' := 60) (L' := [(5, .int V_30), (0, .ref a0), (1, .ref 41), (2, .long Y2), (4, .int X4)]) H_35 hq (z_at.mk 3 rfl rfl) rfl (zIn_all (l := [60, 70]) (p := fun a => zQ a 13 2 0) rfl ha0) rfl rfl ?_
            intro V_57 hV_57
            refine r_p hq 1 (pc' := 62) (L' := [(5, .int V_30), (0, .ref a0), (1, .ref 41), (2, .long Y2), (4, .int X4)]) (st' := [.int V_30, .int V_57, .ref (a0 + 1)]) rfl ?_
            obtain ⟨g_62, h⟩ := z_ifo_some h
            refine r_is (pc' := 63) (L' := [(5, .int V_30), (0, .ref a0), (1, .ref 41), (2, .long Y2), (4, .int X4)]) H_35 hq (z_at.mk 1 rfl rfl) (zIn_all (l := [60, 70]) (p := fun a => zAr (a + 1) 0 60) rfl ha0) hV_57 g_62 hV_30 rfl rfl ?_
            intro m_62 H_62
            refine r_p hq 1 (pc' := 64) (L' := [(5, .int V_30), (0, .ref a0), (1, .ref 41), (2, .long Y2), (4, .int X4)]) (st' := [.ref a0]) rfl ?_
            refine r_gR (b := a0 + 2) (pc' := 67) (L' := [(5, .int V_30), (0, .ref a0), (1, .ref 41), (2, .long Y2), (4, .int X4)]) H_62 hq (z_at.mk 3 rfl rfl) rfl (zIn_all (l := [60, 70]) (p := fun a => zQ a 13 1 (100 + a + 2)) rfl ha0) rfl rfl ?_
            refine r_p hq 1 (pc' := 68) (L' := [(5, .int V_30), (0, .ref a0), (1, .ref 41), (2, .long Y2), (4, .int X4)]) (st' := [.ref a0, .ref (a0 + 2)]) rfl ?_
            refine r_gI (pc' := 71) (L' := [(5, .int V_30), (0, .ref a0), (1, .ref 41), (2, .long Y2), (4, .int X4)]) H_62 hq (z_at.mk 3 rfl rfl) rfl (zIn_all (l := [60, 70]) (p := fun a => zQ a 13 2 0) rfl ha0) rfl rfl ?_
            intro V_68 hV_68
            refine r_p hq 1 (pc' := 72) (L' := [(5, .int V_30), (0, .ref a0), (1, .ref 41), (2, .long Y2), (4, .int X4)]) (st' := [.ref 41, .int V_68, .ref (a0 + 2)]) rfl ?_
            refine r_gR (b := 44) (pc' := 75) (L' := [(5, .int V_30), (0, .ref a0), (1, .ref 41), (2, .long Y2), (4, .int X4)]) H_62 hq (z_at.mk 3 rfl rfl) rfl rfl rfl rfl ?_
            refine r_p hq 1 (pc' := 77) (L' := [(5, .int V_30), (0, .ref a0), (1, .ref 41), (2, .long Y2), (4, .int X4)]) (st' := [.int V_30, .ref 44, .int V_68, .ref (a0 + 2)]) rfl ?_
            obtain ⟨g_77, h⟩ := z_ifo_some h
            refine r_la (pc' := 78) (L' := [(5, .int V_30), (0, .ref a0), (1, .ref 41), (2, .long Y2), (4, .int X4)]) H_62 hq (z_at.mk 1 rfl rfl) (show zAr 44 1 60 = true from rfl) hV_30 g_77 rfl rfl ?_
            intro V_77 hV_77
            obtain ⟨g_78, h⟩ := z_ifo_some h
            refine r_ls (pc' := 79) (L' := [(5, .int V_30), (0, .ref a0), (1, .ref 41), (2, .long Y2), (4, .int X4)]) H_62 hq (z_at.mk 1 rfl rfl) (zIn_all (l := [60, 70]) (p := fun a => zAr (a + 2) 1 60) rfl ha0) hV_68 g_78 hV_77 rfl rfl ?_
            intro m_78 H_78
            refine r_p hq 2 (pc' := 81) (L' := [(5, .int V_30), (0, .ref a0), (1, .ref 41), (2, .long Y2), (4, .int X4)]) (st' := [.ref a0, .ref a0]) rfl ?_
            refine r_gI (pc' := 84) (L' := [(5, .int V_30), (0, .ref a0), (1, .ref 41), (2, .long Y2), (4, .int X4)]) H_78 hq (z_at.mk 3 rfl rfl) rfl (zIn_all (l := [60, 70]) (p := fun a => zQ a 13 2 0) rfl ha0) rfl rfl ?_
            intro V_81 hV_81
            refine r_p hq 2 (pc' := 86) (L' := [(5, .int V_30), (0, .ref a0), (1, .ref 41), (2, .long Y2), (4, .int X4)]) (st' := [.int (V_81 + ((1 : Int32))), .ref a0]) rfl ?_
            refine r_pI (X := V_81 + ((1 : Int32))) (pc' := 89) (L' := [(0, .ref a0), (1, .ref 41), (2, .long Y2), (4, .int X4)]) H_78 hq (z_at.mk 3 rfl rfl) rfl (zIn_all (l := [60, 70]) (p := fun a => zQ a 13 2 0) rfl ha0) (tx_iadd hV_81 (rfl : (1 : Int32).toInt = 1)) (by decide) rfl rfl rfl rfl ?_
            intro m_86 H_86
            exact g_fi_gather_L89_ok ha0 ih hy2 hx4 H_86 h
def g_fi_gather (a0 : Nat) (y2 : Int) (σ : zS) : Option (Unit × zS) :=
  let s_2 := zu σ a0 2 0
  g_fi_gather_L8 a0 zK y2 0 s_2
set_option maxHeartbeats 4000000 in
theorem g_fi_gather_ok {xl : Nat} {xs : Nat → Int32} {a0 : Nat} (ha0 : zIn [60, 70] a0 = true) {Y2 : Int64} {y2 : Int} (hy2 : Y2.toInt = y2) {σ : zS} {p : Nat} {m : zM} {o : Unit × zS} (H : zRep xl xs p m σ) (h : g_fi_gather a0 y2 σ = some o) : zGo xl xs (fun p' => p = p') 2 47 0 (z_can 47 0 (lv_args 0 [.ref a0, .ref 41, .long Y2])) [] m vV o.2 := by
  have hq : z_mth 47 = some z_r47 := rfl
  unfold g_fi_gather at h
  show zGo xl xs (fun p' => p = p') 2 47 0 [(0, .ref a0), (1, .ref 41), (2, .long Y2)] [] m vV o.2
  refine r_p hq 2 (pc' := 2) (L' := [(0, .ref a0), (1, .ref 41), (2, .long Y2)]) (st' := [.int ((0 : Int32)), .ref a0]) rfl ?_
  refine r_pI (X := (0 : Int32)) (pc' := 5) (L' := [(0, .ref a0), (1, .ref 41), (2, .long Y2)]) H hq (z_at.mk 3 rfl rfl) rfl (zIn_all (l := [60, 70]) (p := fun a => zQ a 13 2 0) rfl ha0) (rfl : (0 : Int32).toInt = 0) (by decide) rfl rfl rfl rfl ?_
  intro m_2 H_2
  refine r_p hq 2 (pc' := 8) (L' := [(0, .ref a0), (1, .ref 41), (2, .long Y2), (4, .int ((0 : Int32)))]) (st' := []) rfl ?_
  exact g_fi_gather_L8_ok ha0 zK hy2 (rfl : (0 : Int32).toInt = 0) H_2 h
def g_fi_sumIsOver_L60 (a0 : Nat) (g4 : Int → Int → zS → Option (Int × zS)) (x3 : Int) (y4 : Int) (xs0 : Int) (σ : zS) : Option (Int × zS) :=
  if xs0 = 0 then
    g4 y4 (w32 (x3 + 1)) σ
  else
    some (1, σ)
set_option maxHeartbeats 4000000 in
theorem g_fi_sumIsOver_L60_ok {xl : Nat} {xs : Nat → Int32} {a0 : Nat} (ha0 : zIn [60, 70] a0 = true) {g4 : Int → Int → zS → Option (Int × zS)} (hg4 : ∀ {Y1 : Int64} {y1 : Int} {X3 : Int32} {x3 : Int} {σ : zS} {p : Nat} {m : zM} {o : Int × zS}, Y1.toInt = y1 → X3.toInt = x3 → zRep xl xs p m σ → g4 y1 x3 σ = some o → zGo xl xs (fun p' => p = p') 1 49 4 [(0, .ref a0), (1, .long Y1), (3, .int X3)] [] m (vI o.1) o.2) {X3 : Int32} {x3 : Int} (hx3 : X3.toInt = x3) {Y4 : Int64} {y4 : Int} (hy4 : Y4.toInt = y4) {Xs0 : Int32} {xs0 : Int} (hxs0 : Xs0.toInt = xs0) {σ : zS} {p : Nat} {m : zM} {o : Int × zS} (H : zRep xl xs p m σ) (h : g_fi_sumIsOver_L60 a0 g4 x3 y4 xs0 σ = some o) : zGo xl xs (fun p' => p = p') 1 49 60 [(0, .ref a0), (3, .int X3), (4, .long Y4)] [.int Xs0] m (vI o.1) o.2 := by
  have hq : z_mth 49 = some z_r49 := rfl
  unfold g_fi_sumIsOver_L60 at h
  refine r_p hq 2 (pc' := 64) (L' := [(6, .int Xs0), (0, .ref a0), (3, .int X3), (4, .long Y4)]) (st' := [.int Xs0]) rfl ?_
  rcases z_ite h with ⟨c_64, h⟩ | ⟨c_64, h⟩
  · refine r_t1 (pc' := 69) (L' := [(6, .int Xs0), (0, .ref a0), (3, .int X3), (4, .long Y4)]) hq (z_at.mk 3 rfl rfl) rfl hxs0 c_64 rfl rfl ?_
    refine r_p hq 4 (pc' := 4) (L' := [(0, .ref a0), (1, .long Y4), (3, .int (X3 + (1 : Int32)))]) (st' := []) rfl ?_
    exact hg4 hy4 (tx_iadd hx3 (rfl : (1 : Int32).toInt = 1)) H h
  · refine r_f1 (pc' := 67) (L' := [(6, .int Xs0), (0, .ref a0), (3, .int X3), (4, .long Y4)]) hq (z_at.mk 3 rfl rfl) rfl hxs0 c_64 rfl rfl ?_
    refine r_p hq 1 (pc' := 68) (L' := [(6, .int Xs0), (0, .ref a0), (3, .int X3), (4, .long Y4)]) (st' := [.int ((1 : Int32))]) rfl ?_
    cases h
    exact r_ri hq (z_at.mk 1 rfl rfl) rfl rfl (rfl : (1 : Int32).toInt = 1) rfl H
def g_fi_sumIsOver_L4 (a0 : Nat) : Nat → Int → Int → zS → Option (Int × zS)
  | 0, _, _, _ => none
  | n + 1, y1, x3, σ =>
    let v_6 := σ a0 2
    if v_6 ≤ x3 then
      some (0, σ)
    else
      if 0 ≤ x3 ∧ x3 < 60 then
      let v_18 := σ (a0 + 2) x3
      if 0 ≤ x3 ∧ x3 < 60 then
      let v_27 := σ (a0 + 2) x3
      if lCmp v_27 0 < 0 then
        if lCmp (w64 (y1 + v_18)) y1 ≤ 0 then
          g_fi_sumIsOver_L60 a0 ((g_fi_sumIsOver_L4 a0 n)) x3 (w64 (y1 + v_18)) 0 σ
        else
          g_fi_sumIsOver_L60 a0 ((g_fi_sumIsOver_L4 a0 n)) x3 (w64 (y1 + v_18)) 1 σ
      else
        if 0 ≤ lCmp (w64 (y1 + v_18)) y1 then
          g_fi_sumIsOver_L60 a0 ((g_fi_sumIsOver_L4 a0 n)) x3 (w64 (y1 + v_18)) 0 σ
        else
          g_fi_sumIsOver_L60 a0 ((g_fi_sumIsOver_L4 a0 n)) x3 (w64 (y1 + v_18)) 1 σ
      else none
      else none
set_option maxHeartbeats 4000000 in
theorem g_fi_sumIsOver_L4_ok {xl : Nat} {xs : Nat → Int32} {a0 : Nat} (ha0 : zIn [60, 70] a0 = true) : ∀ (n : Nat) {Y1 : Int64} {y1 : Int} {X3 : Int32} {x3 : Int} {σ : zS} {p : Nat} {m : zM} {o : Int × zS}, Y1.toInt = y1 → X3.toInt = x3 → zRep xl xs p m σ → g_fi_sumIsOver_L4 a0 n y1 x3 σ = some o → zGo xl xs (fun p' => p = p') 1 49 4 [(0, .ref a0), (1, .long Y1), (3, .int X3)] [] m (vI o.1) o.2
  | 0, _, _, _, _, _, _, _, _, _, _, _, h => by cases h
  | n + 1, Y1, y1, X3, x3, σ, p, m, o, hy1, hx3, H, h => by
    have hq : z_mth 49 = some z_r49 := rfl
    have ih := fun {Y1 : Int64} {y1 : Int} {X3 : Int32} {x3 : Int} {σ : zS} {p : Nat} {m : zM} {o : Int × zS} => g_fi_sumIsOver_L4_ok (xl := xl) (xs := xs) ha0 n (Y1 := Y1) (y1 := y1) (X3 := X3) (x3 := x3) (σ := σ) (p := p) (m := m) (o := o)
    unfold g_fi_sumIsOver_L4 at h
    refine r_p hq 2 (pc' := 6) (L' := [(0, .ref a0), (1, .long Y1), (3, .int X3)]) (st' := [.ref a0, .int X3]) rfl ?_
    refine r_gI (pc' := 9) (L' := [(0, .ref a0), (1, .long Y1), (3, .int X3)]) H hq (z_at.mk 3 rfl rfl) rfl (zIn_all (l := [60, 70]) (p := fun a => zQ a 13 2 0) rfl ha0) rfl rfl ?_
    intro V_6 hV_6
    rcases z_ite h with ⟨c_9, h⟩ | ⟨c_9, h⟩
    · refine r_t2 (pc' := 78) (L' := [(0, .ref a0), (1, .long Y1), (3, .int X3)]) hq (z_at.mk 3 rfl rfl) rfl hx3 hV_6 c_9 rfl rfl ?_
      refine r_p hq 1 (pc' := 79) (L' := [(0, .ref a0), (1, .long Y1), (3, .int X3)]) (st' := [.int ((0 : Int32))]) rfl ?_
      cases h
      exact r_ri hq (z_at.mk 1 rfl rfl) rfl rfl (rfl : (0 : Int32).toInt = 0) rfl H
    · refine r_f2 (pc' := 12) (L' := [(0, .ref a0), (1, .long Y1), (3, .int X3)]) hq (z_at.mk 3 rfl rfl) rfl hx3 hV_6 c_9 rfl rfl ?_
      refine r_p hq 2 (pc' := 14) (L' := [(0, .ref a0), (1, .long Y1), (3, .int X3)]) (st' := [.ref a0, .long Y1]) rfl ?_
      refine r_gR (b := a0 + 2) (pc' := 17) (L' := [(0, .ref a0), (1, .long Y1), (3, .int X3)]) H hq (z_at.mk 3 rfl rfl) rfl (zIn_all (l := [60, 70]) (p := fun a => zQ a 13 1 (100 + a + 2)) rfl ha0) rfl rfl ?_
      refine r_p hq 1 (pc' := 18) (L' := [(0, .ref a0), (1, .long Y1), (3, .int X3)]) (st' := [.int X3, .ref (a0 + 2), .long Y1]) rfl ?_
      obtain ⟨g_18, h⟩ := z_ifo_some h
      refine r_la (pc' := 19) (L' := [(0, .ref a0), (1, .long Y1), (3, .int X3)]) H hq (z_at.mk 1 rfl rfl) (zIn_all (l := [60, 70]) (p := fun a => zAr (a + 2) 1 60) rfl ha0) hx3 g_18 rfl rfl ?_
      intro V_18 hV_18
      refine r_p hq 3 (pc' := 23) (L' := [(4, .long (Y1 + V_18)), (0, .ref a0), (1, .long Y1), (3, .int X3)]) (st' := [.ref a0]) rfl ?_
      refine r_gR (b := a0 + 2) (pc' := 26) (L' := [(4, .long (Y1 + V_18)), (0, .ref a0), (1, .long Y1), (3, .int X3)]) H hq (z_at.mk 3 rfl rfl) rfl (zIn_all (l := [60, 70]) (p := fun a => zQ a 13 1 (100 + a + 2)) rfl ha0) rfl rfl ?_
      refine r_p hq 1 (pc' := 27) (L' := [(4, .long (Y1 + V_18)), (0, .ref a0), (1, .long Y1), (3, .int X3)]) (st' := [.int X3, .ref (a0 + 2)]) rfl ?_
      obtain ⟨g_27, h⟩ := z_ifo_some h
      refine r_la (pc' := 28) (L' := [(4, .long (Y1 + V_18)), (0, .ref a0), (1, .long Y1), (3, .int X3)]) H hq (z_at.mk 1 rfl rfl) (zIn_all (l := [60, 70]) (p := fun a => zAr (a + 2) 1 60) rfl ha0) hx3 g_27 rfl rfl ?_
      intro V_27 hV_27
      refine r_p hq 2 (pc' := 30) (L' := [(4, .long (Y1 + V_18)), (0, .ref a0), (1, .long Y1), (3, .int X3)]) (st' := [.int (lg_cmp V_27 ((0 : Int64)))]) rfl ?_
      rcases z_ite h with ⟨c_30, h⟩ | ⟨c_30, h⟩
      · refine r_t1 (pc' := 48) (L' := [(4, .long (Y1 + V_18)), (0, .ref a0), (1, .long Y1), (3, .int X3)]) hq (z_at.mk 3 rfl rfl) rfl (tx_lcmp hV_27 (rfl : (0 : Int64).toInt = 0)) c_30 rfl rfl ?_
        refine r_p hq 3 (pc' := 52) (L' := [(4, .long (Y1 + V_18)), (0, .ref a0), (1, .long Y1), (3, .int X3)]) (st' := [.int (lg_cmp (Y1 + V_18) Y1)]) rfl ?_
        rcases z_ite h with ⟨c_52, h⟩ | ⟨c_52, h⟩
        · refine r_t1 (pc' := 59) (L' := [(4, .long (Y1 + V_18)), (0, .ref a0), (1, .long Y1), (3, .int X3)]) hq (z_at.mk 3 rfl rfl) rfl (tx_lcmp (tx_ladd hy1 hV_18) hy1) c_52 rfl rfl ?_
          refine r_p hq 1 (pc' := 60) (L' := [(0, .ref a0), (3, .int X3), (4, .long (Y1 + V_18))]) (st' := [.int ((0 : Int32))]) rfl ?_
          exact g_fi_sumIsOver_L60_ok ha0 ih hx3 (tx_ladd hy1 hV_18) (rfl : (0 : Int32).toInt = 0) H h
        · refine r_f1 (pc' := 55) (L' := [(4, .long (Y1 + V_18)), (0, .ref a0), (1, .long Y1), (3, .int X3)]) hq (z_at.mk 3 rfl rfl) rfl (tx_lcmp (tx_ladd hy1 hV_18) hy1) c_52 rfl rfl ?_
          refine r_p hq 2 (pc' := 60) (L' := [(0, .ref a0), (3, .int X3), (4, .long (Y1 + V_18))]) (st' := [.int ((1 : Int32))]) rfl ?_
          exact g_fi_sumIsOver_L60_ok ha0 ih hx3 (tx_ladd hy1 hV_18) (rfl : (1 : Int32).toInt = 1) H h
      · refine r_f1 (pc' := 33) (L' := [(4, .long (Y1 + V_18)), (0, .ref a0), (1, .long Y1), (3, .int X3)]) hq (z_at.mk 3 rfl rfl) rfl (tx_lcmp hV_27 (rfl : (0 : Int64).toInt = 0)) c_30 rfl rfl ?_
        refine r_p hq 3 (pc' := 37) (L' := [(4, .long (Y1 + V_18)), (0, .ref a0), (1, .long Y1), (3, .int X3)]) (st' := [.int (lg_cmp (Y1 + V_18) Y1)]) rfl ?_
        rcases z_ite h with ⟨c_37, h⟩ | ⟨c_37, h⟩
        · refine r_t1 (pc' := 44) (L' := [(4, .long (Y1 + V_18)), (0, .ref a0), (1, .long Y1), (3, .int X3)]) hq (z_at.mk 3 rfl rfl) rfl (tx_lcmp (tx_ladd hy1 hV_18) hy1) c_37 rfl rfl ?_
          refine r_p hq 2 (pc' := 60) (L' := [(0, .ref a0), (3, .int X3), (4, .long (Y1 + V_18))]) (st' := [.int ((0 : Int32))]) rfl ?_
          exact g_fi_sumIsOver_L60_ok ha0 ih hx3 (tx_ladd hy1 hV_18) (rfl : (0 : Int32).toInt = 0) H h
        · refine r_f1 (pc' := 40) (L' := [(4, .long (Y1 + V_18)), (0, .ref a0), (1, .long Y1), (3, .int X3)]) hq (z_at.mk 3 rfl rfl) rfl (tx_lcmp (tx_ladd hy1 hV_18) hy1) c_37 rfl rfl ?_
          refine r_p hq 2 (pc' := 60) (L' := [(0, .ref a0), (3, .int X3), (4, .long (Y1 + V_18))]) (st' := [.int ((1 : Int32))]) rfl ?_
          exact g_fi_sumIsOver_L60_ok ha0 ih hx3 (tx_ladd hy1 hV_18) (rfl : (1 : Int32).toInt = 1) H h
def g_fi_sumIsOver (a0 : Nat) (σ : zS) : Option (Int × zS) :=
  g_fi_sumIsOver_L4 a0 zK 0 0 σ
set_option maxHeartbeats 4000000 in
theorem g_fi_sumIsOver_ok {xl : Nat} {xs : Nat → Int32} {a0 : Nat} (ha0 : zIn [60, 70] a0 = true) {σ : zS} {p : Nat} {m : zM} {o : Int × zS} (H : zRep xl xs p m σ) (h : g_fi_sumIsOver a0 σ = some o) : zGo xl xs (fun p' => p = p') 1 49 0 (z_can 49 0 (lv_args 0 [.ref a0])) [] m (vI o.1) o.2 := by
  have hq : z_mth 49 = some z_r49 := rfl
  unfold g_fi_sumIsOver at h
  show zGo xl xs (fun p' => p = p') 1 49 0 [(0, .ref a0)] [] m (vI o.1) o.2
  refine r_p hq 4 (pc' := 4) (L' := [(0, .ref a0), (1, .long ((0 : Int64))), (3, .int ((0 : Int32)))]) (st' := []) rfl ?_
  exact g_fi_sumIsOver_L4_ok ha0 zK (rfl : (0 : Int64).toInt = 0) (rfl : (0 : Int32).toInt = 0) H h
def g_fi_sum_L15 (a0 : Nat) : Nat → Int → Int → zS → Option (Int × zS)
  | 0, _, _, _ => none
  | n + 1, y1, x3, σ =>
    let v_17 := σ a0 2
    if v_17 ≤ x3 then
      some (y1, σ)
    else
      if 0 ≤ x3 ∧ x3 < 60 then
      let v_29 := σ (a0 + 2) x3
      (g_fi_sum_L15 a0 n) (w64 (y1 + v_29)) (w32 (x3 + 1)) σ
      else none
set_option maxHeartbeats 4000000 in
theorem g_fi_sum_L15_ok {xl : Nat} {xs : Nat → Int32} {a0 : Nat} (ha0 : zIn [60, 70] a0 = true) : ∀ (n : Nat) {Y1 : Int64} {y1 : Int} {X3 : Int32} {x3 : Int} {σ : zS} {p : Nat} {m : zM} {o : Int × zS}, Y1.toInt = y1 → X3.toInt = x3 → zRep xl xs p m σ → g_fi_sum_L15 a0 n y1 x3 σ = some o → zGo xl xs (fun p' => p = p') 2 50 15 [(0, .ref a0), (1, .long Y1), (3, .int X3)] [] m (vL o.1) o.2
  | 0, _, _, _, _, _, _, _, _, _, _, _, h => by cases h
  | n + 1, Y1, y1, X3, x3, σ, p, m, o, hy1, hx3, H, h => by
    have hq : z_mth 50 = some z_r50 := rfl
    have ih := fun {Y1 : Int64} {y1 : Int} {X3 : Int32} {x3 : Int} {σ : zS} {p : Nat} {m : zM} {o : Int × zS} => g_fi_sum_L15_ok (xl := xl) (xs := xs) ha0 n (Y1 := Y1) (y1 := y1) (X3 := X3) (x3 := x3) (σ := σ) (p := p) (m := m) (o := o)
    unfold g_fi_sum_L15 at h
    refine r_p hq 2 (pc' := 17) (L' := [(0, .ref a0), (1, .long Y1), (3, .int X3)]) (st' := [.ref a0, .int X3]) rfl ?_
    refine r_gI (pc' := 20) (L' := [(0, .ref a0), (1, .long Y1), (3, .int X3)]) H hq (z_at.mk 3 rfl rfl) rfl (zIn_all (l := [60, 70]) (p := fun a => zQ a 13 2 0) rfl ha0) rfl rfl ?_
    intro V_17 hV_17
    rcases z_ite h with ⟨c_20, h⟩ | ⟨c_20, h⟩
    · refine r_t2 (pc' := 38) (L' := [(0, .ref a0), (1, .long Y1), (3, .int X3)]) hq (z_at.mk 3 rfl rfl) rfl hx3 hV_17 c_20 rfl rfl ?_
      refine r_p hq 1 (pc' := 39) (L' := [(0, .ref a0), (1, .long Y1), (3, .int X3)]) (st' := [.long Y1]) rfl ?_
      cases h
      exact r_rl hq (z_at.mk 1 rfl rfl) rfl hy1 rfl H
    · refine r_f2 (pc' := 23) (L' := [(0, .ref a0), (1, .long Y1), (3, .int X3)]) hq (z_at.mk 3 rfl rfl) rfl hx3 hV_17 c_20 rfl rfl ?_
      refine r_p hq 2 (pc' := 25) (L' := [(0, .ref a0), (1, .long Y1), (3, .int X3)]) (st' := [.ref a0, .long Y1]) rfl ?_
      refine r_gR (b := a0 + 2) (pc' := 28) (L' := [(0, .ref a0), (1, .long Y1), (3, .int X3)]) H hq (z_at.mk 3 rfl rfl) rfl (zIn_all (l := [60, 70]) (p := fun a => zQ a 13 1 (100 + a + 2)) rfl ha0) rfl rfl ?_
      refine r_p hq 1 (pc' := 29) (L' := [(0, .ref a0), (1, .long Y1), (3, .int X3)]) (st' := [.int X3, .ref (a0 + 2), .long Y1]) rfl ?_
      obtain ⟨g_29, h⟩ := z_ifo_some h
      refine r_la (pc' := 30) (L' := [(0, .ref a0), (1, .long Y1), (3, .int X3)]) H hq (z_at.mk 1 rfl rfl) (zIn_all (l := [60, 70]) (p := fun a => zAr (a + 2) 1 60) rfl ha0) hx3 g_29 rfl rfl ?_
      intro V_29 hV_29
      refine r_p hq 4 (pc' := 15) (L' := [(0, .ref a0), (1, .long (Y1 + V_29)), (3, .int (X3 + (1 : Int32)))]) (st' := []) rfl ?_
      exact ih (tx_ladd hy1 hV_29) (tx_iadd hx3 (rfl : (1 : Int32).toInt = 1)) H h
def g_fi_sum (a0 : Nat) (σ : zS) : Option (Int × zS) :=
  (g_fi_sumIsOver a0 σ).bind fun o_1 =>
  if o_1.1 = 0 then
    g_fi_sum_L15 a0 zK 0 0 o_1.2
  else
    some (-9223372036854775807, o_1.2)
set_option maxHeartbeats 4000000 in
theorem g_fi_sum_ok {xl : Nat} {xs : Nat → Int32} {a0 : Nat} (ha0 : zIn [60, 70] a0 = true) {σ : zS} {p : Nat} {m : zM} {o : Int × zS} (H : zRep xl xs p m σ) (h : g_fi_sum a0 σ = some o) : zGo xl xs (fun p' => p = p') 2 50 0 (z_can 50 0 (lv_args 0 [.ref a0])) [] m (vL o.1) o.2 := by
  have hq : z_mth 50 = some z_r50 := rfl
  unfold g_fi_sum at h
  show zGo xl xs (fun p' => p = p') 2 50 0 [(0, .ref a0)] [] m (vL o.1) o.2
  refine r_p hq 1 (pc' := 1) (L' := [(0, .ref a0)]) (st' := [.ref a0]) rfl ?_
  obtain ⟨o_1, h_1, h⟩ := Option.bind_eq_some_iff.mp h
  refine r_cvI (pc' := 4) (L' := [(0, .ref a0)]) (Ps := []) (rest := []) hq (z_at.mk 3 rfl rfl) (Or.inl ⟨rfl, rfl⟩) rfl rfl (by decide) (by decide) rfl (Nat.not_lt.mpr (Nat.le_of_ble_eq_true rfl)) rfl rfl (z_cat_le 0 rfl (by decide)) (z_lgl_le 1 rfl (by decide)) (by decide) (H.tg (zIn_all (l := [60, 70]) (p := fun a => zT a 13) rfl ha0)) (by omega) (g_fi_sumIsOver_ok (zIn_all (l := [60, 70]) (p := fun a => zIn [60, 70] a) rfl ha0) H h_1) rfl rfl ?_
  intro R_1 m_1 p_1 e_1 hR_1 H_1
  subst e_1
  rcases z_ite h with ⟨c_4, h⟩ | ⟨c_4, h⟩
  · refine r_t1 (pc' := 11) (L' := [(0, .ref a0)]) hq (z_at.mk 3 rfl rfl) rfl hR_1 c_4 rfl rfl ?_
    refine r_p hq 4 (pc' := 15) (L' := [(0, .ref a0), (1, .long ((0 : Int64))), (3, .int ((0 : Int32)))]) (st' := []) rfl ?_
    exact g_fi_sum_L15_ok ha0 zK (rfl : (0 : Int64).toInt = 0) (rfl : (0 : Int32).toInt = 0) H_1 h
  · refine r_f1 (pc' := 7) (L' := [(0, .ref a0)]) hq (z_at.mk 3 rfl rfl) rfl hR_1 c_4 rfl rfl ?_
    refine r_p hq 1 (pc' := 10) (L' := [(0, .ref a0)]) (st' := [.long ((-9223372036854775807 : Int64))]) rfl ?_
    cases h
    exact r_rl hq (z_at.mk 1 rfl rfl) rfl (rfl : (-9223372036854775807 : Int64).toInt = -9223372036854775807) rfl H_1
def g_jMath_floorDiv (y0 : Int) (y2 : Int) (σ : zS) : Option (Int × zS) :=
  if y2 = 0 then none else
  if 0 ≤ lCmp (lXor y0 y2) 0 then
    some (w64 (Int.tdiv y0 y2), σ)
  else
    if lCmp (w64 ((w64 (Int.tdiv y0 y2)) * y2)) y0 = 0 then
      some (w64 (Int.tdiv y0 y2), σ)
    else
      some (w64 ((w64 (Int.tdiv y0 y2)) - 1), σ)
set_option maxHeartbeats 4000000 in
theorem g_jMath_floorDiv_ok {xl : Nat} {xs : Nat → Int32} {Y0 : Int64} {y0 : Int} (hy0 : Y0.toInt = y0) {Y2 : Int64} {y2 : Int} (hy2 : Y2.toInt = y2) {σ : zS} {p : Nat} {m : zM} {o : Int × zS} (H : zRep xl xs p m σ) (h : g_jMath_floorDiv y0 y2 σ = some o) : zGo xl xs (fun p' => p = p') 1 288 0 (z_can 288 0 (lv_args 0 [.long Y0, .long Y2])) [] m (vL o.1) o.2 := by
  have hq : z_mth 288 = some z_r288 := rfl
  unfold g_jMath_floorDiv at h
  show zGo xl xs (fun p' => p = p') 1 288 0 [(0, .long Y0), (2, .long Y2)] [] m (vL o.1) o.2
  refine r_p hq 2 (pc' := 2) (L' := [(0, .long Y0), (2, .long Y2)]) (st' := [.long Y2, .long Y0]) rfl ?_
  obtain ⟨g_2, h⟩ := z_ifno_some h
  refine r_ldiv (pc' := 3) (L' := [(0, .long Y0), (2, .long Y2)]) hq (z_at.mk 1 rfl rfl) hy0 hy2 g_2 rfl rfl ?_
  intro V_2 hV_2
  refine r_p hq 6 (pc' := 10) (L' := [(4, .long V_2), (0, .long Y0), (2, .long Y2)]) (st' := [.int (lg_cmp (Y0 ^^^ Y2) ((0 : Int64)))]) rfl ?_
  rcases z_ite h with ⟨c_10, h⟩ | ⟨c_10, h⟩
  · refine r_t1 (pc' := 27) (L' := [(4, .long V_2)]) hq (z_at.mk 3 rfl rfl) rfl (tx_lcmp (tx_lxor hy0 hy2) (rfl : (0 : Int64).toInt = 0)) c_10 rfl rfl ?_
    refine r_p hq 1 (pc' := 29) (L' := [(4, .long V_2)]) (st' := [.long V_2]) rfl ?_
    cases h
    exact r_rl hq (z_at.mk 1 rfl rfl) rfl hV_2 rfl H
  · refine r_f1 (pc' := 13) (L' := [(4, .long V_2), (0, .long Y0), (2, .long Y2)]) hq (z_at.mk 3 rfl rfl) rfl (tx_lcmp (tx_lxor hy0 hy2) (rfl : (0 : Int64).toInt = 0)) c_10 rfl rfl ?_
    refine r_p hq 5 (pc' := 19) (L' := [(4, .long V_2), (0, .long Y0), (2, .long Y2)]) (st' := [.int (lg_cmp (V_2 * Y2) Y0)]) rfl ?_
    rcases z_ite h with ⟨c_19, h⟩ | ⟨c_19, h⟩
    · refine r_t1 (pc' := 27) (L' := [(4, .long V_2)]) hq (z_at.mk 3 rfl rfl) rfl (tx_lcmp (tx_lmul hV_2 hy2) hy0) c_19 rfl rfl ?_
      refine r_p hq 1 (pc' := 29) (L' := [(4, .long V_2)]) (st' := [.long V_2]) rfl ?_
      cases h
      exact r_rl hq (z_at.mk 1 rfl rfl) rfl hV_2 rfl H
    · refine r_f1 (pc' := 22) (L' := [(4, .long V_2), (0, .long Y0), (2, .long Y2)]) hq (z_at.mk 3 rfl rfl) rfl (tx_lcmp (tx_lmul hV_2 hy2) hy0) c_19 rfl rfl ?_
      refine r_p hq 3 (pc' := 26) (L' := [(4, .long V_2), (0, .long Y0), (2, .long Y2)]) (st' := [.long (V_2 - ((1 : Int64)))]) rfl ?_
      cases h
      exact r_rl hq (z_at.mk 1 rfl rfl) rfl (tx_lsub hV_2 (rfl : (1 : Int64).toInt = 1)) rfl H
def g_fi_mean (a0 : Nat) (σ : zS) : Option (Int × zS) :=
  let v_1 := σ a0 2
  if v_1 ≠ 0 then
    (g_fi_sumIsOver a0 σ).bind fun o_12 =>
    if o_12.1 = 0 then
      (g_fi_sum a0 o_12.2).bind fun o_25 =>
      let v_29 := o_25.2 a0 2
      (g_jMath_floorDiv o_25.1 v_29 o_25.2).bind fun o_33 =>
      some (o_33.1, o_33.2)
    else
      some (-9223372036854775807, o_12.2)
  else
    some (-9223372036854775808, σ)
set_option maxHeartbeats 4000000 in
theorem g_fi_mean_ok {xl : Nat} {xs : Nat → Int32} {a0 : Nat} (ha0 : zIn [60, 70] a0 = true) {σ : zS} {p : Nat} {m : zM} {o : Int × zS} (H : zRep xl xs p m σ) (h : g_fi_mean a0 σ = some o) : zGo xl xs (fun p' => p = p') 3 51 0 (z_can 51 0 (lv_args 0 [.ref a0])) [] m (vL o.1) o.2 := by
  have hq : z_mth 51 = some z_r51 := rfl
  unfold g_fi_mean at h
  show zGo xl xs (fun p' => p = p') 3 51 0 [(0, .ref a0)] [] m (vL o.1) o.2
  refine r_p hq 1 (pc' := 1) (L' := [(0, .ref a0)]) (st' := [.ref a0]) rfl ?_
  refine r_gI (pc' := 4) (L' := [(0, .ref a0)]) H hq (z_at.mk 3 rfl rfl) rfl (zIn_all (l := [60, 70]) (p := fun a => zQ a 13 2 0) rfl ha0) rfl rfl ?_
  intro V_1 hV_1
  rcases z_ite h with ⟨c_4, h⟩ | ⟨c_4, h⟩
  · refine r_t1 (pc' := 11) (L' := [(0, .ref a0)]) hq (z_at.mk 3 rfl rfl) rfl hV_1 c_4 rfl rfl ?_
    refine r_p hq 1 (pc' := 12) (L' := [(0, .ref a0)]) (st' := [.ref a0]) rfl ?_
    obtain ⟨o_12, h_12, h⟩ := Option.bind_eq_some_iff.mp h
    refine r_cvI (pc' := 15) (L' := [(0, .ref a0)]) (Ps := []) (rest := []) hq (z_at.mk 3 rfl rfl) (Or.inl ⟨rfl, rfl⟩) rfl rfl (by decide) (by decide) rfl (Nat.not_lt.mpr (Nat.le_of_ble_eq_true rfl)) rfl rfl (z_cat_le 0 rfl (by decide)) (z_lgl_le 1 rfl (by decide)) (by decide) (H.tg (zIn_all (l := [60, 70]) (p := fun a => zT a 13) rfl ha0)) (by omega) (g_fi_sumIsOver_ok (zIn_all (l := [60, 70]) (p := fun a => zIn [60, 70] a) rfl ha0) H h_12) rfl rfl ?_
    intro R_12 m_12 p_12 e_12 hR_12 H_12
    subst e_12
    rcases z_ite h with ⟨c_15, h⟩ | ⟨c_15, h⟩
    · refine r_t1 (pc' := 24) (L' := [(0, .ref a0)]) hq (z_at.mk 3 rfl rfl) rfl hR_12 c_15 rfl rfl ?_
      refine r_p hq 1 (pc' := 25) (L' := [(0, .ref a0)]) (st' := [.ref a0]) rfl ?_
      obtain ⟨o_25, h_25, h⟩ := Option.bind_eq_some_iff.mp h
      refine r_cvL (pc' := 28) (L' := [(0, .ref a0)]) (Ps := []) (rest := []) hq (z_at.mk 3 rfl rfl) (Or.inl ⟨rfl, rfl⟩) rfl rfl (by decide) (by decide) rfl (Nat.not_lt.mpr (Nat.le_of_ble_eq_true rfl)) rfl rfl (z_cat_le 0 rfl (by decide)) (z_lgl_le 1 rfl (by decide)) (by decide) (H_12.tg (zIn_all (l := [60, 70]) (p := fun a => zT a 13) rfl ha0)) (by omega) (g_fi_sum_ok (zIn_all (l := [60, 70]) (p := fun a => zIn [60, 70] a) rfl ha0) H_12 h_25) rfl rfl ?_
      intro R_25 m_25 p_25 e_25 hR_25 H_25
      subst e_25
      refine r_p hq 1 (pc' := 29) (L' := [(0, .ref a0)]) (st' := [.ref a0, .long R_25]) rfl ?_
      refine r_gI (pc' := 32) (L' := [(0, .ref a0)]) H_25 hq (z_at.mk 3 rfl rfl) rfl (zIn_all (l := [60, 70]) (p := fun a => zQ a 13 2 0) rfl ha0) rfl rfl ?_
      intro V_29 hV_29
      refine r_p hq 1 (pc' := 33) (L' := [(0, .ref a0)]) (st' := [.long V_29.toInt64, .long R_25]) rfl ?_
      obtain ⟨o_33, h_33, h⟩ := Option.bind_eq_some_iff.mp h
      refine r_csL (pc' := 36) (L' := []) (As := [.long R_25, .long V_29.toInt64]) (rest := []) (j := 288) hq (z_at.mk 3 rfl rfl) (Or.inl ⟨rfl, rfl⟩) rfl rfl (by omega) (g_jMath_floorDiv_ok hR_25 (tx_i2l hV_29) H_25 h_33) rfl rfl ?_
      intro R_33 m_33 p_33 e_33 hR_33 H_33
      subst e_33
      cases h
      exact r_rl hq (z_at.mk 1 rfl rfl) rfl hR_33 rfl H_33
    · refine r_f1 (pc' := 18) (L' := [(0, .ref a0)]) hq (z_at.mk 3 rfl rfl) rfl hR_12 c_15 rfl rfl ?_
      refine r_p hq 2 (pc' := 36) (L' := []) (st' := [.long ((-9223372036854775807 : Int64))]) rfl ?_
      cases h
      exact r_rl hq (z_at.mk 1 rfl rfl) rfl (rfl : (-9223372036854775807 : Int64).toInt = -9223372036854775807) rfl H_12
  · refine r_f1 (pc' := 7) (L' := [(0, .ref a0)]) hq (z_at.mk 3 rfl rfl) rfl hV_1 c_4 rfl rfl ?_
    refine r_p hq 1 (pc' := 10) (L' := [(0, .ref a0)]) (st' := [.long ((-9223372036854775808 : Int64))]) rfl ?_
    cases h
    exact r_rl hq (z_at.mk 1 rfl rfl) rfl (rfl : (-9223372036854775808 : Int64).toInt = -9223372036854775808) rfl H
end
section
/-! 21.g03 -/
/-! THE METHODS over the typed memory, 3 (by wip/zg.py) -/
def g_jMath_min_292 (y0 : Int) (y2 : Int) (σ : zS) : Option (Int × zS) :=
  if 0 < lCmp y0 y2 then
    some (y2, σ)
  else
    some (y0, σ)
set_option maxHeartbeats 4000000 in
theorem g_jMath_min_292_ok {xl : Nat} {xs : Nat → Int32} {Y0 : Int64} {y0 : Int} (hy0 : Y0.toInt = y0) {Y2 : Int64} {y2 : Int} (hy2 : Y2.toInt = y2) {σ : zS} {p : Nat} {m : zM} {o : Int × zS} (H : zRep xl xs p m σ) (h : g_jMath_min_292 y0 y2 σ = some o) : zGo xl xs (fun p' => p = p') 1 292 0 (z_can 292 0 (lv_args 0 [.long Y0, .long Y2])) [] m (vL o.1) o.2 := by
  have hq : z_mth 292 = some z_r292 := rfl
  unfold g_jMath_min_292 at h
  show zGo xl xs (fun p' => p = p') 1 292 0 [(0, .long Y0), (2, .long Y2)] [] m (vL o.1) o.2
  refine r_p hq 3 (pc' := 3) (L' := [(0, .long Y0), (2, .long Y2)]) (st' := [.int (lg_cmp Y0 Y2)]) rfl ?_
  rcases z_ite h with ⟨c_3, h⟩ | ⟨c_3, h⟩
  · refine r_t1 (pc' := 10) (L' := [(0, .long Y0), (2, .long Y2)]) hq (z_at.mk 3 rfl rfl) rfl (tx_lcmp hy0 hy2) c_3 rfl rfl ?_
    refine r_p hq 1 (pc' := 11) (L' := []) (st' := [.long Y2]) rfl ?_
    cases h
    exact r_rl hq (z_at.mk 1 rfl rfl) rfl hy2 rfl H
  · refine r_f1 (pc' := 6) (L' := [(0, .long Y0), (2, .long Y2)]) hq (z_at.mk 3 rfl rfl) rfl (tx_lcmp hy0 hy2) c_3 rfl rfl ?_
    refine r_p hq 2 (pc' := 11) (L' := []) (st' := [.long Y0]) rfl ?_
    cases h
    exact r_rl hq (z_at.mk 1 rfl rfl) rfl hy0 rfl H
def g_fi_leastWorth_L9 (a0 : Nat) : Nat → Int → Int → zS → Option (Int × zS)
  | 0, _, _, _ => none
  | n + 1, y1, x3, σ =>
    let v_11 := σ a0 2
    if v_11 ≤ x3 then
      some (y1, σ)
    else
      if 0 ≤ x3 ∧ x3 < 60 then
      let v_23 := σ (a0 + 2) x3
      (g_jMath_min_292 y1 v_23 σ).bind fun o_24 =>
      (g_fi_leastWorth_L9 a0 n) o_24.1 (w32 (x3 + 1)) o_24.2
      else none
set_option maxHeartbeats 4000000 in
theorem g_fi_leastWorth_L9_ok {xl : Nat} {xs : Nat → Int32} {a0 : Nat} (ha0 : zIn [60, 70] a0 = true) : ∀ (n : Nat) {Y1 : Int64} {y1 : Int} {X3 : Int32} {x3 : Int} {σ : zS} {p : Nat} {m : zM} {o : Int × zS}, Y1.toInt = y1 → X3.toInt = x3 → zRep xl xs p m σ → g_fi_leastWorth_L9 a0 n y1 x3 σ = some o → zGo xl xs (fun p' => p = p') 2 52 9 [(0, .ref a0), (1, .long Y1), (3, .int X3)] [] m (vL o.1) o.2
  | 0, _, _, _, _, _, _, _, _, _, _, _, h => by cases h
  | n + 1, Y1, y1, X3, x3, σ, p, m, o, hy1, hx3, H, h => by
    have hq : z_mth 52 = some z_r52 := rfl
    have ih := fun {Y1 : Int64} {y1 : Int} {X3 : Int32} {x3 : Int} {σ : zS} {p : Nat} {m : zM} {o : Int × zS} => g_fi_leastWorth_L9_ok (xl := xl) (xs := xs) ha0 n (Y1 := Y1) (y1 := y1) (X3 := X3) (x3 := x3) (σ := σ) (p := p) (m := m) (o := o)
    unfold g_fi_leastWorth_L9 at h
    refine r_p hq 2 (pc' := 11) (L' := [(0, .ref a0), (1, .long Y1), (3, .int X3)]) (st' := [.ref a0, .int X3]) rfl ?_
    refine r_gI (pc' := 14) (L' := [(0, .ref a0), (1, .long Y1), (3, .int X3)]) H hq (z_at.mk 3 rfl rfl) rfl (zIn_all (l := [60, 70]) (p := fun a => zQ a 13 2 0) rfl ha0) rfl rfl ?_
    intro V_11 hV_11
    rcases z_ite h with ⟨c_14, h⟩ | ⟨c_14, h⟩
    · refine r_t2 (pc' := 34) (L' := [(0, .ref a0), (1, .long Y1), (3, .int X3)]) hq (z_at.mk 3 rfl rfl) rfl hx3 hV_11 c_14 rfl rfl ?_
      refine r_p hq 1 (pc' := 35) (L' := [(0, .ref a0), (1, .long Y1), (3, .int X3)]) (st' := [.long Y1]) rfl ?_
      cases h
      exact r_rl hq (z_at.mk 1 rfl rfl) rfl hy1 rfl H
    · refine r_f2 (pc' := 17) (L' := [(0, .ref a0), (1, .long Y1), (3, .int X3)]) hq (z_at.mk 3 rfl rfl) rfl hx3 hV_11 c_14 rfl rfl ?_
      refine r_p hq 2 (pc' := 19) (L' := [(0, .ref a0), (1, .long Y1), (3, .int X3)]) (st' := [.ref a0, .long Y1]) rfl ?_
      refine r_gR (b := a0 + 2) (pc' := 22) (L' := [(0, .ref a0), (1, .long Y1), (3, .int X3)]) H hq (z_at.mk 3 rfl rfl) rfl (zIn_all (l := [60, 70]) (p := fun a => zQ a 13 1 (100 + a + 2)) rfl ha0) rfl rfl ?_
      refine r_p hq 1 (pc' := 23) (L' := [(0, .ref a0), (1, .long Y1), (3, .int X3)]) (st' := [.int X3, .ref (a0 + 2), .long Y1]) rfl ?_
      obtain ⟨g_23, h⟩ := z_ifo_some h
      refine r_la (pc' := 24) (L' := [(0, .ref a0), (1, .long Y1), (3, .int X3)]) H hq (z_at.mk 1 rfl rfl) (zIn_all (l := [60, 70]) (p := fun a => zAr (a + 2) 1 60) rfl ha0) hx3 g_23 rfl rfl ?_
      intro V_23 hV_23
      obtain ⟨o_24, h_24, h⟩ := Option.bind_eq_some_iff.mp h
      refine r_csL (pc' := 27) (L' := [(0, .ref a0), (1, .long Y1), (3, .int X3)]) (As := [.long Y1, .long V_23]) (rest := []) (j := 292) hq (z_at.mk 3 rfl rfl) (Or.inl ⟨rfl, rfl⟩) rfl rfl (by omega) (g_jMath_min_292_ok hy1 hV_23 H h_24) rfl rfl ?_
      intro R_24 m_24 p_24 e_24 hR_24 H_24
      subst e_24
      refine r_p hq 3 (pc' := 9) (L' := [(0, .ref a0), (1, .long R_24), (3, .int (X3 + (1 : Int32)))]) (st' := []) rfl ?_
      exact ih hR_24 (tx_iadd hx3 (rfl : (1 : Int32).toInt = 1)) H_24 h
def g_fi_leastWorth (a0 : Nat) (σ : zS) : Option (Int × zS) :=
  let v_5 := σ (a0 + 2) 0
  g_fi_leastWorth_L9 a0 zK v_5 1 σ
set_option maxHeartbeats 4000000 in
theorem g_fi_leastWorth_ok {xl : Nat} {xs : Nat → Int32} {a0 : Nat} (ha0 : zIn [60, 70] a0 = true) {σ : zS} {p : Nat} {m : zM} {o : Int × zS} (H : zRep xl xs p m σ) (h : g_fi_leastWorth a0 σ = some o) : zGo xl xs (fun p' => p = p') 2 52 0 (z_can 52 0 (lv_args 0 [.ref a0])) [] m (vL o.1) o.2 := by
  have hq : z_mth 52 = some z_r52 := rfl
  unfold g_fi_leastWorth at h
  show zGo xl xs (fun p' => p = p') 2 52 0 [(0, .ref a0)] [] m (vL o.1) o.2
  refine r_p hq 1 (pc' := 1) (L' := [(0, .ref a0)]) (st' := [.ref a0]) rfl ?_
  refine r_gR (b := a0 + 2) (pc' := 4) (L' := [(0, .ref a0)]) H hq (z_at.mk 3 rfl rfl) rfl (zIn_all (l := [60, 70]) (p := fun a => zQ a 13 1 (100 + a + 2)) rfl ha0) rfl rfl ?_
  refine r_p hq 1 (pc' := 5) (L' := [(0, .ref a0)]) (st' := [.int ((0 : Int32)), .ref (a0 + 2)]) rfl ?_
  refine r_la (pc' := 6) (L' := [(0, .ref a0)]) H hq (z_at.mk 1 rfl rfl) (zIn_all (l := [60, 70]) (p := fun a => zAr (a + 2) 1 60) rfl ha0) (rfl : (0 : Int32).toInt = 0) ⟨by decide, by decide⟩ rfl rfl ?_
  intro V_5 hV_5
  refine r_p hq 3 (pc' := 9) (L' := [(0, .ref a0), (1, .long V_5), (3, .int ((1 : Int32)))]) (st' := []) rfl ?_
  exact g_fi_leastWorth_L9_ok ha0 zK hV_5 (rfl : (1 : Int32).toInt = 1) H h
def g_fi_mostWorth_L9 (a0 : Nat) : Nat → Int → Int → zS → Option (Int × zS)
  | 0, _, _, _ => none
  | n + 1, y1, x3, σ =>
    let v_11 := σ a0 2
    if v_11 ≤ x3 then
      some (y1, σ)
    else
      if 0 ≤ x3 ∧ x3 < 60 then
      let v_23 := σ (a0 + 2) x3
      (g_jMath_max_290 y1 v_23 σ).bind fun o_24 =>
      (g_fi_mostWorth_L9 a0 n) o_24.1 (w32 (x3 + 1)) o_24.2
      else none
set_option maxHeartbeats 4000000 in
theorem g_fi_mostWorth_L9_ok {xl : Nat} {xs : Nat → Int32} {a0 : Nat} (ha0 : zIn [60, 70] a0 = true) : ∀ (n : Nat) {Y1 : Int64} {y1 : Int} {X3 : Int32} {x3 : Int} {σ : zS} {p : Nat} {m : zM} {o : Int × zS}, Y1.toInt = y1 → X3.toInt = x3 → zRep xl xs p m σ → g_fi_mostWorth_L9 a0 n y1 x3 σ = some o → zGo xl xs (fun p' => p = p') 2 53 9 [(0, .ref a0), (1, .long Y1), (3, .int X3)] [] m (vL o.1) o.2
  | 0, _, _, _, _, _, _, _, _, _, _, _, h => by cases h
  | n + 1, Y1, y1, X3, x3, σ, p, m, o, hy1, hx3, H, h => by
    have hq : z_mth 53 = some z_r53 := rfl
    have ih := fun {Y1 : Int64} {y1 : Int} {X3 : Int32} {x3 : Int} {σ : zS} {p : Nat} {m : zM} {o : Int × zS} => g_fi_mostWorth_L9_ok (xl := xl) (xs := xs) ha0 n (Y1 := Y1) (y1 := y1) (X3 := X3) (x3 := x3) (σ := σ) (p := p) (m := m) (o := o)
    unfold g_fi_mostWorth_L9 at h
    refine r_p hq 2 (pc' := 11) (L' := [(0, .ref a0), (1, .long Y1), (3, .int X3)]) (st' := [.ref a0, .int X3]) rfl ?_
    refine r_gI (pc' := 14) (L' := [(0, .ref a0), (1, .long Y1), (3, .int X3)]) H hq (z_at.mk 3 rfl rfl) rfl (zIn_all (l := [60, 70]) (p := fun a => zQ a 13 2 0) rfl ha0) rfl rfl ?_
    intro V_11 hV_11
    rcases z_ite h with ⟨c_14, h⟩ | ⟨c_14, h⟩
    · refine r_t2 (pc' := 34) (L' := [(0, .ref a0), (1, .long Y1), (3, .int X3)]) hq (z_at.mk 3 rfl rfl) rfl hx3 hV_11 c_14 rfl rfl ?_
      refine r_p hq 1 (pc' := 35) (L' := [(0, .ref a0), (1, .long Y1), (3, .int X3)]) (st' := [.long Y1]) rfl ?_
      cases h
      exact r_rl hq (z_at.mk 1 rfl rfl) rfl hy1 rfl H
    · refine r_f2 (pc' := 17) (L' := [(0, .ref a0), (1, .long Y1), (3, .int X3)]) hq (z_at.mk 3 rfl rfl) rfl hx3 hV_11 c_14 rfl rfl ?_
      refine r_p hq 2 (pc' := 19) (L' := [(0, .ref a0), (1, .long Y1), (3, .int X3)]) (st' := [.ref a0, .long Y1]) rfl ?_
      refine r_gR (b := a0 + 2) (pc' := 22) (L' := [(0, .ref a0), (1, .long Y1), (3, .int X3)]) H hq (z_at.mk 3 rfl rfl) rfl (zIn_all (l := [60, 70]) (p := fun a => zQ a 13 1 (100 + a + 2)) rfl ha0) rfl rfl ?_
      refine r_p hq 1 (pc' := 23) (L' := [(0, .ref a0), (1, .long Y1), (3, .int X3)]) (st' := [.int X3, .ref (a0 + 2), .long Y1]) rfl ?_
      obtain ⟨g_23, h⟩ := z_ifo_some h
      refine r_la (pc' := 24) (L' := [(0, .ref a0), (1, .long Y1), (3, .int X3)]) H hq (z_at.mk 1 rfl rfl) (zIn_all (l := [60, 70]) (p := fun a => zAr (a + 2) 1 60) rfl ha0) hx3 g_23 rfl rfl ?_
      intro V_23 hV_23
      obtain ⟨o_24, h_24, h⟩ := Option.bind_eq_some_iff.mp h
      refine r_csL (pc' := 27) (L' := [(0, .ref a0), (1, .long Y1), (3, .int X3)]) (As := [.long Y1, .long V_23]) (rest := []) (j := 290) hq (z_at.mk 3 rfl rfl) (Or.inl ⟨rfl, rfl⟩) rfl rfl (by omega) (g_jMath_max_290_ok hy1 hV_23 H h_24) rfl rfl ?_
      intro R_24 m_24 p_24 e_24 hR_24 H_24
      subst e_24
      refine r_p hq 3 (pc' := 9) (L' := [(0, .ref a0), (1, .long R_24), (3, .int (X3 + (1 : Int32)))]) (st' := []) rfl ?_
      exact ih hR_24 (tx_iadd hx3 (rfl : (1 : Int32).toInt = 1)) H_24 h
def g_fi_mostWorth (a0 : Nat) (σ : zS) : Option (Int × zS) :=
  let v_5 := σ (a0 + 2) 0
  g_fi_mostWorth_L9 a0 zK v_5 1 σ
set_option maxHeartbeats 4000000 in
theorem g_fi_mostWorth_ok {xl : Nat} {xs : Nat → Int32} {a0 : Nat} (ha0 : zIn [60, 70] a0 = true) {σ : zS} {p : Nat} {m : zM} {o : Int × zS} (H : zRep xl xs p m σ) (h : g_fi_mostWorth a0 σ = some o) : zGo xl xs (fun p' => p = p') 2 53 0 (z_can 53 0 (lv_args 0 [.ref a0])) [] m (vL o.1) o.2 := by
  have hq : z_mth 53 = some z_r53 := rfl
  unfold g_fi_mostWorth at h
  show zGo xl xs (fun p' => p = p') 2 53 0 [(0, .ref a0)] [] m (vL o.1) o.2
  refine r_p hq 1 (pc' := 1) (L' := [(0, .ref a0)]) (st' := [.ref a0]) rfl ?_
  refine r_gR (b := a0 + 2) (pc' := 4) (L' := [(0, .ref a0)]) H hq (z_at.mk 3 rfl rfl) rfl (zIn_all (l := [60, 70]) (p := fun a => zQ a 13 1 (100 + a + 2)) rfl ha0) rfl rfl ?_
  refine r_p hq 1 (pc' := 5) (L' := [(0, .ref a0)]) (st' := [.int ((0 : Int32)), .ref (a0 + 2)]) rfl ?_
  refine r_la (pc' := 6) (L' := [(0, .ref a0)]) H hq (z_at.mk 1 rfl rfl) (zIn_all (l := [60, 70]) (p := fun a => zAr (a + 2) 1 60) rfl ha0) (rfl : (0 : Int32).toInt = 0) ⟨by decide, by decide⟩ rfl rfl ?_
  intro V_5 hV_5
  refine r_p hq 3 (pc' := 9) (L' := [(0, .ref a0), (1, .long V_5), (3, .int ((1 : Int32)))]) (st' := []) rfl ?_
  exact g_fi_mostWorth_L9_ok ha0 zK hV_5 (rfl : (1 : Int32).toInt = 1) H h
def g_fi_difference (y0 : Int) (y2 : Int) (σ : zS) : Option (Int × zS) :=
  if 0 ≤ lCmp (w64 (y0 - y2)) 0 then
    some (w64 (y0 - y2), σ)
  else
    some (-9223372036854775807, σ)
set_option maxHeartbeats 4000000 in
theorem g_fi_difference_ok {xl : Nat} {xs : Nat → Int32} {Y0 : Int64} {y0 : Int} (hy0 : Y0.toInt = y0) {Y2 : Int64} {y2 : Int} (hy2 : Y2.toInt = y2) {σ : zS} {p : Nat} {m : zM} {o : Int × zS} (H : zRep xl xs p m σ) (h : g_fi_difference y0 y2 σ = some o) : zGo xl xs (fun p' => p = p') 1 54 0 (z_can 54 0 (lv_args 0 [.long Y0, .long Y2])) [] m (vL o.1) o.2 := by
  have hq : z_mth 54 = some z_r54 := rfl
  unfold g_fi_difference at h
  show zGo xl xs (fun p' => p = p') 1 54 0 [(0, .long Y0), (2, .long Y2)] [] m (vL o.1) o.2
  refine r_p hq 5 (pc' := 5) (L' := [(0, .long Y0), (2, .long Y2)]) (st' := [.int (lg_cmp (Y0 - Y2) ((0 : Int64)))]) rfl ?_
  rcases z_ite h with ⟨c_5, h⟩ | ⟨c_5, h⟩
  · refine r_t1 (pc' := 14) (L' := [(0, .long Y0), (2, .long Y2)]) hq (z_at.mk 3 rfl rfl) rfl (tx_lcmp (tx_lsub hy0 hy2) (rfl : (0 : Int64).toInt = 0)) c_5 rfl rfl ?_
    refine r_p hq 3 (pc' := 17) (L' := []) (st' := [.long (Y0 - Y2)]) rfl ?_
    cases h
    exact r_rl hq (z_at.mk 1 rfl rfl) rfl (tx_lsub hy0 hy2) rfl H
  · refine r_f1 (pc' := 8) (L' := [(0, .long Y0), (2, .long Y2)]) hq (z_at.mk 3 rfl rfl) rfl (tx_lcmp (tx_lsub hy0 hy2) (rfl : (0 : Int64).toInt = 0)) c_5 rfl rfl ?_
    refine r_p hq 2 (pc' := 17) (L' := []) (st' := [.long ((-9223372036854775807 : Int64))]) rfl ?_
    cases h
    exact r_rl hq (z_at.mk 1 rfl rfl) rfl (rfl : (-9223372036854775807 : Int64).toInt = -9223372036854775807) rfl H
def g_fi_kinds_L63 (a0 : Nat) (g4 : Int → Int → zS → Option (Int × zS)) (x1 : Int) (x2 : Int) (σ : zS) : Option (Int × zS) :=
  g4 x1 (w32 (x2 + 1)) σ
set_option maxHeartbeats 4000000 in
theorem g_fi_kinds_L63_ok {xl : Nat} {xs : Nat → Int32} {a0 : Nat} (ha0 : zIn [60, 70] a0 = true) {g4 : Int → Int → zS → Option (Int × zS)} (hg4 : ∀ {X1 : Int32} {x1 : Int} {X2 : Int32} {x2 : Int} {σ : zS} {p : Nat} {m : zM} {o : Int × zS}, X1.toInt = x1 → X2.toInt = x2 → zRep xl xs p m σ → g4 x1 x2 σ = some o → zGo xl xs (fun p' => p = p') 1 55 4 [(0, .ref a0), (1, .int X1), (2, .int X2)] [] m (vI o.1) o.2) {X1 : Int32} {x1 : Int} (hx1 : X1.toInt = x1) {X2 : Int32} {x2 : Int} (hx2 : X2.toInt = x2) {σ : zS} {p : Nat} {m : zM} {o : Int × zS} (H : zRep xl xs p m σ) (h : g_fi_kinds_L63 a0 g4 x1 x2 σ = some o) : zGo xl xs (fun p' => p = p') 1 55 63 [(0, .ref a0), (1, .int X1), (2, .int X2)] [] m (vI o.1) o.2 := by
  have hq : z_mth 55 = some z_r55 := rfl
  unfold g_fi_kinds_L63 at h
  refine r_p hq 2 (pc' := 4) (L' := [(0, .ref a0), (1, .int X1), (2, .int (X2 + (1 : Int32)))]) (st' := []) rfl ?_
  exact hg4 hx1 (tx_iadd hx2 (rfl : (1 : Int32).toInt = 1)) H h
def g_fi_kinds_L56 (a0 : Nat) (g4 : Int → Int → zS → Option (Int × zS)) (x1 : Int) (x2 : Int) (x3 : Int) (σ : zS) : Option (Int × zS) :=
  if x3 = 0 then
    g_fi_kinds_L63 a0 g4 x1 x2 σ
  else
    g_fi_kinds_L63 a0 g4 (w32 (x1 + 1)) x2 σ
set_option maxHeartbeats 4000000 in
theorem g_fi_kinds_L56_ok {xl : Nat} {xs : Nat → Int32} {a0 : Nat} (ha0 : zIn [60, 70] a0 = true) {g4 : Int → Int → zS → Option (Int × zS)} (hg4 : ∀ {X1 : Int32} {x1 : Int} {X2 : Int32} {x2 : Int} {σ : zS} {p : Nat} {m : zM} {o : Int × zS}, X1.toInt = x1 → X2.toInt = x2 → zRep xl xs p m σ → g4 x1 x2 σ = some o → zGo xl xs (fun p' => p = p') 1 55 4 [(0, .ref a0), (1, .int X1), (2, .int X2)] [] m (vI o.1) o.2) {X1 : Int32} {x1 : Int} (hx1 : X1.toInt = x1) {X2 : Int32} {x2 : Int} (hx2 : X2.toInt = x2) {X3 : Int32} {x3 : Int} (hx3 : X3.toInt = x3) {σ : zS} {p : Nat} {m : zM} {o : Int × zS} (H : zRep xl xs p m σ) (h : g_fi_kinds_L56 a0 g4 x1 x2 x3 σ = some o) : zGo xl xs (fun p' => p = p') 1 55 56 [(0, .ref a0), (1, .int X1), (2, .int X2), (3, .int X3)] [] m (vI o.1) o.2 := by
  have hq : z_mth 55 = some z_r55 := rfl
  unfold g_fi_kinds_L56 at h
  refine r_p hq 1 (pc' := 57) (L' := [(0, .ref a0), (1, .int X1), (2, .int X2), (3, .int X3)]) (st' := [.int X3]) rfl ?_
  rcases z_ite h with ⟨c_57, h⟩ | ⟨c_57, h⟩
  · refine r_t1 (pc' := 63) (L' := [(0, .ref a0), (1, .int X1), (2, .int X2)]) hq (z_at.mk 3 rfl rfl) rfl hx3 c_57 rfl rfl ?_
    exact g_fi_kinds_L63_ok ha0 hg4 hx1 hx2 H h
  · refine r_f1 (pc' := 60) (L' := [(0, .ref a0), (1, .int X1), (2, .int X2), (3, .int X3)]) hq (z_at.mk 3 rfl rfl) rfl hx3 c_57 rfl rfl ?_
    refine r_p hq 1 (pc' := 63) (L' := [(0, .ref a0), (1, .int (X1 + (1 : Int32))), (2, .int X2)]) (st' := []) rfl ?_
    exact g_fi_kinds_L63_ok ha0 hg4 (tx_iadd hx1 (rfl : (1 : Int32).toInt = 1)) hx2 H h
def g_fi_kinds_L49 (a0 : Nat) (g17 : Int → Int → Int → Int → zS → Option (Int × zS)) (x1 : Int) (x2 : Int) (x4 : Int) (xs0 : Int) (σ : zS) : Option (Int × zS) :=
  g17 x1 x2 xs0 (w32 (x4 + 1)) σ
set_option maxHeartbeats 4000000 in
theorem g_fi_kinds_L49_ok {xl : Nat} {xs : Nat → Int32} {a0 : Nat} (ha0 : zIn [60, 70] a0 = true) {g17 : Int → Int → Int → Int → zS → Option (Int × zS)} (hg17 : ∀ {X1 : Int32} {x1 : Int} {X2 : Int32} {x2 : Int} {X3 : Int32} {x3 : Int} {X4 : Int32} {x4 : Int} {σ : zS} {p : Nat} {m : zM} {o : Int × zS}, X1.toInt = x1 → X2.toInt = x2 → X3.toInt = x3 → X4.toInt = x4 → zRep xl xs p m σ → g17 x1 x2 x3 x4 σ = some o → zGo xl xs (fun p' => p = p') 1 55 17 [(0, .ref a0), (1, .int X1), (2, .int X2), (3, .int X3), (4, .int X4)] [] m (vI o.1) o.2) {X1 : Int32} {x1 : Int} (hx1 : X1.toInt = x1) {X2 : Int32} {x2 : Int} (hx2 : X2.toInt = x2) {X4 : Int32} {x4 : Int} (hx4 : X4.toInt = x4) {Xs0 : Int32} {xs0 : Int} (hxs0 : Xs0.toInt = xs0) {σ : zS} {p : Nat} {m : zM} {o : Int × zS} (H : zRep xl xs p m σ) (h : g_fi_kinds_L49 a0 g17 x1 x2 x4 xs0 σ = some o) : zGo xl xs (fun p' => p = p') 1 55 49 [(0, .ref a0), (1, .int X1), (2, .int X2), (4, .int X4)] [.int Xs0] m (vI o.1) o.2 := by
  have hq : z_mth 55 = some z_r55 := rfl
  unfold g_fi_kinds_L49 at h
  refine r_p hq 3 (pc' := 17) (L' := [(0, .ref a0), (1, .int X1), (2, .int X2), (3, .int Xs0), (4, .int (X4 + (1 : Int32)))]) (st' := []) rfl ?_
  exact hg17 hx1 hx2 hxs0 (tx_iadd hx4 (rfl : (1 : Int32).toInt = 1)) H h
def g_fi_kinds_L17 (a0 : Nat) (g4 : Int → Int → zS → Option (Int × zS)) : Nat → Int → Int → Int → Int → zS → Option (Int × zS)
  | 0, _, _, _, _, _ => none
  | n + 1, x1, x2, x3, x4, σ =>
    if x2 ≤ x4 then
      g_fi_kinds_L56 a0 g4 x1 x2 x3 σ
    else
      if x3 = 0 then
        g_fi_kinds_L56 a0 g4 x1 x2 x3 σ
      else
        if 0 ≤ x4 ∧ x4 < 60 then
        let v_33 := σ (a0 + 2) x4
        if 0 ≤ x2 ∧ x2 < 60 then
        let v_39 := σ (a0 + 2) x2
        if lCmp v_33 v_39 = 0 then
          g_fi_kinds_L49 a0 ((g_fi_kinds_L17 a0 g4 n)) x1 x2 x4 0 σ
        else
          g_fi_kinds_L49 a0 ((g_fi_kinds_L17 a0 g4 n)) x1 x2 x4 1 σ
        else none
        else none
set_option maxHeartbeats 4000000 in
theorem g_fi_kinds_L17_ok {xl : Nat} {xs : Nat → Int32} {a0 : Nat} (ha0 : zIn [60, 70] a0 = true) {g4 : Int → Int → zS → Option (Int × zS)} (hg4 : ∀ {X1 : Int32} {x1 : Int} {X2 : Int32} {x2 : Int} {σ : zS} {p : Nat} {m : zM} {o : Int × zS}, X1.toInt = x1 → X2.toInt = x2 → zRep xl xs p m σ → g4 x1 x2 σ = some o → zGo xl xs (fun p' => p = p') 1 55 4 [(0, .ref a0), (1, .int X1), (2, .int X2)] [] m (vI o.1) o.2) : ∀ (n : Nat) {X1 : Int32} {x1 : Int} {X2 : Int32} {x2 : Int} {X3 : Int32} {x3 : Int} {X4 : Int32} {x4 : Int} {σ : zS} {p : Nat} {m : zM} {o : Int × zS}, X1.toInt = x1 → X2.toInt = x2 → X3.toInt = x3 → X4.toInt = x4 → zRep xl xs p m σ → g_fi_kinds_L17 a0 g4 n x1 x2 x3 x4 σ = some o → zGo xl xs (fun p' => p = p') 1 55 17 [(0, .ref a0), (1, .int X1), (2, .int X2), (3, .int X3), (4, .int X4)] [] m (vI o.1) o.2
  | 0, _, _, _, _, _, _, _, _, _, _, _, _, _, _, _, _, _, h => by cases h
  | n + 1, X1, x1, X2, x2, X3, x3, X4, x4, σ, p, m, o, hx1, hx2, hx3, hx4, H, h => by
    have hq : z_mth 55 = some z_r55 := rfl
    have ih := fun {X1 : Int32} {x1 : Int} {X2 : Int32} {x2 : Int} {X3 : Int32} {x3 : Int} {X4 : Int32} {x4 : Int} {σ : zS} {p : Nat} {m : zM} {o : Int × zS} => g_fi_kinds_L17_ok (xl := xl) (xs := xs) ha0 hg4 n (X1 := X1) (x1 := x1) (X2 := X2) (x2 := x2) (X3 := X3) (x3 := x3) (X4 := X4) (x4 := x4) (σ := σ) (p := p) (m := m) (o := o)
    unfold g_fi_kinds_L17 at h
    refine r_p hq 2 (pc' := 20) (L' := [(0, .ref a0), (1, .int X1), (2, .int X2), (3, .int X3), (4, .int X4)]) (st' := [.int X2, .int X4]) rfl ?_
    rcases z_ite h with ⟨c_20, h⟩ | ⟨c_20, h⟩
    · refine r_t2 (pc' := 56) (L' := [(0, .ref a0), (1, .int X1), (2, .int X2), (3, .int X3)]) hq (z_at.mk 3 rfl rfl) rfl hx4 hx2 c_20 rfl rfl ?_
      exact g_fi_kinds_L56_ok ha0 hg4 hx1 hx2 hx3 H h
    · refine r_f2 (pc' := 23) (L' := [(0, .ref a0), (1, .int X1), (2, .int X2), (3, .int X3), (4, .int X4)]) hq (z_at.mk 3 rfl rfl) rfl hx4 hx2 c_20 rfl rfl ?_
      refine r_p hq 1 (pc' := 24) (L' := [(0, .ref a0), (1, .int X1), (2, .int X2), (3, .int X3), (4, .int X4)]) (st' := [.int X3]) rfl ?_
      rcases z_ite h with ⟨c_24, h⟩ | ⟨c_24, h⟩
      · refine r_t1 (pc' := 56) (L' := [(0, .ref a0), (1, .int X1), (2, .int X2), (3, .int X3)]) hq (z_at.mk 3 rfl rfl) rfl hx3 c_24 rfl rfl ?_
        exact g_fi_kinds_L56_ok ha0 hg4 hx1 hx2 hx3 H h
      · refine r_f1 (pc' := 27) (L' := [(0, .ref a0), (1, .int X1), (2, .int X2), (3, .int X3), (4, .int X4)]) hq (z_at.mk 3 rfl rfl) rfl hx3 c_24 rfl rfl ?_
        refine r_p hq 1 (pc' := 28) (L' := [(0, .ref a0), (1, .int X1), (2, .int X2), (3, .int X3), (4, .int X4)]) (st' := [.ref a0]) rfl ?_
        refine r_gR (b := a0 + 2) (pc' := 31) (L' := [(0, .ref a0), (1, .int X1), (2, .int X2), (3, .int X3), (4, .int X4)]) H hq (z_at.mk 3 rfl rfl) rfl (zIn_all (l := [60, 70]) (p := fun a => zQ a 13 1 (100 + a + 2)) rfl ha0) rfl rfl ?_
        refine r_p hq 1 (pc' := 33) (L' := [(0, .ref a0), (1, .int X1), (2, .int X2), (3, .int X3), (4, .int X4)]) (st' := [.int X4, .ref (a0 + 2)]) rfl ?_
        obtain ⟨g_33, h⟩ := z_ifo_some h
        refine r_la (pc' := 34) (L' := [(0, .ref a0), (1, .int X1), (2, .int X2), (3, .int X3), (4, .int X4)]) H hq (z_at.mk 1 rfl rfl) (zIn_all (l := [60, 70]) (p := fun a => zAr (a + 2) 1 60) rfl ha0) hx4 g_33 rfl rfl ?_
        intro V_33 hV_33
        refine r_p hq 1 (pc' := 35) (L' := [(0, .ref a0), (1, .int X1), (2, .int X2), (3, .int X3), (4, .int X4)]) (st' := [.ref a0, .long V_33]) rfl ?_
        refine r_gR (b := a0 + 2) (pc' := 38) (L' := [(0, .ref a0), (1, .int X1), (2, .int X2), (3, .int X3), (4, .int X4)]) H hq (z_at.mk 3 rfl rfl) rfl (zIn_all (l := [60, 70]) (p := fun a => zQ a 13 1 (100 + a + 2)) rfl ha0) rfl rfl ?_
        refine r_p hq 1 (pc' := 39) (L' := [(0, .ref a0), (1, .int X1), (2, .int X2), (3, .int X3), (4, .int X4)]) (st' := [.int X2, .ref (a0 + 2), .long V_33]) rfl ?_
        obtain ⟨g_39, h⟩ := z_ifo_some h
        refine r_la (pc' := 40) (L' := [(0, .ref a0), (1, .int X1), (2, .int X2), (3, .int X3), (4, .int X4)]) H hq (z_at.mk 1 rfl rfl) (zIn_all (l := [60, 70]) (p := fun a => zAr (a + 2) 1 60) rfl ha0) hx2 g_39 rfl rfl ?_
        intro V_39 hV_39
        refine r_p hq 1 (pc' := 41) (L' := [(0, .ref a0), (1, .int X1), (2, .int X2), (3, .int X3), (4, .int X4)]) (st' := [.int (lg_cmp V_33 V_39)]) rfl ?_
        rcases z_ite h with ⟨c_41, h⟩ | ⟨c_41, h⟩
        · refine r_t1 (pc' := 48) (L' := [(0, .ref a0), (1, .int X1), (2, .int X2), (3, .int X3), (4, .int X4)]) hq (z_at.mk 3 rfl rfl) rfl (tx_lcmp hV_33 hV_39) c_41 rfl rfl ?_
          refine r_p hq 1 (pc' := 49) (L' := [(0, .ref a0), (1, .int X1), (2, .int X2), (4, .int X4)]) (st' := [.int ((0 : Int32))]) rfl ?_
          exact g_fi_kinds_L49_ok ha0 ih hx1 hx2 hx4 (rfl : (0 : Int32).toInt = 0) H h
        · refine r_f1 (pc' := 44) (L' := [(0, .ref a0), (1, .int X1), (2, .int X2), (3, .int X3), (4, .int X4)]) hq (z_at.mk 3 rfl rfl) rfl (tx_lcmp hV_33 hV_39) c_41 rfl rfl ?_
          refine r_p hq 2 (pc' := 49) (L' := [(0, .ref a0), (1, .int X1), (2, .int X2), (4, .int X4)]) (st' := [.int ((1 : Int32))]) rfl ?_
          exact g_fi_kinds_L49_ok ha0 ih hx1 hx2 hx4 (rfl : (1 : Int32).toInt = 1) H h
def g_fi_kinds_L4 (a0 : Nat) : Nat → Int → Int → zS → Option (Int × zS)
  | 0, _, _, _ => none
  | n + 1, x1, x2, σ =>
    let v_6 := σ a0 2
    if v_6 ≤ x2 then
      some (x1, σ)
    else
      g_fi_kinds_L17 a0 ((g_fi_kinds_L4 a0 n)) zK x1 x2 1 0 σ
set_option maxHeartbeats 4000000 in
theorem g_fi_kinds_L4_ok {xl : Nat} {xs : Nat → Int32} {a0 : Nat} (ha0 : zIn [60, 70] a0 = true) : ∀ (n : Nat) {X1 : Int32} {x1 : Int} {X2 : Int32} {x2 : Int} {σ : zS} {p : Nat} {m : zM} {o : Int × zS}, X1.toInt = x1 → X2.toInt = x2 → zRep xl xs p m σ → g_fi_kinds_L4 a0 n x1 x2 σ = some o → zGo xl xs (fun p' => p = p') 1 55 4 [(0, .ref a0), (1, .int X1), (2, .int X2)] [] m (vI o.1) o.2
  | 0, _, _, _, _, _, _, _, _, _, _, _, h => by cases h
  | n + 1, X1, x1, X2, x2, σ, p, m, o, hx1, hx2, H, h => by
    have hq : z_mth 55 = some z_r55 := rfl
    have ih := fun {X1 : Int32} {x1 : Int} {X2 : Int32} {x2 : Int} {σ : zS} {p : Nat} {m : zM} {o : Int × zS} => g_fi_kinds_L4_ok (xl := xl) (xs := xs) ha0 n (X1 := X1) (x1 := x1) (X2 := X2) (x2 := x2) (σ := σ) (p := p) (m := m) (o := o)
    unfold g_fi_kinds_L4 at h
    refine r_p hq 2 (pc' := 6) (L' := [(0, .ref a0), (1, .int X1), (2, .int X2)]) (st' := [.ref a0, .int X2]) rfl ?_
    refine r_gI (pc' := 9) (L' := [(0, .ref a0), (1, .int X1), (2, .int X2)]) H hq (z_at.mk 3 rfl rfl) rfl (zIn_all (l := [60, 70]) (p := fun a => zQ a 13 2 0) rfl ha0) rfl rfl ?_
    intro V_6 hV_6
    rcases z_ite h with ⟨c_9, h⟩ | ⟨c_9, h⟩
    · refine r_t2 (pc' := 69) (L' := [(0, .ref a0), (1, .int X1), (2, .int X2)]) hq (z_at.mk 3 rfl rfl) rfl hx2 hV_6 c_9 rfl rfl ?_
      refine r_p hq 1 (pc' := 70) (L' := [(0, .ref a0), (1, .int X1), (2, .int X2)]) (st' := [.int X1]) rfl ?_
      cases h
      exact r_ri hq (z_at.mk 1 rfl rfl) rfl rfl hx1 rfl H
    · refine r_f2 (pc' := 12) (L' := [(0, .ref a0), (1, .int X1), (2, .int X2)]) hq (z_at.mk 3 rfl rfl) rfl hx2 hV_6 c_9 rfl rfl ?_
      refine r_p hq 4 (pc' := 17) (L' := [(0, .ref a0), (1, .int X1), (2, .int X2), (3, .int ((1 : Int32))), (4, .int ((0 : Int32)))]) (st' := []) rfl ?_
      exact g_fi_kinds_L17_ok ha0 ih zK hx1 hx2 (rfl : (1 : Int32).toInt = 1) (rfl : (0 : Int32).toInt = 0) H h
def g_fi_kinds (a0 : Nat) (σ : zS) : Option (Int × zS) :=
  g_fi_kinds_L4 a0 zK 0 0 σ
set_option maxHeartbeats 4000000 in
theorem g_fi_kinds_ok {xl : Nat} {xs : Nat → Int32} {a0 : Nat} (ha0 : zIn [60, 70] a0 = true) {σ : zS} {p : Nat} {m : zM} {o : Int × zS} (H : zRep xl xs p m σ) (h : g_fi_kinds a0 σ = some o) : zGo xl xs (fun p' => p = p') 1 55 0 (z_can 55 0 (lv_args 0 [.ref a0])) [] m (vI o.1) o.2 := by
  have hq : z_mth 55 = some z_r55 := rfl
  unfold g_fi_kinds at h
  show zGo xl xs (fun p' => p = p') 1 55 0 [(0, .ref a0)] [] m (vI o.1) o.2
  refine r_p hq 4 (pc' := 4) (L' := [(0, .ref a0), (1, .int ((0 : Int32))), (2, .int ((0 : Int32)))]) (st' := []) rfl ?_
  exact g_fi_kinds_L4_ok ha0 zK (rfl : (0 : Int32).toInt = 0) (rfl : (0 : Int32).toInt = 0) H h
def g_fi_measured_L21 (a0 : Nat) (x1 : Int) (σ : zS) : Option (Int × zS) :=
  if x1 = 0 then
    let v_65 := σ a0 2
    some (v_65, σ)
  else
  if x1 = 1 then
    (g_fi_sum a0 σ).bind fun o_71 =>
    some (o_71.1, o_71.2)
  else
  if x1 = 2 then
    (g_fi_leastWorth a0 σ).bind fun o_76 =>
    some (o_76.1, o_76.2)
  else
  if x1 = 3 then
    (g_fi_mostWorth a0 σ).bind fun o_81 =>
    some (o_81.1, o_81.2)
  else
  if x1 = 4 then
    (g_fi_mean a0 σ).bind fun o_86 =>
    some (o_86.1, o_86.2)
  else
  if x1 = 5 then
    (g_fi_mostWorth a0 σ).bind fun o_91 =>
    (g_fi_leastWorth a0 o_91.2).bind fun o_95 =>
    (g_fi_difference o_91.1 o_95.1 o_95.2).bind fun o_98 =>
    some (o_98.1, o_98.2)
  else
  if x1 = 6 then
    (g_fi_kinds a0 σ).bind fun o_103 =>
    some (o_103.1, o_103.2)
  else
  some (-9223372036854775808, σ)
set_option maxHeartbeats 4000000 in
theorem g_fi_measured_L21_ok {xl : Nat} {xs : Nat → Int32} {a0 : Nat} (ha0 : zIn [60, 70] a0 = true) {X1 : Int32} {x1 : Int} (hx1 : X1.toInt = x1) {σ : zS} {p : Nat} {m : zM} {o : Int × zS} (H : zRep xl xs p m σ) (h : g_fi_measured_L21 a0 x1 σ = some o) : zGo xl xs (fun p' => p = p') 4 48 21 [(0, .ref a0), (1, .int X1)] [] m (vL o.1) o.2 := by
  have hq : z_mth 48 = some z_r48 := rfl
  unfold g_fi_measured_L21 at h
  refine r_p hq 1 (pc' := 22) (L' := [(0, .ref a0), (1, .int X1)]) (st' := [.int X1]) rfl ?_
  rcases z_ite h with ⟨c_22_0, h⟩ | ⟨c_22_0, h⟩
  · refine r_sw (off := 42) (pc' := 64) (L' := [(0, .ref a0), (1, .int X1)]) hq (z_at.mk 42 rfl rfl) (z_off_v (hx1.trans c_22_0) rfl) rfl rfl rfl ?_
    refine r_p hq 1 (pc' := 65) (L' := [(0, .ref a0), (1, .int X1)]) (st' := [.ref a0]) rfl ?_
    refine r_gI (pc' := 68) (L' := [(0, .ref a0), (1, .int X1)]) H hq (z_at.mk 3 rfl rfl) rfl (zIn_all (l := [60, 70]) (p := fun a => zQ a 13 2 0) rfl ha0) rfl rfl ?_
    intro V_65 hV_65
    refine r_p hq 1 (pc' := 69) (L' := [(0, .ref a0), (1, .int X1)]) (st' := [.long V_65.toInt64]) rfl ?_
    cases h
    exact r_rl hq (z_at.mk 1 rfl rfl) rfl (tx_i2l hV_65) rfl H
  rcases z_ite h with ⟨c_22_1, h⟩ | ⟨c_22_1, h⟩
  · refine r_sw (off := 48) (pc' := 70) (L' := [(0, .ref a0), (1, .int X1)]) hq (z_at.mk 42 rfl rfl) (z_off_v (hx1.trans c_22_1) rfl) rfl rfl rfl ?_
    refine r_p hq 1 (pc' := 71) (L' := [(0, .ref a0), (1, .int X1)]) (st' := [.ref a0]) rfl ?_
    obtain ⟨o_71, h_71, h⟩ := Option.bind_eq_some_iff.mp h
    refine r_cvL (pc' := 74) (L' := [(0, .ref a0), (1, .int X1)]) (Ps := []) (rest := []) hq (z_at.mk 3 rfl rfl) (Or.inl ⟨rfl, rfl⟩) rfl rfl (by decide) (by decide) rfl (Nat.not_lt.mpr (Nat.le_of_ble_eq_true rfl)) rfl rfl (z_cat_le 0 rfl (by decide)) (z_lgl_le 1 rfl (by decide)) (by decide) (H.tg (zIn_all (l := [60, 70]) (p := fun a => zT a 13) rfl ha0)) (by omega) (g_fi_sum_ok (zIn_all (l := [60, 70]) (p := fun a => zIn [60, 70] a) rfl ha0) H h_71) rfl rfl ?_
    intro R_71 m_71 p_71 e_71 hR_71 H_71
    subst e_71
    cases h
    exact r_rl hq (z_at.mk 1 rfl rfl) rfl hR_71 rfl H_71
  rcases z_ite h with ⟨c_22_2, h⟩ | ⟨c_22_2, h⟩
  · refine r_sw (off := 53) (pc' := 75) (L' := [(0, .ref a0), (1, .int X1)]) hq (z_at.mk 42 rfl rfl) (z_off_v (hx1.trans c_22_2) rfl) rfl rfl rfl ?_
    refine r_p hq 1 (pc' := 76) (L' := [(0, .ref a0), (1, .int X1)]) (st' := [.ref a0]) rfl ?_
    obtain ⟨o_76, h_76, h⟩ := Option.bind_eq_some_iff.mp h
    refine r_cvL (pc' := 79) (L' := [(0, .ref a0), (1, .int X1)]) (Ps := []) (rest := []) hq (z_at.mk 3 rfl rfl) (Or.inl ⟨rfl, rfl⟩) rfl rfl (by decide) (by decide) rfl (Nat.not_lt.mpr (Nat.le_of_ble_eq_true rfl)) rfl rfl (z_cat_le 0 rfl (by decide)) (z_lgl_le 1 rfl (by decide)) (by decide) (H.tg (zIn_all (l := [60, 70]) (p := fun a => zT a 13) rfl ha0)) (by omega) (g_fi_leastWorth_ok (zIn_all (l := [60, 70]) (p := fun a => zIn [60, 70] a) rfl ha0) H h_76) rfl rfl ?_
    intro R_76 m_76 p_76 e_76 hR_76 H_76
    subst e_76
    cases h
    exact r_rl hq (z_at.mk 1 rfl rfl) rfl hR_76 rfl H_76
  rcases z_ite h with ⟨c_22_3, h⟩ | ⟨c_22_3, h⟩
  · refine r_sw (off := 58) (pc' := 80) (L' := [(0, .ref a0), (1, .int X1)]) hq (z_at.mk 42 rfl rfl) (z_off_v (hx1.trans c_22_3) rfl) rfl rfl rfl ?_
    refine r_p hq 1 (pc' := 81) (L' := [(0, .ref a0), (1, .int X1)]) (st' := [.ref a0]) rfl ?_
    obtain ⟨o_81, h_81, h⟩ := Option.bind_eq_some_iff.mp h
    refine r_cvL (pc' := 84) (L' := [(0, .ref a0), (1, .int X1)]) (Ps := []) (rest := []) hq (z_at.mk 3 rfl rfl) (Or.inl ⟨rfl, rfl⟩) rfl rfl (by decide) (by decide) rfl (Nat.not_lt.mpr (Nat.le_of_ble_eq_true rfl)) rfl rfl (z_cat_le 0 rfl (by decide)) (z_lgl_le 1 rfl (by decide)) (by decide) (H.tg (zIn_all (l := [60, 70]) (p := fun a => zT a 13) rfl ha0)) (by omega) (g_fi_mostWorth_ok (zIn_all (l := [60, 70]) (p := fun a => zIn [60, 70] a) rfl ha0) H h_81) rfl rfl ?_
    intro R_81 m_81 p_81 e_81 hR_81 H_81
    subst e_81
    cases h
    exact r_rl hq (z_at.mk 1 rfl rfl) rfl hR_81 rfl H_81
  rcases z_ite h with ⟨c_22_4, h⟩ | ⟨c_22_4, h⟩
  · refine r_sw (off := 63) (pc' := 85) (L' := [(0, .ref a0), (1, .int X1)]) hq (z_at.mk 42 rfl rfl) (z_off_v (hx1.trans c_22_4) rfl) rfl rfl rfl ?_
    refine r_p hq 1 (pc' := 86) (L' := [(0, .ref a0), (1, .int X1)]) (st' := [.ref a0]) rfl ?_
    obtain ⟨o_86, h_86, h⟩ := Option.bind_eq_some_iff.mp h
    refine r_cvL (pc' := 89) (L' := [(0, .ref a0), (1, .int X1)]) (Ps := []) (rest := []) hq (z_at.mk 3 rfl rfl) (Or.inl ⟨rfl, rfl⟩) rfl rfl (by decide) (by decide) rfl (Nat.not_lt.mpr (Nat.le_of_ble_eq_true rfl)) rfl rfl (z_cat_le 0 rfl (by decide)) (z_lgl_le 1 rfl (by decide)) (by decide) (H.tg (zIn_all (l := [60, 70]) (p := fun a => zT a 13) rfl ha0)) (by omega) (g_fi_mean_ok (zIn_all (l := [60, 70]) (p := fun a => zIn [60, 70] a) rfl ha0) H h_86) rfl rfl ?_
    intro R_86 m_86 p_86 e_86 hR_86 H_86
    subst e_86
    cases h
    exact r_rl hq (z_at.mk 1 rfl rfl) rfl hR_86 rfl H_86
  rcases z_ite h with ⟨c_22_5, h⟩ | ⟨c_22_5, h⟩
  · refine r_sw (off := 68) (pc' := 90) (L' := [(0, .ref a0), (1, .int X1)]) hq (z_at.mk 42 rfl rfl) (z_off_v (hx1.trans c_22_5) rfl) rfl rfl rfl ?_
    refine r_p hq 1 (pc' := 91) (L' := [(0, .ref a0), (1, .int X1)]) (st' := [.ref a0]) rfl ?_
    obtain ⟨o_91, h_91, h⟩ := Option.bind_eq_some_iff.mp h
    refine r_cvL (pc' := 94) (L' := [(0, .ref a0), (1, .int X1)]) (Ps := []) (rest := []) hq (z_at.mk 3 rfl rfl) (Or.inl ⟨rfl, rfl⟩) rfl rfl (by decide) (by decide) rfl (Nat.not_lt.mpr (Nat.le_of_ble_eq_true rfl)) rfl rfl (z_cat_le 0 rfl (by decide)) (z_lgl_le 1 rfl (by decide)) (by decide) (H.tg (zIn_all (l := [60, 70]) (p := fun a => zT a 13) rfl ha0)) (by omega) (g_fi_mostWorth_ok (zIn_all (l := [60, 70]) (p := fun a => zIn [60, 70] a) rfl ha0) H h_91) rfl rfl ?_
    intro R_91 m_91 p_91 e_91 hR_91 H_91
    subst e_91
    refine r_p hq 1 (pc' := 95) (L' := [(0, .ref a0), (1, .int X1)]) (st' := [.ref a0, .long R_91]) rfl ?_
    obtain ⟨o_95, h_95, h⟩ := Option.bind_eq_some_iff.mp h
    refine r_cvL (pc' := 98) (L' := [(0, .ref a0), (1, .int X1)]) (Ps := []) (rest := [.long R_91]) hq (z_at.mk 3 rfl rfl) (Or.inl ⟨rfl, rfl⟩) rfl rfl (by decide) (by decide) rfl (Nat.not_lt.mpr (Nat.le_of_ble_eq_true rfl)) rfl rfl (z_cat_le 2 rfl (by decide)) (z_lgl_le 1 rfl (by decide)) (by decide) (H_91.tg (zIn_all (l := [60, 70]) (p := fun a => zT a 13) rfl ha0)) (by omega) (g_fi_leastWorth_ok (zIn_all (l := [60, 70]) (p := fun a => zIn [60, 70] a) rfl ha0) H_91 h_95) rfl rfl ?_
    intro R_95 m_95 p_95 e_95 hR_95 H_95
    subst e_95
    obtain ⟨o_98, h_98, h⟩ := Option.bind_eq_some_iff.mp h
    refine r_csL (pc' := 101) (L' := [(0, .ref a0), (1, .int X1)]) (As := [.long R_91, .long R_95]) (rest := []) (j := 54) hq (z_at.mk 3 rfl rfl) (Or.inl ⟨rfl, rfl⟩) rfl rfl (by omega) (g_fi_difference_ok hR_91 hR_95 H_95 h_98) rfl rfl ?_
    intro R_98 m_98 p_98 e_98 hR_98 H_98
    subst e_98
    cases h
    exact r_rl hq (z_at.mk 1 rfl rfl) rfl hR_98 rfl H_98
  rcases z_ite h with ⟨c_22_6, h⟩ | ⟨c_22_6, h⟩
  · refine r_sw (off := 80) (pc' := 102) (L' := [(0, .ref a0), (1, .int X1)]) hq (z_at.mk 42 rfl rfl) (z_off_v (hx1.trans c_22_6) rfl) rfl rfl rfl ?_
    refine r_p hq 1 (pc' := 103) (L' := [(0, .ref a0), (1, .int X1)]) (st' := [.ref a0]) rfl ?_
    obtain ⟨o_103, h_103, h⟩ := Option.bind_eq_some_iff.mp h
    refine r_cvI (pc' := 106) (L' := [(0, .ref a0), (1, .int X1)]) (Ps := []) (rest := []) hq (z_at.mk 3 rfl rfl) (Or.inl ⟨rfl, rfl⟩) rfl rfl (by decide) (by decide) rfl (Nat.not_lt.mpr (Nat.le_of_ble_eq_true rfl)) rfl rfl (z_cat_le 0 rfl (by decide)) (z_lgl_le 1 rfl (by decide)) (by decide) (H.tg (zIn_all (l := [60, 70]) (p := fun a => zT a 13) rfl ha0)) (by omega) (g_fi_kinds_ok (zIn_all (l := [60, 70]) (p := fun a => zIn [60, 70] a) rfl ha0) H h_103) rfl rfl ?_
    intro R_103 m_103 p_103 e_103 hR_103 H_103
    subst e_103
    refine r_p hq 1 (pc' := 107) (L' := [(0, .ref a0), (1, .int X1)]) (st' := [.long R_103.toInt64]) rfl ?_
    cases h
    exact r_rl hq (z_at.mk 1 rfl rfl) rfl (tx_i2l hR_103) rfl H_103
  have hx_22 : X1.toInt = x1 := hx1
  refine r_sw (off := 86) (pc' := 108) (L' := [(0, .ref a0), (1, .int X1)]) hq (z_at.mk 42 rfl rfl) (z_off_out (by omega)) rfl rfl rfl ?_
  refine r_p hq 1 (pc' := 111) (L' := [(0, .ref a0), (1, .int X1)]) (st' := [.long ((-9223372036854775808 : Int64))]) rfl ?_
  cases h
  exact r_rl hq (z_at.mk 1 rfl rfl) rfl (rfl : (-9223372036854775808 : Int64).toInt = -9223372036854775808) rfl H
def g_fi_measured (a0 : Nat) (x1 : Int) (σ : zS) : Option (Int × zS) :=
  let v_1 := σ a0 2
  if v_1 ≠ 0 then
    g_fi_measured_L21 a0 x1 σ
  else
    if x1 < 2 then
      g_fi_measured_L21 a0 x1 σ
    else
      if 5 < x1 then
        g_fi_measured_L21 a0 x1 σ
      else
        some (-9223372036854775808, σ)
set_option maxHeartbeats 4000000 in
theorem g_fi_measured_ok {xl : Nat} {xs : Nat → Int32} {a0 : Nat} (ha0 : zIn [60, 70] a0 = true) {X1 : Int32} {x1 : Int} (hx1 : X1.toInt = x1) {σ : zS} {p : Nat} {m : zM} {o : Int × zS} (H : zRep xl xs p m σ) (h : g_fi_measured a0 x1 σ = some o) : zGo xl xs (fun p' => p = p') 4 48 0 (z_can 48 0 (lv_args 0 [.ref a0, .int X1])) [] m (vL o.1) o.2 := by
  have hq : z_mth 48 = some z_r48 := rfl
  unfold g_fi_measured at h
  show zGo xl xs (fun p' => p = p') 4 48 0 [(0, .ref a0), (1, .int X1)] [] m (vL o.1) o.2
  refine r_p hq 1 (pc' := 1) (L' := [(0, .ref a0), (1, .int X1)]) (st' := [.ref a0]) rfl ?_
  refine r_gI (pc' := 4) (L' := [(0, .ref a0), (1, .int X1)]) H hq (z_at.mk 3 rfl rfl) rfl (zIn_all (l := [60, 70]) (p := fun a => zQ a 13 2 0) rfl ha0) rfl rfl ?_
  intro V_1 hV_1
  rcases z_ite h with ⟨c_4, h⟩ | ⟨c_4, h⟩
  · refine r_t1 (pc' := 21) (L' := [(0, .ref a0), (1, .int X1)]) hq (z_at.mk 3 rfl rfl) rfl hV_1 c_4 rfl rfl ?_
    exact g_fi_measured_L21_ok ha0 hx1 H h
  · refine r_f1 (pc' := 7) (L' := [(0, .ref a0), (1, .int X1)]) hq (z_at.mk 3 rfl rfl) rfl hV_1 c_4 rfl rfl ?_
    refine r_p hq 2 (pc' := 9) (L' := [(0, .ref a0), (1, .int X1)]) (st' := [.int ((2 : Int32)), .int X1]) rfl ?_
    rcases z_ite h with ⟨c_9, h⟩ | ⟨c_9, h⟩
    · refine r_t2 (pc' := 21) (L' := [(0, .ref a0), (1, .int X1)]) hq (z_at.mk 3 rfl rfl) rfl hx1 (rfl : (2 : Int32).toInt = 2) c_9 rfl rfl ?_
      exact g_fi_measured_L21_ok ha0 hx1 H h
    · refine r_f2 (pc' := 12) (L' := [(0, .ref a0), (1, .int X1)]) hq (z_at.mk 3 rfl rfl) rfl hx1 (rfl : (2 : Int32).toInt = 2) c_9 rfl rfl ?_
      refine r_p hq 2 (pc' := 14) (L' := [(0, .ref a0), (1, .int X1)]) (st' := [.int ((5 : Int32)), .int X1]) rfl ?_
      rcases z_ite h with ⟨c_14, h⟩ | ⟨c_14, h⟩
      · refine r_t2 (pc' := 21) (L' := [(0, .ref a0), (1, .int X1)]) hq (z_at.mk 3 rfl rfl) rfl hx1 (rfl : (5 : Int32).toInt = 5) c_14 rfl rfl ?_
        exact g_fi_measured_L21_ok ha0 hx1 H h
      · refine r_f2 (pc' := 17) (L' := [(0, .ref a0), (1, .int X1)]) hq (z_at.mk 3 rfl rfl) rfl hx1 (rfl : (5 : Int32).toInt = 5) c_14 rfl rfl ?_
        refine r_p hq 1 (pc' := 20) (L' := [(0, .ref a0), (1, .int X1)]) (st' := [.long ((-9223372036854775808 : Int64))]) rfl ?_
        cases h
        exact r_rl hq (z_at.mk 1 rfl rfl) rfl (rfl : (-9223372036854775808 : Int64).toInt = -9223372036854775808) rfl H
def g_fi_copyFrom (a0 : Nat) (a1 : Nat) (σ : zS) : Option (Unit × zS) :=
  let s_12 := zcp σ (a1 + 1) 0 (a0 + 1) 0 60
  let s_27 := zcp s_12 (a1 + 2) 0 (a0 + 2) 0 60
  let v_32 := s_27 a1 2
  let s_35 := zu s_27 a0 2 v_32
  some ((), s_35)
set_option maxHeartbeats 4000000 in
theorem g_fi_copyFrom_ok {xl : Nat} {xs : Nat → Int32} {a0 : Nat} (ha0 : zIn [60, 93] a0 = true) {a1 : Nat} (ha1 : zIn [60, 93] a1 = true) {σ : zS} {p : Nat} {m : zM} {o : Unit × zS} (H : zRep xl xs p m σ) (h : g_fi_copyFrom a0 a1 σ = some o) : zGo xl xs (fun p' => p = p') 1 56 0 (z_can 56 0 (lv_args 0 [.ref a0, .ref a1])) [] m vV o.2 := by
  have hq : z_mth 56 = some z_r56 := rfl
  unfold g_fi_copyFrom at h
  show zGo xl xs (fun p' => p = p') 1 56 0 [(0, .ref a0), (1, .ref a1)] [] m vV o.2
  refine r_p hq 1 (pc' := 1) (L' := [(0, .ref a0), (1, .ref a1)]) (st' := [.ref a1]) rfl ?_
  refine r_gR (b := a1 + 1) (pc' := 4) (L' := [(0, .ref a0), (1, .ref a1)]) H hq (z_at.mk 3 rfl rfl) rfl (zIn_all (l := [60, 93]) (p := fun a => zQ a 13 0 (100 + a + 1)) rfl ha1) rfl rfl ?_
  refine r_p hq 2 (pc' := 6) (L' := [(0, .ref a0), (1, .ref a1)]) (st' := [.ref a0, .int ((0 : Int32)), .ref (a1 + 1)]) rfl ?_
  refine r_gR (b := a0 + 1) (pc' := 9) (L' := [(0, .ref a0), (1, .ref a1)]) H hq (z_at.mk 3 rfl rfl) rfl (zIn_all (l := [60, 93]) (p := fun a => zQ a 13 0 (100 + a + 1)) rfl ha0) rfl rfl ?_
  refine r_p hq 2 (pc' := 12) (L' := [(0, .ref a0), (1, .ref a1)]) (st' := [.int ((60 : Int32)), .int ((0 : Int32)), .ref (a0 + 1), .int ((0 : Int32)), .ref (a1 + 1)]) rfl ?_
  refine r_cp (t := 0) (pc' := 15) (L' := [(0, .ref a0), (1, .ref a1)]) H hq (z_at.mk 3 rfl rfl) rfl (by decide) (by decide) (zIn_all (l := [60, 93]) (p := fun a => zAr (a + 1) 0 60) rfl ha1) (zIn_all (l := [60, 93]) (p := fun a => zAr (a + 1) 0 60) rfl ha0) (rfl : (0 : Int32).toInt = 0) (rfl : (0 : Int32).toInt = 0) (rfl : (60 : Int32).toInt = 60) (by decide) rfl rfl ?_
  intro m_12 H_12
  refine r_p hq 1 (pc' := 16) (L' := [(0, .ref a0), (1, .ref a1)]) (st' := [.ref a1]) rfl ?_
  refine r_gR (b := a1 + 2) (pc' := 19) (L' := [(0, .ref a0), (1, .ref a1)]) H_12 hq (z_at.mk 3 rfl rfl) rfl (zIn_all (l := [60, 93]) (p := fun a => zQ a 13 1 (100 + a + 2)) rfl ha1) rfl rfl ?_
  refine r_p hq 2 (pc' := 21) (L' := [(0, .ref a0), (1, .ref a1)]) (st' := [.ref a0, .int ((0 : Int32)), .ref (a1 + 2)]) rfl ?_
  refine r_gR (b := a0 + 2) (pc' := 24) (L' := [(0, .ref a0), (1, .ref a1)]) H_12 hq (z_at.mk 3 rfl rfl) rfl (zIn_all (l := [60, 93]) (p := fun a => zQ a 13 1 (100 + a + 2)) rfl ha0) rfl rfl ?_
  refine r_p hq 2 (pc' := 27) (L' := [(0, .ref a0), (1, .ref a1)]) (st' := [.int ((60 : Int32)), .int ((0 : Int32)), .ref (a0 + 2), .int ((0 : Int32)), .ref (a1 + 2)]) rfl ?_
  refine r_cp (t := 1) (pc' := 30) (L' := [(0, .ref a0), (1, .ref a1)]) H_12 hq (z_at.mk 3 rfl rfl) rfl (by decide) (by decide) (zIn_all (l := [60, 93]) (p := fun a => zAr (a + 2) 1 60) rfl ha1) (zIn_all (l := [60, 93]) (p := fun a => zAr (a + 2) 1 60) rfl ha0) (rfl : (0 : Int32).toInt = 0) (rfl : (0 : Int32).toInt = 0) (rfl : (60 : Int32).toInt = 60) (by decide) rfl rfl ?_
  intro m_27 H_27
  refine r_p hq 2 (pc' := 32) (L' := [(0, .ref a0), (1, .ref a1)]) (st' := [.ref a1, .ref a0]) rfl ?_
  refine r_gI (pc' := 35) (L' := [(0, .ref a0), (1, .ref a1)]) H_27 hq (z_at.mk 3 rfl rfl) rfl (zIn_all (l := [60, 93]) (p := fun a => zQ a 13 2 0) rfl ha1) rfl rfl ?_
  intro V_32 hV_32
  refine r_pI (X := V_32) (pc' := 38) (L' := [(0, .ref a0), (1, .ref a1)]) H_27 hq (z_at.mk 3 rfl rfl) rfl (zIn_all (l := [60, 93]) (p := fun a => zQ a 13 2 0) rfl ha0) hV_32 (by decide) rfl rfl rfl rfl ?_
  intro m_35 H_35
  cases h
  exact r_rv hq (z_at.mk 1 rfl rfl) rfl rfl H_35
def g_li_isList (x0 : Int) (σ : zS) : Option (Int × zS) :=
  if x0 < 0 then
    some (0, σ)
  else
    if 6 ≤ x0 then
      some (0, σ)
    else
      some (1, σ)
set_option maxHeartbeats 4000000 in
theorem g_li_isList_ok {xl : Nat} {xs : Nat → Int32} {X0 : Int32} {x0 : Int} (hx0 : X0.toInt = x0) {σ : zS} {p : Nat} {m : zM} {o : Int × zS} (H : zRep xl xs p m σ) (h : g_li_isList x0 σ = some o) : zGo xl xs (fun p' => p = p') 1 58 0 (z_can 58 0 (lv_args 0 [.int X0])) [] m (vI o.1) o.2 := by
  have hq : z_mth 58 = some z_r58 := rfl
  unfold g_li_isList at h
  show zGo xl xs (fun p' => p = p') 1 58 0 [(0, .int X0)] [] m (vI o.1) o.2
  refine r_p hq 1 (pc' := 1) (L' := [(0, .int X0)]) (st' := [.int X0]) rfl ?_
  rcases z_ite h with ⟨c_1, h⟩ | ⟨c_1, h⟩
  · refine r_t1 (pc' := 14) (L' := []) hq (z_at.mk 3 rfl rfl) rfl hx0 c_1 rfl rfl ?_
    refine r_p hq 1 (pc' := 15) (L' := []) (st' := [.int ((0 : Int32))]) rfl ?_
    cases h
    exact r_ri hq (z_at.mk 1 rfl rfl) rfl rfl (rfl : (0 : Int32).toInt = 0) rfl H
  · refine r_f1 (pc' := 4) (L' := [(0, .int X0)]) hq (z_at.mk 3 rfl rfl) rfl hx0 c_1 rfl rfl ?_
    refine r_p hq 2 (pc' := 7) (L' := [(0, .int X0)]) (st' := [.int ((6 : Int32)), .int X0]) rfl ?_
    rcases z_ite h with ⟨c_7, h⟩ | ⟨c_7, h⟩
    · refine r_t2 (pc' := 14) (L' := []) hq (z_at.mk 3 rfl rfl) rfl hx0 (rfl : (6 : Int32).toInt = 6) c_7 rfl rfl ?_
      refine r_p hq 1 (pc' := 15) (L' := []) (st' := [.int ((0 : Int32))]) rfl ?_
      cases h
      exact r_ri hq (z_at.mk 1 rfl rfl) rfl rfl (rfl : (0 : Int32).toInt = 0) rfl H
    · refine r_f2 (pc' := 10) (L' := [(0, .int X0)]) hq (z_at.mk 3 rfl rfl) rfl hx0 (rfl : (6 : Int32).toInt = 6) c_7 rfl rfl ?_
      refine r_p hq 2 (pc' := 15) (L' := []) (st' := [.int ((1 : Int32))]) rfl ?_
      cases h
      exact r_ri hq (z_at.mk 1 rfl rfl) rfl rfl (rfl : (1 : Int32).toInt = 1) rfl H
def g_li_refusal (x1 : Int) (σ : zS) : Option (Int × zS) :=
  (g_li_isList x1 σ).bind fun o_1 =>
  if o_1.1 ≠ 0 then
    if 0 ≤ x1 ∧ x1 < 6 then
    let v_14 := o_1.2 142 x1
    if 0 ≤ v_14 then
      some (0, o_1.2)
    else
      some (-11, o_1.2)
    else none
  else
    some (-1, o_1.2)
set_option maxHeartbeats 4000000 in
theorem g_li_refusal_ok {xl : Nat} {xs : Nat → Int32} {X1 : Int32} {x1 : Int} (hx1 : X1.toInt = x1) {σ : zS} {p : Nat} {m : zM} {o : Int × zS} (H : zRep xl xs p m σ) (h : g_li_refusal x1 σ = some o) : zGo xl xs (fun p' => p = p') 2 59 0 (z_can 59 0 (lv_args 0 [.ref 134, .int X1])) [] m (vI o.1) o.2 := by
  have hq : z_mth 59 = some z_r59 := rfl
  unfold g_li_refusal at h
  show zGo xl xs (fun p' => p = p') 2 59 0 [(0, .ref 134), (1, .int X1)] [] m (vI o.1) o.2
  refine r_p hq 1 (pc' := 1) (L' := [(0, .ref 134), (1, .int X1)]) (st' := [.int X1]) rfl ?_
  obtain ⟨o_1, h_1, h⟩ := Option.bind_eq_some_iff.mp h
  refine r_csI (pc' := 4) (L' := [(0, .ref 134), (1, .int X1)]) (As := [.int X1]) (rest := []) (j := 58) hq (z_at.mk 3 rfl rfl) (Or.inl ⟨rfl, rfl⟩) rfl rfl (by omega) (g_li_isList_ok hx1 H h_1) rfl rfl ?_
  intro R_1 m_1 p_1 e_1 hR_1 H_1
  subst e_1
  rcases z_ite h with ⟨c_4, h⟩ | ⟨c_4, h⟩
  · refine r_t1 (pc' := 9) (L' := [(0, .ref 134), (1, .int X1)]) hq (z_at.mk 3 rfl rfl) rfl hR_1 c_4 rfl rfl ?_
    refine r_p hq 1 (pc' := 10) (L' := [(0, .ref 134), (1, .int X1)]) (st' := [.ref 134]) rfl ?_
    refine r_gR (b := 142) (pc' := 13) (L' := [(0, .ref 134), (1, .int X1)]) H_1 hq (z_at.mk 3 rfl rfl) rfl rfl rfl rfl ?_
    refine r_p hq 1 (pc' := 14) (L' := [(0, .ref 134), (1, .int X1)]) (st' := [.int X1, .ref 142]) rfl ?_
    obtain ⟨g_14, h⟩ := z_ifo_some h
    refine r_ia (pc' := 15) (L' := [(0, .ref 134), (1, .int X1)]) H_1 hq (z_at.mk 1 rfl rfl) (show zAr 142 0 6 = true from rfl) hx1 g_14 rfl rfl ?_
    intro V_14 hV_14
    rcases z_ite h with ⟨c_15, h⟩ | ⟨c_15, h⟩
    · refine r_t1 (pc' := 23) (L' := [(0, .ref 134), (1, .int X1)]) hq (z_at.mk 3 rfl rfl) rfl hV_14 c_15 rfl rfl ?_
      refine r_p hq 1 (pc' := 24) (L' := []) (st' := [.int ((0 : Int32))]) rfl ?_
      cases h
      exact r_ri hq (z_at.mk 1 rfl rfl) rfl rfl (rfl : (0 : Int32).toInt = 0) rfl H_1
    · refine r_f1 (pc' := 18) (L' := [(0, .ref 134), (1, .int X1)]) hq (z_at.mk 3 rfl rfl) rfl hV_14 c_15 rfl rfl ?_
      refine r_p hq 2 (pc' := 24) (L' := []) (st' := [.int ((-11 : Int32))]) rfl ?_
      cases h
      exact r_ri hq (z_at.mk 1 rfl rfl) rfl rfl (rfl : (-11 : Int32).toInt = -11) rfl H_1
  · refine r_f1 (pc' := 7) (L' := [(0, .ref 134), (1, .int X1)]) hq (z_at.mk 3 rfl rfl) rfl hR_1 c_4 rfl rfl ?_
    refine r_p hq 1 (pc' := 8) (L' := [(0, .ref 134), (1, .int X1)]) (st' := [.int ((-1 : Int32))]) rfl ?_
    cases h
    exact r_ri hq (z_at.mk 1 rfl rfl) rfl rfl (rfl : (-1 : Int32).toInt = -1) rfl H_1
def g_li_make_L27 : Nat → Int → Int → Int → zS → Option (Unit × zS)
  | 0, _, _, _, _ => none
  | n + 1, x1, x2, x3, σ =>
    if x2 ≤ x3 then
      some ((), σ)
    else
      if 0 ≤ x1 ∧ x1 < 6 then
      let A_37 := 136 + (x1).toNat
      if 0 ≤ x3 ∧ x3 < 60 then
      let s_40 := zu σ A_37 x3 0
      (g_li_make_L27 n) x1 x2 (w32 (x3 + 1)) s_40
      else none
      else none
set_option maxHeartbeats 4000000 in
theorem g_li_make_L27_ok {xl : Nat} {xs : Nat → Int32} : ∀ (n : Nat) {X1 : Int32} {x1 : Int} {X2 : Int32} {x2 : Int} {X3 : Int32} {x3 : Int} {σ : zS} {p : Nat} {m : zM} {o : Unit × zS}, X1.toInt = x1 → X2.toInt = x2 → X3.toInt = x3 → zRep xl xs p m σ → g_li_make_L27 n x1 x2 x3 σ = some o → zGo xl xs (fun p' => p = p') 2 60 27 [(0, .ref 134), (1, .int X1), (2, .int X2), (3, .int X3)] [] m vV o.2
  | 0, _, _, _, _, _, _, _, _, _, _, _, _, _, _, h => by cases h
  | n + 1, X1, x1, X2, x2, X3, x3, σ, p, m, o, hx1, hx2, hx3, H, h => by
    have hq : z_mth 60 = some z_r60 := rfl
    have ih := fun {X1 : Int32} {x1 : Int} {X2 : Int32} {x2 : Int} {X3 : Int32} {x3 : Int} {σ : zS} {p : Nat} {m : zM} {o : Unit × zS} => g_li_make_L27_ok (xl := xl) (xs := xs) n (X1 := X1) (x1 := x1) (X2 := X2) (x2 := x2) (X3 := X3) (x3 := x3) (σ := σ) (p := p) (m := m) (o := o)
    unfold g_li_make_L27 at h
    refine r_p hq 2 (pc' := 29) (L' := [(0, .ref 134), (1, .int X1), (2, .int X2), (3, .int X3)]) (st' := [.int X2, .int X3]) rfl ?_
    rcases z_ite h with ⟨c_29, h⟩ | ⟨c_29, h⟩
    · refine r_t2 (pc' := 47) (L' := [(0, .ref 134), (1, .int X1), (2, .int X2), (3, .int X3)]) hq (z_at.mk 3 rfl rfl) rfl hx3 hx2 c_29 rfl rfl ?_
      cases h
      exact r_rv hq (z_at.mk 1 rfl rfl) rfl rfl H
    · refine r_f2 (pc' := 32) (L' := [(0, .ref 134), (1, .int X1), (2, .int X2), (3, .int X3)]) hq (z_at.mk 3 rfl rfl) rfl hx3 hx2 c_29 rfl rfl ?_
      refine r_p hq 1 (pc' := 33) (L' := [(0, .ref 134), (1, .int X1), (2, .int X2), (3, .int X3)]) (st' := [.ref 134]) rfl ?_
      refine r_gR (b := 135) (pc' := 36) (L' := [(0, .ref 134), (1, .int X1), (2, .int X2), (3, .int X3)]) H hq (z_at.mk 3 rfl rfl) rfl rfl rfl rfl ?_
      refine r_p hq 1 (pc' := 37) (L' := [(0, .ref 134), (1, .int X1), (2, .int X2), (3, .int X3)]) (st' := [.int X1, .ref 135]) rfl ?_
      obtain ⟨g_37, h⟩ := z_ifo_some h
      refine r_aa (pc' := 38) (L' := [(0, .ref 134), (1, .int X1), (2, .int X2), (3, .int X3)]) H hq (z_at.mk 1 rfl rfl) hx1 g_37 rfl rfl ?_
      intro A_37 hE_37 hA_37
      rw [← hE_37] at h
      refine r_p hq 2 (pc' := 40) (L' := [(0, .ref 134), (1, .int X1), (2, .int X2), (3, .int X3)]) (st' := [.long ((0 : Int64)), .int X3, .ref A_37]) rfl ?_
      obtain ⟨g_40, h⟩ := z_ifo_some h
      refine r_ls (pc' := 41) (L' := [(0, .ref 134), (1, .int X1), (2, .int X2), (3, .int X3)]) H hq (z_at.mk 1 rfl rfl) (zIn_all (l := [136, 137, 138, 139, 140, 141]) (p := fun a => zAr a 1 60) rfl hA_37) hx3 g_40 (rfl : (0 : Int64).toInt = 0) rfl rfl ?_
      intro m_40 H_40
      refine r_p hq 2 (pc' := 27) (L' := [(0, .ref 134), (1, .int X1), (2, .int X2), (3, .int (X3 + (1 : Int32)))]) (st' := []) rfl ?_
      exact ih hx1 hx2 (tx_iadd hx3 (rfl : (1 : Int32).toInt = 1)) H_40 h
def g_li_make (x1 : Int) (x2 : Int) (σ : zS) : Option (Unit × zS) :=
  (g_li_isList x1 σ).bind fun o_1 =>
  if o_1.1 = 0 then
    some ((), o_1.2)
  else
    if x2 < 0 then
      some ((), o_1.2)
    else
      if x2 ≤ 60 then
        if 0 ≤ x1 ∧ x1 < 6 then
        let s_24 := zu o_1.2 142 x1 x2
        g_li_make_L27 zK x1 x2 0 s_24
        else none
      else
        some ((), o_1.2)
set_option maxHeartbeats 4000000 in
theorem g_li_make_ok {xl : Nat} {xs : Nat → Int32} {X1 : Int32} {x1 : Int} (hx1 : X1.toInt = x1) {X2 : Int32} {x2 : Int} (hx2 : X2.toInt = x2) {σ : zS} {p : Nat} {m : zM} {o : Unit × zS} (H : zRep xl xs p m σ) (h : g_li_make x1 x2 σ = some o) : zGo xl xs (fun p' => p = p') 2 60 0 (z_can 60 0 (lv_args 0 [.ref 134, .int X1, .int X2])) [] m vV o.2 := by
  have hq : z_mth 60 = some z_r60 := rfl
  unfold g_li_make at h
  show zGo xl xs (fun p' => p = p') 2 60 0 [(0, .ref 134), (1, .int X1), (2, .int X2)] [] m vV o.2
  refine r_p hq 1 (pc' := 1) (L' := [(0, .ref 134), (1, .int X1), (2, .int X2)]) (st' := [.int X1]) rfl ?_
  obtain ⟨o_1, h_1, h⟩ := Option.bind_eq_some_iff.mp h
  refine r_csI (pc' := 4) (L' := [(0, .ref 134), (1, .int X1), (2, .int X2)]) (As := [.int X1]) (rest := []) (j := 58) hq (z_at.mk 3 rfl rfl) (Or.inl ⟨rfl, rfl⟩) rfl rfl (by omega) (g_li_isList_ok hx1 H h_1) rfl rfl ?_
  intro R_1 m_1 p_1 e_1 hR_1 H_1
  subst e_1
  rcases z_ite h with ⟨c_4, h⟩ | ⟨c_4, h⟩
  · refine r_t1 (pc' := 17) (L' := []) hq (z_at.mk 3 rfl rfl) rfl hR_1 c_4 rfl rfl ?_
    cases h
    exact r_rv hq (z_at.mk 1 rfl rfl) rfl rfl H_1
  · refine r_f1 (pc' := 7) (L' := [(0, .ref 134), (1, .int X1), (2, .int X2)]) hq (z_at.mk 3 rfl rfl) rfl hR_1 c_4 rfl rfl ?_
    refine r_p hq 1 (pc' := 8) (L' := [(0, .ref 134), (1, .int X1), (2, .int X2)]) (st' := [.int X2]) rfl ?_
    rcases z_ite h with ⟨c_8, h⟩ | ⟨c_8, h⟩
    · refine r_t1 (pc' := 17) (L' := []) hq (z_at.mk 3 rfl rfl) rfl hx2 c_8 rfl rfl ?_
      cases h
      exact r_rv hq (z_at.mk 1 rfl rfl) rfl rfl H_1
    · refine r_f1 (pc' := 11) (L' := [(0, .ref 134), (1, .int X1), (2, .int X2)]) hq (z_at.mk 3 rfl rfl) rfl hx2 c_8 rfl rfl ?_
      refine r_p hq 2 (pc' := 14) (L' := [(0, .ref 134), (1, .int X1), (2, .int X2)]) (st' := [.int ((60 : Int32)), .int X2]) rfl ?_
      rcases z_ite h with ⟨c_14, h⟩ | ⟨c_14, h⟩
      · refine r_t2 (pc' := 18) (L' := [(0, .ref 134), (1, .int X1), (2, .int X2)]) hq (z_at.mk 3 rfl rfl) rfl hx2 (rfl : (60 : Int32).toInt = 60) c_14 rfl rfl ?_
        refine r_p hq 1 (pc' := 19) (L' := [(0, .ref 134), (1, .int X1), (2, .int X2)]) (st' := [.ref 134]) rfl ?_
        refine r_gR (b := 142) (pc' := 22) (L' := [(0, .ref 134), (1, .int X1), (2, .int X2)]) H_1 hq (z_at.mk 3 rfl rfl) rfl rfl rfl rfl ?_
        refine r_p hq 2 (pc' := 24) (L' := [(0, .ref 134), (1, .int X1), (2, .int X2)]) (st' := [.int X2, .int X1, .ref 142]) rfl ?_
        obtain ⟨g_24, h⟩ := z_ifo_some h
        refine r_is (pc' := 25) (L' := [(0, .ref 134), (1, .int X1), (2, .int X2)]) H_1 hq (z_at.mk 1 rfl rfl) (show zAr 142 0 6 = true from rfl) hx1 g_24 hx2 rfl rfl ?_
        intro m_24 H_24
        refine r_p hq 2 (pc' := 27) (L' := [(0, .ref 134), (1, .int X1), (2, .int X2), (3, .int ((0 : Int32)))]) (st' := []) rfl ?_
        exact g_li_make_L27_ok zK hx1 hx2 (rfl : (0 : Int32).toInt = 0) H_24 h
      · refine r_f2 (pc' := 17) (L' := []) hq (z_at.mk 3 rfl rfl) rfl hx2 (rfl : (60 : Int32).toInt = 60) c_14 rfl rfl ?_
        cases h
        exact r_rv hq (z_at.mk 1 rfl rfl) rfl rfl H_1
def g_li_hasPlace (x1 : Int) (x2 : Int) (σ : zS) : Option (Int × zS) :=
  (g_li_isList x1 σ).bind fun o_1 =>
  if o_1.1 = 0 then
    some (0, o_1.2)
  else
    if x2 < 0 then
      some (0, o_1.2)
    else
      if 0 ≤ x1 ∧ x1 < 6 then
      let v_17 := o_1.2 142 x1
      if v_17 ≤ x2 then
        some (0, o_1.2)
      else
        if 60 ≤ x2 then
          some (0, o_1.2)
        else
          some (1, o_1.2)
      else none
set_option maxHeartbeats 4000000 in
theorem g_li_hasPlace_ok {xl : Nat} {xs : Nat → Int32} {X1 : Int32} {x1 : Int} (hx1 : X1.toInt = x1) {X2 : Int32} {x2 : Int} (hx2 : X2.toInt = x2) {σ : zS} {p : Nat} {m : zM} {o : Int × zS} (H : zRep xl xs p m σ) (h : g_li_hasPlace x1 x2 σ = some o) : zGo xl xs (fun p' => p = p') 2 61 0 (z_can 61 0 (lv_args 0 [.ref 134, .int X1, .int X2])) [] m (vI o.1) o.2 := by
  have hq : z_mth 61 = some z_r61 := rfl
  unfold g_li_hasPlace at h
  show zGo xl xs (fun p' => p = p') 2 61 0 [(0, .ref 134), (1, .int X1), (2, .int X2)] [] m (vI o.1) o.2
  refine r_p hq 1 (pc' := 1) (L' := [(0, .ref 134), (1, .int X1), (2, .int X2)]) (st' := [.int X1]) rfl ?_
  obtain ⟨o_1, h_1, h⟩ := Option.bind_eq_some_iff.mp h
  refine r_csI (pc' := 4) (L' := [(0, .ref 134), (1, .int X1), (2, .int X2)]) (As := [.int X1]) (rest := []) (j := 58) hq (z_at.mk 3 rfl rfl) (Or.inl ⟨rfl, rfl⟩) rfl rfl (by omega) (g_li_isList_ok hx1 H h_1) rfl rfl ?_
  intro R_1 m_1 p_1 e_1 hR_1 H_1
  subst e_1
  rcases z_ite h with ⟨c_4, h⟩ | ⟨c_4, h⟩
  · refine r_t1 (pc' := 31) (L' := []) hq (z_at.mk 3 rfl rfl) rfl hR_1 c_4 rfl rfl ?_
    refine r_p hq 1 (pc' := 32) (L' := []) (st' := [.int ((0 : Int32))]) rfl ?_
    cases h
    exact r_ri hq (z_at.mk 1 rfl rfl) rfl rfl (rfl : (0 : Int32).toInt = 0) rfl H_1
  · refine r_f1 (pc' := 7) (L' := [(0, .ref 134), (1, .int X1), (2, .int X2)]) hq (z_at.mk 3 rfl rfl) rfl hR_1 c_4 rfl rfl ?_
    refine r_p hq 1 (pc' := 8) (L' := [(0, .ref 134), (1, .int X1), (2, .int X2)]) (st' := [.int X2]) rfl ?_
    rcases z_ite h with ⟨c_8, h⟩ | ⟨c_8, h⟩
    · refine r_t1 (pc' := 31) (L' := []) hq (z_at.mk 3 rfl rfl) rfl hx2 c_8 rfl rfl ?_
      refine r_p hq 1 (pc' := 32) (L' := []) (st' := [.int ((0 : Int32))]) rfl ?_
      cases h
      exact r_ri hq (z_at.mk 1 rfl rfl) rfl rfl (rfl : (0 : Int32).toInt = 0) rfl H_1
    · refine r_f1 (pc' := 11) (L' := [(0, .ref 134), (1, .int X1), (2, .int X2)]) hq (z_at.mk 3 rfl rfl) rfl hx2 c_8 rfl rfl ?_
      refine r_p hq 2 (pc' := 13) (L' := [(0, .ref 134), (1, .int X1), (2, .int X2)]) (st' := [.ref 134, .int X2]) rfl ?_
      refine r_gR (b := 142) (pc' := 16) (L' := [(0, .ref 134), (1, .int X1), (2, .int X2)]) H_1 hq (z_at.mk 3 rfl rfl) rfl rfl rfl rfl ?_
      refine r_p hq 1 (pc' := 17) (L' := [(0, .ref 134), (1, .int X1), (2, .int X2)]) (st' := [.int X1, .ref 142, .int X2]) rfl ?_
      obtain ⟨g_17, h⟩ := z_ifo_some h
      refine r_ia (pc' := 18) (L' := [(0, .ref 134), (1, .int X1), (2, .int X2)]) H_1 hq (z_at.mk 1 rfl rfl) (show zAr 142 0 6 = true from rfl) hx1 g_17 rfl rfl ?_
      intro V_17 hV_17
      rcases z_ite h with ⟨c_18, h⟩ | ⟨c_18, h⟩
      · refine r_t2 (pc' := 31) (L' := []) hq (z_at.mk 3 rfl rfl) rfl hx2 hV_17 c_18 rfl rfl ?_
        refine r_p hq 1 (pc' := 32) (L' := []) (st' := [.int ((0 : Int32))]) rfl ?_
        cases h
        exact r_ri hq (z_at.mk 1 rfl rfl) rfl rfl (rfl : (0 : Int32).toInt = 0) rfl H_1
      · refine r_f2 (pc' := 21) (L' := [(0, .ref 134), (1, .int X1), (2, .int X2)]) hq (z_at.mk 3 rfl rfl) rfl hx2 hV_17 c_18 rfl rfl ?_
        refine r_p hq 2 (pc' := 24) (L' := [(0, .ref 134), (1, .int X1), (2, .int X2)]) (st' := [.int ((60 : Int32)), .int X2]) rfl ?_
        rcases z_ite h with ⟨c_24, h⟩ | ⟨c_24, h⟩
        · refine r_t2 (pc' := 31) (L' := []) hq (z_at.mk 3 rfl rfl) rfl hx2 (rfl : (60 : Int32).toInt = 60) c_24 rfl rfl ?_
          refine r_p hq 1 (pc' := 32) (L' := []) (st' := [.int ((0 : Int32))]) rfl ?_
          cases h
          exact r_ri hq (z_at.mk 1 rfl rfl) rfl rfl (rfl : (0 : Int32).toInt = 0) rfl H_1
        · refine r_f2 (pc' := 27) (L' := [(0, .ref 134), (1, .int X1), (2, .int X2)]) hq (z_at.mk 3 rfl rfl) rfl hx2 (rfl : (60 : Int32).toInt = 60) c_24 rfl rfl ?_
          refine r_p hq 2 (pc' := 32) (L' := []) (st' := [.int ((1 : Int32))]) rfl ?_
          cases h
          exact r_ri hq (z_at.mk 1 rfl rfl) rfl rfl (rfl : (1 : Int32).toInt = 1) rfl H_1
def g_li_hasSpan (x1 : Int) (x2 : Int) (x3 : Int) (σ : zS) : Option (Int × zS) :=
  (g_li_isList x1 σ).bind fun o_1 =>
  if o_1.1 = 0 then
    some (0, o_1.2)
  else
    if x2 < 0 then
      some (0, o_1.2)
    else
      if x3 < 0 then
        some (0, o_1.2)
      else
        if 0 ≤ x1 ∧ x1 < 6 then
        let v_21 := o_1.2 142 x1
        if v_21 < x2 then
          some (0, o_1.2)
        else
          if 0 ≤ x1 ∧ x1 < 6 then
          let v_31 := o_1.2 142 x1
          if w32 (v_31 - x2) < x3 then
            some (0, o_1.2)
          else
            some (1, o_1.2)
          else none
        else none
set_option maxHeartbeats 4000000 in
theorem g_li_hasSpan_ok {xl : Nat} {xs : Nat → Int32} {X1 : Int32} {x1 : Int} (hx1 : X1.toInt = x1) {X2 : Int32} {x2 : Int} (hx2 : X2.toInt = x2) {X3 : Int32} {x3 : Int} (hx3 : X3.toInt = x3) {σ : zS} {p : Nat} {m : zM} {o : Int × zS} (H : zRep xl xs p m σ) (h : g_li_hasSpan x1 x2 x3 σ = some o) : zGo xl xs (fun p' => p = p') 2 62 0 (z_can 62 0 (lv_args 0 [.ref 134, .int X1, .int X2, .int X3])) [] m (vI o.1) o.2 := by
  have hq : z_mth 62 = some z_r62 := rfl
  unfold g_li_hasSpan at h
  show zGo xl xs (fun p' => p = p') 2 62 0 [(0, .ref 134), (1, .int X1), (2, .int X2), (3, .int X3)] [] m (vI o.1) o.2
  refine r_p hq 1 (pc' := 1) (L' := [(0, .ref 134), (1, .int X1), (2, .int X2), (3, .int X3)]) (st' := [.int X1]) rfl ?_
  obtain ⟨o_1, h_1, h⟩ := Option.bind_eq_some_iff.mp h
  refine r_csI (pc' := 4) (L' := [(0, .ref 134), (1, .int X1), (2, .int X2), (3, .int X3)]) (As := [.int X1]) (rest := []) (j := 58) hq (z_at.mk 3 rfl rfl) (Or.inl ⟨rfl, rfl⟩) rfl rfl (by omega) (g_li_isList_ok hx1 H h_1) rfl rfl ?_
  intro R_1 m_1 p_1 e_1 hR_1 H_1
  subst e_1
  rcases z_ite h with ⟨c_4, h⟩ | ⟨c_4, h⟩
  · refine r_t1 (pc' := 41) (L' := []) hq (z_at.mk 3 rfl rfl) rfl hR_1 c_4 rfl rfl ?_
    refine r_p hq 1 (pc' := 42) (L' := []) (st' := [.int ((0 : Int32))]) rfl ?_
    cases h
    exact r_ri hq (z_at.mk 1 rfl rfl) rfl rfl (rfl : (0 : Int32).toInt = 0) rfl H_1
  · refine r_f1 (pc' := 7) (L' := [(0, .ref 134), (1, .int X1), (2, .int X2), (3, .int X3)]) hq (z_at.mk 3 rfl rfl) rfl hR_1 c_4 rfl rfl ?_
    refine r_p hq 1 (pc' := 8) (L' := [(0, .ref 134), (1, .int X1), (2, .int X2), (3, .int X3)]) (st' := [.int X2]) rfl ?_
    rcases z_ite h with ⟨c_8, h⟩ | ⟨c_8, h⟩
    · refine r_t1 (pc' := 41) (L' := []) hq (z_at.mk 3 rfl rfl) rfl hx2 c_8 rfl rfl ?_
      refine r_p hq 1 (pc' := 42) (L' := []) (st' := [.int ((0 : Int32))]) rfl ?_
      cases h
      exact r_ri hq (z_at.mk 1 rfl rfl) rfl rfl (rfl : (0 : Int32).toInt = 0) rfl H_1
    · refine r_f1 (pc' := 11) (L' := [(0, .ref 134), (1, .int X1), (2, .int X2), (3, .int X3)]) hq (z_at.mk 3 rfl rfl) rfl hx2 c_8 rfl rfl ?_
      refine r_p hq 1 (pc' := 12) (L' := [(0, .ref 134), (1, .int X1), (2, .int X2), (3, .int X3)]) (st' := [.int X3]) rfl ?_
      rcases z_ite h with ⟨c_12, h⟩ | ⟨c_12, h⟩
      · refine r_t1 (pc' := 41) (L' := []) hq (z_at.mk 3 rfl rfl) rfl hx3 c_12 rfl rfl ?_
        refine r_p hq 1 (pc' := 42) (L' := []) (st' := [.int ((0 : Int32))]) rfl ?_
        cases h
        exact r_ri hq (z_at.mk 1 rfl rfl) rfl rfl (rfl : (0 : Int32).toInt = 0) rfl H_1
      · refine r_f1 (pc' := 15) (L' := [(0, .ref 134), (1, .int X1), (2, .int X2), (3, .int X3)]) hq (z_at.mk 3 rfl rfl) rfl hx3 c_12 rfl rfl ?_
        refine r_p hq 2 (pc' := 17) (L' := [(0, .ref 134), (1, .int X1), (2, .int X2), (3, .int X3)]) (st' := [.ref 134, .int X2]) rfl ?_
        refine r_gR (b := 142) (pc' := 20) (L' := [(0, .ref 134), (1, .int X1), (2, .int X2), (3, .int X3)]) H_1 hq (z_at.mk 3 rfl rfl) rfl rfl rfl rfl ?_
        refine r_p hq 1 (pc' := 21) (L' := [(0, .ref 134), (1, .int X1), (2, .int X2), (3, .int X3)]) (st' := [.int X1, .ref 142, .int X2]) rfl ?_
        obtain ⟨g_21, h⟩ := z_ifo_some h
        refine r_ia (pc' := 22) (L' := [(0, .ref 134), (1, .int X1), (2, .int X2), (3, .int X3)]) H_1 hq (z_at.mk 1 rfl rfl) (show zAr 142 0 6 = true from rfl) hx1 g_21 rfl rfl ?_
        intro V_21 hV_21
        rcases z_ite h with ⟨c_22, h⟩ | ⟨c_22, h⟩
        · refine r_t2 (pc' := 41) (L' := []) hq (z_at.mk 3 rfl rfl) rfl hx2 hV_21 c_22 rfl rfl ?_
          refine r_p hq 1 (pc' := 42) (L' := []) (st' := [.int ((0 : Int32))]) rfl ?_
          cases h
          exact r_ri hq (z_at.mk 1 rfl rfl) rfl rfl (rfl : (0 : Int32).toInt = 0) rfl H_1
        · refine r_f2 (pc' := 25) (L' := [(0, .ref 134), (1, .int X1), (2, .int X2), (3, .int X3)]) hq (z_at.mk 3 rfl rfl) rfl hx2 hV_21 c_22 rfl rfl ?_
          refine r_p hq 2 (pc' := 27) (L' := [(0, .ref 134), (1, .int X1), (2, .int X2), (3, .int X3)]) (st' := [.ref 134, .int X3]) rfl ?_
          refine r_gR (b := 142) (pc' := 30) (L' := [(0, .ref 134), (1, .int X1), (2, .int X2), (3, .int X3)]) H_1 hq (z_at.mk 3 rfl rfl) rfl rfl rfl rfl ?_
          refine r_p hq 1 (pc' := 31) (L' := [(0, .ref 134), (1, .int X1), (2, .int X2), (3, .int X3)]) (st' := [.int X1, .ref 142, .int X3]) rfl ?_
          obtain ⟨g_31, h⟩ := z_ifo_some h
          refine r_ia (pc' := 32) (L' := [(0, .ref 134), (1, .int X1), (2, .int X2), (3, .int X3)]) H_1 hq (z_at.mk 1 rfl rfl) (show zAr 142 0 6 = true from rfl) hx1 g_31 rfl rfl ?_
          intro V_31 hV_31
          refine r_p hq 2 (pc' := 34) (L' := [(0, .ref 134), (1, .int X1), (2, .int X2), (3, .int X3)]) (st' := [.int (V_31 - X2), .int X3]) rfl ?_
          rcases z_ite h with ⟨c_34, h⟩ | ⟨c_34, h⟩
          · refine r_t2 (pc' := 41) (L' := []) hq (z_at.mk 3 rfl rfl) rfl hx3 (tx_isub hV_31 hx2) c_34 rfl rfl ?_
            refine r_p hq 1 (pc' := 42) (L' := []) (st' := [.int ((0 : Int32))]) rfl ?_
            cases h
            exact r_ri hq (z_at.mk 1 rfl rfl) rfl rfl (rfl : (0 : Int32).toInt = 0) rfl H_1
          · refine r_f2 (pc' := 37) (L' := [(0, .ref 134), (1, .int X1), (2, .int X2), (3, .int X3)]) hq (z_at.mk 3 rfl rfl) rfl hx3 (tx_isub hV_31 hx2) c_34 rfl rfl ?_
            refine r_p hq 2 (pc' := 42) (L' := []) (st' := [.int ((1 : Int32))]) rfl ?_
            cases h
            exact r_ri hq (z_at.mk 1 rfl rfl) rfl rfl (rfl : (1 : Int32).toInt = 1) rfl H_1
def g_li_layFrom_L62 (σ : zS) : Option (Int × zS) :=
  let v_63 := σ 60 2
  some (v_63, σ)
set_option maxHeartbeats 4000000 in
theorem g_li_layFrom_L62_ok {xl : Nat} {xs : Nat → Int32} {σ : zS} {p : Nat} {m : zM} {o : Int × zS} (H : zRep xl xs p m σ) (h : g_li_layFrom_L62 σ = some o) : zGo xl xs (fun p' => p = p') 3 63 62 [(3, .ref 60)] [] m (vI o.1) o.2 := by
  have hq : z_mth 63 = some z_r63 := rfl
  unfold g_li_layFrom_L62 at h
  refine r_p hq 1 (pc' := 63) (L' := [(3, .ref 60)]) (st' := [.ref 60]) rfl ?_
  refine r_gI (pc' := 66) (L' := [(3, .ref 60)]) H hq (z_at.mk 3 rfl rfl) rfl rfl rfl rfl ?_
  intro V_63 hV_63
  cases h
  exact r_ri hq (z_at.mk 1 rfl rfl) rfl rfl hV_63 rfl H
def g_li_layFrom_L3 : Nat → Int → Int → Int → zS → Option (Int × zS)
  | 0, _, _, _, _ => none
  | n + 1, x1, x2, x4, σ =>
    let v_6 := σ 60 2
    if v_6 ≤ x4 then
      g_li_layFrom_L62 σ
    else
      if 60 ≤ x4 then
        g_li_layFrom_L62 σ
      else
        if x2 < 0 then
          some (-13, σ)
        else
          (g_li_hasPlace x1 (w32 (x2 + x4)) σ).bind fun o_29 =>
          if o_29.1 ≠ 0 then
            if 0 ≤ x1 ∧ x1 < 6 then
            let A_43 := 136 + (x1).toNat
            if 0 ≤ x4 ∧ x4 < 60 then
            let v_54 := o_29.2 62 x4
            if 0 ≤ w32 (x2 + x4) ∧ w32 (x2 + x4) < 60 then
            let s_55 := zu o_29.2 A_43 (w32 (x2 + x4)) v_54
            (g_li_layFrom_L3 n) x1 x2 (w32 (x4 + 1)) s_55
            else none
            else none
            else none
          else
            some (-13, o_29.2)
set_option maxHeartbeats 4000000 in
theorem g_li_layFrom_L3_ok {xl : Nat} {xs : Nat → Int32} : ∀ (n : Nat) {X1 : Int32} {x1 : Int} {X2 : Int32} {x2 : Int} {X4 : Int32} {x4 : Int} {σ : zS} {p : Nat} {m : zM} {o : Int × zS}, X1.toInt = x1 → X2.toInt = x2 → X4.toInt = x4 → zRep xl xs p m σ → g_li_layFrom_L3 n x1 x2 x4 σ = some o → zGo xl xs (fun p' => p = p') 3 63 3 [(0, .ref 134), (1, .int X1), (2, .int X2), (3, .ref 60), (4, .int X4)] [] m (vI o.1) o.2
  | 0, _, _, _, _, _, _, _, _, _, _, _, _, _, _, h => by cases h
  | n + 1, X1, x1, X2, x2, X4, x4, σ, p, m, o, hx1, hx2, hx4, H, h => by
    have hq : z_mth 63 = some z_r63 := rfl
    have ih := fun {X1 : Int32} {x1 : Int} {X2 : Int32} {x2 : Int} {X4 : Int32} {x4 : Int} {σ : zS} {p : Nat} {m : zM} {o : Int × zS} => g_li_layFrom_L3_ok (xl := xl) (xs := xs) n (X1 := X1) (x1 := x1) (X2 := X2) (x2 := x2) (X4 := X4) (x4 := x4) (σ := σ) (p := p) (m := m) (o := o)
    unfold g_li_layFrom_L3 at h
    refine r_p hq 2 (pc' := 6) (L' := [(0, .ref 134), (1, .int X1), (2, .int X2), (3, .ref 60), (4, .int X4)]) (st' := [.ref 60, .int X4]) rfl ?_
    refine r_gI (pc' := 9) (L' := [(0, .ref 134), (1, .int X1), (2, .int X2), (3, .ref 60), (4, .int X4)]) H hq (z_at.mk 3 rfl rfl) rfl rfl rfl rfl ?_
    intro V_6 hV_6
    rcases z_ite h with ⟨c_9, h⟩ | ⟨c_9, h⟩
    · refine r_t2 (pc' := 62) (L' := [(3, .ref 60)]) hq (z_at.mk 3 rfl rfl) rfl hx4 hV_6 c_9 rfl rfl ?_
      exact g_li_layFrom_L62_ok  H h
    · refine r_f2 (pc' := 12) (L' := [(0, .ref 134), (1, .int X1), (2, .int X2), (3, .ref 60), (4, .int X4)]) hq (z_at.mk 3 rfl rfl) rfl hx4 hV_6 c_9 rfl rfl ?_
      refine r_p hq 2 (pc' := 16) (L' := [(0, .ref 134), (1, .int X1), (2, .int X2), (3, .ref 60), (4, .int X4)]) (st' := [.int ((60 : Int32)), .int X4]) rfl ?_
      rcases z_ite h with ⟨c_16, h⟩ | ⟨c_16, h⟩
      · refine r_t2 (pc' := 62) (L' := [(3, .ref 60)]) hq (z_at.mk 3 rfl rfl) rfl hx4 (rfl : (60 : Int32).toInt = 60) c_16 rfl rfl ?_
        exact g_li_layFrom_L62_ok  H h
      · refine r_f2 (pc' := 19) (L' := [(0, .ref 134), (1, .int X1), (2, .int X2), (3, .ref 60), (4, .int X4)]) hq (z_at.mk 3 rfl rfl) rfl hx4 (rfl : (60 : Int32).toInt = 60) c_16 rfl rfl ?_
        refine r_p hq 1 (pc' := 20) (L' := [(0, .ref 134), (1, .int X1), (2, .int X2), (3, .ref 60), (4, .int X4)]) (st' := [.int X2]) rfl ?_
        rcases z_ite h with ⟨c_20, h⟩ | ⟨c_20, h⟩
        · refine r_t1 (pc' := 35) (L' := []) hq (z_at.mk 3 rfl rfl) rfl hx2 c_20 rfl rfl ?_
          refine r_p hq 1 (pc' := 37) (L' := []) (st' := [.int ((-13 : Int32))]) rfl ?_
          cases h
          exact r_ri hq (z_at.mk 1 rfl rfl) rfl rfl (rfl : (-13 : Int32).toInt = -13) rfl H
        · refine r_f1 (pc' := 23) (L' := [(0, .ref 134), (1, .int X1), (2, .int X2), (3, .ref 60), (4, .int X4)]) hq (z_at.mk 3 rfl rfl) rfl hx2 c_20 rfl rfl ?_
          refine r_p hq 5 (pc' := 29) (L' := [(0, .ref 134), (1, .int X1), (2, .int X2), (3, .ref 60), (4, .int X4)]) (st' := [.int (X2 + X4), .int X1, .ref 134]) rfl ?_
          obtain ⟨o_29, h_29, h⟩ := Option.bind_eq_some_iff.mp h
          refine r_cvI (pc' := 32) (L' := [(0, .ref 134), (1, .int X1), (2, .int X2), (3, .ref 60), (4, .int X4)]) (Ps := [.int X1, .int (X2 + X4)]) (rest := []) hq (z_at.mk 3 rfl rfl) (Or.inl ⟨rfl, rfl⟩) rfl rfl (by decide) (by decide) rfl (Nat.not_lt.mpr (Nat.le_of_ble_eq_true rfl)) rfl rfl (z_cat_le 0 rfl (by decide)) (z_lgl_le 3 rfl (by decide)) (by decide) (H.tg rfl) (by omega) (g_li_hasPlace_ok hx1 (tx_iadd hx2 hx4) H h_29) rfl rfl ?_
          intro R_29 m_29 p_29 e_29 hR_29 H_29
          subst e_29
          rcases z_ite h with ⟨c_32, h⟩ | ⟨c_32, h⟩
          · refine r_t1 (pc' := 38) (L' := [(0, .ref 134), (1, .int X1), (2, .int X2), (3, .ref 60), (4, .int X4)]) hq (z_at.mk 3 rfl rfl) rfl hR_29 c_32 rfl rfl ?_
            refine r_p hq 1 (pc' := 39) (L' := [(0, .ref 134), (1, .int X1), (2, .int X2), (3, .ref 60), (4, .int X4)]) (st' := [.ref 134]) rfl ?_
            refine r_gR (b := 135) (pc' := 42) (L' := [(0, .ref 134), (1, .int X1), (2, .int X2), (3, .ref 60), (4, .int X4)]) H_29 hq (z_at.mk 3 rfl rfl) rfl rfl rfl rfl ?_
            refine r_p hq 1 (pc' := 43) (L' := [(0, .ref 134), (1, .int X1), (2, .int X2), (3, .ref 60), (4, .int X4)]) (st' := [.int X1, .ref 135]) rfl ?_
            obtain ⟨g_43, h⟩ := z_ifo_some h
            refine r_aa (pc' := 44) (L' := [(0, .ref 134), (1, .int X1), (2, .int X2), (3, .ref 60), (4, .int X4)]) H_29 hq (z_at.mk 1 rfl rfl) hx1 g_43 rfl rfl ?_
            intro A_43 hE_43 hA_43
            rw [← hE_43] at h
            refine r_p hq 4 (pc' := 49) (L' := [(0, .ref 134), (1, .int X1), (2, .int X2), (3, .ref 60), (4, .int X4)]) (st' := [.ref 60, .int (X2 + X4), .ref A_43]) rfl ?_
            refine r_gR (b := 62) (pc' := 52) (L' := [(0, .ref 134), (1, .int X1), (2, .int X2), (3, .ref 60), (4, .int X4)]) H_29 hq (z_at.mk 3 rfl rfl) rfl rfl rfl rfl ?_
            refine r_p hq 1 (pc' := 54) (L' := [(0, .ref 134), (1, .int X1), (2, .int X2), (3, .ref 60), (4, .int X4)]) (st' := [.int X4, .ref 62, .int (X2 + X4), .ref A_43]) rfl ?_
            obtain ⟨g_54, h⟩ := z_ifo_some h
            refine r_la (pc' := 55) (L' := [(0, .ref 134), (1, .int X1), (2, .int X2), (3, .ref 60), (4, .int X4)]) H_29 hq (z_at.mk 1 rfl rfl) (show zAr 62 1 60 = true from rfl) hx4 g_54 rfl rfl ?_
            intro V_54 hV_54
            obtain ⟨g_55, h⟩ := z_ifo_some h
            refine r_ls (pc' := 56) (L' := [(0, .ref 134), (1, .int X1), (2, .int X2), (3, .ref 60), (4, .int X4)]) H_29 hq (z_at.mk 1 rfl rfl) (zIn_all (l := [136, 137, 138, 139, 140, 141]) (p := fun a => zAr a 1 60) rfl hA_43) (tx_iadd hx2 hx4) g_55 hV_54 rfl rfl ?_
            intro m_55 H_55
            refine r_p hq 2 (pc' := 3) (L' := [(0, .ref 134), (1, .int X1), (2, .int X2), (3, .ref 60), (4, .int (X4 + (1 : Int32)))]) (st' := []) rfl ?_
            exact ih hx1 hx2 (tx_iadd hx4 (rfl : (1 : Int32).toInt = 1)) H_55 h
          · refine r_f1 (pc' := 35) (L' := []) hq (z_at.mk 3 rfl rfl) rfl hR_29 c_32 rfl rfl ?_
            refine r_p hq 1 (pc' := 37) (L' := []) (st' := [.int ((-13 : Int32))]) rfl ?_
            cases h
            exact r_ri hq (z_at.mk 1 rfl rfl) rfl rfl (rfl : (-13 : Int32).toInt = -13) rfl H_29
def g_li_layFrom (x1 : Int) (x2 : Int) (σ : zS) : Option (Int × zS) :=
  g_li_layFrom_L3 zK x1 x2 0 σ
set_option maxHeartbeats 4000000 in
theorem g_li_layFrom_ok {xl : Nat} {xs : Nat → Int32} {X1 : Int32} {x1 : Int} (hx1 : X1.toInt = x1) {X2 : Int32} {x2 : Int} (hx2 : X2.toInt = x2) {σ : zS} {p : Nat} {m : zM} {o : Int × zS} (H : zRep xl xs p m σ) (h : g_li_layFrom x1 x2 σ = some o) : zGo xl xs (fun p' => p = p') 3 63 0 (z_can 63 0 (lv_args 0 [.ref 134, .int X1, .int X2, .ref 60])) [] m (vI o.1) o.2 := by
  have hq : z_mth 63 = some z_r63 := rfl
  unfold g_li_layFrom at h
  show zGo xl xs (fun p' => p = p') 3 63 0 [(0, .ref 134), (1, .int X1), (2, .int X2), (3, .ref 60)] [] m (vI o.1) o.2
  refine r_p hq 2 (pc' := 3) (L' := [(0, .ref 134), (1, .int X1), (2, .int X2), (3, .ref 60), (4, .int ((0 : Int32)))]) (st' := []) rfl ?_
  exact g_li_layFrom_L3_ok zK hx1 hx2 (rfl : (0 : Int32).toInt = 0) H h
def g_li_judgeFrom_L10 : Nat → Int → Int → Int → zS → Option (Int × zS)
  | 0, _, _, _, _ => none
  | n + 1, x1, x2, x4, σ =>
    let v_13 := σ 60 2
    if v_13 ≤ x4 then
      some (-5, σ)
    else
      if 60 ≤ x4 then
        some (-5, σ)
      else
        (g_li_hasPlace x1 (w32 (x2 + x4)) σ).bind fun o_32 =>
        if o_32.1 ≠ 0 then
          if 0 ≤ x1 ∧ x1 < 6 then
          let A_49 := 136 + (x1).toNat
          if 0 ≤ w32 (x2 + x4) ∧ w32 (x2 + x4) < 60 then
          let v_54 := o_32.2 A_49 (w32 (x2 + x4))
          if 0 ≤ x4 ∧ x4 < 60 then
          let v_61 := o_32.2 62 x4
          if lCmp v_54 v_61 = 0 then
            (g_li_judgeFrom_L10 n) x1 x2 (w32 (x4 + 1)) o_32.2
          else
            some (x4, o_32.2)
          else none
          else none
          else none
        else
          some (w32 (100 + x4), o_32.2)
set_option maxHeartbeats 4000000 in
theorem g_li_judgeFrom_L10_ok {xl : Nat} {xs : Nat → Int32} : ∀ (n : Nat) {X1 : Int32} {x1 : Int} {X2 : Int32} {x2 : Int} {X4 : Int32} {x4 : Int} {σ : zS} {p : Nat} {m : zM} {o : Int × zS}, X1.toInt = x1 → X2.toInt = x2 → X4.toInt = x4 → zRep xl xs p m σ → g_li_judgeFrom_L10 n x1 x2 x4 σ = some o → zGo xl xs (fun p' => p = p') 3 64 10 [(0, .ref 134), (1, .int X1), (2, .int X2), (3, .ref 60), (4, .int X4)] [] m (vI o.1) o.2
  | 0, _, _, _, _, _, _, _, _, _, _, _, _, _, _, h => by cases h
  | n + 1, X1, x1, X2, x2, X4, x4, σ, p, m, o, hx1, hx2, hx4, H, h => by
    have hq : z_mth 64 = some z_r64 := rfl
    have ih := fun {X1 : Int32} {x1 : Int} {X2 : Int32} {x2 : Int} {X4 : Int32} {x4 : Int} {σ : zS} {p : Nat} {m : zM} {o : Int × zS} => g_li_judgeFrom_L10_ok (xl := xl) (xs := xs) n (X1 := X1) (x1 := x1) (X2 := X2) (x2 := x2) (X4 := X4) (x4 := x4) (σ := σ) (p := p) (m := m) (o := o)
    unfold g_li_judgeFrom_L10 at h
    refine r_p hq 2 (pc' := 13) (L' := [(0, .ref 134), (1, .int X1), (2, .int X2), (3, .ref 60), (4, .int X4)]) (st' := [.ref 60, .int X4]) rfl ?_
    refine r_gI (pc' := 16) (L' := [(0, .ref 134), (1, .int X1), (2, .int X2), (3, .ref 60), (4, .int X4)]) H hq (z_at.mk 3 rfl rfl) rfl rfl rfl rfl ?_
    intro V_13 hV_13
    rcases z_ite h with ⟨c_16, h⟩ | ⟨c_16, h⟩
    · refine r_t2 (pc' := 75) (L' := []) hq (z_at.mk 3 rfl rfl) rfl hx4 hV_13 c_16 rfl rfl ?_
      refine r_p hq 1 (pc' := 77) (L' := []) (st' := [.int ((-5 : Int32))]) rfl ?_
      cases h
      exact r_ri hq (z_at.mk 1 rfl rfl) rfl rfl (rfl : (-5 : Int32).toInt = -5) rfl H
    · refine r_f2 (pc' := 19) (L' := [(0, .ref 134), (1, .int X1), (2, .int X2), (3, .ref 60), (4, .int X4)]) hq (z_at.mk 3 rfl rfl) rfl hx4 hV_13 c_16 rfl rfl ?_
      refine r_p hq 2 (pc' := 23) (L' := [(0, .ref 134), (1, .int X1), (2, .int X2), (3, .ref 60), (4, .int X4)]) (st' := [.int ((60 : Int32)), .int X4]) rfl ?_
      rcases z_ite h with ⟨c_23, h⟩ | ⟨c_23, h⟩
      · refine r_t2 (pc' := 75) (L' := []) hq (z_at.mk 3 rfl rfl) rfl hx4 (rfl : (60 : Int32).toInt = 60) c_23 rfl rfl ?_
        refine r_p hq 1 (pc' := 77) (L' := []) (st' := [.int ((-5 : Int32))]) rfl ?_
        cases h
        exact r_ri hq (z_at.mk 1 rfl rfl) rfl rfl (rfl : (-5 : Int32).toInt = -5) rfl H
      · refine r_f2 (pc' := 26) (L' := [(0, .ref 134), (1, .int X1), (2, .int X2), (3, .ref 60), (4, .int X4)]) hq (z_at.mk 3 rfl rfl) rfl hx4 (rfl : (60 : Int32).toInt = 60) c_23 rfl rfl ?_
        refine r_p hq 5 (pc' := 32) (L' := [(0, .ref 134), (1, .int X1), (2, .int X2), (3, .ref 60), (4, .int X4)]) (st' := [.int (X2 + X4), .int X1, .ref 134]) rfl ?_
        obtain ⟨o_32, h_32, h⟩ := Option.bind_eq_some_iff.mp h
        refine r_cvI (pc' := 35) (L' := [(0, .ref 134), (1, .int X1), (2, .int X2), (3, .ref 60), (4, .int X4)]) (Ps := [.int X1, .int (X2 + X4)]) (rest := []) hq (z_at.mk 3 rfl rfl) (Or.inl ⟨rfl, rfl⟩) rfl rfl (by decide) (by decide) rfl (Nat.not_lt.mpr (Nat.le_of_ble_eq_true rfl)) rfl rfl (z_cat_le 0 rfl (by decide)) (z_lgl_le 3 rfl (by decide)) (by decide) (H.tg rfl) (by omega) (g_li_hasPlace_ok hx1 (tx_iadd hx2 hx4) H h_32) rfl rfl ?_
        intro R_32 m_32 p_32 e_32 hR_32 H_32
        subst e_32
        rcases z_ite h with ⟨c_35, h⟩ | ⟨c_35, h⟩
        · refine r_t1 (pc' := 44) (L' := [(0, .ref 134), (1, .int X1), (2, .int X2), (3, .ref 60), (4, .int X4)]) hq (z_at.mk 3 rfl rfl) rfl hR_32 c_35 rfl rfl ?_
          refine r_p hq 1 (pc' := 45) (L' := [(0, .ref 134), (1, .int X1), (2, .int X2), (3, .ref 60), (4, .int X4)]) (st' := [.ref 134]) rfl ?_
          refine r_gR (b := 135) (pc' := 48) (L' := [(0, .ref 134), (1, .int X1), (2, .int X2), (3, .ref 60), (4, .int X4)]) H_32 hq (z_at.mk 3 rfl rfl) rfl rfl rfl rfl ?_
          refine r_p hq 1 (pc' := 49) (L' := [(0, .ref 134), (1, .int X1), (2, .int X2), (3, .ref 60), (4, .int X4)]) (st' := [.int X1, .ref 135]) rfl ?_
          obtain ⟨g_49, h⟩ := z_ifo_some h
          refine r_aa (pc' := 50) (L' := [(0, .ref 134), (1, .int X1), (2, .int X2), (3, .ref 60), (4, .int X4)]) H_32 hq (z_at.mk 1 rfl rfl) hx1 g_49 rfl rfl ?_
          intro A_49 hE_49 hA_49
          rw [← hE_49] at h
          refine r_p hq 3 (pc' := 54) (L' := [(0, .ref 134), (1, .int X1), (2, .int X2), (3, .ref 60), (4, .int X4)]) (st' := [.int (X2 + X4), .ref A_49]) rfl ?_
          obtain ⟨g_54, h⟩ := z_ifo_some h
          refine r_la (pc' := 55) (L' := [(0, .ref 134), (1, .int X1), (2, .int X2), (3, .ref 60), (4, .int X4)]) H_32 hq (z_at.mk 1 rfl rfl) (zIn_all (l := [136, 137, 138, 139, 140, 141]) (p := fun a => zAr a 1 60) rfl hA_49) (tx_iadd hx2 hx4) g_54 rfl rfl ?_
          intro V_54 hV_54
          refine r_p hq 1 (pc' := 56) (L' := [(0, .ref 134), (1, .int X1), (2, .int X2), (3, .ref 60), (4, .int X4)]) (st' := [.ref 60, .long V_54]) rfl ?_
          refine r_gR (b := 62) (pc' := 59) (L' := [(0, .ref 134), (1, .int X1), (2, .int X2), (3, .ref 60), (4, .int X4)]) H_32 hq (z_at.mk 3 rfl rfl) rfl rfl rfl rfl ?_
          refine r_p hq 1 (pc' := 61) (L' := [(0, .ref 134), (1, .int X1), (2, .int X2), (3, .ref 60), (4, .int X4)]) (st' := [.int X4, .ref 62, .long V_54]) rfl ?_
          obtain ⟨g_61, h⟩ := z_ifo_some h
          refine r_la (pc' := 62) (L' := [(0, .ref 134), (1, .int X1), (2, .int X2), (3, .ref 60), (4, .int X4)]) H_32 hq (z_at.mk 1 rfl rfl) (show zAr 62 1 60 = true from rfl) hx4 g_61 rfl rfl ?_
          intro V_61 hV_61
          refine r_p hq 1 (pc' := 63) (L' := [(0, .ref 134), (1, .int X1), (2, .int X2), (3, .ref 60), (4, .int X4)]) (st' := [.int (lg_cmp V_54 V_61)]) rfl ?_
          rcases z_ite h with ⟨c_63, h⟩ | ⟨c_63, h⟩
          · refine r_t1 (pc' := 69) (L' := [(0, .ref 134), (1, .int X1), (2, .int X2), (3, .ref 60), (4, .int X4)]) hq (z_at.mk 3 rfl rfl) rfl (tx_lcmp hV_54 hV_61) c_63 rfl rfl ?_
            refine r_p hq 2 (pc' := 10) (L' := [(0, .ref 134), (1, .int X1), (2, .int X2), (3, .ref 60), (4, .int (X4 + (1 : Int32)))]) (st' := []) rfl ?_
            exact ih hx1 hx2 (tx_iadd hx4 (rfl : (1 : Int32).toInt = 1)) H_32 h
          · refine r_f1 (pc' := 66) (L' := [(0, .ref 134), (1, .int X1), (2, .int X2), (3, .ref 60), (4, .int X4)]) hq (z_at.mk 3 rfl rfl) rfl (tx_lcmp hV_54 hV_61) c_63 rfl rfl ?_
            refine r_p hq 1 (pc' := 68) (L' := [(0, .ref 134), (1, .int X1), (2, .int X2), (3, .ref 60), (4, .int X4)]) (st' := [.int X4]) rfl ?_
            cases h
            exact r_ri hq (z_at.mk 1 rfl rfl) rfl rfl hx4 rfl H_32
        · refine r_f1 (pc' := 38) (L' := [(0, .ref 134), (1, .int X1), (2, .int X2), (3, .ref 60), (4, .int X4)]) hq (z_at.mk 3 rfl rfl) rfl hR_32 c_35 rfl rfl ?_
          refine r_p hq 3 (pc' := 43) (L' := [(0, .ref 134), (1, .int X1), (2, .int X2), (3, .ref 60), (4, .int X4)]) (st' := [.int (((100 : Int32)) + X4)]) rfl ?_
          cases h
          exact r_ri hq (z_at.mk 1 rfl rfl) rfl rfl (tx_iadd (rfl : (100 : Int32).toInt = 100) hx4) rfl H_32
def g_li_judgeFrom (x1 : Int) (x2 : Int) (σ : zS) : Option (Int × zS) :=
  if 0 ≤ x2 then
    g_li_judgeFrom_L10 zK x1 x2 0 σ
  else
    some (100, σ)
set_option maxHeartbeats 4000000 in
theorem g_li_judgeFrom_ok {xl : Nat} {xs : Nat → Int32} {X1 : Int32} {x1 : Int} (hx1 : X1.toInt = x1) {X2 : Int32} {x2 : Int} (hx2 : X2.toInt = x2) {σ : zS} {p : Nat} {m : zM} {o : Int × zS} (H : zRep xl xs p m σ) (h : g_li_judgeFrom x1 x2 σ = some o) : zGo xl xs (fun p' => p = p') 3 64 0 (z_can 64 0 (lv_args 0 [.ref 134, .int X1, .int X2, .ref 60])) [] m (vI o.1) o.2 := by
  have hq : z_mth 64 = some z_r64 := rfl
  unfold g_li_judgeFrom at h
  show zGo xl xs (fun p' => p = p') 3 64 0 [(0, .ref 134), (1, .int X1), (2, .int X2), (3, .ref 60)] [] m (vI o.1) o.2
  refine r_p hq 1 (pc' := 1) (L' := [(0, .ref 134), (1, .int X1), (2, .int X2), (3, .ref 60)]) (st' := [.int X2]) rfl ?_
  rcases z_ite h with ⟨c_1, h⟩ | ⟨c_1, h⟩
  · refine r_t1 (pc' := 7) (L' := [(0, .ref 134), (1, .int X1), (2, .int X2), (3, .ref 60)]) hq (z_at.mk 3 rfl rfl) rfl hx2 c_1 rfl rfl ?_
    refine r_p hq 2 (pc' := 10) (L' := [(0, .ref 134), (1, .int X1), (2, .int X2), (3, .ref 60), (4, .int ((0 : Int32)))]) (st' := []) rfl ?_
    exact g_li_judgeFrom_L10_ok zK hx1 hx2 (rfl : (0 : Int32).toInt = 0) H h
  · refine r_f1 (pc' := 4) (L' := [(0, .ref 134), (1, .int X1), (2, .int X2), (3, .ref 60)]) hq (z_at.mk 3 rfl rfl) rfl hx2 c_1 rfl rfl ?_
    refine r_p hq 1 (pc' := 6) (L' := [(0, .ref 134), (1, .int X1), (2, .int X2), (3, .ref 60)]) (st' := [.int ((100 : Int32))]) rfl ?_
    cases h
    exact r_ri hq (z_at.mk 1 rfl rfl) rfl rfl (rfl : (100 : Int32).toInt = 100) rfl H
def g_ta_here (σ : zS) : Option (Int × zS) :=
  let v_1 := σ 120 3
  if v_1 ≠ -1 then
    some (0, σ)
  else
    let v_9 := σ 120 2
    if v_9 < 0 then
      some (0, σ)
    else
      let v_16 := σ 120 2
      let v_20 := σ 120 1
      if v_20 ≤ v_16 then
        some (0, σ)
      else
        let v_27 := σ 120 2
        if 160 ≤ v_27 then
          some (0, σ)
        else
          let v_41 := σ 120 2
          if 0 ≤ v_41 ∧ v_41 < 160 then
          let v_44 := σ 121 v_41
          some (v_44, σ)
          else none
set_option maxHeartbeats 4000000 in
theorem g_ta_here_ok {xl : Nat} {xs : Nat → Int32} {σ : zS} {p : Nat} {m : zM} {o : Int × zS} (H : zRep xl xs p m σ) (h : g_ta_here σ = some o) : zGo xl xs (fun p' => p = p') 1 96 0 (z_can 96 0 (lv_args 0 [.ref 120])) [] m (vI o.1) o.2 := by
  have hq : z_mth 96 = some z_r96 := rfl
  unfold g_ta_here at h
  show zGo xl xs (fun p' => p = p') 1 96 0 [(0, .ref 120)] [] m (vI o.1) o.2
  refine r_p hq 1 (pc' := 1) (L' := [(0, .ref 120)]) (st' := [.ref 120]) rfl ?_
  refine r_gI (pc' := 4) (L' := [(0, .ref 120)]) H hq (z_at.mk 3 rfl rfl) rfl rfl rfl rfl ?_
  intro V_1 hV_1
  refine r_p hq 1 (pc' := 5) (L' := [(0, .ref 120)]) (st' := [.int ((-1 : Int32)), .int V_1]) rfl ?_
  rcases z_ite h with ⟨c_5, h⟩ | ⟨c_5, h⟩
  · refine r_t2 (pc' := 48) (L' := []) hq (z_at.mk 3 rfl rfl) rfl hV_1 (rfl : (-1 : Int32).toInt = -1) c_5 rfl rfl ?_
    refine r_p hq 1 (pc' := 49) (L' := []) (st' := [.int ((0 : Int32))]) rfl ?_
    cases h
    exact r_ri hq (z_at.mk 1 rfl rfl) rfl rfl (rfl : (0 : Int32).toInt = 0) rfl H
  · refine r_f2 (pc' := 8) (L' := [(0, .ref 120)]) hq (z_at.mk 3 rfl rfl) rfl hV_1 (rfl : (-1 : Int32).toInt = -1) c_5 rfl rfl ?_
    refine r_p hq 1 (pc' := 9) (L' := [(0, .ref 120)]) (st' := [.ref 120]) rfl ?_
    refine r_gI (pc' := 12) (L' := [(0, .ref 120)]) H hq (z_at.mk 3 rfl rfl) rfl rfl rfl rfl ?_
    intro V_9 hV_9
    rcases z_ite h with ⟨c_12, h⟩ | ⟨c_12, h⟩
    · refine r_t1 (pc' := 48) (L' := []) hq (z_at.mk 3 rfl rfl) rfl hV_9 c_12 rfl rfl ?_
      refine r_p hq 1 (pc' := 49) (L' := []) (st' := [.int ((0 : Int32))]) rfl ?_
      cases h
      exact r_ri hq (z_at.mk 1 rfl rfl) rfl rfl (rfl : (0 : Int32).toInt = 0) rfl H
    · refine r_f1 (pc' := 15) (L' := [(0, .ref 120)]) hq (z_at.mk 3 rfl rfl) rfl hV_9 c_12 rfl rfl ?_
      refine r_p hq 1 (pc' := 16) (L' := [(0, .ref 120)]) (st' := [.ref 120]) rfl ?_
      refine r_gI (pc' := 19) (L' := [(0, .ref 120)]) H hq (z_at.mk 3 rfl rfl) rfl rfl rfl rfl ?_
      intro V_16 hV_16
      refine r_p hq 1 (pc' := 20) (L' := [(0, .ref 120)]) (st' := [.ref 120, .int V_16]) rfl ?_
      refine r_gI (pc' := 23) (L' := [(0, .ref 120)]) H hq (z_at.mk 3 rfl rfl) rfl rfl rfl rfl ?_
      intro V_20 hV_20
      rcases z_ite h with ⟨c_23, h⟩ | ⟨c_23, h⟩
      · refine r_t2 (pc' := 48) (L' := []) hq (z_at.mk 3 rfl rfl) rfl hV_16 hV_20 c_23 rfl rfl ?_
        refine r_p hq 1 (pc' := 49) (L' := []) (st' := [.int ((0 : Int32))]) rfl ?_
        cases h
        exact r_ri hq (z_at.mk 1 rfl rfl) rfl rfl (rfl : (0 : Int32).toInt = 0) rfl H
      · refine r_f2 (pc' := 26) (L' := [(0, .ref 120)]) hq (z_at.mk 3 rfl rfl) rfl hV_16 hV_20 c_23 rfl rfl ?_
        refine r_p hq 1 (pc' := 27) (L' := [(0, .ref 120)]) (st' := [.ref 120]) rfl ?_
        refine r_gI (pc' := 30) (L' := [(0, .ref 120)]) H hq (z_at.mk 3 rfl rfl) rfl rfl rfl rfl ?_
        intro V_27 hV_27
        refine r_p hq 1 (pc' := 33) (L' := [(0, .ref 120)]) (st' := [.int ((160 : Int32)), .int V_27]) rfl ?_
        rcases z_ite h with ⟨c_33, h⟩ | ⟨c_33, h⟩
        · refine r_t2 (pc' := 48) (L' := []) hq (z_at.mk 3 rfl rfl) rfl hV_27 (rfl : (160 : Int32).toInt = 160) c_33 rfl rfl ?_
          refine r_p hq 1 (pc' := 49) (L' := []) (st' := [.int ((0 : Int32))]) rfl ?_
          cases h
          exact r_ri hq (z_at.mk 1 rfl rfl) rfl rfl (rfl : (0 : Int32).toInt = 0) rfl H
        · refine r_f2 (pc' := 36) (L' := [(0, .ref 120)]) hq (z_at.mk 3 rfl rfl) rfl hV_27 (rfl : (160 : Int32).toInt = 160) c_33 rfl rfl ?_
          refine r_p hq 1 (pc' := 37) (L' := [(0, .ref 120)]) (st' := [.ref 120]) rfl ?_
          refine r_gR (b := 121) (pc' := 40) (L' := [(0, .ref 120)]) H hq (z_at.mk 3 rfl rfl) rfl rfl rfl rfl ?_
          refine r_p hq 1 (pc' := 41) (L' := [(0, .ref 120)]) (st' := [.ref 120, .ref 121]) rfl ?_
          refine r_gI (pc' := 44) (L' := [(0, .ref 120)]) H hq (z_at.mk 3 rfl rfl) rfl rfl rfl rfl ?_
          intro V_41 hV_41
          obtain ⟨g_44, h⟩ := z_ifo_some h
          refine r_ba (pc' := 45) (L' := [(0, .ref 120)]) H hq (z_at.mk 1 rfl rfl) (show zAr 121 2 160 = true from rfl) hV_41 g_44 rfl rfl ?_
          intro V_44 hV_44
          refine r_p hq 1 (pc' := 49) (L' := []) (st' := [.int V_44]) rfl ?_
          cases h
          exact r_ri hq (z_at.mk 1 rfl rfl) rfl rfl hV_44 rfl H
def g_ta_blame (x1 : Int) (σ : zS) : Option (Unit × zS) :=
  let v_1 := σ 120 3
  if v_1 ≠ -1 then
    some ((), σ)
  else
    let s_10 := zu σ 120 3 x1
    some ((), s_10)
set_option maxHeartbeats 4000000 in
theorem g_ta_blame_ok {xl : Nat} {xs : Nat → Int32} {X1 : Int32} {x1 : Int} (hx1 : X1.toInt = x1) {σ : zS} {p : Nat} {m : zM} {o : Unit × zS} (H : zRep xl xs p m σ) (h : g_ta_blame x1 σ = some o) : zGo xl xs (fun p' => p = p') 1 95 0 (z_can 95 0 (lv_args 0 [.ref 120, .int X1])) [] m vV o.2 := by
  have hq : z_mth 95 = some z_r95 := rfl
  unfold g_ta_blame at h
  show zGo xl xs (fun p' => p = p') 1 95 0 [(0, .ref 120), (1, .int X1)] [] m vV o.2
  refine r_p hq 1 (pc' := 1) (L' := [(0, .ref 120), (1, .int X1)]) (st' := [.ref 120]) rfl ?_
  refine r_gI (pc' := 4) (L' := [(0, .ref 120), (1, .int X1)]) H hq (z_at.mk 3 rfl rfl) rfl rfl rfl rfl ?_
  intro V_1 hV_1
  refine r_p hq 1 (pc' := 5) (L' := [(0, .ref 120), (1, .int X1)]) (st' := [.int ((-1 : Int32)), .int V_1]) rfl ?_
  rcases z_ite h with ⟨c_5, h⟩ | ⟨c_5, h⟩
  · refine r_t2 (pc' := 13) (L' := []) hq (z_at.mk 3 rfl rfl) rfl hV_1 (rfl : (-1 : Int32).toInt = -1) c_5 rfl rfl ?_
    cases h
    exact r_rv hq (z_at.mk 1 rfl rfl) rfl rfl H
  · refine r_f2 (pc' := 8) (L' := [(0, .ref 120), (1, .int X1)]) hq (z_at.mk 3 rfl rfl) rfl hV_1 (rfl : (-1 : Int32).toInt = -1) c_5 rfl rfl ?_
    refine r_p hq 2 (pc' := 10) (L' := [(0, .ref 120), (1, .int X1)]) (st' := [.int X1, .ref 120]) rfl ?_
    refine r_pI (X := X1) (pc' := 13) (L' := []) H hq (z_at.mk 3 rfl rfl) rfl rfl hx1 (by decide) rfl rfl rfl rfl ?_
    intro m_10 H_10
    cases h
    exact r_rv hq (z_at.mk 1 rfl rfl) rfl rfl H_10
def g_ta_wants (x1 : Int) (σ : zS) : Option (Unit × zS) :=
  (g_ta_here σ).bind fun o_1 =>
  if o_1.1 ≠ x1 then
    let v_23 := o_1.2 120 2
    (g_ta_blame v_23 o_1.2).bind fun o_26 =>
    some ((), o_26.2)
  else
    let v_10 := o_1.2 120 2
    let s_15 := zu o_1.2 120 2 (w32 (v_10 + 1))
    some ((), s_15)
set_option maxHeartbeats 4000000 in
theorem g_ta_wants_ok {xl : Nat} {xs : Nat → Int32} {X1 : Int32} {x1 : Int} (hx1 : X1.toInt = x1) {σ : zS} {p : Nat} {m : zM} {o : Unit × zS} (H : zRep xl xs p m σ) (h : g_ta_wants x1 σ = some o) : zGo xl xs (fun p' => p = p') 2 98 0 (z_can 98 0 (lv_args 0 [.ref 120, .int X1])) [] m vV o.2 := by
  have hq : z_mth 98 = some z_r98 := rfl
  unfold g_ta_wants at h
  show zGo xl xs (fun p' => p = p') 2 98 0 [(0, .ref 120), (1, .int X1)] [] m vV o.2
  refine r_p hq 1 (pc' := 1) (L' := [(0, .ref 120), (1, .int X1)]) (st' := [.ref 120]) rfl ?_
  obtain ⟨o_1, h_1, h⟩ := Option.bind_eq_some_iff.mp h
  refine r_cvI (pc' := 4) (L' := [(0, .ref 120), (1, .int X1)]) (Ps := []) (rest := []) hq (z_at.mk 3 rfl rfl) (Or.inl ⟨rfl, rfl⟩) rfl rfl (by decide) (by decide) rfl (Nat.not_lt.mpr (Nat.le_of_ble_eq_true rfl)) rfl rfl (z_cat_le 0 rfl (by decide)) (z_lgl_le 1 rfl (by decide)) (by decide) (H.tg rfl) (by omega) (g_ta_here_ok H h_1) rfl rfl ?_
  intro R_1 m_1 p_1 e_1 hR_1 H_1
  subst e_1
  refine r_p hq 1 (pc' := 5) (L' := [(0, .ref 120), (1, .int X1)]) (st' := [.int X1, .int R_1]) rfl ?_
  rcases z_ite h with ⟨c_5, h⟩ | ⟨c_5, h⟩
  · refine r_t2 (pc' := 21) (L' := [(0, .ref 120), (1, .int X1)]) hq (z_at.mk 3 rfl rfl) rfl hR_1 hx1 c_5 rfl rfl ?_
    refine r_p hq 2 (pc' := 23) (L' := [(0, .ref 120), (1, .int X1)]) (st' := [.ref 120, .ref 120]) rfl ?_
    refine r_gI (pc' := 26) (L' := [(0, .ref 120), (1, .int X1)]) H_1 hq (z_at.mk 3 rfl rfl) rfl rfl rfl rfl ?_
    intro V_23 hV_23
    obtain ⟨o_26, h_26, h⟩ := Option.bind_eq_some_iff.mp h
    refine r_cvV (pc' := 29) (L' := []) (Ps := [.int V_23]) (rest := []) hq (z_at.mk 3 rfl rfl) (Or.inl ⟨rfl, rfl⟩) rfl rfl (by decide) (by decide) rfl (Nat.not_lt.mpr (Nat.le_of_ble_eq_true rfl)) rfl rfl (z_cat_le 0 rfl (by decide)) (z_lgl_le 2 rfl (by decide)) (by decide) (H_1.tg rfl) (by omega) (g_ta_blame_ok hV_23 H_1 h_26) rfl rfl ?_
    intro m_26 p_26 e_26 H_26
    subst e_26
    cases h
    exact r_rv hq (z_at.mk 1 rfl rfl) rfl rfl H_26
  · refine r_f2 (pc' := 8) (L' := [(0, .ref 120), (1, .int X1)]) hq (z_at.mk 3 rfl rfl) rfl hR_1 hx1 c_5 rfl rfl ?_
    refine r_p hq 2 (pc' := 10) (L' := [(0, .ref 120), (1, .int X1)]) (st' := [.ref 120, .ref 120]) rfl ?_
    refine r_gI (pc' := 13) (L' := [(0, .ref 120), (1, .int X1)]) H_1 hq (z_at.mk 3 rfl rfl) rfl rfl rfl rfl ?_
    intro V_10 hV_10
    refine r_p hq 2 (pc' := 15) (L' := [(0, .ref 120), (1, .int X1)]) (st' := [.int (V_10 + ((1 : Int32))), .ref 120]) rfl ?_
    refine r_pI (X := V_10 + ((1 : Int32))) (pc' := 18) (L' := [(0, .ref 120), (1, .int X1)]) H_1 hq (z_at.mk 3 rfl rfl) rfl rfl (tx_iadd hV_10 (rfl : (1 : Int32).toInt = 1)) (by decide) rfl rfl rfl rfl ?_
    intro m_15 H_15
    refine r_p hq 1 (pc' := 29) (L' := []) (st' := []) rfl ?_
    cases h
    exact r_rv hq (z_at.mk 1 rfl rfl) rfl rfl H_15
def g_ta_takes (x1 : Int) (σ : zS) : Option (Int × zS) :=
  (g_ta_here σ).bind fun o_1 =>
  if o_1.1 = x1 then
    let v_12 := o_1.2 120 2
    let s_17 := zu o_1.2 120 2 (w32 (v_12 + 1))
    some (1, s_17)
  else
    some (0, o_1.2)
set_option maxHeartbeats 4000000 in
theorem g_ta_takes_ok {xl : Nat} {xs : Nat → Int32} {X1 : Int32} {x1 : Int} (hx1 : X1.toInt = x1) {σ : zS} {p : Nat} {m : zM} {o : Int × zS} (H : zRep xl xs p m σ) (h : g_ta_takes x1 σ = some o) : zGo xl xs (fun p' => p = p') 2 97 0 (z_can 97 0 (lv_args 0 [.ref 120, .int X1])) [] m (vI o.1) o.2 := by
  have hq : z_mth 97 = some z_r97 := rfl
  unfold g_ta_takes at h
  show zGo xl xs (fun p' => p = p') 2 97 0 [(0, .ref 120), (1, .int X1)] [] m (vI o.1) o.2
  refine r_p hq 1 (pc' := 1) (L' := [(0, .ref 120), (1, .int X1)]) (st' := [.ref 120]) rfl ?_
  obtain ⟨o_1, h_1, h⟩ := Option.bind_eq_some_iff.mp h
  refine r_cvI (pc' := 4) (L' := [(0, .ref 120), (1, .int X1)]) (Ps := []) (rest := []) hq (z_at.mk 3 rfl rfl) (Or.inl ⟨rfl, rfl⟩) rfl rfl (by decide) (by decide) rfl (Nat.not_lt.mpr (Nat.le_of_ble_eq_true rfl)) rfl rfl (z_cat_le 0 rfl (by decide)) (z_lgl_le 1 rfl (by decide)) (by decide) (H.tg rfl) (by omega) (g_ta_here_ok H h_1) rfl rfl ?_
  intro R_1 m_1 p_1 e_1 hR_1 H_1
  subst e_1
  refine r_p hq 1 (pc' := 5) (L' := [(0, .ref 120), (1, .int X1)]) (st' := [.int X1, .int R_1]) rfl ?_
  rcases z_ite h with ⟨c_5, h⟩ | ⟨c_5, h⟩
  · refine r_t2 (pc' := 10) (L' := [(0, .ref 120), (1, .int X1)]) hq (z_at.mk 3 rfl rfl) rfl hR_1 hx1 c_5 rfl rfl ?_
    refine r_p hq 2 (pc' := 12) (L' := [(0, .ref 120), (1, .int X1)]) (st' := [.ref 120, .ref 120]) rfl ?_
    refine r_gI (pc' := 15) (L' := [(0, .ref 120), (1, .int X1)]) H_1 hq (z_at.mk 3 rfl rfl) rfl rfl rfl rfl ?_
    intro V_12 hV_12
    refine r_p hq 2 (pc' := 17) (L' := [(0, .ref 120), (1, .int X1)]) (st' := [.int (V_12 + ((1 : Int32))), .ref 120]) rfl ?_
    refine r_pI (X := V_12 + ((1 : Int32))) (pc' := 20) (L' := [(0, .ref 120), (1, .int X1)]) H_1 hq (z_at.mk 3 rfl rfl) rfl rfl (tx_iadd hV_12 (rfl : (1 : Int32).toInt = 1)) (by decide) rfl rfl rfl rfl ?_
    intro m_17 H_17
    refine r_p hq 1 (pc' := 21) (L' := [(0, .ref 120), (1, .int X1)]) (st' := [.int ((1 : Int32))]) rfl ?_
    cases h
    exact r_ri hq (z_at.mk 1 rfl rfl) rfl rfl (rfl : (1 : Int32).toInt = 1) rfl H_17
  · refine r_f2 (pc' := 8) (L' := [(0, .ref 120), (1, .int X1)]) hq (z_at.mk 3 rfl rfl) rfl hR_1 hx1 c_5 rfl rfl ?_
    refine r_p hq 1 (pc' := 9) (L' := [(0, .ref 120), (1, .int X1)]) (st' := [.int ((0 : Int32))]) rfl ?_
    cases h
    exact r_ri hq (z_at.mk 1 rfl rfl) rfl rfl (rfl : (0 : Int32).toInt = 0) rfl H_1
def g_jString_isLatin1 (a0 : Nat) (σ : zS) : Option (Int × zS) :=
  if (1 : Int) = 0 then
    some (0, σ)
  else
    if (0 : Int) ≠ 0 then
      some (0, σ)
    else
      some (1, σ)
set_option maxHeartbeats 4000000 in
theorem g_jString_isLatin1_ok {xl : Nat} {xs : Nat → Int32} {a0 : Nat} (ha0 : zIn [1, 2, 3, 4, 5, 6, 7, 8, 9, 10, 11, 12, 13, 14, 15, 16, 17, 18] a0 = true) {σ : zS} {p : Nat} {m : zM} {o : Int × zS} (H : zRep xl xs p m σ) (h : g_jString_isLatin1 a0 σ = some o) : zGo xl xs (fun p' => p = p') 1 299 0 (z_can 299 0 (lv_args 0 [.ref a0])) [] m (vI o.1) o.2 := by
  have hq : z_mth 299 = some z_r299 := rfl
  unfold g_jString_isLatin1 at h
  show zGo xl xs (fun p' => p = p') 1 299 0 [(0, .ref a0)] [] m (vI o.1) o.2
  refine r_p hq 1 (pc' := 3) (L' := [(0, .ref a0)]) (st' := [.int ((1 : Int32))]) rfl ?_
  rcases z_ite h with ⟨c_3, h⟩ | ⟨c_3, h⟩
  · refine r_t1 (pc' := 17) (L' := []) hq (z_at.mk 3 rfl rfl) rfl (show (1 : Int32).toInt = 1 from rfl) c_3 rfl rfl ?_
    refine r_p hq 1 (pc' := 18) (L' := []) (st' := [.int ((0 : Int32))]) rfl ?_
    cases h
    exact r_ri hq (z_at.mk 1 rfl rfl) rfl rfl (rfl : (0 : Int32).toInt = 0) rfl H
  · refine r_f1 (pc' := 6) (L' := [(0, .ref a0)]) hq (z_at.mk 3 rfl rfl) rfl (show (1 : Int32).toInt = 1 from rfl) c_3 rfl rfl ?_
    refine r_p hq 1 (pc' := 7) (L' := [(0, .ref a0)]) (st' := [.ref a0]) rfl ?_
    refine r_gsI (pc' := 10) (L' := [(0, .ref a0)]) H hq (z_at.mk 3 rfl rfl) rfl (zIn_all (l := [1, 2, 3, 4, 5, 6, 7, 8, 9, 10, 11, 12, 13, 14, 15, 16, 17, 18]) (p := fun a => zIn [1, 2, 3, 4, 5, 6, 7, 8, 9, 10, 11, 12, 13, 14, 15, 16, 17, 18] a) rfl ha0) rfl rfl ?_
    rcases z_ite h with ⟨c_10, h⟩ | ⟨c_10, h⟩
    · refine r_t1 (pc' := 17) (L' := []) hq (z_at.mk 3 rfl rfl) rfl (show (0 : Int32).toInt = 0 from rfl) c_10 rfl rfl ?_
      refine r_p hq 1 (pc' := 18) (L' := []) (st' := [.int ((0 : Int32))]) rfl ?_
      cases h
      exact r_ri hq (z_at.mk 1 rfl rfl) rfl rfl (rfl : (0 : Int32).toInt = 0) rfl H
    · refine r_f1 (pc' := 13) (L' := [(0, .ref a0)]) hq (z_at.mk 3 rfl rfl) rfl (show (0 : Int32).toInt = 0 from rfl) c_10 rfl rfl ?_
      refine r_p hq 2 (pc' := 18) (L' := []) (st' := [.int ((1 : Int32))]) rfl ?_
      cases h
      exact r_ri hq (z_at.mk 1 rfl rfl) rfl rfl (rfl : (1 : Int32).toInt = 1) rfl H
def g_jString_coder (a0 : Nat) (σ : zS) : Option (Int × zS) :=
  if (1 : Int) = 0 then
    some (1, σ)
  else
    some (0, σ)
set_option maxHeartbeats 4000000 in
theorem g_jString_coder_ok {xl : Nat} {xs : Nat → Int32} {a0 : Nat} (ha0 : zIn [1, 2, 3, 4, 5, 6, 7, 8, 9, 10, 11, 12, 13, 14, 15, 16, 17, 18] a0 = true) {σ : zS} {p : Nat} {m : zM} {o : Int × zS} (H : zRep xl xs p m σ) (h : g_jString_coder a0 σ = some o) : zGo xl xs (fun p' => p = p') 1 298 0 (z_can 298 0 (lv_args 0 [.ref a0])) [] m (vI o.1) o.2 := by
  have hq : z_mth 298 = some z_r298 := rfl
  unfold g_jString_coder at h
  show zGo xl xs (fun p' => p = p') 1 298 0 [(0, .ref a0)] [] m (vI o.1) o.2
  refine r_p hq 1 (pc' := 3) (L' := [(0, .ref a0)]) (st' := [.int ((1 : Int32))]) rfl ?_
  rcases z_ite h with ⟨c_3, h⟩ | ⟨c_3, h⟩
  · refine r_t1 (pc' := 13) (L' := [(0, .ref a0)]) hq (z_at.mk 3 rfl rfl) rfl (show (1 : Int32).toInt = 1 from rfl) c_3 rfl rfl ?_
    refine r_p hq 1 (pc' := 14) (L' := []) (st' := [.int ((1 : Int32))]) rfl ?_
    cases h
    exact r_ri hq (z_at.mk 1 rfl rfl) rfl rfl (rfl : (1 : Int32).toInt = 1) rfl H
  · refine r_f1 (pc' := 6) (L' := [(0, .ref a0)]) hq (z_at.mk 3 rfl rfl) rfl (show (1 : Int32).toInt = 1 from rfl) c_3 rfl rfl ?_
    refine r_p hq 1 (pc' := 7) (L' := [(0, .ref a0)]) (st' := [.ref a0]) rfl ?_
    refine r_gsI (pc' := 10) (L' := [(0, .ref a0)]) H hq (z_at.mk 3 rfl rfl) rfl (zIn_all (l := [1, 2, 3, 4, 5, 6, 7, 8, 9, 10, 11, 12, 13, 14, 15, 16, 17, 18]) (p := fun a => zIn [1, 2, 3, 4, 5, 6, 7, 8, 9, 10, 11, 12, 13, 14, 15, 16, 17, 18] a) rfl ha0) rfl rfl ?_
    refine r_p hq 1 (pc' := 14) (L' := []) (st' := [.int ((0 : Int32))]) rfl ?_
    cases h
    exact r_ri hq (z_at.mk 1 rfl rfl) rfl rfl (rfl : (0 : Int32).toInt = 0) rfl H
def g_jString_length (a0 : Nat) (σ : zS) : Option (Int × zS) :=
  (g_jString_coder a0 σ).bind fun o_6 =>
  some (iShr (zLI (a0 + 18)) o_6.1, o_6.2)
set_option maxHeartbeats 4000000 in
theorem g_jString_length_ok {xl : Nat} {xs : Nat → Int32} {a0 : Nat} (ha0 : zIn [1, 2, 3, 4, 5, 6, 7, 8, 9, 10, 11, 12, 13, 14, 15, 16, 17, 18] a0 = true) {σ : zS} {p : Nat} {m : zM} {o : Int × zS} (H : zRep xl xs p m σ) (h : g_jString_length a0 σ = some o) : zGo xl xs (fun p' => p = p') 2 293 0 (z_can 293 0 (lv_args 0 [.ref a0])) [] m (vI o.1) o.2 := by
  have hq : z_mth 293 = some z_r293 := rfl
  unfold g_jString_length at h
  show zGo xl xs (fun p' => p = p') 2 293 0 [(0, .ref a0)] [] m (vI o.1) o.2
  refine r_p hq 1 (pc' := 1) (L' := [(0, .ref a0)]) (st' := [.ref a0]) rfl ?_
  refine r_gsR (pc' := 4) (L' := [(0, .ref a0)]) H hq (z_at.mk 3 rfl rfl) rfl (zIn_all (l := [1, 2, 3, 4, 5, 6, 7, 8, 9, 10, 11, 12, 13, 14, 15, 16, 17, 18]) (p := fun a => zIn [1, 2, 3, 4, 5, 6, 7, 8, 9, 10, 11, 12, 13, 14, 15, 16, 17, 18] a) rfl ha0) rfl rfl ?_
  refine r_le0 (pc' := 5) (L' := [(0, .ref a0)]) H hq (z_at.mk 1 rfl rfl) (zIn_all (l := [1, 2, 3, 4, 5, 6, 7, 8, 9, 10, 11, 12, 13, 14, 15, 16, 17, 18]) (p := fun a => zAz (a + 18) 2 (zLI (a + 18))) rfl ha0) rfl rfl rfl ?_
  intro V_4 hV_4
  refine r_p hq 1 (pc' := 6) (L' := [(0, .ref a0)]) (st' := [.ref a0, .int V_4]) rfl ?_
  obtain ⟨o_6, h_6, h⟩ := Option.bind_eq_some_iff.mp h
  refine r_cvI (pc' := 9) (L' := [(0, .ref a0)]) (Ps := []) (rest := [.int V_4]) hq (z_at.mk 3 rfl rfl) (Or.inl ⟨rfl, rfl⟩) rfl rfl (by decide) (by decide) rfl (Nat.not_lt.mpr (Nat.le_of_ble_eq_true rfl)) rfl rfl (z_cat_le 1 rfl (by decide)) (z_lgl_le 1 rfl (by decide)) (by decide) (H.tg9 (zIn_all (l := [1, 2, 3, 4, 5, 6, 7, 8, 9, 10, 11, 12, 13, 14, 15, 16, 17, 18]) (p := fun a => zIn [1, 2, 3, 4, 5, 6, 7, 8, 9, 10, 11, 12, 13, 14, 15, 16, 17, 18] a) rfl ha0)) (by omega) (g_jString_coder_ok (zIn_all (l := [1, 2, 3, 4, 5, 6, 7, 8, 9, 10, 11, 12, 13, 14, 15, 16, 17, 18]) (p := fun a => zIn [1, 2, 3, 4, 5, 6, 7, 8, 9, 10, 11, 12, 13, 14, 15, 16, 17, 18] a) rfl ha0) H h_6) rfl rfl ?_
  intro R_6 m_6 p_6 e_6 hR_6 H_6
  subst e_6
  refine r_p hq 1 (pc' := 10) (L' := [(0, .ref a0)]) (st' := [.int (V_4 >>> (R_6 &&& 31))]) rfl ?_
  cases h
  exact r_ri hq (z_at.mk 1 rfl rfl) rfl rfl (tx_ishr hV_4 hR_6) rfl H_6
def g_jStringLatin1_indexOfChar_L7 (a0 : Nat) : Nat → Int → Int → Int → zS → Option (Int × zS)
  | 0, _, _, _, _ => none
  | n + 1, x3, x4, x5, σ =>
    if x3 ≤ x5 then
      some (-1, σ)
    else
      if 0 ≤ x5 ∧ x5 < zLI a0 then
      let v_16 := zs0 a0 x5
      if v_16 ≠ x4 then
        (g_jStringLatin1_indexOfChar_L7 a0 n) x3 x4 (w32 (x5 + 1)) σ
      else
        some (x5, σ)
      else none
set_option maxHeartbeats 4000000 in
theorem g_jStringLatin1_indexOfChar_L7_ok {xl : Nat} {xs : Nat → Int32} {a0 : Nat} (ha0 : zIn [19, 20, 21, 22, 23, 24, 25, 26, 27, 28, 29, 30, 31, 32, 33, 34, 35, 36] a0 = true) : ∀ (n : Nat) {X3 : Int32} {x3 : Int} {X4 : Int32} {x4 : Int} {X5 : Int32} {x5 : Int} {σ : zS} {p : Nat} {m : zM} {o : Int × zS}, X3.toInt = x3 → X4.toInt = x4 → X5.toInt = x5 → zRep xl xs p m σ → g_jStringLatin1_indexOfChar_L7 a0 n x3 x4 x5 σ = some o → zGo xl xs (fun p' => p = p') 1 312 7 [(0, .ref a0), (3, .int X3), (4, .int X4), (5, .int X5)] [] m (vI o.1) o.2
  | 0, _, _, _, _, _, _, _, _, _, _, _, _, _, _, h => by cases h
  | n + 1, X3, x3, X4, x4, X5, x5, σ, p, m, o, hx3, hx4, hx5, H, h => by
    have hq : z_mth 312 = some z_r312 := rfl
    have ih := fun {X3 : Int32} {x3 : Int} {X4 : Int32} {x4 : Int} {X5 : Int32} {x5 : Int} {σ : zS} {p : Nat} {m : zM} {o : Int × zS} => g_jStringLatin1_indexOfChar_L7_ok (xl := xl) (xs := xs) ha0 n (X3 := X3) (x3 := x3) (X4 := X4) (x4 := x4) (X5 := X5) (x5 := x5) (σ := σ) (p := p) (m := m) (o := o)
    unfold g_jStringLatin1_indexOfChar_L7 at h
    refine r_p hq 2 (pc' := 10) (L' := [(0, .ref a0), (3, .int X3), (4, .int X4), (5, .int X5)]) (st' := [.int X3, .int X5]) rfl ?_
    rcases z_ite h with ⟨c_10, h⟩ | ⟨c_10, h⟩
    · refine r_t2 (pc' := 31) (L' := [(0, .ref a0), (3, .int X3), (4, .int X4), (5, .int X5)]) hq (z_at.mk 3 rfl rfl) rfl hx5 hx3 c_10 rfl rfl ?_
      refine r_p hq 1 (pc' := 32) (L' := [(0, .ref a0), (3, .int X3), (4, .int X4), (5, .int X5)]) (st' := [.int ((-1 : Int32))]) rfl ?_
      cases h
      exact r_ri hq (z_at.mk 1 rfl rfl) rfl rfl (rfl : (-1 : Int32).toInt = -1) rfl H
    · refine r_f2 (pc' := 13) (L' := [(0, .ref a0), (3, .int X3), (4, .int X4), (5, .int X5)]) hq (z_at.mk 3 rfl rfl) rfl hx5 hx3 c_10 rfl rfl ?_
      refine r_p hq 2 (pc' := 16) (L' := [(0, .ref a0), (3, .int X3), (4, .int X4), (5, .int X5)]) (st' := [.int X5, .ref a0]) rfl ?_
      obtain ⟨g_16, h⟩ := z_ifo_some h
      refine r_ba0 (pc' := 17) (L' := [(0, .ref a0), (3, .int X3), (4, .int X4), (5, .int X5)]) H hq (z_at.mk 1 rfl rfl) (zIn_all (l := [19, 20, 21, 22, 23, 24, 25, 26, 27, 28, 29, 30, 31, 32, 33, 34, 35, 36]) (p := fun a => zAz a 2 (zLI a)) rfl ha0) hx5 g_16 rfl rfl ?_
      intro V_16 hV_16
      refine r_p hq 1 (pc' := 19) (L' := [(0, .ref a0), (3, .int X3), (4, .int X4), (5, .int X5)]) (st' := [.int X4, .int V_16]) rfl ?_
      rcases z_ite h with ⟨c_19, h⟩ | ⟨c_19, h⟩
      · refine r_t2 (pc' := 25) (L' := [(0, .ref a0), (3, .int X3), (4, .int X4), (5, .int X5)]) hq (z_at.mk 3 rfl rfl) rfl hV_16 hx4 c_19 rfl rfl ?_
        refine r_p hq 2 (pc' := 7) (L' := [(0, .ref a0), (3, .int X3), (4, .int X4), (5, .int (X5 + (1 : Int32)))]) (st' := []) rfl ?_
        exact ih hx3 hx4 (tx_iadd hx5 (rfl : (1 : Int32).toInt = 1)) H h
      · refine r_f2 (pc' := 22) (L' := [(0, .ref a0), (3, .int X3), (4, .int X4), (5, .int X5)]) hq (z_at.mk 3 rfl rfl) rfl hV_16 hx4 c_19 rfl rfl ?_
        refine r_p hq 1 (pc' := 24) (L' := [(0, .ref a0), (3, .int X3), (4, .int X4), (5, .int X5)]) (st' := [.int X5]) rfl ?_
        cases h
        exact r_ri hq (z_at.mk 1 rfl rfl) rfl rfl hx5 rfl H
def g_jStringLatin1_indexOfChar (a0 : Nat) (x1 : Int) (x2 : Int) (x3 : Int) (σ : zS) : Option (Int × zS) :=
  g_jStringLatin1_indexOfChar_L7 a0 zK x3 (w8 x1) x2 σ
set_option maxHeartbeats 4000000 in
theorem g_jStringLatin1_indexOfChar_ok {xl : Nat} {xs : Nat → Int32} {a0 : Nat} (ha0 : zIn [19, 20, 21, 22, 23, 24, 25, 26, 27, 28, 29, 30, 31, 32, 33, 34, 35, 36] a0 = true) {X1 : Int32} {x1 : Int} (hx1 : X1.toInt = x1) {X2 : Int32} {x2 : Int} (hx2 : X2.toInt = x2) {X3 : Int32} {x3 : Int} (hx3 : X3.toInt = x3) {σ : zS} {p : Nat} {m : zM} {o : Int × zS} (H : zRep xl xs p m σ) (h : g_jStringLatin1_indexOfChar a0 x1 x2 x3 σ = some o) : zGo xl xs (fun p' => p = p') 1 312 0 (z_can 312 0 (lv_args 0 [.ref a0, .int X1, .int X2, .int X3])) [] m (vI o.1) o.2 := by
  have hq : z_mth 312 = some z_r312 := rfl
  unfold g_jStringLatin1_indexOfChar at h
  show zGo xl xs (fun p' => p = p') 1 312 0 [(0, .ref a0), (1, .int X1), (2, .int X2), (3, .int X3)] [] m (vI o.1) o.2
  refine r_p hq 5 (pc' := 7) (L' := [(0, .ref a0), (3, .int X3), (4, .int X1.toInt8.toInt32), (5, .int X2)]) (st' := []) rfl ?_
  exact g_jStringLatin1_indexOfChar_L7_ok ha0 zK hx3 (tx_i2b hx1) hx2 H h
def g_jStringLatin1_canEncode_310 (x0 : Int) (σ : zS) : Option (Int × zS) :=
  if x0 < 0 then
    some (0, σ)
  else
    if 255 < x0 then
      some (0, σ)
    else
      some (1, σ)
set_option maxHeartbeats 4000000 in
theorem g_jStringLatin1_canEncode_310_ok {xl : Nat} {xs : Nat → Int32} {X0 : Int32} {x0 : Int} (hx0 : X0.toInt = x0) {σ : zS} {p : Nat} {m : zM} {o : Int × zS} (H : zRep xl xs p m σ) (h : g_jStringLatin1_canEncode_310 x0 σ = some o) : zGo xl xs (fun p' => p = p') 1 310 0 (z_can 310 0 (lv_args 0 [.int X0])) [] m (vI o.1) o.2 := by
  have hq : z_mth 310 = some z_r310 := rfl
  unfold g_jStringLatin1_canEncode_310 at h
  show zGo xl xs (fun p' => p = p') 1 310 0 [(0, .int X0)] [] m (vI o.1) o.2
  refine r_p hq 1 (pc' := 1) (L' := [(0, .int X0)]) (st' := [.int X0]) rfl ?_
  rcases z_ite h with ⟨c_1, h⟩ | ⟨c_1, h⟩
  · refine r_t1 (pc' := 15) (L' := []) hq (z_at.mk 3 rfl rfl) rfl hx0 c_1 rfl rfl ?_
    refine r_p hq 1 (pc' := 16) (L' := []) (st' := [.int ((0 : Int32))]) rfl ?_
    cases h
    exact r_ri hq (z_at.mk 1 rfl rfl) rfl rfl (rfl : (0 : Int32).toInt = 0) rfl H
  · refine r_f1 (pc' := 4) (L' := [(0, .int X0)]) hq (z_at.mk 3 rfl rfl) rfl hx0 c_1 rfl rfl ?_
    refine r_p hq 2 (pc' := 8) (L' := [(0, .int X0)]) (st' := [.int ((255 : Int32)), .int X0]) rfl ?_
    rcases z_ite h with ⟨c_8, h⟩ | ⟨c_8, h⟩
    · refine r_t2 (pc' := 15) (L' := []) hq (z_at.mk 3 rfl rfl) rfl hx0 (rfl : (255 : Int32).toInt = 255) c_8 rfl rfl ?_
      refine r_p hq 1 (pc' := 16) (L' := []) (st' := [.int ((0 : Int32))]) rfl ?_
      cases h
      exact r_ri hq (z_at.mk 1 rfl rfl) rfl rfl (rfl : (0 : Int32).toInt = 0) rfl H
    · refine r_f2 (pc' := 11) (L' := [(0, .int X0)]) hq (z_at.mk 3 rfl rfl) rfl hx0 (rfl : (255 : Int32).toInt = 255) c_8 rfl rfl ?_
      refine r_p hq 2 (pc' := 16) (L' := []) (st' := [.int ((1 : Int32))]) rfl ?_
      cases h
      exact r_ri hq (z_at.mk 1 rfl rfl) rfl rfl (rfl : (1 : Int32).toInt = 1) rfl H
end
