/-! THE METHODS over the typed memory: how the paper grows (by wip/zg.py) -/
def g_jMath_max_289 (x0 : Int) (x1 : Int) (σ : zS) : Option (Int × zS) :=
  if x0 < x1 then
    some (x1, σ)
  else
    some (x0, σ)
set_option maxHeartbeats 4000000 in
theorem g_jMath_max_289_ok {xl : Nat} {xs : Nat → Int32} {X0 : Int32} {x0 : Int} (hx0 : X0.toInt = x0) {X1 : Int32} {x1 : Int} (hx1 : X1.toInt = x1) {σ : zS} {p : Nat} {m : zM} {o : Int × zS} (H : zRep xl xs p m σ) (h : g_jMath_max_289 x0 x1 σ = some o) : zGo xl xs (fun p' => p = p') 1 289 0 (z_can 289 0 (lv_args 0 [.int X0, .int X1])) [] m (vI o.1) o.2 := by
  have hq : z_mth 289 = some z_r289 := rfl
  unfold g_jMath_max_289 at h
  show zGo xl xs (fun p' => p = p') 1 289 0 [(0, .int X0), (1, .int X1)] [] m (vI o.1) o.2
  refine r_p hq 2 (pc' := 2) (L' := [(0, .int X0), (1, .int X1)]) (st' := [.int X1, .int X0]) rfl ?_
  rcases z_ite h with ⟨c_2, h⟩ | ⟨c_2, h⟩
  · refine r_t2 (pc' := 9) (L' := [(0, .int X0), (1, .int X1)]) hq (z_at.mk 3 rfl rfl) rfl hx0 hx1 c_2 rfl rfl ?_
    refine r_p hq 1 (pc' := 10) (L' := []) (st' := [.int X1]) rfl ?_
    cases h
    exact r_ri hq (z_at.mk 1 rfl rfl) rfl rfl hx1 rfl H
  · refine r_f2 (pc' := 5) (L' := [(0, .int X0), (1, .int X1)]) hq (z_at.mk 3 rfl rfl) rfl hx0 hx1 c_2 rfl rfl ?_
    refine r_p hq 2 (pc' := 10) (L' := []) (st' := [.int X0]) rfl ?_
    cases h
    exact r_ri hq (z_at.mk 1 rfl rfl) rfl rfl hx0 rfl H
def g_jArraysSupport_newLength_L21 (x0 : Int) (x1 : Int) (σ : zS) : Option (Int × zS) :=
  none
set_option maxHeartbeats 4000000 in
theorem g_jArraysSupport_newLength_L21_ok {xl : Nat} {xs : Nat → Int32} {X0 : Int32} {x0 : Int} (hx0 : X0.toInt = x0) {X1 : Int32} {x1 : Int} (hx1 : X1.toInt = x1) {σ : zS} {p : Nat} {m : zM} {o : Int × zS} (H : zRep xl xs p m σ) (h : g_jArraysSupport_newLength_L21 x0 x1 σ = some o) : zGo xl xs (fun p' => p = p') 2 317 21 [(0, .int X0), (1, .int X1)] [] m (vI o.1) o.2 := by
  have hq : z_mth 317 = some z_r317 := rfl
  unfold g_jArraysSupport_newLength_L21 at h
  refine r_p hq 2 (pc' := 23) (L' := [(0, .int X0), (1, .int X1)]) (st' := [.int X1, .int X0]) rfl ?_
  cases h
def g_jArraysSupport_newLength (x0 : Int) (x1 : Int) (x2 : Int) (σ : zS) : Option (Int × zS) :=
  (g_jMath_max_289 x1 x2 σ).bind fun o_3 =>
  if w32 (x0 + o_3.1) ≤ 0 then
    g_jArraysSupport_newLength_L21 x0 x1 o_3.2
  else
    if 2147483639 < w32 (x0 + o_3.1) then
      g_jArraysSupport_newLength_L21 x0 x1 o_3.2
    else
      some (w32 (x0 + o_3.1), o_3.2)
set_option maxHeartbeats 4000000 in
theorem g_jArraysSupport_newLength_ok {xl : Nat} {xs : Nat → Int32} {X0 : Int32} {x0 : Int} (hx0 : X0.toInt = x0) {X1 : Int32} {x1 : Int} (hx1 : X1.toInt = x1) {X2 : Int32} {x2 : Int} (hx2 : X2.toInt = x2) {σ : zS} {p : Nat} {m : zM} {o : Int × zS} (H : zRep xl xs p m σ) (h : g_jArraysSupport_newLength x0 x1 x2 σ = some o) : zGo xl xs (fun p' => p = p') 2 317 0 (z_can 317 0 (lv_args 0 [.int X0, .int X1, .int X2])) [] m (vI o.1) o.2 := by
  have hq : z_mth 317 = some z_r317 := rfl
  unfold g_jArraysSupport_newLength at h
  show zGo xl xs (fun p' => p = p') 2 317 0 [(0, .int X0), (1, .int X1), (2, .int X2)] [] m (vI o.1) o.2
  refine r_p hq 3 (pc' := 3) (L' := [(0, .int X0), (1, .int X1), (2, .int X2)]) (st' := [.int X2, .int X1, .int X0]) rfl ?_
  obtain ⟨o_3, h_3, h⟩ := Option.bind_eq_some_iff.mp h
  refine r_csI (pc' := 6) (L' := [(0, .int X0), (1, .int X1), (2, .int X2)]) (As := [.int X1, .int X2]) (rest := [.int X0]) (j := 289) hq (z_at.mk 3 rfl rfl) (Or.inl ⟨rfl, rfl⟩) rfl rfl (by omega) (g_jMath_max_289_ok hx1 hx2 H h_3) rfl rfl ?_
  intro R_3 m_3 p_3 e_3 hR_3 H_3
  subst e_3
  refine r_p hq 4 (pc' := 10) (L' := [(3, .int (X0 + R_3)), (0, .int X0), (1, .int X1), (2, .int X2)]) (st' := [.int (X0 + R_3), .int ((0 : Int32))]) rfl ?_
  rcases z_ite h with ⟨c_10, h⟩ | ⟨c_10, h⟩
  · refine r_t2 (pc' := 21) (L' := [(0, .int X0), (1, .int X1)]) hq (z_at.mk 3 rfl rfl) rfl (rfl : (0 : Int32).toInt = 0) (tx_iadd hx0 hR_3) c_10 rfl rfl ?_
    exact g_jArraysSupport_newLength_L21_ok hx0 hx1 H_3 h
  · refine r_f2 (pc' := 13) (L' := [(3, .int (X0 + R_3)), (0, .int X0), (1, .int X1), (2, .int X2)]) hq (z_at.mk 3 rfl rfl) rfl (rfl : (0 : Int32).toInt = 0) (tx_iadd hx0 hR_3) c_10 rfl rfl ?_
    refine r_p hq 2 (pc' := 16) (L' := [(3, .int (X0 + R_3)), (0, .int X0), (1, .int X1), (2, .int X2)]) (st' := [.int ((2147483639 : Int32)), .int (X0 + R_3)]) rfl ?_
    rcases z_ite h with ⟨c_16, h⟩ | ⟨c_16, h⟩
    · refine r_t2 (pc' := 21) (L' := [(0, .int X0), (1, .int X1)]) hq (z_at.mk 3 rfl rfl) rfl (tx_iadd hx0 hR_3) (rfl : (2147483639 : Int32).toInt = 2147483639) c_16 rfl rfl ?_
      exact g_jArraysSupport_newLength_L21_ok hx0 hx1 H_3 h
    · refine r_f2 (pc' := 19) (L' := [(3, .int (X0 + R_3)), (0, .int X0), (1, .int X1), (2, .int X2)]) hq (z_at.mk 3 rfl rfl) rfl (tx_iadd hx0 hR_3) (rfl : (2147483639 : Int32).toInt = 2147483639) c_16 rfl rfl ?_
      refine r_p hq 1 (pc' := 20) (L' := [(3, .int (X0 + R_3)), (0, .int X0), (1, .int X1), (2, .int X2)]) (st' := [.int (X0 + R_3)]) rfl ?_
      cases h
      exact r_ri hq (z_at.mk 1 rfl rfl) rfl rfl (tx_iadd hx0 hR_3) rfl H_3
def g_jAbstractStringBuilder_newCapacity (x1 : Int) (σ : zS) : Option (Int × zS) :=
  let v_8 := σ 129 1
  let v_24 := σ 129 1
  (g_jArraysSupport_newLength (σ 169 0) (w32 ((iShl x1 v_8) - (σ 169 0))) (w32 ((σ 169 0) + (iShl 2 v_24))) σ).bind fun o_29 =>
  if o_29.1 ≠ 2147483647 then
    let v_54 := o_29.2 129 1
    some (iShr o_29.1 v_54, o_29.2)
  else
    none
set_option maxHeartbeats 4000000 in
theorem g_jAbstractStringBuilder_newCapacity_ok {xl : Nat} {xs : Nat → Int32} {X1 : Int32} {x1 : Int} (hx1 : X1.toInt = x1) {σ : zS} {p : Nat} {m : zM} {o : Int × zS} (H : zRep xl xs p m σ) (h : g_jAbstractStringBuilder_newCapacity x1 σ = some o) : zGo xl xs (fun p' => p = p') 3 275 0 (z_can 275 0 (lv_args 0 [.ref 129, .int X1])) [] m (vI o.1) o.2 := by
  have hq : z_mth 275 = some z_r275 := rfl
  unfold g_jAbstractStringBuilder_newCapacity at h
  show zGo xl xs (fun p' => p = p') 3 275 0 [(0, .ref 129), (1, .int X1)] [] m (vI o.1) o.2
  refine r_p hq 1 (pc' := 1) (L' := [(0, .ref 129), (1, .int X1)]) (st' := [.ref 129]) rfl ?_
  refine r_gP (pc' := 4) (L' := [(0, .ref 129), (1, .int X1)]) H hq (z_at.mk 3 rfl rfl) rfl rfl rfl ?_
  refine r_leP (pc' := 5) (L' := [(0, .ref 129), (1, .int X1)]) H hq (z_at.mk 1 rfl rfl) rfl rfl ?_
  intro V_4 hV_4
  refine r_p hq 3 (pc' := 8) (L' := [(2, .int V_4), (0, .ref 129), (1, .int X1)]) (st' := [.ref 129, .int X1]) rfl ?_
  refine r_gI (pc' := 11) (L' := [(2, .int V_4), (0, .ref 129), (1, .int X1)]) H hq (z_at.mk 3 rfl rfl) rfl rfl rfl rfl ?_
  intro V_8 hV_8
  refine r_p hq 11 (pc' := 24) (L' := [(4, .int ((X1 <<< (V_8 &&& 31)) - V_4)), (3, .int (X1 <<< (V_8 &&& 31))), (2, .int V_4), (0, .ref 129), (1, .int X1)]) (st' := [.ref 129, .int ((2 : Int32)), .int V_4, .int ((X1 <<< (V_8 &&& 31)) - V_4), .int V_4]) rfl ?_
  refine r_gI (pc' := 27) (L' := [(4, .int ((X1 <<< (V_8 &&& 31)) - V_4)), (3, .int (X1 <<< (V_8 &&& 31))), (2, .int V_4), (0, .ref 129), (1, .int X1)]) H hq (z_at.mk 3 rfl rfl) rfl rfl rfl rfl ?_
  intro V_24 hV_24
  refine r_p hq 2 (pc' := 29) (L' := [(4, .int ((X1 <<< (V_8 &&& 31)) - V_4)), (3, .int (X1 <<< (V_8 &&& 31))), (2, .int V_4), (0, .ref 129), (1, .int X1)]) (st' := [.int (V_4 + (((2 : Int32)) <<< (V_24 &&& 31))), .int ((X1 <<< (V_8 &&& 31)) - V_4), .int V_4]) rfl ?_
  obtain ⟨o_29, h_29, h⟩ := Option.bind_eq_some_iff.mp h
  refine r_csI (pc' := 32) (L' := [(4, .int ((X1 <<< (V_8 &&& 31)) - V_4)), (3, .int (X1 <<< (V_8 &&& 31))), (2, .int V_4), (0, .ref 129), (1, .int X1)]) (As := [.int V_4, .int ((X1 <<< (V_8 &&& 31)) - V_4), .int (V_4 + (((2 : Int32)) <<< (V_24 &&& 31)))]) (rest := []) (j := 317) hq (z_at.mk 3 rfl rfl) (Or.inl ⟨rfl, rfl⟩) rfl rfl (by omega) (g_jArraysSupport_newLength_ok hV_4 (tx_isub (tx_ishl hx1 hV_8) hV_4) (tx_iadd hV_4 (tx_ishl (rfl : (2 : Int32).toInt = 2) hV_24)) H h_29) rfl rfl ?_
  intro R_29 m_29 p_29 e_29 hR_29 H_29
  subst e_29
  refine r_p hq 3 (pc' := 38) (L' := [(5, .int R_29), (4, .int ((X1 <<< (V_8 &&& 31)) - V_4)), (3, .int (X1 <<< (V_8 &&& 31))), (2, .int V_4), (0, .ref 129), (1, .int X1)]) (st' := [.int ((2147483647 : Int32)), .int R_29]) rfl ?_
  rcases z_ite h with ⟨c_38, h⟩ | ⟨c_38, h⟩
  · refine r_t2 (pc' := 51) (L' := [(5, .int R_29), (4, .int ((X1 <<< (V_8 &&& 31)) - V_4)), (3, .int (X1 <<< (V_8 &&& 31))), (2, .int V_4), (0, .ref 129), (1, .int X1)]) hq (z_at.mk 3 rfl rfl) rfl hR_29 (rfl : (2147483647 : Int32).toInt = 2147483647) c_38 rfl rfl ?_
    refine r_p hq 2 (pc' := 54) (L' := [(5, .int R_29), (4, .int ((X1 <<< (V_8 &&& 31)) - V_4)), (3, .int (X1 <<< (V_8 &&& 31))), (2, .int V_4), (0, .ref 129), (1, .int X1)]) (st' := [.ref 129, .int R_29]) rfl ?_
    refine r_gI (pc' := 57) (L' := [(5, .int R_29), (4, .int ((X1 <<< (V_8 &&& 31)) - V_4)), (3, .int (X1 <<< (V_8 &&& 31))), (2, .int V_4), (0, .ref 129), (1, .int X1)]) H_29 hq (z_at.mk 3 rfl rfl) rfl rfl rfl rfl ?_
    intro V_54 hV_54
    refine r_p hq 1 (pc' := 58) (L' := [(5, .int R_29), (4, .int ((X1 <<< (V_8 &&& 31)) - V_4)), (3, .int (X1 <<< (V_8 &&& 31))), (2, .int V_4), (0, .ref 129), (1, .int X1)]) (st' := [.int (R_29 >>> (V_54 &&& 31))]) rfl ?_
    cases h
    exact r_ri hq (z_at.mk 1 rfl rfl) rfl rfl (tx_ishr hR_29 hV_54) rfl H_29
  · refine r_f2 (pc' := 41) (L' := [(5, .int R_29), (4, .int ((X1 <<< (V_8 &&& 31)) - V_4)), (3, .int (X1 <<< (V_8 &&& 31))), (2, .int V_4), (0, .ref 129), (1, .int X1)]) hq (z_at.mk 3 rfl rfl) rfl hR_29 (rfl : (2147483647 : Int32).toInt = 2147483647) c_38 rfl rfl ?_
    cases h
