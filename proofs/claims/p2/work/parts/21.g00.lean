/-! THE METHODS over the typed memory, 0 (by wip/zg.py) -/
def g_b_isPlace (x0 : Int) (x1 : Int) (σ : zS) : Option (Int × zS) :=
  if x0 < 0 then
    some (0, σ)
  else
    if 32 ≤ x0 then
      some (0, σ)
    else
      if x1 < 0 then
        some (0, σ)
      else
        if 32 ≤ x1 then
          some (0, σ)
        else
          some (1, σ)
set_option maxHeartbeats 4000000 in
theorem g_b_isPlace_ok {xl : Nat} {xs : Nat → Int32} {X0 : Int32} {x0 : Int} (hx0 : X0.toInt = x0) {X1 : Int32} {x1 : Int} (hx1 : X1.toInt = x1) {σ : zS} {p : Nat} {m : zM} {o : Int × zS} (H : zRep xl xs p m σ) (h : g_b_isPlace x0 x1 σ = some o) : zGo xl xs (fun p' => p = p') 1 0 0 (z_can 0 0 (lv_args 0 [.int X0, .int X1])) [] m (vI o.1) o.2 := by
  have hq : z_mth 0 = some z_r0 := rfl
  unfold g_b_isPlace at h
  show zGo xl xs (fun p' => p = p') 1 0 0 [(0, .int X0), (1, .int X1)] [] m (vI o.1) o.2
  refine r_p hq 1 (pc' := 1) (L' := [(0, .int X0), (1, .int X1)]) (st' := [.int X0]) rfl ?_
  rcases z_ite h with ⟨c_1, h⟩ | ⟨c_1, h⟩
  · refine r_t1 (pc' := 24) (L' := []) hq (z_at.mk 3 rfl rfl) rfl hx0 c_1 rfl rfl ?_
    refine r_p hq 1 (pc' := 25) (L' := []) (st' := [.int ((0 : Int32))]) rfl ?_
    cases h
    exact r_ri hq (z_at.mk 1 rfl rfl) rfl rfl (rfl : (0 : Int32).toInt = 0) rfl H
  · refine r_f1 (pc' := 4) (L' := [(0, .int X0), (1, .int X1)]) hq (z_at.mk 3 rfl rfl) rfl hx0 c_1 rfl rfl ?_
    refine r_p hq 2 (pc' := 7) (L' := [(0, .int X0), (1, .int X1)]) (st' := [.int ((32 : Int32)), .int X0]) rfl ?_
    rcases z_ite h with ⟨c_7, h⟩ | ⟨c_7, h⟩
    · refine r_t2 (pc' := 24) (L' := []) hq (z_at.mk 3 rfl rfl) rfl hx0 (rfl : (32 : Int32).toInt = 32) c_7 rfl rfl ?_
      refine r_p hq 1 (pc' := 25) (L' := []) (st' := [.int ((0 : Int32))]) rfl ?_
      cases h
      exact r_ri hq (z_at.mk 1 rfl rfl) rfl rfl (rfl : (0 : Int32).toInt = 0) rfl H
    · refine r_f2 (pc' := 10) (L' := [(0, .int X0), (1, .int X1)]) hq (z_at.mk 3 rfl rfl) rfl hx0 (rfl : (32 : Int32).toInt = 32) c_7 rfl rfl ?_
      refine r_p hq 1 (pc' := 11) (L' := [(0, .int X0), (1, .int X1)]) (st' := [.int X1]) rfl ?_
      rcases z_ite h with ⟨c_11, h⟩ | ⟨c_11, h⟩
      · refine r_t1 (pc' := 24) (L' := []) hq (z_at.mk 3 rfl rfl) rfl hx1 c_11 rfl rfl ?_
        refine r_p hq 1 (pc' := 25) (L' := []) (st' := [.int ((0 : Int32))]) rfl ?_
        cases h
        exact r_ri hq (z_at.mk 1 rfl rfl) rfl rfl (rfl : (0 : Int32).toInt = 0) rfl H
      · refine r_f1 (pc' := 14) (L' := [(0, .int X0), (1, .int X1)]) hq (z_at.mk 3 rfl rfl) rfl hx1 c_11 rfl rfl ?_
        refine r_p hq 2 (pc' := 17) (L' := [(0, .int X0), (1, .int X1)]) (st' := [.int ((32 : Int32)), .int X1]) rfl ?_
        rcases z_ite h with ⟨c_17, h⟩ | ⟨c_17, h⟩
        · refine r_t2 (pc' := 24) (L' := []) hq (z_at.mk 3 rfl rfl) rfl hx1 (rfl : (32 : Int32).toInt = 32) c_17 rfl rfl ?_
          refine r_p hq 1 (pc' := 25) (L' := []) (st' := [.int ((0 : Int32))]) rfl ?_
          cases h
          exact r_ri hq (z_at.mk 1 rfl rfl) rfl rfl (rfl : (0 : Int32).toInt = 0) rfl H
        · refine r_f2 (pc' := 20) (L' := [(0, .int X0), (1, .int X1)]) hq (z_at.mk 3 rfl rfl) rfl hx1 (rfl : (32 : Int32).toInt = 32) c_17 rfl rfl ?_
          refine r_p hq 2 (pc' := 25) (L' := []) (st' := [.int ((1 : Int32))]) rfl ?_
          cases h
          exact r_ri hq (z_at.mk 1 rfl rfl) rfl rfl (rfl : (1 : Int32).toInt = 1) rfl H
def g_b_isBox (x0 : Int) (x1 : Int) (x2 : Int) (x3 : Int) (σ : zS) : Option (Int × zS) :=
  (g_b_isPlace x0 x2 σ).bind fun o_2 =>
  if o_2.1 = 0 then
    some (0, o_2.2)
  else
    (g_b_isPlace x1 x3 o_2.2).bind fun o_10 =>
    if o_10.1 = 0 then
      some (0, o_10.2)
    else
      if x1 < x0 then
        some (0, o_10.2)
      else
        if x3 < x2 then
          some (0, o_10.2)
        else
          some (1, o_10.2)
set_option maxHeartbeats 4000000 in
theorem g_b_isBox_ok {xl : Nat} {xs : Nat → Int32} {X0 : Int32} {x0 : Int} (hx0 : X0.toInt = x0) {X1 : Int32} {x1 : Int} (hx1 : X1.toInt = x1) {X2 : Int32} {x2 : Int} (hx2 : X2.toInt = x2) {X3 : Int32} {x3 : Int} (hx3 : X3.toInt = x3) {σ : zS} {p : Nat} {m : zM} {o : Int × zS} (H : zRep xl xs p m σ) (h : g_b_isBox x0 x1 x2 x3 σ = some o) : zGo xl xs (fun p' => p = p') 2 1 0 (z_can 1 0 (lv_args 0 [.int X0, .int X1, .int X2, .int X3])) [] m (vI o.1) o.2 := by
  have hq : z_mth 1 = some z_r1 := rfl
  unfold g_b_isBox at h
  show zGo xl xs (fun p' => p = p') 2 1 0 [(0, .int X0), (1, .int X1), (2, .int X2), (3, .int X3)] [] m (vI o.1) o.2
  refine r_p hq 2 (pc' := 2) (L' := [(0, .int X0), (1, .int X1), (2, .int X2), (3, .int X3)]) (st' := [.int X2, .int X0]) rfl ?_
  obtain ⟨o_2, h_2, h⟩ := Option.bind_eq_some_iff.mp h
  refine r_csI (pc' := 5) (L' := [(0, .int X0), (1, .int X1), (2, .int X2), (3, .int X3)]) (As := [.int X0, .int X2]) (rest := []) (j := 0) hq (z_at.mk 3 rfl rfl) (Or.inl ⟨rfl, rfl⟩) rfl rfl (by omega) (g_b_isPlace_ok hx0 hx2 H h_2) rfl rfl ?_
  intro R_2 m_2 p_2 e_2 hR_2 H_2
  subst e_2
  rcases z_ite h with ⟨c_5, h⟩ | ⟨c_5, h⟩
  · refine r_t1 (pc' := 30) (L' := []) hq (z_at.mk 3 rfl rfl) rfl hR_2 c_5 rfl rfl ?_
    refine r_p hq 1 (pc' := 31) (L' := []) (st' := [.int ((0 : Int32))]) rfl ?_
    cases h
    exact r_ri hq (z_at.mk 1 rfl rfl) rfl rfl (rfl : (0 : Int32).toInt = 0) rfl H_2
  · refine r_f1 (pc' := 8) (L' := [(0, .int X0), (1, .int X1), (2, .int X2), (3, .int X3)]) hq (z_at.mk 3 rfl rfl) rfl hR_2 c_5 rfl rfl ?_
    refine r_p hq 2 (pc' := 10) (L' := [(0, .int X0), (1, .int X1), (2, .int X2), (3, .int X3)]) (st' := [.int X3, .int X1]) rfl ?_
    obtain ⟨o_10, h_10, h⟩ := Option.bind_eq_some_iff.mp h
    refine r_csI (pc' := 13) (L' := [(0, .int X0), (1, .int X1), (2, .int X2), (3, .int X3)]) (As := [.int X1, .int X3]) (rest := []) (j := 0) hq (z_at.mk 3 rfl rfl) (Or.inl ⟨rfl, rfl⟩) rfl rfl (by omega) (g_b_isPlace_ok hx1 hx3 H_2 h_10) rfl rfl ?_
    intro R_10 m_10 p_10 e_10 hR_10 H_10
    subst e_10
    rcases z_ite h with ⟨c_13, h⟩ | ⟨c_13, h⟩
    · refine r_t1 (pc' := 30) (L' := []) hq (z_at.mk 3 rfl rfl) rfl hR_10 c_13 rfl rfl ?_
      refine r_p hq 1 (pc' := 31) (L' := []) (st' := [.int ((0 : Int32))]) rfl ?_
      cases h
      exact r_ri hq (z_at.mk 1 rfl rfl) rfl rfl (rfl : (0 : Int32).toInt = 0) rfl H_10
    · refine r_f1 (pc' := 16) (L' := [(0, .int X0), (1, .int X1), (2, .int X2), (3, .int X3)]) hq (z_at.mk 3 rfl rfl) rfl hR_10 c_13 rfl rfl ?_
      refine r_p hq 2 (pc' := 18) (L' := [(0, .int X0), (1, .int X1), (2, .int X2), (3, .int X3)]) (st' := [.int X1, .int X0]) rfl ?_
      rcases z_ite h with ⟨c_18, h⟩ | ⟨c_18, h⟩
      · refine r_t2 (pc' := 30) (L' := []) hq (z_at.mk 3 rfl rfl) rfl hx0 hx1 c_18 rfl rfl ?_
        refine r_p hq 1 (pc' := 31) (L' := []) (st' := [.int ((0 : Int32))]) rfl ?_
        cases h
        exact r_ri hq (z_at.mk 1 rfl rfl) rfl rfl (rfl : (0 : Int32).toInt = 0) rfl H_10
      · refine r_f2 (pc' := 21) (L' := [(0, .int X0), (1, .int X1), (2, .int X2), (3, .int X3)]) hq (z_at.mk 3 rfl rfl) rfl hx0 hx1 c_18 rfl rfl ?_
        refine r_p hq 2 (pc' := 23) (L' := [(0, .int X0), (1, .int X1), (2, .int X2), (3, .int X3)]) (st' := [.int X3, .int X2]) rfl ?_
        rcases z_ite h with ⟨c_23, h⟩ | ⟨c_23, h⟩
        · refine r_t2 (pc' := 30) (L' := []) hq (z_at.mk 3 rfl rfl) rfl hx2 hx3 c_23 rfl rfl ?_
          refine r_p hq 1 (pc' := 31) (L' := []) (st' := [.int ((0 : Int32))]) rfl ?_
          cases h
          exact r_ri hq (z_at.mk 1 rfl rfl) rfl rfl (rfl : (0 : Int32).toInt = 0) rfl H_10
        · refine r_f2 (pc' := 26) (L' := [(0, .int X0), (1, .int X1), (2, .int X2), (3, .int X3)]) hq (z_at.mk 3 rfl rfl) rfl hx2 hx3 c_23 rfl rfl ?_
          refine r_p hq 2 (pc' := 31) (L' := []) (st' := [.int ((1 : Int32))]) rfl ?_
          cases h
          exact r_ri hq (z_at.mk 1 rfl rfl) rfl rfl (rfl : (1 : Int32).toInt = 1) rfl H_10
def g_b_of (x0 : Int) (x1 : Int) (x2 : Int) (x3 : Int) (σ : zS) : Option (Int × zS) :=
  some (iOr (iOr (iOr x0 (iShl x1 5)) (iShl x2 10)) (iShl x3 15), σ)
set_option maxHeartbeats 4000000 in
theorem g_b_of_ok {xl : Nat} {xs : Nat → Int32} {X0 : Int32} {x0 : Int} (hx0 : X0.toInt = x0) {X1 : Int32} {x1 : Int} (hx1 : X1.toInt = x1) {X2 : Int32} {x2 : Int} (hx2 : X2.toInt = x2) {X3 : Int32} {x3 : Int} (hx3 : X3.toInt = x3) {σ : zS} {p : Nat} {m : zM} {o : Int × zS} (H : zRep xl xs p m σ) (h : g_b_of x0 x1 x2 x3 σ = some o) : zGo xl xs (fun p' => p = p') 1 2 0 (z_can 2 0 (lv_args 0 [.int X0, .int X1, .int X2, .int X3])) [] m (vI o.1) o.2 := by
  have hq : z_mth 2 = some z_r2 := rfl
  unfold g_b_of at h
  show zGo xl xs (fun p' => p = p') 1 2 0 [(0, .int X0), (1, .int X1), (2, .int X2), (3, .int X3)] [] m (vI o.1) o.2
  refine r_p hq 13 (pc' := 15) (L' := [(0, .int X0), (1, .int X1), (2, .int X2), (3, .int X3)]) (st' := [.int (((X0 ||| (X1 <<< (((5 : Int32)) &&& 31))) ||| (X2 <<< (((10 : Int32)) &&& 31))) ||| (X3 <<< (((15 : Int32)) &&& 31)))]) rfl ?_
  cases h
  exact r_ri hq (z_at.mk 1 rfl rfl) rfl rfl (tx_ior (tx_ior (tx_ior hx0 (tx_ishl hx1 (rfl : (5 : Int32).toInt = 5))) (tx_ishl hx2 (rfl : (10 : Int32).toInt = 10))) (tx_ishl hx3 (rfl : (15 : Int32).toInt = 15))) rfl H
def g_b_side (x0 : Int) (x1 : Int) (σ : zS) : Option (Int × zS) :=
  some (iAnd (iShr x0 (w32 (5 * x1))) 31, σ)
set_option maxHeartbeats 4000000 in
theorem g_b_side_ok {xl : Nat} {xs : Nat → Int32} {X0 : Int32} {x0 : Int} (hx0 : X0.toInt = x0) {X1 : Int32} {x1 : Int} (hx1 : X1.toInt = x1) {σ : zS} {p : Nat} {m : zM} {o : Int × zS} (H : zRep xl xs p m σ) (h : g_b_side x0 x1 σ = some o) : zGo xl xs (fun p' => p = p') 1 3 0 (z_can 3 0 (lv_args 0 [.int X0, .int X1])) [] m (vI o.1) o.2 := by
  have hq : z_mth 3 = some z_r3 := rfl
  unfold g_b_side at h
  show zGo xl xs (fun p' => p = p') 1 3 0 [(0, .int X0), (1, .int X1)] [] m (vI o.1) o.2
  refine r_p hq 7 (pc' := 8) (L' := [(0, .int X0), (1, .int X1)]) (st' := [.int ((X0 >>> ((((5 : Int32)) * X1) &&& 31)) &&& ((31 : Int32)))]) rfl ?_
  cases h
  exact r_ri hq (z_at.mk 1 rfl rfl) rfl rfl (tx_iand (tx_ishr hx0 (tx_imul (rfl : (5 : Int32).toInt = 5) hx1)) (rfl : (31 : Int32).toInt = 31)) rfl H
def g_b_x0 (x0 : Int) (σ : zS) : Option (Int × zS) :=
  some (iAnd x0 31, σ)
set_option maxHeartbeats 4000000 in
theorem g_b_x0_ok {xl : Nat} {xs : Nat → Int32} {X0 : Int32} {x0 : Int} (hx0 : X0.toInt = x0) {σ : zS} {p : Nat} {m : zM} {o : Int × zS} (H : zRep xl xs p m σ) (h : g_b_x0 x0 σ = some o) : zGo xl xs (fun p' => p = p') 1 4 0 (z_can 4 0 (lv_args 0 [.int X0])) [] m (vI o.1) o.2 := by
  have hq : z_mth 4 = some z_r4 := rfl
  unfold g_b_x0 at h
  show zGo xl xs (fun p' => p = p') 1 4 0 [(0, .int X0)] [] m (vI o.1) o.2
  refine r_p hq 3 (pc' := 4) (L' := [(0, .int X0)]) (st' := [.int (X0 &&& ((31 : Int32)))]) rfl ?_
  cases h
  exact r_ri hq (z_at.mk 1 rfl rfl) rfl rfl (tx_iand hx0 (rfl : (31 : Int32).toInt = 31)) rfl H
def g_b_x1 (x0 : Int) (σ : zS) : Option (Int × zS) :=
  some (iAnd (iShr x0 5) 31, σ)
set_option maxHeartbeats 4000000 in
theorem g_b_x1_ok {xl : Nat} {xs : Nat → Int32} {X0 : Int32} {x0 : Int} (hx0 : X0.toInt = x0) {σ : zS} {p : Nat} {m : zM} {o : Int × zS} (H : zRep xl xs p m σ) (h : g_b_x1 x0 σ = some o) : zGo xl xs (fun p' => p = p') 1 5 0 (z_can 5 0 (lv_args 0 [.int X0])) [] m (vI o.1) o.2 := by
  have hq : z_mth 5 = some z_r5 := rfl
  unfold g_b_x1 at h
  show zGo xl xs (fun p' => p = p') 1 5 0 [(0, .int X0)] [] m (vI o.1) o.2
  refine r_p hq 5 (pc' := 6) (L' := [(0, .int X0)]) (st' := [.int ((X0 >>> (((5 : Int32)) &&& 31)) &&& ((31 : Int32)))]) rfl ?_
  cases h
  exact r_ri hq (z_at.mk 1 rfl rfl) rfl rfl (tx_iand (tx_ishr hx0 (rfl : (5 : Int32).toInt = 5)) (rfl : (31 : Int32).toInt = 31)) rfl H
def g_b_y0 (x0 : Int) (σ : zS) : Option (Int × zS) :=
  some (iAnd (iShr x0 10) 31, σ)
set_option maxHeartbeats 4000000 in
theorem g_b_y0_ok {xl : Nat} {xs : Nat → Int32} {X0 : Int32} {x0 : Int} (hx0 : X0.toInt = x0) {σ : zS} {p : Nat} {m : zM} {o : Int × zS} (H : zRep xl xs p m σ) (h : g_b_y0 x0 σ = some o) : zGo xl xs (fun p' => p = p') 1 6 0 (z_can 6 0 (lv_args 0 [.int X0])) [] m (vI o.1) o.2 := by
  have hq : z_mth 6 = some z_r6 := rfl
  unfold g_b_y0 at h
  show zGo xl xs (fun p' => p = p') 1 6 0 [(0, .int X0)] [] m (vI o.1) o.2
  refine r_p hq 5 (pc' := 7) (L' := [(0, .int X0)]) (st' := [.int ((X0 >>> (((10 : Int32)) &&& 31)) &&& ((31 : Int32)))]) rfl ?_
  cases h
  exact r_ri hq (z_at.mk 1 rfl rfl) rfl rfl (tx_iand (tx_ishr hx0 (rfl : (10 : Int32).toInt = 10)) (rfl : (31 : Int32).toInt = 31)) rfl H
def g_b_y1 (x0 : Int) (σ : zS) : Option (Int × zS) :=
  some (iAnd (iShr x0 15) 31, σ)
set_option maxHeartbeats 4000000 in
theorem g_b_y1_ok {xl : Nat} {xs : Nat → Int32} {X0 : Int32} {x0 : Int} (hx0 : X0.toInt = x0) {σ : zS} {p : Nat} {m : zM} {o : Int × zS} (H : zRep xl xs p m σ) (h : g_b_y1 x0 σ = some o) : zGo xl xs (fun p' => p = p') 1 7 0 (z_can 7 0 (lv_args 0 [.int X0])) [] m (vI o.1) o.2 := by
  have hq : z_mth 7 = some z_r7 := rfl
  unfold g_b_y1 at h
  show zGo xl xs (fun p' => p = p') 1 7 0 [(0, .int X0)] [] m (vI o.1) o.2
  refine r_p hq 5 (pc' := 7) (L' := [(0, .int X0)]) (st' := [.int ((X0 >>> (((15 : Int32)) &&& 31)) &&& ((31 : Int32)))]) rfl ?_
  cases h
  exact r_ri hq (z_at.mk 1 rfl rfl) rfl rfl (tx_iand (tx_ishr hx0 (rfl : (15 : Int32).toInt = 15)) (rfl : (31 : Int32).toInt = 31)) rfl H
def g_b_area (x0 : Int) (σ : zS) : Option (Int × zS) :=
  (g_b_x1 x0 σ).bind fun o_1 =>
  (g_b_x0 x0 o_1.2).bind fun o_5 =>
  (g_b_y1 x0 o_5.2).bind fun o_12 =>
  (g_b_y0 x0 o_12.2).bind fun o_16 =>
  some (w32 ((w32 ((w32 (o_1.1 - o_5.1)) + 1)) * (w32 ((w32 (o_12.1 - o_16.1)) + 1))), o_16.2)
set_option maxHeartbeats 4000000 in
theorem g_b_area_ok {xl : Nat} {xs : Nat → Int32} {X0 : Int32} {x0 : Int} (hx0 : X0.toInt = x0) {σ : zS} {p : Nat} {m : zM} {o : Int × zS} (H : zRep xl xs p m σ) (h : g_b_area x0 σ = some o) : zGo xl xs (fun p' => p = p') 2 8 0 (z_can 8 0 (lv_args 0 [.int X0])) [] m (vI o.1) o.2 := by
  have hq : z_mth 8 = some z_r8 := rfl
  unfold g_b_area at h
  show zGo xl xs (fun p' => p = p') 2 8 0 [(0, .int X0)] [] m (vI o.1) o.2
  refine r_p hq 1 (pc' := 1) (L' := [(0, .int X0)]) (st' := [.int X0]) rfl ?_
  obtain ⟨o_1, h_1, h⟩ := Option.bind_eq_some_iff.mp h
  refine r_csI (pc' := 4) (L' := [(0, .int X0)]) (As := [.int X0]) (rest := []) (j := 5) hq (z_at.mk 3 rfl rfl) (Or.inl ⟨rfl, rfl⟩) rfl rfl (by omega) (g_b_x1_ok hx0 H h_1) rfl rfl ?_
  intro R_1 m_1 p_1 e_1 hR_1 H_1
  subst e_1
  refine r_p hq 1 (pc' := 5) (L' := [(0, .int X0)]) (st' := [.int X0, .int R_1]) rfl ?_
  obtain ⟨o_5, h_5, h⟩ := Option.bind_eq_some_iff.mp h
  refine r_csI (pc' := 8) (L' := [(0, .int X0)]) (As := [.int X0]) (rest := [.int R_1]) (j := 4) hq (z_at.mk 3 rfl rfl) (Or.inl ⟨rfl, rfl⟩) rfl rfl (by omega) (g_b_x0_ok hx0 H_1 h_5) rfl rfl ?_
  intro R_5 m_5 p_5 e_5 hR_5 H_5
  subst e_5
  refine r_p hq 4 (pc' := 12) (L' := [(0, .int X0)]) (st' := [.int X0, .int ((R_1 - R_5) + ((1 : Int32)))]) rfl ?_
  obtain ⟨o_12, h_12, h⟩ := Option.bind_eq_some_iff.mp h
  refine r_csI (pc' := 15) (L' := [(0, .int X0)]) (As := [.int X0]) (rest := [.int ((R_1 - R_5) + ((1 : Int32)))]) (j := 7) hq (z_at.mk 3 rfl rfl) (Or.inl ⟨rfl, rfl⟩) rfl rfl (by omega) (g_b_y1_ok hx0 H_5 h_12) rfl rfl ?_
  intro R_12 m_12 p_12 e_12 hR_12 H_12
  subst e_12
  refine r_p hq 1 (pc' := 16) (L' := [(0, .int X0)]) (st' := [.int X0, .int R_12, .int ((R_1 - R_5) + ((1 : Int32)))]) rfl ?_
  obtain ⟨o_16, h_16, h⟩ := Option.bind_eq_some_iff.mp h
  refine r_csI (pc' := 19) (L' := [(0, .int X0)]) (As := [.int X0]) (rest := [.int R_12, .int ((R_1 - R_5) + ((1 : Int32)))]) (j := 6) hq (z_at.mk 3 rfl rfl) (Or.inl ⟨rfl, rfl⟩) rfl rfl (by omega) (g_b_y0_ok hx0 H_12 h_16) rfl rfl ?_
  intro R_16 m_16 p_16 e_16 hR_16 H_16
  subst e_16
  refine r_p hq 4 (pc' := 23) (L' := [(0, .int X0)]) (st' := [.int (((R_1 - R_5) + ((1 : Int32))) * ((R_12 - R_16) + ((1 : Int32))))]) rfl ?_
  cases h
  exact r_ri hq (z_at.mk 1 rfl rfl) rfl rfl (tx_imul (tx_iadd (tx_isub hR_1 hR_5) (rfl : (1 : Int32).toInt = 1)) (tx_iadd (tx_isub hR_12 hR_16) (rfl : (1 : Int32).toInt = 1))) rfl H_16
def g_b_meet (x0 : Int) (x1 : Int) (σ : zS) : Option (Int × zS) :=
  if x0 = -1 then
    some (0, σ)
  else
    if x1 = -1 then
      some (0, σ)
    else
      (g_b_x0 x0 σ).bind fun o_11 =>
      (g_b_x1 x1 o_11.2).bind fun o_15 =>
      if o_15.1 < o_11.1 then
        some (0, o_15.2)
      else
        (g_b_x0 x1 o_15.2).bind fun o_22 =>
        (g_b_x1 x0 o_22.2).bind fun o_26 =>
        if o_26.1 < o_22.1 then
          some (0, o_26.2)
        else
          (g_b_y0 x0 o_26.2).bind fun o_33 =>
          (g_b_y1 x1 o_33.2).bind fun o_37 =>
          if o_37.1 < o_33.1 then
            some (0, o_37.2)
          else
            (g_b_y0 x1 o_37.2).bind fun o_44 =>
            (g_b_y1 x0 o_44.2).bind fun o_48 =>
            if o_48.1 < o_44.1 then
              some (0, o_48.2)
            else
              some (1, o_48.2)
set_option maxHeartbeats 4000000 in
theorem g_b_meet_ok {xl : Nat} {xs : Nat → Int32} {X0 : Int32} {x0 : Int} (hx0 : X0.toInt = x0) {X1 : Int32} {x1 : Int} (hx1 : X1.toInt = x1) {σ : zS} {p : Nat} {m : zM} {o : Int × zS} (H : zRep xl xs p m σ) (h : g_b_meet x0 x1 σ = some o) : zGo xl xs (fun p' => p = p') 2 9 0 (z_can 9 0 (lv_args 0 [.int X0, .int X1])) [] m (vI o.1) o.2 := by
  have hq : z_mth 9 = some z_r9 := rfl
  unfold g_b_meet at h
  show zGo xl xs (fun p' => p = p') 2 9 0 [(0, .int X0), (1, .int X1)] [] m (vI o.1) o.2
  refine r_p hq 2 (pc' := 2) (L' := [(0, .int X0), (1, .int X1)]) (st' := [.int ((-1 : Int32)), .int X0]) rfl ?_
  rcases z_ite h with ⟨c_2, h⟩ | ⟨c_2, h⟩
  · refine r_t2 (pc' := 58) (L' := []) hq (z_at.mk 3 rfl rfl) rfl hx0 (rfl : (-1 : Int32).toInt = -1) c_2 rfl rfl ?_
    refine r_p hq 1 (pc' := 59) (L' := []) (st' := [.int ((0 : Int32))]) rfl ?_
    cases h
    exact r_ri hq (z_at.mk 1 rfl rfl) rfl rfl (rfl : (0 : Int32).toInt = 0) rfl H
  · refine r_f2 (pc' := 5) (L' := [(0, .int X0), (1, .int X1)]) hq (z_at.mk 3 rfl rfl) rfl hx0 (rfl : (-1 : Int32).toInt = -1) c_2 rfl rfl ?_
    refine r_p hq 2 (pc' := 7) (L' := [(0, .int X0), (1, .int X1)]) (st' := [.int ((-1 : Int32)), .int X1]) rfl ?_
    rcases z_ite h with ⟨c_7, h⟩ | ⟨c_7, h⟩
    · refine r_t2 (pc' := 58) (L' := []) hq (z_at.mk 3 rfl rfl) rfl hx1 (rfl : (-1 : Int32).toInt = -1) c_7 rfl rfl ?_
      refine r_p hq 1 (pc' := 59) (L' := []) (st' := [.int ((0 : Int32))]) rfl ?_
      cases h
      exact r_ri hq (z_at.mk 1 rfl rfl) rfl rfl (rfl : (0 : Int32).toInt = 0) rfl H
    · refine r_f2 (pc' := 10) (L' := [(0, .int X0), (1, .int X1)]) hq (z_at.mk 3 rfl rfl) rfl hx1 (rfl : (-1 : Int32).toInt = -1) c_7 rfl rfl ?_
      refine r_p hq 1 (pc' := 11) (L' := [(0, .int X0), (1, .int X1)]) (st' := [.int X0]) rfl ?_
      obtain ⟨o_11, h_11, h⟩ := Option.bind_eq_some_iff.mp h
      refine r_csI (pc' := 14) (L' := [(0, .int X0), (1, .int X1)]) (As := [.int X0]) (rest := []) (j := 4) hq (z_at.mk 3 rfl rfl) (Or.inl ⟨rfl, rfl⟩) rfl rfl (by omega) (g_b_x0_ok hx0 H h_11) rfl rfl ?_
      intro R_11 m_11 p_11 e_11 hR_11 H_11
      subst e_11
      refine r_p hq 1 (pc' := 15) (L' := [(0, .int X0), (1, .int X1)]) (st' := [.int X1, .int R_11]) rfl ?_
      obtain ⟨o_15, h_15, h⟩ := Option.bind_eq_some_iff.mp h
      refine r_csI (pc' := 18) (L' := [(0, .int X0), (1, .int X1)]) (As := [.int X1]) (rest := [.int R_11]) (j := 5) hq (z_at.mk 3 rfl rfl) (Or.inl ⟨rfl, rfl⟩) rfl rfl (by omega) (g_b_x1_ok hx1 H_11 h_15) rfl rfl ?_
      intro R_15 m_15 p_15 e_15 hR_15 H_15
      subst e_15
      rcases z_ite h with ⟨c_18, h⟩ | ⟨c_18, h⟩
      · refine r_t2 (pc' := 58) (L' := []) hq (z_at.mk 3 rfl rfl) rfl hR_11 hR_15 c_18 rfl rfl ?_
        refine r_p hq 1 (pc' := 59) (L' := []) (st' := [.int ((0 : Int32))]) rfl ?_
        cases h
        exact r_ri hq (z_at.mk 1 rfl rfl) rfl rfl (rfl : (0 : Int32).toInt = 0) rfl H_15
      · refine r_f2 (pc' := 21) (L' := [(0, .int X0), (1, .int X1)]) hq (z_at.mk 3 rfl rfl) rfl hR_11 hR_15 c_18 rfl rfl ?_
        refine r_p hq 1 (pc' := 22) (L' := [(0, .int X0), (1, .int X1)]) (st' := [.int X1]) rfl ?_
        obtain ⟨o_22, h_22, h⟩ := Option.bind_eq_some_iff.mp h
        refine r_csI (pc' := 25) (L' := [(0, .int X0), (1, .int X1)]) (As := [.int X1]) (rest := []) (j := 4) hq (z_at.mk 3 rfl rfl) (Or.inl ⟨rfl, rfl⟩) rfl rfl (by omega) (g_b_x0_ok hx1 H_15 h_22) rfl rfl ?_
        intro R_22 m_22 p_22 e_22 hR_22 H_22
        subst e_22
        refine r_p hq 1 (pc' := 26) (L' := [(0, .int X0), (1, .int X1)]) (st' := [.int X0, .int R_22]) rfl ?_
        obtain ⟨o_26, h_26, h⟩ := Option.bind_eq_some_iff.mp h
        refine r_csI (pc' := 29) (L' := [(0, .int X0), (1, .int X1)]) (As := [.int X0]) (rest := [.int R_22]) (j := 5) hq (z_at.mk 3 rfl rfl) (Or.inl ⟨rfl, rfl⟩) rfl rfl (by omega) (g_b_x1_ok hx0 H_22 h_26) rfl rfl ?_
        intro R_26 m_26 p_26 e_26 hR_26 H_26
        subst e_26
        rcases z_ite h with ⟨c_29, h⟩ | ⟨c_29, h⟩
        · refine r_t2 (pc' := 58) (L' := []) hq (z_at.mk 3 rfl rfl) rfl hR_22 hR_26 c_29 rfl rfl ?_
          refine r_p hq 1 (pc' := 59) (L' := []) (st' := [.int ((0 : Int32))]) rfl ?_
          cases h
          exact r_ri hq (z_at.mk 1 rfl rfl) rfl rfl (rfl : (0 : Int32).toInt = 0) rfl H_26
        · refine r_f2 (pc' := 32) (L' := [(0, .int X0), (1, .int X1)]) hq (z_at.mk 3 rfl rfl) rfl hR_22 hR_26 c_29 rfl rfl ?_
          refine r_p hq 1 (pc' := 33) (L' := [(0, .int X0), (1, .int X1)]) (st' := [.int X0]) rfl ?_
          obtain ⟨o_33, h_33, h⟩ := Option.bind_eq_some_iff.mp h
          refine r_csI (pc' := 36) (L' := [(0, .int X0), (1, .int X1)]) (As := [.int X0]) (rest := []) (j := 6) hq (z_at.mk 3 rfl rfl) (Or.inl ⟨rfl, rfl⟩) rfl rfl (by omega) (g_b_y0_ok hx0 H_26 h_33) rfl rfl ?_
          intro R_33 m_33 p_33 e_33 hR_33 H_33
          subst e_33
          refine r_p hq 1 (pc' := 37) (L' := [(0, .int X0), (1, .int X1)]) (st' := [.int X1, .int R_33]) rfl ?_
          obtain ⟨o_37, h_37, h⟩ := Option.bind_eq_some_iff.mp h
          refine r_csI (pc' := 40) (L' := [(0, .int X0), (1, .int X1)]) (As := [.int X1]) (rest := [.int R_33]) (j := 7) hq (z_at.mk 3 rfl rfl) (Or.inl ⟨rfl, rfl⟩) rfl rfl (by omega) (g_b_y1_ok hx1 H_33 h_37) rfl rfl ?_
          intro R_37 m_37 p_37 e_37 hR_37 H_37
          subst e_37
          rcases z_ite h with ⟨c_40, h⟩ | ⟨c_40, h⟩
          · refine r_t2 (pc' := 58) (L' := []) hq (z_at.mk 3 rfl rfl) rfl hR_33 hR_37 c_40 rfl rfl ?_
            refine r_p hq 1 (pc' := 59) (L' := []) (st' := [.int ((0 : Int32))]) rfl ?_
            cases h
            exact r_ri hq (z_at.mk 1 rfl rfl) rfl rfl (rfl : (0 : Int32).toInt = 0) rfl H_37
          · refine r_f2 (pc' := 43) (L' := [(0, .int X0), (1, .int X1)]) hq (z_at.mk 3 rfl rfl) rfl hR_33 hR_37 c_40 rfl rfl ?_
            refine r_p hq 1 (pc' := 44) (L' := [(0, .int X0), (1, .int X1)]) (st' := [.int X1]) rfl ?_
            obtain ⟨o_44, h_44, h⟩ := Option.bind_eq_some_iff.mp h
            refine r_csI (pc' := 47) (L' := [(0, .int X0), (1, .int X1)]) (As := [.int X1]) (rest := []) (j := 6) hq (z_at.mk 3 rfl rfl) (Or.inl ⟨rfl, rfl⟩) rfl rfl (by omega) (g_b_y0_ok hx1 H_37 h_44) rfl rfl ?_
            intro R_44 m_44 p_44 e_44 hR_44 H_44
            subst e_44
            refine r_p hq 1 (pc' := 48) (L' := [(0, .int X0), (1, .int X1)]) (st' := [.int X0, .int R_44]) rfl ?_
            obtain ⟨o_48, h_48, h⟩ := Option.bind_eq_some_iff.mp h
            refine r_csI (pc' := 51) (L' := [(0, .int X0), (1, .int X1)]) (As := [.int X0]) (rest := [.int R_44]) (j := 7) hq (z_at.mk 3 rfl rfl) (Or.inl ⟨rfl, rfl⟩) rfl rfl (by omega) (g_b_y1_ok hx0 H_44 h_48) rfl rfl ?_
            intro R_48 m_48 p_48 e_48 hR_48 H_48
            subst e_48
            rcases z_ite h with ⟨c_51, h⟩ | ⟨c_51, h⟩
            · refine r_t2 (pc' := 58) (L' := []) hq (z_at.mk 3 rfl rfl) rfl hR_44 hR_48 c_51 rfl rfl ?_
              refine r_p hq 1 (pc' := 59) (L' := []) (st' := [.int ((0 : Int32))]) rfl ?_
              cases h
              exact r_ri hq (z_at.mk 1 rfl rfl) rfl rfl (rfl : (0 : Int32).toInt = 0) rfl H_48
            · refine r_f2 (pc' := 54) (L' := [(0, .int X0), (1, .int X1)]) hq (z_at.mk 3 rfl rfl) rfl hR_44 hR_48 c_51 rfl rfl ?_
              refine r_p hq 2 (pc' := 59) (L' := []) (st' := [.int ((1 : Int32))]) rfl ?_
              cases h
              exact r_ri hq (z_at.mk 1 rfl rfl) rfl rfl (rfl : (1 : Int32).toInt = 1) rfl H_48
def g_jMath_min_291 (x0 : Int) (x1 : Int) (σ : zS) : Option (Int × zS) :=
  if x1 < x0 then
    some (x1, σ)
  else
    some (x0, σ)
set_option maxHeartbeats 4000000 in
theorem g_jMath_min_291_ok {xl : Nat} {xs : Nat → Int32} {X0 : Int32} {x0 : Int} (hx0 : X0.toInt = x0) {X1 : Int32} {x1 : Int} (hx1 : X1.toInt = x1) {σ : zS} {p : Nat} {m : zM} {o : Int × zS} (H : zRep xl xs p m σ) (h : g_jMath_min_291 x0 x1 σ = some o) : zGo xl xs (fun p' => p = p') 1 291 0 (z_can 291 0 (lv_args 0 [.int X0, .int X1])) [] m (vI o.1) o.2 := by
  have hq : z_mth 291 = some z_r291 := rfl
  unfold g_jMath_min_291 at h
  show zGo xl xs (fun p' => p = p') 1 291 0 [(0, .int X0), (1, .int X1)] [] m (vI o.1) o.2
  refine r_p hq 2 (pc' := 2) (L' := [(0, .int X0), (1, .int X1)]) (st' := [.int X1, .int X0]) rfl ?_
  rcases z_ite h with ⟨c_2, h⟩ | ⟨c_2, h⟩
  · refine r_t2 (pc' := 9) (L' := [(0, .int X0), (1, .int X1)]) hq (z_at.mk 3 rfl rfl) rfl hx0 hx1 c_2 rfl rfl ?_
    refine r_p hq 1 (pc' := 10) (L' := []) (st' := [.int X1]) rfl ?_
    cases h
    exact r_ri hq (z_at.mk 1 rfl rfl) rfl rfl hx1 rfl H
  · refine r_f2 (pc' := 5) (L' := [(0, .int X0), (1, .int X1)]) hq (z_at.mk 3 rfl rfl) rfl hx0 hx1 c_2 rfl rfl ?_
    refine r_p hq 2 (pc' := 10) (L' := []) (st' := [.int X0]) rfl ?_
    cases h
    exact r_ri hq (z_at.mk 1 rfl rfl) rfl rfl hx0 rfl H
def g_b_common (x0 : Int) (x1 : Int) (σ : zS) : Option (Int × zS) :=
  (g_b_meet x0 x1 σ).bind fun o_2 =>
  if o_2.1 ≠ 0 then
    (g_b_x0 x0 o_2.2).bind fun o_11 =>
    (g_b_x0 x1 o_11.2).bind fun o_15 =>
    (g_jMath_max_289 o_11.1 o_15.1 o_15.2).bind fun o_18 =>
    (g_b_x1 x0 o_18.2).bind fun o_22 =>
    (g_b_x1 x1 o_22.2).bind fun o_26 =>
    (g_jMath_min_291 o_22.1 o_26.1 o_26.2).bind fun o_29 =>
    (g_b_y0 x0 o_29.2).bind fun o_33 =>
    (g_b_y0 x1 o_33.2).bind fun o_37 =>
    (g_jMath_max_289 o_33.1 o_37.1 o_37.2).bind fun o_40 =>
    (g_b_y1 x0 o_40.2).bind fun o_44 =>
    (g_b_y1 x1 o_44.2).bind fun o_48 =>
    (g_jMath_min_291 o_44.1 o_48.1 o_48.2).bind fun o_51 =>
    (g_b_of o_18.1 o_29.1 o_40.1 o_51.1 o_51.2).bind fun o_54 =>
    some (o_54.1, o_54.2)
  else
    some (-1, o_2.2)
set_option maxHeartbeats 4000000 in
theorem g_b_common_ok {xl : Nat} {xs : Nat → Int32} {X0 : Int32} {x0 : Int} (hx0 : X0.toInt = x0) {X1 : Int32} {x1 : Int} (hx1 : X1.toInt = x1) {σ : zS} {p : Nat} {m : zM} {o : Int × zS} (H : zRep xl xs p m σ) (h : g_b_common x0 x1 σ = some o) : zGo xl xs (fun p' => p = p') 3 10 0 (z_can 10 0 (lv_args 0 [.int X0, .int X1])) [] m (vI o.1) o.2 := by
  have hq : z_mth 10 = some z_r10 := rfl
  unfold g_b_common at h
  show zGo xl xs (fun p' => p = p') 3 10 0 [(0, .int X0), (1, .int X1)] [] m (vI o.1) o.2
  refine r_p hq 2 (pc' := 2) (L' := [(0, .int X0), (1, .int X1)]) (st' := [.int X1, .int X0]) rfl ?_
  obtain ⟨o_2, h_2, h⟩ := Option.bind_eq_some_iff.mp h
  refine r_csI (pc' := 5) (L' := [(0, .int X0), (1, .int X1)]) (As := [.int X0, .int X1]) (rest := []) (j := 9) hq (z_at.mk 3 rfl rfl) (Or.inl ⟨rfl, rfl⟩) rfl rfl (by omega) (g_b_meet_ok hx0 hx1 H h_2) rfl rfl ?_
  intro R_2 m_2 p_2 e_2 hR_2 H_2
  subst e_2
  rcases z_ite h with ⟨c_5, h⟩ | ⟨c_5, h⟩
  · refine r_t1 (pc' := 10) (L' := [(0, .int X0), (1, .int X1)]) hq (z_at.mk 3 rfl rfl) rfl hR_2 c_5 rfl rfl ?_
    refine r_p hq 1 (pc' := 11) (L' := [(0, .int X0), (1, .int X1)]) (st' := [.int X0]) rfl ?_
    obtain ⟨o_11, h_11, h⟩ := Option.bind_eq_some_iff.mp h
    refine r_csI (pc' := 14) (L' := [(0, .int X0), (1, .int X1)]) (As := [.int X0]) (rest := []) (j := 4) hq (z_at.mk 3 rfl rfl) (Or.inl ⟨rfl, rfl⟩) rfl rfl (by omega) (g_b_x0_ok hx0 H_2 h_11) rfl rfl ?_
    intro R_11 m_11 p_11 e_11 hR_11 H_11
    subst e_11
    refine r_p hq 1 (pc' := 15) (L' := [(0, .int X0), (1, .int X1)]) (st' := [.int X1, .int R_11]) rfl ?_
    obtain ⟨o_15, h_15, h⟩ := Option.bind_eq_some_iff.mp h
    refine r_csI (pc' := 18) (L' := [(0, .int X0), (1, .int X1)]) (As := [.int X1]) (rest := [.int R_11]) (j := 4) hq (z_at.mk 3 rfl rfl) (Or.inl ⟨rfl, rfl⟩) rfl rfl (by omega) (g_b_x0_ok hx1 H_11 h_15) rfl rfl ?_
    intro R_15 m_15 p_15 e_15 hR_15 H_15
    subst e_15
    obtain ⟨o_18, h_18, h⟩ := Option.bind_eq_some_iff.mp h
    refine r_csI (pc' := 21) (L' := [(0, .int X0), (1, .int X1)]) (As := [.int R_11, .int R_15]) (rest := []) (j := 289) hq (z_at.mk 3 rfl rfl) (Or.inl ⟨rfl, rfl⟩) rfl rfl (by omega) (g_jMath_max_289_ok hR_11 hR_15 H_15 h_18) rfl rfl ?_
    intro R_18 m_18 p_18 e_18 hR_18 H_18
    subst e_18
    refine r_p hq 1 (pc' := 22) (L' := [(0, .int X0), (1, .int X1)]) (st' := [.int X0, .int R_18]) rfl ?_
    obtain ⟨o_22, h_22, h⟩ := Option.bind_eq_some_iff.mp h
    refine r_csI (pc' := 25) (L' := [(0, .int X0), (1, .int X1)]) (As := [.int X0]) (rest := [.int R_18]) (j := 5) hq (z_at.mk 3 rfl rfl) (Or.inl ⟨rfl, rfl⟩) rfl rfl (by omega) (g_b_x1_ok hx0 H_18 h_22) rfl rfl ?_
    intro R_22 m_22 p_22 e_22 hR_22 H_22
    subst e_22
    refine r_p hq 1 (pc' := 26) (L' := [(0, .int X0), (1, .int X1)]) (st' := [.int X1, .int R_22, .int R_18]) rfl ?_
    obtain ⟨o_26, h_26, h⟩ := Option.bind_eq_some_iff.mp h
    refine r_csI (pc' := 29) (L' := [(0, .int X0), (1, .int X1)]) (As := [.int X1]) (rest := [.int R_22, .int R_18]) (j := 5) hq (z_at.mk 3 rfl rfl) (Or.inl ⟨rfl, rfl⟩) rfl rfl (by omega) (g_b_x1_ok hx1 H_22 h_26) rfl rfl ?_
    intro R_26 m_26 p_26 e_26 hR_26 H_26
    subst e_26
    obtain ⟨o_29, h_29, h⟩ := Option.bind_eq_some_iff.mp h
    refine r_csI (pc' := 32) (L' := [(0, .int X0), (1, .int X1)]) (As := [.int R_22, .int R_26]) (rest := [.int R_18]) (j := 291) hq (z_at.mk 3 rfl rfl) (Or.inl ⟨rfl, rfl⟩) rfl rfl (by omega) (g_jMath_min_291_ok hR_22 hR_26 H_26 h_29) rfl rfl ?_
    intro R_29 m_29 p_29 e_29 hR_29 H_29
    subst e_29
    refine r_p hq 1 (pc' := 33) (L' := [(0, .int X0), (1, .int X1)]) (st' := [.int X0, .int R_29, .int R_18]) rfl ?_
    obtain ⟨o_33, h_33, h⟩ := Option.bind_eq_some_iff.mp h
    refine r_csI (pc' := 36) (L' := [(0, .int X0), (1, .int X1)]) (As := [.int X0]) (rest := [.int R_29, .int R_18]) (j := 6) hq (z_at.mk 3 rfl rfl) (Or.inl ⟨rfl, rfl⟩) rfl rfl (by omega) (g_b_y0_ok hx0 H_29 h_33) rfl rfl ?_
    intro R_33 m_33 p_33 e_33 hR_33 H_33
    subst e_33
    refine r_p hq 1 (pc' := 37) (L' := [(0, .int X0), (1, .int X1)]) (st' := [.int X1, .int R_33, .int R_29, .int R_18]) rfl ?_
    obtain ⟨o_37, h_37, h⟩ := Option.bind_eq_some_iff.mp h
    refine r_csI (pc' := 40) (L' := [(0, .int X0), (1, .int X1)]) (As := [.int X1]) (rest := [.int R_33, .int R_29, .int R_18]) (j := 6) hq (z_at.mk 3 rfl rfl) (Or.inl ⟨rfl, rfl⟩) rfl rfl (by omega) (g_b_y0_ok hx1 H_33 h_37) rfl rfl ?_
    intro R_37 m_37 p_37 e_37 hR_37 H_37
    subst e_37
    obtain ⟨o_40, h_40, h⟩ := Option.bind_eq_some_iff.mp h
    refine r_csI (pc' := 43) (L' := [(0, .int X0), (1, .int X1)]) (As := [.int R_33, .int R_37]) (rest := [.int R_29, .int R_18]) (j := 289) hq (z_at.mk 3 rfl rfl) (Or.inl ⟨rfl, rfl⟩) rfl rfl (by omega) (g_jMath_max_289_ok hR_33 hR_37 H_37 h_40) rfl rfl ?_
    intro R_40 m_40 p_40 e_40 hR_40 H_40
    subst e_40
    refine r_p hq 1 (pc' := 44) (L' := [(0, .int X0), (1, .int X1)]) (st' := [.int X0, .int R_40, .int R_29, .int R_18]) rfl ?_
    obtain ⟨o_44, h_44, h⟩ := Option.bind_eq_some_iff.mp h
    refine r_csI (pc' := 47) (L' := [(0, .int X0), (1, .int X1)]) (As := [.int X0]) (rest := [.int R_40, .int R_29, .int R_18]) (j := 7) hq (z_at.mk 3 rfl rfl) (Or.inl ⟨rfl, rfl⟩) rfl rfl (by omega) (g_b_y1_ok hx0 H_40 h_44) rfl rfl ?_
    intro R_44 m_44 p_44 e_44 hR_44 H_44
    subst e_44
    refine r_p hq 1 (pc' := 48) (L' := [(0, .int X0), (1, .int X1)]) (st' := [.int X1, .int R_44, .int R_40, .int R_29, .int R_18]) rfl ?_
    obtain ⟨o_48, h_48, h⟩ := Option.bind_eq_some_iff.mp h
    refine r_csI (pc' := 51) (L' := [(0, .int X0), (1, .int X1)]) (As := [.int X1]) (rest := [.int R_44, .int R_40, .int R_29, .int R_18]) (j := 7) hq (z_at.mk 3 rfl rfl) (Or.inl ⟨rfl, rfl⟩) rfl rfl (by omega) (g_b_y1_ok hx1 H_44 h_48) rfl rfl ?_
    intro R_48 m_48 p_48 e_48 hR_48 H_48
    subst e_48
    obtain ⟨o_51, h_51, h⟩ := Option.bind_eq_some_iff.mp h
    refine r_csI (pc' := 54) (L' := [(0, .int X0), (1, .int X1)]) (As := [.int R_44, .int R_48]) (rest := [.int R_40, .int R_29, .int R_18]) (j := 291) hq (z_at.mk 3 rfl rfl) (Or.inl ⟨rfl, rfl⟩) rfl rfl (by omega) (g_jMath_min_291_ok hR_44 hR_48 H_48 h_51) rfl rfl ?_
    intro R_51 m_51 p_51 e_51 hR_51 H_51
    subst e_51
    obtain ⟨o_54, h_54, h⟩ := Option.bind_eq_some_iff.mp h
    refine r_csI (pc' := 57) (L' := [(0, .int X0), (1, .int X1)]) (As := [.int R_18, .int R_29, .int R_40, .int R_51]) (rest := []) (j := 2) hq (z_at.mk 3 rfl rfl) (Or.inl ⟨rfl, rfl⟩) rfl rfl (by omega) (g_b_of_ok hR_18 hR_29 hR_40 hR_51 H_51 h_54) rfl rfl ?_
    intro R_54 m_54 p_54 e_54 hR_54 H_54
    subst e_54
    cases h
    exact r_ri hq (z_at.mk 1 rfl rfl) rfl rfl hR_54 rfl H_54
  · refine r_f1 (pc' := 8) (L' := [(0, .int X0), (1, .int X1)]) hq (z_at.mk 3 rfl rfl) rfl hR_2 c_5 rfl rfl ?_
    refine r_p hq 1 (pc' := 9) (L' := [(0, .int X0), (1, .int X1)]) (st' := [.int ((-1 : Int32))]) rfl ?_
    cases h
    exact r_ri hq (z_at.mk 1 rfl rfl) rfl rfl (rfl : (-1 : Int32).toInt = -1) rfl H_2
def g_b_around (x0 : Int) (x1 : Int) (σ : zS) : Option (Int × zS) :=
  if x0 ≠ -1 then
    if x1 ≠ -1 then
      (g_b_x0 x0 σ).bind fun o_15 =>
      (g_b_x0 x1 o_15.2).bind fun o_19 =>
      (g_jMath_min_291 o_15.1 o_19.1 o_19.2).bind fun o_22 =>
      (g_b_x1 x0 o_22.2).bind fun o_26 =>
      (g_b_x1 x1 o_26.2).bind fun o_30 =>
      (g_jMath_max_289 o_26.1 o_30.1 o_30.2).bind fun o_33 =>
      (g_b_y0 x0 o_33.2).bind fun o_37 =>
      (g_b_y0 x1 o_37.2).bind fun o_41 =>
      (g_jMath_min_291 o_37.1 o_41.1 o_41.2).bind fun o_44 =>
      (g_b_y1 x0 o_44.2).bind fun o_48 =>
      (g_b_y1 x1 o_48.2).bind fun o_52 =>
      (g_jMath_max_289 o_48.1 o_52.1 o_52.2).bind fun o_55 =>
      (g_b_of o_22.1 o_33.1 o_44.1 o_55.1 o_55.2).bind fun o_58 =>
      some (o_58.1, o_58.2)
    else
      some (x0, σ)
  else
    some (x1, σ)
set_option maxHeartbeats 4000000 in
theorem g_b_around_ok {xl : Nat} {xs : Nat → Int32} {X0 : Int32} {x0 : Int} (hx0 : X0.toInt = x0) {X1 : Int32} {x1 : Int} (hx1 : X1.toInt = x1) {σ : zS} {p : Nat} {m : zM} {o : Int × zS} (H : zRep xl xs p m σ) (h : g_b_around x0 x1 σ = some o) : zGo xl xs (fun p' => p = p') 2 11 0 (z_can 11 0 (lv_args 0 [.int X0, .int X1])) [] m (vI o.1) o.2 := by
  have hq : z_mth 11 = some z_r11 := rfl
  unfold g_b_around at h
  show zGo xl xs (fun p' => p = p') 2 11 0 [(0, .int X0), (1, .int X1)] [] m (vI o.1) o.2
  refine r_p hq 2 (pc' := 2) (L' := [(0, .int X0), (1, .int X1)]) (st' := [.int ((-1 : Int32)), .int X0]) rfl ?_
  rcases z_ite h with ⟨c_2, h⟩ | ⟨c_2, h⟩
  · refine r_t2 (pc' := 7) (L' := [(0, .int X0), (1, .int X1)]) hq (z_at.mk 3 rfl rfl) rfl hx0 (rfl : (-1 : Int32).toInt = -1) c_2 rfl rfl ?_
    refine r_p hq 2 (pc' := 9) (L' := [(0, .int X0), (1, .int X1)]) (st' := [.int ((-1 : Int32)), .int X1]) rfl ?_
    rcases z_ite h with ⟨c_9, h⟩ | ⟨c_9, h⟩
    · refine r_t2 (pc' := 14) (L' := [(0, .int X0), (1, .int X1)]) hq (z_at.mk 3 rfl rfl) rfl hx1 (rfl : (-1 : Int32).toInt = -1) c_9 rfl rfl ?_
      refine r_p hq 1 (pc' := 15) (L' := [(0, .int X0), (1, .int X1)]) (st' := [.int X0]) rfl ?_
      obtain ⟨o_15, h_15, h⟩ := Option.bind_eq_some_iff.mp h
      refine r_csI (pc' := 18) (L' := [(0, .int X0), (1, .int X1)]) (As := [.int X0]) (rest := []) (j := 4) hq (z_at.mk 3 rfl rfl) (Or.inl ⟨rfl, rfl⟩) rfl rfl (by omega) (g_b_x0_ok hx0 H h_15) rfl rfl ?_
      intro R_15 m_15 p_15 e_15 hR_15 H_15
      subst e_15
      refine r_p hq 1 (pc' := 19) (L' := [(0, .int X0), (1, .int X1)]) (st' := [.int X1, .int R_15]) rfl ?_
      obtain ⟨o_19, h_19, h⟩ := Option.bind_eq_some_iff.mp h
      refine r_csI (pc' := 22) (L' := [(0, .int X0), (1, .int X1)]) (As := [.int X1]) (rest := [.int R_15]) (j := 4) hq (z_at.mk 3 rfl rfl) (Or.inl ⟨rfl, rfl⟩) rfl rfl (by omega) (g_b_x0_ok hx1 H_15 h_19) rfl rfl ?_
      intro R_19 m_19 p_19 e_19 hR_19 H_19
      subst e_19
      obtain ⟨o_22, h_22, h⟩ := Option.bind_eq_some_iff.mp h
      refine r_csI (pc' := 25) (L' := [(0, .int X0), (1, .int X1)]) (As := [.int R_15, .int R_19]) (rest := []) (j := 291) hq (z_at.mk 3 rfl rfl) (Or.inl ⟨rfl, rfl⟩) rfl rfl (by omega) (g_jMath_min_291_ok hR_15 hR_19 H_19 h_22) rfl rfl ?_
      intro R_22 m_22 p_22 e_22 hR_22 H_22
      subst e_22
      refine r_p hq 1 (pc' := 26) (L' := [(0, .int X0), (1, .int X1)]) (st' := [.int X0, .int R_22]) rfl ?_
      obtain ⟨o_26, h_26, h⟩ := Option.bind_eq_some_iff.mp h
      refine r_csI (pc' := 29) (L' := [(0, .int X0), (1, .int X1)]) (As := [.int X0]) (rest := [.int R_22]) (j := 5) hq (z_at.mk 3 rfl rfl) (Or.inl ⟨rfl, rfl⟩) rfl rfl (by omega) (g_b_x1_ok hx0 H_22 h_26) rfl rfl ?_
      intro R_26 m_26 p_26 e_26 hR_26 H_26
      subst e_26
      refine r_p hq 1 (pc' := 30) (L' := [(0, .int X0), (1, .int X1)]) (st' := [.int X1, .int R_26, .int R_22]) rfl ?_
      obtain ⟨o_30, h_30, h⟩ := Option.bind_eq_some_iff.mp h
      refine r_csI (pc' := 33) (L' := [(0, .int X0), (1, .int X1)]) (As := [.int X1]) (rest := [.int R_26, .int R_22]) (j := 5) hq (z_at.mk 3 rfl rfl) (Or.inl ⟨rfl, rfl⟩) rfl rfl (by omega) (g_b_x1_ok hx1 H_26 h_30) rfl rfl ?_
      intro R_30 m_30 p_30 e_30 hR_30 H_30
      subst e_30
      obtain ⟨o_33, h_33, h⟩ := Option.bind_eq_some_iff.mp h
      refine r_csI (pc' := 36) (L' := [(0, .int X0), (1, .int X1)]) (As := [.int R_26, .int R_30]) (rest := [.int R_22]) (j := 289) hq (z_at.mk 3 rfl rfl) (Or.inl ⟨rfl, rfl⟩) rfl rfl (by omega) (g_jMath_max_289_ok hR_26 hR_30 H_30 h_33) rfl rfl ?_
      intro R_33 m_33 p_33 e_33 hR_33 H_33
      subst e_33
      refine r_p hq 1 (pc' := 37) (L' := [(0, .int X0), (1, .int X1)]) (st' := [.int X0, .int R_33, .int R_22]) rfl ?_
      obtain ⟨o_37, h_37, h⟩ := Option.bind_eq_some_iff.mp h
      refine r_csI (pc' := 40) (L' := [(0, .int X0), (1, .int X1)]) (As := [.int X0]) (rest := [.int R_33, .int R_22]) (j := 6) hq (z_at.mk 3 rfl rfl) (Or.inl ⟨rfl, rfl⟩) rfl rfl (by omega) (g_b_y0_ok hx0 H_33 h_37) rfl rfl ?_
      intro R_37 m_37 p_37 e_37 hR_37 H_37
      subst e_37
      refine r_p hq 1 (pc' := 41) (L' := [(0, .int X0), (1, .int X1)]) (st' := [.int X1, .int R_37, .int R_33, .int R_22]) rfl ?_
      obtain ⟨o_41, h_41, h⟩ := Option.bind_eq_some_iff.mp h
      refine r_csI (pc' := 44) (L' := [(0, .int X0), (1, .int X1)]) (As := [.int X1]) (rest := [.int R_37, .int R_33, .int R_22]) (j := 6) hq (z_at.mk 3 rfl rfl) (Or.inl ⟨rfl, rfl⟩) rfl rfl (by omega) (g_b_y0_ok hx1 H_37 h_41) rfl rfl ?_
      intro R_41 m_41 p_41 e_41 hR_41 H_41
      subst e_41
      obtain ⟨o_44, h_44, h⟩ := Option.bind_eq_some_iff.mp h
      refine r_csI (pc' := 47) (L' := [(0, .int X0), (1, .int X1)]) (As := [.int R_37, .int R_41]) (rest := [.int R_33, .int R_22]) (j := 291) hq (z_at.mk 3 rfl rfl) (Or.inl ⟨rfl, rfl⟩) rfl rfl (by omega) (g_jMath_min_291_ok hR_37 hR_41 H_41 h_44) rfl rfl ?_
      intro R_44 m_44 p_44 e_44 hR_44 H_44
      subst e_44
      refine r_p hq 1 (pc' := 48) (L' := [(0, .int X0), (1, .int X1)]) (st' := [.int X0, .int R_44, .int R_33, .int R_22]) rfl ?_
      obtain ⟨o_48, h_48, h⟩ := Option.bind_eq_some_iff.mp h
      refine r_csI (pc' := 51) (L' := [(0, .int X0), (1, .int X1)]) (As := [.int X0]) (rest := [.int R_44, .int R_33, .int R_22]) (j := 7) hq (z_at.mk 3 rfl rfl) (Or.inl ⟨rfl, rfl⟩) rfl rfl (by omega) (g_b_y1_ok hx0 H_44 h_48) rfl rfl ?_
      intro R_48 m_48 p_48 e_48 hR_48 H_48
      subst e_48
      refine r_p hq 1 (pc' := 52) (L' := [(0, .int X0), (1, .int X1)]) (st' := [.int X1, .int R_48, .int R_44, .int R_33, .int R_22]) rfl ?_
      obtain ⟨o_52, h_52, h⟩ := Option.bind_eq_some_iff.mp h
      refine r_csI (pc' := 55) (L' := [(0, .int X0), (1, .int X1)]) (As := [.int X1]) (rest := [.int R_48, .int R_44, .int R_33, .int R_22]) (j := 7) hq (z_at.mk 3 rfl rfl) (Or.inl ⟨rfl, rfl⟩) rfl rfl (by omega) (g_b_y1_ok hx1 H_48 h_52) rfl rfl ?_
      intro R_52 m_52 p_52 e_52 hR_52 H_52
      subst e_52
      obtain ⟨o_55, h_55, h⟩ := Option.bind_eq_some_iff.mp h
      refine r_csI (pc' := 58) (L' := [(0, .int X0), (1, .int X1)]) (As := [.int R_48, .int R_52]) (rest := [.int R_44, .int R_33, .int R_22]) (j := 289) hq (z_at.mk 3 rfl rfl) (Or.inl ⟨rfl, rfl⟩) rfl rfl (by omega) (g_jMath_max_289_ok hR_48 hR_52 H_52 h_55) rfl rfl ?_
      intro R_55 m_55 p_55 e_55 hR_55 H_55
      subst e_55
      obtain ⟨o_58, h_58, h⟩ := Option.bind_eq_some_iff.mp h
      refine r_csI (pc' := 61) (L' := [(0, .int X0), (1, .int X1)]) (As := [.int R_22, .int R_33, .int R_44, .int R_55]) (rest := []) (j := 2) hq (z_at.mk 3 rfl rfl) (Or.inl ⟨rfl, rfl⟩) rfl rfl (by omega) (g_b_of_ok hR_22 hR_33 hR_44 hR_55 H_55 h_58) rfl rfl ?_
      intro R_58 m_58 p_58 e_58 hR_58 H_58
      subst e_58
      cases h
      exact r_ri hq (z_at.mk 1 rfl rfl) rfl rfl hR_58 rfl H_58
    · refine r_f2 (pc' := 12) (L' := [(0, .int X0), (1, .int X1)]) hq (z_at.mk 3 rfl rfl) rfl hx1 (rfl : (-1 : Int32).toInt = -1) c_9 rfl rfl ?_
      refine r_p hq 1 (pc' := 13) (L' := [(0, .int X0), (1, .int X1)]) (st' := [.int X0]) rfl ?_
      cases h
      exact r_ri hq (z_at.mk 1 rfl rfl) rfl rfl hx0 rfl H
  · refine r_f2 (pc' := 5) (L' := [(0, .int X0), (1, .int X1)]) hq (z_at.mk 3 rfl rfl) rfl hx0 (rfl : (-1 : Int32).toInt = -1) c_2 rfl rfl ?_
    refine r_p hq 1 (pc' := 6) (L' := [(0, .int X0), (1, .int X1)]) (st' := [.int X1]) rfl ?_
    cases h
    exact r_ri hq (z_at.mk 1 rfl rfl) rfl rfl hx1 rfl H
def g_b_join_L111 (x3 : Int) (x4 : Int) (σ : zS) : Option (Int × zS) :=
  if x3 = 0 then
    some (0, σ)
  else
    if x4 = 0 then
      some (0, σ)
    else
      some (1, σ)
set_option maxHeartbeats 4000000 in
theorem g_b_join_L111_ok {xl : Nat} {xs : Nat → Int32} {X3 : Int32} {x3 : Int} (hx3 : X3.toInt = x3) {X4 : Int32} {x4 : Int} (hx4 : X4.toInt = x4) {σ : zS} {p : Nat} {m : zM} {o : Int × zS} (H : zRep xl xs p m σ) (h : g_b_join_L111 x3 x4 σ = some o) : zGo xl xs (fun p' => p = p') 2 12 111 [(3, .int X3), (4, .int X4)] [] m (vI o.1) o.2 := by
  have hq : z_mth 12 = some z_r12 := rfl
  unfold g_b_join_L111 at h
  refine r_p hq 1 (pc' := 112) (L' := [(3, .int X3), (4, .int X4)]) (st' := [.int X3]) rfl ?_
  rcases z_ite h with ⟨c_112, h⟩ | ⟨c_112, h⟩
  · refine r_t1 (pc' := 124) (L' := []) hq (z_at.mk 3 rfl rfl) rfl hx3 c_112 rfl rfl ?_
    refine r_p hq 1 (pc' := 125) (L' := []) (st' := [.int ((0 : Int32))]) rfl ?_
    cases h
    exact r_ri hq (z_at.mk 1 rfl rfl) rfl rfl (rfl : (0 : Int32).toInt = 0) rfl H
  · refine r_f1 (pc' := 115) (L' := [(3, .int X3), (4, .int X4)]) hq (z_at.mk 3 rfl rfl) rfl hx3 c_112 rfl rfl ?_
    refine r_p hq 1 (pc' := 117) (L' := [(3, .int X3), (4, .int X4)]) (st' := [.int X4]) rfl ?_
    rcases z_ite h with ⟨c_117, h⟩ | ⟨c_117, h⟩
    · refine r_t1 (pc' := 124) (L' := []) hq (z_at.mk 3 rfl rfl) rfl hx4 c_117 rfl rfl ?_
      refine r_p hq 1 (pc' := 125) (L' := []) (st' := [.int ((0 : Int32))]) rfl ?_
      cases h
      exact r_ri hq (z_at.mk 1 rfl rfl) rfl rfl (rfl : (0 : Int32).toInt = 0) rfl H
    · refine r_f1 (pc' := 120) (L' := []) hq (z_at.mk 3 rfl rfl) rfl hx4 c_117 rfl rfl ?_
      refine r_p hq 2 (pc' := 125) (L' := []) (st' := [.int ((1 : Int32))]) rfl ?_
      cases h
      exact r_ri hq (z_at.mk 1 rfl rfl) rfl rfl (rfl : (1 : Int32).toInt = 1) rfl H
def g_b_join_L100 (x2 : Int) (x3 : Int) (x4 : Int) (xs0 : Int) (σ : zS) : Option (Int × zS) :=
  if x2 = 0 then
    g_b_join_L111 x3 x4 σ
  else
    if xs0 ≠ 0 then
      some (1, σ)
    else
      g_b_join_L111 x3 x4 σ
set_option maxHeartbeats 4000000 in
theorem g_b_join_L100_ok {xl : Nat} {xs : Nat → Int32} {X2 : Int32} {x2 : Int} (hx2 : X2.toInt = x2) {X3 : Int32} {x3 : Int} (hx3 : X3.toInt = x3) {X4 : Int32} {x4 : Int} (hx4 : X4.toInt = x4) {Xs0 : Int32} {xs0 : Int} (hxs0 : Xs0.toInt = xs0) {σ : zS} {p : Nat} {m : zM} {o : Int × zS} (H : zRep xl xs p m σ) (h : g_b_join_L100 x2 x3 x4 xs0 σ = some o) : zGo xl xs (fun p' => p = p') 2 12 100 [(2, .int X2), (3, .int X3), (4, .int X4)] [.int Xs0] m (vI o.1) o.2 := by
  have hq : z_mth 12 = some z_r12 := rfl
  unfold g_b_join_L100 at h
  refine r_p hq 2 (pc' := 103) (L' := [(5, .int Xs0), (2, .int X2), (3, .int X3), (4, .int X4)]) (st' := [.int X2]) rfl ?_
  rcases z_ite h with ⟨c_103, h⟩ | ⟨c_103, h⟩
  · refine r_t1 (pc' := 111) (L' := [(3, .int X3), (4, .int X4)]) hq (z_at.mk 3 rfl rfl) rfl hx2 c_103 rfl rfl ?_
    exact g_b_join_L111_ok hx3 hx4 H h
  · refine r_f1 (pc' := 106) (L' := [(5, .int Xs0), (2, .int X2), (3, .int X3), (4, .int X4)]) hq (z_at.mk 3 rfl rfl) rfl hx2 c_103 rfl rfl ?_
    refine r_p hq 1 (pc' := 108) (L' := [(5, .int Xs0), (2, .int X2), (3, .int X3), (4, .int X4)]) (st' := [.int Xs0]) rfl ?_
    rcases z_ite h with ⟨c_108, h⟩ | ⟨c_108, h⟩
    · refine r_t1 (pc' := 120) (L' := []) hq (z_at.mk 3 rfl rfl) rfl hxs0 c_108 rfl rfl ?_
      refine r_p hq 2 (pc' := 125) (L' := []) (st' := [.int ((1 : Int32))]) rfl ?_
      cases h
      exact r_ri hq (z_at.mk 1 rfl rfl) rfl rfl (rfl : (1 : Int32).toInt = 1) rfl H
    · refine r_f1 (pc' := 111) (L' := [(3, .int X3), (4, .int X4)]) hq (z_at.mk 3 rfl rfl) rfl hxs0 c_108 rfl rfl ?_
      exact g_b_join_L111_ok hx3 hx4 H h
def g_b_join_L82 (x0 : Int) (x1 : Int) (x2 : Int) (x3 : Int) (xs0 : Int) (σ : zS) : Option (Int × zS) :=
  if iShr x0 10 ≠ iShr x1 10 then
    g_b_join_L100 x2 x3 xs0 0 σ
  else
    g_b_join_L100 x2 x3 xs0 1 σ
set_option maxHeartbeats 4000000 in
theorem g_b_join_L82_ok {xl : Nat} {xs : Nat → Int32} {X0 : Int32} {x0 : Int} (hx0 : X0.toInt = x0) {X1 : Int32} {x1 : Int} (hx1 : X1.toInt = x1) {X2 : Int32} {x2 : Int} (hx2 : X2.toInt = x2) {X3 : Int32} {x3 : Int} (hx3 : X3.toInt = x3) {Xs0 : Int32} {xs0 : Int} (hxs0 : Xs0.toInt = xs0) {σ : zS} {p : Nat} {m : zM} {o : Int × zS} (H : zRep xl xs p m σ) (h : g_b_join_L82 x0 x1 x2 x3 xs0 σ = some o) : zGo xl xs (fun p' => p = p') 2 12 82 [(0, .int X0), (1, .int X1), (2, .int X2), (3, .int X3)] [.int Xs0] m (vI o.1) o.2 := by
  have hq : z_mth 12 = some z_r12 := rfl
  unfold g_b_join_L82 at h
  refine r_p hq 7 (pc' := 92) (L' := [(4, .int Xs0), (0, .int X0), (1, .int X1), (2, .int X2), (3, .int X3)]) (st' := [.int (X1 >>> (((10 : Int32)) &&& 31)), .int (X0 >>> (((10 : Int32)) &&& 31))]) rfl ?_
  rcases z_ite h with ⟨c_92, h⟩ | ⟨c_92, h⟩
  · refine r_t2 (pc' := 99) (L' := [(4, .int Xs0), (0, .int X0), (1, .int X1), (2, .int X2), (3, .int X3)]) hq (z_at.mk 3 rfl rfl) rfl (tx_ishr hx0 (rfl : (10 : Int32).toInt = 10)) (tx_ishr hx1 (rfl : (10 : Int32).toInt = 10)) c_92 rfl rfl ?_
    refine r_p hq 1 (pc' := 100) (L' := [(2, .int X2), (3, .int X3), (4, .int Xs0)]) (st' := [.int ((0 : Int32))]) rfl ?_
    exact g_b_join_L100_ok hx2 hx3 hxs0 (rfl : (0 : Int32).toInt = 0) H h
  · refine r_f2 (pc' := 95) (L' := [(4, .int Xs0), (0, .int X0), (1, .int X1), (2, .int X2), (3, .int X3)]) hq (z_at.mk 3 rfl rfl) rfl (tx_ishr hx0 (rfl : (10 : Int32).toInt = 10)) (tx_ishr hx1 (rfl : (10 : Int32).toInt = 10)) c_92 rfl rfl ?_
    refine r_p hq 2 (pc' := 100) (L' := [(2, .int X2), (3, .int X3), (4, .int Xs0)]) (st' := [.int ((1 : Int32))]) rfl ?_
    exact g_b_join_L100_ok hx2 hx3 hxs0 (rfl : (1 : Int32).toInt = 1) H h
def g_b_join_L63 (x0 : Int) (x1 : Int) (x2 : Int) (xs0 : Int) (σ : zS) : Option (Int × zS) :=
  if iAnd x0 1023 ≠ iAnd x1 1023 then
    g_b_join_L82 x0 x1 x2 xs0 0 σ
  else
    g_b_join_L82 x0 x1 x2 xs0 1 σ
set_option maxHeartbeats 4000000 in
theorem g_b_join_L63_ok {xl : Nat} {xs : Nat → Int32} {X0 : Int32} {x0 : Int} (hx0 : X0.toInt = x0) {X1 : Int32} {x1 : Int} (hx1 : X1.toInt = x1) {X2 : Int32} {x2 : Int} (hx2 : X2.toInt = x2) {Xs0 : Int32} {xs0 : Int} (hxs0 : Xs0.toInt = xs0) {σ : zS} {p : Nat} {m : zM} {o : Int × zS} (H : zRep xl xs p m σ) (h : g_b_join_L63 x0 x1 x2 xs0 σ = some o) : zGo xl xs (fun p' => p = p') 2 12 63 [(0, .int X0), (1, .int X1), (2, .int X2)] [.int Xs0] m (vI o.1) o.2 := by
  have hq : z_mth 12 = some z_r12 := rfl
  unfold g_b_join_L63 at h
  refine r_p hq 7 (pc' := 74) (L' := [(3, .int Xs0), (0, .int X0), (1, .int X1), (2, .int X2)]) (st' := [.int (X1 &&& ((1023 : Int32))), .int (X0 &&& ((1023 : Int32)))]) rfl ?_
  rcases z_ite h with ⟨c_74, h⟩ | ⟨c_74, h⟩
  · refine r_t2 (pc' := 81) (L' := [(3, .int Xs0), (0, .int X0), (1, .int X1), (2, .int X2)]) hq (z_at.mk 3 rfl rfl) rfl (tx_iand hx0 (rfl : (1023 : Int32).toInt = 1023)) (tx_iand hx1 (rfl : (1023 : Int32).toInt = 1023)) c_74 rfl rfl ?_
    refine r_p hq 1 (pc' := 82) (L' := [(0, .int X0), (1, .int X1), (2, .int X2), (3, .int Xs0)]) (st' := [.int ((0 : Int32))]) rfl ?_
    exact g_b_join_L82_ok hx0 hx1 hx2 hxs0 (rfl : (0 : Int32).toInt = 0) H h
  · refine r_f2 (pc' := 77) (L' := [(3, .int Xs0), (0, .int X0), (1, .int X1), (2, .int X2)]) hq (z_at.mk 3 rfl rfl) rfl (tx_iand hx0 (rfl : (1023 : Int32).toInt = 1023)) (tx_iand hx1 (rfl : (1023 : Int32).toInt = 1023)) c_74 rfl rfl ?_
    refine r_p hq 2 (pc' := 82) (L' := [(0, .int X0), (1, .int X1), (2, .int X2), (3, .int Xs0)]) (st' := [.int ((1 : Int32))]) rfl ?_
    exact g_b_join_L82_ok hx0 hx1 hx2 hxs0 (rfl : (1 : Int32).toInt = 1) H h
def g_b_join_L58 (x0 : Int) (x1 : Int) (x2 : Int) (σ : zS) : Option (Int × zS) :=
  g_b_join_L63 x0 x1 x2 1 σ
set_option maxHeartbeats 4000000 in
theorem g_b_join_L58_ok {xl : Nat} {xs : Nat → Int32} {X0 : Int32} {x0 : Int} (hx0 : X0.toInt = x0) {X1 : Int32} {x1 : Int} (hx1 : X1.toInt = x1) {X2 : Int32} {x2 : Int} (hx2 : X2.toInt = x2) {σ : zS} {p : Nat} {m : zM} {o : Int × zS} (H : zRep xl xs p m σ) (h : g_b_join_L58 x0 x1 x2 σ = some o) : zGo xl xs (fun p' => p = p') 2 12 58 [(0, .int X0), (1, .int X1), (2, .int X2)] [] m (vI o.1) o.2 := by
  have hq : z_mth 12 = some z_r12 := rfl
  unfold g_b_join_L58 at h
  refine r_p hq 2 (pc' := 63) (L' := [(0, .int X0), (1, .int X1), (2, .int X2)]) (st' := [.int ((1 : Int32))]) rfl ?_
  exact g_b_join_L63_ok hx0 hx1 hx2 (rfl : (1 : Int32).toInt = 1) H h
def g_b_join_L31 (x0 : Int) (x1 : Int) (xs0 : Int) (σ : zS) : Option (Int × zS) :=
  (g_b_y1 x0 σ).bind fun o_33 =>
  (g_b_y0 x1 o_33.2).bind fun o_39 =>
  if w32 (o_33.1 + 1) = o_39.1 then
    g_b_join_L58 x0 x1 xs0 o_39.2
  else
    (g_b_y1 x1 o_39.2).bind fun o_46 =>
    (g_b_y0 x0 o_46.2).bind fun o_52 =>
    if w32 (o_46.1 + 1) ≠ o_52.1 then
      g_b_join_L63 x0 x1 xs0 0 o_52.2
    else
      g_b_join_L58 x0 x1 xs0 o_52.2
set_option maxHeartbeats 4000000 in
theorem g_b_join_L31_ok {xl : Nat} {xs : Nat → Int32} {X0 : Int32} {x0 : Int} (hx0 : X0.toInt = x0) {X1 : Int32} {x1 : Int} (hx1 : X1.toInt = x1) {Xs0 : Int32} {xs0 : Int} (hxs0 : Xs0.toInt = xs0) {σ : zS} {p : Nat} {m : zM} {o : Int × zS} (H : zRep xl xs p m σ) (h : g_b_join_L31 x0 x1 xs0 σ = some o) : zGo xl xs (fun p' => p = p') 2 12 31 [(0, .int X0), (1, .int X1)] [.int Xs0] m (vI o.1) o.2 := by
  have hq : z_mth 12 = some z_r12 := rfl
  unfold g_b_join_L31 at h
  refine r_p hq 2 (pc' := 33) (L' := [(2, .int Xs0), (0, .int X0), (1, .int X1)]) (st' := [.int X0]) rfl ?_
  obtain ⟨o_33, h_33, h⟩ := Option.bind_eq_some_iff.mp h
  refine r_csI (pc' := 36) (L' := [(2, .int Xs0), (0, .int X0), (1, .int X1)]) (As := [.int X0]) (rest := []) (j := 7) hq (z_at.mk 3 rfl rfl) (Or.inl ⟨rfl, rfl⟩) rfl rfl (by omega) (g_b_y1_ok hx0 H h_33) rfl rfl ?_
  intro R_33 m_33 p_33 e_33 hR_33 H_33
  subst e_33
  refine r_p hq 3 (pc' := 39) (L' := [(2, .int Xs0), (0, .int X0), (1, .int X1)]) (st' := [.int X1, .int (R_33 + ((1 : Int32)))]) rfl ?_
  obtain ⟨o_39, h_39, h⟩ := Option.bind_eq_some_iff.mp h
  refine r_csI (pc' := 42) (L' := [(2, .int Xs0), (0, .int X0), (1, .int X1)]) (As := [.int X1]) (rest := [.int (R_33 + ((1 : Int32)))]) (j := 6) hq (z_at.mk 3 rfl rfl) (Or.inl ⟨rfl, rfl⟩) rfl rfl (by omega) (g_b_y0_ok hx1 H_33 h_39) rfl rfl ?_
  intro R_39 m_39 p_39 e_39 hR_39 H_39
  subst e_39
  rcases z_ite h with ⟨c_42, h⟩ | ⟨c_42, h⟩
  · refine r_t2 (pc' := 58) (L' := [(0, .int X0), (1, .int X1), (2, .int Xs0)]) hq (z_at.mk 3 rfl rfl) rfl (tx_iadd hR_33 (rfl : (1 : Int32).toInt = 1)) hR_39 c_42 rfl rfl ?_
    exact g_b_join_L58_ok hx0 hx1 hxs0 H_39 h
  · refine r_f2 (pc' := 45) (L' := [(2, .int Xs0), (0, .int X0), (1, .int X1)]) hq (z_at.mk 3 rfl rfl) rfl (tx_iadd hR_33 (rfl : (1 : Int32).toInt = 1)) hR_39 c_42 rfl rfl ?_
    refine r_p hq 1 (pc' := 46) (L' := [(2, .int Xs0), (0, .int X0), (1, .int X1)]) (st' := [.int X1]) rfl ?_
    obtain ⟨o_46, h_46, h⟩ := Option.bind_eq_some_iff.mp h
    refine r_csI (pc' := 49) (L' := [(2, .int Xs0), (0, .int X0), (1, .int X1)]) (As := [.int X1]) (rest := []) (j := 7) hq (z_at.mk 3 rfl rfl) (Or.inl ⟨rfl, rfl⟩) rfl rfl (by omega) (g_b_y1_ok hx1 H_39 h_46) rfl rfl ?_
    intro R_46 m_46 p_46 e_46 hR_46 H_46
    subst e_46
    refine r_p hq 3 (pc' := 52) (L' := [(2, .int Xs0), (0, .int X0), (1, .int X1)]) (st' := [.int X0, .int (R_46 + ((1 : Int32)))]) rfl ?_
    obtain ⟨o_52, h_52, h⟩ := Option.bind_eq_some_iff.mp h
    refine r_csI (pc' := 55) (L' := [(2, .int Xs0), (0, .int X0), (1, .int X1)]) (As := [.int X0]) (rest := [.int (R_46 + ((1 : Int32)))]) (j := 6) hq (z_at.mk 3 rfl rfl) (Or.inl ⟨rfl, rfl⟩) rfl rfl (by omega) (g_b_y0_ok hx0 H_46 h_52) rfl rfl ?_
    intro R_52 m_52 p_52 e_52 hR_52 H_52
    subst e_52
    rcases z_ite h with ⟨c_55, h⟩ | ⟨c_55, h⟩
    · refine r_t2 (pc' := 62) (L' := [(2, .int Xs0), (0, .int X0), (1, .int X1)]) hq (z_at.mk 3 rfl rfl) rfl (tx_iadd hR_46 (rfl : (1 : Int32).toInt = 1)) hR_52 c_55 rfl rfl ?_
      refine r_p hq 1 (pc' := 63) (L' := [(0, .int X0), (1, .int X1), (2, .int Xs0)]) (st' := [.int ((0 : Int32))]) rfl ?_
      exact g_b_join_L63_ok hx0 hx1 hxs0 (rfl : (0 : Int32).toInt = 0) H_52 h
    · refine r_f2 (pc' := 58) (L' := [(0, .int X0), (1, .int X1), (2, .int Xs0)]) hq (z_at.mk 3 rfl rfl) rfl (tx_iadd hR_46 (rfl : (1 : Int32).toInt = 1)) hR_52 c_55 rfl rfl ?_
      exact g_b_join_L58_ok hx0 hx1 hxs0 H_52 h
def g_b_join_L26 (x0 : Int) (x1 : Int) (σ : zS) : Option (Int × zS) :=
  g_b_join_L31 x0 x1 1 σ
set_option maxHeartbeats 4000000 in
theorem g_b_join_L26_ok {xl : Nat} {xs : Nat → Int32} {X0 : Int32} {x0 : Int} (hx0 : X0.toInt = x0) {X1 : Int32} {x1 : Int} (hx1 : X1.toInt = x1) {σ : zS} {p : Nat} {m : zM} {o : Int × zS} (H : zRep xl xs p m σ) (h : g_b_join_L26 x0 x1 σ = some o) : zGo xl xs (fun p' => p = p') 2 12 26 [(0, .int X0), (1, .int X1)] [] m (vI o.1) o.2 := by
  have hq : z_mth 12 = some z_r12 := rfl
  unfold g_b_join_L26 at h
  refine r_p hq 2 (pc' := 31) (L' := [(0, .int X0), (1, .int X1)]) (st' := [.int ((1 : Int32))]) rfl ?_
  exact g_b_join_L31_ok hx0 hx1 (rfl : (1 : Int32).toInt = 1) H h
def g_b_join (x0 : Int) (x1 : Int) (σ : zS) : Option (Int × zS) :=
  (g_b_x1 x0 σ).bind fun o_1 =>
  (g_b_x0 x1 o_1.2).bind fun o_7 =>
  if w32 (o_1.1 + 1) = o_7.1 then
    g_b_join_L26 x0 x1 o_7.2
  else
    (g_b_x1 x1 o_7.2).bind fun o_14 =>
    (g_b_x0 x0 o_14.2).bind fun o_20 =>
    if w32 (o_14.1 + 1) ≠ o_20.1 then
      g_b_join_L31 x0 x1 0 o_20.2
    else
      g_b_join_L26 x0 x1 o_20.2
set_option maxHeartbeats 4000000 in
theorem g_b_join_ok {xl : Nat} {xs : Nat → Int32} {X0 : Int32} {x0 : Int} (hx0 : X0.toInt = x0) {X1 : Int32} {x1 : Int} (hx1 : X1.toInt = x1) {σ : zS} {p : Nat} {m : zM} {o : Int × zS} (H : zRep xl xs p m σ) (h : g_b_join x0 x1 σ = some o) : zGo xl xs (fun p' => p = p') 2 12 0 (z_can 12 0 (lv_args 0 [.int X0, .int X1])) [] m (vI o.1) o.2 := by
  have hq : z_mth 12 = some z_r12 := rfl
  unfold g_b_join at h
  show zGo xl xs (fun p' => p = p') 2 12 0 [(0, .int X0), (1, .int X1)] [] m (vI o.1) o.2
  refine r_p hq 1 (pc' := 1) (L' := [(0, .int X0), (1, .int X1)]) (st' := [.int X0]) rfl ?_
  obtain ⟨o_1, h_1, h⟩ := Option.bind_eq_some_iff.mp h
  refine r_csI (pc' := 4) (L' := [(0, .int X0), (1, .int X1)]) (As := [.int X0]) (rest := []) (j := 5) hq (z_at.mk 3 rfl rfl) (Or.inl ⟨rfl, rfl⟩) rfl rfl (by omega) (g_b_x1_ok hx0 H h_1) rfl rfl ?_
  intro R_1 m_1 p_1 e_1 hR_1 H_1
  subst e_1
  refine r_p hq 3 (pc' := 7) (L' := [(0, .int X0), (1, .int X1)]) (st' := [.int X1, .int (R_1 + ((1 : Int32)))]) rfl ?_
  obtain ⟨o_7, h_7, h⟩ := Option.bind_eq_some_iff.mp h
  refine r_csI (pc' := 10) (L' := [(0, .int X0), (1, .int X1)]) (As := [.int X1]) (rest := [.int (R_1 + ((1 : Int32)))]) (j := 4) hq (z_at.mk 3 rfl rfl) (Or.inl ⟨rfl, rfl⟩) rfl rfl (by omega) (g_b_x0_ok hx1 H_1 h_7) rfl rfl ?_
  intro R_7 m_7 p_7 e_7 hR_7 H_7
  subst e_7
  rcases z_ite h with ⟨c_10, h⟩ | ⟨c_10, h⟩
  · refine r_t2 (pc' := 26) (L' := [(0, .int X0), (1, .int X1)]) hq (z_at.mk 3 rfl rfl) rfl (tx_iadd hR_1 (rfl : (1 : Int32).toInt = 1)) hR_7 c_10 rfl rfl ?_
    exact g_b_join_L26_ok hx0 hx1 H_7 h
  · refine r_f2 (pc' := 13) (L' := [(0, .int X0), (1, .int X1)]) hq (z_at.mk 3 rfl rfl) rfl (tx_iadd hR_1 (rfl : (1 : Int32).toInt = 1)) hR_7 c_10 rfl rfl ?_
    refine r_p hq 1 (pc' := 14) (L' := [(0, .int X0), (1, .int X1)]) (st' := [.int X1]) rfl ?_
    obtain ⟨o_14, h_14, h⟩ := Option.bind_eq_some_iff.mp h
    refine r_csI (pc' := 17) (L' := [(0, .int X0), (1, .int X1)]) (As := [.int X1]) (rest := []) (j := 5) hq (z_at.mk 3 rfl rfl) (Or.inl ⟨rfl, rfl⟩) rfl rfl (by omega) (g_b_x1_ok hx1 H_7 h_14) rfl rfl ?_
    intro R_14 m_14 p_14 e_14 hR_14 H_14
    subst e_14
    refine r_p hq 3 (pc' := 20) (L' := [(0, .int X0), (1, .int X1)]) (st' := [.int X0, .int (R_14 + ((1 : Int32)))]) rfl ?_
    obtain ⟨o_20, h_20, h⟩ := Option.bind_eq_some_iff.mp h
    refine r_csI (pc' := 23) (L' := [(0, .int X0), (1, .int X1)]) (As := [.int X0]) (rest := [.int (R_14 + ((1 : Int32)))]) (j := 4) hq (z_at.mk 3 rfl rfl) (Or.inl ⟨rfl, rfl⟩) rfl rfl (by omega) (g_b_x0_ok hx0 H_14 h_20) rfl rfl ?_
    intro R_20 m_20 p_20 e_20 hR_20 H_20
    subst e_20
    rcases z_ite h with ⟨c_23, h⟩ | ⟨c_23, h⟩
    · refine r_t2 (pc' := 30) (L' := [(0, .int X0), (1, .int X1)]) hq (z_at.mk 3 rfl rfl) rfl (tx_iadd hR_14 (rfl : (1 : Int32).toInt = 1)) hR_20 c_23 rfl rfl ?_
      refine r_p hq 1 (pc' := 31) (L' := [(0, .int X0), (1, .int X1)]) (st' := [.int ((0 : Int32))]) rfl ?_
      exact g_b_join_L31_ok hx0 hx1 (rfl : (0 : Int32).toInt = 0) H_20 h
    · refine r_f2 (pc' := 26) (L' := [(0, .int X0), (1, .int X1)]) hq (z_at.mk 3 rfl rfl) rfl (tx_iadd hR_14 (rfl : (1 : Int32).toInt = 1)) hR_20 c_23 rfl rfl ?_
      exact g_b_join_L26_ok hx0 hx1 H_20 h
def g_bs_add (a0 : Nat) (x1 : Int) (σ : zS) : Option (Int × zS) :=
  let v_1 := σ a0 1
  if v_1 < 0 then
    some (0, σ)
  else
    let v_8 := σ a0 1
    if v_8 < zLI (a0 + 1) then
      let v_26 := σ a0 1
      if 0 ≤ v_26 ∧ v_26 < zLI (a0 + 1) then
      let s_30 := zu σ (a0 + 1) v_26 x1
      let v_33 := s_30 a0 1
      let s_38 := zu s_30 a0 1 (w32 (v_33 + 1))
      some (1, s_38)
      else none
    else
      some (0, σ)
set_option maxHeartbeats 4000000 in
theorem g_bs_add_ok {xl : Nat} {xs : Nat → Int32} {a0 : Nat} (ha0 : zIn [56, 58, 63, 96, 114, 116, 126, 131] a0 = true) {X1 : Int32} {x1 : Int} (hx1 : X1.toInt = x1) {σ : zS} {p : Nat} {m : zM} {o : Int × zS} (H : zRep xl xs p m σ) (h : g_bs_add a0 x1 σ = some o) : zGo xl xs (fun p' => p = p') 1 14 0 (z_can 14 0 (lv_args 0 [.ref a0, .int X1])) [] m (vI o.1) o.2 := by
  have hq : z_mth 14 = some z_r14 := rfl
  unfold g_bs_add at h
  show zGo xl xs (fun p' => p = p') 1 14 0 [(0, .ref a0), (1, .int X1)] [] m (vI o.1) o.2
  refine r_p hq 1 (pc' := 1) (L' := [(0, .ref a0), (1, .int X1)]) (st' := [.ref a0]) rfl ?_
  refine r_gI (pc' := 4) (L' := [(0, .ref a0), (1, .int X1)]) H hq (z_at.mk 3 rfl rfl) rfl (zIn_all (l := [56, 58, 63, 96, 114, 116, 126, 131]) (p := fun a => zQ a 11 1 0) rfl ha0) rfl rfl ?_
  intro V_1 hV_1
  rcases z_ite h with ⟨c_4, h⟩ | ⟨c_4, h⟩
  · refine r_t1 (pc' := 19) (L' := []) hq (z_at.mk 3 rfl rfl) rfl hV_1 c_4 rfl rfl ?_
    refine r_p hq 1 (pc' := 20) (L' := []) (st' := [.int ((0 : Int32))]) rfl ?_
    cases h
    exact r_ri hq (z_at.mk 1 rfl rfl) rfl rfl (rfl : (0 : Int32).toInt = 0) rfl H
  · refine r_f1 (pc' := 7) (L' := [(0, .ref a0), (1, .int X1)]) hq (z_at.mk 3 rfl rfl) rfl hV_1 c_4 rfl rfl ?_
    refine r_p hq 1 (pc' := 8) (L' := [(0, .ref a0), (1, .int X1)]) (st' := [.ref a0]) rfl ?_
    refine r_gI (pc' := 11) (L' := [(0, .ref a0), (1, .int X1)]) H hq (z_at.mk 3 rfl rfl) rfl (zIn_all (l := [56, 58, 63, 96, 114, 116, 126, 131]) (p := fun a => zQ a 11 1 0) rfl ha0) rfl rfl ?_
    intro V_8 hV_8
    refine r_p hq 1 (pc' := 12) (L' := [(0, .ref a0), (1, .int X1)]) (st' := [.ref a0, .int V_8]) rfl ?_
    refine r_gR (b := a0 + 1) (pc' := 15) (L' := [(0, .ref a0), (1, .int X1)]) H hq (z_at.mk 3 rfl rfl) rfl (zIn_all (l := [56, 58, 63, 96, 114, 116, 126, 131]) (p := fun a => zQ a 11 0 (100 + a + 1)) rfl ha0) rfl rfl ?_
    refine r_le (pc' := 16) (L' := [(0, .ref a0), (1, .int X1)]) H hq (z_at.mk 1 rfl rfl) (zIn_all (l := [56, 58, 63, 96, 114, 116, 126, 131]) (p := fun a => zAr (a + 1) 0 (zLI (a + 1))) rfl ha0) rfl rfl rfl ?_
    intro V_15 hV_15
    rcases z_ite h with ⟨c_16, h⟩ | ⟨c_16, h⟩
    · refine r_t2 (pc' := 21) (L' := [(0, .ref a0), (1, .int X1)]) hq (z_at.mk 3 rfl rfl) rfl hV_8 hV_15 c_16 rfl rfl ?_
      refine r_p hq 1 (pc' := 22) (L' := [(0, .ref a0), (1, .int X1)]) (st' := [.ref a0]) rfl ?_
      refine r_gR (b := a0 + 1) (pc' := 25) (L' := [(0, .ref a0), (1, .int X1)]) H hq (z_at.mk 3 rfl rfl) rfl (zIn_all (l := [56, 58, 63, 96, 114, 116, 126, 131]) (p := fun a => zQ a 11 0 (100 + a + 1)) rfl ha0) rfl rfl ?_
      refine r_p hq 1 (pc' := 26) (L' := [(0, .ref a0), (1, .int X1)]) (st' := [.ref a0, .ref (a0 + 1)]) rfl ?_
      refine r_gI (pc' := 29) (L' := [(0, .ref a0), (1, .int X1)]) H hq (z_at.mk 3 rfl rfl) rfl (zIn_all (l := [56, 58, 63, 96, 114, 116, 126, 131]) (p := fun a => zQ a 11 1 0) rfl ha0) rfl rfl ?_
      intro V_26 hV_26
      refine r_p hq 1 (pc' := 30) (L' := [(0, .ref a0), (1, .int X1)]) (st' := [.int X1, .int V_26, .ref (a0 + 1)]) rfl ?_
      obtain ⟨g_30, h⟩ := z_ifo_some h
      refine r_is (pc' := 31) (L' := [(0, .ref a0), (1, .int X1)]) H hq (z_at.mk 1 rfl rfl) (zIn_all (l := [56, 58, 63, 96, 114, 116, 126, 131]) (p := fun a => zAr (a + 1) 0 (zLI (a + 1))) rfl ha0) hV_26 g_30 hx1 rfl rfl ?_
      intro m_30 H_30
      refine r_p hq 2 (pc' := 33) (L' := [(0, .ref a0), (1, .int X1)]) (st' := [.ref a0, .ref a0]) rfl ?_
      refine r_gI (pc' := 36) (L' := [(0, .ref a0), (1, .int X1)]) H_30 hq (z_at.mk 3 rfl rfl) rfl (zIn_all (l := [56, 58, 63, 96, 114, 116, 126, 131]) (p := fun a => zQ a 11 1 0) rfl ha0) rfl rfl ?_
      intro V_33 hV_33
      refine r_p hq 2 (pc' := 38) (L' := [(0, .ref a0), (1, .int X1)]) (st' := [.int (V_33 + ((1 : Int32))), .ref a0]) rfl ?_
      refine r_pI (X := V_33 + ((1 : Int32))) (pc' := 41) (L' := [(0, .ref a0), (1, .int X1)]) H_30 hq (z_at.mk 3 rfl rfl) rfl (zIn_all (l := [56, 58, 63, 96, 114, 116, 126, 131]) (p := fun a => zQ a 11 1 0) rfl ha0) (tx_iadd hV_33 (rfl : (1 : Int32).toInt = 1)) (by decide) rfl rfl rfl rfl ?_
      intro m_38 H_38
      refine r_p hq 1 (pc' := 42) (L' := [(0, .ref a0), (1, .int X1)]) (st' := [.int ((1 : Int32))]) rfl ?_
      cases h
      exact r_ri hq (z_at.mk 1 rfl rfl) rfl rfl (rfl : (1 : Int32).toInt = 1) rfl H_38
    · refine r_f2 (pc' := 19) (L' := []) hq (z_at.mk 3 rfl rfl) rfl hV_8 hV_15 c_16 rfl rfl ?_
      refine r_p hq 1 (pc' := 20) (L' := []) (st' := [.int ((0 : Int32))]) rfl ?_
      cases h
      exact r_ri hq (z_at.mk 1 rfl rfl) rfl rfl (rfl : (0 : Int32).toInt = 0) rfl H
def g_bs_at (a0 : Nat) (x1 : Int) (σ : zS) : Option (Int × zS) :=
  if x1 < 0 then
    some (-1, σ)
  else
    let v_6 := σ a0 1
    if v_6 ≤ x1 then
      some (-1, σ)
    else
      if zLI (a0 + 1) ≤ x1 then
        some (-1, σ)
      else
        if 0 ≤ x1 ∧ x1 < zLI (a0 + 1) then
        let v_26 := σ (a0 + 1) x1
        some (v_26, σ)
        else none
set_option maxHeartbeats 4000000 in
theorem g_bs_at_ok {xl : Nat} {xs : Nat → Int32} {a0 : Nat} (ha0 : zIn [56, 58, 63, 96, 114, 116, 126, 131] a0 = true) {X1 : Int32} {x1 : Int} (hx1 : X1.toInt = x1) {σ : zS} {p : Nat} {m : zM} {o : Int × zS} (H : zRep xl xs p m σ) (h : g_bs_at a0 x1 σ = some o) : zGo xl xs (fun p' => p = p') 1 15 0 (z_can 15 0 (lv_args 0 [.ref a0, .int X1])) [] m (vI o.1) o.2 := by
  have hq : z_mth 15 = some z_r15 := rfl
  unfold g_bs_at at h
  show zGo xl xs (fun p' => p = p') 1 15 0 [(0, .ref a0), (1, .int X1)] [] m (vI o.1) o.2
  refine r_p hq 1 (pc' := 1) (L' := [(0, .ref a0), (1, .int X1)]) (st' := [.int X1]) rfl ?_
  rcases z_ite h with ⟨c_1, h⟩ | ⟨c_1, h⟩
  · refine r_t1 (pc' := 30) (L' := []) hq (z_at.mk 3 rfl rfl) rfl hx1 c_1 rfl rfl ?_
    refine r_p hq 1 (pc' := 31) (L' := []) (st' := [.int ((-1 : Int32))]) rfl ?_
    cases h
    exact r_ri hq (z_at.mk 1 rfl rfl) rfl rfl (rfl : (-1 : Int32).toInt = -1) rfl H
  · refine r_f1 (pc' := 4) (L' := [(0, .ref a0), (1, .int X1)]) hq (z_at.mk 3 rfl rfl) rfl hx1 c_1 rfl rfl ?_
    refine r_p hq 2 (pc' := 6) (L' := [(0, .ref a0), (1, .int X1)]) (st' := [.ref a0, .int X1]) rfl ?_
    refine r_gI (pc' := 9) (L' := [(0, .ref a0), (1, .int X1)]) H hq (z_at.mk 3 rfl rfl) rfl (zIn_all (l := [56, 58, 63, 96, 114, 116, 126, 131]) (p := fun a => zQ a 11 1 0) rfl ha0) rfl rfl ?_
    intro V_6 hV_6
    rcases z_ite h with ⟨c_9, h⟩ | ⟨c_9, h⟩
    · refine r_t2 (pc' := 30) (L' := []) hq (z_at.mk 3 rfl rfl) rfl hx1 hV_6 c_9 rfl rfl ?_
      refine r_p hq 1 (pc' := 31) (L' := []) (st' := [.int ((-1 : Int32))]) rfl ?_
      cases h
      exact r_ri hq (z_at.mk 1 rfl rfl) rfl rfl (rfl : (-1 : Int32).toInt = -1) rfl H
    · refine r_f2 (pc' := 12) (L' := [(0, .ref a0), (1, .int X1)]) hq (z_at.mk 3 rfl rfl) rfl hx1 hV_6 c_9 rfl rfl ?_
      refine r_p hq 2 (pc' := 14) (L' := [(0, .ref a0), (1, .int X1)]) (st' := [.ref a0, .int X1]) rfl ?_
      refine r_gR (b := a0 + 1) (pc' := 17) (L' := [(0, .ref a0), (1, .int X1)]) H hq (z_at.mk 3 rfl rfl) rfl (zIn_all (l := [56, 58, 63, 96, 114, 116, 126, 131]) (p := fun a => zQ a 11 0 (100 + a + 1)) rfl ha0) rfl rfl ?_
      refine r_le (pc' := 18) (L' := [(0, .ref a0), (1, .int X1)]) H hq (z_at.mk 1 rfl rfl) (zIn_all (l := [56, 58, 63, 96, 114, 116, 126, 131]) (p := fun a => zAr (a + 1) 0 (zLI (a + 1))) rfl ha0) rfl rfl rfl ?_
      intro V_17 hV_17
      rcases z_ite h with ⟨c_18, h⟩ | ⟨c_18, h⟩
      · refine r_t2 (pc' := 30) (L' := []) hq (z_at.mk 3 rfl rfl) rfl hx1 hV_17 c_18 rfl rfl ?_
        refine r_p hq 1 (pc' := 31) (L' := []) (st' := [.int ((-1 : Int32))]) rfl ?_
        cases h
        exact r_ri hq (z_at.mk 1 rfl rfl) rfl rfl (rfl : (-1 : Int32).toInt = -1) rfl H
      · refine r_f2 (pc' := 21) (L' := [(0, .ref a0), (1, .int X1)]) hq (z_at.mk 3 rfl rfl) rfl hx1 hV_17 c_18 rfl rfl ?_
        refine r_p hq 1 (pc' := 22) (L' := [(0, .ref a0), (1, .int X1)]) (st' := [.ref a0]) rfl ?_
        refine r_gR (b := a0 + 1) (pc' := 25) (L' := [(0, .ref a0), (1, .int X1)]) H hq (z_at.mk 3 rfl rfl) rfl (zIn_all (l := [56, 58, 63, 96, 114, 116, 126, 131]) (p := fun a => zQ a 11 0 (100 + a + 1)) rfl ha0) rfl rfl ?_
        refine r_p hq 1 (pc' := 26) (L' := [(0, .ref a0), (1, .int X1)]) (st' := [.int X1, .ref (a0 + 1)]) rfl ?_
        obtain ⟨g_26, h⟩ := z_ifo_some h
        refine r_ia (pc' := 27) (L' := [(0, .ref a0), (1, .int X1)]) H hq (z_at.mk 1 rfl rfl) (zIn_all (l := [56, 58, 63, 96, 114, 116, 126, 131]) (p := fun a => zAr (a + 1) 0 (zLI (a + 1))) rfl ha0) hx1 g_26 rfl rfl ?_
        intro V_26 hV_26
        refine r_p hq 1 (pc' := 31) (L' := []) (st' := [.int V_26]) rfl ?_
        cases h
        exact r_ri hq (z_at.mk 1 rfl rfl) rfl rfl hV_26 rfl H
def g_bs_copyFrom_L7 (a0 : Nat) (a1 : Nat) : Nat → Int → zS → Option (Unit × zS)
  | 0, _, _ => none
  | n + 1, x2, σ =>
    let v_9 := σ a1 1
    if v_9 ≤ x2 then
      some ((), σ)
    else
      (g_bs_at a1 x2 σ).bind fun o_18 =>
      (g_bs_add a0 o_18.1 o_18.2).bind fun o_21 =>
      (g_bs_copyFrom_L7 a0 a1 n) (w32 (x2 + 1)) o_21.2
set_option maxHeartbeats 4000000 in
theorem g_bs_copyFrom_L7_ok {xl : Nat} {xs : Nat → Int32} {a0 : Nat} (ha0 : zIn [56, 58, 63, 96, 114, 116] a0 = true) {a1 : Nat} (ha1 : zIn [56, 58, 63, 96, 114, 116] a1 = true) : ∀ (n : Nat) {X2 : Int32} {x2 : Int} {σ : zS} {p : Nat} {m : zM} {o : Unit × zS}, X2.toInt = x2 → zRep xl xs p m σ → g_bs_copyFrom_L7 a0 a1 n x2 σ = some o → zGo xl xs (fun p' => p = p') 2 16 7 [(0, .ref a0), (1, .ref a1), (2, .int X2)] [] m vV o.2
  | 0, _, _, _, _, _, _, _, _, h => by cases h
  | n + 1, X2, x2, σ, p, m, o, hx2, H, h => by
    have hq : z_mth 16 = some z_r16 := rfl
    have ih := fun {X2 : Int32} {x2 : Int} {σ : zS} {p : Nat} {m : zM} {o : Unit × zS} => g_bs_copyFrom_L7_ok (xl := xl) (xs := xs) ha0 ha1 n (X2 := X2) (x2 := x2) (σ := σ) (p := p) (m := m) (o := o)
    unfold g_bs_copyFrom_L7 at h
    refine r_p hq 2 (pc' := 9) (L' := [(0, .ref a0), (1, .ref a1), (2, .int X2)]) (st' := [.ref a1, .int X2]) rfl ?_
    refine r_gI (pc' := 12) (L' := [(0, .ref a0), (1, .ref a1), (2, .int X2)]) H hq (z_at.mk 3 rfl rfl) rfl (zIn_all (l := [56, 58, 63, 96, 114, 116]) (p := fun a => zQ a 11 1 0) rfl ha1) rfl rfl ?_
    intro V_9 hV_9
    rcases z_ite h with ⟨c_12, h⟩ | ⟨c_12, h⟩
    · refine r_t2 (pc' := 31) (L' := [(0, .ref a0), (1, .ref a1), (2, .int X2)]) hq (z_at.mk 3 rfl rfl) rfl hx2 hV_9 c_12 rfl rfl ?_
      cases h
      exact r_rv hq (z_at.mk 1 rfl rfl) rfl rfl H
    · refine r_f2 (pc' := 15) (L' := [(0, .ref a0), (1, .ref a1), (2, .int X2)]) hq (z_at.mk 3 rfl rfl) rfl hx2 hV_9 c_12 rfl rfl ?_
      refine r_p hq 3 (pc' := 18) (L' := [(0, .ref a0), (1, .ref a1), (2, .int X2)]) (st' := [.int X2, .ref a1, .ref a0]) rfl ?_
      obtain ⟨o_18, h_18, h⟩ := Option.bind_eq_some_iff.mp h
      refine r_cvI (pc' := 21) (L' := [(0, .ref a0), (1, .ref a1), (2, .int X2)]) (Ps := [.int X2]) (rest := [.ref a0]) hq (z_at.mk 3 rfl rfl) (Or.inl ⟨rfl, rfl⟩) rfl rfl (by decide) (by decide) rfl (Nat.not_lt.mpr (Nat.le_of_ble_eq_true rfl)) rfl rfl (z_cat_le 1 rfl (by decide)) (z_lgl_le 2 rfl (by decide)) (by decide) (H.tg (zIn_all (l := [56, 58, 63, 96, 114, 116]) (p := fun a => zT a 11) rfl ha1)) (by omega) (g_bs_at_ok (zIn_all (l := [56, 58, 63, 96, 114, 116]) (p := fun a => zIn [56, 58, 63, 96, 114, 116, 126, 131] a) rfl ha1) hx2 H h_18) rfl rfl ?_
      intro R_18 m_18 p_18 e_18 hR_18 H_18
      subst e_18
      obtain ⟨o_21, h_21, h⟩ := Option.bind_eq_some_iff.mp h
      refine r_cvI (pc' := 24) (L' := [(0, .ref a0), (1, .ref a1), (2, .int X2)]) (Ps := [.int R_18]) (rest := []) hq (z_at.mk 3 rfl rfl) (Or.inl ⟨rfl, rfl⟩) rfl rfl (by decide) (by decide) rfl (Nat.not_lt.mpr (Nat.le_of_ble_eq_true rfl)) rfl rfl (z_cat_le 0 rfl (by decide)) (z_lgl_le 2 rfl (by decide)) (by decide) (H_18.tg (zIn_all (l := [56, 58, 63, 96, 114, 116]) (p := fun a => zT a 11) rfl ha0)) (by omega) (g_bs_add_ok (zIn_all (l := [56, 58, 63, 96, 114, 116]) (p := fun a => zIn [56, 58, 63, 96, 114, 116, 126, 131] a) rfl ha0) hR_18 H_18 h_21) rfl rfl ?_
      intro R_21 m_21 p_21 e_21 hR_21 H_21
      subst e_21
      refine r_p hq 3 (pc' := 7) (L' := [(0, .ref a0), (1, .ref a1), (2, .int (X2 + (1 : Int32)))]) (st' := []) rfl ?_
      exact ih (tx_iadd hx2 (rfl : (1 : Int32).toInt = 1)) H_21 h
def g_bs_copyFrom (a0 : Nat) (a1 : Nat) (σ : zS) : Option (Unit × zS) :=
  let s_2 := zu σ a0 1 0
  g_bs_copyFrom_L7 a0 a1 zK 0 s_2
set_option maxHeartbeats 4000000 in
theorem g_bs_copyFrom_ok {xl : Nat} {xs : Nat → Int32} {a0 : Nat} (ha0 : zIn [56, 58, 63, 96, 114, 116] a0 = true) {a1 : Nat} (ha1 : zIn [56, 58, 63, 96, 114, 116] a1 = true) {σ : zS} {p : Nat} {m : zM} {o : Unit × zS} (H : zRep xl xs p m σ) (h : g_bs_copyFrom a0 a1 σ = some o) : zGo xl xs (fun p' => p = p') 2 16 0 (z_can 16 0 (lv_args 0 [.ref a0, .ref a1])) [] m vV o.2 := by
  have hq : z_mth 16 = some z_r16 := rfl
  unfold g_bs_copyFrom at h
  show zGo xl xs (fun p' => p = p') 2 16 0 [(0, .ref a0), (1, .ref a1)] [] m vV o.2
  refine r_p hq 2 (pc' := 2) (L' := [(0, .ref a0), (1, .ref a1)]) (st' := [.int ((0 : Int32)), .ref a0]) rfl ?_
  refine r_pI (X := (0 : Int32)) (pc' := 5) (L' := [(0, .ref a0), (1, .ref a1)]) H hq (z_at.mk 3 rfl rfl) rfl (zIn_all (l := [56, 58, 63, 96, 114, 116]) (p := fun a => zQ a 11 1 0) rfl ha0) (rfl : (0 : Int32).toInt = 0) (by decide) rfl rfl rfl rfl ?_
  intro m_2 H_2
  refine r_p hq 2 (pc' := 7) (L' := [(0, .ref a0), (1, .ref a1), (2, .int ((0 : Int32)))]) (st' := []) rfl ?_
  exact g_bs_copyFrom_L7_ok ha0 ha1 zK (rfl : (0 : Int32).toInt = 0) H_2 h
def g_bs_addRest_L135 (a0 : Nat) (x2 : Int) (x4 : Int) (x7 : Int) (x8 : Int) (σ : zS) : Option (Unit × zS) :=
  (g_b_x1 x2 σ).bind fun o_138 =>
  if x4 ≤ o_138.1 then
    some ((), o_138.2)
  else
    (g_b_x1 x2 o_138.2).bind fun o_146 =>
    (g_b_of (w32 (o_146.1 + 1)) x4 x7 x8 o_146.2).bind fun o_157 =>
    (g_bs_add a0 o_157.1 o_157.2).bind fun o_160 =>
    some ((), o_160.2)
set_option maxHeartbeats 4000000 in
theorem g_bs_addRest_L135_ok {xl : Nat} {xs : Nat → Int32} {a0 : Nat} (ha0 : zIn [58, 116] a0 = true) {X2 : Int32} {x2 : Int} (hx2 : X2.toInt = x2) {X4 : Int32} {x4 : Int} (hx4 : X4.toInt = x4) {X7 : Int32} {x7 : Int} (hx7 : X7.toInt = x7) {X8 : Int32} {x8 : Int} (hx8 : X8.toInt = x8) {σ : zS} {p : Nat} {m : zM} {o : Unit × zS} (H : zRep xl xs p m σ) (h : g_bs_addRest_L135 a0 x2 x4 x7 x8 σ = some o) : zGo xl xs (fun p' => p = p') 3 17 135 [(0, .ref a0), (2, .int X2), (4, .int X4), (7, .int X7), (8, .int X8)] [] m vV o.2 := by
  have hq : z_mth 17 = some z_r17 := rfl
  unfold g_bs_addRest_L135 at h
  refine r_p hq 2 (pc' := 138) (L' := [(0, .ref a0), (2, .int X2), (4, .int X4), (7, .int X7), (8, .int X8)]) (st' := [.int X2, .int X4]) rfl ?_
  obtain ⟨o_138, h_138, h⟩ := Option.bind_eq_some_iff.mp h
  refine r_csI (pc' := 141) (L' := [(0, .ref a0), (2, .int X2), (4, .int X4), (7, .int X7), (8, .int X8)]) (As := [.int X2]) (rest := [.int X4]) (j := 5) hq (z_at.mk 3 rfl rfl) (Or.inl ⟨rfl, rfl⟩) rfl rfl (by omega) (g_b_x1_ok hx2 H h_138) rfl rfl ?_
  intro R_138 m_138 p_138 e_138 hR_138 H_138
  subst e_138
  rcases z_ite h with ⟨c_141, h⟩ | ⟨c_141, h⟩
  · refine r_t2 (pc' := 164) (L' := []) hq (z_at.mk 3 rfl rfl) rfl hx4 hR_138 c_141 rfl rfl ?_
    cases h
    exact r_rv hq (z_at.mk 1 rfl rfl) rfl rfl H_138
  · refine r_f2 (pc' := 144) (L' := [(0, .ref a0), (2, .int X2), (4, .int X4), (7, .int X7), (8, .int X8)]) hq (z_at.mk 3 rfl rfl) rfl hx4 hR_138 c_141 rfl rfl ?_
    refine r_p hq 2 (pc' := 146) (L' := [(0, .ref a0), (2, .int X2), (4, .int X4), (7, .int X7), (8, .int X8)]) (st' := [.int X2, .ref a0]) rfl ?_
    obtain ⟨o_146, h_146, h⟩ := Option.bind_eq_some_iff.mp h
    refine r_csI (pc' := 149) (L' := [(0, .ref a0), (2, .int X2), (4, .int X4), (7, .int X7), (8, .int X8)]) (As := [.int X2]) (rest := [.ref a0]) (j := 5) hq (z_at.mk 3 rfl rfl) (Or.inl ⟨rfl, rfl⟩) rfl rfl (by omega) (g_b_x1_ok hx2 H_138 h_146) rfl rfl ?_
    intro R_146 m_146 p_146 e_146 hR_146 H_146
    subst e_146
    refine r_p hq 5 (pc' := 157) (L' := [(0, .ref a0), (2, .int X2), (4, .int X4), (7, .int X7), (8, .int X8)]) (st' := [.int X8, .int X7, .int X4, .int (R_146 + ((1 : Int32))), .ref a0]) rfl ?_
    obtain ⟨o_157, h_157, h⟩ := Option.bind_eq_some_iff.mp h
    refine r_csI (pc' := 160) (L' := [(0, .ref a0), (2, .int X2), (4, .int X4), (7, .int X7), (8, .int X8)]) (As := [.int (R_146 + ((1 : Int32))), .int X4, .int X7, .int X8]) (rest := [.ref a0]) (j := 2) hq (z_at.mk 3 rfl rfl) (Or.inl ⟨rfl, rfl⟩) rfl rfl (by omega) (g_b_of_ok (tx_iadd hR_146 (rfl : (1 : Int32).toInt = 1)) hx4 hx7 hx8 H_146 h_157) rfl rfl ?_
    intro R_157 m_157 p_157 e_157 hR_157 H_157
    subst e_157
    obtain ⟨o_160, h_160, h⟩ := Option.bind_eq_some_iff.mp h
    refine r_cvI (pc' := 163) (L' := [(0, .ref a0), (2, .int X2), (4, .int X4), (7, .int X7), (8, .int X8)]) (Ps := [.int R_157]) (rest := []) hq (z_at.mk 3 rfl rfl) (Or.inl ⟨rfl, rfl⟩) rfl rfl (by decide) (by decide) rfl (Nat.not_lt.mpr (Nat.le_of_ble_eq_true rfl)) rfl rfl (z_cat_le 0 rfl (by decide)) (z_lgl_le 2 rfl (by decide)) (by decide) (H_157.tg (zIn_all (l := [58, 116]) (p := fun a => zT a 11) rfl ha0)) (by omega) (g_bs_add_ok (zIn_all (l := [58, 116]) (p := fun a => zIn [56, 58, 63, 96, 114, 116, 126, 131] a) rfl ha0) hR_157 H_157 h_160) rfl rfl ?_
    intro R_160 m_160 p_160 e_160 hR_160 H_160
    subst e_160
    refine r_p hq 1 (pc' := 164) (L' := []) (st' := []) rfl ?_
    cases h
    exact r_rv hq (z_at.mk 1 rfl rfl) rfl rfl H_160
def g_bs_addRest_L108 (a0 : Nat) (x2 : Int) (x3 : Int) (x4 : Int) (x7 : Int) (x8 : Int) (σ : zS) : Option (Unit × zS) :=
  (g_b_x0 x2 σ).bind fun o_110 =>
  if o_110.1 ≤ x3 then
    g_bs_addRest_L135 a0 x2 x4 x7 x8 o_110.2
  else
    (g_b_x0 x2 o_110.2).bind fun o_119 =>
    (g_b_of x3 (w32 (o_119.1 - 1)) x7 x8 o_119.2).bind fun o_128 =>
    (g_bs_add a0 o_128.1 o_128.2).bind fun o_131 =>
    g_bs_addRest_L135 a0 x2 x4 x7 x8 o_131.2
set_option maxHeartbeats 4000000 in
theorem g_bs_addRest_L108_ok {xl : Nat} {xs : Nat → Int32} {a0 : Nat} (ha0 : zIn [58, 116] a0 = true) {X2 : Int32} {x2 : Int} (hx2 : X2.toInt = x2) {X3 : Int32} {x3 : Int} (hx3 : X3.toInt = x3) {X4 : Int32} {x4 : Int} (hx4 : X4.toInt = x4) {X7 : Int32} {x7 : Int} (hx7 : X7.toInt = x7) {X8 : Int32} {x8 : Int} (hx8 : X8.toInt = x8) {σ : zS} {p : Nat} {m : zM} {o : Unit × zS} (H : zRep xl xs p m σ) (h : g_bs_addRest_L108 a0 x2 x3 x4 x7 x8 σ = some o) : zGo xl xs (fun p' => p = p') 3 17 108 [(0, .ref a0), (2, .int X2), (3, .int X3), (4, .int X4), (7, .int X7), (8, .int X8)] [] m vV o.2 := by
  have hq : z_mth 17 = some z_r17 := rfl
  unfold g_bs_addRest_L108 at h
  refine r_p hq 2 (pc' := 110) (L' := [(0, .ref a0), (2, .int X2), (3, .int X3), (4, .int X4), (7, .int X7), (8, .int X8)]) (st' := [.int X2, .int X3]) rfl ?_
  obtain ⟨o_110, h_110, h⟩ := Option.bind_eq_some_iff.mp h
  refine r_csI (pc' := 113) (L' := [(0, .ref a0), (2, .int X2), (3, .int X3), (4, .int X4), (7, .int X7), (8, .int X8)]) (As := [.int X2]) (rest := [.int X3]) (j := 4) hq (z_at.mk 3 rfl rfl) (Or.inl ⟨rfl, rfl⟩) rfl rfl (by omega) (g_b_x0_ok hx2 H h_110) rfl rfl ?_
  intro R_110 m_110 p_110 e_110 hR_110 H_110
  subst e_110
  rcases z_ite h with ⟨c_113, h⟩ | ⟨c_113, h⟩
  · refine r_t2 (pc' := 135) (L' := [(0, .ref a0), (2, .int X2), (4, .int X4), (7, .int X7), (8, .int X8)]) hq (z_at.mk 3 rfl rfl) rfl hx3 hR_110 c_113 rfl rfl ?_
    exact g_bs_addRest_L135_ok ha0 hx2 hx4 hx7 hx8 H_110 h
  · refine r_f2 (pc' := 116) (L' := [(0, .ref a0), (2, .int X2), (3, .int X3), (4, .int X4), (7, .int X7), (8, .int X8)]) hq (z_at.mk 3 rfl rfl) rfl hx3 hR_110 c_113 rfl rfl ?_
    refine r_p hq 3 (pc' := 119) (L' := [(0, .ref a0), (2, .int X2), (3, .int X3), (4, .int X4), (7, .int X7), (8, .int X8)]) (st' := [.int X2, .int X3, .ref a0]) rfl ?_
    obtain ⟨o_119, h_119, h⟩ := Option.bind_eq_some_iff.mp h
    refine r_csI (pc' := 122) (L' := [(0, .ref a0), (2, .int X2), (3, .int X3), (4, .int X4), (7, .int X7), (8, .int X8)]) (As := [.int X2]) (rest := [.int X3, .ref a0]) (j := 4) hq (z_at.mk 3 rfl rfl) (Or.inl ⟨rfl, rfl⟩) rfl rfl (by omega) (g_b_x0_ok hx2 H_110 h_119) rfl rfl ?_
    intro R_119 m_119 p_119 e_119 hR_119 H_119
    subst e_119
    refine r_p hq 4 (pc' := 128) (L' := [(0, .ref a0), (2, .int X2), (3, .int X3), (4, .int X4), (7, .int X7), (8, .int X8)]) (st' := [.int X8, .int X7, .int (R_119 - ((1 : Int32))), .int X3, .ref a0]) rfl ?_
    obtain ⟨o_128, h_128, h⟩ := Option.bind_eq_some_iff.mp h
    refine r_csI (pc' := 131) (L' := [(0, .ref a0), (2, .int X2), (3, .int X3), (4, .int X4), (7, .int X7), (8, .int X8)]) (As := [.int X3, .int (R_119 - ((1 : Int32))), .int X7, .int X8]) (rest := [.ref a0]) (j := 2) hq (z_at.mk 3 rfl rfl) (Or.inl ⟨rfl, rfl⟩) rfl rfl (by omega) (g_b_of_ok hx3 (tx_isub hR_119 (rfl : (1 : Int32).toInt = 1)) hx7 hx8 H_119 h_128) rfl rfl ?_
    intro R_128 m_128 p_128 e_128 hR_128 H_128
    subst e_128
    obtain ⟨o_131, h_131, h⟩ := Option.bind_eq_some_iff.mp h
    refine r_cvI (pc' := 134) (L' := [(0, .ref a0), (2, .int X2), (3, .int X3), (4, .int X4), (7, .int X7), (8, .int X8)]) (Ps := [.int R_128]) (rest := []) hq (z_at.mk 3 rfl rfl) (Or.inl ⟨rfl, rfl⟩) rfl rfl (by decide) (by decide) rfl (Nat.not_lt.mpr (Nat.le_of_ble_eq_true rfl)) rfl rfl (z_cat_le 0 rfl (by decide)) (z_lgl_le 2 rfl (by decide)) (by decide) (H_128.tg (zIn_all (l := [58, 116]) (p := fun a => zT a 11) rfl ha0)) (by omega) (g_bs_add_ok (zIn_all (l := [58, 116]) (p := fun a => zIn [56, 58, 63, 96, 114, 116, 126, 131] a) rfl ha0) hR_128 H_128 h_131) rfl rfl ?_
    intro R_131 m_131 p_131 e_131 hR_131 H_131
    subst e_131
    refine r_p hq 1 (pc' := 135) (L' := [(0, .ref a0), (2, .int X2), (4, .int X4), (7, .int X7), (8, .int X8)]) (st' := []) rfl ?_
    exact g_bs_addRest_L135_ok ha0 hx2 hx4 hx7 hx8 H_131 h
def g_bs_addRest_L84 (a0 : Nat) (x2 : Int) (x3 : Int) (x4 : Int) (x6 : Int) (x7 : Int) (x8 : Int) (σ : zS) : Option (Unit × zS) :=
  if x6 ≤ x8 then
    g_bs_addRest_L108 a0 x2 x3 x4 x7 x8 σ
  else
    (g_b_of x3 x4 (w32 (x8 + 1)) x6 σ).bind fun o_101 =>
    (g_bs_add a0 o_101.1 o_101.2).bind fun o_104 =>
    g_bs_addRest_L108 a0 x2 x3 x4 x7 x8 o_104.2
set_option maxHeartbeats 4000000 in
theorem g_bs_addRest_L84_ok {xl : Nat} {xs : Nat → Int32} {a0 : Nat} (ha0 : zIn [58, 116] a0 = true) {X2 : Int32} {x2 : Int} (hx2 : X2.toInt = x2) {X3 : Int32} {x3 : Int} (hx3 : X3.toInt = x3) {X4 : Int32} {x4 : Int} (hx4 : X4.toInt = x4) {X6 : Int32} {x6 : Int} (hx6 : X6.toInt = x6) {X7 : Int32} {x7 : Int} (hx7 : X7.toInt = x7) {X8 : Int32} {x8 : Int} (hx8 : X8.toInt = x8) {σ : zS} {p : Nat} {m : zM} {o : Unit × zS} (H : zRep xl xs p m σ) (h : g_bs_addRest_L84 a0 x2 x3 x4 x6 x7 x8 σ = some o) : zGo xl xs (fun p' => p = p') 3 17 84 [(0, .ref a0), (2, .int X2), (3, .int X3), (4, .int X4), (6, .int X6), (7, .int X7), (8, .int X8)] [] m vV o.2 := by
  have hq : z_mth 17 = some z_r17 := rfl
  unfold g_bs_addRest_L84 at h
  refine r_p hq 2 (pc' := 88) (L' := [(0, .ref a0), (2, .int X2), (3, .int X3), (4, .int X4), (6, .int X6), (7, .int X7), (8, .int X8)]) (st' := [.int X8, .int X6]) rfl ?_
  rcases z_ite h with ⟨c_88, h⟩ | ⟨c_88, h⟩
  · refine r_t2 (pc' := 108) (L' := [(0, .ref a0), (2, .int X2), (3, .int X3), (4, .int X4), (7, .int X7), (8, .int X8)]) hq (z_at.mk 3 rfl rfl) rfl hx6 hx8 c_88 rfl rfl ?_
    exact g_bs_addRest_L108_ok ha0 hx2 hx3 hx4 hx7 hx8 H h
  · refine r_f2 (pc' := 91) (L' := [(0, .ref a0), (2, .int X2), (3, .int X3), (4, .int X4), (6, .int X6), (7, .int X7), (8, .int X8)]) hq (z_at.mk 3 rfl rfl) rfl hx6 hx8 c_88 rfl rfl ?_
    refine r_p hq 7 (pc' := 101) (L' := [(0, .ref a0), (2, .int X2), (3, .int X3), (4, .int X4), (6, .int X6), (7, .int X7), (8, .int X8)]) (st' := [.int X6, .int (X8 + ((1 : Int32))), .int X4, .int X3, .ref a0]) rfl ?_
    obtain ⟨o_101, h_101, h⟩ := Option.bind_eq_some_iff.mp h
    refine r_csI (pc' := 104) (L' := [(0, .ref a0), (2, .int X2), (3, .int X3), (4, .int X4), (6, .int X6), (7, .int X7), (8, .int X8)]) (As := [.int X3, .int X4, .int (X8 + ((1 : Int32))), .int X6]) (rest := [.ref a0]) (j := 2) hq (z_at.mk 3 rfl rfl) (Or.inl ⟨rfl, rfl⟩) rfl rfl (by omega) (g_b_of_ok hx3 hx4 (tx_iadd hx8 (rfl : (1 : Int32).toInt = 1)) hx6 H h_101) rfl rfl ?_
    intro R_101 m_101 p_101 e_101 hR_101 H_101
    subst e_101
    obtain ⟨o_104, h_104, h⟩ := Option.bind_eq_some_iff.mp h
    refine r_cvI (pc' := 107) (L' := [(0, .ref a0), (2, .int X2), (3, .int X3), (4, .int X4), (6, .int X6), (7, .int X7), (8, .int X8)]) (Ps := [.int R_101]) (rest := []) hq (z_at.mk 3 rfl rfl) (Or.inl ⟨rfl, rfl⟩) rfl rfl (by decide) (by decide) rfl (Nat.not_lt.mpr (Nat.le_of_ble_eq_true rfl)) rfl rfl (z_cat_le 0 rfl (by decide)) (z_lgl_le 2 rfl (by decide)) (by decide) (H_101.tg (zIn_all (l := [58, 116]) (p := fun a => zT a 11) rfl ha0)) (by omega) (g_bs_add_ok (zIn_all (l := [58, 116]) (p := fun a => zIn [56, 58, 63, 96, 114, 116, 126, 131] a) rfl ha0) hR_101 H_101 h_104) rfl rfl ?_
    intro R_104 m_104 p_104 e_104 hR_104 H_104
    subst e_104
    refine r_p hq 1 (pc' := 108) (L' := [(0, .ref a0), (2, .int X2), (3, .int X3), (4, .int X4), (7, .int X7), (8, .int X8)]) (st' := []) rfl ?_
    exact g_bs_addRest_L108_ok ha0 hx2 hx3 hx4 hx7 hx8 H_104 h
def g_bs_addRest (a0 : Nat) (x1 : Int) (x2 : Int) (σ : zS) : Option (Unit × zS) :=
  (g_b_meet x1 x2 σ).bind fun o_2 =>
  if o_2.1 ≠ 0 then
    (g_b_x0 x1 o_2.2).bind fun o_16 =>
    (g_b_x1 x1 o_16.2).bind fun o_21 =>
    (g_b_y0 x1 o_21.2).bind fun o_27 =>
    (g_b_y1 x1 o_27.2).bind fun o_33 =>
    (g_b_y0 x2 o_33.2).bind fun o_41 =>
    (g_jMath_max_289 o_27.1 o_41.1 o_41.2).bind fun o_44 =>
    (g_b_y1 x2 o_44.2).bind fun o_52 =>
    (g_jMath_min_291 o_33.1 o_52.1 o_52.2).bind fun o_55 =>
    if o_44.1 ≤ o_27.1 then
      g_bs_addRest_L84 a0 x2 o_16.1 o_21.1 o_33.1 o_44.1 o_55.1 o_55.2
    else
      (g_b_of o_16.1 o_21.1 o_27.1 (w32 (o_44.1 - 1)) o_55.2).bind fun o_77 =>
      (g_bs_add a0 o_77.1 o_77.2).bind fun o_80 =>
      g_bs_addRest_L84 a0 x2 o_16.1 o_21.1 o_33.1 o_44.1 o_55.1 o_80.2
  else
    (g_bs_add a0 x1 o_2.2).bind fun o_10 =>
    some ((), o_10.2)
set_option maxHeartbeats 4000000 in
theorem g_bs_addRest_ok {xl : Nat} {xs : Nat → Int32} {a0 : Nat} (ha0 : zIn [58, 116] a0 = true) {X1 : Int32} {x1 : Int} (hx1 : X1.toInt = x1) {X2 : Int32} {x2 : Int} (hx2 : X2.toInt = x2) {σ : zS} {p : Nat} {m : zM} {o : Unit × zS} (H : zRep xl xs p m σ) (h : g_bs_addRest a0 x1 x2 σ = some o) : zGo xl xs (fun p' => p = p') 3 17 0 (z_can 17 0 (lv_args 0 [.ref a0, .int X1, .int X2])) [] m vV o.2 := by
  have hq : z_mth 17 = some z_r17 := rfl
  unfold g_bs_addRest at h
  show zGo xl xs (fun p' => p = p') 3 17 0 [(0, .ref a0), (1, .int X1), (2, .int X2)] [] m vV o.2
  refine r_p hq 2 (pc' := 2) (L' := [(0, .ref a0), (1, .int X1), (2, .int X2)]) (st' := [.int X2, .int X1]) rfl ?_
  obtain ⟨o_2, h_2, h⟩ := Option.bind_eq_some_iff.mp h
  refine r_csI (pc' := 5) (L' := [(0, .ref a0), (1, .int X1), (2, .int X2)]) (As := [.int X1, .int X2]) (rest := []) (j := 9) hq (z_at.mk 3 rfl rfl) (Or.inl ⟨rfl, rfl⟩) rfl rfl (by omega) (g_b_meet_ok hx1 hx2 H h_2) rfl rfl ?_
  intro R_2 m_2 p_2 e_2 hR_2 H_2
  subst e_2
  rcases z_ite h with ⟨c_5, h⟩ | ⟨c_5, h⟩
  · refine r_t1 (pc' := 15) (L' := [(0, .ref a0), (1, .int X1), (2, .int X2)]) hq (z_at.mk 3 rfl rfl) rfl hR_2 c_5 rfl rfl ?_
    refine r_p hq 1 (pc' := 16) (L' := [(0, .ref a0), (1, .int X1), (2, .int X2)]) (st' := [.int X1]) rfl ?_
    obtain ⟨o_16, h_16, h⟩ := Option.bind_eq_some_iff.mp h
    refine r_csI (pc' := 19) (L' := [(0, .ref a0), (1, .int X1), (2, .int X2)]) (As := [.int X1]) (rest := []) (j := 4) hq (z_at.mk 3 rfl rfl) (Or.inl ⟨rfl, rfl⟩) rfl rfl (by omega) (g_b_x0_ok hx1 H_2 h_16) rfl rfl ?_
    intro R_16 m_16 p_16 e_16 hR_16 H_16
    subst e_16
    refine r_p hq 2 (pc' := 21) (L' := [(3, .int R_16), (0, .ref a0), (1, .int X1), (2, .int X2)]) (st' := [.int X1]) rfl ?_
    obtain ⟨o_21, h_21, h⟩ := Option.bind_eq_some_iff.mp h
    refine r_csI (pc' := 24) (L' := [(3, .int R_16), (0, .ref a0), (1, .int X1), (2, .int X2)]) (As := [.int X1]) (rest := []) (j := 5) hq (z_at.mk 3 rfl rfl) (Or.inl ⟨rfl, rfl⟩) rfl rfl (by omega) (g_b_x1_ok hx1 H_16 h_21) rfl rfl ?_
    intro R_21 m_21 p_21 e_21 hR_21 H_21
    subst e_21
    refine r_p hq 2 (pc' := 27) (L' := [(4, .int R_21), (3, .int R_16), (0, .ref a0), (1, .int X1), (2, .int X2)]) (st' := [.int X1]) rfl ?_
    obtain ⟨o_27, h_27, h⟩ := Option.bind_eq_some_iff.mp h
    refine r_csI (pc' := 30) (L' := [(4, .int R_21), (3, .int R_16), (0, .ref a0), (1, .int X1), (2, .int X2)]) (As := [.int X1]) (rest := []) (j := 6) hq (z_at.mk 3 rfl rfl) (Or.inl ⟨rfl, rfl⟩) rfl rfl (by omega) (g_b_y0_ok hx1 H_21 h_27) rfl rfl ?_
    intro R_27 m_27 p_27 e_27 hR_27 H_27
    subst e_27
    refine r_p hq 2 (pc' := 33) (L' := [(5, .int R_27), (4, .int R_21), (3, .int R_16), (0, .ref a0), (1, .int X1), (2, .int X2)]) (st' := [.int X1]) rfl ?_
    obtain ⟨o_33, h_33, h⟩ := Option.bind_eq_some_iff.mp h
    refine r_csI (pc' := 36) (L' := [(5, .int R_27), (4, .int R_21), (3, .int R_16), (0, .ref a0), (1, .int X1), (2, .int X2)]) (As := [.int X1]) (rest := []) (j := 7) hq (z_at.mk 3 rfl rfl) (Or.inl ⟨rfl, rfl⟩) rfl rfl (by omega) (g_b_y1_ok hx1 H_27 h_33) rfl rfl ?_
    intro R_33 m_33 p_33 e_33 hR_33 H_33
    subst e_33
    refine r_p hq 3 (pc' := 41) (L' := [(6, .int R_33), (5, .int R_27), (4, .int R_21), (3, .int R_16), (0, .ref a0), (1, .int X1), (2, .int X2)]) (st' := [.int X2, .int R_27]) rfl ?_
    obtain ⟨o_41, h_41, h⟩ := Option.bind_eq_some_iff.mp h
    refine r_csI (pc' := 44) (L' := [(6, .int R_33), (5, .int R_27), (4, .int R_21), (3, .int R_16), (0, .ref a0), (1, .int X1), (2, .int X2)]) (As := [.int X2]) (rest := [.int R_27]) (j := 6) hq (z_at.mk 3 rfl rfl) (Or.inl ⟨rfl, rfl⟩) rfl rfl (by omega) (g_b_y0_ok hx2 H_33 h_41) rfl rfl ?_
    intro R_41 m_41 p_41 e_41 hR_41 H_41
    subst e_41
    obtain ⟨o_44, h_44, h⟩ := Option.bind_eq_some_iff.mp h
    refine r_csI (pc' := 47) (L' := [(6, .int R_33), (5, .int R_27), (4, .int R_21), (3, .int R_16), (0, .ref a0), (1, .int X1), (2, .int X2)]) (As := [.int R_27, .int R_41]) (rest := []) (j := 289) hq (z_at.mk 3 rfl rfl) (Or.inl ⟨rfl, rfl⟩) rfl rfl (by omega) (g_jMath_max_289_ok hR_27 hR_41 H_41 h_44) rfl rfl ?_
    intro R_44 m_44 p_44 e_44 hR_44 H_44
    subst e_44
    refine r_p hq 3 (pc' := 52) (L' := [(7, .int R_44), (6, .int R_33), (5, .int R_27), (4, .int R_21), (3, .int R_16), (0, .ref a0), (1, .int X1), (2, .int X2)]) (st' := [.int X2, .int R_33]) rfl ?_
    obtain ⟨o_52, h_52, h⟩ := Option.bind_eq_some_iff.mp h
    refine r_csI (pc' := 55) (L' := [(7, .int R_44), (6, .int R_33), (5, .int R_27), (4, .int R_21), (3, .int R_16), (0, .ref a0), (1, .int X1), (2, .int X2)]) (As := [.int X2]) (rest := [.int R_33]) (j := 7) hq (z_at.mk 3 rfl rfl) (Or.inl ⟨rfl, rfl⟩) rfl rfl (by omega) (g_b_y1_ok hx2 H_44 h_52) rfl rfl ?_
    intro R_52 m_52 p_52 e_52 hR_52 H_52
    subst e_52
    obtain ⟨o_55, h_55, h⟩ := Option.bind_eq_some_iff.mp h
    refine r_csI (pc' := 58) (L' := [(7, .int R_44), (6, .int R_33), (5, .int R_27), (4, .int R_21), (3, .int R_16), (0, .ref a0), (1, .int X1), (2, .int X2)]) (As := [.int R_33, .int R_52]) (rest := []) (j := 291) hq (z_at.mk 3 rfl rfl) (Or.inl ⟨rfl, rfl⟩) rfl rfl (by omega) (g_jMath_min_291_ok hR_33 hR_52 H_52 h_55) rfl rfl ?_
    intro R_55 m_55 p_55 e_55 hR_55 H_55
    subst e_55
    refine r_p hq 3 (pc' := 64) (L' := [(8, .int R_55), (7, .int R_44), (6, .int R_33), (5, .int R_27), (4, .int R_21), (3, .int R_16), (0, .ref a0), (1, .int X1), (2, .int X2)]) (st' := [.int R_44, .int R_27]) rfl ?_
    rcases z_ite h with ⟨c_64, h⟩ | ⟨c_64, h⟩
    · refine r_t2 (pc' := 84) (L' := [(0, .ref a0), (2, .int X2), (3, .int R_16), (4, .int R_21), (6, .int R_33), (7, .int R_44), (8, .int R_55)]) hq (z_at.mk 3 rfl rfl) rfl hR_27 hR_44 c_64 rfl rfl ?_
      exact g_bs_addRest_L84_ok ha0 hx2 hR_16 hR_21 hR_33 hR_44 hR_55 H_55 h
    · refine r_f2 (pc' := 67) (L' := [(8, .int R_55), (7, .int R_44), (6, .int R_33), (5, .int R_27), (4, .int R_21), (3, .int R_16), (0, .ref a0), (1, .int X1), (2, .int X2)]) hq (z_at.mk 3 rfl rfl) rfl hR_27 hR_44 c_64 rfl rfl ?_
      refine r_p hq 7 (pc' := 77) (L' := [(8, .int R_55), (7, .int R_44), (6, .int R_33), (5, .int R_27), (4, .int R_21), (3, .int R_16), (0, .ref a0), (1, .int X1), (2, .int X2)]) (st' := [.int (R_44 - ((1 : Int32))), .int R_27, .int R_21, .int R_16, .ref a0]) rfl ?_
      obtain ⟨o_77, h_77, h⟩ := Option.bind_eq_some_iff.mp h
      refine r_csI (pc' := 80) (L' := [(8, .int R_55), (7, .int R_44), (6, .int R_33), (5, .int R_27), (4, .int R_21), (3, .int R_16), (0, .ref a0), (1, .int X1), (2, .int X2)]) (As := [.int R_16, .int R_21, .int R_27, .int (R_44 - ((1 : Int32)))]) (rest := [.ref a0]) (j := 2) hq (z_at.mk 3 rfl rfl) (Or.inl ⟨rfl, rfl⟩) rfl rfl (by omega) (g_b_of_ok hR_16 hR_21 hR_27 (tx_isub hR_44 (rfl : (1 : Int32).toInt = 1)) H_55 h_77) rfl rfl ?_
      intro R_77 m_77 p_77 e_77 hR_77 H_77
      subst e_77
      obtain ⟨o_80, h_80, h⟩ := Option.bind_eq_some_iff.mp h
      refine r_cvI (pc' := 83) (L' := [(8, .int R_55), (7, .int R_44), (6, .int R_33), (5, .int R_27), (4, .int R_21), (3, .int R_16), (0, .ref a0), (1, .int X1), (2, .int X2)]) (Ps := [.int R_77]) (rest := []) hq (z_at.mk 3 rfl rfl) (Or.inl ⟨rfl, rfl⟩) rfl rfl (by decide) (by decide) rfl (Nat.not_lt.mpr (Nat.le_of_ble_eq_true rfl)) rfl rfl (z_cat_le 0 rfl (by decide)) (z_lgl_le 2 rfl (by decide)) (by decide) (H_77.tg (zIn_all (l := [58, 116]) (p := fun a => zT a 11) rfl ha0)) (by omega) (g_bs_add_ok (zIn_all (l := [58, 116]) (p := fun a => zIn [56, 58, 63, 96, 114, 116, 126, 131] a) rfl ha0) hR_77 H_77 h_80) rfl rfl ?_
      intro R_80 m_80 p_80 e_80 hR_80 H_80
      subst e_80
      refine r_p hq 1 (pc' := 84) (L' := [(0, .ref a0), (2, .int X2), (3, .int R_16), (4, .int R_21), (6, .int R_33), (7, .int R_44), (8, .int R_55)]) (st' := []) rfl ?_
      exact g_bs_addRest_L84_ok ha0 hx2 hR_16 hR_21 hR_33 hR_44 hR_55 H_80 h
  · refine r_f1 (pc' := 8) (L' := [(0, .ref a0), (1, .int X1), (2, .int X2)]) hq (z_at.mk 3 rfl rfl) rfl hR_2 c_5 rfl rfl ?_
    refine r_p hq 2 (pc' := 10) (L' := [(0, .ref a0), (1, .int X1), (2, .int X2)]) (st' := [.int X1, .ref a0]) rfl ?_
    obtain ⟨o_10, h_10, h⟩ := Option.bind_eq_some_iff.mp h
    refine r_cvI (pc' := 13) (L' := [(0, .ref a0), (1, .int X1), (2, .int X2)]) (Ps := [.int X1]) (rest := []) hq (z_at.mk 3 rfl rfl) (Or.inl ⟨rfl, rfl⟩) rfl rfl (by decide) (by decide) rfl (Nat.not_lt.mpr (Nat.le_of_ble_eq_true rfl)) rfl rfl (z_cat_le 0 rfl (by decide)) (z_lgl_le 2 rfl (by decide)) (by decide) (H_2.tg (zIn_all (l := [58, 116]) (p := fun a => zT a 11) rfl ha0)) (by omega) (g_bs_add_ok (zIn_all (l := [58, 116]) (p := fun a => zIn [56, 58, 63, 96, 114, 116, 126, 131] a) rfl ha0) hx1 H_2 h_10) rfl rfl ?_
    intro R_10 m_10 p_10 e_10 hR_10 H_10
    subst e_10
    refine r_p hq 1 (pc' := 14) (L' := [(0, .ref a0), (1, .int X1), (2, .int X2)]) (st' := []) rfl ?_
    cases h
    exact r_rv hq (z_at.mk 1 rfl rfl) rfl rfl H_10
def g_bs_becomeRest_L7 (a0 : Nat) (a1 : Nat) : Nat → Int → Int → zS → Option (Unit × zS)
  | 0, _, _, _ => none
  | n + 1, x2, x3, σ =>
    let v_9 := σ a1 1
    if v_9 ≤ x3 then
      some ((), σ)
    else
      (g_bs_at a1 x3 σ).bind fun o_18 =>
      (g_bs_addRest a0 o_18.1 x2 o_18.2).bind fun o_22 =>
      (g_bs_becomeRest_L7 a0 a1 n) x2 (w32 (x3 + 1)) o_22.2
set_option maxHeartbeats 4000000 in
theorem g_bs_becomeRest_L7_ok {xl : Nat} {xs : Nat → Int32} {a0 : Nat} (ha0 : zIn [58, 116] a0 = true) {a1 : Nat} (ha1 : zIn [56, 114] a1 = true) : ∀ (n : Nat) {X2 : Int32} {x2 : Int} {X3 : Int32} {x3 : Int} {σ : zS} {p : Nat} {m : zM} {o : Unit × zS}, X2.toInt = x2 → X3.toInt = x3 → zRep xl xs p m σ → g_bs_becomeRest_L7 a0 a1 n x2 x3 σ = some o → zGo xl xs (fun p' => p = p') 4 18 7 [(0, .ref a0), (1, .ref a1), (2, .int X2), (3, .int X3)] [] m vV o.2
  | 0, _, _, _, _, _, _, _, _, _, _, _, h => by cases h
  | n + 1, X2, x2, X3, x3, σ, p, m, o, hx2, hx3, H, h => by
    have hq : z_mth 18 = some z_r18 := rfl
    have ih := fun {X2 : Int32} {x2 : Int} {X3 : Int32} {x3 : Int} {σ : zS} {p : Nat} {m : zM} {o : Unit × zS} => g_bs_becomeRest_L7_ok (xl := xl) (xs := xs) ha0 ha1 n (X2 := X2) (x2 := x2) (X3 := X3) (x3 := x3) (σ := σ) (p := p) (m := m) (o := o)
    unfold g_bs_becomeRest_L7 at h
    refine r_p hq 2 (pc' := 9) (L' := [(0, .ref a0), (1, .ref a1), (2, .int X2), (3, .int X3)]) (st' := [.ref a1, .int X3]) rfl ?_
    refine r_gI (pc' := 12) (L' := [(0, .ref a0), (1, .ref a1), (2, .int X2), (3, .int X3)]) H hq (z_at.mk 3 rfl rfl) rfl (zIn_all (l := [56, 114]) (p := fun a => zQ a 11 1 0) rfl ha1) rfl rfl ?_
    intro V_9 hV_9
    rcases z_ite h with ⟨c_12, h⟩ | ⟨c_12, h⟩
    · refine r_t2 (pc' := 31) (L' := [(0, .ref a0), (1, .ref a1), (2, .int X2), (3, .int X3)]) hq (z_at.mk 3 rfl rfl) rfl hx3 hV_9 c_12 rfl rfl ?_
      cases h
      exact r_rv hq (z_at.mk 1 rfl rfl) rfl rfl H
    · refine r_f2 (pc' := 15) (L' := [(0, .ref a0), (1, .ref a1), (2, .int X2), (3, .int X3)]) hq (z_at.mk 3 rfl rfl) rfl hx3 hV_9 c_12 rfl rfl ?_
      refine r_p hq 3 (pc' := 18) (L' := [(0, .ref a0), (1, .ref a1), (2, .int X2), (3, .int X3)]) (st' := [.int X3, .ref a1, .ref a0]) rfl ?_
      obtain ⟨o_18, h_18, h⟩ := Option.bind_eq_some_iff.mp h
      refine r_cvI (pc' := 21) (L' := [(0, .ref a0), (1, .ref a1), (2, .int X2), (3, .int X3)]) (Ps := [.int X3]) (rest := [.ref a0]) hq (z_at.mk 3 rfl rfl) (Or.inl ⟨rfl, rfl⟩) rfl rfl (by decide) (by decide) rfl (Nat.not_lt.mpr (Nat.le_of_ble_eq_true rfl)) rfl rfl (z_cat_le 1 rfl (by decide)) (z_lgl_le 2 rfl (by decide)) (by decide) (H.tg (zIn_all (l := [56, 114]) (p := fun a => zT a 11) rfl ha1)) (by omega) (g_bs_at_ok (zIn_all (l := [56, 114]) (p := fun a => zIn [56, 58, 63, 96, 114, 116, 126, 131] a) rfl ha1) hx3 H h_18) rfl rfl ?_
      intro R_18 m_18 p_18 e_18 hR_18 H_18
      subst e_18
      refine r_p hq 1 (pc' := 22) (L' := [(0, .ref a0), (1, .ref a1), (2, .int X2), (3, .int X3)]) (st' := [.int X2, .int R_18, .ref a0]) rfl ?_
      obtain ⟨o_22, h_22, h⟩ := Option.bind_eq_some_iff.mp h
      refine r_cvV (pc' := 25) (L' := [(0, .ref a0), (1, .ref a1), (2, .int X2), (3, .int X3)]) (Ps := [.int R_18, .int X2]) (rest := []) hq (z_at.mk 3 rfl rfl) (Or.inl ⟨rfl, rfl⟩) rfl rfl (by decide) (by decide) rfl (Nat.not_lt.mpr (Nat.le_of_ble_eq_true rfl)) rfl rfl (z_cat_le 0 rfl (by decide)) (z_lgl_le 3 rfl (by decide)) (by decide) (H_18.tg (zIn_all (l := [58, 116]) (p := fun a => zT a 11) rfl ha0)) (by omega) (g_bs_addRest_ok (zIn_all (l := [58, 116]) (p := fun a => zIn [58, 116] a) rfl ha0) hR_18 hx2 H_18 h_22) rfl rfl ?_
      intro m_22 p_22 e_22 H_22
      subst e_22
      refine r_p hq 2 (pc' := 7) (L' := [(0, .ref a0), (1, .ref a1), (2, .int X2), (3, .int (X3 + (1 : Int32)))]) (st' := []) rfl ?_
      exact ih hx2 (tx_iadd hx3 (rfl : (1 : Int32).toInt = 1)) H_22 h
def g_bs_becomeRest (a0 : Nat) (a1 : Nat) (x2 : Int) (σ : zS) : Option (Unit × zS) :=
  let s_2 := zu σ a0 1 0
  g_bs_becomeRest_L7 a0 a1 zK x2 0 s_2
set_option maxHeartbeats 4000000 in
theorem g_bs_becomeRest_ok {xl : Nat} {xs : Nat → Int32} {a0 : Nat} (ha0 : zIn [58, 116] a0 = true) {a1 : Nat} (ha1 : zIn [56, 114] a1 = true) {X2 : Int32} {x2 : Int} (hx2 : X2.toInt = x2) {σ : zS} {p : Nat} {m : zM} {o : Unit × zS} (H : zRep xl xs p m σ) (h : g_bs_becomeRest a0 a1 x2 σ = some o) : zGo xl xs (fun p' => p = p') 4 18 0 (z_can 18 0 (lv_args 0 [.ref a0, .ref a1, .int X2])) [] m vV o.2 := by
  have hq : z_mth 18 = some z_r18 := rfl
  unfold g_bs_becomeRest at h
  show zGo xl xs (fun p' => p = p') 4 18 0 [(0, .ref a0), (1, .ref a1), (2, .int X2)] [] m vV o.2
  refine r_p hq 2 (pc' := 2) (L' := [(0, .ref a0), (1, .ref a1), (2, .int X2)]) (st' := [.int ((0 : Int32)), .ref a0]) rfl ?_
  refine r_pI (X := (0 : Int32)) (pc' := 5) (L' := [(0, .ref a0), (1, .ref a1), (2, .int X2)]) H hq (z_at.mk 3 rfl rfl) rfl (zIn_all (l := [58, 116]) (p := fun a => zQ a 11 1 0) rfl ha0) (rfl : (0 : Int32).toInt = 0) (by decide) rfl rfl rfl rfl ?_
  intro m_2 H_2
  refine r_p hq 2 (pc' := 7) (L' := [(0, .ref a0), (1, .ref a1), (2, .int X2), (3, .int ((0 : Int32)))]) (st' := []) rfl ?_
  exact g_bs_becomeRest_L7_ok ha0 ha1 zK hx2 (rfl : (0 : Int32).toInt = 0) H_2 h
def g_ca_forgetAll (a0 : Nat) (σ : zS) : Option (Unit × zS) :=
  let s_2 := zu σ a0 2 0
  let s_7 := zu s_2 a0 8 0
  let s_12 := zu s_7 a0 9 0
  let s_17 := zu s_12 a0 10 0
  let s_22 := zu s_17 a0 11 0
  let s_27 := zu s_22 a0 12 0
  let s_32 := zu s_27 a0 13 0
  let s_37 := zu s_32 a0 14 0
  let s_42 := zu s_37 a0 15 0
  some ((), s_42)
set_option maxHeartbeats 4000000 in
theorem g_ca_forgetAll_ok {xl : Nat} {xs : Nat → Int32} {a0 : Nat} (ha0 : zIn [48, 106] a0 = true) {σ : zS} {p : Nat} {m : zM} {o : Unit × zS} (H : zRep xl xs p m σ) (h : g_ca_forgetAll a0 σ = some o) : zGo xl xs (fun p' => p = p') 1 20 0 (z_can 20 0 (lv_args 0 [.ref a0])) [] m vV o.2 := by
  have hq : z_mth 20 = some z_r20 := rfl
  unfold g_ca_forgetAll at h
  show zGo xl xs (fun p' => p = p') 1 20 0 [(0, .ref a0)] [] m vV o.2
  refine r_p hq 2 (pc' := 2) (L' := [(0, .ref a0)]) (st' := [.int ((0 : Int32)), .ref a0]) rfl ?_
  refine r_pI (X := (0 : Int32)) (pc' := 5) (L' := [(0, .ref a0)]) H hq (z_at.mk 3 rfl rfl) rfl (zIn_all (l := [48, 106]) (p := fun a => zQ a 12 2 0) rfl ha0) (rfl : (0 : Int32).toInt = 0) (by decide) rfl rfl rfl rfl ?_
  intro m_2 H_2
  refine r_p hq 2 (pc' := 7) (L' := [(0, .ref a0)]) (st' := [.int ((0 : Int32)), .ref a0]) rfl ?_
  refine r_pI (X := (0 : Int32)) (pc' := 10) (L' := [(0, .ref a0)]) H_2 hq (z_at.mk 3 rfl rfl) rfl (zIn_all (l := [48, 106]) (p := fun a => zQ a 12 8 0) rfl ha0) (rfl : (0 : Int32).toInt = 0) (by decide) rfl rfl rfl rfl ?_
  intro m_7 H_7
  refine r_p hq 2 (pc' := 12) (L' := [(0, .ref a0)]) (st' := [.long ((0 : Int64)), .ref a0]) rfl ?_
  refine r_pL (X := (0 : Int64)) (pc' := 15) (L' := [(0, .ref a0)]) H_7 hq (z_at.mk 3 rfl rfl) rfl (zIn_all (l := [48, 106]) (p := fun a => zQ a 12 9 1) rfl ha0) (rfl : (0 : Int64).toInt = 0) (by decide) rfl rfl rfl rfl ?_
  intro m_12 H_12
  refine r_p hq 2 (pc' := 17) (L' := [(0, .ref a0)]) (st' := [.int ((0 : Int32)), .ref a0]) rfl ?_
  refine r_pI (X := (0 : Int32)) (pc' := 20) (L' := [(0, .ref a0)]) H_12 hq (z_at.mk 3 rfl rfl) rfl (zIn_all (l := [48, 106]) (p := fun a => zQ a 12 10 0) rfl ha0) (rfl : (0 : Int32).toInt = 0) (by decide) rfl rfl rfl rfl ?_
  intro m_17 H_17
  refine r_p hq 2 (pc' := 22) (L' := [(0, .ref a0)]) (st' := [.int ((0 : Int32)), .ref a0]) rfl ?_
  refine r_pI (X := (0 : Int32)) (pc' := 25) (L' := [(0, .ref a0)]) H_17 hq (z_at.mk 3 rfl rfl) rfl (zIn_all (l := [48, 106]) (p := fun a => zQ a 12 11 0) rfl ha0) (rfl : (0 : Int32).toInt = 0) (by decide) rfl rfl rfl rfl ?_
  intro m_22 H_22
  refine r_p hq 2 (pc' := 27) (L' := [(0, .ref a0)]) (st' := [.int ((0 : Int32)), .ref a0]) rfl ?_
  refine r_pI (X := (0 : Int32)) (pc' := 30) (L' := [(0, .ref a0)]) H_22 hq (z_at.mk 3 rfl rfl) rfl (zIn_all (l := [48, 106]) (p := fun a => zQ a 12 12 0) rfl ha0) (rfl : (0 : Int32).toInt = 0) (by decide) rfl rfl rfl rfl ?_
  intro m_27 H_27
  refine r_p hq 2 (pc' := 32) (L' := [(0, .ref a0)]) (st' := [.int ((0 : Int32)), .ref a0]) rfl ?_
  refine r_pI (X := (0 : Int32)) (pc' := 35) (L' := [(0, .ref a0)]) H_27 hq (z_at.mk 3 rfl rfl) rfl (zIn_all (l := [48, 106]) (p := fun a => zQ a 12 13 0) rfl ha0) (rfl : (0 : Int32).toInt = 0) (by decide) rfl rfl rfl rfl ?_
  intro m_32 H_32
  refine r_p hq 2 (pc' := 37) (L' := [(0, .ref a0)]) (st' := [.int ((0 : Int32)), .ref a0]) rfl ?_
  refine r_pI (X := (0 : Int32)) (pc' := 40) (L' := [(0, .ref a0)]) H_32 hq (z_at.mk 3 rfl rfl) rfl (zIn_all (l := [48, 106]) (p := fun a => zQ a 12 14 0) rfl ha0) (rfl : (0 : Int32).toInt = 0) (by decide) rfl rfl rfl rfl ?_
  intro m_37 H_37
  refine r_p hq 2 (pc' := 42) (L' := [(0, .ref a0)]) (st' := [.int ((0 : Int32)), .ref a0]) rfl ?_
  refine r_pI (X := (0 : Int32)) (pc' := 45) (L' := [(0, .ref a0)]) H_37 hq (z_at.mk 3 rfl rfl) rfl (zIn_all (l := [48, 106]) (p := fun a => zQ a 12 15 0) rfl ha0) (rfl : (0 : Int32).toInt = 0) (by decide) rfl rfl rfl rfl ?_
  intro m_42 H_42
  cases h
  exact r_rv hq (z_at.mk 1 rfl rfl) rfl rfl H_42
def g_se_copyFrom (a0 : Nat) (a1 : Nat) (σ : zS) : Option (Unit × zS) :=
  let s_12 := zcp σ (a1 + 1) 0 (a0 + 1) 0 7
  some ((), s_12)
set_option maxHeartbeats 4000000 in
theorem g_se_copyFrom_ok {xl : Nat} {xs : Nat → Int32} {a0 : Nat} (ha0 : zIn [49, 82, 107, 118] a0 = true) {a1 : Nat} (ha1 : zIn [49, 82, 107, 118] a1 = true) {σ : zS} {p : Nat} {m : zM} {o : Unit × zS} (H : zRep xl xs p m σ) (h : g_se_copyFrom a0 a1 σ = some o) : zGo xl xs (fun p' => p = p') 1 74 0 (z_can 74 0 (lv_args 0 [.ref a0, .ref a1])) [] m vV o.2 := by
  have hq : z_mth 74 = some z_r74 := rfl
  unfold g_se_copyFrom at h
  show zGo xl xs (fun p' => p = p') 1 74 0 [(0, .ref a0), (1, .ref a1)] [] m vV o.2
  refine r_p hq 1 (pc' := 1) (L' := [(0, .ref a0), (1, .ref a1)]) (st' := [.ref a1]) rfl ?_
  refine r_gR (b := a1 + 1) (pc' := 4) (L' := [(0, .ref a0), (1, .ref a1)]) H hq (z_at.mk 3 rfl rfl) rfl (zIn_all (l := [49, 82, 107, 118]) (p := fun a => zQ a 16 0 (100 + a + 1)) rfl ha1) rfl rfl ?_
  refine r_p hq 2 (pc' := 6) (L' := [(0, .ref a0), (1, .ref a1)]) (st' := [.ref a0, .int ((0 : Int32)), .ref (a1 + 1)]) rfl ?_
  refine r_gR (b := a0 + 1) (pc' := 9) (L' := [(0, .ref a0), (1, .ref a1)]) H hq (z_at.mk 3 rfl rfl) rfl (zIn_all (l := [49, 82, 107, 118]) (p := fun a => zQ a 16 0 (100 + a + 1)) rfl ha0) rfl rfl ?_
  refine r_p hq 2 (pc' := 12) (L' := [(0, .ref a0), (1, .ref a1)]) (st' := [.int ((7 : Int32)), .int ((0 : Int32)), .ref (a0 + 1), .int ((0 : Int32)), .ref (a1 + 1)]) rfl ?_
  refine r_cp (t := 0) (pc' := 15) (L' := [(0, .ref a0), (1, .ref a1)]) H hq (z_at.mk 3 rfl rfl) rfl (by decide) (by decide) (zIn_all (l := [49, 82, 107, 118]) (p := fun a => zAr (a + 1) 0 7) rfl ha1) (zIn_all (l := [49, 82, 107, 118]) (p := fun a => zAr (a + 1) 0 7) rfl ha0) (rfl : (0 : Int32).toInt = 0) (rfl : (0 : Int32).toInt = 0) (rfl : (7 : Int32).toInt = 7) (by decide) rfl rfl ?_
  intro m_12 H_12
  cases h
  exact r_rv hq (z_at.mk 1 rfl rfl) rfl rfl H_12
def g_ca_copyFrom (a0 : Nat) (a1 : Nat) (σ : zS) : Option (Unit × zS) :=
  (g_se_copyFrom (a0 + 1) (a1 + 1) σ).bind fun o_8 =>
  let s_24 := zcp o_8.2 (a1 + 3) 0 (a0 + 3) 0 181
  let s_40 := zcp s_24 (a1 + 4) 0 (a0 + 4) 0 181
  let s_56 := zcp s_40 (a1 + 5) 0 (a0 + 5) 0 181
  let s_72 := zcp s_56 (a1 + 6) 0 (a0 + 6) 0 181
  let s_88 := zcp s_72 (a1 + 7) 0 (a0 + 7) 0 181
  let v_93 := s_88 a1 2
  let s_96 := zu s_88 a0 2 v_93
  let v_101 := s_96 a1 8
  let s_104 := zu s_96 a0 8 v_101
  let v_109 := s_104 a1 9
  let s_112 := zu s_104 a0 9 v_109
  let v_117 := s_112 a1 10
  let s_120 := zu s_112 a0 10 v_117
  let v_125 := s_120 a1 11
  let s_128 := zu s_120 a0 11 v_125
  let v_133 := s_128 a1 12
  let s_136 := zu s_128 a0 12 v_133
  let v_141 := s_136 a1 13
  let s_144 := zu s_136 a0 13 v_141
  let v_149 := s_144 a1 14
  let s_152 := zu s_144 a0 14 v_149
  let v_157 := s_152 a1 15
  let s_160 := zu s_152 a0 15 v_157
  some ((), s_160)
set_option maxHeartbeats 4000000 in
theorem g_ca_copyFrom_ok {xl : Nat} {xs : Nat → Int32} {a0 : Nat} (ha0 : zIn [48, 81] a0 = true) {a1 : Nat} (ha1 : zIn [48, 81] a1 = true) {σ : zS} {p : Nat} {m : zM} {o : Unit × zS} (H : zRep xl xs p m σ) (h : g_ca_copyFrom a0 a1 σ = some o) : zGo xl xs (fun p' => p = p') 2 21 0 (z_can 21 0 (lv_args 0 [.ref a0, .ref a1])) [] m vV o.2 := by
  have hq : z_mth 21 = some z_r21 := rfl
  unfold g_ca_copyFrom at h
  show zGo xl xs (fun p' => p = p') 2 21 0 [(0, .ref a0), (1, .ref a1)] [] m vV o.2
  refine r_p hq 1 (pc' := 1) (L' := [(0, .ref a0), (1, .ref a1)]) (st' := [.ref a0]) rfl ?_
  refine r_gR (b := a0 + 1) (pc' := 4) (L' := [(0, .ref a0), (1, .ref a1)]) H hq (z_at.mk 3 rfl rfl) rfl (zIn_all (l := [48, 81]) (p := fun a => zQ a 12 1 (100 + a + 1)) rfl ha0) rfl rfl ?_
  refine r_p hq 1 (pc' := 5) (L' := [(0, .ref a0), (1, .ref a1)]) (st' := [.ref a1, .ref (a0 + 1)]) rfl ?_
  refine r_gR (b := a1 + 1) (pc' := 8) (L' := [(0, .ref a0), (1, .ref a1)]) H hq (z_at.mk 3 rfl rfl) rfl (zIn_all (l := [48, 81]) (p := fun a => zQ a 12 1 (100 + a + 1)) rfl ha1) rfl rfl ?_
  obtain ⟨o_8, h_8, h⟩ := Option.bind_eq_some_iff.mp h
  refine r_cvV (pc' := 11) (L' := [(0, .ref a0), (1, .ref a1)]) (Ps := [.ref (a1 + 1)]) (rest := []) hq (z_at.mk 3 rfl rfl) (Or.inl ⟨rfl, rfl⟩) rfl rfl (by decide) (by decide) rfl (Nat.not_lt.mpr (Nat.le_of_ble_eq_true rfl)) rfl rfl (z_cat_le 0 rfl (by decide)) (z_lgl_le 2 rfl (by decide)) (by decide) (H.tg (zIn_all (l := [48, 81]) (p := fun a => zT (a + 1) 16) rfl ha0)) (by omega) (g_se_copyFrom_ok (zIn_all (l := [48, 81]) (p := fun a => zIn [49, 82, 107, 118] (a + 1)) rfl ha0) (zIn_all (l := [48, 81]) (p := fun a => zIn [49, 82, 107, 118] (a + 1)) rfl ha1) H h_8) rfl rfl ?_
  intro m_8 p_8 e_8 H_8
  subst e_8
  refine r_p hq 1 (pc' := 12) (L' := [(0, .ref a0), (1, .ref a1)]) (st' := [.ref a1]) rfl ?_
  refine r_gR (b := a1 + 3) (pc' := 15) (L' := [(0, .ref a0), (1, .ref a1)]) H_8 hq (z_at.mk 3 rfl rfl) rfl (zIn_all (l := [48, 81]) (p := fun a => zQ a 12 3 (100 + a + 3)) rfl ha1) rfl rfl ?_
  refine r_p hq 2 (pc' := 17) (L' := [(0, .ref a0), (1, .ref a1)]) (st' := [.ref a0, .int ((0 : Int32)), .ref (a1 + 3)]) rfl ?_
  refine r_gR (b := a0 + 3) (pc' := 20) (L' := [(0, .ref a0), (1, .ref a1)]) H_8 hq (z_at.mk 3 rfl rfl) rfl (zIn_all (l := [48, 81]) (p := fun a => zQ a 12 3 (100 + a + 3)) rfl ha0) rfl rfl ?_
  refine r_p hq 2 (pc' := 24) (L' := [(0, .ref a0), (1, .ref a1)]) (st' := [.int ((181 : Int32)), .int ((0 : Int32)), .ref (a0 + 3), .int ((0 : Int32)), .ref (a1 + 3)]) rfl ?_
  refine r_cp (t := 0) (pc' := 27) (L' := [(0, .ref a0), (1, .ref a1)]) H_8 hq (z_at.mk 3 rfl rfl) rfl (by decide) (by decide) (zIn_all (l := [48, 81]) (p := fun a => zAr (a + 3) 0 181) rfl ha1) (zIn_all (l := [48, 81]) (p := fun a => zAr (a + 3) 0 181) rfl ha0) (rfl : (0 : Int32).toInt = 0) (rfl : (0 : Int32).toInt = 0) (rfl : (181 : Int32).toInt = 181) (by decide) rfl rfl ?_
  intro m_24 H_24
  refine r_p hq 1 (pc' := 28) (L' := [(0, .ref a0), (1, .ref a1)]) (st' := [.ref a1]) rfl ?_
  refine r_gR (b := a1 + 4) (pc' := 31) (L' := [(0, .ref a0), (1, .ref a1)]) H_24 hq (z_at.mk 3 rfl rfl) rfl (zIn_all (l := [48, 81]) (p := fun a => zQ a 12 4 (100 + a + 4)) rfl ha1) rfl rfl ?_
  refine r_p hq 2 (pc' := 33) (L' := [(0, .ref a0), (1, .ref a1)]) (st' := [.ref a0, .int ((0 : Int32)), .ref (a1 + 4)]) rfl ?_
  refine r_gR (b := a0 + 4) (pc' := 36) (L' := [(0, .ref a0), (1, .ref a1)]) H_24 hq (z_at.mk 3 rfl rfl) rfl (zIn_all (l := [48, 81]) (p := fun a => zQ a 12 4 (100 + a + 4)) rfl ha0) rfl rfl ?_
  refine r_p hq 2 (pc' := 40) (L' := [(0, .ref a0), (1, .ref a1)]) (st' := [.int ((181 : Int32)), .int ((0 : Int32)), .ref (a0 + 4), .int ((0 : Int32)), .ref (a1 + 4)]) rfl ?_
  refine r_cp (t := 0) (pc' := 43) (L' := [(0, .ref a0), (1, .ref a1)]) H_24 hq (z_at.mk 3 rfl rfl) rfl (by decide) (by decide) (zIn_all (l := [48, 81]) (p := fun a => zAr (a + 4) 0 181) rfl ha1) (zIn_all (l := [48, 81]) (p := fun a => zAr (a + 4) 0 181) rfl ha0) (rfl : (0 : Int32).toInt = 0) (rfl : (0 : Int32).toInt = 0) (rfl : (181 : Int32).toInt = 181) (by decide) rfl rfl ?_
  intro m_40 H_40
  refine r_p hq 1 (pc' := 44) (L' := [(0, .ref a0), (1, .ref a1)]) (st' := [.ref a1]) rfl ?_
  refine r_gR (b := a1 + 5) (pc' := 47) (L' := [(0, .ref a0), (1, .ref a1)]) H_40 hq (z_at.mk 3 rfl rfl) rfl (zIn_all (l := [48, 81]) (p := fun a => zQ a 12 5 (100 + a + 5)) rfl ha1) rfl rfl ?_
  refine r_p hq 2 (pc' := 49) (L' := [(0, .ref a0), (1, .ref a1)]) (st' := [.ref a0, .int ((0 : Int32)), .ref (a1 + 5)]) rfl ?_
  refine r_gR (b := a0 + 5) (pc' := 52) (L' := [(0, .ref a0), (1, .ref a1)]) H_40 hq (z_at.mk 3 rfl rfl) rfl (zIn_all (l := [48, 81]) (p := fun a => zQ a 12 5 (100 + a + 5)) rfl ha0) rfl rfl ?_
  refine r_p hq 2 (pc' := 56) (L' := [(0, .ref a0), (1, .ref a1)]) (st' := [.int ((181 : Int32)), .int ((0 : Int32)), .ref (a0 + 5), .int ((0 : Int32)), .ref (a1 + 5)]) rfl ?_
  refine r_cp (t := 0) (pc' := 59) (L' := [(0, .ref a0), (1, .ref a1)]) H_40 hq (z_at.mk 3 rfl rfl) rfl (by decide) (by decide) (zIn_all (l := [48, 81]) (p := fun a => zAr (a + 5) 0 181) rfl ha1) (zIn_all (l := [48, 81]) (p := fun a => zAr (a + 5) 0 181) rfl ha0) (rfl : (0 : Int32).toInt = 0) (rfl : (0 : Int32).toInt = 0) (rfl : (181 : Int32).toInt = 181) (by decide) rfl rfl ?_
  intro m_56 H_56
  refine r_p hq 1 (pc' := 60) (L' := [(0, .ref a0), (1, .ref a1)]) (st' := [.ref a1]) rfl ?_
  refine r_gR (b := a1 + 6) (pc' := 63) (L' := [(0, .ref a0), (1, .ref a1)]) H_56 hq (z_at.mk 3 rfl rfl) rfl (zIn_all (l := [48, 81]) (p := fun a => zQ a 12 6 (100 + a + 6)) rfl ha1) rfl rfl ?_
  refine r_p hq 2 (pc' := 65) (L' := [(0, .ref a0), (1, .ref a1)]) (st' := [.ref a0, .int ((0 : Int32)), .ref (a1 + 6)]) rfl ?_
  refine r_gR (b := a0 + 6) (pc' := 68) (L' := [(0, .ref a0), (1, .ref a1)]) H_56 hq (z_at.mk 3 rfl rfl) rfl (zIn_all (l := [48, 81]) (p := fun a => zQ a 12 6 (100 + a + 6)) rfl ha0) rfl rfl ?_
  refine r_p hq 2 (pc' := 72) (L' := [(0, .ref a0), (1, .ref a1)]) (st' := [.int ((181 : Int32)), .int ((0 : Int32)), .ref (a0 + 6), .int ((0 : Int32)), .ref (a1 + 6)]) rfl ?_
  refine r_cp (t := 0) (pc' := 75) (L' := [(0, .ref a0), (1, .ref a1)]) H_56 hq (z_at.mk 3 rfl rfl) rfl (by decide) (by decide) (zIn_all (l := [48, 81]) (p := fun a => zAr (a + 6) 0 181) rfl ha1) (zIn_all (l := [48, 81]) (p := fun a => zAr (a + 6) 0 181) rfl ha0) (rfl : (0 : Int32).toInt = 0) (rfl : (0 : Int32).toInt = 0) (rfl : (181 : Int32).toInt = 181) (by decide) rfl rfl ?_
  intro m_72 H_72
  refine r_p hq 1 (pc' := 76) (L' := [(0, .ref a0), (1, .ref a1)]) (st' := [.ref a1]) rfl ?_
  refine r_gR (b := a1 + 7) (pc' := 79) (L' := [(0, .ref a0), (1, .ref a1)]) H_72 hq (z_at.mk 3 rfl rfl) rfl (zIn_all (l := [48, 81]) (p := fun a => zQ a 12 7 (100 + a + 7)) rfl ha1) rfl rfl ?_
  refine r_p hq 2 (pc' := 81) (L' := [(0, .ref a0), (1, .ref a1)]) (st' := [.ref a0, .int ((0 : Int32)), .ref (a1 + 7)]) rfl ?_
  refine r_gR (b := a0 + 7) (pc' := 84) (L' := [(0, .ref a0), (1, .ref a1)]) H_72 hq (z_at.mk 3 rfl rfl) rfl (zIn_all (l := [48, 81]) (p := fun a => zQ a 12 7 (100 + a + 7)) rfl ha0) rfl rfl ?_
  refine r_p hq 2 (pc' := 88) (L' := [(0, .ref a0), (1, .ref a1)]) (st' := [.int ((181 : Int32)), .int ((0 : Int32)), .ref (a0 + 7), .int ((0 : Int32)), .ref (a1 + 7)]) rfl ?_
  refine r_cp (t := 1) (pc' := 91) (L' := [(0, .ref a0), (1, .ref a1)]) H_72 hq (z_at.mk 3 rfl rfl) rfl (by decide) (by decide) (zIn_all (l := [48, 81]) (p := fun a => zAr (a + 7) 1 181) rfl ha1) (zIn_all (l := [48, 81]) (p := fun a => zAr (a + 7) 1 181) rfl ha0) (rfl : (0 : Int32).toInt = 0) (rfl : (0 : Int32).toInt = 0) (rfl : (181 : Int32).toInt = 181) (by decide) rfl rfl ?_
  intro m_88 H_88
  refine r_p hq 2 (pc' := 93) (L' := [(0, .ref a0), (1, .ref a1)]) (st' := [.ref a1, .ref a0]) rfl ?_
  refine r_gI (pc' := 96) (L' := [(0, .ref a0), (1, .ref a1)]) H_88 hq (z_at.mk 3 rfl rfl) rfl (zIn_all (l := [48, 81]) (p := fun a => zQ a 12 2 0) rfl ha1) rfl rfl ?_
  intro V_93 hV_93
  refine r_pI (X := V_93) (pc' := 99) (L' := [(0, .ref a0), (1, .ref a1)]) H_88 hq (z_at.mk 3 rfl rfl) rfl (zIn_all (l := [48, 81]) (p := fun a => zQ a 12 2 0) rfl ha0) hV_93 (by decide) rfl rfl rfl rfl ?_
  intro m_96 H_96
  refine r_p hq 2 (pc' := 101) (L' := [(0, .ref a0), (1, .ref a1)]) (st' := [.ref a1, .ref a0]) rfl ?_
  refine r_gI (pc' := 104) (L' := [(0, .ref a0), (1, .ref a1)]) H_96 hq (z_at.mk 3 rfl rfl) rfl (zIn_all (l := [48, 81]) (p := fun a => zQ a 12 8 0) rfl ha1) rfl rfl ?_
  intro V_101 hV_101
  refine r_pI (X := V_101) (pc' := 107) (L' := [(0, .ref a0), (1, .ref a1)]) H_96 hq (z_at.mk 3 rfl rfl) rfl (zIn_all (l := [48, 81]) (p := fun a => zQ a 12 8 0) rfl ha0) hV_101 (by decide) rfl rfl rfl rfl ?_
  intro m_104 H_104
  refine r_p hq 2 (pc' := 109) (L' := [(0, .ref a0), (1, .ref a1)]) (st' := [.ref a1, .ref a0]) rfl ?_
  refine r_gL (pc' := 112) (L' := [(0, .ref a0), (1, .ref a1)]) H_104 hq (z_at.mk 3 rfl rfl) rfl (zIn_all (l := [48, 81]) (p := fun a => zQ a 12 9 1) rfl ha1) rfl rfl ?_
  intro V_109 hV_109
  refine r_pL (X := V_109) (pc' := 115) (L' := [(0, .ref a0), (1, .ref a1)]) H_104 hq (z_at.mk 3 rfl rfl) rfl (zIn_all (l := [48, 81]) (p := fun a => zQ a 12 9 1) rfl ha0) hV_109 (by decide) rfl rfl rfl rfl ?_
  intro m_112 H_112
  refine r_p hq 2 (pc' := 117) (L' := [(0, .ref a0), (1, .ref a1)]) (st' := [.ref a1, .ref a0]) rfl ?_
  refine r_gI (pc' := 120) (L' := [(0, .ref a0), (1, .ref a1)]) H_112 hq (z_at.mk 3 rfl rfl) rfl (zIn_all (l := [48, 81]) (p := fun a => zQ a 12 10 0) rfl ha1) rfl rfl ?_
  intro V_117 hV_117
  refine r_pI (X := V_117) (pc' := 123) (L' := [(0, .ref a0), (1, .ref a1)]) H_112 hq (z_at.mk 3 rfl rfl) rfl (zIn_all (l := [48, 81]) (p := fun a => zQ a 12 10 0) rfl ha0) hV_117 (by decide) rfl rfl rfl rfl ?_
  intro m_120 H_120
  refine r_p hq 2 (pc' := 125) (L' := [(0, .ref a0), (1, .ref a1)]) (st' := [.ref a1, .ref a0]) rfl ?_
  refine r_gI (pc' := 128) (L' := [(0, .ref a0), (1, .ref a1)]) H_120 hq (z_at.mk 3 rfl rfl) rfl (zIn_all (l := [48, 81]) (p := fun a => zQ a 12 11 0) rfl ha1) rfl rfl ?_
  intro V_125 hV_125
  refine r_pI (X := V_125) (pc' := 131) (L' := [(0, .ref a0), (1, .ref a1)]) H_120 hq (z_at.mk 3 rfl rfl) rfl (zIn_all (l := [48, 81]) (p := fun a => zQ a 12 11 0) rfl ha0) hV_125 (by decide) rfl rfl rfl rfl ?_
  intro m_128 H_128
  refine r_p hq 2 (pc' := 133) (L' := [(0, .ref a0), (1, .ref a1)]) (st' := [.ref a1, .ref a0]) rfl ?_
  refine r_gI (pc' := 136) (L' := [(0, .ref a0), (1, .ref a1)]) H_128 hq (z_at.mk 3 rfl rfl) rfl (zIn_all (l := [48, 81]) (p := fun a => zQ a 12 12 0) rfl ha1) rfl rfl ?_
  intro V_133 hV_133
  refine r_pI (X := V_133) (pc' := 139) (L' := [(0, .ref a0), (1, .ref a1)]) H_128 hq (z_at.mk 3 rfl rfl) rfl (zIn_all (l := [48, 81]) (p := fun a => zQ a 12 12 0) rfl ha0) hV_133 (by decide) rfl rfl rfl rfl ?_
  intro m_136 H_136
  refine r_p hq 2 (pc' := 141) (L' := [(0, .ref a0), (1, .ref a1)]) (st' := [.ref a1, .ref a0]) rfl ?_
  refine r_gI (pc' := 144) (L' := [(0, .ref a0), (1, .ref a1)]) H_136 hq (z_at.mk 3 rfl rfl) rfl (zIn_all (l := [48, 81]) (p := fun a => zQ a 12 13 0) rfl ha1) rfl rfl ?_
  intro V_141 hV_141
  refine r_pI (X := V_141) (pc' := 147) (L' := [(0, .ref a0), (1, .ref a1)]) H_136 hq (z_at.mk 3 rfl rfl) rfl (zIn_all (l := [48, 81]) (p := fun a => zQ a 12 13 0) rfl ha0) hV_141 (by decide) rfl rfl rfl rfl ?_
  intro m_144 H_144
  refine r_p hq 2 (pc' := 149) (L' := [(0, .ref a0), (1, .ref a1)]) (st' := [.ref a1, .ref a0]) rfl ?_
  refine r_gI (pc' := 152) (L' := [(0, .ref a0), (1, .ref a1)]) H_144 hq (z_at.mk 3 rfl rfl) rfl (zIn_all (l := [48, 81]) (p := fun a => zQ a 12 14 0) rfl ha1) rfl rfl ?_
  intro V_149 hV_149
  refine r_pI (X := V_149) (pc' := 155) (L' := [(0, .ref a0), (1, .ref a1)]) H_144 hq (z_at.mk 3 rfl rfl) rfl (zIn_all (l := [48, 81]) (p := fun a => zQ a 12 14 0) rfl ha0) hV_149 (by decide) rfl rfl rfl rfl ?_
  intro m_152 H_152
  refine r_p hq 2 (pc' := 157) (L' := [(0, .ref a0), (1, .ref a1)]) (st' := [.ref a1, .ref a0]) rfl ?_
  refine r_gI (pc' := 160) (L' := [(0, .ref a0), (1, .ref a1)]) H_152 hq (z_at.mk 3 rfl rfl) rfl (zIn_all (l := [48, 81]) (p := fun a => zQ a 12 15 0) rfl ha1) rfl rfl ?_
  intro V_157 hV_157
  refine r_pI (X := V_157) (pc' := 163) (L' := [(0, .ref a0), (1, .ref a1)]) H_152 hq (z_at.mk 3 rfl rfl) rfl (zIn_all (l := [48, 81]) (p := fun a => zQ a 12 15 0) rfl ha0) hV_157 (by decide) rfl rfl rfl rfl ?_
  intro m_160 H_160
  cases h
  exact r_rv hq (z_at.mk 1 rfl rfl) rfl rfl H_160
