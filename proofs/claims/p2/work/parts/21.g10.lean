/-! THE METHODS over the typed memory, 10 (by wip/zg.py) -/
def g_m_size (x1 : Int) (σ : zS) : Option (Int × zS) :=
  (g_m_region_173 x1 σ).bind fun o_7 =>
  (g_m_rowsIn 144 o_7.1 o_7.2).bind fun o_10 =>
  some (w32 (1 + o_10.1), o_10.2)
set_option maxHeartbeats 4000000 in
theorem g_m_size_ok {xl : Nat} {xs : Nat → Int32} {X1 : Int32} {x1 : Int} (hx1 : X1.toInt = x1) {σ : zS} {p : Nat} {m : zM} {o : Int × zS} (H : zRep xl xs p m σ) (h : g_m_size x1 σ = some o) : zGo xl xs (fun p' => p = p') 4 176 0 (z_can 176 0 (lv_args 0 [.ref 143, .int X1])) [] m (vI o.1) o.2 := by
  have hq : z_mth 176 = some z_r176 := rfl
  unfold g_m_size at h
  show zGo xl xs (fun p' => p = p') 4 176 0 [(0, .ref 143), (1, .int X1)] [] m (vI o.1) o.2
  refine r_p hq 3 (pc' := 3) (L' := [(0, .ref 143), (1, .int X1)]) (st' := [.ref 143, .ref 143, .int ((1 : Int32))]) rfl ?_
  refine r_gR (b := 144) (pc' := 6) (L' := [(0, .ref 143), (1, .int X1)]) H hq (z_at.mk 3 rfl rfl) rfl rfl rfl rfl ?_
  refine r_p hq 1 (pc' := 7) (L' := [(0, .ref 143), (1, .int X1)]) (st' := [.int X1, .ref 144, .ref 143, .int ((1 : Int32))]) rfl ?_
  obtain ⟨o_7, h_7, h⟩ := Option.bind_eq_some_iff.mp h
  refine r_csI (pc' := 10) (L' := [(0, .ref 143), (1, .int X1)]) (As := [.int X1]) (rest := [.ref 144, .ref 143, .int ((1 : Int32))]) (j := 173) hq (z_at.mk 3 rfl rfl) (Or.inl ⟨rfl, rfl⟩) rfl rfl (by omega) (g_m_region_173_ok hx1 H h_7) rfl rfl ?_
  intro R_7 m_7 p_7 e_7 hR_7 H_7
  subst e_7
  obtain ⟨o_10, h_10, h⟩ := Option.bind_eq_some_iff.mp h
  refine r_cvI (pc' := 13) (L' := [(0, .ref 143), (1, .int X1)]) (Ps := [.ref 144, .int R_7]) (rest := [.int ((1 : Int32))]) hq (z_at.mk 3 rfl rfl) (Or.inl ⟨rfl, rfl⟩) rfl rfl (by decide) (by decide) rfl (Nat.not_lt.mpr (Nat.le_of_ble_eq_true rfl)) rfl rfl (z_cat_le 1 rfl (by decide)) (z_lgl_le 3 rfl (by decide)) (by decide) (H_7.tg rfl) (by omega) (g_m_rowsIn_ok rfl hR_7 H_7 h_10) rfl rfl ?_
  intro R_10 m_10 p_10 e_10 hR_10 H_10
  subst e_10
  refine r_p hq 1 (pc' := 14) (L' := [(0, .ref 143), (1, .int X1)]) (st' := [.int (((1 : Int32)) + R_10)]) rfl ?_
  cases h
  exact r_ri hq (z_at.mk 1 rfl rfl) rfl rfl (tx_iadd (rfl : (1 : Int32).toInt = 1) hR_10) rfl H_10
def g_m_cost (a1 : Nat) (x2 : Int) (σ : zS) : Option (Int × zS) :=
  let v_6 := σ 144 11
  (g_m_rowsIn a1 x2 σ).bind fun o_10 =>
  some (w32 (v_6 + o_10.1), o_10.2)
set_option maxHeartbeats 4000000 in
theorem g_m_cost_ok {xl : Nat} {xs : Nat → Int32} {a1 : Nat} (ha1 : zIn [144, 150, 151, 152, 153, 156, 157, 161, 164, 165] a1 = true) {X2 : Int32} {x2 : Int} (hx2 : X2.toInt = x2) {σ : zS} {p : Nat} {m : zM} {o : Int × zS} (H : zRep xl xs p m σ) (h : g_m_cost a1 x2 σ = some o) : zGo xl xs (fun p' => p = p') 4 177 0 (z_can 177 0 (lv_args 0 [.ref 143, .ref a1, .int X2])) [] m (vI o.1) o.2 := by
  have hq : z_mth 177 = some z_r177 := rfl
  unfold g_m_cost at h
  show zGo xl xs (fun p' => p = p') 4 177 0 [(0, .ref 143), (1, .ref a1), (2, .int X2)] [] m (vI o.1) o.2
  refine r_p hq 1 (pc' := 1) (L' := [(0, .ref 143), (1, .ref a1), (2, .int X2)]) (st' := [.ref 143]) rfl ?_
  refine r_gR (b := 144) (pc' := 4) (L' := [(0, .ref 143), (1, .ref a1), (2, .int X2)]) H hq (z_at.mk 3 rfl rfl) rfl rfl rfl rfl ?_
  refine r_p hq 1 (pc' := 6) (L' := [(0, .ref 143), (1, .ref a1), (2, .int X2)]) (st' := [.int ((11 : Int32)), .ref 144]) rfl ?_
  refine r_ia (pc' := 7) (L' := [(0, .ref 143), (1, .ref a1), (2, .int X2)]) H hq (z_at.mk 1 rfl rfl) (show zAr 144 0 2740 = true from rfl) (rfl : (11 : Int32).toInt = 11) ⟨by decide, by decide⟩ rfl rfl ?_
  intro V_6 hV_6
  refine r_p hq 3 (pc' := 10) (L' := [(0, .ref 143), (1, .ref a1), (2, .int X2)]) (st' := [.int X2, .ref a1, .ref 143, .int V_6]) rfl ?_
  obtain ⟨o_10, h_10, h⟩ := Option.bind_eq_some_iff.mp h
  refine r_cvI (pc' := 13) (L' := [(0, .ref 143), (1, .ref a1), (2, .int X2)]) (Ps := [.ref a1, .int X2]) (rest := [.int V_6]) hq (z_at.mk 3 rfl rfl) (Or.inl ⟨rfl, rfl⟩) rfl rfl (by decide) (by decide) rfl (Nat.not_lt.mpr (Nat.le_of_ble_eq_true rfl)) rfl rfl (z_cat_le 1 rfl (by decide)) (z_lgl_le 3 rfl (by decide)) (by decide) (H.tg rfl) (by omega) (g_m_rowsIn_ok (zIn_all (l := [144, 150, 151, 152, 153, 156, 157, 161, 164, 165]) (p := fun a => zIn [144, 150, 151, 152, 153, 156, 157, 161, 164, 165] a) rfl ha1) hx2 H h_10) rfl rfl ?_
  intro R_10 m_10 p_10 e_10 hR_10 H_10
  subst e_10
  refine r_p hq 1 (pc' := 14) (L' := [(0, .ref 143), (1, .ref a1), (2, .int X2)]) (st' := [.int (V_6 + R_10)]) rfl ?_
  cases h
  exact r_ri hq (z_at.mk 1 rfl rfl) rfl rfl (tx_iadd hV_6 hR_10) rfl H_10
def g_m_weighs (x1 : Int) (σ : zS) : Option (Unit × zS) :=
  let v_13 := σ 147 0
  (g_m_region_173 x1 σ).bind fun o_23 =>
  (g_m_cost 144 o_23.1 o_23.2).bind fun o_26 =>
  (g_m_region_173 x1 o_26.2).bind fun o_37 =>
  if 0 ≤ w32 (o_37.1 + 9) ∧ w32 (o_37.1 + 9) < 2740 then
  let v_43 := o_37.2 144 (w32 (o_37.1 + 9))
  (g_m_size x1 o_37.2).bind fun o_49 =>
  if o_49.1 = 0 then none else
  if 0 ≤ w32 (121 + x1) ∧ w32 (121 + x1) < 361 then
  let s_55 := zu o_49.2 147 (w32 (121 + x1)) (w64 (v_13 + (w64 (Int.tdiv (w64 ((w64 (1000 * o_26.1)) * (w32 (1 + v_43)))) o_49.1))))
  some ((), s_55)
  else none
  else none
set_option maxHeartbeats 4000000 in
theorem g_m_weighs_ok {xl : Nat} {xs : Nat → Int32} {X1 : Int32} {x1 : Int} (hx1 : X1.toInt = x1) {σ : zS} {p : Nat} {m : zM} {o : Unit × zS} (H : zRep xl xs p m σ) (h : g_m_weighs x1 σ = some o) : zGo xl xs (fun p' => p = p') 5 178 0 (z_can 178 0 (lv_args 0 [.ref 143, .int X1])) [] m vV o.2 := by
  have hq : z_mth 178 = some z_r178 := rfl
  unfold g_m_weighs at h
  show zGo xl xs (fun p' => p = p') 5 178 0 [(0, .ref 143), (1, .int X1)] [] m vV o.2
  refine r_p hq 1 (pc' := 1) (L' := [(0, .ref 143), (1, .int X1)]) (st' := [.ref 143]) rfl ?_
  refine r_gR (b := 147) (pc' := 4) (L' := [(0, .ref 143), (1, .int X1)]) H hq (z_at.mk 3 rfl rfl) rfl rfl rfl rfl ?_
  refine r_p hq 4 (pc' := 9) (L' := [(0, .ref 143), (1, .int X1)]) (st' := [.ref 143, .int (((121 : Int32)) + X1), .ref 147]) rfl ?_
  refine r_gR (b := 147) (pc' := 12) (L' := [(0, .ref 143), (1, .int X1)]) H hq (z_at.mk 3 rfl rfl) rfl rfl rfl rfl ?_
  refine r_p hq 1 (pc' := 13) (L' := [(0, .ref 143), (1, .int X1)]) (st' := [.int ((0 : Int32)), .ref 147, .int (((121 : Int32)) + X1), .ref 147]) rfl ?_
  refine r_la (pc' := 14) (L' := [(0, .ref 143), (1, .int X1)]) H hq (z_at.mk 1 rfl rfl) (show zAr 147 1 361 = true from rfl) (rfl : (0 : Int32).toInt = 0) ⟨by decide, by decide⟩ rfl rfl ?_
  intro V_13 hV_13
  refine r_p hq 3 (pc' := 19) (L' := [(0, .ref 143), (1, .int X1)]) (st' := [.ref 143, .ref 143, .long ((1000 : Int64)), .long V_13, .int (((121 : Int32)) + X1), .ref 147]) rfl ?_
  refine r_gR (b := 144) (pc' := 22) (L' := [(0, .ref 143), (1, .int X1)]) H hq (z_at.mk 3 rfl rfl) rfl rfl rfl rfl ?_
  refine r_p hq 1 (pc' := 23) (L' := [(0, .ref 143), (1, .int X1)]) (st' := [.int X1, .ref 144, .ref 143, .long ((1000 : Int64)), .long V_13, .int (((121 : Int32)) + X1), .ref 147]) rfl ?_
  obtain ⟨o_23, h_23, h⟩ := Option.bind_eq_some_iff.mp h
  refine r_csI (pc' := 26) (L' := [(0, .ref 143), (1, .int X1)]) (As := [.int X1]) (rest := [.ref 144, .ref 143, .long ((1000 : Int64)), .long V_13, .int (((121 : Int32)) + X1), .ref 147]) (j := 173) hq (z_at.mk 3 rfl rfl) (Or.inl ⟨rfl, rfl⟩) rfl rfl (by omega) (g_m_region_173_ok hx1 H h_23) rfl rfl ?_
  intro R_23 m_23 p_23 e_23 hR_23 H_23
  subst e_23
  obtain ⟨o_26, h_26, h⟩ := Option.bind_eq_some_iff.mp h
  refine r_cvI (pc' := 29) (L' := [(0, .ref 143), (1, .int X1)]) (Ps := [.ref 144, .int R_23]) (rest := [.long ((1000 : Int64)), .long V_13, .int (((121 : Int32)) + X1), .ref 147]) hq (z_at.mk 3 rfl rfl) (Or.inl ⟨rfl, rfl⟩) rfl rfl (by decide) (by decide) rfl (Nat.not_lt.mpr (Nat.le_of_ble_eq_true rfl)) rfl rfl (z_cat_le 6 rfl (by decide)) (z_lgl_le 3 rfl (by decide)) (by decide) (H_23.tg rfl) (by omega) (g_m_cost_ok rfl hR_23 H_23 h_26) rfl rfl ?_
  intro R_26 m_26 p_26 e_26 hR_26 H_26
  subst e_26
  refine r_p hq 4 (pc' := 33) (L' := [(0, .ref 143), (1, .int X1)]) (st' := [.ref 143, .int ((1 : Int32)), .long (((1000 : Int64)) * R_26.toInt64), .long V_13, .int (((121 : Int32)) + X1), .ref 147]) rfl ?_
  refine r_gR (b := 144) (pc' := 36) (L' := [(0, .ref 143), (1, .int X1)]) H_26 hq (z_at.mk 3 rfl rfl) rfl rfl rfl rfl ?_
  refine r_p hq 1 (pc' := 37) (L' := [(0, .ref 143), (1, .int X1)]) (st' := [.int X1, .ref 144, .int ((1 : Int32)), .long (((1000 : Int64)) * R_26.toInt64), .long V_13, .int (((121 : Int32)) + X1), .ref 147]) rfl ?_
  obtain ⟨o_37, h_37, h⟩ := Option.bind_eq_some_iff.mp h
  refine r_csI (pc' := 40) (L' := [(0, .ref 143), (1, .int X1)]) (As := [.int X1]) (rest := [.ref 144, .int ((1 : Int32)), .long (((1000 : Int64)) * R_26.toInt64), .long V_13, .int (((121 : Int32)) + X1), .ref 147]) (j := 173) hq (z_at.mk 3 rfl rfl) (Or.inl ⟨rfl, rfl⟩) rfl rfl (by omega) (g_m_region_173_ok hx1 H_26 h_37) rfl rfl ?_
  intro R_37 m_37 p_37 e_37 hR_37 H_37
  subst e_37
  refine r_p hq 2 (pc' := 43) (L' := [(0, .ref 143), (1, .int X1)]) (st' := [.int (R_37 + ((9 : Int32))), .ref 144, .int ((1 : Int32)), .long (((1000 : Int64)) * R_26.toInt64), .long V_13, .int (((121 : Int32)) + X1), .ref 147]) rfl ?_
  obtain ⟨g_43, h⟩ := z_ifo_some h
  refine r_ia (pc' := 44) (L' := [(0, .ref 143), (1, .int X1)]) H_37 hq (z_at.mk 1 rfl rfl) (show zAr 144 0 2740 = true from rfl) (tx_iadd hR_37 (rfl : (9 : Int32).toInt = 9)) g_43 rfl rfl ?_
  intro V_43 hV_43
  refine r_p hq 5 (pc' := 49) (L' := [(0, .ref 143), (1, .int X1)]) (st' := [.int X1, .ref 143, .long ((((1000 : Int64)) * R_26.toInt64) * ((((1 : Int32)) + V_43).toInt64)), .long V_13, .int (((121 : Int32)) + X1), .ref 147]) rfl ?_
  obtain ⟨o_49, h_49, h⟩ := Option.bind_eq_some_iff.mp h
  refine r_cvI (pc' := 52) (L' := [(0, .ref 143), (1, .int X1)]) (Ps := [.int X1]) (rest := [.long ((((1000 : Int64)) * R_26.toInt64) * ((((1 : Int32)) + V_43).toInt64)), .long V_13, .int (((121 : Int32)) + X1), .ref 147]) hq (z_at.mk 3 rfl rfl) (Or.inl ⟨rfl, rfl⟩) rfl rfl (by decide) (by decide) rfl (Nat.not_lt.mpr (Nat.le_of_ble_eq_true rfl)) rfl rfl (z_cat_le 6 rfl (by decide)) (z_lgl_le 2 rfl (by decide)) (by decide) (H_37.tg rfl) (by omega) (g_m_size_ok hx1 H_37 h_49) rfl rfl ?_
  intro R_49 m_49 p_49 e_49 hR_49 H_49
  subst e_49
  refine r_p hq 1 (pc' := 53) (L' := [(0, .ref 143), (1, .int X1)]) (st' := [.long R_49.toInt64, .long ((((1000 : Int64)) * R_26.toInt64) * ((((1 : Int32)) + V_43).toInt64)), .long V_13, .int (((121 : Int32)) + X1), .ref 147]) rfl ?_
  obtain ⟨g_53, h⟩ := z_ifno_some h
  refine r_ldiv (pc' := 54) (L' := [(0, .ref 143), (1, .int X1)]) hq (z_at.mk 1 rfl rfl) (tx_lmul (tx_lmul (rfl : (1000 : Int64).toInt = 1000) (tx_i2l hR_26)) (tx_i2l (tx_iadd (rfl : (1 : Int32).toInt = 1) hV_43))) (tx_i2l hR_49) g_53 rfl rfl ?_
  intro V_53 hV_53
  refine r_p hq 1 (pc' := 55) (L' := [(0, .ref 143), (1, .int X1)]) (st' := [.long (V_13 + V_53), .int (((121 : Int32)) + X1), .ref 147]) rfl ?_
  obtain ⟨g_55, h⟩ := z_ifo_some h
  refine r_ls (pc' := 56) (L' := [(0, .ref 143), (1, .int X1)]) H_49 hq (z_at.mk 1 rfl rfl) (show zAr 147 1 361 = true from rfl) (tx_iadd (rfl : (121 : Int32).toInt = 121) hx1) g_55 (tx_ladd hV_13 hV_53) rfl rfl ?_
  intro m_55 H_55
  cases h
  exact r_rv hq (z_at.mk 1 rfl rfl) rfl rfl H_55
def g_m_adds (a1 : Nat) (x2 : Int) (σ : zS) : Option (Int × zS) :=
  let v_5 := σ 144 0
  (g_m_region_173 v_5 σ).bind fun o_14 =>
  (g_m_copies a1 144 x2 o_14.1 o_14.2).bind fun o_17 =>
  (g_m_region_173 v_5 o_17.2).bind fun o_25 =>
  (g_m_sets 144 (w32 (o_25.1 + 4)) (-5) (-5) (-5) (-5) o_25.2).bind fun o_38 =>
  (g_m_region_173 v_5 o_38.2).bind fun o_46 =>
  let v_57 := o_46.2 144 1
  if 0 ≤ w32 (o_46.1 + 8) ∧ w32 (o_46.1 + 8) < 2740 then
  let s_58 := zu o_46.2 144 (w32 (o_46.1 + 8)) v_57
  (g_m_region_173 v_5 s_58).bind fun o_64 =>
  if 0 ≤ w32 (o_64.1 + 9) ∧ w32 (o_64.1 + 9) < 2740 then
  let s_71 := zu o_64.2 144 (w32 (o_64.1 + 9)) 0
  let v_78 := s_71 144 1
  let s_81 := zu s_71 144 1 (w32 (v_78 + 1))
  let v_88 := s_81 144 0
  let s_91 := zu s_81 144 0 (w32 (v_88 + 1))
  some (v_5, s_91)
  else none
  else none
set_option maxHeartbeats 4000000 in
theorem g_m_adds_ok {xl : Nat} {xs : Nat → Int32} {a1 : Nat} (ha1 : zIn [144, 150, 151, 152, 153, 156, 157, 161, 164, 165] a1 = true) {X2 : Int32} {x2 : Int} (hx2 : X2.toInt = x2) {σ : zS} {p : Nat} {m : zM} {o : Int × zS} (H : zRep xl xs p m σ) (h : g_m_adds a1 x2 σ = some o) : zGo xl xs (fun p' => p = p') 3 179 0 (z_can 179 0 (lv_args 0 [.ref 143, .ref a1, .int X2])) [] m (vI o.1) o.2 := by
  have hq : z_mth 179 = some z_r179 := rfl
  unfold g_m_adds at h
  show zGo xl xs (fun p' => p = p') 3 179 0 [(0, .ref 143), (1, .ref a1), (2, .int X2)] [] m (vI o.1) o.2
  refine r_p hq 1 (pc' := 1) (L' := [(0, .ref 143), (1, .ref a1), (2, .int X2)]) (st' := [.ref 143]) rfl ?_
  refine r_gR (b := 144) (pc' := 4) (L' := [(0, .ref 143), (1, .ref a1), (2, .int X2)]) H hq (z_at.mk 3 rfl rfl) rfl rfl rfl rfl ?_
  refine r_p hq 1 (pc' := 5) (L' := [(0, .ref 143), (1, .ref a1), (2, .int X2)]) (st' := [.int ((0 : Int32)), .ref 144]) rfl ?_
  refine r_ia (pc' := 6) (L' := [(0, .ref 143), (1, .ref a1), (2, .int X2)]) H hq (z_at.mk 1 rfl rfl) (show zAr 144 0 2740 = true from rfl) (rfl : (0 : Int32).toInt = 0) ⟨by decide, by decide⟩ rfl rfl ?_
  intro V_5 hV_5
  refine r_p hq 4 (pc' := 10) (L' := [(3, .int V_5), (0, .ref 143), (1, .ref a1), (2, .int X2)]) (st' := [.ref 143, .int X2, .ref a1]) rfl ?_
  refine r_gR (b := 144) (pc' := 13) (L' := [(3, .int V_5), (0, .ref 143), (1, .ref a1), (2, .int X2)]) H hq (z_at.mk 3 rfl rfl) rfl rfl rfl rfl ?_
  refine r_p hq 1 (pc' := 14) (L' := [(3, .int V_5), (0, .ref 143), (1, .ref a1), (2, .int X2)]) (st' := [.int V_5, .ref 144, .int X2, .ref a1]) rfl ?_
  obtain ⟨o_14, h_14, h⟩ := Option.bind_eq_some_iff.mp h
  refine r_csI (pc' := 17) (L' := [(3, .int V_5), (0, .ref 143), (1, .ref a1), (2, .int X2)]) (As := [.int V_5]) (rest := [.ref 144, .int X2, .ref a1]) (j := 173) hq (z_at.mk 3 rfl rfl) (Or.inl ⟨rfl, rfl⟩) rfl rfl (by omega) (g_m_region_173_ok hV_5 H h_14) rfl rfl ?_
  intro R_14 m_14 p_14 e_14 hR_14 H_14
  subst e_14
  obtain ⟨o_17, h_17, h⟩ := Option.bind_eq_some_iff.mp h
  refine r_csV (pc' := 20) (L' := [(3, .int V_5), (0, .ref 143), (1, .ref a1), (2, .int X2)]) (As := [.ref a1, .int X2, .ref 144, .int R_14]) (rest := []) (j := 166) hq (z_at.mk 3 rfl rfl) (Or.inl ⟨rfl, rfl⟩) rfl rfl (by omega) (g_m_copies_ok (zIn_all (l := [144, 150, 151, 152, 153, 156, 157, 161, 164, 165]) (p := fun a => zIn [144, 150, 151, 152, 153, 156, 157, 161, 164, 165] a) rfl ha1) rfl hx2 hR_14 H_14 h_17) rfl rfl ?_
  intro m_17 p_17 e_17 H_17
  subst e_17
  refine r_p hq 1 (pc' := 21) (L' := [(3, .int V_5), (0, .ref 143), (1, .ref a1), (2, .int X2)]) (st' := [.ref 143]) rfl ?_
  refine r_gR (b := 144) (pc' := 24) (L' := [(3, .int V_5), (0, .ref 143), (1, .ref a1), (2, .int X2)]) H_17 hq (z_at.mk 3 rfl rfl) rfl rfl rfl rfl ?_
  refine r_p hq 1 (pc' := 25) (L' := [(3, .int V_5), (0, .ref 143), (1, .ref a1), (2, .int X2)]) (st' := [.int V_5, .ref 144]) rfl ?_
  obtain ⟨o_25, h_25, h⟩ := Option.bind_eq_some_iff.mp h
  refine r_csI (pc' := 28) (L' := [(3, .int V_5), (0, .ref 143), (1, .ref a1), (2, .int X2)]) (As := [.int V_5]) (rest := [.ref 144]) (j := 173) hq (z_at.mk 3 rfl rfl) (Or.inl ⟨rfl, rfl⟩) rfl rfl (by omega) (g_m_region_173_ok hV_5 H_17 h_25) rfl rfl ?_
  intro R_25 m_25 p_25 e_25 hR_25 H_25
  subst e_25
  refine r_p hq 6 (pc' := 38) (L' := [(3, .int V_5), (0, .ref 143), (1, .ref a1), (2, .int X2)]) (st' := [.int ((-5 : Int32)), .int ((-5 : Int32)), .int ((-5 : Int32)), .int ((-5 : Int32)), .int (R_25 + ((4 : Int32))), .ref 144]) rfl ?_
  obtain ⟨o_38, h_38, h⟩ := Option.bind_eq_some_iff.mp h
  refine r_csV (pc' := 41) (L' := [(3, .int V_5), (0, .ref 143), (1, .ref a1), (2, .int X2)]) (As := [.ref 144, .int (R_25 + ((4 : Int32))), .int ((-5 : Int32)), .int ((-5 : Int32)), .int ((-5 : Int32)), .int ((-5 : Int32))]) (rest := []) (j := 165) hq (z_at.mk 3 rfl rfl) (Or.inl ⟨rfl, rfl⟩) rfl rfl (by omega) (g_m_sets_ok rfl (tx_iadd hR_25 (rfl : (4 : Int32).toInt = 4)) (rfl : (-5 : Int32).toInt = -5) (rfl : (-5 : Int32).toInt = -5) (rfl : (-5 : Int32).toInt = -5) (rfl : (-5 : Int32).toInt = -5) H_25 h_38) rfl rfl ?_
  intro m_38 p_38 e_38 H_38
  subst e_38
  refine r_p hq 1 (pc' := 42) (L' := [(3, .int V_5), (0, .ref 143), (1, .ref a1), (2, .int X2)]) (st' := [.ref 143]) rfl ?_
  refine r_gR (b := 144) (pc' := 45) (L' := [(3, .int V_5), (0, .ref 143), (1, .ref a1), (2, .int X2)]) H_38 hq (z_at.mk 3 rfl rfl) rfl rfl rfl rfl ?_
  refine r_p hq 1 (pc' := 46) (L' := [(3, .int V_5), (0, .ref 143), (1, .ref a1), (2, .int X2)]) (st' := [.int V_5, .ref 144]) rfl ?_
  obtain ⟨o_46, h_46, h⟩ := Option.bind_eq_some_iff.mp h
  refine r_csI (pc' := 49) (L' := [(3, .int V_5), (0, .ref 143), (1, .ref a1), (2, .int X2)]) (As := [.int V_5]) (rest := [.ref 144]) (j := 173) hq (z_at.mk 3 rfl rfl) (Or.inl ⟨rfl, rfl⟩) rfl rfl (by omega) (g_m_region_173_ok hV_5 H_38 h_46) rfl rfl ?_
  intro R_46 m_46 p_46 e_46 hR_46 H_46
  subst e_46
  refine r_p hq 3 (pc' := 53) (L' := [(3, .int V_5), (0, .ref 143), (1, .ref a1), (2, .int X2)]) (st' := [.ref 143, .int (R_46 + ((8 : Int32))), .ref 144]) rfl ?_
  refine r_gR (b := 144) (pc' := 56) (L' := [(3, .int V_5), (0, .ref 143), (1, .ref a1), (2, .int X2)]) H_46 hq (z_at.mk 3 rfl rfl) rfl rfl rfl rfl ?_
  refine r_p hq 1 (pc' := 57) (L' := [(3, .int V_5), (0, .ref 143), (1, .ref a1), (2, .int X2)]) (st' := [.int ((1 : Int32)), .ref 144, .int (R_46 + ((8 : Int32))), .ref 144]) rfl ?_
  refine r_ia (pc' := 58) (L' := [(3, .int V_5), (0, .ref 143), (1, .ref a1), (2, .int X2)]) H_46 hq (z_at.mk 1 rfl rfl) (show zAr 144 0 2740 = true from rfl) (rfl : (1 : Int32).toInt = 1) ⟨by decide, by decide⟩ rfl rfl ?_
  intro V_57 hV_57
  obtain ⟨g_58, h⟩ := z_ifo_some h
  refine r_is (pc' := 59) (L' := [(3, .int V_5), (0, .ref 143), (1, .ref a1), (2, .int X2)]) H_46 hq (z_at.mk 1 rfl rfl) (show zAr 144 0 2740 = true from rfl) (tx_iadd hR_46 (rfl : (8 : Int32).toInt = 8)) g_58 hV_57 rfl rfl ?_
  intro m_58 H_58
  refine r_p hq 1 (pc' := 60) (L' := [(3, .int V_5), (0, .ref 143), (1, .ref a1), (2, .int X2)]) (st' := [.ref 143]) rfl ?_
  refine r_gR (b := 144) (pc' := 63) (L' := [(3, .int V_5), (0, .ref 143), (1, .ref a1), (2, .int X2)]) H_58 hq (z_at.mk 3 rfl rfl) rfl rfl rfl rfl ?_
  refine r_p hq 1 (pc' := 64) (L' := [(3, .int V_5), (0, .ref 143), (1, .ref a1), (2, .int X2)]) (st' := [.int V_5, .ref 144]) rfl ?_
  obtain ⟨o_64, h_64, h⟩ := Option.bind_eq_some_iff.mp h
  refine r_csI (pc' := 67) (L' := [(3, .int V_5), (0, .ref 143), (1, .ref a1), (2, .int X2)]) (As := [.int V_5]) (rest := [.ref 144]) (j := 173) hq (z_at.mk 3 rfl rfl) (Or.inl ⟨rfl, rfl⟩) rfl rfl (by omega) (g_m_region_173_ok hV_5 H_58 h_64) rfl rfl ?_
  intro R_64 m_64 p_64 e_64 hR_64 H_64
  subst e_64
  refine r_p hq 3 (pc' := 71) (L' := [(3, .int V_5), (0, .ref 143), (1, .ref a1), (2, .int X2)]) (st' := [.int ((0 : Int32)), .int (R_64 + ((9 : Int32))), .ref 144]) rfl ?_
  obtain ⟨g_71, h⟩ := z_ifo_some h
  refine r_is (pc' := 72) (L' := [(3, .int V_5), (0, .ref 143), (1, .ref a1), (2, .int X2)]) H_64 hq (z_at.mk 1 rfl rfl) (show zAr 144 0 2740 = true from rfl) (tx_iadd hR_64 (rfl : (9 : Int32).toInt = 9)) g_71 (rfl : (0 : Int32).toInt = 0) rfl rfl ?_
  intro m_71 H_71
  refine r_p hq 1 (pc' := 73) (L' := [(3, .int V_5), (0, .ref 143), (1, .ref a1), (2, .int X2)]) (st' := [.ref 143]) rfl ?_
  refine r_gR (b := 144) (pc' := 76) (L' := [(3, .int V_5), (0, .ref 143), (1, .ref a1), (2, .int X2)]) H_71 hq (z_at.mk 3 rfl rfl) rfl rfl rfl rfl ?_
  refine r_p hq 2 (pc' := 78) (L' := [(3, .int V_5), (0, .ref 143), (1, .ref a1), (2, .int X2)]) (st' := [.int ((1 : Int32)), .ref 144, .int ((1 : Int32)), .ref 144]) rfl ?_
  refine r_ia (pc' := 79) (L' := [(3, .int V_5), (0, .ref 143), (1, .ref a1), (2, .int X2)]) H_71 hq (z_at.mk 1 rfl rfl) (show zAr 144 0 2740 = true from rfl) (rfl : (1 : Int32).toInt = 1) ⟨by decide, by decide⟩ rfl rfl ?_
  intro V_78 hV_78
  refine r_p hq 2 (pc' := 81) (L' := [(3, .int V_5), (0, .ref 143), (1, .ref a1), (2, .int X2)]) (st' := [.int (V_78 + ((1 : Int32))), .int ((1 : Int32)), .ref 144]) rfl ?_
  refine r_is (pc' := 82) (L' := [(3, .int V_5), (0, .ref 143), (1, .ref a1), (2, .int X2)]) H_71 hq (z_at.mk 1 rfl rfl) (show zAr 144 0 2740 = true from rfl) (rfl : (1 : Int32).toInt = 1) ⟨by decide, by decide⟩ (tx_iadd hV_78 (rfl : (1 : Int32).toInt = 1)) rfl rfl ?_
  intro m_81 H_81
  refine r_p hq 1 (pc' := 83) (L' := [(3, .int V_5), (0, .ref 143), (1, .ref a1), (2, .int X2)]) (st' := [.ref 143]) rfl ?_
  refine r_gR (b := 144) (pc' := 86) (L' := [(3, .int V_5), (0, .ref 143), (1, .ref a1), (2, .int X2)]) H_81 hq (z_at.mk 3 rfl rfl) rfl rfl rfl rfl ?_
  refine r_p hq 2 (pc' := 88) (L' := [(3, .int V_5), (0, .ref 143), (1, .ref a1), (2, .int X2)]) (st' := [.int ((0 : Int32)), .ref 144, .int ((0 : Int32)), .ref 144]) rfl ?_
  refine r_ia (pc' := 89) (L' := [(3, .int V_5), (0, .ref 143), (1, .ref a1), (2, .int X2)]) H_81 hq (z_at.mk 1 rfl rfl) (show zAr 144 0 2740 = true from rfl) (rfl : (0 : Int32).toInt = 0) ⟨by decide, by decide⟩ rfl rfl ?_
  intro V_88 hV_88
  refine r_p hq 2 (pc' := 91) (L' := [(3, .int V_5), (0, .ref 143), (1, .ref a1), (2, .int X2)]) (st' := [.int (V_88 + ((1 : Int32))), .int ((0 : Int32)), .ref 144]) rfl ?_
  refine r_is (pc' := 92) (L' := [(3, .int V_5), (0, .ref 143), (1, .ref a1), (2, .int X2)]) H_81 hq (z_at.mk 1 rfl rfl) (show zAr 144 0 2740 = true from rfl) (rfl : (0 : Int32).toInt = 0) ⟨by decide, by decide⟩ (tx_iadd hV_88 (rfl : (1 : Int32).toInt = 1)) rfl rfl ?_
  intro m_91 H_91
  refine r_p hq 1 (pc' := 93) (L' := [(3, .int V_5), (0, .ref 143), (1, .ref a1), (2, .int X2)]) (st' := [.int V_5]) rfl ?_
  cases h
  exact r_ri hq (z_at.mk 1 rfl rfl) rfl rfl hV_5 rfl H_91
def g_m_goes_L16 (g4 : Int → zS → Option (Unit × zS)) : Nat → Int → Int → zS → Option (Unit × zS)
  | 0, _, _, _ => none
  | n + 1, x2, x3, σ =>
    if 10 ≤ x3 then
      if 0 ≤ w32 (121 + x2) ∧ w32 (121 + x2) < 361 then
      let v_70 := σ 147 (w32 (121 + x2))
      if 0 ≤ w32 ((w32 (121 + x2)) - 1) ∧ w32 ((w32 (121 + x2)) - 1) < 361 then
      let s_71 := zu σ 147 (w32 ((w32 (121 + x2)) - 1)) v_70
      g4 (w32 (x2 + 1)) s_71
      else none
      else none
    else
      (g_m_region_173 (w32 (x2 - 1)) σ).bind fun o_29 =>
      (g_m_region_173 x2 o_29.2).bind fun o_39 =>
      if 0 ≤ w32 (o_39.1 + x3) ∧ w32 (o_39.1 + x3) < 2740 then
      let v_44 := o_39.2 144 (w32 (o_39.1 + x3))
      if 0 ≤ w32 (o_29.1 + x3) ∧ w32 (o_29.1 + x3) < 2740 then
      let s_45 := zu o_39.2 144 (w32 (o_29.1 + x3)) v_44
      (g_m_goes_L16 g4 n) x2 (w32 (x3 + 1)) s_45
      else none
      else none
set_option maxHeartbeats 4000000 in
theorem g_m_goes_L16_ok {xl : Nat} {xs : Nat → Int32} {g4 : Int → zS → Option (Unit × zS)} (hg4 : ∀ {X2 : Int32} {x2 : Int} {σ : zS} {p : Nat} {m : zM} {o : Unit × zS}, X2.toInt = x2 → zRep xl xs p m σ → g4 x2 σ = some o → zGo xl xs (fun p' => p = p') 2 180 4 [(0, .ref 143), (2, .int X2)] [] m vV o.2) : ∀ (n : Nat) {X2 : Int32} {x2 : Int} {X3 : Int32} {x3 : Int} {σ : zS} {p : Nat} {m : zM} {o : Unit × zS}, X2.toInt = x2 → X3.toInt = x3 → zRep xl xs p m σ → g_m_goes_L16 g4 n x2 x3 σ = some o → zGo xl xs (fun p' => p = p') 2 180 16 [(0, .ref 143), (2, .int X2), (3, .int X3)] [] m vV o.2
  | 0, _, _, _, _, _, _, _, _, _, _, _, h => by cases h
  | n + 1, X2, x2, X3, x3, σ, p, m, o, hx2, hx3, H, h => by
    have hq : z_mth 180 = some z_r180 := rfl
    have ih := fun {X2 : Int32} {x2 : Int} {X3 : Int32} {x3 : Int} {σ : zS} {p : Nat} {m : zM} {o : Unit × zS} => g_m_goes_L16_ok (xl := xl) (xs := xs) hg4 n (X2 := X2) (x2 := x2) (X3 := X3) (x3 := x3) (σ := σ) (p := p) (m := m) (o := o)
    unfold g_m_goes_L16 at h
    refine r_p hq 2 (pc' := 19) (L' := [(0, .ref 143), (2, .int X2), (3, .int X3)]) (st' := [.int ((10 : Int32)), .int X3]) rfl ?_
    rcases z_ite h with ⟨c_19, h⟩ | ⟨c_19, h⟩
    · refine r_t2 (pc' := 52) (L' := [(0, .ref 143), (2, .int X2), (3, .int X3)]) hq (z_at.mk 3 rfl rfl) rfl hx3 (rfl : (10 : Int32).toInt = 10) c_19 rfl rfl ?_
      refine r_p hq 1 (pc' := 53) (L' := [(0, .ref 143), (2, .int X2), (3, .int X3)]) (st' := [.ref 143]) rfl ?_
      refine r_gR (b := 147) (pc' := 56) (L' := [(0, .ref 143), (2, .int X2), (3, .int X3)]) H hq (z_at.mk 3 rfl rfl) rfl rfl rfl rfl ?_
      refine r_p hq 6 (pc' := 63) (L' := [(0, .ref 143), (2, .int X2), (3, .int X3)]) (st' := [.ref 143, .int ((((121 : Int32)) + X2) - ((1 : Int32))), .ref 147]) rfl ?_
      refine r_gR (b := 147) (pc' := 66) (L' := [(0, .ref 143), (2, .int X2), (3, .int X3)]) H hq (z_at.mk 3 rfl rfl) rfl rfl rfl rfl ?_
      refine r_p hq 3 (pc' := 70) (L' := [(0, .ref 143), (2, .int X2), (3, .int X3)]) (st' := [.int (((121 : Int32)) + X2), .ref 147, .int ((((121 : Int32)) + X2) - ((1 : Int32))), .ref 147]) rfl ?_
      obtain ⟨g_70, h⟩ := z_ifo_some h
      refine r_la (pc' := 71) (L' := [(0, .ref 143), (2, .int X2), (3, .int X3)]) H hq (z_at.mk 1 rfl rfl) (show zAr 147 1 361 = true from rfl) (tx_iadd (rfl : (121 : Int32).toInt = 121) hx2) g_70 rfl rfl ?_
      intro V_70 hV_70
      obtain ⟨g_71, h⟩ := z_ifo_some h
      refine r_ls (pc' := 72) (L' := [(0, .ref 143), (2, .int X2), (3, .int X3)]) H hq (z_at.mk 1 rfl rfl) (show zAr 147 1 361 = true from rfl) (tx_isub (tx_iadd (rfl : (121 : Int32).toInt = 121) hx2) (rfl : (1 : Int32).toInt = 1)) g_71 hV_70 rfl rfl ?_
      intro m_71 H_71
      refine r_p hq 2 (pc' := 4) (L' := [(0, .ref 143), (2, .int (X2 + (1 : Int32)))]) (st' := []) rfl ?_
      exact hg4 (tx_iadd hx2 (rfl : (1 : Int32).toInt = 1)) H_71 h
    · refine r_f2 (pc' := 22) (L' := [(0, .ref 143), (2, .int X2), (3, .int X3)]) hq (z_at.mk 3 rfl rfl) rfl hx3 (rfl : (10 : Int32).toInt = 10) c_19 rfl rfl ?_
      refine r_p hq 1 (pc' := 23) (L' := [(0, .ref 143), (2, .int X2), (3, .int X3)]) (st' := [.ref 143]) rfl ?_
      refine r_gR (b := 144) (pc' := 26) (L' := [(0, .ref 143), (2, .int X2), (3, .int X3)]) H hq (z_at.mk 3 rfl rfl) rfl rfl rfl rfl ?_
      refine r_p hq 3 (pc' := 29) (L' := [(0, .ref 143), (2, .int X2), (3, .int X3)]) (st' := [.int (X2 - ((1 : Int32))), .ref 144]) rfl ?_
      obtain ⟨o_29, h_29, h⟩ := Option.bind_eq_some_iff.mp h
      refine r_csI (pc' := 32) (L' := [(0, .ref 143), (2, .int X2), (3, .int X3)]) (As := [.int (X2 - ((1 : Int32)))]) (rest := [.ref 144]) (j := 173) hq (z_at.mk 3 rfl rfl) (Or.inl ⟨rfl, rfl⟩) rfl rfl (by omega) (g_m_region_173_ok (tx_isub hx2 (rfl : (1 : Int32).toInt = 1)) H h_29) rfl rfl ?_
      intro R_29 m_29 p_29 e_29 hR_29 H_29
      subst e_29
      refine r_p hq 3 (pc' := 35) (L' := [(0, .ref 143), (2, .int X2), (3, .int X3)]) (st' := [.ref 143, .int (R_29 + X3), .ref 144]) rfl ?_
      refine r_gR (b := 144) (pc' := 38) (L' := [(0, .ref 143), (2, .int X2), (3, .int X3)]) H_29 hq (z_at.mk 3 rfl rfl) rfl rfl rfl rfl ?_
      refine r_p hq 1 (pc' := 39) (L' := [(0, .ref 143), (2, .int X2), (3, .int X3)]) (st' := [.int X2, .ref 144, .int (R_29 + X3), .ref 144]) rfl ?_
      obtain ⟨o_39, h_39, h⟩ := Option.bind_eq_some_iff.mp h
      refine r_csI (pc' := 42) (L' := [(0, .ref 143), (2, .int X2), (3, .int X3)]) (As := [.int X2]) (rest := [.ref 144, .int (R_29 + X3), .ref 144]) (j := 173) hq (z_at.mk 3 rfl rfl) (Or.inl ⟨rfl, rfl⟩) rfl rfl (by omega) (g_m_region_173_ok hx2 H_29 h_39) rfl rfl ?_
      intro R_39 m_39 p_39 e_39 hR_39 H_39
      subst e_39
      refine r_p hq 2 (pc' := 44) (L' := [(0, .ref 143), (2, .int X2), (3, .int X3)]) (st' := [.int (R_39 + X3), .ref 144, .int (R_29 + X3), .ref 144]) rfl ?_
      obtain ⟨g_44, h⟩ := z_ifo_some h
      refine r_ia (pc' := 45) (L' := [(0, .ref 143), (2, .int X2), (3, .int X3)]) H_39 hq (z_at.mk 1 rfl rfl) (show zAr 144 0 2740 = true from rfl) (tx_iadd hR_39 hx3) g_44 rfl rfl ?_
      intro V_44 hV_44
      obtain ⟨g_45, h⟩ := z_ifo_some h
      refine r_is (pc' := 46) (L' := [(0, .ref 143), (2, .int X2), (3, .int X3)]) H_39 hq (z_at.mk 1 rfl rfl) (show zAr 144 0 2740 = true from rfl) (tx_iadd hR_29 hx3) g_45 hV_44 rfl rfl ?_
      intro m_45 H_45
      refine r_p hq 2 (pc' := 16) (L' := [(0, .ref 143), (2, .int X2), (3, .int (X3 + (1 : Int32)))]) (st' := []) rfl ?_
      exact ih hx2 (tx_iadd hx3 (rfl : (1 : Int32).toInt = 1)) H_45 h
def g_m_goes_L4 : Nat → Int → zS → Option (Unit × zS)
  | 0, _, _ => none
  | n + 1, x2, σ =>
    let v_10 := σ 144 0
    if v_10 ≤ x2 then
      let v_84 := σ 144 0
      let s_87 := zu σ 144 0 (w32 (v_84 - 1))
      some ((), s_87)
    else
      g_m_goes_L16 ((g_m_goes_L4 n)) zK x2 0 σ
set_option maxHeartbeats 4000000 in
theorem g_m_goes_L4_ok {xl : Nat} {xs : Nat → Int32} : ∀ (n : Nat) {X2 : Int32} {x2 : Int} {σ : zS} {p : Nat} {m : zM} {o : Unit × zS}, X2.toInt = x2 → zRep xl xs p m σ → g_m_goes_L4 n x2 σ = some o → zGo xl xs (fun p' => p = p') 2 180 4 [(0, .ref 143), (2, .int X2)] [] m vV o.2
  | 0, _, _, _, _, _, _, _, _, h => by cases h
  | n + 1, X2, x2, σ, p, m, o, hx2, H, h => by
    have hq : z_mth 180 = some z_r180 := rfl
    have ih := fun {X2 : Int32} {x2 : Int} {σ : zS} {p : Nat} {m : zM} {o : Unit × zS} => g_m_goes_L4_ok (xl := xl) (xs := xs) n (X2 := X2) (x2 := x2) (σ := σ) (p := p) (m := m) (o := o)
    unfold g_m_goes_L4 at h
    refine r_p hq 2 (pc' := 6) (L' := [(0, .ref 143), (2, .int X2)]) (st' := [.ref 143, .int X2]) rfl ?_
    refine r_gR (b := 144) (pc' := 9) (L' := [(0, .ref 143), (2, .int X2)]) H hq (z_at.mk 3 rfl rfl) rfl rfl rfl rfl ?_
    refine r_p hq 1 (pc' := 10) (L' := [(0, .ref 143), (2, .int X2)]) (st' := [.int ((0 : Int32)), .ref 144, .int X2]) rfl ?_
    refine r_ia (pc' := 11) (L' := [(0, .ref 143), (2, .int X2)]) H hq (z_at.mk 1 rfl rfl) (show zAr 144 0 2740 = true from rfl) (rfl : (0 : Int32).toInt = 0) ⟨by decide, by decide⟩ rfl rfl ?_
    intro V_10 hV_10
    rcases z_ite h with ⟨c_11, h⟩ | ⟨c_11, h⟩
    · refine r_t2 (pc' := 78) (L' := [(0, .ref 143), (2, .int X2)]) hq (z_at.mk 3 rfl rfl) rfl hx2 hV_10 c_11 rfl rfl ?_
      refine r_p hq 1 (pc' := 79) (L' := [(0, .ref 143), (2, .int X2)]) (st' := [.ref 143]) rfl ?_
      refine r_gR (b := 144) (pc' := 82) (L' := [(0, .ref 143), (2, .int X2)]) H hq (z_at.mk 3 rfl rfl) rfl rfl rfl rfl ?_
      refine r_p hq 2 (pc' := 84) (L' := [(0, .ref 143), (2, .int X2)]) (st' := [.int ((0 : Int32)), .ref 144, .int ((0 : Int32)), .ref 144]) rfl ?_
      refine r_ia (pc' := 85) (L' := [(0, .ref 143), (2, .int X2)]) H hq (z_at.mk 1 rfl rfl) (show zAr 144 0 2740 = true from rfl) (rfl : (0 : Int32).toInt = 0) ⟨by decide, by decide⟩ rfl rfl ?_
      intro V_84 hV_84
      refine r_p hq 2 (pc' := 87) (L' := [(0, .ref 143), (2, .int X2)]) (st' := [.int (V_84 - ((1 : Int32))), .int ((0 : Int32)), .ref 144]) rfl ?_
      refine r_is (pc' := 88) (L' := [(0, .ref 143), (2, .int X2)]) H hq (z_at.mk 1 rfl rfl) (show zAr 144 0 2740 = true from rfl) (rfl : (0 : Int32).toInt = 0) ⟨by decide, by decide⟩ (tx_isub hV_84 (rfl : (1 : Int32).toInt = 1)) rfl rfl ?_
      intro m_87 H_87
      cases h
      exact r_rv hq (z_at.mk 1 rfl rfl) rfl rfl H_87
    · refine r_f2 (pc' := 14) (L' := [(0, .ref 143), (2, .int X2)]) hq (z_at.mk 3 rfl rfl) rfl hx2 hV_10 c_11 rfl rfl ?_
      refine r_p hq 2 (pc' := 16) (L' := [(0, .ref 143), (2, .int X2), (3, .int ((0 : Int32)))]) (st' := []) rfl ?_
      exact g_m_goes_L16_ok ih zK hx2 (rfl : (0 : Int32).toInt = 0) H h
def g_m_goes (x1 : Int) (σ : zS) : Option (Unit × zS) :=
  g_m_goes_L4 zK (w32 (x1 + 1)) σ
set_option maxHeartbeats 4000000 in
theorem g_m_goes_ok {xl : Nat} {xs : Nat → Int32} {X1 : Int32} {x1 : Int} (hx1 : X1.toInt = x1) {σ : zS} {p : Nat} {m : zM} {o : Unit × zS} (H : zRep xl xs p m σ) (h : g_m_goes x1 σ = some o) : zGo xl xs (fun p' => p = p') 2 180 0 (z_can 180 0 (lv_args 0 [.ref 143, .int X1])) [] m vV o.2 := by
  have hq : z_mth 180 = some z_r180 := rfl
  unfold g_m_goes at h
  show zGo xl xs (fun p' => p = p') 2 180 0 [(0, .ref 143), (1, .int X1)] [] m vV o.2
  refine r_p hq 4 (pc' := 4) (L' := [(0, .ref 143), (2, .int (X1 + ((1 : Int32))))]) (st' := []) rfl ?_
  exact g_m_goes_L4_ok zK (tx_iadd hx1 (rfl : (1 : Int32).toInt = 1)) H h
def g_m_misses_L78 (g20 : Int → zS → Option (Unit × zS)) : Nat → Int → Int → Int → zS → Option (Unit × zS)
  | 0, _, _, _, _ => none
  | n + 1, x1, x2, x3, σ =>
    if w32 (4 * x2) ≤ x3 then
      let s_105 := zu σ 143 10 x2
      g20 (w32 (x1 + 1)) s_105
    else
      if 0 ≤ x3 ∧ x3 < 2400 then
      let v_95 := σ 151 x3
      if 0 ≤ x3 ∧ x3 < 2400 then
      let s_96 := zu σ 150 x3 v_95
      (g_m_misses_L78 g20 n) x1 x2 (w32 (x3 + 1)) s_96
      else none
      else none
set_option maxHeartbeats 4000000 in
theorem g_m_misses_L78_ok {xl : Nat} {xs : Nat → Int32} {g20 : Int → zS → Option (Unit × zS)} (hg20 : ∀ {X1 : Int32} {x1 : Int} {σ : zS} {p : Nat} {m : zM} {o : Unit × zS}, X1.toInt = x1 → zRep xl xs p m σ → g20 x1 σ = some o → zGo xl xs (fun p' => p = p') 4 181 20 [(0, .ref 143), (1, .int X1)] [] m vV o.2) : ∀ (n : Nat) {X1 : Int32} {x1 : Int} {X2 : Int32} {x2 : Int} {X3 : Int32} {x3 : Int} {σ : zS} {p : Nat} {m : zM} {o : Unit × zS}, X1.toInt = x1 → X2.toInt = x2 → X3.toInt = x3 → zRep xl xs p m σ → g_m_misses_L78 g20 n x1 x2 x3 σ = some o → zGo xl xs (fun p' => p = p') 4 181 78 [(0, .ref 143), (1, .int X1), (2, .int X2), (3, .int X3)] [] m vV o.2
  | 0, _, _, _, _, _, _, _, _, _, _, _, _, _, _, h => by cases h
  | n + 1, X1, x1, X2, x2, X3, x3, σ, p, m, o, hx1, hx2, hx3, H, h => by
    have hq : z_mth 181 = some z_r181 := rfl
    have ih := fun {X1 : Int32} {x1 : Int} {X2 : Int32} {x2 : Int} {X3 : Int32} {x3 : Int} {σ : zS} {p : Nat} {m : zM} {o : Unit × zS} => g_m_misses_L78_ok (xl := xl) (xs := xs) hg20 n (X1 := X1) (x1 := x1) (X2 := X2) (x2 := x2) (X3 := X3) (x3 := x3) (σ := σ) (p := p) (m := m) (o := o)
    unfold g_m_misses_L78 at h
    refine r_p hq 4 (pc' := 82) (L' := [(0, .ref 143), (1, .int X1), (2, .int X2), (3, .int X3)]) (st' := [.int (((4 : Int32)) * X2), .int X3]) rfl ?_
    rcases z_ite h with ⟨c_82, h⟩ | ⟨c_82, h⟩
    · refine r_t2 (pc' := 103) (L' := [(0, .ref 143), (1, .int X1), (2, .int X2), (3, .int X3)]) hq (z_at.mk 3 rfl rfl) rfl hx3 (tx_imul (rfl : (4 : Int32).toInt = 4) hx2) c_82 rfl rfl ?_
      refine r_p hq 2 (pc' := 105) (L' := [(0, .ref 143), (1, .int X1), (2, .int X2), (3, .int X3)]) (st' := [.int X2, .ref 143]) rfl ?_
      refine r_pI (X := X2) (pc' := 108) (L' := [(0, .ref 143), (1, .int X1), (2, .int X2), (3, .int X3)]) H hq (z_at.mk 3 rfl rfl) rfl rfl hx2 (by decide) rfl rfl rfl rfl ?_
      intro m_105 H_105
      refine r_p hq 2 (pc' := 20) (L' := [(0, .ref 143), (1, .int (X1 + (1 : Int32)))]) (st' := []) rfl ?_
      exact hg20 (tx_iadd hx1 (rfl : (1 : Int32).toInt = 1)) H_105 h
    · refine r_f2 (pc' := 85) (L' := [(0, .ref 143), (1, .int X1), (2, .int X2), (3, .int X3)]) hq (z_at.mk 3 rfl rfl) rfl hx3 (tx_imul (rfl : (4 : Int32).toInt = 4) hx2) c_82 rfl rfl ?_
      refine r_p hq 1 (pc' := 86) (L' := [(0, .ref 143), (1, .int X1), (2, .int X2), (3, .int X3)]) (st' := [.ref 143]) rfl ?_
      refine r_gR (b := 150) (pc' := 89) (L' := [(0, .ref 143), (1, .int X1), (2, .int X2), (3, .int X3)]) H hq (z_at.mk 3 rfl rfl) rfl rfl rfl rfl ?_
      refine r_p hq 2 (pc' := 91) (L' := [(0, .ref 143), (1, .int X1), (2, .int X2), (3, .int X3)]) (st' := [.ref 143, .int X3, .ref 150]) rfl ?_
      refine r_gR (b := 151) (pc' := 94) (L' := [(0, .ref 143), (1, .int X1), (2, .int X2), (3, .int X3)]) H hq (z_at.mk 3 rfl rfl) rfl rfl rfl rfl ?_
      refine r_p hq 1 (pc' := 95) (L' := [(0, .ref 143), (1, .int X1), (2, .int X2), (3, .int X3)]) (st' := [.int X3, .ref 151, .int X3, .ref 150]) rfl ?_
      obtain ⟨g_95, h⟩ := z_ifo_some h
      refine r_ia (pc' := 96) (L' := [(0, .ref 143), (1, .int X1), (2, .int X2), (3, .int X3)]) H hq (z_at.mk 1 rfl rfl) (show zAr 151 0 2400 = true from rfl) hx3 g_95 rfl rfl ?_
      intro V_95 hV_95
      obtain ⟨g_96, h⟩ := z_ifo_some h
      refine r_is (pc' := 97) (L' := [(0, .ref 143), (1, .int X1), (2, .int X2), (3, .int X3)]) H hq (z_at.mk 1 rfl rfl) (show zAr 150 0 2400 = true from rfl) hx3 g_96 hV_95 rfl rfl ?_
      intro m_96 H_96
      refine r_p hq 2 (pc' := 78) (L' := [(0, .ref 143), (1, .int X1), (2, .int X2), (3, .int (X3 + (1 : Int32)))]) (st' := []) rfl ?_
      exact ih hx1 hx2 (tx_iadd hx3 (rfl : (1 : Int32).toInt = 1)) H_96 h
def g_m_misses_L34 (g20 : Int → zS → Option (Unit × zS)) : Nat → Int → Int → Int → zS → Option (Unit × zS)
  | 0, _, _, _, _ => none
  | n + 1, x1, x2, x3, σ =>
    let v_36 := σ 143 10
    if v_36 ≤ x3 then
      g_m_misses_L78 g20 zK x1 x2 0 σ
    else
      (g_m_region_173 x1 σ).bind fun o_55 =>
      (g_m_rests 150 144 151 (w32 (4 * x3)) o_55.1 (w32 (4 * x2)) o_55.2).bind fun o_65 =>
      (g_m_misses_L34 g20 n) x1 (w32 (x2 + o_65.1)) (w32 (x3 + 1)) o_65.2
set_option maxHeartbeats 4000000 in
theorem g_m_misses_L34_ok {xl : Nat} {xs : Nat → Int32} {g20 : Int → zS → Option (Unit × zS)} (hg20 : ∀ {X1 : Int32} {x1 : Int} {σ : zS} {p : Nat} {m : zM} {o : Unit × zS}, X1.toInt = x1 → zRep xl xs p m σ → g20 x1 σ = some o → zGo xl xs (fun p' => p = p') 4 181 20 [(0, .ref 143), (1, .int X1)] [] m vV o.2) : ∀ (n : Nat) {X1 : Int32} {x1 : Int} {X2 : Int32} {x2 : Int} {X3 : Int32} {x3 : Int} {σ : zS} {p : Nat} {m : zM} {o : Unit × zS}, X1.toInt = x1 → X2.toInt = x2 → X3.toInt = x3 → zRep xl xs p m σ → g_m_misses_L34 g20 n x1 x2 x3 σ = some o → zGo xl xs (fun p' => p = p') 4 181 34 [(0, .ref 143), (1, .int X1), (2, .int X2), (3, .int X3)] [] m vV o.2
  | 0, _, _, _, _, _, _, _, _, _, _, _, _, _, _, h => by cases h
  | n + 1, X1, x1, X2, x2, X3, x3, σ, p, m, o, hx1, hx2, hx3, H, h => by
    have hq : z_mth 181 = some z_r181 := rfl
    have ih := fun {X1 : Int32} {x1 : Int} {X2 : Int32} {x2 : Int} {X3 : Int32} {x3 : Int} {σ : zS} {p : Nat} {m : zM} {o : Unit × zS} => g_m_misses_L34_ok (xl := xl) (xs := xs) hg20 n (X1 := X1) (x1 := x1) (X2 := X2) (x2 := x2) (X3 := X3) (x3 := x3) (σ := σ) (p := p) (m := m) (o := o)
    unfold g_m_misses_L34 at h
    refine r_p hq 2 (pc' := 36) (L' := [(0, .ref 143), (1, .int X1), (2, .int X2), (3, .int X3)]) (st' := [.ref 143, .int X3]) rfl ?_
    refine r_gI (pc' := 39) (L' := [(0, .ref 143), (1, .int X1), (2, .int X2), (3, .int X3)]) H hq (z_at.mk 3 rfl rfl) rfl rfl rfl rfl ?_
    intro V_36 hV_36
    rcases z_ite h with ⟨c_39, h⟩ | ⟨c_39, h⟩
    · refine r_t2 (pc' := 76) (L' := [(0, .ref 143), (1, .int X1), (2, .int X2), (3, .int X3)]) hq (z_at.mk 3 rfl rfl) rfl hx3 hV_36 c_39 rfl rfl ?_
      refine r_p hq 2 (pc' := 78) (L' := [(0, .ref 143), (1, .int X1), (2, .int X2), (3, .int ((0 : Int32)))]) (st' := []) rfl ?_
      exact g_m_misses_L78_ok hg20 zK hx1 hx2 (rfl : (0 : Int32).toInt = 0) H h
    · refine r_f2 (pc' := 42) (L' := [(0, .ref 143), (1, .int X1), (2, .int X2), (3, .int X3)]) hq (z_at.mk 3 rfl rfl) rfl hx3 hV_36 c_39 rfl rfl ?_
      refine r_p hq 2 (pc' := 44) (L' := [(0, .ref 143), (1, .int X1), (2, .int X2), (3, .int X3)]) (st' := [.ref 143, .int X2]) rfl ?_
      refine r_gR (b := 150) (pc' := 47) (L' := [(0, .ref 143), (1, .int X1), (2, .int X2), (3, .int X3)]) H hq (z_at.mk 3 rfl rfl) rfl rfl rfl rfl ?_
      refine r_p hq 4 (pc' := 51) (L' := [(0, .ref 143), (1, .int X1), (2, .int X2), (3, .int X3)]) (st' := [.ref 143, .int (((4 : Int32)) * X3), .ref 150, .int X2]) rfl ?_
      refine r_gR (b := 144) (pc' := 54) (L' := [(0, .ref 143), (1, .int X1), (2, .int X2), (3, .int X3)]) H hq (z_at.mk 3 rfl rfl) rfl rfl rfl rfl ?_
      refine r_p hq 1 (pc' := 55) (L' := [(0, .ref 143), (1, .int X1), (2, .int X2), (3, .int X3)]) (st' := [.int X1, .ref 144, .int (((4 : Int32)) * X3), .ref 150, .int X2]) rfl ?_
      obtain ⟨o_55, h_55, h⟩ := Option.bind_eq_some_iff.mp h
      refine r_csI (pc' := 58) (L' := [(0, .ref 143), (1, .int X1), (2, .int X2), (3, .int X3)]) (As := [.int X1]) (rest := [.ref 144, .int (((4 : Int32)) * X3), .ref 150, .int X2]) (j := 173) hq (z_at.mk 3 rfl rfl) (Or.inl ⟨rfl, rfl⟩) rfl rfl (by omega) (g_m_region_173_ok hx1 H h_55) rfl rfl ?_
      intro R_55 m_55 p_55 e_55 hR_55 H_55
      subst e_55
      refine r_p hq 1 (pc' := 59) (L' := [(0, .ref 143), (1, .int X1), (2, .int X2), (3, .int X3)]) (st' := [.ref 143, .int R_55, .ref 144, .int (((4 : Int32)) * X3), .ref 150, .int X2]) rfl ?_
      refine r_gR (b := 151) (pc' := 62) (L' := [(0, .ref 143), (1, .int X1), (2, .int X2), (3, .int X3)]) H_55 hq (z_at.mk 3 rfl rfl) rfl rfl rfl rfl ?_
      refine r_p hq 3 (pc' := 65) (L' := [(0, .ref 143), (1, .int X1), (2, .int X2), (3, .int X3)]) (st' := [.int (((4 : Int32)) * X2), .ref 151, .int R_55, .ref 144, .int (((4 : Int32)) * X3), .ref 150, .int X2]) rfl ?_
      obtain ⟨o_65, h_65, h⟩ := Option.bind_eq_some_iff.mp h
      refine r_csI (pc' := 68) (L' := [(0, .ref 143), (1, .int X1), (2, .int X2), (3, .int X3)]) (As := [.ref 150, .int (((4 : Int32)) * X3), .ref 144, .int R_55, .ref 151, .int (((4 : Int32)) * X2)]) (rest := [.int X2]) (j := 172) hq (z_at.mk 3 rfl rfl) (Or.inl ⟨rfl, rfl⟩) rfl rfl (by omega) (g_m_rests_ok rfl rfl rfl (tx_imul (rfl : (4 : Int32).toInt = 4) hx3) hR_55 (tx_imul (rfl : (4 : Int32).toInt = 4) hx2) H_55 h_65) rfl rfl ?_
      intro R_65 m_65 p_65 e_65 hR_65 H_65
      subst e_65
      refine r_p hq 4 (pc' := 34) (L' := [(0, .ref 143), (1, .int X1), (2, .int (X2 + R_65)), (3, .int (X3 + (1 : Int32)))]) (st' := []) rfl ?_
      exact ih hx1 (tx_iadd hx2 hR_65) (tx_iadd hx3 (rfl : (1 : Int32).toInt = 1)) H_65 h
def g_m_misses_L20 : Nat → Int → zS → Option (Unit × zS)
  | 0, _, _ => none
  | n + 1, x1, σ =>
    let v_26 := σ 144 0
    if v_26 ≤ x1 then
      some ((), σ)
    else
      g_m_misses_L34 ((g_m_misses_L20 n)) zK x1 0 0 σ
set_option maxHeartbeats 4000000 in
theorem g_m_misses_L20_ok {xl : Nat} {xs : Nat → Int32} : ∀ (n : Nat) {X1 : Int32} {x1 : Int} {σ : zS} {p : Nat} {m : zM} {o : Unit × zS}, X1.toInt = x1 → zRep xl xs p m σ → g_m_misses_L20 n x1 σ = some o → zGo xl xs (fun p' => p = p') 4 181 20 [(0, .ref 143), (1, .int X1)] [] m vV o.2
  | 0, _, _, _, _, _, _, _, _, h => by cases h
  | n + 1, X1, x1, σ, p, m, o, hx1, H, h => by
    have hq : z_mth 181 = some z_r181 := rfl
    have ih := fun {X1 : Int32} {x1 : Int} {σ : zS} {p : Nat} {m : zM} {o : Unit × zS} => g_m_misses_L20_ok (xl := xl) (xs := xs) n (X1 := X1) (x1 := x1) (σ := σ) (p := p) (m := m) (o := o)
    unfold g_m_misses_L20 at h
    refine r_p hq 2 (pc' := 22) (L' := [(0, .ref 143), (1, .int X1)]) (st' := [.ref 143, .int X1]) rfl ?_
    refine r_gR (b := 144) (pc' := 25) (L' := [(0, .ref 143), (1, .int X1)]) H hq (z_at.mk 3 rfl rfl) rfl rfl rfl rfl ?_
    refine r_p hq 1 (pc' := 26) (L' := [(0, .ref 143), (1, .int X1)]) (st' := [.int ((0 : Int32)), .ref 144, .int X1]) rfl ?_
    refine r_ia (pc' := 27) (L' := [(0, .ref 143), (1, .int X1)]) H hq (z_at.mk 1 rfl rfl) (show zAr 144 0 2740 = true from rfl) (rfl : (0 : Int32).toInt = 0) ⟨by decide, by decide⟩ rfl rfl ?_
    intro V_26 hV_26
    rcases z_ite h with ⟨c_27, h⟩ | ⟨c_27, h⟩
    · refine r_t2 (pc' := 114) (L' := [(0, .ref 143), (1, .int X1)]) hq (z_at.mk 3 rfl rfl) rfl hx1 hV_26 c_27 rfl rfl ?_
      cases h
      exact r_rv hq (z_at.mk 1 rfl rfl) rfl rfl H
    · refine r_f2 (pc' := 30) (L' := [(0, .ref 143), (1, .int X1)]) hq (z_at.mk 3 rfl rfl) rfl hx1 hV_26 c_27 rfl rfl ?_
      refine r_p hq 4 (pc' := 34) (L' := [(0, .ref 143), (1, .int X1), (2, .int ((0 : Int32))), (3, .int ((0 : Int32)))]) (st' := []) rfl ?_
      exact g_m_misses_L34_ok ih zK hx1 (rfl : (0 : Int32).toInt = 0) (rfl : (0 : Int32).toInt = 0) H h
def g_m_misses (σ : zS) : Option (Unit × zS) :=
  (g_m_copies 152 150 0 0 σ).bind fun o_10 =>
  let s_15 := zu o_10.2 143 10 1
  g_m_misses_L20 zK 0 s_15
set_option maxHeartbeats 4000000 in
theorem g_m_misses_ok {xl : Nat} {xs : Nat → Int32} {σ : zS} {p : Nat} {m : zM} {o : Unit × zS} (H : zRep xl xs p m σ) (h : g_m_misses σ = some o) : zGo xl xs (fun p' => p = p') 4 181 0 (z_can 181 0 (lv_args 0 [.ref 143])) [] m vV o.2 := by
  have hq : z_mth 181 = some z_r181 := rfl
  unfold g_m_misses at h
  show zGo xl xs (fun p' => p = p') 4 181 0 [(0, .ref 143)] [] m vV o.2
  refine r_p hq 1 (pc' := 1) (L' := [(0, .ref 143)]) (st' := [.ref 143]) rfl ?_
  refine r_gR (b := 152) (pc' := 4) (L' := [(0, .ref 143)]) H hq (z_at.mk 3 rfl rfl) rfl rfl rfl rfl ?_
  refine r_p hq 2 (pc' := 6) (L' := [(0, .ref 143)]) (st' := [.ref 143, .int ((0 : Int32)), .ref 152]) rfl ?_
  refine r_gR (b := 150) (pc' := 9) (L' := [(0, .ref 143)]) H hq (z_at.mk 3 rfl rfl) rfl rfl rfl rfl ?_
  refine r_p hq 1 (pc' := 10) (L' := [(0, .ref 143)]) (st' := [.int ((0 : Int32)), .ref 150, .int ((0 : Int32)), .ref 152]) rfl ?_
  obtain ⟨o_10, h_10, h⟩ := Option.bind_eq_some_iff.mp h
  refine r_csV (pc' := 13) (L' := [(0, .ref 143)]) (As := [.ref 152, .int ((0 : Int32)), .ref 150, .int ((0 : Int32))]) (rest := []) (j := 166) hq (z_at.mk 3 rfl rfl) (Or.inl ⟨rfl, rfl⟩) rfl rfl (by omega) (g_m_copies_ok rfl rfl (rfl : (0 : Int32).toInt = 0) (rfl : (0 : Int32).toInt = 0) H h_10) rfl rfl ?_
  intro m_10 p_10 e_10 H_10
  subst e_10
  refine r_p hq 2 (pc' := 15) (L' := [(0, .ref 143)]) (st' := [.int ((1 : Int32)), .ref 143]) rfl ?_
  refine r_pI (X := (1 : Int32)) (pc' := 18) (L' := [(0, .ref 143)]) H_10 hq (z_at.mk 3 rfl rfl) rfl rfl (rfl : (1 : Int32).toInt = 1) (by decide) rfl rfl rfl rfl ?_
  intro m_15 H_15
  refine r_p hq 2 (pc' := 20) (L' := [(0, .ref 143), (1, .int ((0 : Int32)))]) (st' := []) rfl ?_
  exact g_m_misses_L20_ok zK (rfl : (0 : Int32).toInt = 0) H_15 h
def g_m_asks (a1 : Nat) (x2 : Int) (σ : zS) : Option (Unit × zS) :=
  let v_6 := σ 144 2
  let s_9 := zu σ 144 2 (w32 (v_6 + 1))
  let v_16 := s_9 144 3
  (g_m_cost a1 x2 s_9).bind fun o_20 =>
  let s_24 := zu o_20.2 144 3 (w32 (v_16 + o_20.1))
  some ((), s_24)
set_option maxHeartbeats 4000000 in
theorem g_m_asks_ok {xl : Nat} {xs : Nat → Int32} {a1 : Nat} (ha1 : zIn [144, 150, 151, 152, 153, 156, 157, 161, 164, 165] a1 = true) {X2 : Int32} {x2 : Int} (hx2 : X2.toInt = x2) {σ : zS} {p : Nat} {m : zM} {o : Unit × zS} (H : zRep xl xs p m σ) (h : g_m_asks a1 x2 σ = some o) : zGo xl xs (fun p' => p = p') 5 182 0 (z_can 182 0 (lv_args 0 [.ref 143, .ref a1, .int X2])) [] m vV o.2 := by
  have hq : z_mth 182 = some z_r182 := rfl
  unfold g_m_asks at h
  show zGo xl xs (fun p' => p = p') 5 182 0 [(0, .ref 143), (1, .ref a1), (2, .int X2)] [] m vV o.2
  refine r_p hq 1 (pc' := 1) (L' := [(0, .ref 143), (1, .ref a1), (2, .int X2)]) (st' := [.ref 143]) rfl ?_
  refine r_gR (b := 144) (pc' := 4) (L' := [(0, .ref 143), (1, .ref a1), (2, .int X2)]) H hq (z_at.mk 3 rfl rfl) rfl rfl rfl rfl ?_
  refine r_p hq 2 (pc' := 6) (L' := [(0, .ref 143), (1, .ref a1), (2, .int X2)]) (st' := [.int ((2 : Int32)), .ref 144, .int ((2 : Int32)), .ref 144]) rfl ?_
  refine r_ia (pc' := 7) (L' := [(0, .ref 143), (1, .ref a1), (2, .int X2)]) H hq (z_at.mk 1 rfl rfl) (show zAr 144 0 2740 = true from rfl) (rfl : (2 : Int32).toInt = 2) ⟨by decide, by decide⟩ rfl rfl ?_
  intro V_6 hV_6
  refine r_p hq 2 (pc' := 9) (L' := [(0, .ref 143), (1, .ref a1), (2, .int X2)]) (st' := [.int (V_6 + ((1 : Int32))), .int ((2 : Int32)), .ref 144]) rfl ?_
  refine r_is (pc' := 10) (L' := [(0, .ref 143), (1, .ref a1), (2, .int X2)]) H hq (z_at.mk 1 rfl rfl) (show zAr 144 0 2740 = true from rfl) (rfl : (2 : Int32).toInt = 2) ⟨by decide, by decide⟩ (tx_iadd hV_6 (rfl : (1 : Int32).toInt = 1)) rfl rfl ?_
  intro m_9 H_9
  refine r_p hq 1 (pc' := 11) (L' := [(0, .ref 143), (1, .ref a1), (2, .int X2)]) (st' := [.ref 143]) rfl ?_
  refine r_gR (b := 144) (pc' := 14) (L' := [(0, .ref 143), (1, .ref a1), (2, .int X2)]) H_9 hq (z_at.mk 3 rfl rfl) rfl rfl rfl rfl ?_
  refine r_p hq 2 (pc' := 16) (L' := [(0, .ref 143), (1, .ref a1), (2, .int X2)]) (st' := [.int ((3 : Int32)), .ref 144, .int ((3 : Int32)), .ref 144]) rfl ?_
  refine r_ia (pc' := 17) (L' := [(0, .ref 143), (1, .ref a1), (2, .int X2)]) H_9 hq (z_at.mk 1 rfl rfl) (show zAr 144 0 2740 = true from rfl) (rfl : (3 : Int32).toInt = 3) ⟨by decide, by decide⟩ rfl rfl ?_
  intro V_16 hV_16
  refine r_p hq 3 (pc' := 20) (L' := [(0, .ref 143), (1, .ref a1), (2, .int X2)]) (st' := [.int X2, .ref a1, .ref 143, .int V_16, .int ((3 : Int32)), .ref 144]) rfl ?_
  obtain ⟨o_20, h_20, h⟩ := Option.bind_eq_some_iff.mp h
  refine r_cvI (pc' := 23) (L' := [(0, .ref 143), (1, .ref a1), (2, .int X2)]) (Ps := [.ref a1, .int X2]) (rest := [.int V_16, .int ((3 : Int32)), .ref 144]) hq (z_at.mk 3 rfl rfl) (Or.inl ⟨rfl, rfl⟩) rfl rfl (by decide) (by decide) rfl (Nat.not_lt.mpr (Nat.le_of_ble_eq_true rfl)) rfl rfl (z_cat_le 3 rfl (by decide)) (z_lgl_le 3 rfl (by decide)) (by decide) (H_9.tg rfl) (by omega) (g_m_cost_ok (zIn_all (l := [144, 150, 151, 152, 153, 156, 157, 161, 164, 165]) (p := fun a => zIn [144, 150, 151, 152, 153, 156, 157, 161, 164, 165] a) rfl ha1) hx2 H_9 h_20) rfl rfl ?_
  intro R_20 m_20 p_20 e_20 hR_20 H_20
  subst e_20
  refine r_p hq 1 (pc' := 24) (L' := [(0, .ref 143), (1, .ref a1), (2, .int X2)]) (st' := [.int (V_16 + R_20), .int ((3 : Int32)), .ref 144]) rfl ?_
  refine r_is (pc' := 25) (L' := [(0, .ref 143), (1, .ref a1), (2, .int X2)]) H_20 hq (z_at.mk 1 rfl rfl) (show zAr 144 0 2740 = true from rfl) (rfl : (3 : Int32).toInt = 3) ⟨by decide, by decide⟩ (tx_iadd hV_16 hR_20) rfl rfl ?_
  intro m_24 H_24
  cases h
  exact r_rv hq (z_at.mk 1 rfl rfl) rfl rfl H_24
def g_m_isOneBox_L183 (x5 : Int) (xs0 : Int) (σ : zS) : Option (Int × zS) :=
  if x5 ≠ 0 then
    some (1, σ)
  else
    if xs0 = 0 then
      some (0, σ)
    else
      some (1, σ)
set_option maxHeartbeats 4000000 in
theorem g_m_isOneBox_L183_ok {xl : Nat} {xs : Nat → Int32} {X5 : Int32} {x5 : Int} (hx5 : X5.toInt = x5) {Xs0 : Int32} {xs0 : Int} (hxs0 : Xs0.toInt = xs0) {σ : zS} {p : Nat} {m : zM} {o : Int × zS} (H : zRep xl xs p m σ) (h : g_m_isOneBox_L183 x5 xs0 σ = some o) : zGo xl xs (fun p' => p = p') 2 183 183 [(5, .int X5)] [.int Xs0] m (vI o.1) o.2 := by
  have hq : z_mth 183 = some z_r183 := rfl
  unfold g_m_isOneBox_L183 at h
  refine r_p hq 2 (pc' := 187) (L' := [(6, .int Xs0), (5, .int X5)]) (st' := [.int X5]) rfl ?_
  rcases z_ite h with ⟨c_187, h⟩ | ⟨c_187, h⟩
  · refine r_t1 (pc' := 195) (L' := []) hq (z_at.mk 3 rfl rfl) rfl hx5 c_187 rfl rfl ?_
    refine r_p hq 2 (pc' := 200) (L' := []) (st' := [.int ((1 : Int32))]) rfl ?_
    cases h
    exact r_ri hq (z_at.mk 1 rfl rfl) rfl rfl (rfl : (1 : Int32).toInt = 1) rfl H
  · refine r_f1 (pc' := 190) (L' := [(6, .int Xs0), (5, .int X5)]) hq (z_at.mk 3 rfl rfl) rfl hx5 c_187 rfl rfl ?_
    refine r_p hq 1 (pc' := 192) (L' := [(6, .int Xs0), (5, .int X5)]) (st' := [.int Xs0]) rfl ?_
    rcases z_ite h with ⟨c_192, h⟩ | ⟨c_192, h⟩
    · refine r_t1 (pc' := 199) (L' := [(6, .int Xs0), (5, .int X5)]) hq (z_at.mk 3 rfl rfl) rfl hxs0 c_192 rfl rfl ?_
      refine r_p hq 1 (pc' := 200) (L' := []) (st' := [.int ((0 : Int32))]) rfl ?_
      cases h
      exact r_ri hq (z_at.mk 1 rfl rfl) rfl rfl (rfl : (0 : Int32).toInt = 0) rfl H
    · refine r_f1 (pc' := 195) (L' := []) hq (z_at.mk 3 rfl rfl) rfl hxs0 c_192 rfl rfl ?_
      refine r_p hq 2 (pc' := 200) (L' := []) (st' := [.int ((1 : Int32))]) rfl ?_
      cases h
      exact r_ri hq (z_at.mk 1 rfl rfl) rfl rfl (rfl : (1 : Int32).toInt = 1) rfl H
def g_m_isOneBox_L178 (x5 : Int) (σ : zS) : Option (Int × zS) :=
  g_m_isOneBox_L183 x5 1 σ
set_option maxHeartbeats 4000000 in
theorem g_m_isOneBox_L178_ok {xl : Nat} {xs : Nat → Int32} {X5 : Int32} {x5 : Int} (hx5 : X5.toInt = x5) {σ : zS} {p : Nat} {m : zM} {o : Int × zS} (H : zRep xl xs p m σ) (h : g_m_isOneBox_L178 x5 σ = some o) : zGo xl xs (fun p' => p = p') 2 183 178 [(5, .int X5)] [] m (vI o.1) o.2 := by
  have hq : z_mth 183 = some z_r183 := rfl
  unfold g_m_isOneBox_L178 at h
  refine r_p hq 2 (pc' := 183) (L' := [(5, .int X5)]) (st' := [.int ((1 : Int32))]) rfl ?_
  exact g_m_isOneBox_L183_ok hx5 (rfl : (1 : Int32).toInt = 1) H h
def g_m_isOneBox_L182 (x5 : Int) (σ : zS) : Option (Int × zS) :=
  g_m_isOneBox_L183 x5 0 σ
set_option maxHeartbeats 4000000 in
theorem g_m_isOneBox_L182_ok {xl : Nat} {xs : Nat → Int32} {X5 : Int32} {x5 : Int} (hx5 : X5.toInt = x5) {σ : zS} {p : Nat} {m : zM} {o : Int × zS} (H : zRep xl xs p m σ) (h : g_m_isOneBox_L182 x5 σ = some o) : zGo xl xs (fun p' => p = p') 2 183 182 [(5, .int X5)] [] m (vI o.1) o.2 := by
  have hq : z_mth 183 = some z_r183 := rfl
  unfold g_m_isOneBox_L182 at h
  refine r_p hq 1 (pc' := 183) (L' := [(5, .int X5)]) (st' := [.int ((0 : Int32))]) rfl ?_
  exact g_m_isOneBox_L183_ok hx5 (rfl : (0 : Int32).toInt = 0) H h
def g_m_isOneBox_L96 (x3 : Int) (x4 : Int) (xs0 : Int) (σ : zS) : Option (Int × zS) :=
  if 0 ≤ x3 ∧ x3 < 2740 then
  let v_103 := σ 144 x3
  if 0 ≤ x4 ∧ x4 < 2740 then
  let v_110 := σ 144 x4
  if v_103 ≠ v_110 then
    g_m_isOneBox_L182 xs0 σ
  else
    if 0 ≤ w32 (x3 + 1) ∧ w32 (x3 + 1) < 2740 then
    let v_121 := σ 144 (w32 (x3 + 1))
    if 0 ≤ w32 (x4 + 1) ∧ w32 (x4 + 1) < 2740 then
    let v_130 := σ 144 (w32 (x4 + 1))
    if v_121 ≠ v_130 then
      g_m_isOneBox_L182 xs0 σ
    else
      if 0 ≤ w32 (x3 + 3) ∧ w32 (x3 + 3) < 2740 then
      let v_141 := σ 144 (w32 (x3 + 3))
      if 0 ≤ w32 (x4 + 2) ∧ w32 (x4 + 2) < 2740 then
      let v_152 := σ 144 (w32 (x4 + 2))
      if w32 (v_141 + 1) = v_152 then
        g_m_isOneBox_L178 xs0 σ
      else
        if 0 ≤ w32 (x4 + 3) ∧ w32 (x4 + 3) < 2740 then
        let v_164 := σ 144 (w32 (x4 + 3))
        if 0 ≤ w32 (x3 + 2) ∧ w32 (x3 + 2) < 2740 then
        let v_174 := σ 144 (w32 (x3 + 2))
        if w32 (v_164 + 1) ≠ v_174 then
          g_m_isOneBox_L182 xs0 σ
        else
          g_m_isOneBox_L178 xs0 σ
        else none
        else none
      else none
      else none
    else none
    else none
  else none
  else none
set_option maxHeartbeats 4000000 in
theorem g_m_isOneBox_L96_ok {xl : Nat} {xs : Nat → Int32} {X3 : Int32} {x3 : Int} (hx3 : X3.toInt = x3) {X4 : Int32} {x4 : Int} (hx4 : X4.toInt = x4) {Xs0 : Int32} {xs0 : Int} (hxs0 : Xs0.toInt = xs0) {σ : zS} {p : Nat} {m : zM} {o : Int × zS} (H : zRep xl xs p m σ) (h : g_m_isOneBox_L96 x3 x4 xs0 σ = some o) : zGo xl xs (fun p' => p = p') 2 183 96 [(0, .ref 143), (3, .int X3), (4, .int X4)] [.int Xs0] m (vI o.1) o.2 := by
  have hq : z_mth 183 = some z_r183 := rfl
  unfold g_m_isOneBox_L96 at h
  refine r_p hq 2 (pc' := 99) (L' := [(5, .int Xs0), (0, .ref 143), (3, .int X3), (4, .int X4)]) (st' := [.ref 143]) rfl ?_
  refine r_gR (b := 144) (pc' := 102) (L' := [(5, .int Xs0), (0, .ref 143), (3, .int X3), (4, .int X4)]) H hq (z_at.mk 3 rfl rfl) rfl rfl rfl rfl ?_
  refine r_p hq 1 (pc' := 103) (L' := [(5, .int Xs0), (0, .ref 143), (3, .int X3), (4, .int X4)]) (st' := [.int X3, .ref 144]) rfl ?_
  obtain ⟨g_103, h⟩ := z_ifo_some h
  refine r_ia (pc' := 104) (L' := [(5, .int Xs0), (0, .ref 143), (3, .int X3), (4, .int X4)]) H hq (z_at.mk 1 rfl rfl) (show zAr 144 0 2740 = true from rfl) hx3 g_103 rfl rfl ?_
  intro V_103 hV_103
  refine r_p hq 1 (pc' := 105) (L' := [(5, .int Xs0), (0, .ref 143), (3, .int X3), (4, .int X4)]) (st' := [.ref 143, .int V_103]) rfl ?_
  refine r_gR (b := 144) (pc' := 108) (L' := [(5, .int Xs0), (0, .ref 143), (3, .int X3), (4, .int X4)]) H hq (z_at.mk 3 rfl rfl) rfl rfl rfl rfl ?_
  refine r_p hq 1 (pc' := 110) (L' := [(5, .int Xs0), (0, .ref 143), (3, .int X3), (4, .int X4)]) (st' := [.int X4, .ref 144, .int V_103]) rfl ?_
  obtain ⟨g_110, h⟩ := z_ifo_some h
  refine r_ia (pc' := 111) (L' := [(5, .int Xs0), (0, .ref 143), (3, .int X3), (4, .int X4)]) H hq (z_at.mk 1 rfl rfl) (show zAr 144 0 2740 = true from rfl) hx4 g_110 rfl rfl ?_
  intro V_110 hV_110
  rcases z_ite h with ⟨c_111, h⟩ | ⟨c_111, h⟩
  · refine r_t2 (pc' := 182) (L' := [(5, .int Xs0)]) hq (z_at.mk 3 rfl rfl) rfl hV_103 hV_110 c_111 rfl rfl ?_
    exact g_m_isOneBox_L182_ok hxs0 H h
  · refine r_f2 (pc' := 114) (L' := [(5, .int Xs0), (0, .ref 143), (3, .int X3), (4, .int X4)]) hq (z_at.mk 3 rfl rfl) rfl hV_103 hV_110 c_111 rfl rfl ?_
    refine r_p hq 1 (pc' := 115) (L' := [(5, .int Xs0), (0, .ref 143), (3, .int X3), (4, .int X4)]) (st' := [.ref 143]) rfl ?_
    refine r_gR (b := 144) (pc' := 118) (L' := [(5, .int Xs0), (0, .ref 143), (3, .int X3), (4, .int X4)]) H hq (z_at.mk 3 rfl rfl) rfl rfl rfl rfl ?_
    refine r_p hq 3 (pc' := 121) (L' := [(5, .int Xs0), (0, .ref 143), (3, .int X3), (4, .int X4)]) (st' := [.int (X3 + ((1 : Int32))), .ref 144]) rfl ?_
    obtain ⟨g_121, h⟩ := z_ifo_some h
    refine r_ia (pc' := 122) (L' := [(5, .int Xs0), (0, .ref 143), (3, .int X3), (4, .int X4)]) H hq (z_at.mk 1 rfl rfl) (show zAr 144 0 2740 = true from rfl) (tx_iadd hx3 (rfl : (1 : Int32).toInt = 1)) g_121 rfl rfl ?_
    intro V_121 hV_121
    refine r_p hq 1 (pc' := 123) (L' := [(5, .int Xs0), (0, .ref 143), (3, .int X3), (4, .int X4)]) (st' := [.ref 143, .int V_121]) rfl ?_
    refine r_gR (b := 144) (pc' := 126) (L' := [(5, .int Xs0), (0, .ref 143), (3, .int X3), (4, .int X4)]) H hq (z_at.mk 3 rfl rfl) rfl rfl rfl rfl ?_
    refine r_p hq 3 (pc' := 130) (L' := [(5, .int Xs0), (0, .ref 143), (3, .int X3), (4, .int X4)]) (st' := [.int (X4 + ((1 : Int32))), .ref 144, .int V_121]) rfl ?_
    obtain ⟨g_130, h⟩ := z_ifo_some h
    refine r_ia (pc' := 131) (L' := [(5, .int Xs0), (0, .ref 143), (3, .int X3), (4, .int X4)]) H hq (z_at.mk 1 rfl rfl) (show zAr 144 0 2740 = true from rfl) (tx_iadd hx4 (rfl : (1 : Int32).toInt = 1)) g_130 rfl rfl ?_
    intro V_130 hV_130
    rcases z_ite h with ⟨c_131, h⟩ | ⟨c_131, h⟩
    · refine r_t2 (pc' := 182) (L' := [(5, .int Xs0)]) hq (z_at.mk 3 rfl rfl) rfl hV_121 hV_130 c_131 rfl rfl ?_
      exact g_m_isOneBox_L182_ok hxs0 H h
    · refine r_f2 (pc' := 134) (L' := [(5, .int Xs0), (0, .ref 143), (3, .int X3), (4, .int X4)]) hq (z_at.mk 3 rfl rfl) rfl hV_121 hV_130 c_131 rfl rfl ?_
      refine r_p hq 1 (pc' := 135) (L' := [(5, .int Xs0), (0, .ref 143), (3, .int X3), (4, .int X4)]) (st' := [.ref 143]) rfl ?_
      refine r_gR (b := 144) (pc' := 138) (L' := [(5, .int Xs0), (0, .ref 143), (3, .int X3), (4, .int X4)]) H hq (z_at.mk 3 rfl rfl) rfl rfl rfl rfl ?_
      refine r_p hq 3 (pc' := 141) (L' := [(5, .int Xs0), (0, .ref 143), (3, .int X3), (4, .int X4)]) (st' := [.int (X3 + ((3 : Int32))), .ref 144]) rfl ?_
      obtain ⟨g_141, h⟩ := z_ifo_some h
      refine r_ia (pc' := 142) (L' := [(5, .int Xs0), (0, .ref 143), (3, .int X3), (4, .int X4)]) H hq (z_at.mk 1 rfl rfl) (show zAr 144 0 2740 = true from rfl) (tx_iadd hx3 (rfl : (3 : Int32).toInt = 3)) g_141 rfl rfl ?_
      intro V_141 hV_141
      refine r_p hq 3 (pc' := 145) (L' := [(5, .int Xs0), (0, .ref 143), (3, .int X3), (4, .int X4)]) (st' := [.ref 143, .int (V_141 + ((1 : Int32)))]) rfl ?_
      refine r_gR (b := 144) (pc' := 148) (L' := [(5, .int Xs0), (0, .ref 143), (3, .int X3), (4, .int X4)]) H hq (z_at.mk 3 rfl rfl) rfl rfl rfl rfl ?_
      refine r_p hq 3 (pc' := 152) (L' := [(5, .int Xs0), (0, .ref 143), (3, .int X3), (4, .int X4)]) (st' := [.int (X4 + ((2 : Int32))), .ref 144, .int (V_141 + ((1 : Int32)))]) rfl ?_
      obtain ⟨g_152, h⟩ := z_ifo_some h
      refine r_ia (pc' := 153) (L' := [(5, .int Xs0), (0, .ref 143), (3, .int X3), (4, .int X4)]) H hq (z_at.mk 1 rfl rfl) (show zAr 144 0 2740 = true from rfl) (tx_iadd hx4 (rfl : (2 : Int32).toInt = 2)) g_152 rfl rfl ?_
      intro V_152 hV_152
      rcases z_ite h with ⟨c_153, h⟩ | ⟨c_153, h⟩
      · refine r_t2 (pc' := 178) (L' := [(5, .int Xs0)]) hq (z_at.mk 3 rfl rfl) rfl (tx_iadd hV_141 (rfl : (1 : Int32).toInt = 1)) hV_152 c_153 rfl rfl ?_
        exact g_m_isOneBox_L178_ok hxs0 H h
      · refine r_f2 (pc' := 156) (L' := [(5, .int Xs0), (0, .ref 143), (3, .int X3), (4, .int X4)]) hq (z_at.mk 3 rfl rfl) rfl (tx_iadd hV_141 (rfl : (1 : Int32).toInt = 1)) hV_152 c_153 rfl rfl ?_
        refine r_p hq 1 (pc' := 157) (L' := [(5, .int Xs0), (0, .ref 143), (3, .int X3), (4, .int X4)]) (st' := [.ref 143]) rfl ?_
        refine r_gR (b := 144) (pc' := 160) (L' := [(5, .int Xs0), (0, .ref 143), (3, .int X3), (4, .int X4)]) H hq (z_at.mk 3 rfl rfl) rfl rfl rfl rfl ?_
        refine r_p hq 3 (pc' := 164) (L' := [(5, .int Xs0), (0, .ref 143), (3, .int X3), (4, .int X4)]) (st' := [.int (X4 + ((3 : Int32))), .ref 144]) rfl ?_
        obtain ⟨g_164, h⟩ := z_ifo_some h
        refine r_ia (pc' := 165) (L' := [(5, .int Xs0), (0, .ref 143), (3, .int X3), (4, .int X4)]) H hq (z_at.mk 1 rfl rfl) (show zAr 144 0 2740 = true from rfl) (tx_iadd hx4 (rfl : (3 : Int32).toInt = 3)) g_164 rfl rfl ?_
        intro V_164 hV_164
        refine r_p hq 3 (pc' := 168) (L' := [(5, .int Xs0), (0, .ref 143), (3, .int X3), (4, .int X4)]) (st' := [.ref 143, .int (V_164 + ((1 : Int32)))]) rfl ?_
        refine r_gR (b := 144) (pc' := 171) (L' := [(5, .int Xs0), (0, .ref 143), (3, .int X3), (4, .int X4)]) H hq (z_at.mk 3 rfl rfl) rfl rfl rfl rfl ?_
        refine r_p hq 3 (pc' := 174) (L' := [(5, .int Xs0), (0, .ref 143), (3, .int X3), (4, .int X4)]) (st' := [.int (X3 + ((2 : Int32))), .ref 144, .int (V_164 + ((1 : Int32)))]) rfl ?_
        obtain ⟨g_174, h⟩ := z_ifo_some h
        refine r_ia (pc' := 175) (L' := [(5, .int Xs0), (0, .ref 143), (3, .int X3), (4, .int X4)]) H hq (z_at.mk 1 rfl rfl) (show zAr 144 0 2740 = true from rfl) (tx_iadd hx3 (rfl : (2 : Int32).toInt = 2)) g_174 rfl rfl ?_
        intro V_174 hV_174
        rcases z_ite h with ⟨c_175, h⟩ | ⟨c_175, h⟩
        · refine r_t2 (pc' := 182) (L' := [(5, .int Xs0)]) hq (z_at.mk 3 rfl rfl) rfl (tx_iadd hV_164 (rfl : (1 : Int32).toInt = 1)) hV_174 c_175 rfl rfl ?_
          exact g_m_isOneBox_L182_ok hxs0 H h
        · refine r_f2 (pc' := 178) (L' := [(5, .int Xs0)]) hq (z_at.mk 3 rfl rfl) rfl (tx_iadd hV_164 (rfl : (1 : Int32).toInt = 1)) hV_174 c_175 rfl rfl ?_
          exact g_m_isOneBox_L178_ok hxs0 H h
def g_m_isOneBox_L91 (x3 : Int) (x4 : Int) (σ : zS) : Option (Int × zS) :=
  g_m_isOneBox_L96 x3 x4 1 σ
set_option maxHeartbeats 4000000 in
theorem g_m_isOneBox_L91_ok {xl : Nat} {xs : Nat → Int32} {X3 : Int32} {x3 : Int} (hx3 : X3.toInt = x3) {X4 : Int32} {x4 : Int} (hx4 : X4.toInt = x4) {σ : zS} {p : Nat} {m : zM} {o : Int × zS} (H : zRep xl xs p m σ) (h : g_m_isOneBox_L91 x3 x4 σ = some o) : zGo xl xs (fun p' => p = p') 2 183 91 [(0, .ref 143), (3, .int X3), (4, .int X4)] [] m (vI o.1) o.2 := by
  have hq : z_mth 183 = some z_r183 := rfl
  unfold g_m_isOneBox_L91 at h
  refine r_p hq 2 (pc' := 96) (L' := [(0, .ref 143), (3, .int X3), (4, .int X4)]) (st' := [.int ((1 : Int32))]) rfl ?_
  exact g_m_isOneBox_L96_ok hx3 hx4 (rfl : (1 : Int32).toInt = 1) H h
def g_m_isOneBox_L95 (x3 : Int) (x4 : Int) (σ : zS) : Option (Int × zS) :=
  g_m_isOneBox_L96 x3 x4 0 σ
set_option maxHeartbeats 4000000 in
theorem g_m_isOneBox_L95_ok {xl : Nat} {xs : Nat → Int32} {X3 : Int32} {x3 : Int} (hx3 : X3.toInt = x3) {X4 : Int32} {x4 : Int} (hx4 : X4.toInt = x4) {σ : zS} {p : Nat} {m : zM} {o : Int × zS} (H : zRep xl xs p m σ) (h : g_m_isOneBox_L95 x3 x4 σ = some o) : zGo xl xs (fun p' => p = p') 2 183 95 [(0, .ref 143), (3, .int X3), (4, .int X4)] [] m (vI o.1) o.2 := by
  have hq : z_mth 183 = some z_r183 := rfl
  unfold g_m_isOneBox_L95 at h
  refine r_p hq 1 (pc' := 96) (L' := [(0, .ref 143), (3, .int X3), (4, .int X4)]) (st' := [.int ((0 : Int32))]) rfl ?_
  exact g_m_isOneBox_L96_ok hx3 hx4 (rfl : (0 : Int32).toInt = 0) H h
def g_m_isOneBox (x1 : Int) (x2 : Int) (σ : zS) : Option (Int × zS) :=
  (g_m_region_173 x1 σ).bind fun o_1 =>
  (g_m_region_173 x2 o_1.2).bind fun o_6 =>
  if 0 ≤ w32 (o_1.1 + 2) ∧ w32 (o_1.1 + 2) < 2740 then
  let v_18 := o_6.2 144 (w32 (o_1.1 + 2))
  if 0 ≤ w32 (o_6.1 + 2) ∧ w32 (o_6.1 + 2) < 2740 then
  let v_27 := o_6.2 144 (w32 (o_6.1 + 2))
  if v_18 ≠ v_27 then
    g_m_isOneBox_L95 o_1.1 o_6.1 o_6.2
  else
    if 0 ≤ w32 (o_1.1 + 3) ∧ w32 (o_1.1 + 3) < 2740 then
    let v_38 := o_6.2 144 (w32 (o_1.1 + 3))
    if 0 ≤ w32 (o_6.1 + 3) ∧ w32 (o_6.1 + 3) < 2740 then
    let v_47 := o_6.2 144 (w32 (o_6.1 + 3))
    if v_38 ≠ v_47 then
      g_m_isOneBox_L95 o_1.1 o_6.1 o_6.2
    else
      if 0 ≤ w32 (o_1.1 + 1) ∧ w32 (o_1.1 + 1) < 2740 then
      let v_58 := o_6.2 144 (w32 (o_1.1 + 1))
      if 0 ≤ o_6.1 ∧ o_6.1 < 2740 then
      let v_67 := o_6.2 144 o_6.1
      if w32 (v_58 + 1) = v_67 then
        g_m_isOneBox_L91 o_1.1 o_6.1 o_6.2
      else
        if 0 ≤ w32 (o_6.1 + 1) ∧ w32 (o_6.1 + 1) < 2740 then
        let v_79 := o_6.2 144 (w32 (o_6.1 + 1))
        if 0 ≤ o_1.1 ∧ o_1.1 < 2740 then
        let v_87 := o_6.2 144 o_1.1
        if w32 (v_79 + 1) ≠ v_87 then
          g_m_isOneBox_L95 o_1.1 o_6.1 o_6.2
        else
          g_m_isOneBox_L91 o_1.1 o_6.1 o_6.2
        else none
        else none
      else none
      else none
    else none
    else none
  else none
  else none
set_option maxHeartbeats 4000000 in
theorem g_m_isOneBox_ok {xl : Nat} {xs : Nat → Int32} {X1 : Int32} {x1 : Int} (hx1 : X1.toInt = x1) {X2 : Int32} {x2 : Int} (hx2 : X2.toInt = x2) {σ : zS} {p : Nat} {m : zM} {o : Int × zS} (H : zRep xl xs p m σ) (h : g_m_isOneBox x1 x2 σ = some o) : zGo xl xs (fun p' => p = p') 2 183 0 (z_can 183 0 (lv_args 0 [.ref 143, .int X1, .int X2])) [] m (vI o.1) o.2 := by
  have hq : z_mth 183 = some z_r183 := rfl
  unfold g_m_isOneBox at h
  show zGo xl xs (fun p' => p = p') 2 183 0 [(0, .ref 143), (1, .int X1), (2, .int X2)] [] m (vI o.1) o.2
  refine r_p hq 1 (pc' := 1) (L' := [(0, .ref 143), (1, .int X1), (2, .int X2)]) (st' := [.int X1]) rfl ?_
  obtain ⟨o_1, h_1, h⟩ := Option.bind_eq_some_iff.mp h
  refine r_csI (pc' := 4) (L' := [(0, .ref 143), (1, .int X1), (2, .int X2)]) (As := [.int X1]) (rest := []) (j := 173) hq (z_at.mk 3 rfl rfl) (Or.inl ⟨rfl, rfl⟩) rfl rfl (by omega) (g_m_region_173_ok hx1 H h_1) rfl rfl ?_
  intro R_1 m_1 p_1 e_1 hR_1 H_1
  subst e_1
  refine r_p hq 2 (pc' := 6) (L' := [(3, .int R_1), (0, .ref 143), (1, .int X1), (2, .int X2)]) (st' := [.int X2]) rfl ?_
  obtain ⟨o_6, h_6, h⟩ := Option.bind_eq_some_iff.mp h
  refine r_csI (pc' := 9) (L' := [(3, .int R_1), (0, .ref 143), (1, .int X1), (2, .int X2)]) (As := [.int X2]) (rest := []) (j := 173) hq (z_at.mk 3 rfl rfl) (Or.inl ⟨rfl, rfl⟩) rfl rfl (by omega) (g_m_region_173_ok hx2 H_1 h_6) rfl rfl ?_
  intro R_6 m_6 p_6 e_6 hR_6 H_6
  subst e_6
  refine r_p hq 2 (pc' := 12) (L' := [(4, .int R_6), (3, .int R_1), (0, .ref 143), (1, .int X1), (2, .int X2)]) (st' := [.ref 143]) rfl ?_
  refine r_gR (b := 144) (pc' := 15) (L' := [(4, .int R_6), (3, .int R_1), (0, .ref 143), (1, .int X1), (2, .int X2)]) H_6 hq (z_at.mk 3 rfl rfl) rfl rfl rfl rfl ?_
  refine r_p hq 3 (pc' := 18) (L' := [(4, .int R_6), (3, .int R_1), (0, .ref 143), (1, .int X1), (2, .int X2)]) (st' := [.int (R_1 + ((2 : Int32))), .ref 144]) rfl ?_
  obtain ⟨g_18, h⟩ := z_ifo_some h
  refine r_ia (pc' := 19) (L' := [(4, .int R_6), (3, .int R_1), (0, .ref 143), (1, .int X1), (2, .int X2)]) H_6 hq (z_at.mk 1 rfl rfl) (show zAr 144 0 2740 = true from rfl) (tx_iadd hR_1 (rfl : (2 : Int32).toInt = 2)) g_18 rfl rfl ?_
  intro V_18 hV_18
  refine r_p hq 1 (pc' := 20) (L' := [(4, .int R_6), (3, .int R_1), (0, .ref 143), (1, .int X1), (2, .int X2)]) (st' := [.ref 143, .int V_18]) rfl ?_
  refine r_gR (b := 144) (pc' := 23) (L' := [(4, .int R_6), (3, .int R_1), (0, .ref 143), (1, .int X1), (2, .int X2)]) H_6 hq (z_at.mk 3 rfl rfl) rfl rfl rfl rfl ?_
  refine r_p hq 3 (pc' := 27) (L' := [(4, .int R_6), (3, .int R_1), (0, .ref 143), (1, .int X1), (2, .int X2)]) (st' := [.int (R_6 + ((2 : Int32))), .ref 144, .int V_18]) rfl ?_
  obtain ⟨g_27, h⟩ := z_ifo_some h
  refine r_ia (pc' := 28) (L' := [(4, .int R_6), (3, .int R_1), (0, .ref 143), (1, .int X1), (2, .int X2)]) H_6 hq (z_at.mk 1 rfl rfl) (show zAr 144 0 2740 = true from rfl) (tx_iadd hR_6 (rfl : (2 : Int32).toInt = 2)) g_27 rfl rfl ?_
  intro V_27 hV_27
  rcases z_ite h with ⟨c_28, h⟩ | ⟨c_28, h⟩
  · refine r_t2 (pc' := 95) (L' := [(0, .ref 143), (3, .int R_1), (4, .int R_6)]) hq (z_at.mk 3 rfl rfl) rfl hV_18 hV_27 c_28 rfl rfl ?_
    exact g_m_isOneBox_L95_ok hR_1 hR_6 H_6 h
  · refine r_f2 (pc' := 31) (L' := [(4, .int R_6), (3, .int R_1), (0, .ref 143), (1, .int X1), (2, .int X2)]) hq (z_at.mk 3 rfl rfl) rfl hV_18 hV_27 c_28 rfl rfl ?_
    refine r_p hq 1 (pc' := 32) (L' := [(4, .int R_6), (3, .int R_1), (0, .ref 143), (1, .int X1), (2, .int X2)]) (st' := [.ref 143]) rfl ?_
    refine r_gR (b := 144) (pc' := 35) (L' := [(4, .int R_6), (3, .int R_1), (0, .ref 143), (1, .int X1), (2, .int X2)]) H_6 hq (z_at.mk 3 rfl rfl) rfl rfl rfl rfl ?_
    refine r_p hq 3 (pc' := 38) (L' := [(4, .int R_6), (3, .int R_1), (0, .ref 143), (1, .int X1), (2, .int X2)]) (st' := [.int (R_1 + ((3 : Int32))), .ref 144]) rfl ?_
    obtain ⟨g_38, h⟩ := z_ifo_some h
    refine r_ia (pc' := 39) (L' := [(4, .int R_6), (3, .int R_1), (0, .ref 143), (1, .int X1), (2, .int X2)]) H_6 hq (z_at.mk 1 rfl rfl) (show zAr 144 0 2740 = true from rfl) (tx_iadd hR_1 (rfl : (3 : Int32).toInt = 3)) g_38 rfl rfl ?_
    intro V_38 hV_38
    refine r_p hq 1 (pc' := 40) (L' := [(4, .int R_6), (3, .int R_1), (0, .ref 143), (1, .int X1), (2, .int X2)]) (st' := [.ref 143, .int V_38]) rfl ?_
    refine r_gR (b := 144) (pc' := 43) (L' := [(4, .int R_6), (3, .int R_1), (0, .ref 143), (1, .int X1), (2, .int X2)]) H_6 hq (z_at.mk 3 rfl rfl) rfl rfl rfl rfl ?_
    refine r_p hq 3 (pc' := 47) (L' := [(4, .int R_6), (3, .int R_1), (0, .ref 143), (1, .int X1), (2, .int X2)]) (st' := [.int (R_6 + ((3 : Int32))), .ref 144, .int V_38]) rfl ?_
    obtain ⟨g_47, h⟩ := z_ifo_some h
    refine r_ia (pc' := 48) (L' := [(4, .int R_6), (3, .int R_1), (0, .ref 143), (1, .int X1), (2, .int X2)]) H_6 hq (z_at.mk 1 rfl rfl) (show zAr 144 0 2740 = true from rfl) (tx_iadd hR_6 (rfl : (3 : Int32).toInt = 3)) g_47 rfl rfl ?_
    intro V_47 hV_47
    rcases z_ite h with ⟨c_48, h⟩ | ⟨c_48, h⟩
    · refine r_t2 (pc' := 95) (L' := [(0, .ref 143), (3, .int R_1), (4, .int R_6)]) hq (z_at.mk 3 rfl rfl) rfl hV_38 hV_47 c_48 rfl rfl ?_
      exact g_m_isOneBox_L95_ok hR_1 hR_6 H_6 h
    · refine r_f2 (pc' := 51) (L' := [(4, .int R_6), (3, .int R_1), (0, .ref 143), (1, .int X1), (2, .int X2)]) hq (z_at.mk 3 rfl rfl) rfl hV_38 hV_47 c_48 rfl rfl ?_
      refine r_p hq 1 (pc' := 52) (L' := [(4, .int R_6), (3, .int R_1), (0, .ref 143), (1, .int X1), (2, .int X2)]) (st' := [.ref 143]) rfl ?_
      refine r_gR (b := 144) (pc' := 55) (L' := [(4, .int R_6), (3, .int R_1), (0, .ref 143), (1, .int X1), (2, .int X2)]) H_6 hq (z_at.mk 3 rfl rfl) rfl rfl rfl rfl ?_
      refine r_p hq 3 (pc' := 58) (L' := [(4, .int R_6), (3, .int R_1), (0, .ref 143), (1, .int X1), (2, .int X2)]) (st' := [.int (R_1 + ((1 : Int32))), .ref 144]) rfl ?_
      obtain ⟨g_58, h⟩ := z_ifo_some h
      refine r_ia (pc' := 59) (L' := [(4, .int R_6), (3, .int R_1), (0, .ref 143), (1, .int X1), (2, .int X2)]) H_6 hq (z_at.mk 1 rfl rfl) (show zAr 144 0 2740 = true from rfl) (tx_iadd hR_1 (rfl : (1 : Int32).toInt = 1)) g_58 rfl rfl ?_
      intro V_58 hV_58
      refine r_p hq 3 (pc' := 62) (L' := [(4, .int R_6), (3, .int R_1), (0, .ref 143), (1, .int X1), (2, .int X2)]) (st' := [.ref 143, .int (V_58 + ((1 : Int32)))]) rfl ?_
      refine r_gR (b := 144) (pc' := 65) (L' := [(4, .int R_6), (3, .int R_1), (0, .ref 143), (1, .int X1), (2, .int X2)]) H_6 hq (z_at.mk 3 rfl rfl) rfl rfl rfl rfl ?_
      refine r_p hq 1 (pc' := 67) (L' := [(4, .int R_6), (3, .int R_1), (0, .ref 143), (1, .int X1), (2, .int X2)]) (st' := [.int R_6, .ref 144, .int (V_58 + ((1 : Int32)))]) rfl ?_
      obtain ⟨g_67, h⟩ := z_ifo_some h
      refine r_ia (pc' := 68) (L' := [(4, .int R_6), (3, .int R_1), (0, .ref 143), (1, .int X1), (2, .int X2)]) H_6 hq (z_at.mk 1 rfl rfl) (show zAr 144 0 2740 = true from rfl) hR_6 g_67 rfl rfl ?_
      intro V_67 hV_67
      rcases z_ite h with ⟨c_68, h⟩ | ⟨c_68, h⟩
      · refine r_t2 (pc' := 91) (L' := [(0, .ref 143), (3, .int R_1), (4, .int R_6)]) hq (z_at.mk 3 rfl rfl) rfl (tx_iadd hV_58 (rfl : (1 : Int32).toInt = 1)) hV_67 c_68 rfl rfl ?_
        exact g_m_isOneBox_L91_ok hR_1 hR_6 H_6 h
      · refine r_f2 (pc' := 71) (L' := [(4, .int R_6), (3, .int R_1), (0, .ref 143), (1, .int X1), (2, .int X2)]) hq (z_at.mk 3 rfl rfl) rfl (tx_iadd hV_58 (rfl : (1 : Int32).toInt = 1)) hV_67 c_68 rfl rfl ?_
        refine r_p hq 1 (pc' := 72) (L' := [(4, .int R_6), (3, .int R_1), (0, .ref 143), (1, .int X1), (2, .int X2)]) (st' := [.ref 143]) rfl ?_
        refine r_gR (b := 144) (pc' := 75) (L' := [(4, .int R_6), (3, .int R_1), (0, .ref 143), (1, .int X1), (2, .int X2)]) H_6 hq (z_at.mk 3 rfl rfl) rfl rfl rfl rfl ?_
        refine r_p hq 3 (pc' := 79) (L' := [(4, .int R_6), (3, .int R_1), (0, .ref 143), (1, .int X1), (2, .int X2)]) (st' := [.int (R_6 + ((1 : Int32))), .ref 144]) rfl ?_
        obtain ⟨g_79, h⟩ := z_ifo_some h
        refine r_ia (pc' := 80) (L' := [(4, .int R_6), (3, .int R_1), (0, .ref 143), (1, .int X1), (2, .int X2)]) H_6 hq (z_at.mk 1 rfl rfl) (show zAr 144 0 2740 = true from rfl) (tx_iadd hR_6 (rfl : (1 : Int32).toInt = 1)) g_79 rfl rfl ?_
        intro V_79 hV_79
        refine r_p hq 3 (pc' := 83) (L' := [(4, .int R_6), (3, .int R_1), (0, .ref 143), (1, .int X1), (2, .int X2)]) (st' := [.ref 143, .int (V_79 + ((1 : Int32)))]) rfl ?_
        refine r_gR (b := 144) (pc' := 86) (L' := [(4, .int R_6), (3, .int R_1), (0, .ref 143), (1, .int X1), (2, .int X2)]) H_6 hq (z_at.mk 3 rfl rfl) rfl rfl rfl rfl ?_
        refine r_p hq 1 (pc' := 87) (L' := [(4, .int R_6), (3, .int R_1), (0, .ref 143), (1, .int X1), (2, .int X2)]) (st' := [.int R_1, .ref 144, .int (V_79 + ((1 : Int32)))]) rfl ?_
        obtain ⟨g_87, h⟩ := z_ifo_some h
        refine r_ia (pc' := 88) (L' := [(4, .int R_6), (3, .int R_1), (0, .ref 143), (1, .int X1), (2, .int X2)]) H_6 hq (z_at.mk 1 rfl rfl) (show zAr 144 0 2740 = true from rfl) hR_1 g_87 rfl rfl ?_
        intro V_87 hV_87
        rcases z_ite h with ⟨c_88, h⟩ | ⟨c_88, h⟩
        · refine r_t2 (pc' := 95) (L' := [(0, .ref 143), (3, .int R_1), (4, .int R_6)]) hq (z_at.mk 3 rfl rfl) rfl (tx_iadd hV_79 (rfl : (1 : Int32).toInt = 1)) hV_87 c_88 rfl rfl ?_
          exact g_m_isOneBox_L95_ok hR_1 hR_6 H_6 h
        · refine r_f2 (pc' := 91) (L' := [(0, .ref 143), (3, .int R_1), (4, .int R_6)]) hq (z_at.mk 3 rfl rfl) rfl (tx_iadd hV_79 (rfl : (1 : Int32).toInt = 1)) hV_87 c_88 rfl rfl ?_
          exact g_m_isOneBox_L91_ok hR_1 hR_6 H_6 h
def g_m_joins_L130 (x2 : Int) (σ : zS) : Option (Unit × zS) :=
  (g_m_goes x2 σ).bind fun o_132 =>
  let v_142 := o_132.2 144 6
  let s_145 := zu o_132.2 144 6 (w32 (v_142 + 1))
  some ((), s_145)
set_option maxHeartbeats 4000000 in
theorem g_m_joins_L130_ok {xl : Nat} {xs : Nat → Int32} {X2 : Int32} {x2 : Int} (hx2 : X2.toInt = x2) {σ : zS} {p : Nat} {m : zM} {o : Unit × zS} (H : zRep xl xs p m σ) (h : g_m_joins_L130 x2 σ = some o) : zGo xl xs (fun p' => p = p') 4 184 130 [(0, .ref 143), (2, .int X2)] [] m vV o.2 := by
  have hq : z_mth 184 = some z_r184 := rfl
  unfold g_m_joins_L130 at h
  refine r_p hq 2 (pc' := 132) (L' := [(0, .ref 143), (2, .int X2)]) (st' := [.int X2, .ref 143]) rfl ?_
  obtain ⟨o_132, h_132, h⟩ := Option.bind_eq_some_iff.mp h
  refine r_cvV (pc' := 135) (L' := [(0, .ref 143), (2, .int X2)]) (Ps := [.int X2]) (rest := []) hq (z_at.mk 3 rfl rfl) (Or.inl ⟨rfl, rfl⟩) rfl rfl (by decide) (by decide) rfl (Nat.not_lt.mpr (Nat.le_of_ble_eq_true rfl)) rfl rfl (z_cat_le 0 rfl (by decide)) (z_lgl_le 2 rfl (by decide)) (by decide) (H.tg rfl) (by omega) (g_m_goes_ok hx2 H h_132) rfl rfl ?_
  intro m_132 p_132 e_132 H_132
  subst e_132
  refine r_p hq 1 (pc' := 136) (L' := [(0, .ref 143), (2, .int X2)]) (st' := [.ref 143]) rfl ?_
  refine r_gR (b := 144) (pc' := 139) (L' := [(0, .ref 143), (2, .int X2)]) H_132 hq (z_at.mk 3 rfl rfl) rfl rfl rfl rfl ?_
  refine r_p hq 2 (pc' := 142) (L' := [(0, .ref 143), (2, .int X2)]) (st' := [.int ((6 : Int32)), .ref 144, .int ((6 : Int32)), .ref 144]) rfl ?_
  refine r_ia (pc' := 143) (L' := [(0, .ref 143), (2, .int X2)]) H_132 hq (z_at.mk 1 rfl rfl) (show zAr 144 0 2740 = true from rfl) (rfl : (6 : Int32).toInt = 6) ⟨by decide, by decide⟩ rfl rfl ?_
  intro V_142 hV_142
  refine r_p hq 2 (pc' := 145) (L' := [(0, .ref 143), (2, .int X2)]) (st' := [.int (V_142 + ((1 : Int32))), .int ((6 : Int32)), .ref 144]) rfl ?_
  refine r_is (pc' := 146) (L' := [(0, .ref 143), (2, .int X2)]) H_132 hq (z_at.mk 1 rfl rfl) (show zAr 144 0 2740 = true from rfl) (rfl : (6 : Int32).toInt = 6) ⟨by decide, by decide⟩ (tx_iadd hV_142 (rfl : (1 : Int32).toInt = 1)) rfl rfl ?_
  intro m_145 H_145
  cases h
  exact r_rv hq (z_at.mk 1 rfl rfl) rfl rfl H_145
def g_m_joins_L90 (x1 : Int) (x2 : Int) (σ : zS) : Option (Unit × zS) :=
  if 0 ≤ w32 (121 + x2) ∧ w32 (121 + x2) < 361 then
  let v_98 := σ 147 (w32 (121 + x2))
  if 0 ≤ w32 (121 + x1) ∧ w32 (121 + x1) < 361 then
  let v_107 := σ 147 (w32 (121 + x1))
  if lCmp v_98 v_107 ≤ 0 then
    g_m_joins_L130 x2 σ
  else
    if 0 ≤ w32 (121 + x2) ∧ w32 (121 + x2) < 361 then
    let v_128 := σ 147 (w32 (121 + x2))
    if 0 ≤ w32 (121 + x1) ∧ w32 (121 + x1) < 361 then
    let s_129 := zu σ 147 (w32 (121 + x1)) v_128
    g_m_joins_L130 x2 s_129
    else none
    else none
  else none
  else none
set_option maxHeartbeats 4000000 in
theorem g_m_joins_L90_ok {xl : Nat} {xs : Nat → Int32} {X1 : Int32} {x1 : Int} (hx1 : X1.toInt = x1) {X2 : Int32} {x2 : Int} (hx2 : X2.toInt = x2) {σ : zS} {p : Nat} {m : zM} {o : Unit × zS} (H : zRep xl xs p m σ) (h : g_m_joins_L90 x1 x2 σ = some o) : zGo xl xs (fun p' => p = p') 4 184 90 [(0, .ref 143), (1, .int X1), (2, .int X2)] [] m vV o.2 := by
  have hq : z_mth 184 = some z_r184 := rfl
  unfold g_m_joins_L90 at h
  refine r_p hq 1 (pc' := 91) (L' := [(0, .ref 143), (1, .int X1), (2, .int X2)]) (st' := [.ref 143]) rfl ?_
  refine r_gR (b := 147) (pc' := 94) (L' := [(0, .ref 143), (1, .int X1), (2, .int X2)]) H hq (z_at.mk 3 rfl rfl) rfl rfl rfl rfl ?_
  refine r_p hq 3 (pc' := 98) (L' := [(0, .ref 143), (1, .int X1), (2, .int X2)]) (st' := [.int (((121 : Int32)) + X2), .ref 147]) rfl ?_
  obtain ⟨g_98, h⟩ := z_ifo_some h
  refine r_la (pc' := 99) (L' := [(0, .ref 143), (1, .int X1), (2, .int X2)]) H hq (z_at.mk 1 rfl rfl) (show zAr 147 1 361 = true from rfl) (tx_iadd (rfl : (121 : Int32).toInt = 121) hx2) g_98 rfl rfl ?_
  intro V_98 hV_98
  refine r_p hq 1 (pc' := 100) (L' := [(0, .ref 143), (1, .int X1), (2, .int X2)]) (st' := [.ref 143, .long V_98]) rfl ?_
  refine r_gR (b := 147) (pc' := 103) (L' := [(0, .ref 143), (1, .int X1), (2, .int X2)]) H hq (z_at.mk 3 rfl rfl) rfl rfl rfl rfl ?_
  refine r_p hq 3 (pc' := 107) (L' := [(0, .ref 143), (1, .int X1), (2, .int X2)]) (st' := [.int (((121 : Int32)) + X1), .ref 147, .long V_98]) rfl ?_
  obtain ⟨g_107, h⟩ := z_ifo_some h
  refine r_la (pc' := 108) (L' := [(0, .ref 143), (1, .int X1), (2, .int X2)]) H hq (z_at.mk 1 rfl rfl) (show zAr 147 1 361 = true from rfl) (tx_iadd (rfl : (121 : Int32).toInt = 121) hx1) g_107 rfl rfl ?_
  intro V_107 hV_107
  refine r_p hq 1 (pc' := 109) (L' := [(0, .ref 143), (1, .int X1), (2, .int X2)]) (st' := [.int (lg_cmp V_98 V_107)]) rfl ?_
  rcases z_ite h with ⟨c_109, h⟩ | ⟨c_109, h⟩
  · refine r_t1 (pc' := 130) (L' := [(0, .ref 143), (2, .int X2)]) hq (z_at.mk 3 rfl rfl) rfl (tx_lcmp hV_98 hV_107) c_109 rfl rfl ?_
    exact g_m_joins_L130_ok hx2 H h
  · refine r_f1 (pc' := 112) (L' := [(0, .ref 143), (1, .int X1), (2, .int X2)]) hq (z_at.mk 3 rfl rfl) rfl (tx_lcmp hV_98 hV_107) c_109 rfl rfl ?_
    refine r_p hq 1 (pc' := 113) (L' := [(0, .ref 143), (1, .int X1), (2, .int X2)]) (st' := [.ref 143]) rfl ?_
    refine r_gR (b := 147) (pc' := 116) (L' := [(0, .ref 143), (1, .int X1), (2, .int X2)]) H hq (z_at.mk 3 rfl rfl) rfl rfl rfl rfl ?_
    refine r_p hq 4 (pc' := 121) (L' := [(0, .ref 143), (1, .int X1), (2, .int X2)]) (st' := [.ref 143, .int (((121 : Int32)) + X1), .ref 147]) rfl ?_
    refine r_gR (b := 147) (pc' := 124) (L' := [(0, .ref 143), (1, .int X1), (2, .int X2)]) H hq (z_at.mk 3 rfl rfl) rfl rfl rfl rfl ?_
    refine r_p hq 3 (pc' := 128) (L' := [(0, .ref 143), (1, .int X1), (2, .int X2)]) (st' := [.int (((121 : Int32)) + X2), .ref 147, .int (((121 : Int32)) + X1), .ref 147]) rfl ?_
    obtain ⟨g_128, h⟩ := z_ifo_some h
    refine r_la (pc' := 129) (L' := [(0, .ref 143), (1, .int X1), (2, .int X2)]) H hq (z_at.mk 1 rfl rfl) (show zAr 147 1 361 = true from rfl) (tx_iadd (rfl : (121 : Int32).toInt = 121) hx2) g_128 rfl rfl ?_
    intro V_128 hV_128
    obtain ⟨g_129, h⟩ := z_ifo_some h
    refine r_ls (pc' := 130) (L' := [(0, .ref 143), (2, .int X2)]) H hq (z_at.mk 1 rfl rfl) (show zAr 147 1 361 = true from rfl) (tx_iadd (rfl : (121 : Int32).toInt = 121) hx1) g_129 hV_128 rfl rfl ?_
    intro m_129 H_129
    exact g_m_joins_L130_ok hx2 H_129 h
def g_m_joins (x1 : Int) (x2 : Int) (σ : zS) : Option (Unit × zS) :=
  (g_m_region_173 x1 σ).bind fun o_1 =>
  (g_m_region_173 x2 o_1.2).bind fun o_6 =>
  (g_m_arounds 144 144 o_1.1 o_6.1 o_6.2).bind fun o_22 =>
  if 0 ≤ w32 (o_1.1 + 9) ∧ w32 (o_1.1 + 9) < 2740 then
  let v_44 := o_22.2 144 (w32 (o_1.1 + 9))
  if 0 ≤ w32 (o_6.1 + 9) ∧ w32 (o_6.1 + 9) < 2740 then
  let v_54 := o_22.2 144 (w32 (o_6.1 + 9))
  (g_m_less 9999 (w32 (v_44 + v_54)) o_22.2).bind fun o_56 =>
  if 0 ≤ w32 (o_1.1 + 9) ∧ w32 (o_1.1 + 9) < 2740 then
  let s_59 := zu o_56.2 144 (w32 (o_1.1 + 9)) o_56.1
  if 0 ≤ w32 (o_6.1 + 4) ∧ w32 (o_6.1 + 4) < 2740 then
  let v_68 := s_59 144 (w32 (o_6.1 + 4))
  if v_68 < 0 then
    g_m_joins_L90 x1 x2 s_59
  else
    (g_m_arounds 144 144 (w32 (o_1.1 + 4)) (w32 (o_6.1 + 4)) s_59).bind fun o_87 =>
    g_m_joins_L90 x1 x2 o_87.2
  else none
  else none
  else none
  else none
set_option maxHeartbeats 4000000 in
theorem g_m_joins_ok {xl : Nat} {xs : Nat → Int32} {X1 : Int32} {x1 : Int} (hx1 : X1.toInt = x1) {X2 : Int32} {x2 : Int} (hx2 : X2.toInt = x2) {σ : zS} {p : Nat} {m : zM} {o : Unit × zS} (H : zRep xl xs p m σ) (h : g_m_joins x1 x2 σ = some o) : zGo xl xs (fun p' => p = p') 4 184 0 (z_can 184 0 (lv_args 0 [.ref 143, .int X1, .int X2])) [] m vV o.2 := by
  have hq : z_mth 184 = some z_r184 := rfl
  unfold g_m_joins at h
  show zGo xl xs (fun p' => p = p') 4 184 0 [(0, .ref 143), (1, .int X1), (2, .int X2)] [] m vV o.2
  refine r_p hq 1 (pc' := 1) (L' := [(0, .ref 143), (1, .int X1), (2, .int X2)]) (st' := [.int X1]) rfl ?_
  obtain ⟨o_1, h_1, h⟩ := Option.bind_eq_some_iff.mp h
  refine r_csI (pc' := 4) (L' := [(0, .ref 143), (1, .int X1), (2, .int X2)]) (As := [.int X1]) (rest := []) (j := 173) hq (z_at.mk 3 rfl rfl) (Or.inl ⟨rfl, rfl⟩) rfl rfl (by omega) (g_m_region_173_ok hx1 H h_1) rfl rfl ?_
  intro R_1 m_1 p_1 e_1 hR_1 H_1
  subst e_1
  refine r_p hq 2 (pc' := 6) (L' := [(3, .int R_1), (0, .ref 143), (1, .int X1), (2, .int X2)]) (st' := [.int X2]) rfl ?_
  obtain ⟨o_6, h_6, h⟩ := Option.bind_eq_some_iff.mp h
  refine r_csI (pc' := 9) (L' := [(3, .int R_1), (0, .ref 143), (1, .int X1), (2, .int X2)]) (As := [.int X2]) (rest := []) (j := 173) hq (z_at.mk 3 rfl rfl) (Or.inl ⟨rfl, rfl⟩) rfl rfl (by omega) (g_m_region_173_ok hx2 H_1 h_6) rfl rfl ?_
  intro R_6 m_6 p_6 e_6 hR_6 H_6
  subst e_6
  refine r_p hq 2 (pc' := 12) (L' := [(4, .int R_6), (3, .int R_1), (0, .ref 143), (1, .int X1), (2, .int X2)]) (st' := [.ref 143]) rfl ?_
  refine r_gR (b := 144) (pc' := 15) (L' := [(4, .int R_6), (3, .int R_1), (0, .ref 143), (1, .int X1), (2, .int X2)]) H_6 hq (z_at.mk 3 rfl rfl) rfl rfl rfl rfl ?_
  refine r_p hq 2 (pc' := 17) (L' := [(4, .int R_6), (3, .int R_1), (0, .ref 143), (1, .int X1), (2, .int X2)]) (st' := [.ref 143, .int R_1, .ref 144]) rfl ?_
  refine r_gR (b := 144) (pc' := 20) (L' := [(4, .int R_6), (3, .int R_1), (0, .ref 143), (1, .int X1), (2, .int X2)]) H_6 hq (z_at.mk 3 rfl rfl) rfl rfl rfl rfl ?_
  refine r_p hq 1 (pc' := 22) (L' := [(4, .int R_6), (3, .int R_1), (0, .ref 143), (1, .int X1), (2, .int X2)]) (st' := [.int R_6, .ref 144, .int R_1, .ref 144]) rfl ?_
  obtain ⟨o_22, h_22, h⟩ := Option.bind_eq_some_iff.mp h
  refine r_csV (pc' := 25) (L' := [(4, .int R_6), (3, .int R_1), (0, .ref 143), (1, .int X1), (2, .int X2)]) (As := [.ref 144, .int R_1, .ref 144, .int R_6]) (rest := []) (j := 171) hq (z_at.mk 3 rfl rfl) (Or.inl ⟨rfl, rfl⟩) rfl rfl (by omega) (g_m_arounds_ok rfl rfl hR_1 hR_6 H_6 h_22) rfl rfl ?_
  intro m_22 p_22 e_22 H_22
  subst e_22
  refine r_p hq 1 (pc' := 26) (L' := [(4, .int R_6), (3, .int R_1), (0, .ref 143), (1, .int X1), (2, .int X2)]) (st' := [.ref 143]) rfl ?_
  refine r_gR (b := 144) (pc' := 29) (L' := [(4, .int R_6), (3, .int R_1), (0, .ref 143), (1, .int X1), (2, .int X2)]) H_22 hq (z_at.mk 3 rfl rfl) rfl rfl rfl rfl ?_
  refine r_p hq 5 (pc' := 37) (L' := [(4, .int R_6), (3, .int R_1), (0, .ref 143), (1, .int X1), (2, .int X2)]) (st' := [.ref 143, .int ((9999 : Int32)), .int (R_1 + ((9 : Int32))), .ref 144]) rfl ?_
  refine r_gR (b := 144) (pc' := 40) (L' := [(4, .int R_6), (3, .int R_1), (0, .ref 143), (1, .int X1), (2, .int X2)]) H_22 hq (z_at.mk 3 rfl rfl) rfl rfl rfl rfl ?_
  refine r_p hq 3 (pc' := 44) (L' := [(4, .int R_6), (3, .int R_1), (0, .ref 143), (1, .int X1), (2, .int X2)]) (st' := [.int (R_1 + ((9 : Int32))), .ref 144, .int ((9999 : Int32)), .int (R_1 + ((9 : Int32))), .ref 144]) rfl ?_
  obtain ⟨g_44, h⟩ := z_ifo_some h
  refine r_ia (pc' := 45) (L' := [(4, .int R_6), (3, .int R_1), (0, .ref 143), (1, .int X1), (2, .int X2)]) H_22 hq (z_at.mk 1 rfl rfl) (show zAr 144 0 2740 = true from rfl) (tx_iadd hR_1 (rfl : (9 : Int32).toInt = 9)) g_44 rfl rfl ?_
  intro V_44 hV_44
  refine r_p hq 1 (pc' := 46) (L' := [(4, .int R_6), (3, .int R_1), (0, .ref 143), (1, .int X1), (2, .int X2)]) (st' := [.ref 143, .int V_44, .int ((9999 : Int32)), .int (R_1 + ((9 : Int32))), .ref 144]) rfl ?_
  refine r_gR (b := 144) (pc' := 49) (L' := [(4, .int R_6), (3, .int R_1), (0, .ref 143), (1, .int X1), (2, .int X2)]) H_22 hq (z_at.mk 3 rfl rfl) rfl rfl rfl rfl ?_
  refine r_p hq 3 (pc' := 54) (L' := [(4, .int R_6), (3, .int R_1), (0, .ref 143), (1, .int X1), (2, .int X2)]) (st' := [.int (R_6 + ((9 : Int32))), .ref 144, .int V_44, .int ((9999 : Int32)), .int (R_1 + ((9 : Int32))), .ref 144]) rfl ?_
  obtain ⟨g_54, h⟩ := z_ifo_some h
  refine r_ia (pc' := 55) (L' := [(4, .int R_6), (3, .int R_1), (0, .ref 143), (1, .int X1), (2, .int X2)]) H_22 hq (z_at.mk 1 rfl rfl) (show zAr 144 0 2740 = true from rfl) (tx_iadd hR_6 (rfl : (9 : Int32).toInt = 9)) g_54 rfl rfl ?_
  intro V_54 hV_54
  refine r_p hq 1 (pc' := 56) (L' := [(4, .int R_6), (3, .int R_1), (0, .ref 143), (1, .int X1), (2, .int X2)]) (st' := [.int (V_44 + V_54), .int ((9999 : Int32)), .int (R_1 + ((9 : Int32))), .ref 144]) rfl ?_
  obtain ⟨o_56, h_56, h⟩ := Option.bind_eq_some_iff.mp h
  refine r_csI (pc' := 59) (L' := [(4, .int R_6), (3, .int R_1), (0, .ref 143), (1, .int X1), (2, .int X2)]) (As := [.int ((9999 : Int32)), .int (V_44 + V_54)]) (rest := [.int (R_1 + ((9 : Int32))), .ref 144]) (j := 160) hq (z_at.mk 3 rfl rfl) (Or.inl ⟨rfl, rfl⟩) rfl rfl (by omega) (g_m_less_ok (rfl : (9999 : Int32).toInt = 9999) (tx_iadd hV_44 hV_54) H_22 h_56) rfl rfl ?_
  intro R_56 m_56 p_56 e_56 hR_56 H_56
  subst e_56
  obtain ⟨g_59, h⟩ := z_ifo_some h
  refine r_is (pc' := 60) (L' := [(4, .int R_6), (3, .int R_1), (0, .ref 143), (1, .int X1), (2, .int X2)]) H_56 hq (z_at.mk 1 rfl rfl) (show zAr 144 0 2740 = true from rfl) (tx_iadd hR_1 (rfl : (9 : Int32).toInt = 9)) g_59 hR_56 rfl rfl ?_
  intro m_59 H_59
  refine r_p hq 1 (pc' := 61) (L' := [(4, .int R_6), (3, .int R_1), (0, .ref 143), (1, .int X1), (2, .int X2)]) (st' := [.ref 143]) rfl ?_
  refine r_gR (b := 144) (pc' := 64) (L' := [(4, .int R_6), (3, .int R_1), (0, .ref 143), (1, .int X1), (2, .int X2)]) H_59 hq (z_at.mk 3 rfl rfl) rfl rfl rfl rfl ?_
  refine r_p hq 3 (pc' := 68) (L' := [(4, .int R_6), (3, .int R_1), (0, .ref 143), (1, .int X1), (2, .int X2)]) (st' := [.int (R_6 + ((4 : Int32))), .ref 144]) rfl ?_
  obtain ⟨g_68, h⟩ := z_ifo_some h
  refine r_ia (pc' := 69) (L' := [(4, .int R_6), (3, .int R_1), (0, .ref 143), (1, .int X1), (2, .int X2)]) H_59 hq (z_at.mk 1 rfl rfl) (show zAr 144 0 2740 = true from rfl) (tx_iadd hR_6 (rfl : (4 : Int32).toInt = 4)) g_68 rfl rfl ?_
  intro V_68 hV_68
  rcases z_ite h with ⟨c_69, h⟩ | ⟨c_69, h⟩
  · refine r_t1 (pc' := 90) (L' := [(0, .ref 143), (1, .int X1), (2, .int X2)]) hq (z_at.mk 3 rfl rfl) rfl hV_68 c_69 rfl rfl ?_
    exact g_m_joins_L90_ok hx1 hx2 H_59 h
  · refine r_f1 (pc' := 72) (L' := [(4, .int R_6), (3, .int R_1), (0, .ref 143), (1, .int X1), (2, .int X2)]) hq (z_at.mk 3 rfl rfl) rfl hV_68 c_69 rfl rfl ?_
    refine r_p hq 1 (pc' := 73) (L' := [(4, .int R_6), (3, .int R_1), (0, .ref 143), (1, .int X1), (2, .int X2)]) (st' := [.ref 143]) rfl ?_
    refine r_gR (b := 144) (pc' := 76) (L' := [(4, .int R_6), (3, .int R_1), (0, .ref 143), (1, .int X1), (2, .int X2)]) H_59 hq (z_at.mk 3 rfl rfl) rfl rfl rfl rfl ?_
    refine r_p hq 4 (pc' := 80) (L' := [(4, .int R_6), (3, .int R_1), (0, .ref 143), (1, .int X1), (2, .int X2)]) (st' := [.ref 143, .int (R_1 + ((4 : Int32))), .ref 144]) rfl ?_
    refine r_gR (b := 144) (pc' := 83) (L' := [(4, .int R_6), (3, .int R_1), (0, .ref 143), (1, .int X1), (2, .int X2)]) H_59 hq (z_at.mk 3 rfl rfl) rfl rfl rfl rfl ?_
    refine r_p hq 3 (pc' := 87) (L' := [(4, .int R_6), (3, .int R_1), (0, .ref 143), (1, .int X1), (2, .int X2)]) (st' := [.int (R_6 + ((4 : Int32))), .ref 144, .int (R_1 + ((4 : Int32))), .ref 144]) rfl ?_
    obtain ⟨o_87, h_87, h⟩ := Option.bind_eq_some_iff.mp h
    refine r_csV (pc' := 90) (L' := [(0, .ref 143), (1, .int X1), (2, .int X2)]) (As := [.ref 144, .int (R_1 + ((4 : Int32))), .ref 144, .int (R_6 + ((4 : Int32)))]) (rest := []) (j := 171) hq (z_at.mk 3 rfl rfl) (Or.inl ⟨rfl, rfl⟩) rfl rfl (by omega) (g_m_arounds_ok rfl rfl (tx_iadd hR_1 (rfl : (4 : Int32).toInt = 4)) (tx_iadd hR_6 (rfl : (4 : Int32).toInt = 4)) H_59 h_87) rfl rfl ?_
    intro m_87 p_87 e_87 H_87
    subst e_87
    exact g_m_joins_L90_ok hx1 hx2 H_87 h
def g_m_isMerged_L16 (g2 : Int → zS → Option (Int × zS)) : Nat → Int → Int → zS → Option (Int × zS)
  | 0, _, _, _ => none
  | n + 1, x1, x2, σ =>
    let v_22 := σ 144 0
    if v_22 ≤ x2 then
      g2 (w32 (x1 + 1)) σ
    else
      (g_m_isOneBox x1 x2 σ).bind fun o_29 =>
      if o_29.1 ≠ 0 then
        (g_m_joins x1 x2 o_29.2).bind fun o_41 =>
        some (1, o_41.2)
      else
        (g_m_isMerged_L16 g2 n) x1 (w32 (x2 + 1)) o_29.2
set_option maxHeartbeats 4000000 in
theorem g_m_isMerged_L16_ok {xl : Nat} {xs : Nat → Int32} {g2 : Int → zS → Option (Int × zS)} (hg2 : ∀ {X1 : Int32} {x1 : Int} {σ : zS} {p : Nat} {m : zM} {o : Int × zS}, X1.toInt = x1 → zRep xl xs p m σ → g2 x1 σ = some o → zGo xl xs (fun p' => p = p') 5 185 2 [(0, .ref 143), (1, .int X1)] [] m (vI o.1) o.2) : ∀ (n : Nat) {X1 : Int32} {x1 : Int} {X2 : Int32} {x2 : Int} {σ : zS} {p : Nat} {m : zM} {o : Int × zS}, X1.toInt = x1 → X2.toInt = x2 → zRep xl xs p m σ → g_m_isMerged_L16 g2 n x1 x2 σ = some o → zGo xl xs (fun p' => p = p') 5 185 16 [(0, .ref 143), (1, .int X1), (2, .int X2)] [] m (vI o.1) o.2
  | 0, _, _, _, _, _, _, _, _, _, _, _, h => by cases h
  | n + 1, X1, x1, X2, x2, σ, p, m, o, hx1, hx2, H, h => by
    have hq : z_mth 185 = some z_r185 := rfl
    have ih := fun {X1 : Int32} {x1 : Int} {X2 : Int32} {x2 : Int} {σ : zS} {p : Nat} {m : zM} {o : Int × zS} => g_m_isMerged_L16_ok (xl := xl) (xs := xs) hg2 n (X1 := X1) (x1 := x1) (X2 := X2) (x2 := x2) (σ := σ) (p := p) (m := m) (o := o)
    unfold g_m_isMerged_L16 at h
    refine r_p hq 2 (pc' := 18) (L' := [(0, .ref 143), (1, .int X1), (2, .int X2)]) (st' := [.ref 143, .int X2]) rfl ?_
    refine r_gR (b := 144) (pc' := 21) (L' := [(0, .ref 143), (1, .int X1), (2, .int X2)]) H hq (z_at.mk 3 rfl rfl) rfl rfl rfl rfl ?_
    refine r_p hq 1 (pc' := 22) (L' := [(0, .ref 143), (1, .int X1), (2, .int X2)]) (st' := [.int ((0 : Int32)), .ref 144, .int X2]) rfl ?_
    refine r_ia (pc' := 23) (L' := [(0, .ref 143), (1, .int X1), (2, .int X2)]) H hq (z_at.mk 1 rfl rfl) (show zAr 144 0 2740 = true from rfl) (rfl : (0 : Int32).toInt = 0) ⟨by decide, by decide⟩ rfl rfl ?_
    intro V_22 hV_22
    rcases z_ite h with ⟨c_23, h⟩ | ⟨c_23, h⟩
    · refine r_t2 (pc' := 52) (L' := [(0, .ref 143), (1, .int X1), (2, .int X2)]) hq (z_at.mk 3 rfl rfl) rfl hx2 hV_22 c_23 rfl rfl ?_
      refine r_p hq 2 (pc' := 2) (L' := [(0, .ref 143), (1, .int (X1 + (1 : Int32)))]) (st' := []) rfl ?_
      exact hg2 (tx_iadd hx1 (rfl : (1 : Int32).toInt = 1)) H h
    · refine r_f2 (pc' := 26) (L' := [(0, .ref 143), (1, .int X1), (2, .int X2)]) hq (z_at.mk 3 rfl rfl) rfl hx2 hV_22 c_23 rfl rfl ?_
      refine r_p hq 3 (pc' := 29) (L' := [(0, .ref 143), (1, .int X1), (2, .int X2)]) (st' := [.int X2, .int X1, .ref 143]) rfl ?_
      obtain ⟨o_29, h_29, h⟩ := Option.bind_eq_some_iff.mp h
      refine r_cvI (pc' := 32) (L' := [(0, .ref 143), (1, .int X1), (2, .int X2)]) (Ps := [.int X1, .int X2]) (rest := []) hq (z_at.mk 3 rfl rfl) (Or.inl ⟨rfl, rfl⟩) rfl rfl (by decide) (by decide) rfl (Nat.not_lt.mpr (Nat.le_of_ble_eq_true rfl)) rfl rfl (z_cat_le 0 rfl (by decide)) (z_lgl_le 3 rfl (by decide)) (by decide) (H.tg rfl) (by omega) (g_m_isOneBox_ok hx1 hx2 H h_29) rfl rfl ?_
      intro R_29 m_29 p_29 e_29 hR_29 H_29
      subst e_29
      rcases z_ite h with ⟨c_32, h⟩ | ⟨c_32, h⟩
      · refine r_t1 (pc' := 38) (L' := [(0, .ref 143), (1, .int X1), (2, .int X2)]) hq (z_at.mk 3 rfl rfl) rfl hR_29 c_32 rfl rfl ?_
        refine r_p hq 3 (pc' := 41) (L' := [(0, .ref 143), (1, .int X1), (2, .int X2)]) (st' := [.int X2, .int X1, .ref 143]) rfl ?_
        obtain ⟨o_41, h_41, h⟩ := Option.bind_eq_some_iff.mp h
        refine r_cvV (pc' := 44) (L' := [(0, .ref 143), (1, .int X1), (2, .int X2)]) (Ps := [.int X1, .int X2]) (rest := []) hq (z_at.mk 3 rfl rfl) (Or.inl ⟨rfl, rfl⟩) rfl rfl (by decide) (by decide) rfl (Nat.not_lt.mpr (Nat.le_of_ble_eq_true rfl)) rfl rfl (z_cat_le 0 rfl (by decide)) (z_lgl_le 3 rfl (by decide)) (by decide) (H_29.tg rfl) (by omega) (g_m_joins_ok hx1 hx2 H_29 h_41) rfl rfl ?_
        intro m_41 p_41 e_41 H_41
        subst e_41
        refine r_p hq 1 (pc' := 45) (L' := [(0, .ref 143), (1, .int X1), (2, .int X2)]) (st' := [.int ((1 : Int32))]) rfl ?_
        cases h
        exact r_ri hq (z_at.mk 1 rfl rfl) rfl rfl (rfl : (1 : Int32).toInt = 1) rfl H_41
      · refine r_f1 (pc' := 35) (L' := [(0, .ref 143), (1, .int X1), (2, .int X2)]) hq (z_at.mk 3 rfl rfl) rfl hR_29 c_32 rfl rfl ?_
        refine r_p hq 3 (pc' := 16) (L' := [(0, .ref 143), (1, .int X1), (2, .int (X2 + (1 : Int32)))]) (st' := []) rfl ?_
        exact ih hx1 (tx_iadd hx2 (rfl : (1 : Int32).toInt = 1)) H_29 h
def g_m_isMerged_L2 : Nat → Int → zS → Option (Int × zS)
  | 0, _, _ => none
  | n + 1, x1, σ =>
    let v_8 := σ 144 0
    if v_8 ≤ x1 then
      some (0, σ)
    else
      g_m_isMerged_L16 ((g_m_isMerged_L2 n)) zK x1 (w32 (x1 + 1)) σ
set_option maxHeartbeats 4000000 in
theorem g_m_isMerged_L2_ok {xl : Nat} {xs : Nat → Int32} : ∀ (n : Nat) {X1 : Int32} {x1 : Int} {σ : zS} {p : Nat} {m : zM} {o : Int × zS}, X1.toInt = x1 → zRep xl xs p m σ → g_m_isMerged_L2 n x1 σ = some o → zGo xl xs (fun p' => p = p') 5 185 2 [(0, .ref 143), (1, .int X1)] [] m (vI o.1) o.2
  | 0, _, _, _, _, _, _, _, _, h => by cases h
  | n + 1, X1, x1, σ, p, m, o, hx1, H, h => by
    have hq : z_mth 185 = some z_r185 := rfl
    have ih := fun {X1 : Int32} {x1 : Int} {σ : zS} {p : Nat} {m : zM} {o : Int × zS} => g_m_isMerged_L2_ok (xl := xl) (xs := xs) n (X1 := X1) (x1 := x1) (σ := σ) (p := p) (m := m) (o := o)
    unfold g_m_isMerged_L2 at h
    refine r_p hq 2 (pc' := 4) (L' := [(0, .ref 143), (1, .int X1)]) (st' := [.ref 143, .int X1]) rfl ?_
    refine r_gR (b := 144) (pc' := 7) (L' := [(0, .ref 143), (1, .int X1)]) H hq (z_at.mk 3 rfl rfl) rfl rfl rfl rfl ?_
    refine r_p hq 1 (pc' := 8) (L' := [(0, .ref 143), (1, .int X1)]) (st' := [.int ((0 : Int32)), .ref 144, .int X1]) rfl ?_
    refine r_ia (pc' := 9) (L' := [(0, .ref 143), (1, .int X1)]) H hq (z_at.mk 1 rfl rfl) (show zAr 144 0 2740 = true from rfl) (rfl : (0 : Int32).toInt = 0) ⟨by decide, by decide⟩ rfl rfl ?_
    intro V_8 hV_8
    rcases z_ite h with ⟨c_9, h⟩ | ⟨c_9, h⟩
    · refine r_t2 (pc' := 58) (L' := [(0, .ref 143), (1, .int X1)]) hq (z_at.mk 3 rfl rfl) rfl hx1 hV_8 c_9 rfl rfl ?_
      refine r_p hq 1 (pc' := 59) (L' := [(0, .ref 143), (1, .int X1)]) (st' := [.int ((0 : Int32))]) rfl ?_
      cases h
      exact r_ri hq (z_at.mk 1 rfl rfl) rfl rfl (rfl : (0 : Int32).toInt = 0) rfl H
    · refine r_f2 (pc' := 12) (L' := [(0, .ref 143), (1, .int X1)]) hq (z_at.mk 3 rfl rfl) rfl hx1 hV_8 c_9 rfl rfl ?_
      refine r_p hq 4 (pc' := 16) (L' := [(0, .ref 143), (1, .int X1), (2, .int (X1 + ((1 : Int32))))]) (st' := []) rfl ?_
      exact g_m_isMerged_L16_ok ih zK hx1 (tx_iadd hx1 (rfl : (1 : Int32).toInt = 1)) H h
def g_m_isMerged (σ : zS) : Option (Int × zS) :=
  g_m_isMerged_L2 zK 0 σ
set_option maxHeartbeats 4000000 in
theorem g_m_isMerged_ok {xl : Nat} {xs : Nat → Int32} {σ : zS} {p : Nat} {m : zM} {o : Int × zS} (H : zRep xl xs p m σ) (h : g_m_isMerged σ = some o) : zGo xl xs (fun p' => p = p') 5 185 0 (z_can 185 0 (lv_args 0 [.ref 143])) [] m (vI o.1) o.2 := by
  have hq : z_mth 185 = some z_r185 := rfl
  unfold g_m_isMerged at h
  show zGo xl xs (fun p' => p = p') 5 185 0 [(0, .ref 143)] [] m (vI o.1) o.2
  refine r_p hq 2 (pc' := 2) (L' := [(0, .ref 143), (1, .int ((0 : Int32)))]) (st' := []) rfl ?_
  exact g_m_isMerged_L2_ok zK (rfl : (0 : Int32).toInt = 0) H h
def g_m_sizes_L4 : Nat → Int → Int → zS → Option (Int × zS)
  | 0, _, _, _ => none
  | n + 1, x1, x2, σ =>
    let v_10 := σ 144 0
    if v_10 ≤ x2 then
      some (x1, σ)
    else
      (g_m_size x2 σ).bind fun o_17 =>
      (g_m_sizes_L4 n) (w32 (x1 + o_17.1)) (w32 (x2 + 1)) o_17.2
set_option maxHeartbeats 4000000 in
theorem g_m_sizes_L4_ok {xl : Nat} {xs : Nat → Int32} : ∀ (n : Nat) {X1 : Int32} {x1 : Int} {X2 : Int32} {x2 : Int} {σ : zS} {p : Nat} {m : zM} {o : Int × zS}, X1.toInt = x1 → X2.toInt = x2 → zRep xl xs p m σ → g_m_sizes_L4 n x1 x2 σ = some o → zGo xl xs (fun p' => p = p') 5 186 4 [(0, .ref 143), (1, .int X1), (2, .int X2)] [] m (vI o.1) o.2
  | 0, _, _, _, _, _, _, _, _, _, _, _, h => by cases h
  | n + 1, X1, x1, X2, x2, σ, p, m, o, hx1, hx2, H, h => by
    have hq : z_mth 186 = some z_r186 := rfl
    have ih := fun {X1 : Int32} {x1 : Int} {X2 : Int32} {x2 : Int} {σ : zS} {p : Nat} {m : zM} {o : Int × zS} => g_m_sizes_L4_ok (xl := xl) (xs := xs) n (X1 := X1) (x1 := x1) (X2 := X2) (x2 := x2) (σ := σ) (p := p) (m := m) (o := o)
    unfold g_m_sizes_L4 at h
    refine r_p hq 2 (pc' := 6) (L' := [(0, .ref 143), (1, .int X1), (2, .int X2)]) (st' := [.ref 143, .int X2]) rfl ?_
    refine r_gR (b := 144) (pc' := 9) (L' := [(0, .ref 143), (1, .int X1), (2, .int X2)]) H hq (z_at.mk 3 rfl rfl) rfl rfl rfl rfl ?_
    refine r_p hq 1 (pc' := 10) (L' := [(0, .ref 143), (1, .int X1), (2, .int X2)]) (st' := [.int ((0 : Int32)), .ref 144, .int X2]) rfl ?_
    refine r_ia (pc' := 11) (L' := [(0, .ref 143), (1, .int X1), (2, .int X2)]) H hq (z_at.mk 1 rfl rfl) (show zAr 144 0 2740 = true from rfl) (rfl : (0 : Int32).toInt = 0) ⟨by decide, by decide⟩ rfl rfl ?_
    intro V_10 hV_10
    rcases z_ite h with ⟨c_11, h⟩ | ⟨c_11, h⟩
    · refine r_t2 (pc' := 28) (L' := [(0, .ref 143), (1, .int X1), (2, .int X2)]) hq (z_at.mk 3 rfl rfl) rfl hx2 hV_10 c_11 rfl rfl ?_
      refine r_p hq 1 (pc' := 29) (L' := [(0, .ref 143), (1, .int X1), (2, .int X2)]) (st' := [.int X1]) rfl ?_
      cases h
      exact r_ri hq (z_at.mk 1 rfl rfl) rfl rfl hx1 rfl H
    · refine r_f2 (pc' := 14) (L' := [(0, .ref 143), (1, .int X1), (2, .int X2)]) hq (z_at.mk 3 rfl rfl) rfl hx2 hV_10 c_11 rfl rfl ?_
      refine r_p hq 3 (pc' := 17) (L' := [(0, .ref 143), (1, .int X1), (2, .int X2)]) (st' := [.int X2, .ref 143, .int X1]) rfl ?_
      obtain ⟨o_17, h_17, h⟩ := Option.bind_eq_some_iff.mp h
      refine r_cvI (pc' := 20) (L' := [(0, .ref 143), (1, .int X1), (2, .int X2)]) (Ps := [.int X2]) (rest := [.int X1]) hq (z_at.mk 3 rfl rfl) (Or.inl ⟨rfl, rfl⟩) rfl rfl (by decide) (by decide) rfl (Nat.not_lt.mpr (Nat.le_of_ble_eq_true rfl)) rfl rfl (z_cat_le 1 rfl (by decide)) (z_lgl_le 2 rfl (by decide)) (by decide) (H.tg rfl) (by omega) (g_m_size_ok hx2 H h_17) rfl rfl ?_
      intro R_17 m_17 p_17 e_17 hR_17 H_17
      subst e_17
      refine r_p hq 4 (pc' := 4) (L' := [(0, .ref 143), (1, .int (X1 + R_17)), (2, .int (X2 + (1 : Int32)))]) (st' := []) rfl ?_
      exact ih (tx_iadd hx1 hR_17) (tx_iadd hx2 (rfl : (1 : Int32).toInt = 1)) H_17 h
def g_m_sizes (σ : zS) : Option (Int × zS) :=
  g_m_sizes_L4 zK 0 0 σ
set_option maxHeartbeats 4000000 in
theorem g_m_sizes_ok {xl : Nat} {xs : Nat → Int32} {σ : zS} {p : Nat} {m : zM} {o : Int × zS} (H : zRep xl xs p m σ) (h : g_m_sizes σ = some o) : zGo xl xs (fun p' => p = p') 5 186 0 (z_can 186 0 (lv_args 0 [.ref 143])) [] m (vI o.1) o.2 := by
  have hq : z_mth 186 = some z_r186 := rfl
  unfold g_m_sizes at h
  show zGo xl xs (fun p' => p = p') 5 186 0 [(0, .ref 143)] [] m (vI o.1) o.2
  refine r_p hq 4 (pc' := 4) (L' := [(0, .ref 143), (1, .int ((0 : Int32))), (2, .int ((0 : Int32)))]) (st' := []) rfl ?_
  exact g_m_sizes_L4_ok zK (rfl : (0 : Int32).toInt = 0) (rfl : (0 : Int32).toInt = 0) H h
def g_m_lightest_L100 (g4 : Int → Int → zS → Option (Int × zS)) (x2 : Int) (xs0 : Int) (σ : zS) : Option (Int × zS) :=
  g4 xs0 (w32 (x2 + 1)) σ
set_option maxHeartbeats 4000000 in
theorem g_m_lightest_L100_ok {xl : Nat} {xs : Nat → Int32} {g4 : Int → Int → zS → Option (Int × zS)} (hg4 : ∀ {X1 : Int32} {x1 : Int} {X2 : Int32} {x2 : Int} {σ : zS} {p : Nat} {m : zM} {o : Int × zS}, X1.toInt = x1 → X2.toInt = x2 → zRep xl xs p m σ → g4 x1 x2 σ = some o → zGo xl xs (fun p' => p = p') 2 187 4 [(0, .ref 143), (1, .int X1), (2, .int X2)] [] m (vI o.1) o.2) {X2 : Int32} {x2 : Int} (hx2 : X2.toInt = x2) {Xs0 : Int32} {xs0 : Int} (hxs0 : Xs0.toInt = xs0) {σ : zS} {p : Nat} {m : zM} {o : Int × zS} (H : zRep xl xs p m σ) (h : g_m_lightest_L100 g4 x2 xs0 σ = some o) : zGo xl xs (fun p' => p = p') 2 187 100 [(0, .ref 143), (2, .int X2)] [.int Xs0] m (vI o.1) o.2 := by
  have hq : z_mth 187 = some z_r187 := rfl
  unfold g_m_lightest_L100 at h
  refine r_p hq 3 (pc' := 4) (L' := [(0, .ref 143), (1, .int Xs0), (2, .int (X2 + (1 : Int32)))]) (st' := []) rfl ?_
  exact hg4 hxs0 (tx_iadd hx2 (rfl : (1 : Int32).toInt = 1)) H h
def g_m_lightest_L90 (g4 : Int → Int → zS → Option (Int × zS)) (x1 : Int) (x2 : Int) (xs0 : Int) (σ : zS) : Option (Int × zS) :=
  if xs0 = 0 then
    g_m_lightest_L100 g4 x2 x1 σ
  else
    g_m_lightest_L100 g4 x2 x2 σ
set_option maxHeartbeats 4000000 in
theorem g_m_lightest_L90_ok {xl : Nat} {xs : Nat → Int32} {g4 : Int → Int → zS → Option (Int × zS)} (hg4 : ∀ {X1 : Int32} {x1 : Int} {X2 : Int32} {x2 : Int} {σ : zS} {p : Nat} {m : zM} {o : Int × zS}, X1.toInt = x1 → X2.toInt = x2 → zRep xl xs p m σ → g4 x1 x2 σ = some o → zGo xl xs (fun p' => p = p') 2 187 4 [(0, .ref 143), (1, .int X1), (2, .int X2)] [] m (vI o.1) o.2) {X1 : Int32} {x1 : Int} (hx1 : X1.toInt = x1) {X2 : Int32} {x2 : Int} (hx2 : X2.toInt = x2) {Xs0 : Int32} {xs0 : Int} (hxs0 : Xs0.toInt = xs0) {σ : zS} {p : Nat} {m : zM} {o : Int × zS} (H : zRep xl xs p m σ) (h : g_m_lightest_L90 g4 x1 x2 xs0 σ = some o) : zGo xl xs (fun p' => p = p') 2 187 90 [(0, .ref 143), (1, .int X1), (2, .int X2)] [.int Xs0] m (vI o.1) o.2 := by
  have hq : z_mth 187 = some z_r187 := rfl
  unfold g_m_lightest_L90 at h
  refine r_p hq 2 (pc' := 92) (L' := [(3, .int Xs0), (0, .ref 143), (1, .int X1), (2, .int X2)]) (st' := [.int Xs0]) rfl ?_
  rcases z_ite h with ⟨c_92, h⟩ | ⟨c_92, h⟩
  · refine r_t1 (pc' := 99) (L' := [(3, .int Xs0), (0, .ref 143), (1, .int X1), (2, .int X2)]) hq (z_at.mk 3 rfl rfl) rfl hxs0 c_92 rfl rfl ?_
    refine r_p hq 1 (pc' := 100) (L' := [(0, .ref 143), (2, .int X2)]) (st' := [.int X1]) rfl ?_
    exact g_m_lightest_L100_ok hg4 hx2 hx1 H h
  · refine r_f1 (pc' := 95) (L' := [(3, .int Xs0), (0, .ref 143), (1, .int X1), (2, .int X2)]) hq (z_at.mk 3 rfl rfl) rfl hxs0 c_92 rfl rfl ?_
    refine r_p hq 2 (pc' := 100) (L' := [(0, .ref 143), (2, .int X2)]) (st' := [.int X2]) rfl ?_
    exact g_m_lightest_L100_ok hg4 hx2 hx2 H h
def g_m_lightest_L89 (g4 : Int → Int → zS → Option (Int × zS)) (x1 : Int) (x2 : Int) (σ : zS) : Option (Int × zS) :=
  g_m_lightest_L90 g4 x1 x2 0 σ
set_option maxHeartbeats 4000000 in
theorem g_m_lightest_L89_ok {xl : Nat} {xs : Nat → Int32} {g4 : Int → Int → zS → Option (Int × zS)} (hg4 : ∀ {X1 : Int32} {x1 : Int} {X2 : Int32} {x2 : Int} {σ : zS} {p : Nat} {m : zM} {o : Int × zS}, X1.toInt = x1 → X2.toInt = x2 → zRep xl xs p m σ → g4 x1 x2 σ = some o → zGo xl xs (fun p' => p = p') 2 187 4 [(0, .ref 143), (1, .int X1), (2, .int X2)] [] m (vI o.1) o.2) {X1 : Int32} {x1 : Int} (hx1 : X1.toInt = x1) {X2 : Int32} {x2 : Int} (hx2 : X2.toInt = x2) {σ : zS} {p : Nat} {m : zM} {o : Int × zS} (H : zRep xl xs p m σ) (h : g_m_lightest_L89 g4 x1 x2 σ = some o) : zGo xl xs (fun p' => p = p') 2 187 89 [(0, .ref 143), (1, .int X1), (2, .int X2)] [] m (vI o.1) o.2 := by
  have hq : z_mth 187 = some z_r187 := rfl
  unfold g_m_lightest_L89 at h
  refine r_p hq 1 (pc' := 90) (L' := [(0, .ref 143), (1, .int X1), (2, .int X2)]) (st' := [.int ((0 : Int32))]) rfl ?_
  exact g_m_lightest_L90_ok hg4 hx1 hx2 (rfl : (0 : Int32).toInt = 0) H h
def g_m_lightest_L85 (g4 : Int → Int → zS → Option (Int × zS)) (x1 : Int) (x2 : Int) (σ : zS) : Option (Int × zS) :=
  g_m_lightest_L90 g4 x1 x2 1 σ
set_option maxHeartbeats 4000000 in
theorem g_m_lightest_L85_ok {xl : Nat} {xs : Nat → Int32} {g4 : Int → Int → zS → Option (Int × zS)} (hg4 : ∀ {X1 : Int32} {x1 : Int} {X2 : Int32} {x2 : Int} {σ : zS} {p : Nat} {m : zM} {o : Int × zS}, X1.toInt = x1 → X2.toInt = x2 → zRep xl xs p m σ → g4 x1 x2 σ = some o → zGo xl xs (fun p' => p = p') 2 187 4 [(0, .ref 143), (1, .int X1), (2, .int X2)] [] m (vI o.1) o.2) {X1 : Int32} {x1 : Int} (hx1 : X1.toInt = x1) {X2 : Int32} {x2 : Int} (hx2 : X2.toInt = x2) {σ : zS} {p : Nat} {m : zM} {o : Int × zS} (H : zRep xl xs p m σ) (h : g_m_lightest_L85 g4 x1 x2 σ = some o) : zGo xl xs (fun p' => p = p') 2 187 85 [(0, .ref 143), (1, .int X1), (2, .int X2)] [] m (vI o.1) o.2 := by
  have hq : z_mth 187 = some z_r187 := rfl
  unfold g_m_lightest_L85 at h
  refine r_p hq 2 (pc' := 90) (L' := [(0, .ref 143), (1, .int X1), (2, .int X2)]) (st' := [.int ((1 : Int32))]) rfl ?_
  exact g_m_lightest_L90_ok hg4 hx1 hx2 (rfl : (1 : Int32).toInt = 1) H h
def g_m_lightest_L4 : Nat → Int → Int → zS → Option (Int × zS)
  | 0, _, _, _ => none
  | n + 1, x1, x2, σ =>
    let v_10 := σ 144 0
    if v_10 ≤ x2 then
      some (x1, σ)
    else
      if 0 ≤ w32 (121 + x2) ∧ w32 (121 + x2) < 361 then
      let v_22 := σ 147 (w32 (121 + x2))
      if 0 ≤ w32 (121 + x1) ∧ w32 (121 + x1) < 361 then
      let v_31 := σ 147 (w32 (121 + x1))
      if lCmp v_22 v_31 < 0 then
        g_m_lightest_L85 ((g_m_lightest_L4 n)) x1 x2 σ
      else
        if 0 ≤ w32 (121 + x2) ∧ w32 (121 + x2) < 361 then
        let v_44 := σ 147 (w32 (121 + x2))
        if 0 ≤ w32 (121 + x1) ∧ w32 (121 + x1) < 361 then
        let v_53 := σ 147 (w32 (121 + x1))
        if lCmp v_44 v_53 ≠ 0 then
          g_m_lightest_L89 ((g_m_lightest_L4 n)) x1 x2 σ
        else
          (g_m_region_173 x2 σ).bind fun o_63 =>
          if 0 ≤ w32 (o_63.1 + 8) ∧ w32 (o_63.1 + 8) < 2740 then
          let v_69 := o_63.2 144 (w32 (o_63.1 + 8))
          (g_m_region_173 x1 o_63.2).bind fun o_75 =>
          if 0 ≤ w32 (o_75.1 + 8) ∧ w32 (o_75.1 + 8) < 2740 then
          let v_81 := o_75.2 144 (w32 (o_75.1 + 8))
          if v_81 ≤ v_69 then
            g_m_lightest_L89 ((g_m_lightest_L4 n)) x1 x2 o_75.2
          else
            g_m_lightest_L85 ((g_m_lightest_L4 n)) x1 x2 o_75.2
          else none
          else none
        else none
        else none
      else none
      else none
set_option maxHeartbeats 4000000 in
theorem g_m_lightest_L4_ok {xl : Nat} {xs : Nat → Int32} : ∀ (n : Nat) {X1 : Int32} {x1 : Int} {X2 : Int32} {x2 : Int} {σ : zS} {p : Nat} {m : zM} {o : Int × zS}, X1.toInt = x1 → X2.toInt = x2 → zRep xl xs p m σ → g_m_lightest_L4 n x1 x2 σ = some o → zGo xl xs (fun p' => p = p') 2 187 4 [(0, .ref 143), (1, .int X1), (2, .int X2)] [] m (vI o.1) o.2
  | 0, _, _, _, _, _, _, _, _, _, _, _, h => by cases h
  | n + 1, X1, x1, X2, x2, σ, p, m, o, hx1, hx2, H, h => by
    have hq : z_mth 187 = some z_r187 := rfl
    have ih := fun {X1 : Int32} {x1 : Int} {X2 : Int32} {x2 : Int} {σ : zS} {p : Nat} {m : zM} {o : Int × zS} => g_m_lightest_L4_ok (xl := xl) (xs := xs) n (X1 := X1) (x1 := x1) (X2 := X2) (x2 := x2) (σ := σ) (p := p) (m := m) (o := o)
    unfold g_m_lightest_L4 at h
    refine r_p hq 2 (pc' := 6) (L' := [(0, .ref 143), (1, .int X1), (2, .int X2)]) (st' := [.ref 143, .int X2]) rfl ?_
    refine r_gR (b := 144) (pc' := 9) (L' := [(0, .ref 143), (1, .int X1), (2, .int X2)]) H hq (z_at.mk 3 rfl rfl) rfl rfl rfl rfl ?_
    refine r_p hq 1 (pc' := 10) (L' := [(0, .ref 143), (1, .int X1), (2, .int X2)]) (st' := [.int ((0 : Int32)), .ref 144, .int X2]) rfl ?_
    refine r_ia (pc' := 11) (L' := [(0, .ref 143), (1, .int X1), (2, .int X2)]) H hq (z_at.mk 1 rfl rfl) (show zAr 144 0 2740 = true from rfl) (rfl : (0 : Int32).toInt = 0) ⟨by decide, by decide⟩ rfl rfl ?_
    intro V_10 hV_10
    rcases z_ite h with ⟨c_11, h⟩ | ⟨c_11, h⟩
    · refine r_t2 (pc' := 107) (L' := [(0, .ref 143), (1, .int X1), (2, .int X2)]) hq (z_at.mk 3 rfl rfl) rfl hx2 hV_10 c_11 rfl rfl ?_
      refine r_p hq 1 (pc' := 108) (L' := [(0, .ref 143), (1, .int X1), (2, .int X2)]) (st' := [.int X1]) rfl ?_
      cases h
      exact r_ri hq (z_at.mk 1 rfl rfl) rfl rfl hx1 rfl H
    · refine r_f2 (pc' := 14) (L' := [(0, .ref 143), (1, .int X1), (2, .int X2)]) hq (z_at.mk 3 rfl rfl) rfl hx2 hV_10 c_11 rfl rfl ?_
      refine r_p hq 1 (pc' := 15) (L' := [(0, .ref 143), (1, .int X1), (2, .int X2)]) (st' := [.ref 143]) rfl ?_
      refine r_gR (b := 147) (pc' := 18) (L' := [(0, .ref 143), (1, .int X1), (2, .int X2)]) H hq (z_at.mk 3 rfl rfl) rfl rfl rfl rfl ?_
      refine r_p hq 3 (pc' := 22) (L' := [(0, .ref 143), (1, .int X1), (2, .int X2)]) (st' := [.int (((121 : Int32)) + X2), .ref 147]) rfl ?_
      obtain ⟨g_22, h⟩ := z_ifo_some h
      refine r_la (pc' := 23) (L' := [(0, .ref 143), (1, .int X1), (2, .int X2)]) H hq (z_at.mk 1 rfl rfl) (show zAr 147 1 361 = true from rfl) (tx_iadd (rfl : (121 : Int32).toInt = 121) hx2) g_22 rfl rfl ?_
      intro V_22 hV_22
      refine r_p hq 1 (pc' := 24) (L' := [(0, .ref 143), (1, .int X1), (2, .int X2)]) (st' := [.ref 143, .long V_22]) rfl ?_
      refine r_gR (b := 147) (pc' := 27) (L' := [(0, .ref 143), (1, .int X1), (2, .int X2)]) H hq (z_at.mk 3 rfl rfl) rfl rfl rfl rfl ?_
      refine r_p hq 3 (pc' := 31) (L' := [(0, .ref 143), (1, .int X1), (2, .int X2)]) (st' := [.int (((121 : Int32)) + X1), .ref 147, .long V_22]) rfl ?_
      obtain ⟨g_31, h⟩ := z_ifo_some h
      refine r_la (pc' := 32) (L' := [(0, .ref 143), (1, .int X1), (2, .int X2)]) H hq (z_at.mk 1 rfl rfl) (show zAr 147 1 361 = true from rfl) (tx_iadd (rfl : (121 : Int32).toInt = 121) hx1) g_31 rfl rfl ?_
      intro V_31 hV_31
      refine r_p hq 1 (pc' := 33) (L' := [(0, .ref 143), (1, .int X1), (2, .int X2)]) (st' := [.int (lg_cmp V_22 V_31)]) rfl ?_
      rcases z_ite h with ⟨c_33, h⟩ | ⟨c_33, h⟩
      · refine r_t1 (pc' := 85) (L' := [(0, .ref 143), (1, .int X1), (2, .int X2)]) hq (z_at.mk 3 rfl rfl) rfl (tx_lcmp hV_22 hV_31) c_33 rfl rfl ?_
        exact g_m_lightest_L85_ok ih hx1 hx2 H h
      · refine r_f1 (pc' := 36) (L' := [(0, .ref 143), (1, .int X1), (2, .int X2)]) hq (z_at.mk 3 rfl rfl) rfl (tx_lcmp hV_22 hV_31) c_33 rfl rfl ?_
        refine r_p hq 1 (pc' := 37) (L' := [(0, .ref 143), (1, .int X1), (2, .int X2)]) (st' := [.ref 143]) rfl ?_
        refine r_gR (b := 147) (pc' := 40) (L' := [(0, .ref 143), (1, .int X1), (2, .int X2)]) H hq (z_at.mk 3 rfl rfl) rfl rfl rfl rfl ?_
        refine r_p hq 3 (pc' := 44) (L' := [(0, .ref 143), (1, .int X1), (2, .int X2)]) (st' := [.int (((121 : Int32)) + X2), .ref 147]) rfl ?_
        obtain ⟨g_44, h⟩ := z_ifo_some h
        refine r_la (pc' := 45) (L' := [(0, .ref 143), (1, .int X1), (2, .int X2)]) H hq (z_at.mk 1 rfl rfl) (show zAr 147 1 361 = true from rfl) (tx_iadd (rfl : (121 : Int32).toInt = 121) hx2) g_44 rfl rfl ?_
        intro V_44 hV_44
        refine r_p hq 1 (pc' := 46) (L' := [(0, .ref 143), (1, .int X1), (2, .int X2)]) (st' := [.ref 143, .long V_44]) rfl ?_
        refine r_gR (b := 147) (pc' := 49) (L' := [(0, .ref 143), (1, .int X1), (2, .int X2)]) H hq (z_at.mk 3 rfl rfl) rfl rfl rfl rfl ?_
        refine r_p hq 3 (pc' := 53) (L' := [(0, .ref 143), (1, .int X1), (2, .int X2)]) (st' := [.int (((121 : Int32)) + X1), .ref 147, .long V_44]) rfl ?_
        obtain ⟨g_53, h⟩ := z_ifo_some h
        refine r_la (pc' := 54) (L' := [(0, .ref 143), (1, .int X1), (2, .int X2)]) H hq (z_at.mk 1 rfl rfl) (show zAr 147 1 361 = true from rfl) (tx_iadd (rfl : (121 : Int32).toInt = 121) hx1) g_53 rfl rfl ?_
        intro V_53 hV_53
        refine r_p hq 1 (pc' := 55) (L' := [(0, .ref 143), (1, .int X1), (2, .int X2)]) (st' := [.int (lg_cmp V_44 V_53)]) rfl ?_
        rcases z_ite h with ⟨c_55, h⟩ | ⟨c_55, h⟩
        · refine r_t1 (pc' := 89) (L' := [(0, .ref 143), (1, .int X1), (2, .int X2)]) hq (z_at.mk 3 rfl rfl) rfl (tx_lcmp hV_44 hV_53) c_55 rfl rfl ?_
          exact g_m_lightest_L89_ok ih hx1 hx2 H h
        · refine r_f1 (pc' := 58) (L' := [(0, .ref 143), (1, .int X1), (2, .int X2)]) hq (z_at.mk 3 rfl rfl) rfl (tx_lcmp hV_44 hV_53) c_55 rfl rfl ?_
          refine r_p hq 1 (pc' := 59) (L' := [(0, .ref 143), (1, .int X1), (2, .int X2)]) (st' := [.ref 143]) rfl ?_
          refine r_gR (b := 144) (pc' := 62) (L' := [(0, .ref 143), (1, .int X1), (2, .int X2)]) H hq (z_at.mk 3 rfl rfl) rfl rfl rfl rfl ?_
          refine r_p hq 1 (pc' := 63) (L' := [(0, .ref 143), (1, .int X1), (2, .int X2)]) (st' := [.int X2, .ref 144]) rfl ?_
          obtain ⟨o_63, h_63, h⟩ := Option.bind_eq_some_iff.mp h
          refine r_csI (pc' := 66) (L' := [(0, .ref 143), (1, .int X1), (2, .int X2)]) (As := [.int X2]) (rest := [.ref 144]) (j := 173) hq (z_at.mk 3 rfl rfl) (Or.inl ⟨rfl, rfl⟩) rfl rfl (by omega) (g_m_region_173_ok hx2 H h_63) rfl rfl ?_
          intro R_63 m_63 p_63 e_63 hR_63 H_63
          subst e_63
          refine r_p hq 2 (pc' := 69) (L' := [(0, .ref 143), (1, .int X1), (2, .int X2)]) (st' := [.int (R_63 + ((8 : Int32))), .ref 144]) rfl ?_
          obtain ⟨g_69, h⟩ := z_ifo_some h
          refine r_ia (pc' := 70) (L' := [(0, .ref 143), (1, .int X1), (2, .int X2)]) H_63 hq (z_at.mk 1 rfl rfl) (show zAr 144 0 2740 = true from rfl) (tx_iadd hR_63 (rfl : (8 : Int32).toInt = 8)) g_69 rfl rfl ?_
          intro V_69 hV_69
          refine r_p hq 1 (pc' := 71) (L' := [(0, .ref 143), (1, .int X1), (2, .int X2)]) (st' := [.ref 143, .int V_69]) rfl ?_
          refine r_gR (b := 144) (pc' := 74) (L' := [(0, .ref 143), (1, .int X1), (2, .int X2)]) H_63 hq (z_at.mk 3 rfl rfl) rfl rfl rfl rfl ?_
          refine r_p hq 1 (pc' := 75) (L' := [(0, .ref 143), (1, .int X1), (2, .int X2)]) (st' := [.int X1, .ref 144, .int V_69]) rfl ?_
          obtain ⟨o_75, h_75, h⟩ := Option.bind_eq_some_iff.mp h
          refine r_csI (pc' := 78) (L' := [(0, .ref 143), (1, .int X1), (2, .int X2)]) (As := [.int X1]) (rest := [.ref 144, .int V_69]) (j := 173) hq (z_at.mk 3 rfl rfl) (Or.inl ⟨rfl, rfl⟩) rfl rfl (by omega) (g_m_region_173_ok hx1 H_63 h_75) rfl rfl ?_
          intro R_75 m_75 p_75 e_75 hR_75 H_75
          subst e_75
          refine r_p hq 2 (pc' := 81) (L' := [(0, .ref 143), (1, .int X1), (2, .int X2)]) (st' := [.int (R_75 + ((8 : Int32))), .ref 144, .int V_69]) rfl ?_
          obtain ⟨g_81, h⟩ := z_ifo_some h
          refine r_ia (pc' := 82) (L' := [(0, .ref 143), (1, .int X1), (2, .int X2)]) H_75 hq (z_at.mk 1 rfl rfl) (show zAr 144 0 2740 = true from rfl) (tx_iadd hR_75 (rfl : (8 : Int32).toInt = 8)) g_81 rfl rfl ?_
          intro V_81 hV_81
          rcases z_ite h with ⟨c_82, h⟩ | ⟨c_82, h⟩
          · refine r_t2 (pc' := 89) (L' := [(0, .ref 143), (1, .int X1), (2, .int X2)]) hq (z_at.mk 3 rfl rfl) rfl hV_69 hV_81 c_82 rfl rfl ?_
            exact g_m_lightest_L89_ok ih hx1 hx2 H_75 h
          · refine r_f2 (pc' := 85) (L' := [(0, .ref 143), (1, .int X1), (2, .int X2)]) hq (z_at.mk 3 rfl rfl) rfl hV_69 hV_81 c_82 rfl rfl ?_
            exact g_m_lightest_L85_ok ih hx1 hx2 H_75 h
def g_m_lightest (σ : zS) : Option (Int × zS) :=
  g_m_lightest_L4 zK 0 1 σ
set_option maxHeartbeats 4000000 in
theorem g_m_lightest_ok {xl : Nat} {xs : Nat → Int32} {σ : zS} {p : Nat} {m : zM} {o : Int × zS} (H : zRep xl xs p m σ) (h : g_m_lightest σ = some o) : zGo xl xs (fun p' => p = p') 2 187 0 (z_can 187 0 (lv_args 0 [.ref 143])) [] m (vI o.1) o.2 := by
  have hq : z_mth 187 = some z_r187 := rfl
  unfold g_m_lightest at h
  show zGo xl xs (fun p' => p = p') 2 187 0 [(0, .ref 143)] [] m (vI o.1) o.2
  refine r_p hq 4 (pc' := 4) (L' := [(0, .ref 143), (1, .int ((0 : Int32))), (2, .int ((1 : Int32)))]) (st' := []) rfl ?_
  exact g_m_lightest_L4_ok zK (rfl : (0 : Int32).toInt = 0) (rfl : (1 : Int32).toInt = 1) H h
def g_m_trims_L196 (g0 : zS → Option (Unit × zS)) (σ : zS) : Option (Unit × zS) :=
  g0 σ
set_option maxHeartbeats 4000000 in
theorem g_m_trims_L196_ok {xl : Nat} {xs : Nat → Int32} {g0 : zS → Option (Unit × zS)} (hg0 : ∀ {σ : zS} {p : Nat} {m : zM} {o : Unit × zS}, zRep xl xs p m σ → g0 σ = some o → zGo xl xs (fun p' => p = p') 6 188 0 [(0, .ref 143)] [] m vV o.2) {σ : zS} {p : Nat} {m : zM} {o : Unit × zS} (H : zRep xl xs p m σ) (h : g_m_trims_L196 g0 σ = some o) : zGo xl xs (fun p' => p = p') 6 188 196 [(0, .ref 143)] [] m vV o.2 := by
  have hq : z_mth 188 = some z_r188 := rfl
  unfold g_m_trims_L196 at h
  refine r_p hq 1 (pc' := 0) (L' := [(0, .ref 143)]) (st' := []) rfl ?_
  exact hg0  H h
def g_m_trims_L181 (g0 : zS → Option (Unit × zS)) (x1 : Int) (σ : zS) : Option (Unit × zS) :=
  (g_m_goes x1 σ).bind fun o_183 =>
  let v_192 := o_183.2 144 4
  let s_195 := zu o_183.2 144 4 (w32 (v_192 + 1))
  g_m_trims_L196 g0 s_195
set_option maxHeartbeats 4000000 in
theorem g_m_trims_L181_ok {xl : Nat} {xs : Nat → Int32} {g0 : zS → Option (Unit × zS)} (hg0 : ∀ {σ : zS} {p : Nat} {m : zM} {o : Unit × zS}, zRep xl xs p m σ → g0 σ = some o → zGo xl xs (fun p' => p = p') 6 188 0 [(0, .ref 143)] [] m vV o.2) {X1 : Int32} {x1 : Int} (hx1 : X1.toInt = x1) {σ : zS} {p : Nat} {m : zM} {o : Unit × zS} (H : zRep xl xs p m σ) (h : g_m_trims_L181 g0 x1 σ = some o) : zGo xl xs (fun p' => p = p') 6 188 181 [(0, .ref 143), (1, .int X1)] [] m vV o.2 := by
  have hq : z_mth 188 = some z_r188 := rfl
  unfold g_m_trims_L181 at h
  refine r_p hq 2 (pc' := 183) (L' := [(0, .ref 143), (1, .int X1)]) (st' := [.int X1, .ref 143]) rfl ?_
  obtain ⟨o_183, h_183, h⟩ := Option.bind_eq_some_iff.mp h
  refine r_cvV (pc' := 186) (L' := [(0, .ref 143), (1, .int X1)]) (Ps := [.int X1]) (rest := []) hq (z_at.mk 3 rfl rfl) (Or.inl ⟨rfl, rfl⟩) rfl rfl (by decide) (by decide) rfl (Nat.not_lt.mpr (Nat.le_of_ble_eq_true rfl)) rfl rfl (z_cat_le 0 rfl (by decide)) (z_lgl_le 2 rfl (by decide)) (by decide) (H.tg rfl) (by omega) (g_m_goes_ok hx1 H h_183) rfl rfl ?_
  intro m_183 p_183 e_183 H_183
  subst e_183
  refine r_p hq 1 (pc' := 187) (L' := [(0, .ref 143), (1, .int X1)]) (st' := [.ref 143]) rfl ?_
  refine r_gR (b := 144) (pc' := 190) (L' := [(0, .ref 143), (1, .int X1)]) H_183 hq (z_at.mk 3 rfl rfl) rfl rfl rfl rfl ?_
  refine r_p hq 2 (pc' := 192) (L' := [(0, .ref 143), (1, .int X1)]) (st' := [.int ((4 : Int32)), .ref 144, .int ((4 : Int32)), .ref 144]) rfl ?_
  refine r_ia (pc' := 193) (L' := [(0, .ref 143), (1, .int X1)]) H_183 hq (z_at.mk 1 rfl rfl) (show zAr 144 0 2740 = true from rfl) (rfl : (4 : Int32).toInt = 4) ⟨by decide, by decide⟩ rfl rfl ?_
  intro V_192 hV_192
  refine r_p hq 2 (pc' := 195) (L' := [(0, .ref 143), (1, .int X1)]) (st' := [.int (V_192 + ((1 : Int32))), .int ((4 : Int32)), .ref 144]) rfl ?_
  refine r_is (pc' := 196) (L' := [(0, .ref 143)]) H_183 hq (z_at.mk 1 rfl rfl) (show zAr 144 0 2740 = true from rfl) (rfl : (4 : Int32).toInt = 4) ⟨by decide, by decide⟩ (tx_iadd hV_192 (rfl : (1 : Int32).toInt = 1)) rfl rfl ?_
  intro m_195 H_195
  exact g_m_trims_L196_ok hg0  H_195 h
def g_m_trims_L74 (g0 : zS → Option (Unit × zS)) (x1 : Int) (x2 : Int) (σ : zS) : Option (Unit × zS) :=
  let v_80 := σ 144 16
  if v_80 ≠ 1 then
    g_m_trims_L181 g0 x1 σ
  else
    if 0 ≤ w32 (x2 + 4) ∧ w32 (x2 + 4) < 2740 then
    let v_92 := σ 144 (w32 (x2 + 4))
    if v_92 < 0 then
      g_m_trims_L181 g0 x1 σ
    else
      (g_m_area 144 (w32 (x2 + 4)) σ).bind fun o_103 =>
      (g_m_area 144 x2 o_103.2).bind fun o_111 =>
      if o_111.1 ≤ o_103.1 then
        g_m_trims_L181 g0 x1 o_111.2
      else
        (g_m_copies 144 144 (w32 (x2 + 4)) x2 o_111.2).bind fun o_129 =>
        (g_m_sets 144 (w32 (x2 + 4)) (-5) (-5) (-5) (-5) o_129.2).bind fun o_147 =>
        if 0 ≤ w32 (x2 + 9) ∧ w32 (x2 + 9) < 2740 then
        let v_159 := o_147.2 144 (w32 (x2 + 9))
        if 0 ≤ w32 (x2 + 9) ∧ w32 (x2 + 9) < 2740 then
        let s_162 := zu o_147.2 144 (w32 (x2 + 9)) (w32 (Int.tdiv v_159 2))
        (g_m_weighs x1 s_162).bind fun o_165 =>
        let v_174 := o_165.2 144 5
        let s_177 := zu o_165.2 144 5 (w32 (v_174 + 1))
        g_m_trims_L196 g0 s_177
        else none
        else none
    else none
set_option maxHeartbeats 4000000 in
theorem g_m_trims_L74_ok {xl : Nat} {xs : Nat → Int32} {g0 : zS → Option (Unit × zS)} (hg0 : ∀ {σ : zS} {p : Nat} {m : zM} {o : Unit × zS}, zRep xl xs p m σ → g0 σ = some o → zGo xl xs (fun p' => p = p') 6 188 0 [(0, .ref 143)] [] m vV o.2) {X1 : Int32} {x1 : Int} (hx1 : X1.toInt = x1) {X2 : Int32} {x2 : Int} (hx2 : X2.toInt = x2) {σ : zS} {p : Nat} {m : zM} {o : Unit × zS} (H : zRep xl xs p m σ) (h : g_m_trims_L74 g0 x1 x2 σ = some o) : zGo xl xs (fun p' => p = p') 6 188 74 [(0, .ref 143), (1, .int X1), (2, .int X2)] [] m vV o.2 := by
  have hq : z_mth 188 = some z_r188 := rfl
  unfold g_m_trims_L74 at h
  refine r_p hq 1 (pc' := 75) (L' := [(0, .ref 143), (1, .int X1), (2, .int X2)]) (st' := [.ref 143]) rfl ?_
  refine r_gR (b := 144) (pc' := 78) (L' := [(0, .ref 143), (1, .int X1), (2, .int X2)]) H hq (z_at.mk 3 rfl rfl) rfl rfl rfl rfl ?_
  refine r_p hq 1 (pc' := 80) (L' := [(0, .ref 143), (1, .int X1), (2, .int X2)]) (st' := [.int ((16 : Int32)), .ref 144]) rfl ?_
  refine r_ia (pc' := 81) (L' := [(0, .ref 143), (1, .int X1), (2, .int X2)]) H hq (z_at.mk 1 rfl rfl) (show zAr 144 0 2740 = true from rfl) (rfl : (16 : Int32).toInt = 16) ⟨by decide, by decide⟩ rfl rfl ?_
  intro V_80 hV_80
  refine r_p hq 1 (pc' := 82) (L' := [(0, .ref 143), (1, .int X1), (2, .int X2)]) (st' := [.int ((1 : Int32)), .int V_80]) rfl ?_
  rcases z_ite h with ⟨c_82, h⟩ | ⟨c_82, h⟩
  · refine r_t2 (pc' := 181) (L' := [(0, .ref 143), (1, .int X1)]) hq (z_at.mk 3 rfl rfl) rfl hV_80 (rfl : (1 : Int32).toInt = 1) c_82 rfl rfl ?_
    exact g_m_trims_L181_ok hg0 hx1 H h
  · refine r_f2 (pc' := 85) (L' := [(0, .ref 143), (1, .int X1), (2, .int X2)]) hq (z_at.mk 3 rfl rfl) rfl hV_80 (rfl : (1 : Int32).toInt = 1) c_82 rfl rfl ?_
    refine r_p hq 1 (pc' := 86) (L' := [(0, .ref 143), (1, .int X1), (2, .int X2)]) (st' := [.ref 143]) rfl ?_
    refine r_gR (b := 144) (pc' := 89) (L' := [(0, .ref 143), (1, .int X1), (2, .int X2)]) H hq (z_at.mk 3 rfl rfl) rfl rfl rfl rfl ?_
    refine r_p hq 3 (pc' := 92) (L' := [(0, .ref 143), (1, .int X1), (2, .int X2)]) (st' := [.int (X2 + ((4 : Int32))), .ref 144]) rfl ?_
    obtain ⟨g_92, h⟩ := z_ifo_some h
    refine r_ia (pc' := 93) (L' := [(0, .ref 143), (1, .int X1), (2, .int X2)]) H hq (z_at.mk 1 rfl rfl) (show zAr 144 0 2740 = true from rfl) (tx_iadd hx2 (rfl : (4 : Int32).toInt = 4)) g_92 rfl rfl ?_
    intro V_92 hV_92
    rcases z_ite h with ⟨c_93, h⟩ | ⟨c_93, h⟩
    · refine r_t1 (pc' := 181) (L' := [(0, .ref 143), (1, .int X1)]) hq (z_at.mk 3 rfl rfl) rfl hV_92 c_93 rfl rfl ?_
      exact g_m_trims_L181_ok hg0 hx1 H h
    · refine r_f1 (pc' := 96) (L' := [(0, .ref 143), (1, .int X1), (2, .int X2)]) hq (z_at.mk 3 rfl rfl) rfl hV_92 c_93 rfl rfl ?_
      refine r_p hq 1 (pc' := 97) (L' := [(0, .ref 143), (1, .int X1), (2, .int X2)]) (st' := [.ref 143]) rfl ?_
      refine r_gR (b := 144) (pc' := 100) (L' := [(0, .ref 143), (1, .int X1), (2, .int X2)]) H hq (z_at.mk 3 rfl rfl) rfl rfl rfl rfl ?_
      refine r_p hq 3 (pc' := 103) (L' := [(0, .ref 143), (1, .int X1), (2, .int X2)]) (st' := [.int (X2 + ((4 : Int32))), .ref 144]) rfl ?_
      obtain ⟨o_103, h_103, h⟩ := Option.bind_eq_some_iff.mp h
      refine r_csI (pc' := 106) (L' := [(0, .ref 143), (1, .int X1), (2, .int X2)]) (As := [.ref 144, .int (X2 + ((4 : Int32)))]) (rest := []) (j := 167) hq (z_at.mk 3 rfl rfl) (Or.inl ⟨rfl, rfl⟩) rfl rfl (by omega) (g_m_area_ok rfl (tx_iadd hx2 (rfl : (4 : Int32).toInt = 4)) H h_103) rfl rfl ?_
      intro R_103 m_103 p_103 e_103 hR_103 H_103
      subst e_103
      refine r_p hq 1 (pc' := 107) (L' := [(0, .ref 143), (1, .int X1), (2, .int X2)]) (st' := [.ref 143, .int R_103]) rfl ?_
      refine r_gR (b := 144) (pc' := 110) (L' := [(0, .ref 143), (1, .int X1), (2, .int X2)]) H_103 hq (z_at.mk 3 rfl rfl) rfl rfl rfl rfl ?_
      refine r_p hq 1 (pc' := 111) (L' := [(0, .ref 143), (1, .int X1), (2, .int X2)]) (st' := [.int X2, .ref 144, .int R_103]) rfl ?_
      obtain ⟨o_111, h_111, h⟩ := Option.bind_eq_some_iff.mp h
      refine r_csI (pc' := 114) (L' := [(0, .ref 143), (1, .int X1), (2, .int X2)]) (As := [.ref 144, .int X2]) (rest := [.int R_103]) (j := 167) hq (z_at.mk 3 rfl rfl) (Or.inl ⟨rfl, rfl⟩) rfl rfl (by omega) (g_m_area_ok rfl hx2 H_103 h_111) rfl rfl ?_
      intro R_111 m_111 p_111 e_111 hR_111 H_111
      subst e_111
      rcases z_ite h with ⟨c_114, h⟩ | ⟨c_114, h⟩
      · refine r_t2 (pc' := 181) (L' := [(0, .ref 143), (1, .int X1)]) hq (z_at.mk 3 rfl rfl) rfl hR_103 hR_111 c_114 rfl rfl ?_
        exact g_m_trims_L181_ok hg0 hx1 H_111 h
      · refine r_f2 (pc' := 117) (L' := [(0, .ref 143), (1, .int X1), (2, .int X2)]) hq (z_at.mk 3 rfl rfl) rfl hR_103 hR_111 c_114 rfl rfl ?_
        refine r_p hq 1 (pc' := 118) (L' := [(0, .ref 143), (1, .int X1), (2, .int X2)]) (st' := [.ref 143]) rfl ?_
        refine r_gR (b := 144) (pc' := 121) (L' := [(0, .ref 143), (1, .int X1), (2, .int X2)]) H_111 hq (z_at.mk 3 rfl rfl) rfl rfl rfl rfl ?_
        refine r_p hq 4 (pc' := 125) (L' := [(0, .ref 143), (1, .int X1), (2, .int X2)]) (st' := [.ref 143, .int (X2 + ((4 : Int32))), .ref 144]) rfl ?_
        refine r_gR (b := 144) (pc' := 128) (L' := [(0, .ref 143), (1, .int X1), (2, .int X2)]) H_111 hq (z_at.mk 3 rfl rfl) rfl rfl rfl rfl ?_
        refine r_p hq 1 (pc' := 129) (L' := [(0, .ref 143), (1, .int X1), (2, .int X2)]) (st' := [.int X2, .ref 144, .int (X2 + ((4 : Int32))), .ref 144]) rfl ?_
        obtain ⟨o_129, h_129, h⟩ := Option.bind_eq_some_iff.mp h
        refine r_csV (pc' := 132) (L' := [(0, .ref 143), (1, .int X1), (2, .int X2)]) (As := [.ref 144, .int (X2 + ((4 : Int32))), .ref 144, .int X2]) (rest := []) (j := 166) hq (z_at.mk 3 rfl rfl) (Or.inl ⟨rfl, rfl⟩) rfl rfl (by omega) (g_m_copies_ok rfl rfl (tx_iadd hx2 (rfl : (4 : Int32).toInt = 4)) hx2 H_111 h_129) rfl rfl ?_
        intro m_129 p_129 e_129 H_129
        subst e_129
        refine r_p hq 1 (pc' := 133) (L' := [(0, .ref 143), (1, .int X1), (2, .int X2)]) (st' := [.ref 143]) rfl ?_
        refine r_gR (b := 144) (pc' := 136) (L' := [(0, .ref 143), (1, .int X1), (2, .int X2)]) H_129 hq (z_at.mk 3 rfl rfl) rfl rfl rfl rfl ?_
        refine r_p hq 7 (pc' := 147) (L' := [(0, .ref 143), (1, .int X1), (2, .int X2)]) (st' := [.int ((-5 : Int32)), .int ((-5 : Int32)), .int ((-5 : Int32)), .int ((-5 : Int32)), .int (X2 + ((4 : Int32))), .ref 144]) rfl ?_
        obtain ⟨o_147, h_147, h⟩ := Option.bind_eq_some_iff.mp h
        refine r_csV (pc' := 150) (L' := [(0, .ref 143), (1, .int X1), (2, .int X2)]) (As := [.ref 144, .int (X2 + ((4 : Int32))), .int ((-5 : Int32)), .int ((-5 : Int32)), .int ((-5 : Int32)), .int ((-5 : Int32))]) (rest := []) (j := 165) hq (z_at.mk 3 rfl rfl) (Or.inl ⟨rfl, rfl⟩) rfl rfl (by omega) (g_m_sets_ok rfl (tx_iadd hx2 (rfl : (4 : Int32).toInt = 4)) (rfl : (-5 : Int32).toInt = -5) (rfl : (-5 : Int32).toInt = -5) (rfl : (-5 : Int32).toInt = -5) (rfl : (-5 : Int32).toInt = -5) H_129 h_147) rfl rfl ?_
        intro m_147 p_147 e_147 H_147
        subst e_147
        refine r_p hq 1 (pc' := 151) (L' := [(0, .ref 143), (1, .int X1), (2, .int X2)]) (st' := [.ref 143]) rfl ?_
        refine r_gR (b := 144) (pc' := 154) (L' := [(0, .ref 143), (1, .int X1), (2, .int X2)]) H_147 hq (z_at.mk 3 rfl rfl) rfl rfl rfl rfl ?_
        refine r_p hq 4 (pc' := 159) (L' := [(0, .ref 143), (1, .int X1), (2, .int X2)]) (st' := [.int (X2 + ((9 : Int32))), .ref 144, .int (X2 + ((9 : Int32))), .ref 144]) rfl ?_
        obtain ⟨g_159, h⟩ := z_ifo_some h
        refine r_ia (pc' := 160) (L' := [(0, .ref 143), (1, .int X1), (2, .int X2)]) H_147 hq (z_at.mk 1 rfl rfl) (show zAr 144 0 2740 = true from rfl) (tx_iadd hx2 (rfl : (9 : Int32).toInt = 9)) g_159 rfl rfl ?_
        intro V_159 hV_159
        refine r_p hq 1 (pc' := 161) (L' := [(0, .ref 143), (1, .int X1), (2, .int X2)]) (st' := [.int ((2 : Int32)), .int V_159, .int (X2 + ((9 : Int32))), .ref 144]) rfl ?_
        refine r_idiv (pc' := 162) (L' := [(0, .ref 143), (1, .int X1), (2, .int X2)]) hq (z_at.mk 1 rfl rfl) hV_159 (rfl : (2 : Int32).toInt = 2) (by decide) rfl rfl ?_
        intro V_161 hV_161
        obtain ⟨g_162, h⟩ := z_ifo_some h
        refine r_is (pc' := 163) (L' := [(0, .ref 143), (1, .int X1), (2, .int X2)]) H_147 hq (z_at.mk 1 rfl rfl) (show zAr 144 0 2740 = true from rfl) (tx_iadd hx2 (rfl : (9 : Int32).toInt = 9)) g_162 hV_161 rfl rfl ?_
        intro m_162 H_162
        refine r_p hq 2 (pc' := 165) (L' := [(0, .ref 143), (1, .int X1), (2, .int X2)]) (st' := [.int X1, .ref 143]) rfl ?_
        obtain ⟨o_165, h_165, h⟩ := Option.bind_eq_some_iff.mp h
        refine r_cvV (pc' := 168) (L' := [(0, .ref 143), (1, .int X1), (2, .int X2)]) (Ps := [.int X1]) (rest := []) hq (z_at.mk 3 rfl rfl) (Or.inl ⟨rfl, rfl⟩) rfl rfl (by decide) (by decide) rfl (Nat.not_lt.mpr (Nat.le_of_ble_eq_true rfl)) rfl rfl (z_cat_le 0 rfl (by decide)) (z_lgl_le 2 rfl (by decide)) (by decide) (H_162.tg rfl) (by omega) (g_m_weighs_ok hx1 H_162 h_165) rfl rfl ?_
        intro m_165 p_165 e_165 H_165
        subst e_165
        refine r_p hq 1 (pc' := 169) (L' := [(0, .ref 143), (1, .int X1), (2, .int X2)]) (st' := [.ref 143]) rfl ?_
        refine r_gR (b := 144) (pc' := 172) (L' := [(0, .ref 143), (1, .int X1), (2, .int X2)]) H_165 hq (z_at.mk 3 rfl rfl) rfl rfl rfl rfl ?_
        refine r_p hq 2 (pc' := 174) (L' := [(0, .ref 143), (1, .int X1), (2, .int X2)]) (st' := [.int ((5 : Int32)), .ref 144, .int ((5 : Int32)), .ref 144]) rfl ?_
        refine r_ia (pc' := 175) (L' := [(0, .ref 143), (1, .int X1), (2, .int X2)]) H_165 hq (z_at.mk 1 rfl rfl) (show zAr 144 0 2740 = true from rfl) (rfl : (5 : Int32).toInt = 5) ⟨by decide, by decide⟩ rfl rfl ?_
        intro V_174 hV_174
        refine r_p hq 2 (pc' := 177) (L' := [(0, .ref 143), (1, .int X1), (2, .int X2)]) (st' := [.int (V_174 + ((1 : Int32))), .int ((5 : Int32)), .ref 144]) rfl ?_
        refine r_is (pc' := 178) (L' := [(0, .ref 143), (1, .int X1), (2, .int X2)]) H_165 hq (z_at.mk 1 rfl rfl) (show zAr 144 0 2740 = true from rfl) (rfl : (5 : Int32).toInt = 5) ⟨by decide, by decide⟩ (tx_iadd hV_174 (rfl : (1 : Int32).toInt = 1)) rfl rfl ?_
        intro m_177 H_177
        refine r_p hq 1 (pc' := 196) (L' := [(0, .ref 143)]) (st' := []) rfl ?_
        exact g_m_trims_L196_ok hg0  H_177 h
def g_m_trims_L30 (g0 : zS → Option (Unit × zS)) (σ : zS) : Option (Unit × zS) :=
  (g_m_lightest σ).bind fun o_31 =>
  (g_m_region_173 o_31.1 o_31.2).bind fun o_36 =>
  if 0 ≤ w32 (121 + o_31.1) ∧ w32 (121 + o_31.1) < 361 then
  let v_48 := o_36.2 147 (w32 (121 + o_31.1))
  let v_54 := o_36.2 147 0
  if lCmp v_48 v_54 ≤ 0 then
    g_m_trims_L74 g0 o_31.1 o_36.1 o_36.2
  else
    if 0 ≤ w32 (121 + o_31.1) ∧ w32 (121 + o_31.1) < 361 then
    let v_72 := o_36.2 147 (w32 (121 + o_31.1))
    let s_73 := zu o_36.2 147 0 v_72
    g_m_trims_L74 g0 o_31.1 o_36.1 s_73
    else none
  else none
set_option maxHeartbeats 4000000 in
theorem g_m_trims_L30_ok {xl : Nat} {xs : Nat → Int32} {g0 : zS → Option (Unit × zS)} (hg0 : ∀ {σ : zS} {p : Nat} {m : zM} {o : Unit × zS}, zRep xl xs p m σ → g0 σ = some o → zGo xl xs (fun p' => p = p') 6 188 0 [(0, .ref 143)] [] m vV o.2) {σ : zS} {p : Nat} {m : zM} {o : Unit × zS} (H : zRep xl xs p m σ) (h : g_m_trims_L30 g0 σ = some o) : zGo xl xs (fun p' => p = p') 6 188 30 [(0, .ref 143)] [] m vV o.2 := by
  have hq : z_mth 188 = some z_r188 := rfl
  unfold g_m_trims_L30 at h
  refine r_p hq 1 (pc' := 31) (L' := [(0, .ref 143)]) (st' := [.ref 143]) rfl ?_
  obtain ⟨o_31, h_31, h⟩ := Option.bind_eq_some_iff.mp h
  refine r_cvI (pc' := 34) (L' := [(0, .ref 143)]) (Ps := []) (rest := []) hq (z_at.mk 3 rfl rfl) (Or.inl ⟨rfl, rfl⟩) rfl rfl (by decide) (by decide) rfl (Nat.not_lt.mpr (Nat.le_of_ble_eq_true rfl)) rfl rfl (z_cat_le 0 rfl (by decide)) (z_lgl_le 1 rfl (by decide)) (by decide) (H.tg rfl) (by omega) (g_m_lightest_ok H h_31) rfl rfl ?_
  intro R_31 m_31 p_31 e_31 hR_31 H_31
  subst e_31
  refine r_p hq 2 (pc' := 36) (L' := [(1, .int R_31), (0, .ref 143)]) (st' := [.int R_31]) rfl ?_
  obtain ⟨o_36, h_36, h⟩ := Option.bind_eq_some_iff.mp h
  refine r_csI (pc' := 39) (L' := [(1, .int R_31), (0, .ref 143)]) (As := [.int R_31]) (rest := []) (j := 173) hq (z_at.mk 3 rfl rfl) (Or.inl ⟨rfl, rfl⟩) rfl rfl (by omega) (g_m_region_173_ok hR_31 H_31 h_36) rfl rfl ?_
  intro R_36 m_36 p_36 e_36 hR_36 H_36
  subst e_36
  refine r_p hq 2 (pc' := 41) (L' := [(2, .int R_36), (1, .int R_31), (0, .ref 143)]) (st' := [.ref 143]) rfl ?_
  refine r_gR (b := 147) (pc' := 44) (L' := [(2, .int R_36), (1, .int R_31), (0, .ref 143)]) H_36 hq (z_at.mk 3 rfl rfl) rfl rfl rfl rfl ?_
  refine r_p hq 3 (pc' := 48) (L' := [(2, .int R_36), (1, .int R_31), (0, .ref 143)]) (st' := [.int (((121 : Int32)) + R_31), .ref 147]) rfl ?_
  obtain ⟨g_48, h⟩ := z_ifo_some h
  refine r_la (pc' := 49) (L' := [(2, .int R_36), (1, .int R_31), (0, .ref 143)]) H_36 hq (z_at.mk 1 rfl rfl) (show zAr 147 1 361 = true from rfl) (tx_iadd (rfl : (121 : Int32).toInt = 121) hR_31) g_48 rfl rfl ?_
  intro V_48 hV_48
  refine r_p hq 1 (pc' := 50) (L' := [(2, .int R_36), (1, .int R_31), (0, .ref 143)]) (st' := [.ref 143, .long V_48]) rfl ?_
  refine r_gR (b := 147) (pc' := 53) (L' := [(2, .int R_36), (1, .int R_31), (0, .ref 143)]) H_36 hq (z_at.mk 3 rfl rfl) rfl rfl rfl rfl ?_
  refine r_p hq 1 (pc' := 54) (L' := [(2, .int R_36), (1, .int R_31), (0, .ref 143)]) (st' := [.int ((0 : Int32)), .ref 147, .long V_48]) rfl ?_
  refine r_la (pc' := 55) (L' := [(2, .int R_36), (1, .int R_31), (0, .ref 143)]) H_36 hq (z_at.mk 1 rfl rfl) (show zAr 147 1 361 = true from rfl) (rfl : (0 : Int32).toInt = 0) ⟨by decide, by decide⟩ rfl rfl ?_
  intro V_54 hV_54
  refine r_p hq 1 (pc' := 56) (L' := [(2, .int R_36), (1, .int R_31), (0, .ref 143)]) (st' := [.int (lg_cmp V_48 V_54)]) rfl ?_
  rcases z_ite h with ⟨c_56, h⟩ | ⟨c_56, h⟩
  · refine r_t1 (pc' := 74) (L' := [(0, .ref 143), (1, .int R_31), (2, .int R_36)]) hq (z_at.mk 3 rfl rfl) rfl (tx_lcmp hV_48 hV_54) c_56 rfl rfl ?_
    exact g_m_trims_L74_ok hg0 hR_31 hR_36 H_36 h
  · refine r_f1 (pc' := 59) (L' := [(2, .int R_36), (1, .int R_31), (0, .ref 143)]) hq (z_at.mk 3 rfl rfl) rfl (tx_lcmp hV_48 hV_54) c_56 rfl rfl ?_
    refine r_p hq 1 (pc' := 60) (L' := [(2, .int R_36), (1, .int R_31), (0, .ref 143)]) (st' := [.ref 143]) rfl ?_
    refine r_gR (b := 147) (pc' := 63) (L' := [(2, .int R_36), (1, .int R_31), (0, .ref 143)]) H_36 hq (z_at.mk 3 rfl rfl) rfl rfl rfl rfl ?_
    refine r_p hq 2 (pc' := 65) (L' := [(2, .int R_36), (1, .int R_31), (0, .ref 143)]) (st' := [.ref 143, .int ((0 : Int32)), .ref 147]) rfl ?_
    refine r_gR (b := 147) (pc' := 68) (L' := [(2, .int R_36), (1, .int R_31), (0, .ref 143)]) H_36 hq (z_at.mk 3 rfl rfl) rfl rfl rfl rfl ?_
    refine r_p hq 3 (pc' := 72) (L' := [(2, .int R_36), (1, .int R_31), (0, .ref 143)]) (st' := [.int (((121 : Int32)) + R_31), .ref 147, .int ((0 : Int32)), .ref 147]) rfl ?_
    obtain ⟨g_72, h⟩ := z_ifo_some h
    refine r_la (pc' := 73) (L' := [(2, .int R_36), (1, .int R_31), (0, .ref 143)]) H_36 hq (z_at.mk 1 rfl rfl) (show zAr 147 1 361 = true from rfl) (tx_iadd (rfl : (121 : Int32).toInt = 121) hR_31) g_72 rfl rfl ?_
    intro V_72 hV_72
    refine r_ls (pc' := 74) (L' := [(0, .ref 143), (1, .int R_31), (2, .int R_36)]) H_36 hq (z_at.mk 1 rfl rfl) (show zAr 147 1 361 = true from rfl) (rfl : (0 : Int32).toInt = 0) ⟨by decide, by decide⟩ hV_72 rfl rfl ?_
    intro m_73 H_73
    exact g_m_trims_L74_ok hg0 hR_31 hR_36 H_73 h
def g_m_trims_L0 : Nat → zS → Option (Unit × zS)
  | 0, _ => none
  | n + 1, σ =>
    let v_5 := σ 144 0
    let v_12 := σ 144 13
    if v_12 < v_5 then
      g_m_trims_L30 ((g_m_trims_L0 n)) σ
    else
      (g_m_sizes σ).bind fun o_17 =>
      let v_26 := o_17.2 144 12
      if o_17.1 ≤ v_26 then
        some ((), o_17.2)
      else
        g_m_trims_L30 ((g_m_trims_L0 n)) o_17.2
set_option maxHeartbeats 4000000 in
theorem g_m_trims_L0_ok {xl : Nat} {xs : Nat → Int32} : ∀ (n : Nat) {σ : zS} {p : Nat} {m : zM} {o : Unit × zS}, zRep xl xs p m σ → g_m_trims_L0 n σ = some o → zGo xl xs (fun p' => p = p') 6 188 0 [(0, .ref 143)] [] m vV o.2
  | 0, _, _, _, _, _, h => by cases h
  | n + 1, σ, p, m, o, H, h => by
    have hq : z_mth 188 = some z_r188 := rfl
    have ih := fun {σ : zS} {p : Nat} {m : zM} {o : Unit × zS} => g_m_trims_L0_ok (xl := xl) (xs := xs) n (σ := σ) (p := p) (m := m) (o := o)
    unfold g_m_trims_L0 at h
    refine r_p hq 1 (pc' := 1) (L' := [(0, .ref 143)]) (st' := [.ref 143]) rfl ?_
    refine r_gR (b := 144) (pc' := 4) (L' := [(0, .ref 143)]) H hq (z_at.mk 3 rfl rfl) rfl rfl rfl rfl ?_
    refine r_p hq 1 (pc' := 5) (L' := [(0, .ref 143)]) (st' := [.int ((0 : Int32)), .ref 144]) rfl ?_
    refine r_ia (pc' := 6) (L' := [(0, .ref 143)]) H hq (z_at.mk 1 rfl rfl) (show zAr 144 0 2740 = true from rfl) (rfl : (0 : Int32).toInt = 0) ⟨by decide, by decide⟩ rfl rfl ?_
    intro V_5 hV_5
    refine r_p hq 1 (pc' := 7) (L' := [(0, .ref 143)]) (st' := [.ref 143, .int V_5]) rfl ?_
    refine r_gR (b := 144) (pc' := 10) (L' := [(0, .ref 143)]) H hq (z_at.mk 3 rfl rfl) rfl rfl rfl rfl ?_
    refine r_p hq 1 (pc' := 12) (L' := [(0, .ref 143)]) (st' := [.int ((13 : Int32)), .ref 144, .int V_5]) rfl ?_
    refine r_ia (pc' := 13) (L' := [(0, .ref 143)]) H hq (z_at.mk 1 rfl rfl) (show zAr 144 0 2740 = true from rfl) (rfl : (13 : Int32).toInt = 13) ⟨by decide, by decide⟩ rfl rfl ?_
    intro V_12 hV_12
    rcases z_ite h with ⟨c_13, h⟩ | ⟨c_13, h⟩
    · refine r_t2 (pc' := 30) (L' := [(0, .ref 143)]) hq (z_at.mk 3 rfl rfl) rfl hV_5 hV_12 c_13 rfl rfl ?_
      exact g_m_trims_L30_ok ih  H h
    · refine r_f2 (pc' := 16) (L' := [(0, .ref 143)]) hq (z_at.mk 3 rfl rfl) rfl hV_5 hV_12 c_13 rfl rfl ?_
      refine r_p hq 1 (pc' := 17) (L' := [(0, .ref 143)]) (st' := [.ref 143]) rfl ?_
      obtain ⟨o_17, h_17, h⟩ := Option.bind_eq_some_iff.mp h
      refine r_cvI (pc' := 20) (L' := [(0, .ref 143)]) (Ps := []) (rest := []) hq (z_at.mk 3 rfl rfl) (Or.inl ⟨rfl, rfl⟩) rfl rfl (by decide) (by decide) rfl (Nat.not_lt.mpr (Nat.le_of_ble_eq_true rfl)) rfl rfl (z_cat_le 0 rfl (by decide)) (z_lgl_le 1 rfl (by decide)) (by decide) (H.tg rfl) (by omega) (g_m_sizes_ok H h_17) rfl rfl ?_
      intro R_17 m_17 p_17 e_17 hR_17 H_17
      subst e_17
      refine r_p hq 1 (pc' := 21) (L' := [(0, .ref 143)]) (st' := [.ref 143, .int R_17]) rfl ?_
      refine r_gR (b := 144) (pc' := 24) (L' := [(0, .ref 143)]) H_17 hq (z_at.mk 3 rfl rfl) rfl rfl rfl rfl ?_
      refine r_p hq 1 (pc' := 26) (L' := [(0, .ref 143)]) (st' := [.int ((12 : Int32)), .ref 144, .int R_17]) rfl ?_
      refine r_ia (pc' := 27) (L' := [(0, .ref 143)]) H_17 hq (z_at.mk 1 rfl rfl) (show zAr 144 0 2740 = true from rfl) (rfl : (12 : Int32).toInt = 12) ⟨by decide, by decide⟩ rfl rfl ?_
      intro V_26 hV_26
      rcases z_ite h with ⟨c_27, h⟩ | ⟨c_27, h⟩
      · refine r_t2 (pc' := 199) (L' := [(0, .ref 143)]) hq (z_at.mk 3 rfl rfl) rfl hR_17 hV_26 c_27 rfl rfl ?_
        cases h
        exact r_rv hq (z_at.mk 1 rfl rfl) rfl rfl H_17
      · refine r_f2 (pc' := 30) (L' := [(0, .ref 143)]) hq (z_at.mk 3 rfl rfl) rfl hR_17 hV_26 c_27 rfl rfl ?_
        exact g_m_trims_L30_ok ih  H_17 h
def g_m_trims (σ : zS) : Option (Unit × zS) :=
  g_m_trims_L0 zK σ
set_option maxHeartbeats 4000000 in
theorem g_m_trims_ok {xl : Nat} {xs : Nat → Int32} {σ : zS} {p : Nat} {m : zM} {o : Unit × zS} (H : zRep xl xs p m σ) (h : g_m_trims σ = some o) : zGo xl xs (fun p' => p = p') 6 188 0 (z_can 188 0 (lv_args 0 [.ref 143])) [] m vV o.2 := by
  have hq : z_mth 188 = some z_r188 := rfl
  unfold g_m_trims at h
  show zGo xl xs (fun p' => p = p') 6 188 0 [(0, .ref 143)] [] m vV o.2
  exact g_m_trims_L0_ok zK  H h
