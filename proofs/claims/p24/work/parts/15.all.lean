section
/-! 21.g10 -/
/-! THE METHODS over the typed memory, 10 (by wip/zg.py) -/
def g_m_size (x1 : Int) (σ : zS) : Option (Int × zS) :=
  (g_m_region_173 x1 σ).bind fun o_7 =>
  (g_m_rowsIn 144 o_7.1 o_7.2).bind fun o_10 =>
  some (w32 (1 + o_10.1), o_10.2)
set_option maxHeartbeats 4000000 in
theorem g_m_size_ok {xl : Nat} {xs : Nat → Int32} {X1 : Int32} {x1 : Int} (hx1 : X1.toInt = x1) {σ : zS} {p : Nat} {m : zM} {o : Int × zS} (H : zRep xl xs p m σ) (h : g_m_size x1 σ = some o) : zGo xl xs (fun p' => p = p') 4 176 0 (z_can 176 0 (lv_args 0 [.ref 143, .int X1])) [] m (vI o.1) o.2 := by
  have hq : z_mth 176 = some z_r176 := rfl
  unfold g_m_size at h
  show zGo xl xs (fun p' => p = p') 4 176 0 [(0, .ref 143), (1, .int X1)] [] m (vI o.1) o.2
  refine r_p hq 3 (pc' := 3) (L' := [(0, .ref 143), (1, .int X1)]) (st' := [.ref 143, .ref 143, .int ((1 : Int32))]) rfl ?_
  refine r_gR (b := 144) (pc' := 6) (L' := [(0, .ref 143), (1, .int X1)]) H hq (z_at.mk 3 rfl rfl) rfl rfl rfl rfl ?_
  refine r_p hq 1 (pc' := 7) (L' := [(0, .ref 143), (1, .int X1)]) (st' := [.int X1, .ref 144, .ref 143, .int ((1 : Int32))]) rfl ?_
  obtain ⟨o_7, h_7, h⟩ := Option.bind_eq_some_iff.mp h
  refine r_csI (pc' := 10) (L' := [(0, .ref 143), (1, .int X1)]) (As := [.int X1]) (rest := [.ref 144, .ref 143, .int ((1 : Int32))]) (j := 173) hq (z_at.mk 3 rfl rfl) (Or.inl ⟨rfl, rfl⟩) rfl rfl (by omega) (g_m_region_173_ok hx1 H h_7) rfl rfl ?_
  intro R_7 m_7 p_7 e_7 hR_7 H_7
  subst e_7
  obtain ⟨o_10, h_10, h⟩ := Option.bind_eq_some_iff.mp h
  refine r_cvI (pc' := 13) (L' := [(0, .ref 143), (1, .int X1)]) (Ps := [.ref 144, .int R_7]) (rest := [.int ((1 : Int32))]) hq (z_at.mk 3 rfl rfl) (Or.inl ⟨rfl, rfl⟩) rfl rfl (by decide) (by decide) rfl (Nat.not_lt.mpr (Nat.le_of_ble_eq_true rfl)) rfl rfl (z_cat_le 1 rfl (by decide)) (z_lgl_le 3 rfl (by decide)) (by decide) (H_7.tg rfl) (by omega) (g_m_rowsIn_ok rfl hR_7 H_7 h_10) rfl rfl ?_
  intro R_10 m_10 p_10 e_10 hR_10 H_10
  subst e_10
  refine r_p hq 1 (pc' := 14) (L' := [(0, .ref 143), (1, .int X1)]) (st' := [.int (((1 : Int32)) + R_10)]) rfl ?_
  cases h
  exact r_ri hq (z_at.mk 1 rfl rfl) rfl rfl (tx_iadd (rfl : (1 : Int32).toInt = 1) hR_10) rfl H_10
def g_m_cost (a1 : Nat) (x2 : Int) (σ : zS) : Option (Int × zS) :=
  let v_6 := σ 144 11
  (g_m_rowsIn a1 x2 σ).bind fun o_10 =>
  some (w32 (v_6 + o_10.1), o_10.2)
set_option maxHeartbeats 4000000 in
theorem g_m_cost_ok {xl : Nat} {xs : Nat → Int32} {a1 : Nat} (ha1 : zIn [144, 150, 151, 152, 153, 156, 157, 161, 164, 165] a1 = true) {X2 : Int32} {x2 : Int} (hx2 : X2.toInt = x2) {σ : zS} {p : Nat} {m : zM} {o : Int × zS} (H : zRep xl xs p m σ) (h : g_m_cost a1 x2 σ = some o) : zGo xl xs (fun p' => p = p') 4 177 0 (z_can 177 0 (lv_args 0 [.ref 143, .ref a1, .int X2])) [] m (vI o.1) o.2 := by
  have hq : z_mth 177 = some z_r177 := rfl
  unfold g_m_cost at h
  show zGo xl xs (fun p' => p = p') 4 177 0 [(0, .ref 143), (1, .ref a1), (2, .int X2)] [] m (vI o.1) o.2
  refine r_p hq 1 (pc' := 1) (L' := [(0, .ref 143), (1, .ref a1), (2, .int X2)]) (st' := [.ref 143]) rfl ?_
  refine r_gR (b := 144) (pc' := 4) (L' := [(0, .ref 143), (1, .ref a1), (2, .int X2)]) H hq (z_at.mk 3 rfl rfl) rfl rfl rfl rfl ?_
  refine r_p hq 1 (pc' := 6) (L' := [(0, .ref 143), (1, .ref a1), (2, .int X2)]) (st' := [.int ((11 : Int32)), .ref 144]) rfl ?_
  refine r_ia (pc' := 7) (L' := [(0, .ref 143), (1, .ref a1), (2, .int X2)]) H hq (z_at.mk 1 rfl rfl) (show zAr 144 0 2740 = true from rfl) (rfl : (11 : Int32).toInt = 11) ⟨by decide, by decide⟩ rfl rfl ?_
  intro V_6 hV_6
  refine r_p hq 3 (pc' := 10) (L' := [(0, .ref 143), (1, .ref a1), (2, .int X2)]) (st' := [.int X2, .ref a1, .ref 143, .int V_6]) rfl ?_
  obtain ⟨o_10, h_10, h⟩ := Option.bind_eq_some_iff.mp h
  refine r_cvI (pc' := 13) (L' := [(0, .ref 143), (1, .ref a1), (2, .int X2)]) (Ps := [.ref a1, .int X2]) (rest := [.int V_6]) hq (z_at.mk 3 rfl rfl) (Or.inl ⟨rfl, rfl⟩) rfl rfl (by decide) (by decide) rfl (Nat.not_lt.mpr (Nat.le_of_ble_eq_true rfl)) rfl rfl (z_cat_le 1 rfl (by decide)) (z_lgl_le 3 rfl (by decide)) (by decide) (H.tg rfl) (by omega) (g_m_rowsIn_ok (zIn_all (l := [144, 150, 151, 152, 153, 156, 157, 161, 164, 165]) (p := fun a => zIn [144, 150, 151, 152, 153, 156, 157, 161, 164, 165] a) rfl ha1) hx2 H h_10) rfl rfl ?_
  intro R_10 m_10 p_10 e_10 hR_10 H_10
  subst e_10
  refine r_p hq 1 (pc' := 14) (L' := [(0, .ref 143), (1, .ref a1), (2, .int X2)]) (st' := [.int (V_6 + R_10)]) rfl ?_
  cases h
  exact r_ri hq (z_at.mk 1 rfl rfl) rfl rfl (tx_iadd hV_6 hR_10) rfl H_10
def g_m_weighs (x1 : Int) (σ : zS) : Option (Unit × zS) :=
  let v_13 := σ 147 0
  (g_m_region_173 x1 σ).bind fun o_23 =>
  (g_m_cost 144 o_23.1 o_23.2).bind fun o_26 =>
  (g_m_region_173 x1 o_26.2).bind fun o_37 =>
  if 0 ≤ w32 (o_37.1 + 9) ∧ w32 (o_37.1 + 9) < 2740 then
  let v_43 := o_37.2 144 (w32 (o_37.1 + 9))
  (g_m_size x1 o_37.2).bind fun o_49 =>
  if o_49.1 = 0 then none else
  if 0 ≤ w32 (121 + x1) ∧ w32 (121 + x1) < 361 then
  let s_55 := zu o_49.2 147 (w32 (121 + x1)) (w64 (v_13 + (w64 (Int.tdiv (w64 ((w64 (1000 * o_26.1)) * (w32 (1 + v_43)))) o_49.1))))
  some ((), s_55)
  else none
  else none
set_option maxHeartbeats 4000000 in
theorem g_m_weighs_ok {xl : Nat} {xs : Nat → Int32} {X1 : Int32} {x1 : Int} (hx1 : X1.toInt = x1) {σ : zS} {p : Nat} {m : zM} {o : Unit × zS} (H : zRep xl xs p m σ) (h : g_m_weighs x1 σ = some o) : zGo xl xs (fun p' => p = p') 5 178 0 (z_can 178 0 (lv_args 0 [.ref 143, .int X1])) [] m vV o.2 := by
  have hq : z_mth 178 = some z_r178 := rfl
  unfold g_m_weighs at h
  show zGo xl xs (fun p' => p = p') 5 178 0 [(0, .ref 143), (1, .int X1)] [] m vV o.2
  refine r_p hq 1 (pc' := 1) (L' := [(0, .ref 143), (1, .int X1)]) (st' := [.ref 143]) rfl ?_
  refine r_gR (b := 147) (pc' := 4) (L' := [(0, .ref 143), (1, .int X1)]) H hq (z_at.mk 3 rfl rfl) rfl rfl rfl rfl ?_
  refine r_p hq 4 (pc' := 9) (L' := [(0, .ref 143), (1, .int X1)]) (st' := [.ref 143, .int (((121 : Int32)) + X1), .ref 147]) rfl ?_
  refine r_gR (b := 147) (pc' := 12) (L' := [(0, .ref 143), (1, .int X1)]) H hq (z_at.mk 3 rfl rfl) rfl rfl rfl rfl ?_
  refine r_p hq 1 (pc' := 13) (L' := [(0, .ref 143), (1, .int X1)]) (st' := [.int ((0 : Int32)), .ref 147, .int (((121 : Int32)) + X1), .ref 147]) rfl ?_
  refine r_la (pc' := 14) (L' := [(0, .ref 143), (1, .int X1)]) H hq (z_at.mk 1 rfl rfl) (show zAr 147 1 361 = true from rfl) (rfl : (0 : Int32).toInt = 0) ⟨by decide, by decide⟩ rfl rfl ?_
  intro V_13 hV_13
  refine r_p hq 3 (pc' := 19) (L' := [(0, .ref 143), (1, .int X1)]) (st' := [.ref 143, .ref 143, .long ((1000 : Int64)), .long V_13, .int (((121 : Int32)) + X1), .ref 147]) rfl ?_
  refine r_gR (b := 144) (pc' := 22) (L' := [(0, .ref 143), (1, .int X1)]) H hq (z_at.mk 3 rfl rfl) rfl rfl rfl rfl ?_
  refine r_p hq 1 (pc' := 23) (L' := [(0, .ref 143), (1, .int X1)]) (st' := [.int X1, .ref 144, .ref 143, .long ((1000 : Int64)), .long V_13, .int (((121 : Int32)) + X1), .ref 147]) rfl ?_
  obtain ⟨o_23, h_23, h⟩ := Option.bind_eq_some_iff.mp h
  refine r_csI (pc' := 26) (L' := [(0, .ref 143), (1, .int X1)]) (As := [.int X1]) (rest := [.ref 144, .ref 143, .long ((1000 : Int64)), .long V_13, .int (((121 : Int32)) + X1), .ref 147]) (j := 173) hq (z_at.mk 3 rfl rfl) (Or.inl ⟨rfl, rfl⟩) rfl rfl (by omega) (g_m_region_173_ok hx1 H h_23) rfl rfl ?_
  intro R_23 m_23 p_23 e_23 hR_23 H_23
  subst e_23
  obtain ⟨o_26, h_26, h⟩ := Option.bind_eq_some_iff.mp h
  refine r_cvI (pc' := 29) (L' := [(0, .ref 143), (1, .int X1)]) (Ps := [.ref 144, .int R_23]) (rest := [.long ((1000 : Int64)), .long V_13, .int (((121 : Int32)) + X1), .ref 147]) hq (z_at.mk 3 rfl rfl) (Or.inl ⟨rfl, rfl⟩) rfl rfl (by decide) (by decide) rfl (Nat.not_lt.mpr (Nat.le_of_ble_eq_true rfl)) rfl rfl (z_cat_le 6 rfl (by decide)) (z_lgl_le 3 rfl (by decide)) (by decide) (H_23.tg rfl) (by omega) (g_m_cost_ok rfl hR_23 H_23 h_26) rfl rfl ?_
  intro R_26 m_26 p_26 e_26 hR_26 H_26
  subst e_26
  refine r_p hq 4 (pc' := 33) (L' := [(0, .ref 143), (1, .int X1)]) (st' := [.ref 143, .int ((1 : Int32)), .long (((1000 : Int64)) * R_26.toInt64), .long V_13, .int (((121 : Int32)) + X1), .ref 147]) rfl ?_
  refine r_gR (b := 144) (pc' := 36) (L' := [(0, .ref 143), (1, .int X1)]) H_26 hq (z_at.mk 3 rfl rfl) rfl rfl rfl rfl ?_
  refine r_p hq 1 (pc' := 37) (L' := [(0, .ref 143), (1, .int X1)]) (st' := [.int X1, .ref 144, .int ((1 : Int32)), .long (((1000 : Int64)) * R_26.toInt64), .long V_13, .int (((121 : Int32)) + X1), .ref 147]) rfl ?_
  obtain ⟨o_37, h_37, h⟩ := Option.bind_eq_some_iff.mp h
  refine r_csI (pc' := 40) (L' := [(0, .ref 143), (1, .int X1)]) (As := [.int X1]) (rest := [.ref 144, .int ((1 : Int32)), .long (((1000 : Int64)) * R_26.toInt64), .long V_13, .int (((121 : Int32)) + X1), .ref 147]) (j := 173) hq (z_at.mk 3 rfl rfl) (Or.inl ⟨rfl, rfl⟩) rfl rfl (by omega) (g_m_region_173_ok hx1 H_26 h_37) rfl rfl ?_
  intro R_37 m_37 p_37 e_37 hR_37 H_37
  subst e_37
  refine r_p hq 2 (pc' := 43) (L' := [(0, .ref 143), (1, .int X1)]) (st' := [.int (R_37 + ((9 : Int32))), .ref 144, .int ((1 : Int32)), .long (((1000 : Int64)) * R_26.toInt64), .long V_13, .int (((121 : Int32)) + X1), .ref 147]) rfl ?_
  obtain ⟨g_43, h⟩ := z_ifo_some h
  refine r_ia (pc' := 44) (L' := [(0, .ref 143), (1, .int X1)]) H_37 hq (z_at.mk 1 rfl rfl) (show zAr 144 0 2740 = true from rfl) (tx_iadd hR_37 (rfl : (9 : Int32).toInt = 9)) g_43 rfl rfl ?_
  intro V_43 hV_43
  refine r_p hq 5 (pc' := 49) (L' := [(0, .ref 143), (1, .int X1)]) (st' := [.int X1, .ref 143, .long ((((1000 : Int64)) * R_26.toInt64) * ((((1 : Int32)) + V_43).toInt64)), .long V_13, .int (((121 : Int32)) + X1), .ref 147]) rfl ?_
  obtain ⟨o_49, h_49, h⟩ := Option.bind_eq_some_iff.mp h
  refine r_cvI (pc' := 52) (L' := [(0, .ref 143), (1, .int X1)]) (Ps := [.int X1]) (rest := [.long ((((1000 : Int64)) * R_26.toInt64) * ((((1 : Int32)) + V_43).toInt64)), .long V_13, .int (((121 : Int32)) + X1), .ref 147]) hq (z_at.mk 3 rfl rfl) (Or.inl ⟨rfl, rfl⟩) rfl rfl (by decide) (by decide) rfl (Nat.not_lt.mpr (Nat.le_of_ble_eq_true rfl)) rfl rfl (z_cat_le 6 rfl (by decide)) (z_lgl_le 2 rfl (by decide)) (by decide) (H_37.tg rfl) (by omega) (g_m_size_ok hx1 H_37 h_49) rfl rfl ?_
  intro R_49 m_49 p_49 e_49 hR_49 H_49
  subst e_49
  refine r_p hq 1 (pc' := 53) (L' := [(0, .ref 143), (1, .int X1)]) (st' := [.long R_49.toInt64, .long ((((1000 : Int64)) * R_26.toInt64) * ((((1 : Int32)) + V_43).toInt64)), .long V_13, .int (((121 : Int32)) + X1), .ref 147]) rfl ?_
  obtain ⟨g_53, h⟩ := z_ifno_some h
  refine r_ldiv (pc' := 54) (L' := [(0, .ref 143), (1, .int X1)]) hq (z_at.mk 1 rfl rfl) (tx_lmul (tx_lmul (rfl : (1000 : Int64).toInt = 1000) (tx_i2l hR_26)) (tx_i2l (tx_iadd (rfl : (1 : Int32).toInt = 1) hV_43))) (tx_i2l hR_49) g_53 rfl rfl ?_
  intro V_53 hV_53
  refine r_p hq 1 (pc' := 55) (L' := [(0, .ref 143), (1, .int X1)]) (st' := [.long (V_13 + V_53), .int (((121 : Int32)) + X1), .ref 147]) rfl ?_
  obtain ⟨g_55, h⟩ := z_ifo_some h
  refine r_ls (pc' := 56) (L' := [(0, .ref 143), (1, .int X1)]) H_49 hq (z_at.mk 1 rfl rfl) (show zAr 147 1 361 = true from rfl) (tx_iadd (rfl : (121 : Int32).toInt = 121) hx1) g_55 (tx_ladd hV_13 hV_53) rfl rfl ?_
  intro m_55 H_55
  cases h
  exact r_rv hq (z_at.mk 1 rfl rfl) rfl rfl H_55
def g_m_adds (a1 : Nat) (x2 : Int) (σ : zS) : Option (Int × zS) :=
  let v_5 := σ 144 0
  (g_m_region_173 v_5 σ).bind fun o_14 =>
  (g_m_copies a1 144 x2 o_14.1 o_14.2).bind fun o_17 =>
  (g_m_region_173 v_5 o_17.2).bind fun o_25 =>
  (g_m_sets 144 (w32 (o_25.1 + 4)) (-5) (-5) (-5) (-5) o_25.2).bind fun o_38 =>
  (g_m_region_173 v_5 o_38.2).bind fun o_46 =>
  let v_57 := o_46.2 144 1
  if 0 ≤ w32 (o_46.1 + 8) ∧ w32 (o_46.1 + 8) < 2740 then
  let s_58 := zu o_46.2 144 (w32 (o_46.1 + 8)) v_57
  (g_m_region_173 v_5 s_58).bind fun o_64 =>
  if 0 ≤ w32 (o_64.1 + 9) ∧ w32 (o_64.1 + 9) < 2740 then
  let s_71 := zu o_64.2 144 (w32 (o_64.1 + 9)) 0
  let v_78 := s_71 144 1
  let s_81 := zu s_71 144 1 (w32 (v_78 + 1))
  let v_88 := s_81 144 0
  let s_91 := zu s_81 144 0 (w32 (v_88 + 1))
  some (v_5, s_91)
  else none
  else none
set_option maxHeartbeats 4000000 in
theorem g_m_adds_ok {xl : Nat} {xs : Nat → Int32} {a1 : Nat} (ha1 : zIn [144, 150, 151, 152, 153, 156, 157, 161, 164, 165] a1 = true) {X2 : Int32} {x2 : Int} (hx2 : X2.toInt = x2) {σ : zS} {p : Nat} {m : zM} {o : Int × zS} (H : zRep xl xs p m σ) (h : g_m_adds a1 x2 σ = some o) : zGo xl xs (fun p' => p = p') 3 179 0 (z_can 179 0 (lv_args 0 [.ref 143, .ref a1, .int X2])) [] m (vI o.1) o.2 := by
  have hq : z_mth 179 = some z_r179 := rfl
  unfold g_m_adds at h
  show zGo xl xs (fun p' => p = p') 3 179 0 [(0, .ref 143), (1, .ref a1), (2, .int X2)] [] m (vI o.1) o.2
  refine r_p hq 1 (pc' := 1) (L' := [(0, .ref 143), (1, .ref a1), (2, .int X2)]) (st' := [.ref 143]) rfl ?_
  refine r_gR (b := 144) (pc' := 4) (L' := [(0, .ref 143), (1, .ref a1), (2, .int X2)]) H hq (z_at.mk 3 rfl rfl) rfl rfl rfl rfl ?_
  refine r_p hq 1 (pc' := 5) (L' := [(0, .ref 143), (1, .ref a1), (2, .int X2)]) (st' := [.int ((0 : Int32)), .ref 144]) rfl ?_
  refine r_ia (pc' := 6) (L' := [(0, .ref 143), (1, .ref a1), (2, .int X2)]) H hq (z_at.mk 1 rfl rfl) (show zAr 144 0 2740 = true from rfl) (rfl : (0 : Int32).toInt = 0) ⟨by decide, by decide⟩ rfl rfl ?_
  intro V_5 hV_5
  refine r_p hq 4 (pc' := 10) (L' := [(3, .int V_5), (0, .ref 143), (1, .ref a1), (2, .int X2)]) (st' := [.ref 143, .int X2, .ref a1]) rfl ?_
  refine r_gR (b := 144) (pc' := 13) (L' := [(3, .int V_5), (0, .ref 143), (1, .ref a1), (2, .int X2)]) H hq (z_at.mk 3 rfl rfl) rfl rfl rfl rfl ?_
  refine r_p hq 1 (pc' := 14) (L' := [(3, .int V_5), (0, .ref 143), (1, .ref a1), (2, .int X2)]) (st' := [.int V_5, .ref 144, .int X2, .ref a1]) rfl ?_
  obtain ⟨o_14, h_14, h⟩ := Option.bind_eq_some_iff.mp h
  refine r_csI (pc' := 17) (L' := [(3, .int V_5), (0, .ref 143), (1, .ref a1), (2, .int X2)]) (As := [.int V_5]) (rest := [.ref 144, .int X2, .ref a1]) (j := 173) hq (z_at.mk 3 rfl rfl) (Or.inl ⟨rfl, rfl⟩) rfl rfl (by omega) (g_m_region_173_ok hV_5 H h_14) rfl rfl ?_
  intro R_14 m_14 p_14 e_14 hR_14 H_14
  subst e_14
  obtain ⟨o_17, h_17, h⟩ := Option.bind_eq_some_iff.mp h
  refine r_csV (pc' := 20) (L' := [(3, .int V_5), (0, .ref 143), (1, .ref a1), (2, .int X2)]) (As := [.ref a1, .int X2, .ref 144, .int R_14]) (rest := []) (j := 166) hq (z_at.mk 3 rfl rfl) (Or.inl ⟨rfl, rfl⟩) rfl rfl (by omega) (g_m_copies_ok (zIn_all (l := [144, 150, 151, 152, 153, 156, 157, 161, 164, 165]) (p := fun a => zIn [144, 150, 151, 152, 153, 156, 157, 161, 164, 165] a) rfl ha1) rfl hx2 hR_14 H_14 h_17) rfl rfl ?_
  intro m_17 p_17 e_17 H_17
  subst e_17
  refine r_p hq 1 (pc' := 21) (L' := [(3, .int V_5), (0, .ref 143), (1, .ref a1), (2, .int X2)]) (st' := [.ref 143]) rfl ?_
  refine r_gR (b := 144) (pc' := 24) (L' := [(3, .int V_5), (0, .ref 143), (1, .ref a1), (2, .int X2)]) H_17 hq (z_at.mk 3 rfl rfl) rfl rfl rfl rfl ?_
  refine r_p hq 1 (pc' := 25) (L' := [(3, .int V_5), (0, .ref 143), (1, .ref a1), (2, .int X2)]) (st' := [.int V_5, .ref 144]) rfl ?_
  obtain ⟨o_25, h_25, h⟩ := Option.bind_eq_some_iff.mp h
  refine r_csI (pc' := 28) (L' := [(3, .int V_5), (0, .ref 143), (1, .ref a1), (2, .int X2)]) (As := [.int V_5]) (rest := [.ref 144]) (j := 173) hq (z_at.mk 3 rfl rfl) (Or.inl ⟨rfl, rfl⟩) rfl rfl (by omega) (g_m_region_173_ok hV_5 H_17 h_25) rfl rfl ?_
  intro R_25 m_25 p_25 e_25 hR_25 H_25
  subst e_25
  refine r_p hq 6 (pc' := 38) (L' := [(3, .int V_5), (0, .ref 143), (1, .ref a1), (2, .int X2)]) (st' := [.int ((-5 : Int32)), .int ((-5 : Int32)), .int ((-5 : Int32)), .int ((-5 : Int32)), .int (R_25 + ((4 : Int32))), .ref 144]) rfl ?_
  obtain ⟨o_38, h_38, h⟩ := Option.bind_eq_some_iff.mp h
  refine r_csV (pc' := 41) (L' := [(3, .int V_5), (0, .ref 143), (1, .ref a1), (2, .int X2)]) (As := [.ref 144, .int (R_25 + ((4 : Int32))), .int ((-5 : Int32)), .int ((-5 : Int32)), .int ((-5 : Int32)), .int ((-5 : Int32))]) (rest := []) (j := 165) hq (z_at.mk 3 rfl rfl) (Or.inl ⟨rfl, rfl⟩) rfl rfl (by omega) (g_m_sets_ok rfl (tx_iadd hR_25 (rfl : (4 : Int32).toInt = 4)) (rfl : (-5 : Int32).toInt = -5) (rfl : (-5 : Int32).toInt = -5) (rfl : (-5 : Int32).toInt = -5) (rfl : (-5 : Int32).toInt = -5) H_25 h_38) rfl rfl ?_
  intro m_38 p_38 e_38 H_38
  subst e_38
  refine r_p hq 1 (pc' := 42) (L' := [(3, .int V_5), (0, .ref 143), (1, .ref a1), (2, .int X2)]) (st' := [.ref 143]) rfl ?_
  refine r_gR (b := 144) (pc' := 45) (L' := [(3, .int V_5), (0, .ref 143), (1, .ref a1), (2, .int X2)]) H_38 hq (z_at.mk 3 rfl rfl) rfl rfl rfl rfl ?_
  refine r_p hq 1 (pc' := 46) (L' := [(3, .int V_5), (0, .ref 143), (1, .ref a1), (2, .int X2)]) (st' := [.int V_5, .ref 144]) rfl ?_
  obtain ⟨o_46, h_46, h⟩ := Option.bind_eq_some_iff.mp h
  refine r_csI (pc' := 49) (L' := [(3, .int V_5), (0, .ref 143), (1, .ref a1), (2, .int X2)]) (As := [.int V_5]) (rest := [.ref 144]) (j := 173) hq (z_at.mk 3 rfl rfl) (Or.inl ⟨rfl, rfl⟩) rfl rfl (by omega) (g_m_region_173_ok hV_5 H_38 h_46) rfl rfl ?_
  intro R_46 m_46 p_46 e_46 hR_46 H_46
  subst e_46
  refine r_p hq 3 (pc' := 53) (L' := [(3, .int V_5), (0, .ref 143), (1, .ref a1), (2, .int X2)]) (st' := [.ref 143, .int (R_46 + ((8 : Int32))), .ref 144]) rfl ?_
  refine r_gR (b := 144) (pc' := 56) (L' := [(3, .int V_5), (0, .ref 143), (1, .ref a1), (2, .int X2)]) H_46 hq (z_at.mk 3 rfl rfl) rfl rfl rfl rfl ?_
  refine r_p hq 1 (pc' := 57) (L' := [(3, .int V_5), (0, .ref 143), (1, .ref a1), (2, .int X2)]) (st' := [.int ((1 : Int32)), .ref 144, .int (R_46 + ((8 : Int32))), .ref 144]) rfl ?_
  refine r_ia (pc' := 58) (L' := [(3, .int V_5), (0, .ref 143), (1, .ref a1), (2, .int X2)]) H_46 hq (z_at.mk 1 rfl rfl) (show zAr 144 0 2740 = true from rfl) (rfl : (1 : Int32).toInt = 1) ⟨by decide, by decide⟩ rfl rfl ?_
  intro V_57 hV_57
  obtain ⟨g_58, h⟩ := z_ifo_some h
  refine r_is (pc' := 59) (L' := [(3, .int V_5), (0, .ref 143), (1, .ref a1), (2, .int X2)]) H_46 hq (z_at.mk 1 rfl rfl) (show zAr 144 0 2740 = true from rfl) (tx_iadd hR_46 (rfl : (8 : Int32).toInt = 8)) g_58 hV_57 rfl rfl ?_
  intro m_58 H_58
  refine r_p hq 1 (pc' := 60) (L' := [(3, .int V_5), (0, .ref 143), (1, .ref a1), (2, .int X2)]) (st' := [.ref 143]) rfl ?_
  refine r_gR (b := 144) (pc' := 63) (L' := [(3, .int V_5), (0, .ref 143), (1, .ref a1), (2, .int X2)]) H_58 hq (z_at.mk 3 rfl rfl) rfl rfl rfl rfl ?_
  refine r_p hq 1 (pc' := 64) (L' := [(3, .int V_5), (0, .ref 143), (1, .ref a1), (2, .int X2)]) (st' := [.int V_5, .ref 144]) rfl ?_
  obtain ⟨o_64, h_64, h⟩ := Option.bind_eq_some_iff.mp h
  refine r_csI (pc' := 67) (L' := [(3, .int V_5), (0, .ref 143), (1, .ref a1), (2, .int X2)]) (As := [.int V_5]) (rest := [.ref 144]) (j := 173) hq (z_at.mk 3 rfl rfl) (Or.inl ⟨rfl, rfl⟩) rfl rfl (by omega) (g_m_region_173_ok hV_5 H_58 h_64) rfl rfl ?_
  intro R_64 m_64 p_64 e_64 hR_64 H_64
  subst e_64
  refine r_p hq 3 (pc' := 71) (L' := [(3, .int V_5), (0, .ref 143), (1, .ref a1), (2, .int X2)]) (st' := [.int ((0 : Int32)), .int (R_64 + ((9 : Int32))), .ref 144]) rfl ?_
  obtain ⟨g_71, h⟩ := z_ifo_some h
  refine r_is (pc' := 72) (L' := [(3, .int V_5), (0, .ref 143), (1, .ref a1), (2, .int X2)]) H_64 hq (z_at.mk 1 rfl rfl) (show zAr 144 0 2740 = true from rfl) (tx_iadd hR_64 (rfl : (9 : Int32).toInt = 9)) g_71 (rfl : (0 : Int32).toInt = 0) rfl rfl ?_
  intro m_71 H_71
  refine r_p hq 1 (pc' := 73) (L' := [(3, .int V_5), (0, .ref 143), (1, .ref a1), (2, .int X2)]) (st' := [.ref 143]) rfl ?_
  refine r_gR (b := 144) (pc' := 76) (L' := [(3, .int V_5), (0, .ref 143), (1, .ref a1), (2, .int X2)]) H_71 hq (z_at.mk 3 rfl rfl) rfl rfl rfl rfl ?_
  refine r_p hq 2 (pc' := 78) (L' := [(3, .int V_5), (0, .ref 143), (1, .ref a1), (2, .int X2)]) (st' := [.int ((1 : Int32)), .ref 144, .int ((1 : Int32)), .ref 144]) rfl ?_
  refine r_ia (pc' := 79) (L' := [(3, .int V_5), (0, .ref 143), (1, .ref a1), (2, .int X2)]) H_71 hq (z_at.mk 1 rfl rfl) (show zAr 144 0 2740 = true from rfl) (rfl : (1 : Int32).toInt = 1) ⟨by decide, by decide⟩ rfl rfl ?_
  intro V_78 hV_78
  refine r_p hq 2 (pc' := 81) (L' := [(3, .int V_5), (0, .ref 143), (1, .ref a1), (2, .int X2)]) (st' := [.int (V_78 + ((1 : Int32))), .int ((1 : Int32)), .ref 144]) rfl ?_
  refine r_is (pc' := 82) (L' := [(3, .int V_5), (0, .ref 143), (1, .ref a1), (2, .int X2)]) H_71 hq (z_at.mk 1 rfl rfl) (show zAr 144 0 2740 = true from rfl) (rfl : (1 : Int32).toInt = 1) ⟨by decide, by decide⟩ (tx_iadd hV_78 (rfl : (1 : Int32).toInt = 1)) rfl rfl ?_
  intro m_81 H_81
  refine r_p hq 1 (pc' := 83) (L' := [(3, .int V_5), (0, .ref 143), (1, .ref a1), (2, .int X2)]) (st' := [.ref 143]) rfl ?_
  refine r_gR (b := 144) (pc' := 86) (L' := [(3, .int V_5), (0, .ref 143), (1, .ref a1), (2, .int X2)]) H_81 hq (z_at.mk 3 rfl rfl) rfl rfl rfl rfl ?_
  refine r_p hq 2 (pc' := 88) (L' := [(3, .int V_5), (0, .ref 143), (1, .ref a1), (2, .int X2)]) (st' := [.int ((0 : Int32)), .ref 144, .int ((0 : Int32)), .ref 144]) rfl ?_
  refine r_ia (pc' := 89) (L' := [(3, .int V_5), (0, .ref 143), (1, .ref a1), (2, .int X2)]) H_81 hq (z_at.mk 1 rfl rfl) (show zAr 144 0 2740 = true from rfl) (rfl : (0 : Int32).toInt = 0) ⟨by decide, by decide⟩ rfl rfl ?_
  intro V_88 hV_88
  refine r_p hq 2 (pc' := 91) (L' := [(3, .int V_5), (0, .ref 143), (1, .ref a1), (2, .int X2)]) (st' := [.int (V_88 + ((1 : Int32))), .int ((0 : Int32)), .ref 144]) rfl ?_
  refine r_is (pc' := 92) (L' := [(3, .int V_5), (0, .ref 143), (1, .ref a1), (2, .int X2)]) H_81 hq (z_at.mk 1 rfl rfl) (show zAr 144 0 2740 = true from rfl) (rfl : (0 : Int32).toInt = 0) ⟨by decide, by decide⟩ (tx_iadd hV_88 (rfl : (1 : Int32).toInt = 1)) rfl rfl ?_
  intro m_91 H_91
  refine r_p hq 1 (pc' := 93) (L' := [(3, .int V_5), (0, .ref 143), (1, .ref a1), (2, .int X2)]) (st' := [.int V_5]) rfl ?_
  cases h
  exact r_ri hq (z_at.mk 1 rfl rfl) rfl rfl hV_5 rfl H_91
def g_m_goes_L16 (g4 : Int → zS → Option (Unit × zS)) : Nat → Int → Int → zS → Option (Unit × zS)
  | 0, _, _, _ => none
  | n + 1, x2, x3, σ =>
    if 10 ≤ x3 then
      if 0 ≤ w32 (121 + x2) ∧ w32 (121 + x2) < 361 then
      let v_70 := σ 147 (w32 (121 + x2))
      if 0 ≤ w32 ((w32 (121 + x2)) - 1) ∧ w32 ((w32 (121 + x2)) - 1) < 361 then
      let s_71 := zu σ 147 (w32 ((w32 (121 + x2)) - 1)) v_70
      g4 (w32 (x2 + 1)) s_71
      else none
      else none
    else
      (g_m_region_173 (w32 (x2 - 1)) σ).bind fun o_29 =>
      (g_m_region_173 x2 o_29.2).bind fun o_39 =>
      if 0 ≤ w32 (o_39.1 + x3) ∧ w32 (o_39.1 + x3) < 2740 then
      let v_44 := o_39.2 144 (w32 (o_39.1 + x3))
      if 0 ≤ w32 (o_29.1 + x3) ∧ w32 (o_29.1 + x3) < 2740 then
      let s_45 := zu o_39.2 144 (w32 (o_29.1 + x3)) v_44
      (g_m_goes_L16 g4 n) x2 (w32 (x3 + 1)) s_45
      else none
      else none
set_option maxHeartbeats 4000000 in
theorem g_m_goes_L16_ok {xl : Nat} {xs : Nat → Int32} {g4 : Int → zS → Option (Unit × zS)} (hg4 : ∀ {X2 : Int32} {x2 : Int} {σ : zS} {p : Nat} {m : zM} {o : Unit × zS}, X2.toInt = x2 → zRep xl xs p m σ → g4 x2 σ = some o → zGo xl xs (fun p' => p = p') 2 180 4 [(0, .ref 143), (2, .int X2)] [] m vV o.2) : ∀ (n : Nat) {X2 : Int32} {x2 : Int} {X3 : Int32} {x3 : Int} {σ : zS} {p : Nat} {m : zM} {o : Unit × zS}, X2.toInt = x2 → X3.toInt = x3 → zRep xl xs p m σ → g_m_goes_L16 g4 n x2 x3 σ = some o → zGo xl xs (fun p' => p = p') 2 180 16 [(0, .ref 143), (2, .int X2), (3, .int X3)] [] m vV o.2
  | 0, _, _, _, _, _, _, _, _, _, _, _, h => by cases h
  | n + 1, X2, x2, X3, x3, σ, p, m, o, hx2, hx3, H, h => by
    have hq : z_mth 180 = some z_r180 := rfl
    have ih := fun {X2 : Int32} {x2 : Int} {X3 : Int32} {x3 : Int} {σ : zS} {p : Nat} {m : zM} {o : Unit × zS} => g_m_goes_L16_ok (xl := xl) (xs := xs) hg4 n (X2 := X2) (x2 := x2) (X3 := X3) (x3 := x3) (σ := σ) (p := p) (m := m) (o := o)
    unfold g_m_goes_L16 at h
    refine r_p hq 2 (pc' := 19) (L' := [(0, .ref 143), (2, .int X2), (3, .int X3)]) (st' := [.int ((10 : Int32)), .int X3]) rfl ?_
    rcases z_ite h with ⟨c_19, h⟩ | ⟨c_19, h⟩
    · refine r_t2 (pc' := 52) (L' := [(0, .ref 143), (2, .int X2), (3, .int X3)]) hq (z_at.mk 3 rfl rfl) rfl hx3 (rfl : (10 : Int32).toInt = 10) c_19 rfl rfl ?_
      refine r_p hq 1 (pc' := 53) (L' := [(0, .ref 143), (2, .int X2), (3, .int X3)]) (st' := [.ref 143]) rfl ?_
      refine r_gR (b := 147) (pc' := 56) (L' := [(0, .ref 143), (2, .int X2), (3, .int X3)]) H hq (z_at.mk 3 rfl rfl) rfl rfl rfl rfl ?_
      refine r_p hq 6 (pc' := 63) (L' := [(0, .ref 143), (2, .int X2), (3, .int X3)]) (st' := [.ref 143, .int ((((121 : Int32)) + X2) - ((1 : Int32))), .ref 147]) rfl ?_
      refine r_gR (b := 147) (pc' := 66) (L' := [(0, .ref 143), (2, .int X2), (3, .int X3)]) H hq (z_at.mk 3 rfl rfl) rfl rfl rfl rfl ?_
      refine r_p hq 3 (pc' := 70) (L' := [(0, .ref 143), (2, .int X2), (3, .int X3)]) (st' := [.int (((121 : Int32)) + X2), .ref 147, .int ((((121 : Int32)) + X2) - ((1 : Int32))), .ref 147]) rfl ?_
      obtain ⟨g_70, h⟩ := z_ifo_some h
      refine r_la (pc' := 71) (L' := [(0, .ref 143), (2, .int X2), (3, .int X3)]) H hq (z_at.mk 1 rfl rfl) (show zAr 147 1 361 = true from rfl) (tx_iadd (rfl : (121 : Int32).toInt = 121) hx2) g_70 rfl rfl ?_
      intro V_70 hV_70
      obtain ⟨g_71, h⟩ := z_ifo_some h
      refine r_ls (pc' := 72) (L' := [(0, .ref 143), (2, .int X2), (3, .int X3)]) H hq (z_at.mk 1 rfl rfl) (show zAr 147 1 361 = true from rfl) (tx_isub (tx_iadd (rfl : (121 : Int32).toInt = 121) hx2) (rfl : (1 : Int32).toInt = 1)) g_71 hV_70 rfl rfl ?_
      intro m_71 H_71
      refine r_p hq 2 (pc' := 4) (L' := [(0, .ref 143), (2, .int (X2 + (1 : Int32)))]) (st' := []) rfl ?_
      exact hg4 (tx_iadd hx2 (rfl : (1 : Int32).toInt = 1)) H_71 h
    · refine r_f2 (pc' := 22) (L' := [(0, .ref 143), (2, .int X2), (3, .int X3)]) hq (z_at.mk 3 rfl rfl) rfl hx3 (rfl : (10 : Int32).toInt = 10) c_19 rfl rfl ?_
      refine r_p hq 1 (pc' := 23) (L' := [(0, .ref 143), (2, .int X2), (3, .int X3)]) (st' := [.ref 143]) rfl ?_
      refine r_gR (b := 144) (pc' := 26) (L' := [(0, .ref 143), (2, .int X2), (3, .int X3)]) H hq (z_at.mk 3 rfl rfl) rfl rfl rfl rfl ?_
      refine r_p hq 3 (pc' := 29) (L' := [(0, .ref 143), (2, .int X2), (3, .int X3)]) (st' := [.int (X2 - ((1 : Int32))), .ref 144]) rfl ?_
      obtain ⟨o_29, h_29, h⟩ := Option.bind_eq_some_iff.mp h
      refine r_csI (pc' := 32) (L' := [(0, .ref 143), (2, .int X2), (3, .int X3)]) (As := [.int (X2 - ((1 : Int32)))]) (rest := [.ref 144]) (j := 173) hq (z_at.mk 3 rfl rfl) (Or.inl ⟨rfl, rfl⟩) rfl rfl (by omega) (g_m_region_173_ok (tx_isub hx2 (rfl : (1 : Int32).toInt = 1)) H h_29) rfl rfl ?_
      intro R_29 m_29 p_29 e_29 hR_29 H_29
      subst e_29
      refine r_p hq 3 (pc' := 35) (L' := [(0, .ref 143), (2, .int X2), (3, .int X3)]) (st' := [.ref 143, .int (R_29 + X3), .ref 144]) rfl ?_
      refine r_gR (b := 144) (pc' := 38) (L' := [(0, .ref 143), (2, .int X2), (3, .int X3)]) H_29 hq (z_at.mk 3 rfl rfl) rfl rfl rfl rfl ?_
      refine r_p hq 1 (pc' := 39) (L' := [(0, .ref 143), (2, .int X2), (3, .int X3)]) (st' := [.int X2, .ref 144, .int (R_29 + X3), .ref 144]) rfl ?_
      obtain ⟨o_39, h_39, h⟩ := Option.bind_eq_some_iff.mp h
      refine r_csI (pc' := 42) (L' := [(0, .ref 143), (2, .int X2), (3, .int X3)]) (As := [.int X2]) (rest := [.ref 144, .int (R_29 + X3), .ref 144]) (j := 173) hq (z_at.mk 3 rfl rfl) (Or.inl ⟨rfl, rfl⟩) rfl rfl (by omega) (g_m_region_173_ok hx2 H_29 h_39) rfl rfl ?_
      intro R_39 m_39 p_39 e_39 hR_39 H_39
      subst e_39
      refine r_p hq 2 (pc' := 44) (L' := [(0, .ref 143), (2, .int X2), (3, .int X3)]) (st' := [.int (R_39 + X3), .ref 144, .int (R_29 + X3), .ref 144]) rfl ?_
      obtain ⟨g_44, h⟩ := z_ifo_some h
      refine r_ia (pc' := 45) (L' := [(0, .ref 143), (2, .int X2), (3, .int X3)]) H_39 hq (z_at.mk 1 rfl rfl) (show zAr 144 0 2740 = true from rfl) (tx_iadd hR_39 hx3) g_44 rfl rfl ?_
      intro V_44 hV_44
      obtain ⟨g_45, h⟩ := z_ifo_some h
      refine r_is (pc' := 46) (L' := [(0, .ref 143), (2, .int X2), (3, .int X3)]) H_39 hq (z_at.mk 1 rfl rfl) (show zAr 144 0 2740 = true from rfl) (tx_iadd hR_29 hx3) g_45 hV_44 rfl rfl ?_
      intro m_45 H_45
      refine r_p hq 2 (pc' := 16) (L' := [(0, .ref 143), (2, .int X2), (3, .int (X3 + (1 : Int32)))]) (st' := []) rfl ?_
      exact ih hx2 (tx_iadd hx3 (rfl : (1 : Int32).toInt = 1)) H_45 h
def g_m_goes_L4 : Nat → Int → zS → Option (Unit × zS)
  | 0, _, _ => none
  | n + 1, x2, σ =>
    let v_10 := σ 144 0
    if v_10 ≤ x2 then
      let v_84 := σ 144 0
      let s_87 := zu σ 144 0 (w32 (v_84 - 1))
      some ((), s_87)
    else
      g_m_goes_L16 ((g_m_goes_L4 n)) zK x2 0 σ
set_option maxHeartbeats 4000000 in
theorem g_m_goes_L4_ok {xl : Nat} {xs : Nat → Int32} : ∀ (n : Nat) {X2 : Int32} {x2 : Int} {σ : zS} {p : Nat} {m : zM} {o : Unit × zS}, X2.toInt = x2 → zRep xl xs p m σ → g_m_goes_L4 n x2 σ = some o → zGo xl xs (fun p' => p = p') 2 180 4 [(0, .ref 143), (2, .int X2)] [] m vV o.2
  | 0, _, _, _, _, _, _, _, _, h => by cases h
  | n + 1, X2, x2, σ, p, m, o, hx2, H, h => by
    have hq : z_mth 180 = some z_r180 := rfl
    have ih := fun {X2 : Int32} {x2 : Int} {σ : zS} {p : Nat} {m : zM} {o : Unit × zS} => g_m_goes_L4_ok (xl := xl) (xs := xs) n (X2 := X2) (x2 := x2) (σ := σ) (p := p) (m := m) (o := o)
    unfold g_m_goes_L4 at h
    refine r_p hq 2 (pc' := 6) (L' := [(0, .ref 143), (2, .int X2)]) (st' := [.ref 143, .int X2]) rfl ?_
    refine r_gR (b := 144) (pc' := 9) (L' := [(0, .ref 143), (2, .int X2)]) H hq (z_at.mk 3 rfl rfl) rfl rfl rfl rfl ?_
    refine r_p hq 1 (pc' := 10) (L' := [(0, .ref 143), (2, .int X2)]) (st' := [.int ((0 : Int32)), .ref 144, .int X2]) rfl ?_
    refine r_ia (pc' := 11) (L' := [(0, .ref 143), (2, .int X2)]) H hq (z_at.mk 1 rfl rfl) (show zAr 144 0 2740 = true from rfl) (rfl : (0 : Int32).toInt = 0) ⟨by decide, by decide⟩ rfl rfl ?_
    intro V_10 hV_10
    rcases z_ite h with ⟨c_11, h⟩ | ⟨c_11, h⟩
    · refine r_t2 (pc' := 78) (L' := [(0, .ref 143), (2, .int X2)]) hq (z_at.mk 3 rfl rfl) rfl hx2 hV_10 c_11 rfl rfl ?_
      refine r_p hq 1 (pc' := 79) (L' := [(0, .ref 143), (2, .int X2)]) (st' := [.ref 143]) rfl ?_
      refine r_gR (b := 144) (pc' := 82) (L' := [(0, .ref 143), (2, .int X2)]) H hq (z_at.mk 3 rfl rfl) rfl rfl rfl rfl ?_
      refine r_p hq 2 (pc' := 84) (L' := [(0, .ref 143), (2, .int X2)]) (st' := [.int ((0 : Int32)), .ref 144, .int ((0 : Int32)), .ref 144]) rfl ?_
      refine r_ia (pc' := 85) (L' := [(0, .ref 143), (2, .int X2)]) H hq (z_at.mk 1 rfl rfl) (show zAr 144 0 2740 = true from rfl) (rfl : (0 : Int32).toInt = 0) ⟨by decide, by decide⟩ rfl rfl ?_
      intro V_84 hV_84
      refine r_p hq 2 (pc' := 87) (L' := [(0, .ref 143), (2, .int X2)]) (st' := [.int (V_84 - ((1 : Int32))), .int ((0 : Int32)), .ref 144]) rfl ?_
      refine r_is (pc' := 88) (L' := [(0, .ref 143), (2, .int X2)]) H hq (z_at.mk 1 rfl rfl) (show zAr 144 0 2740 = true from rfl) (rfl : (0 : Int32).toInt = 0) ⟨by decide, by decide⟩ (tx_isub hV_84 (rfl : (1 : Int32).toInt = 1)) rfl rfl ?_
      intro m_87 H_87
      cases h
      exact r_rv hq (z_at.mk 1 rfl rfl) rfl rfl H_87
    · refine r_f2 (pc' := 14) (L' := [(0, .ref 143), (2, .int X2)]) hq (z_at.mk 3 rfl rfl) rfl hx2 hV_10 c_11 rfl rfl ?_
      refine r_p hq 2 (pc' := 16) (L' := [(0, .ref 143), (2, .int X2), (3, .int ((0 : Int32)))]) (st' := []) rfl ?_
      exact g_m_goes_L16_ok ih zK hx2 (rfl : (0 : Int32).toInt = 0) H h
def g_m_goes (x1 : Int) (σ : zS) : Option (Unit × zS) :=
  g_m_goes_L4 zK (w32 (x1 + 1)) σ
set_option maxHeartbeats 4000000 in
theorem g_m_goes_ok {xl : Nat} {xs : Nat → Int32} {X1 : Int32} {x1 : Int} (hx1 : X1.toInt = x1) {σ : zS} {p : Nat} {m : zM} {o : Unit × zS} (H : zRep xl xs p m σ) (h : g_m_goes x1 σ = some o) : zGo xl xs (fun p' => p = p') 2 180 0 (z_can 180 0 (lv_args 0 [.ref 143, .int X1])) [] m vV o.2 := by
  have hq : z_mth 180 = some z_r180 := rfl
  unfold g_m_goes at h
  show zGo xl xs (fun p' => p = p') 2 180 0 [(0, .ref 143), (1, .int X1)] [] m vV o.2
  refine r_p hq 4 (pc' := 4) (L' := [(0, .ref 143), (2, .int (X1 + ((1 : Int32))))]) (st' := []) rfl ?_
  exact g_m_goes_L4_ok zK (tx_iadd hx1 (rfl : (1 : Int32).toInt = 1)) H h
def g_m_misses_L78 (g20 : Int → zS → Option (Unit × zS)) : Nat → Int → Int → Int → zS → Option (Unit × zS)
  | 0, _, _, _, _ => none
  | n + 1, x1, x2, x3, σ =>
    if w32 (4 * x2) ≤ x3 then
      let s_105 := zu σ 143 10 x2
      g20 (w32 (x1 + 1)) s_105
    else
      if 0 ≤ x3 ∧ x3 < 2400 then
      let v_95 := σ 151 x3
      if 0 ≤ x3 ∧ x3 < 2400 then
      let s_96 := zu σ 150 x3 v_95
      (g_m_misses_L78 g20 n) x1 x2 (w32 (x3 + 1)) s_96
      else none
      else none
set_option maxHeartbeats 4000000 in
theorem g_m_misses_L78_ok {xl : Nat} {xs : Nat → Int32} {g20 : Int → zS → Option (Unit × zS)} (hg20 : ∀ {X1 : Int32} {x1 : Int} {σ : zS} {p : Nat} {m : zM} {o : Unit × zS}, X1.toInt = x1 → zRep xl xs p m σ → g20 x1 σ = some o → zGo xl xs (fun p' => p = p') 4 181 20 [(0, .ref 143), (1, .int X1)] [] m vV o.2) : ∀ (n : Nat) {X1 : Int32} {x1 : Int} {X2 : Int32} {x2 : Int} {X3 : Int32} {x3 : Int} {σ : zS} {p : Nat} {m : zM} {o : Unit × zS}, X1.toInt = x1 → X2.toInt = x2 → X3.toInt = x3 → zRep xl xs p m σ → g_m_misses_L78 g20 n x1 x2 x3 σ = some o → zGo xl xs (fun p' => p = p') 4 181 78 [(0, .ref 143), (1, .int X1), (2, .int X2), (3, .int X3)] [] m vV o.2
  | 0, _, _, _, _, _, _, _, _, _, _, _, _, _, _, h => by cases h
  | n + 1, X1, x1, X2, x2, X3, x3, σ, p, m, o, hx1, hx2, hx3, H, h => by
    have hq : z_mth 181 = some z_r181 := rfl
    have ih := fun {X1 : Int32} {x1 : Int} {X2 : Int32} {x2 : Int} {X3 : Int32} {x3 : Int} {σ : zS} {p : Nat} {m : zM} {o : Unit × zS} => g_m_misses_L78_ok (xl := xl) (xs := xs) hg20 n (X1 := X1) (x1 := x1) (X2 := X2) (x2 := x2) (X3 := X3) (x3 := x3) (σ := σ) (p := p) (m := m) (o := o)
    unfold g_m_misses_L78 at h
    refine r_p hq 4 (pc' := 82) (L' := [(0, .ref 143), (1, .int X1), (2, .int X2), (3, .int X3)]) (st' := [.int (((4 : Int32)) * X2), .int X3]) rfl ?_
    rcases z_ite h with ⟨c_82, h⟩ | ⟨c_82, h⟩
    · refine r_t2 (pc' := 103) (L' := [(0, .ref 143), (1, .int X1), (2, .int X2), (3, .int X3)]) hq (z_at.mk 3 rfl rfl) rfl hx3 (tx_imul (rfl : (4 : Int32).toInt = 4) hx2) c_82 rfl rfl ?_
      refine r_p hq 2 (pc' := 105) (L' := [(0, .ref 143), (1, .int X1), (2, .int X2), (3, .int X3)]) (st' := [.int X2, .ref 143]) rfl ?_
      refine r_pI (X := X2) (pc' := 108) (L' := [(0, .ref 143), (1, .int X1), (2, .int X2), (3, .int X3)]) H hq (z_at.mk 3 rfl rfl) rfl rfl hx2 (by decide) rfl rfl rfl rfl ?_
      intro m_105 H_105
      refine r_p hq 2 (pc' := 20) (L' := [(0, .ref 143), (1, .int (X1 + (1 : Int32)))]) (st' := []) rfl ?_
      exact hg20 (tx_iadd hx1 (rfl : (1 : Int32).toInt = 1)) H_105 h
    · refine r_f2 (pc' := 85) (L' := [(0, .ref 143), (1, .int X1), (2, .int X2), (3, .int X3)]) hq (z_at.mk 3 rfl rfl) rfl hx3 (tx_imul (rfl : (4 : Int32).toInt = 4) hx2) c_82 rfl rfl ?_
      refine r_p hq 1 (pc' := 86) (L' := [(0, .ref 143), (1, .int X1), (2, .int X2), (3, .int X3)]) (st' := [.ref 143]) rfl ?_
      refine r_gR (b := 150) (pc' := 89) (L' := [(0, .ref 143), (1, .int X1), (2, .int X2), (3, .int X3)]) H hq (z_at.mk 3 rfl rfl) rfl rfl rfl rfl ?_
      refine r_p hq 2 (pc' := 91) (L' := [(0, .ref 143), (1, .int X1), (2, .int X2), (3, .int X3)]) (st' := [.ref 143, .int X3, .ref 150]) rfl ?_
      refine r_gR (b := 151) (pc' := 94) (L' := [(0, .ref 143), (1, .int X1), (2, .int X2), (3, .int X3)]) H hq (z_at.mk 3 rfl rfl) rfl rfl rfl rfl ?_
      refine r_p hq 1 (pc' := 95) (L' := [(0, .ref 143), (1, .int X1), (2, .int X2), (3, .int X3)]) (st' := [.int X3, .ref 151, .int X3, .ref 150]) rfl ?_
      obtain ⟨g_95, h⟩ := z_ifo_some h
      refine r_ia (pc' := 96) (L' := [(0, .ref 143), (1, .int X1), (2, .int X2), (3, .int X3)]) H hq (z_at.mk 1 rfl rfl) (show zAr 151 0 2400 = true from rfl) hx3 g_95 rfl rfl ?_
      intro V_95 hV_95
      obtain ⟨g_96, h⟩ := z_ifo_some h
      refine r_is (pc' := 97) (L' := [(0, .ref 143), (1, .int X1), (2, .int X2), (3, .int X3)]) H hq (z_at.mk 1 rfl rfl) (show zAr 150 0 2400 = true from rfl) hx3 g_96 hV_95 rfl rfl ?_
      intro m_96 H_96
      refine r_p hq 2 (pc' := 78) (L' := [(0, .ref 143), (1, .int X1), (2, .int X2), (3, .int (X3 + (1 : Int32)))]) (st' := []) rfl ?_
      exact ih hx1 hx2 (tx_iadd hx3 (rfl : (1 : Int32).toInt = 1)) H_96 h
def g_m_misses_L34 (g20 : Int → zS → Option (Unit × zS)) : Nat → Int → Int → Int → zS → Option (Unit × zS)
  | 0, _, _, _, _ => none
  | n + 1, x1, x2, x3, σ =>
    let v_36 := σ 143 10
    if v_36 ≤ x3 then
      g_m_misses_L78 g20 zK x1 x2 0 σ
    else
      (g_m_region_173 x1 σ).bind fun o_55 =>
      (g_m_rests 150 144 151 (w32 (4 * x3)) o_55.1 (w32 (4 * x2)) o_55.2).bind fun o_65 =>
      (g_m_misses_L34 g20 n) x1 (w32 (x2 + o_65.1)) (w32 (x3 + 1)) o_65.2
set_option maxHeartbeats 4000000 in
theorem g_m_misses_L34_ok {xl : Nat} {xs : Nat → Int32} {g20 : Int → zS → Option (Unit × zS)} (hg20 : ∀ {X1 : Int32} {x1 : Int} {σ : zS} {p : Nat} {m : zM} {o : Unit × zS}, X1.toInt = x1 → zRep xl xs p m σ → g20 x1 σ = some o → zGo xl xs (fun p' => p = p') 4 181 20 [(0, .ref 143), (1, .int X1)] [] m vV o.2) : ∀ (n : Nat) {X1 : Int32} {x1 : Int} {X2 : Int32} {x2 : Int} {X3 : Int32} {x3 : Int} {σ : zS} {p : Nat} {m : zM} {o : Unit × zS}, X1.toInt = x1 → X2.toInt = x2 → X3.toInt = x3 → zRep xl xs p m σ → g_m_misses_L34 g20 n x1 x2 x3 σ = some o → zGo xl xs (fun p' => p = p') 4 181 34 [(0, .ref 143), (1, .int X1), (2, .int X2), (3, .int X3)] [] m vV o.2
  | 0, _, _, _, _, _, _, _, _, _, _, _, _, _, _, h => by cases h
  | n + 1, X1, x1, X2, x2, X3, x3, σ, p, m, o, hx1, hx2, hx3, H, h => by
    have hq : z_mth 181 = some z_r181 := rfl
    have ih := fun {X1 : Int32} {x1 : Int} {X2 : Int32} {x2 : Int} {X3 : Int32} {x3 : Int} {σ : zS} {p : Nat} {m : zM} {o : Unit × zS} => g_m_misses_L34_ok (xl := xl) (xs := xs) hg20 n (X1 := X1) (x1 := x1) (X2 := X2) (x2 := x2) (X3 := X3) (x3 := x3) (σ := σ) (p := p) (m := m) (o := o)
    unfold g_m_misses_L34 at h
    refine r_p hq 2 (pc' := 36) (L' := [(0, .ref 143), (1, .int X1), (2, .int X2), (3, .int X3)]) (st' := [.ref 143, .int X3]) rfl ?_
    refine r_gI (pc' := 39) (L' := [(0, .ref 143), (1, .int X1), (2, .int X2), (3, .int X3)]) H hq (z_at.mk 3 rfl rfl) rfl rfl rfl rfl ?_
    intro V_36 hV_36
    rcases z_ite h with ⟨c_39, h⟩ | ⟨c_39, h⟩
    · refine r_t2 (pc' := 76) (L' := [(0, .ref 143), (1, .int X1), (2, .int X2), (3, .int X3)]) hq (z_at.mk 3 rfl rfl) rfl hx3 hV_36 c_39 rfl rfl ?_
      refine r_p hq 2 (pc' := 78) (L' := [(0, .ref 143), (1, .int X1), (2, .int X2), (3, .int ((0 : Int32)))]) (st' := []) rfl ?_
      exact g_m_misses_L78_ok hg20 zK hx1 hx2 (rfl : (0 : Int32).toInt = 0) H h
    · refine r_f2 (pc' := 42) (L' := [(0, .ref 143), (1, .int X1), (2, .int X2), (3, .int X3)]) hq (z_at.mk 3 rfl rfl) rfl hx3 hV_36 c_39 rfl rfl ?_
      refine r_p hq 2 (pc' := 44) (L' := [(0, .ref 143), (1, .int X1), (2, .int X2), (3, .int X3)]) (st' := [.ref 143, .int X2]) rfl ?_
      refine r_gR (b := 150) (pc' := 47) (L' := [(0, .ref 143), (1, .int X1), (2, .int X2), (3, .int X3)]) H hq (z_at.mk 3 rfl rfl) rfl rfl rfl rfl ?_
      refine r_p hq 4 (pc' := 51) (L' := [(0, .ref 143), (1, .int X1), (2, .int X2), (3, .int X3)]) (st' := [.ref 143, .int (((4 : Int32)) * X3), .ref 150, .int X2]) rfl ?_
      refine r_gR (b := 144) (pc' := 54) (L' := [(0, .ref 143), (1, .int X1), (2, .int X2), (3, .int X3)]) H hq (z_at.mk 3 rfl rfl) rfl rfl rfl rfl ?_
      refine r_p hq 1 (pc' := 55) (L' := [(0, .ref 143), (1, .int X1), (2, .int X2), (3, .int X3)]) (st' := [.int X1, .ref 144, .int (((4 : Int32)) * X3), .ref 150, .int X2]) rfl ?_
      obtain ⟨o_55, h_55, h⟩ := Option.bind_eq_some_iff.mp h
      refine r_csI (pc' := 58) (L' := [(0, .ref 143), (1, .int X1), (2, .int X2), (3, .int X3)]) (As := [.int X1]) (rest := [.ref 144, .int (((4 : Int32)) * X3), .ref 150, .int X2]) (j := 173) hq (z_at.mk 3 rfl rfl) (Or.inl ⟨rfl, rfl⟩) rfl rfl (by omega) (g_m_region_173_ok hx1 H h_55) rfl rfl ?_
      intro R_55 m_55 p_55 e_55 hR_55 H_55
      subst e_55
      refine r_p hq 1 (pc' := 59) (L' := [(0, .ref 143), (1, .int X1), (2, .int X2), (3, .int X3)]) (st' := [.ref 143, .int R_55, .ref 144, .int (((4 : Int32)) * X3), .ref 150, .int X2]) rfl ?_
      refine r_gR (b := 151) (pc' := 62) (L' := [(0, .ref 143), (1, .int X1), (2, .int X2), (3, .int X3)]) H_55 hq (z_at.mk 3 rfl rfl) rfl rfl rfl rfl ?_
      refine r_p hq 3 (pc' := 65) (L' := [(0, .ref 143), (1, .int X1), (2, .int X2), (3, .int X3)]) (st' := [.int (((4 : Int32)) * X2), .ref 151, .int R_55, .ref 144, .int (((4 : Int32)) * X3), .ref 150, .int X2]) rfl ?_
      obtain ⟨o_65, h_65, h⟩ := Option.bind_eq_some_iff.mp h
      refine r_csI (pc' := 68) (L' := [(0, .ref 143), (1, .int X1), (2, .int X2), (3, .int X3)]) (As := [.ref 150, .int (((4 : Int32)) * X3), .ref 144, .int R_55, .ref 151, .int (((4 : Int32)) * X2)]) (rest := [.int X2]) (j := 172) hq (z_at.mk 3 rfl rfl) (Or.inl ⟨rfl, rfl⟩) rfl rfl (by omega) (g_m_rests_ok rfl rfl rfl (tx_imul (rfl : (4 : Int32).toInt = 4) hx3) hR_55 (tx_imul (rfl : (4 : Int32).toInt = 4) hx2) H_55 h_65) rfl rfl ?_
      intro R_65 m_65 p_65 e_65 hR_65 H_65
      subst e_65
      refine r_p hq 4 (pc' := 34) (L' := [(0, .ref 143), (1, .int X1), (2, .int (X2 + R_65)), (3, .int (X3 + (1 : Int32)))]) (st' := []) rfl ?_
      exact ih hx1 (tx_iadd hx2 hR_65) (tx_iadd hx3 (rfl : (1 : Int32).toInt = 1)) H_65 h
def g_m_misses_L20 : Nat → Int → zS → Option (Unit × zS)
  | 0, _, _ => none
  | n + 1, x1, σ =>
    let v_26 := σ 144 0
    if v_26 ≤ x1 then
      some ((), σ)
    else
      g_m_misses_L34 ((g_m_misses_L20 n)) zK x1 0 0 σ
set_option maxHeartbeats 4000000 in
theorem g_m_misses_L20_ok {xl : Nat} {xs : Nat → Int32} : ∀ (n : Nat) {X1 : Int32} {x1 : Int} {σ : zS} {p : Nat} {m : zM} {o : Unit × zS}, X1.toInt = x1 → zRep xl xs p m σ → g_m_misses_L20 n x1 σ = some o → zGo xl xs (fun p' => p = p') 4 181 20 [(0, .ref 143), (1, .int X1)] [] m vV o.2
  | 0, _, _, _, _, _, _, _, _, h => by cases h
  | n + 1, X1, x1, σ, p, m, o, hx1, H, h => by
    have hq : z_mth 181 = some z_r181 := rfl
    have ih := fun {X1 : Int32} {x1 : Int} {σ : zS} {p : Nat} {m : zM} {o : Unit × zS} => g_m_misses_L20_ok (xl := xl) (xs := xs) n (X1 := X1) (x1 := x1) (σ := σ) (p := p) (m := m) (o := o)
    unfold g_m_misses_L20 at h
    refine r_p hq 2 (pc' := 22) (L' := [(0, .ref 143), (1, .int X1)]) (st' := [.ref 143, .int X1]) rfl ?_
    refine r_gR (b := 144) (pc' := 25) (L' := [(0, .ref 143), (1, .int X1)]) H hq (z_at.mk 3 rfl rfl) rfl rfl rfl rfl ?_
    refine r_p hq 1 (pc' := 26) (L' := [(0, .ref 143), (1, .int X1)]) (st' := [.int ((0 : Int32)), .ref 144, .int X1]) rfl ?_
    refine r_ia (pc' := 27) (L' := [(0, .ref 143), (1, .int X1)]) H hq (z_at.mk 1 rfl rfl) (show zAr 144 0 2740 = true from rfl) (rfl : (0 : Int32).toInt = 0) ⟨by decide, by decide⟩ rfl rfl ?_
    intro V_26 hV_26
    rcases z_ite h with ⟨c_27, h⟩ | ⟨c_27, h⟩
    · refine r_t2 (pc' := 114) (L' := [(0, .ref 143), (1, .int X1)]) hq (z_at.mk 3 rfl rfl) rfl hx1 hV_26 c_27 rfl rfl ?_
      cases h
      exact r_rv hq (z_at.mk 1 rfl rfl) rfl rfl H
    · refine r_f2 (pc' := 30) (L' := [(0, .ref 143), (1, .int X1)]) hq (z_at.mk 3 rfl rfl) rfl hx1 hV_26 c_27 rfl rfl ?_
      refine r_p hq 4 (pc' := 34) (L' := [(0, .ref 143), (1, .int X1), (2, .int ((0 : Int32))), (3, .int ((0 : Int32)))]) (st' := []) rfl ?_
      exact g_m_misses_L34_ok ih zK hx1 (rfl : (0 : Int32).toInt = 0) (rfl : (0 : Int32).toInt = 0) H h
def g_m_misses (σ : zS) : Option (Unit × zS) :=
  (g_m_copies 152 150 0 0 σ).bind fun o_10 =>
  let s_15 := zu o_10.2 143 10 1
  g_m_misses_L20 zK 0 s_15
set_option maxHeartbeats 4000000 in
theorem g_m_misses_ok {xl : Nat} {xs : Nat → Int32} {σ : zS} {p : Nat} {m : zM} {o : Unit × zS} (H : zRep xl xs p m σ) (h : g_m_misses σ = some o) : zGo xl xs (fun p' => p = p') 4 181 0 (z_can 181 0 (lv_args 0 [.ref 143])) [] m vV o.2 := by
  have hq : z_mth 181 = some z_r181 := rfl
  unfold g_m_misses at h
  show zGo xl xs (fun p' => p = p') 4 181 0 [(0, .ref 143)] [] m vV o.2
  refine r_p hq 1 (pc' := 1) (L' := [(0, .ref 143)]) (st' := [.ref 143]) rfl ?_
  refine r_gR (b := 152) (pc' := 4) (L' := [(0, .ref 143)]) H hq (z_at.mk 3 rfl rfl) rfl rfl rfl rfl ?_
  refine r_p hq 2 (pc' := 6) (L' := [(0, .ref 143)]) (st' := [.ref 143, .int ((0 : Int32)), .ref 152]) rfl ?_
  refine r_gR (b := 150) (pc' := 9) (L' := [(0, .ref 143)]) H hq (z_at.mk 3 rfl rfl) rfl rfl rfl rfl ?_
  refine r_p hq 1 (pc' := 10) (L' := [(0, .ref 143)]) (st' := [.int ((0 : Int32)), .ref 150, .int ((0 : Int32)), .ref 152]) rfl ?_
  obtain ⟨o_10, h_10, h⟩ := Option.bind_eq_some_iff.mp h
  refine r_csV (pc' := 13) (L' := [(0, .ref 143)]) (As := [.ref 152, .int ((0 : Int32)), .ref 150, .int ((0 : Int32))]) (rest := []) (j := 166) hq (z_at.mk 3 rfl rfl) (Or.inl ⟨rfl, rfl⟩) rfl rfl (by omega) (g_m_copies_ok rfl rfl (rfl : (0 : Int32).toInt = 0) (rfl : (0 : Int32).toInt = 0) H h_10) rfl rfl ?_
  intro m_10 p_10 e_10 H_10
  subst e_10
  refine r_p hq 2 (pc' := 15) (L' := [(0, .ref 143)]) (st' := [.int ((1 : Int32)), .ref 143]) rfl ?_
  refine r_pI (X := (1 : Int32)) (pc' := 18) (L' := [(0, .ref 143)]) H_10 hq (z_at.mk 3 rfl rfl) rfl rfl (rfl : (1 : Int32).toInt = 1) (by decide) rfl rfl rfl rfl ?_
  intro m_15 H_15
  refine r_p hq 2 (pc' := 20) (L' := [(0, .ref 143), (1, .int ((0 : Int32)))]) (st' := []) rfl ?_
  exact g_m_misses_L20_ok zK (rfl : (0 : Int32).toInt = 0) H_15 h
def g_m_asks (a1 : Nat) (x2 : Int) (σ : zS) : Option (Unit × zS) :=
  let v_6 := σ 144 2
  let s_9 := zu σ 144 2 (w32 (v_6 + 1))
  let v_16 := s_9 144 3
  (g_m_cost a1 x2 s_9).bind fun o_20 =>
  let s_24 := zu o_20.2 144 3 (w32 (v_16 + o_20.1))
  some ((), s_24)
set_option maxHeartbeats 4000000 in
theorem g_m_asks_ok {xl : Nat} {xs : Nat → Int32} {a1 : Nat} (ha1 : zIn [144, 150, 151, 152, 153, 156, 157, 161, 164, 165] a1 = true) {X2 : Int32} {x2 : Int} (hx2 : X2.toInt = x2) {σ : zS} {p : Nat} {m : zM} {o : Unit × zS} (H : zRep xl xs p m σ) (h : g_m_asks a1 x2 σ = some o) : zGo xl xs (fun p' => p = p') 5 182 0 (z_can 182 0 (lv_args 0 [.ref 143, .ref a1, .int X2])) [] m vV o.2 := by
  have hq : z_mth 182 = some z_r182 := rfl
  unfold g_m_asks at h
  show zGo xl xs (fun p' => p = p') 5 182 0 [(0, .ref 143), (1, .ref a1), (2, .int X2)] [] m vV o.2
  refine r_p hq 1 (pc' := 1) (L' := [(0, .ref 143), (1, .ref a1), (2, .int X2)]) (st' := [.ref 143]) rfl ?_
  refine r_gR (b := 144) (pc' := 4) (L' := [(0, .ref 143), (1, .ref a1), (2, .int X2)]) H hq (z_at.mk 3 rfl rfl) rfl rfl rfl rfl ?_
  refine r_p hq 2 (pc' := 6) (L' := [(0, .ref 143), (1, .ref a1), (2, .int X2)]) (st' := [.int ((2 : Int32)), .ref 144, .int ((2 : Int32)), .ref 144]) rfl ?_
  refine r_ia (pc' := 7) (L' := [(0, .ref 143), (1, .ref a1), (2, .int X2)]) H hq (z_at.mk 1 rfl rfl) (show zAr 144 0 2740 = true from rfl) (rfl : (2 : Int32).toInt = 2) ⟨by decide, by decide⟩ rfl rfl ?_
  intro V_6 hV_6
  refine r_p hq 2 (pc' := 9) (L' := [(0, .ref 143), (1, .ref a1), (2, .int X2)]) (st' := [.int (V_6 + ((1 : Int32))), .int ((2 : Int32)), .ref 144]) rfl ?_
  refine r_is (pc' := 10) (L' := [(0, .ref 143), (1, .ref a1), (2, .int X2)]) H hq (z_at.mk 1 rfl rfl) (show zAr 144 0 2740 = true from rfl) (rfl : (2 : Int32).toInt = 2) ⟨by decide, by decide⟩ (tx_iadd hV_6 (rfl : (1 : Int32).toInt = 1)) rfl rfl ?_
  intro m_9 H_9
  refine r_p hq 1 (pc' := 11) (L' := [(0, .ref 143), (1, .ref a1), (2, .int X2)]) (st' := [.ref 143]) rfl ?_
  refine r_gR (b := 144) (pc' := 14) (L' := [(0, .ref 143), (1, .ref a1), (2, .int X2)]) H_9 hq (z_at.mk 3 rfl rfl) rfl rfl rfl rfl ?_
  refine r_p hq 2 (pc' := 16) (L' := [(0, .ref 143), (1, .ref a1), (2, .int X2)]) (st' := [.int ((3 : Int32)), .ref 144, .int ((3 : Int32)), .ref 144]) rfl ?_
  refine r_ia (pc' := 17) (L' := [(0, .ref 143), (1, .ref a1), (2, .int X2)]) H_9 hq (z_at.mk 1 rfl rfl) (show zAr 144 0 2740 = true from rfl) (rfl : (3 : Int32).toInt = 3) ⟨by decide, by decide⟩ rfl rfl ?_
  intro V_16 hV_16
  refine r_p hq 3 (pc' := 20) (L' := [(0, .ref 143), (1, .ref a1), (2, .int X2)]) (st' := [.int X2, .ref a1, .ref 143, .int V_16, .int ((3 : Int32)), .ref 144]) rfl ?_
  obtain ⟨o_20, h_20, h⟩ := Option.bind_eq_some_iff.mp h
  refine r_cvI (pc' := 23) (L' := [(0, .ref 143), (1, .ref a1), (2, .int X2)]) (Ps := [.ref a1, .int X2]) (rest := [.int V_16, .int ((3 : Int32)), .ref 144]) hq (z_at.mk 3 rfl rfl) (Or.inl ⟨rfl, rfl⟩) rfl rfl (by decide) (by decide) rfl (Nat.not_lt.mpr (Nat.le_of_ble_eq_true rfl)) rfl rfl (z_cat_le 3 rfl (by decide)) (z_lgl_le 3 rfl (by decide)) (by decide) (H_9.tg rfl) (by omega) (g_m_cost_ok (zIn_all (l := [144, 150, 151, 152, 153, 156, 157, 161, 164, 165]) (p := fun a => zIn [144, 150, 151, 152, 153, 156, 157, 161, 164, 165] a) rfl ha1) hx2 H_9 h_20) rfl rfl ?_
  intro R_20 m_20 p_20 e_20 hR_20 H_20
  subst e_20
  refine r_p hq 1 (pc' := 24) (L' := [(0, .ref 143), (1, .ref a1), (2, .int X2)]) (st' := [.int (V_16 + R_20), .int ((3 : Int32)), .ref 144]) rfl ?_
  refine r_is (pc' := 25) (L' := [(0, .ref 143), (1, .ref a1), (2, .int X2)]) H_20 hq (z_at.mk 1 rfl rfl) (show zAr 144 0 2740 = true from rfl) (rfl : (3 : Int32).toInt = 3) ⟨by decide, by decide⟩ (tx_iadd hV_16 hR_20) rfl rfl ?_
  intro m_24 H_24
  cases h
  exact r_rv hq (z_at.mk 1 rfl rfl) rfl rfl H_24
def g_m_isOneBox_L183 (x5 : Int) (xs0 : Int) (σ : zS) : Option (Int × zS) :=
  if x5 ≠ 0 then
    some (1, σ)
  else
    if xs0 = 0 then
      some (0, σ)
    else
      some (1, σ)
set_option maxHeartbeats 4000000 in
theorem g_m_isOneBox_L183_ok {xl : Nat} {xs : Nat → Int32} {X5 : Int32} {x5 : Int} (hx5 : X5.toInt = x5) {Xs0 : Int32} {xs0 : Int} (hxs0 : Xs0.toInt = xs0) {σ : zS} {p : Nat} {m : zM} {o : Int × zS} (H : zRep xl xs p m σ) (h : g_m_isOneBox_L183 x5 xs0 σ = some o) : zGo xl xs (fun p' => p = p') 2 183 183 [(5, .int X5)] [.int Xs0] m (vI o.1) o.2 := by
  have hq : z_mth 183 = some z_r183 := rfl
  unfold g_m_isOneBox_L183 at h
  refine r_p hq 2 (pc' := 187) (L' := [(6, .int Xs0), (5, .int X5)]) (st' := [.int X5]) rfl ?_
  rcases z_ite h with ⟨c_187, h⟩ | ⟨c_187, h⟩
  · refine r_t1 (pc' := 195) (L' := []) hq (z_at.mk 3 rfl rfl) rfl hx5 c_187 rfl rfl ?_
    refine r_p hq 2 (pc' := 200) (L' := []) (st' := [.int ((1 : Int32))]) rfl ?_
    cases h
    exact r_ri hq (z_at.mk 1 rfl rfl) rfl rfl (rfl : (1 : Int32).toInt = 1) rfl H
  · refine r_f1 (pc' := 190) (L' := [(6, .int Xs0), (5, .int X5)]) hq (z_at.mk 3 rfl rfl) rfl hx5 c_187 rfl rfl ?_
    refine r_p hq 1 (pc' := 192) (L' := [(6, .int Xs0), (5, .int X5)]) (st' := [.int Xs0]) rfl ?_
    rcases z_ite h with ⟨c_192, h⟩ | ⟨c_192, h⟩
    · refine r_t1 (pc' := 199) (L' := [(6, .int Xs0), (5, .int X5)]) hq (z_at.mk 3 rfl rfl) rfl hxs0 c_192 rfl rfl ?_
      refine r_p hq 1 (pc' := 200) (L' := []) (st' := [.int ((0 : Int32))]) rfl ?_
      cases h
      exact r_ri hq (z_at.mk 1 rfl rfl) rfl rfl (rfl : (0 : Int32).toInt = 0) rfl H
    · refine r_f1 (pc' := 195) (L' := []) hq (z_at.mk 3 rfl rfl) rfl hxs0 c_192 rfl rfl ?_
      refine r_p hq 2 (pc' := 200) (L' := []) (st' := [.int ((1 : Int32))]) rfl ?_
      cases h
      exact r_ri hq (z_at.mk 1 rfl rfl) rfl rfl (rfl : (1 : Int32).toInt = 1) rfl H
def g_m_isOneBox_L178 (x5 : Int) (σ : zS) : Option (Int × zS) :=
  g_m_isOneBox_L183 x5 1 σ
set_option maxHeartbeats 4000000 in
theorem g_m_isOneBox_L178_ok {xl : Nat} {xs : Nat → Int32} {X5 : Int32} {x5 : Int} (hx5 : X5.toInt = x5) {σ : zS} {p : Nat} {m : zM} {o : Int × zS} (H : zRep xl xs p m σ) (h : g_m_isOneBox_L178 x5 σ = some o) : zGo xl xs (fun p' => p = p') 2 183 178 [(5, .int X5)] [] m (vI o.1) o.2 := by
  have hq : z_mth 183 = some z_r183 := rfl
  unfold g_m_isOneBox_L178 at h
  refine r_p hq 2 (pc' := 183) (L' := [(5, .int X5)]) (st' := [.int ((1 : Int32))]) rfl ?_
  exact g_m_isOneBox_L183_ok hx5 (rfl : (1 : Int32).toInt = 1) H h
def g_m_isOneBox_L182 (x5 : Int) (σ : zS) : Option (Int × zS) :=
  g_m_isOneBox_L183 x5 0 σ
set_option maxHeartbeats 4000000 in
theorem g_m_isOneBox_L182_ok {xl : Nat} {xs : Nat → Int32} {X5 : Int32} {x5 : Int} (hx5 : X5.toInt = x5) {σ : zS} {p : Nat} {m : zM} {o : Int × zS} (H : zRep xl xs p m σ) (h : g_m_isOneBox_L182 x5 σ = some o) : zGo xl xs (fun p' => p = p') 2 183 182 [(5, .int X5)] [] m (vI o.1) o.2 := by
  have hq : z_mth 183 = some z_r183 := rfl
  unfold g_m_isOneBox_L182 at h
  refine r_p hq 1 (pc' := 183) (L' := [(5, .int X5)]) (st' := [.int ((0 : Int32))]) rfl ?_
  exact g_m_isOneBox_L183_ok hx5 (rfl : (0 : Int32).toInt = 0) H h
def g_m_isOneBox_L96 (x3 : Int) (x4 : Int) (xs0 : Int) (σ : zS) : Option (Int × zS) :=
  if 0 ≤ x3 ∧ x3 < 2740 then
  let v_103 := σ 144 x3
  if 0 ≤ x4 ∧ x4 < 2740 then
  let v_110 := σ 144 x4
  if v_103 ≠ v_110 then
    g_m_isOneBox_L182 xs0 σ
  else
    if 0 ≤ w32 (x3 + 1) ∧ w32 (x3 + 1) < 2740 then
    let v_121 := σ 144 (w32 (x3 + 1))
    if 0 ≤ w32 (x4 + 1) ∧ w32 (x4 + 1) < 2740 then
    let v_130 := σ 144 (w32 (x4 + 1))
    if v_121 ≠ v_130 then
      g_m_isOneBox_L182 xs0 σ
    else
      if 0 ≤ w32 (x3 + 3) ∧ w32 (x3 + 3) < 2740 then
      let v_141 := σ 144 (w32 (x3 + 3))
      if 0 ≤ w32 (x4 + 2) ∧ w32 (x4 + 2) < 2740 then
      let v_152 := σ 144 (w32 (x4 + 2))
      if w32 (v_141 + 1) = v_152 then
        g_m_isOneBox_L178 xs0 σ
      else
        if 0 ≤ w32 (x4 + 3) ∧ w32 (x4 + 3) < 2740 then
        let v_164 := σ 144 (w32 (x4 + 3))
        if 0 ≤ w32 (x3 + 2) ∧ w32 (x3 + 2) < 2740 then
        let v_174 := σ 144 (w32 (x3 + 2))
        if w32 (v_164 + 1) ≠ v_174 then
          g_m_isOneBox_L182 xs0 σ
        else
          g_m_isOneBox_L178 xs0 σ
        else none
        else none
      else none
      else none
    else none
    else none
  else none
  else none
set_option maxHeartbeats 4000000 in
theorem g_m_isOneBox_L96_ok {xl : Nat} {xs : Nat → Int32} {X3 : Int32} {x3 : Int} (hx3 : X3.toInt = x3) {X4 : Int32} {x4 : Int} (hx4 : X4.toInt = x4) {Xs0 : Int32} {xs0 : Int} (hxs0 : Xs0.toInt = xs0) {σ : zS} {p : Nat} {m : zM} {o : Int × zS} (H : zRep xl xs p m σ) (h : g_m_isOneBox_L96 x3 x4 xs0 σ = some o) : zGo xl xs (fun p' => p = p') 2 183 96 [(0, .ref 143), (3, .int X3), (4, .int X4)] [.int Xs0] m (vI o.1) o.2 := by
  have hq : z_mth 183 = some z_r183 := rfl
  unfold g_m_isOneBox_L96 at h
  refine r_p hq 2 (pc' := 99) (L' := [(5, .int Xs0), (0, .ref 143), (3, .int X3), (4, .int X4)]) (st' := [.ref 143]) rfl ?_
  refine r_gR (b := 144) (pc' := 102) (L' := [(5, .int Xs0), (0, .ref 143), (3, .int X3), (4, .int X4)]) H hq (z_at.mk 3 rfl rfl) rfl rfl rfl rfl ?_
  refine r_p hq 1 (pc' := 103) (L' := [(5, .int Xs0), (0, .ref 143), (3, .int X3), (4, .int X4)]) (st' := [.int X3, .ref 144]) rfl ?_
  obtain ⟨g_103, h⟩ := z_ifo_some h
  refine r_ia (pc' := 104) (L' := [(5, .int Xs0), (0, .ref 143), (3, .int X3), (4, .int X4)]) H hq (z_at.mk 1 rfl rfl) (show zAr 144 0 2740 = true from rfl) hx3 g_103 rfl rfl ?_
  intro V_103 hV_103
  refine r_p hq 1 (pc' := 105) (L' := [(5, .int Xs0), (0, .ref 143), (3, .int X3), (4, .int X4)]) (st' := [.ref 143, .int V_103]) rfl ?_
  refine r_gR (b := 144) (pc' := 108) (L' := [(5, .int Xs0), (0, .ref 143), (3, .int X3), (4, .int X4)]) H hq (z_at.mk 3 rfl rfl) rfl rfl rfl rfl ?_
  refine r_p hq 1 (pc' := 110) (L' := [(5, .int Xs0), (0, .ref 143), (3, .int X3), (4, .int X4)]) (st' := [.int X4, .ref 144, .int V_103]) rfl ?_
  obtain ⟨g_110, h⟩ := z_ifo_some h
  refine r_ia (pc' := 111) (L' := [(5, .int Xs0), (0, .ref 143), (3, .int X3), (4, .int X4)]) H hq (z_at.mk 1 rfl rfl) (show zAr 144 0 2740 = true from rfl) hx4 g_110 rfl rfl ?_
  intro V_110 hV_110
  rcases z_ite h with ⟨c_111, h⟩ | ⟨c_111, h⟩
  · refine r_t2 (pc' := 182) (L' := [(5, .int Xs0)]) hq (z_at.mk 3 rfl rfl) rfl hV_103 hV_110 c_111 rfl rfl ?_
    exact g_m_isOneBox_L182_ok hxs0 H h
  · refine r_f2 (pc' := 114) (L' := [(5, .int Xs0), (0, .ref 143), (3, .int X3), (4, .int X4)]) hq (z_at.mk 3 rfl rfl) rfl hV_103 hV_110 c_111 rfl rfl ?_
    refine r_p hq 1 (pc' := 115) (L' := [(5, .int Xs0), (0, .ref 143), (3, .int X3), (4, .int X4)]) (st' := [.ref 143]) rfl ?_
    refine r_gR (b := 144) (pc' := 118) (L' := [(5, .int Xs0), (0, .ref 143), (3, .int X3), (4, .int X4)]) H hq (z_at.mk 3 rfl rfl) rfl rfl rfl rfl ?_
    refine r_p hq 3 (pc' := 121) (L' := [(5, .int Xs0), (0, .ref 143), (3, .int X3), (4, .int X4)]) (st' := [.int (X3 + ((1 : Int32))), .ref 144]) rfl ?_
    obtain ⟨g_121, h⟩ := z_ifo_some h
    refine r_ia (pc' := 122) (L' := [(5, .int Xs0), (0, .ref 143), (3, .int X3), (4, .int X4)]) H hq (z_at.mk 1 rfl rfl) (show zAr 144 0 2740 = true from rfl) (tx_iadd hx3 (rfl : (1 : Int32).toInt = 1)) g_121 rfl rfl ?_
    intro V_121 hV_121
    refine r_p hq 1 (pc' := 123) (L' := [(5, .int Xs0), (0, .ref 143), (3, .int X3), (4, .int X4)]) (st' := [.ref 143, .int V_121]) rfl ?_
    refine r_gR (b := 144) (pc' := 126) (L' := [(5, .int Xs0), (0, .ref 143), (3, .int X3), (4, .int X4)]) H hq (z_at.mk 3 rfl rfl) rfl rfl rfl rfl ?_
    refine r_p hq 3 (pc' := 130) (L' := [(5, .int Xs0), (0, .ref 143), (3, .int X3), (4, .int X4)]) (st' := [.int (X4 + ((1 : Int32))), .ref 144, .int V_121]) rfl ?_
    obtain ⟨g_130, h⟩ := z_ifo_some h
    refine r_ia (pc' := 131) (L' := [(5, .int Xs0), (0, .ref 143), (3, .int X3), (4, .int X4)]) H hq (z_at.mk 1 rfl rfl) (show zAr 144 0 2740 = true from rfl) (tx_iadd hx4 (rfl : (1 : Int32).toInt = 1)) g_130 rfl rfl ?_
    intro V_130 hV_130
    rcases z_ite h with ⟨c_131, h⟩ | ⟨c_131, h⟩
    · refine r_t2 (pc' := 182) (L' := [(5, .int Xs0)]) hq (z_at.mk 3 rfl rfl) rfl hV_121 hV_130 c_131 rfl rfl ?_
      exact g_m_isOneBox_L182_ok hxs0 H h
    · refine r_f2 (pc' := 134) (L' := [(5, .int Xs0), (0, .ref 143), (3, .int X3), (4, .int X4)]) hq (z_at.mk 3 rfl rfl) rfl hV_121 hV_130 c_131 rfl rfl ?_
      refine r_p hq 1 (pc' := 135) (L' := [(5, .int Xs0), (0, .ref 143), (3, .int X3), (4, .int X4)]) (st' := [.ref 143]) rfl ?_
      refine r_gR (b := 144) (pc' := 138) (L' := [(5, .int Xs0), (0, .ref 143), (3, .int X3), (4, .int X4)]) H hq (z_at.mk 3 rfl rfl) rfl rfl rfl rfl ?_
      refine r_p hq 3 (pc' := 141) (L' := [(5, .int Xs0), (0, .ref 143), (3, .int X3), (4, .int X4)]) (st' := [.int (X3 + ((3 : Int32))), .ref 144]) rfl ?_
      obtain ⟨g_141, h⟩ := z_ifo_some h
      refine r_ia (pc' := 142) (L' := [(5, .int Xs0), (0, .ref 143), (3, .int X3), (4, .int X4)]) H hq (z_at.mk 1 rfl rfl) (show zAr 144 0 2740 = true from rfl) (tx_iadd hx3 (rfl : (3 : Int32).toInt = 3)) g_141 rfl rfl ?_
      intro V_141 hV_141
      refine r_p hq 3 (pc' := 145) (L' := [(5, .int Xs0), (0, .ref 143), (3, .int X3), (4, .int X4)]) (st' := [.ref 143, .int (V_141 + ((1 : Int32)))]) rfl ?_
      refine r_gR (b := 144) (pc' := 148) (L' := [(5, .int Xs0), (0, .ref 143), (3, .int X3), (4, .int X4)]) H hq (z_at.mk 3 rfl rfl) rfl rfl rfl rfl ?_
      refine r_p hq 3 (pc' := 152) (L' := [(5, .int Xs0), (0, .ref 143), (3, .int X3), (4, .int X4)]) (st' := [.int (X4 + ((2 : Int32))), .ref 144, .int (V_141 + ((1 : Int32)))]) rfl ?_
      obtain ⟨g_152, h⟩ := z_ifo_some h
      refine r_ia (pc' := 153) (L' := [(5, .int Xs0), (0, .ref 143), (3, .int X3), (4, .int X4)]) H hq (z_at.mk 1 rfl rfl) (show zAr 144 0 2740 = true from rfl) (tx_iadd hx4 (rfl : (2 : Int32).toInt = 2)) g_152 rfl rfl ?_
      intro V_152 hV_152
      rcases z_ite h with ⟨c_153, h⟩ | ⟨c_153, h⟩
      · refine r_t2 (pc' := 178) (L' := [(5, .int Xs0)]) hq (z_at.mk 3 rfl rfl) rfl (tx_iadd hV_141 (rfl : (1 : Int32).toInt = 1)) hV_152 c_153 rfl rfl ?_
        exact g_m_isOneBox_L178_ok hxs0 H h
      · refine r_f2 (pc' := 156) (L' := [(5, .int Xs0), (0, .ref 143), (3, .int X3), (4, .int X4)]) hq (z_at.mk 3 rfl rfl) rfl (tx_iadd hV_141 (rfl : (1 : Int32).toInt = 1)) hV_152 c_153 rfl rfl ?_
        refine r_p hq 1 (pc' := 157) (L' := [(5, .int Xs0), (0, .ref 143), (3, .int X3), (4, .int X4)]) (st' := [.ref 143]) rfl ?_
        refine r_gR (b := 144) (pc' := 160) (L' := [(5, .int Xs0), (0, .ref 143), (3, .int X3), (4, .int X4)]) H hq (z_at.mk 3 rfl rfl) rfl rfl rfl rfl ?_
        refine r_p hq 3 (pc' := 164) (L' := [(5, .int Xs0), (0, .ref 143), (3, .int X3), (4, .int X4)]) (st' := [.int (X4 + ((3 : Int32))), .ref 144]) rfl ?_
        obtain ⟨g_164, h⟩ := z_ifo_some h
        refine r_ia (pc' := 165) (L' := [(5, .int Xs0), (0, .ref 143), (3, .int X3), (4, .int X4)]) H hq (z_at.mk 1 rfl rfl) (show zAr 144 0 2740 = true from rfl) (tx_iadd hx4 (rfl : (3 : Int32).toInt = 3)) g_164 rfl rfl ?_
        intro V_164 hV_164
        refine r_p hq 3 (pc' := 168) (L' := [(5, .int Xs0), (0, .ref 143), (3, .int X3), (4, .int X4)]) (st' := [.ref 143, .int (V_164 + ((1 : Int32)))]) rfl ?_
        refine r_gR (b := 144) (pc' := 171) (L' := [(5, .int Xs0), (0, .ref 143), (3, .int X3), (4, .int X4)]) H hq (z_at.mk 3 rfl rfl) rfl rfl rfl rfl ?_
        refine r_p hq 3 (pc' := 174) (L' := [(5, .int Xs0), (0, .ref 143), (3, .int X3), (4, .int X4)]) (st' := [.int (X3 + ((2 : Int32))), .ref 144, .int (V_164 + ((1 : Int32)))]) rfl ?_
        obtain ⟨g_174, h⟩ := z_ifo_some h
        refine r_ia (pc' := 175) (L' := [(5, .int Xs0), (0, .ref 143), (3, .int X3), (4, .int X4)]) H hq (z_at.mk 1 rfl rfl) (show zAr 144 0 2740 = true from rfl) (tx_iadd hx3 (rfl : (2 : Int32).toInt = 2)) g_174 rfl rfl ?_
        intro V_174 hV_174
        rcases z_ite h with ⟨c_175, h⟩ | ⟨c_175, h⟩
        · refine r_t2 (pc' := 182) (L' := [(5, .int Xs0)]) hq (z_at.mk 3 rfl rfl) rfl (tx_iadd hV_164 (rfl : (1 : Int32).toInt = 1)) hV_174 c_175 rfl rfl ?_
          exact g_m_isOneBox_L182_ok hxs0 H h
        · refine r_f2 (pc' := 178) (L' := [(5, .int Xs0)]) hq (z_at.mk 3 rfl rfl) rfl (tx_iadd hV_164 (rfl : (1 : Int32).toInt = 1)) hV_174 c_175 rfl rfl ?_
          exact g_m_isOneBox_L178_ok hxs0 H h
def g_m_isOneBox_L91 (x3 : Int) (x4 : Int) (σ : zS) : Option (Int × zS) :=
  g_m_isOneBox_L96 x3 x4 1 σ
set_option maxHeartbeats 4000000 in
theorem g_m_isOneBox_L91_ok {xl : Nat} {xs : Nat → Int32} {X3 : Int32} {x3 : Int} (hx3 : X3.toInt = x3) {X4 : Int32} {x4 : Int} (hx4 : X4.toInt = x4) {σ : zS} {p : Nat} {m : zM} {o : Int × zS} (H : zRep xl xs p m σ) (h : g_m_isOneBox_L91 x3 x4 σ = some o) : zGo xl xs (fun p' => p = p') 2 183 91 [(0, .ref 143), (3, .int X3), (4, .int X4)] [] m (vI o.1) o.2 := by
  have hq : z_mth 183 = some z_r183 := rfl
  unfold g_m_isOneBox_L91 at h
  refine r_p hq 2 (pc' := 96) (L' := [(0, .ref 143), (3, .int X3), (4, .int X4)]) (st' := [.int ((1 : Int32))]) rfl ?_
  exact g_m_isOneBox_L96_ok hx3 hx4 (rfl : (1 : Int32).toInt = 1) H h
def g_m_isOneBox_L95 (x3 : Int) (x4 : Int) (σ : zS) : Option (Int × zS) :=
  g_m_isOneBox_L96 x3 x4 0 σ
set_option maxHeartbeats 4000000 in
theorem g_m_isOneBox_L95_ok {xl : Nat} {xs : Nat → Int32} {X3 : Int32} {x3 : Int} (hx3 : X3.toInt = x3) {X4 : Int32} {x4 : Int} (hx4 : X4.toInt = x4) {σ : zS} {p : Nat} {m : zM} {o : Int × zS} (H : zRep xl xs p m σ) (h : g_m_isOneBox_L95 x3 x4 σ = some o) : zGo xl xs (fun p' => p = p') 2 183 95 [(0, .ref 143), (3, .int X3), (4, .int X4)] [] m (vI o.1) o.2 := by
  have hq : z_mth 183 = some z_r183 := rfl
  unfold g_m_isOneBox_L95 at h
  refine r_p hq 1 (pc' := 96) (L' := [(0, .ref 143), (3, .int X3), (4, .int X4)]) (st' := [.int ((0 : Int32))]) rfl ?_
  exact g_m_isOneBox_L96_ok hx3 hx4 (rfl : (0 : Int32).toInt = 0) H h
def g_m_isOneBox (x1 : Int) (x2 : Int) (σ : zS) : Option (Int × zS) :=
  (g_m_region_173 x1 σ).bind fun o_1 =>
  (g_m_region_173 x2 o_1.2).bind fun o_6 =>
  if 0 ≤ w32 (o_1.1 + 2) ∧ w32 (o_1.1 + 2) < 2740 then
  let v_18 := o_6.2 144 (w32 (o_1.1 + 2))
  if 0 ≤ w32 (o_6.1 + 2) ∧ w32 (o_6.1 + 2) < 2740 then
  let v_27 := o_6.2 144 (w32 (o_6.1 + 2))
  if v_18 ≠ v_27 then
    g_m_isOneBox_L95 o_1.1 o_6.1 o_6.2
  else
    if 0 ≤ w32 (o_1.1 + 3) ∧ w32 (o_1.1 + 3) < 2740 then
    let v_38 := o_6.2 144 (w32 (o_1.1 + 3))
    if 0 ≤ w32 (o_6.1 + 3) ∧ w32 (o_6.1 + 3) < 2740 then
    let v_47 := o_6.2 144 (w32 (o_6.1 + 3))
    if v_38 ≠ v_47 then
      g_m_isOneBox_L95 o_1.1 o_6.1 o_6.2
    else
      if 0 ≤ w32 (o_1.1 + 1) ∧ w32 (o_1.1 + 1) < 2740 then
      let v_58 := o_6.2 144 (w32 (o_1.1 + 1))
      if 0 ≤ o_6.1 ∧ o_6.1 < 2740 then
      let v_67 := o_6.2 144 o_6.1
      if w32 (v_58 + 1) = v_67 then
        g_m_isOneBox_L91 o_1.1 o_6.1 o_6.2
      else
        if 0 ≤ w32 (o_6.1 + 1) ∧ w32 (o_6.1 + 1) < 2740 then
        let v_79 := o_6.2 144 (w32 (o_6.1 + 1))
        if 0 ≤ o_1.1 ∧ o_1.1 < 2740 then
        let v_87 := o_6.2 144 o_1.1
        if w32 (v_79 + 1) ≠ v_87 then
          g_m_isOneBox_L95 o_1.1 o_6.1 o_6.2
        else
          g_m_isOneBox_L91 o_1.1 o_6.1 o_6.2
        else none
        else none
      else none
      else none
    else none
    else none
  else none
  else none
set_option maxHeartbeats 4000000 in
theorem g_m_isOneBox_ok {xl : Nat} {xs : Nat → Int32} {X1 : Int32} {x1 : Int} (hx1 : X1.toInt = x1) {X2 : Int32} {x2 : Int} (hx2 : X2.toInt = x2) {σ : zS} {p : Nat} {m : zM} {o : Int × zS} (H : zRep xl xs p m σ) (h : g_m_isOneBox x1 x2 σ = some o) : zGo xl xs (fun p' => p = p') 2 183 0 (z_can 183 0 (lv_args 0 [.ref 143, .int X1, .int X2])) [] m (vI o.1) o.2 := by
  have hq : z_mth 183 = some z_r183 := rfl
  unfold g_m_isOneBox at h
  show zGo xl xs (fun p' => p = p') 2 183 0 [(0, .ref 143), (1, .int X1), (2, .int X2)] [] m (vI o.1) o.2
  refine r_p hq 1 (pc' := 1) (L' := [(0, .ref 143), (1, .int X1), (2, .int X2)]) (st' := [.int X1]) rfl ?_
  obtain ⟨o_1, h_1, h⟩ := Option.bind_eq_some_iff.mp h
  refine r_csI (pc' := 4) (L' := [(0, .ref 143), (1, .int X1), (2, .int X2)]) (As := [.int X1]) (rest := []) (j := 173) hq (z_at.mk 3 rfl rfl) (Or.inl ⟨rfl, rfl⟩) rfl rfl (by omega) (g_m_region_173_ok hx1 H h_1) rfl rfl ?_
  intro R_1 m_1 p_1 e_1 hR_1 H_1
  subst e_1
  refine r_p hq 2 (pc' := 6) (L' := [(3, .int R_1), (0, .ref 143), (1, .int X1), (2, .int X2)]) (st' := [.int X2]) rfl ?_
  obtain ⟨o_6, h_6, h⟩ := Option.bind_eq_some_iff.mp h
  refine r_csI (pc' := 9) (L' := [(3, .int R_1), (0, .ref 143), (1, .int X1), (2, .int X2)]) (As := [.int X2]) (rest := []) (j := 173) hq (z_at.mk 3 rfl rfl) (Or.inl ⟨rfl, rfl⟩) rfl rfl (by omega) (g_m_region_173_ok hx2 H_1 h_6) rfl rfl ?_
  intro R_6 m_6 p_6 e_6 hR_6 H_6
  subst e_6
  refine r_p hq 2 (pc' := 12) (L' := [(4, .int R_6), (3, .int R_1), (0, .ref 143), (1, .int X1), (2, .int X2)]) (st' := [.ref 143]) rfl ?_
  refine r_gR (b := 144) (pc' := 15) (L' := [(4, .int R_6), (3, .int R_1), (0, .ref 143), (1, .int X1), (2, .int X2)]) H_6 hq (z_at.mk 3 rfl rfl) rfl rfl rfl rfl ?_
  refine r_p hq 3 (pc' := 18) (L' := [(4, .int R_6), (3, .int R_1), (0, .ref 143), (1, .int X1), (2, .int X2)]) (st' := [.int (R_1 + ((2 : Int32))), .ref 144]) rfl ?_
  obtain ⟨g_18, h⟩ := z_ifo_some h
  refine r_ia (pc' := 19) (L' := [(4, .int R_6), (3, .int R_1), (0, .ref 143), (1, .int X1), (2, .int X2)]) H_6 hq (z_at.mk 1 rfl rfl) (show zAr 144 0 2740 = true from rfl) (tx_iadd hR_1 (rfl : (2 : Int32).toInt = 2)) g_18 rfl rfl ?_
  intro V_18 hV_18
  refine r_p hq 1 (pc' := 20) (L' := [(4, .int R_6), (3, .int R_1), (0, .ref 143), (1, .int X1), (2, .int X2)]) (st' := [.ref 143, .int V_18]) rfl ?_
  refine r_gR (b := 144) (pc' := 23) (L' := [(4, .int R_6), (3, .int R_1), (0, .ref 143), (1, .int X1), (2, .int X2)]) H_6 hq (z_at.mk 3 rfl rfl) rfl rfl rfl rfl ?_
  refine r_p hq 3 (pc' := 27) (L' := [(4, .int R_6), (3, .int R_1), (0, .ref 143), (1, .int X1), (2, .int X2)]) (st' := [.int (R_6 + ((2 : Int32))), .ref 144, .int V_18]) rfl ?_
  obtain ⟨g_27, h⟩ := z_ifo_some h
  refine r_ia (pc' := 28) (L' := [(4, .int R_6), (3, .int R_1), (0, .ref 143), (1, .int X1), (2, .int X2)]) H_6 hq (z_at.mk 1 rfl rfl) (show zAr 144 0 2740 = true from rfl) (tx_iadd hR_6 (rfl : (2 : Int32).toInt = 2)) g_27 rfl rfl ?_
  intro V_27 hV_27
  rcases z_ite h with ⟨c_28, h⟩ | ⟨c_28, h⟩
  · refine r_t2 (pc' := 95) (L' := [(0, .ref 143), (3, .int R_1), (4, .int R_6)]) hq (z_at.mk 3 rfl rfl) rfl hV_18 hV_27 c_28 rfl rfl ?_
    exact g_m_isOneBox_L95_ok hR_1 hR_6 H_6 h
  · refine r_f2 (pc' := 31) (L' := [(4, .int R_6), (3, .int R_1), (0, .ref 143), (1, .int X1), (2, .int X2)]) hq (z_at.mk 3 rfl rfl) rfl hV_18 hV_27 c_28 rfl rfl ?_
    refine r_p hq 1 (pc' := 32) (L' := [(4, .int R_6), (3, .int R_1), (0, .ref 143), (1, .int X1), (2, .int X2)]) (st' := [.ref 143]) rfl ?_
    refine r_gR (b := 144) (pc' := 35) (L' := [(4, .int R_6), (3, .int R_1), (0, .ref 143), (1, .int X1), (2, .int X2)]) H_6 hq (z_at.mk 3 rfl rfl) rfl rfl rfl rfl ?_
    refine r_p hq 3 (pc' := 38) (L' := [(4, .int R_6), (3, .int R_1), (0, .ref 143), (1, .int X1), (2, .int X2)]) (st' := [.int (R_1 + ((3 : Int32))), .ref 144]) rfl ?_
    obtain ⟨g_38, h⟩ := z_ifo_some h
    refine r_ia (pc' := 39) (L' := [(4, .int R_6), (3, .int R_1), (0, .ref 143), (1, .int X1), (2, .int X2)]) H_6 hq (z_at.mk 1 rfl rfl) (show zAr 144 0 2740 = true from rfl) (tx_iadd hR_1 (rfl : (3 : Int32).toInt = 3)) g_38 rfl rfl ?_
    intro V_38 hV_38
    refine r_p hq 1 (pc' := 40) (L' := [(4, .int R_6), (3, .int R_1), (0, .ref 143), (1, .int X1), (2, .int X2)]) (st' := [.ref 143, .int V_38]) rfl ?_
    refine r_gR (b := 144) (pc' := 43) (L' := [(4, .int R_6), (3, .int R_1), (0, .ref 143), (1, .int X1), (2, .int X2)]) H_6 hq (z_at.mk 3 rfl rfl) rfl rfl rfl rfl ?_
    refine r_p hq 3 (pc' := 47) (L' := [(4, .int R_6), (3, .int R_1), (0, .ref 143), (1, .int X1), (2, .int X2)]) (st' := [.int (R_6 + ((3 : Int32))), .ref 144, .int V_38]) rfl ?_
    obtain ⟨g_47, h⟩ := z_ifo_some h
    refine r_ia (pc' := 48) (L' := [(4, .int R_6), (3, .int R_1), (0, .ref 143), (1, .int X1), (2, .int X2)]) H_6 hq (z_at.mk 1 rfl rfl) (show zAr 144 0 2740 = true from rfl) (tx_iadd hR_6 (rfl : (3 : Int32).toInt = 3)) g_47 rfl rfl ?_
    intro V_47 hV_47
    rcases z_ite h with ⟨c_48, h⟩ | ⟨c_48, h⟩
    · refine r_t2 (pc' := 95) (L' := [(0, .ref 143), (3, .int R_1), (4, .int R_6)]) hq (z_at.mk 3 rfl rfl) rfl hV_38 hV_47 c_48 rfl rfl ?_
      exact g_m_isOneBox_L95_ok hR_1 hR_6 H_6 h
    · refine r_f2 (pc' := 51) (L' := [(4, .int R_6), (3, .int R_1), (0, .ref 143), (1, .int X1), (2, .int X2)]) hq (z_at.mk 3 rfl rfl) rfl hV_38 hV_47 c_48 rfl rfl ?_
      refine r_p hq 1 (pc' := 52) (L' := [(4, .int R_6), (3, .int R_1), (0, .ref 143), (1, .int X1), (2, .int X2)]) (st' := [.ref 143]) rfl ?_
      refine r_gR (b := 144) (pc' := 55) (L' := [(4, .int R_6), (3, .int R_1), (0, .ref 143), (1, .int X1), (2, .int X2)]) H_6 hq (z_at.mk 3 rfl rfl) rfl rfl rfl rfl ?_
      refine r_p hq 3 (pc' := 58) (L' := [(4, .int R_6), (3, .int R_1), (0, .ref 143), (1, .int X1), (2, .int X2)]) (st' := [.int (R_1 + ((1 : Int32))), .ref 144]) rfl ?_
      obtain ⟨g_58, h⟩ := z_ifo_some h
      refine r_ia (pc' := 59) (L' := [(4, .int R_6), (3, .int R_1), (0, .ref 143), (1, .int X1), (2, .int X2)]) H_6 hq (z_at.mk 1 rfl rfl) (show zAr 144 0 2740 = true from rfl) (tx_iadd hR_1 (rfl : (1 : Int32).toInt = 1)) g_58 rfl rfl ?_
      intro V_58 hV_58
      refine r_p hq 3 (pc' := 62) (L' := [(4, .int R_6), (3, .int R_1), (0, .ref 143), (1, .int X1), (2, .int X2)]) (st' := [.ref 143, .int (V_58 + ((1 : Int32)))]) rfl ?_
      refine r_gR (b := 144) (pc' := 65) (L' := [(4, .int R_6), (3, .int R_1), (0, .ref 143), (1, .int X1), (2, .int X2)]) H_6 hq (z_at.mk 3 rfl rfl) rfl rfl rfl rfl ?_
      refine r_p hq 1 (pc' := 67) (L' := [(4, .int R_6), (3, .int R_1), (0, .ref 143), (1, .int X1), (2, .int X2)]) (st' := [.int R_6, .ref 144, .int (V_58 + ((1 : Int32)))]) rfl ?_
      obtain ⟨g_67, h⟩ := z_ifo_some h
      refine r_ia (pc' := 68) (L' := [(4, .int R_6), (3, .int R_1), (0, .ref 143), (1, .int X1), (2, .int X2)]) H_6 hq (z_at.mk 1 rfl rfl) (show zAr 144 0 2740 = true from rfl) hR_6 g_67 rfl rfl ?_
      intro V_67 hV_67
      rcases z_ite h with ⟨c_68, h⟩ | ⟨c_68, h⟩
      · refine r_t2 (pc' := 91) (L' := [(0, .ref 143), (3, .int R_1), (4, .int R_6)]) hq (z_at.mk 3 rfl rfl) rfl (tx_iadd hV_58 (rfl : (1 : Int32).toInt = 1)) hV_67 c_68 rfl rfl ?_
        exact g_m_isOneBox_L91_ok hR_1 hR_6 H_6 h
      · refine r_f2 (pc' := 71) (L' := [(4, .int R_6), (3, .int R_1), (0, .ref 143), (1, .int X1), (2, .int X2)]) hq (z_at.mk 3 rfl rfl) rfl (tx_iadd hV_58 (rfl : (1 : Int32).toInt = 1)) hV_67 c_68 rfl rfl ?_
        refine r_p hq 1 (pc' := 72) (L' := [(4, .int R_6), (3, .int R_1), (0, .ref 143), (1, .int X1), (2, .int X2)]) (st' := [.ref 143]) rfl ?_
        refine r_gR (b := 144) (pc' := 75) (L' := [(4, .int R_6), (3, .int R_1), (0, .ref 143), (1, .int X1), (2, .int X2)]) H_6 hq (z_at.mk 3 rfl rfl) rfl rfl rfl rfl ?_
        refine r_p hq 3 (pc' := 79) (L' := [(4, .int R_6), (3, .int R_1), (0, .ref 143), (1, .int X1), (2, .int X2)]) (st' := [.int (R_6 + ((1 : Int32))), .ref 144]) rfl ?_
        obtain ⟨g_79, h⟩ := z_ifo_some h
        refine r_ia (pc' := 80) (L' := [(4, .int R_6), (3, .int R_1), (0, .ref 143), (1, .int X1), (2, .int X2)]) H_6 hq (z_at.mk 1 rfl rfl) (show zAr 144 0 2740 = true from rfl) (tx_iadd hR_6 (rfl : (1 : Int32).toInt = 1)) g_79 rfl rfl ?_
        intro V_79 hV_79
        refine r_p hq 3 (pc' := 83) (L' := [(4, .int R_6), (3, .int R_1), (0, .ref 143), (1, .int X1), (2, .int X2)]) (st' := [.ref 143, .int (V_79 + ((1 : Int32)))]) rfl ?_
        refine r_gR (b := 144) (pc' := 86) (L' := [(4, .int R_6), (3, .int R_1), (0, .ref 143), (1, .int X1), (2, .int X2)]) H_6 hq (z_at.mk 3 rfl rfl) rfl rfl rfl rfl ?_
        refine r_p hq 1 (pc' := 87) (L' := [(4, .int R_6), (3, .int R_1), (0, .ref 143), (1, .int X1), (2, .int X2)]) (st' := [.int R_1, .ref 144, .int (V_79 + ((1 : Int32)))]) rfl ?_
        obtain ⟨g_87, h⟩ := z_ifo_some h
        refine r_ia (pc' := 88) (L' := [(4, .int R_6), (3, .int R_1), (0, .ref 143), (1, .int X1), (2, .int X2)]) H_6 hq (z_at.mk 1 rfl rfl) (show zAr 144 0 2740 = true from rfl) hR_1 g_87 rfl rfl ?_
        intro V_87 hV_87
        rcases z_ite h with ⟨c_88, h⟩ | ⟨c_88, h⟩
        · refine r_t2 (pc' := 95) (L' := [(0, .ref 143), (3, .int R_1), (4, .int R_6)]) hq (z_at.mk 3 rfl rfl) rfl (tx_iadd hV_79 (rfl : (1 : Int32).toInt = 1)) hV_87 c_88 rfl rfl ?_
          exact g_m_isOneBox_L95_ok hR_1 hR_6 H_6 h
        · refine r_f2 (pc' := 91) (L' := [(0, .ref 143), (3, .int R_1), (4, .int R_6)]) hq (z_at.mk 3 rfl rfl) rfl (tx_iadd hV_79 (rfl : (1 : Int32).toInt = 1)) hV_87 c_88 rfl rfl ?_
          exact g_m_isOneBox_L91_ok hR_1 hR_6 H_6 h
def g_m_joins_L130 (x2 : Int) (σ : zS) : Option (Unit × zS) :=
  (g_m_goes x2 σ).bind fun o_132 =>
  let v_142 := o_132.2 144 6
  let s_145 := zu o_132.2 144 6 (w32 (v_142 + 1))
  some ((), s_145)
set_option maxHeartbeats 4000000 in
theorem g_m_joins_L130_ok {xl : Nat} {xs : Nat → Int32} {X2 : Int32} {x2 : Int} (hx2 : X2.toInt = x2) {σ : zS} {p : Nat} {m : zM} {o : Unit × zS} (H : zRep xl xs p m σ) (h : g_m_joins_L130 x2 σ = some o) : zGo xl xs (fun p' => p = p') 4 184 130 [(0, .ref 143), (2, .int X2)] [] m vV o.2 := by
  have hq : z_mth 184 = some z_r184 := rfl
  unfold g_m_joins_L130 at h
  refine r_p hq 2 (pc' := 132) (L' := [(0, .ref 143), (2, .int X2)]) (st' := [.int X2, .ref 143]) rfl ?_
  obtain ⟨o_132, h_132, h⟩ := Option.bind_eq_some_iff.mp h
  refine r_cvV (pc' := 135) (L' := [(0, .ref 143), (2, .int X2)]) (Ps := [.int X2]) (rest := []) hq (z_at.mk 3 rfl rfl) (Or.inl ⟨rfl, rfl⟩) rfl rfl (by decide) (by decide) rfl (Nat.not_lt.mpr (Nat.le_of_ble_eq_true rfl)) rfl rfl (z_cat_le 0 rfl (by decide)) (z_lgl_le 2 rfl (by decide)) (by decide) (H.tg rfl) (by omega) (g_m_goes_ok hx2 H h_132) rfl rfl ?_
  intro m_132 p_132 e_132 H_132
  subst e_132
  refine r_p hq 1 (pc' := 136) (L' := [(0, .ref 143), (2, .int X2)]) (st' := [.ref 143]) rfl ?_
  refine r_gR (b := 144) (pc' := 139) (L' := [(0, .ref 143), (2, .int X2)]) H_132 hq (z_at.mk 3 rfl rfl) rfl rfl rfl rfl ?_
  refine r_p hq 2 (pc' := 142) (L' := [(0, .ref 143), (2, .int X2)]) (st' := [.int ((6 : Int32)), .ref 144, .int ((6 : Int32)), .ref 144]) rfl ?_
  refine r_ia (pc' := 143) (L' := [(0, .ref 143), (2, .int X2)]) H_132 hq (z_at.mk 1 rfl rfl) (show zAr 144 0 2740 = true from rfl) (rfl : (6 : Int32).toInt = 6) ⟨by decide, by decide⟩ rfl rfl ?_
  intro V_142 hV_142
  refine r_p hq 2 (pc' := 145) (L' := [(0, .ref 143), (2, .int X2)]) (st' := [.int (V_142 + ((1 : Int32))), .int ((6 : Int32)), .ref 144]) rfl ?_
  refine r_is (pc' := 146) (L' := [(0, .ref 143), (2, .int X2)]) H_132 hq (z_at.mk 1 rfl rfl) (show zAr 144 0 2740 = true from rfl) (rfl : (6 : Int32).toInt = 6) ⟨by decide, by decide⟩ (tx_iadd hV_142 (rfl : (1 : Int32).toInt = 1)) rfl rfl ?_
  intro m_145 H_145
  cases h
  exact r_rv hq (z_at.mk 1 rfl rfl) rfl rfl H_145
def g_m_joins_L90 (x1 : Int) (x2 : Int) (σ : zS) : Option (Unit × zS) :=
  if 0 ≤ w32 (121 + x2) ∧ w32 (121 + x2) < 361 then
  let v_98 := σ 147 (w32 (121 + x2))
  if 0 ≤ w32 (121 + x1) ∧ w32 (121 + x1) < 361 then
  let v_107 := σ 147 (w32 (121 + x1))
  if lCmp v_98 v_107 ≤ 0 then
    g_m_joins_L130 x2 σ
  else
    if 0 ≤ w32 (121 + x2) ∧ w32 (121 + x2) < 361 then
    let v_128 := σ 147 (w32 (121 + x2))
    if 0 ≤ w32 (121 + x1) ∧ w32 (121 + x1) < 361 then
    let s_129 := zu σ 147 (w32 (121 + x1)) v_128
    g_m_joins_L130 x2 s_129
    else none
    else none
  else none
  else none
set_option maxHeartbeats 4000000 in
theorem g_m_joins_L90_ok {xl : Nat} {xs : Nat → Int32} {X1 : Int32} {x1 : Int} (hx1 : X1.toInt = x1) {X2 : Int32} {x2 : Int} (hx2 : X2.toInt = x2) {σ : zS} {p : Nat} {m : zM} {o : Unit × zS} (H : zRep xl xs p m σ) (h : g_m_joins_L90 x1 x2 σ = some o) : zGo xl xs (fun p' => p = p') 4 184 90 [(0, .ref 143), (1, .int X1), (2, .int X2)] [] m vV o.2 := by
  have hq : z_mth 184 = some z_r184 := rfl
  unfold g_m_joins_L90 at h
  refine r_p hq 1 (pc' := 91) (L' := [(0, .ref 143), (1, .int X1), (2, .int X2)]) (st' := [.ref 143]) rfl ?_
  refine r_gR (b := 147) (pc' := 94) (L' := [(0, .ref 143), (1, .int X1), (2, .int X2)]) H hq (z_at.mk 3 rfl rfl) rfl rfl rfl rfl ?_
  refine r_p hq 3 (pc' := 98) (L' := [(0, .ref 143), (1, .int X1), (2, .int X2)]) (st' := [.int (((121 : Int32)) + X2), .ref 147]) rfl ?_
  obtain ⟨g_98, h⟩ := z_ifo_some h
  refine r_la (pc' := 99) (L' := [(0, .ref 143), (1, .int X1), (2, .int X2)]) H hq (z_at.mk 1 rfl rfl) (show zAr 147 1 361 = true from rfl) (tx_iadd (rfl : (121 : Int32).toInt = 121) hx2) g_98 rfl rfl ?_
  intro V_98 hV_98
  refine r_p hq 1 (pc' := 100) (L' := [(0, .ref 143), (1, .int X1), (2, .int X2)]) (st' := [.ref 143, .long V_98]) rfl ?_
  refine r_gR (b := 147) (pc' := 103) (L' := [(0, .ref 143), (1, .int X1), (2, .int X2)]) H hq (z_at.mk 3 rfl rfl) rfl rfl rfl rfl ?_
  refine r_p hq 3 (pc' := 107) (L' := [(0, .ref 143), (1, .int X1), (2, .int X2)]) (st' := [.int (((121 : Int32)) + X1), .ref 147, .long V_98]) rfl ?_
  obtain ⟨g_107, h⟩ := z_ifo_some h
  refine r_la (pc' := 108) (L' := [(0, .ref 143), (1, .int X1), (2, .int X2)]) H hq (z_at.mk 1 rfl rfl) (show zAr 147 1 361 = true from rfl) (tx_iadd (rfl : (121 : Int32).toInt = 121) hx1) g_107 rfl rfl ?_
  intro V_107 hV_107
  refine r_p hq 1 (pc' := 109) (L' := [(0, .ref 143), (1, .int X1), (2, .int X2)]) (st' := [.int (lg_cmp V_98 V_107)]) rfl ?_
  rcases z_ite h with ⟨c_109, h⟩ | ⟨c_109, h⟩
  · refine r_t1 (pc' := 130) (L' := [(0, .ref 143), (2, .int X2)]) hq (z_at.mk 3 rfl rfl) rfl (tx_lcmp hV_98 hV_107) c_109 rfl rfl ?_
    exact g_m_joins_L130_ok hx2 H h
  · refine r_f1 (pc' := 112) (L' := [(0, .ref 143), (1, .int X1), (2, .int X2)]) hq (z_at.mk 3 rfl rfl) rfl (tx_lcmp hV_98 hV_107) c_109 rfl rfl ?_
    refine r_p hq 1 (pc' := 113) (L' := [(0, .ref 143), (1, .int X1), (2, .int X2)]) (st' := [.ref 143]) rfl ?_
    refine r_gR (b := 147) (pc' := 116) (L' := [(0, .ref 143), (1, .int X1), (2, .int X2)]) H hq (z_at.mk 3 rfl rfl) rfl rfl rfl rfl ?_
    refine r_p hq 4 (pc' := 121) (L' := [(0, .ref 143), (1, .int X1), (2, .int X2)]) (st' := [.ref 143, .int (((121 : Int32)) + X1), .ref 147]) rfl ?_
    refine r_gR (b := 147) (pc' := 124) (L' := [(0, .ref 143), (1, .int X1), (2, .int X2)]) H hq (z_at.mk 3 rfl rfl) rfl rfl rfl rfl ?_
    refine r_p hq 3 (pc' := 128) (L' := [(0, .ref 143), (1, .int X1), (2, .int X2)]) (st' := [.int (((121 : Int32)) + X2), .ref 147, .int (((121 : Int32)) + X1), .ref 147]) rfl ?_
    obtain ⟨g_128, h⟩ := z_ifo_some h
    refine r_la (pc' := 129) (L' := [(0, .ref 143), (1, .int X1), (2, .int X2)]) H hq (z_at.mk 1 rfl rfl) (show zAr 147 1 361 = true from rfl) (tx_iadd (rfl : (121 : Int32).toInt = 121) hx2) g_128 rfl rfl ?_
    intro V_128 hV_128
    obtain ⟨g_129, h⟩ := z_ifo_some h
    refine r_ls (pc' := 130) (L' := [(0, .ref 143), (2, .int X2)]) H hq (z_at.mk 1 rfl rfl) (show zAr 147 1 361 = true from rfl) (tx_iadd (rfl : (121 : Int32).toInt = 121) hx1) g_129 hV_128 rfl rfl ?_
    intro m_129 H_129
    exact g_m_joins_L130_ok hx2 H_129 h
def g_m_joins (x1 : Int) (x2 : Int) (σ : zS) : Option (Unit × zS) :=
  (g_m_region_173 x1 σ).bind fun o_1 =>
  (g_m_region_173 x2 o_1.2).bind fun o_6 =>
  (g_m_arounds 144 144 o_1.1 o_6.1 o_6.2).bind fun o_22 =>
  if 0 ≤ w32 (o_1.1 + 9) ∧ w32 (o_1.1 + 9) < 2740 then
  let v_44 := o_22.2 144 (w32 (o_1.1 + 9))
  if 0 ≤ w32 (o_6.1 + 9) ∧ w32 (o_6.1 + 9) < 2740 then
  let v_54 := o_22.2 144 (w32 (o_6.1 + 9))
  (g_m_less 9999 (w32 (v_44 + v_54)) o_22.2).bind fun o_56 =>
  if 0 ≤ w32 (o_1.1 + 9) ∧ w32 (o_1.1 + 9) < 2740 then
  let s_59 := zu o_56.2 144 (w32 (o_1.1 + 9)) o_56.1
  if 0 ≤ w32 (o_6.1 + 4) ∧ w32 (o_6.1 + 4) < 2740 then
  let v_68 := s_59 144 (w32 (o_6.1 + 4))
  if v_68 < 0 then
    g_m_joins_L90 x1 x2 s_59
  else
    (g_m_arounds 144 144 (w32 (o_1.1 + 4)) (w32 (o_6.1 + 4)) s_59).bind fun o_87 =>
    g_m_joins_L90 x1 x2 o_87.2
  else none
  else none
  else none
  else none
set_option maxHeartbeats 4000000 in
theorem g_m_joins_ok {xl : Nat} {xs : Nat → Int32} {X1 : Int32} {x1 : Int} (hx1 : X1.toInt = x1) {X2 : Int32} {x2 : Int} (hx2 : X2.toInt = x2) {σ : zS} {p : Nat} {m : zM} {o : Unit × zS} (H : zRep xl xs p m σ) (h : g_m_joins x1 x2 σ = some o) : zGo xl xs (fun p' => p = p') 4 184 0 (z_can 184 0 (lv_args 0 [.ref 143, .int X1, .int X2])) [] m vV o.2 := by
  have hq : z_mth 184 = some z_r184 := rfl
  unfold g_m_joins at h
  show zGo xl xs (fun p' => p = p') 4 184 0 [(0, .ref 143), (1, .int X1), (2, .int X2)] [] m vV o.2
  refine r_p hq 1 (pc' := 1) (L' := [(0, .ref 143), (1, .int X1), (2, .int X2)]) (st' := [.int X1]) rfl ?_
  obtain ⟨o_1, h_1, h⟩ := Option.bind_eq_some_iff.mp h
  refine r_csI (pc' := 4) (L' := [(0, .ref 143), (1, .int X1), (2, .int X2)]) (As := [.int X1]) (rest := []) (j := 173) hq (z_at.mk 3 rfl rfl) (Or.inl ⟨rfl, rfl⟩) rfl rfl (by omega) (g_m_region_173_ok hx1 H h_1) rfl rfl ?_
  intro R_1 m_1 p_1 e_1 hR_1 H_1
  subst e_1
  refine r_p hq 2 (pc' := 6) (L' := [(3, .int R_1), (0, .ref 143), (1, .int X1), (2, .int X2)]) (st' := [.int X2]) rfl ?_
  obtain ⟨o_6, h_6, h⟩ := Option.bind_eq_some_iff.mp h
  refine r_csI (pc' := 9) (L' := [(3, .int R_1), (0, .ref 143), (1, .int X1), (2, .int X2)]) (As := [.int X2]) (rest := []) (j := 173) hq (z_at.mk 3 rfl rfl) (Or.inl ⟨rfl, rfl⟩) rfl rfl (by omega) (g_m_region_173_ok hx2 H_1 h_6) rfl rfl ?_
  intro R_6 m_6 p_6 e_6 hR_6 H_6
  subst e_6
  refine r_p hq 2 (pc' := 12) (L' := [(4, .int R_6), (3, .int R_1), (0, .ref 143), (1, .int X1), (2, .int X2)]) (st' := [.ref 143]) rfl ?_
  refine r_gR (b := 144) (pc' := 15) (L' := [(4, .int R_6), (3, .int R_1), (0, .ref 143), (1, .int X1), (2, .int X2)]) H_6 hq (z_at.mk 3 rfl rfl) rfl rfl rfl rfl ?_
  refine r_p hq 2 (pc' := 17) (L' := [(4, .int R_6), (3, .int R_1), (0, .ref 143), (1, .int X1), (2, .int X2)]) (st' := [.ref 143, .int R_1, .ref 144]) rfl ?_
  refine r_gR (b := 144) (pc' := 20) (L' := [(4, .int R_6), (3, .int R_1), (0, .ref 143), (1, .int X1), (2, .int X2)]) H_6 hq (z_at.mk 3 rfl rfl) rfl rfl rfl rfl ?_
  refine r_p hq 1 (pc' := 22) (L' := [(4, .int R_6), (3, .int R_1), (0, .ref 143), (1, .int X1), (2, .int X2)]) (st' := [.int R_6, .ref 144, .int R_1, .ref 144]) rfl ?_
  obtain ⟨o_22, h_22, h⟩ := Option.bind_eq_some_iff.mp h
  refine r_csV (pc' := 25) (L' := [(4, .int R_6), (3, .int R_1), (0, .ref 143), (1, .int X1), (2, .int X2)]) (As := [.ref 144, .int R_1, .ref 144, .int R_6]) (rest := []) (j := 171) hq (z_at.mk 3 rfl rfl) (Or.inl ⟨rfl, rfl⟩) rfl rfl (by omega) (g_m_arounds_ok rfl rfl hR_1 hR_6 H_6 h_22) rfl rfl ?_
  intro m_22 p_22 e_22 H_22
  subst e_22
  refine r_p hq 1 (pc' := 26) (L' := [(4, .int R_6), (3, .int R_1), (0, .ref 143), (1, .int X1), (2, .int X2)]) (st' := [.ref 143]) rfl ?_
  refine r_gR (b := 144) (pc' := 29) (L' := [(4, .int R_6), (3, .int R_1), (0, .ref 143), (1, .int X1), (2, .int X2)]) H_22 hq (z_at.mk 3 rfl rfl) rfl rfl rfl rfl ?_
  refine r_p hq 5 (pc' := 37) (L' := [(4, .int R_6), (3, .int R_1), (0, .ref 143), (1, .int X1), (2, .int X2)]) (st' := [.ref 143, .int ((9999 : Int32)), .int (R_1 + ((9 : Int32))), .ref 144]) rfl ?_
  refine r_gR (b := 144) (pc' := 40) (L' := [(4, .int R_6), (3, .int R_1), (0, .ref 143), (1, .int X1), (2, .int X2)]) H_22 hq (z_at.mk 3 rfl rfl) rfl rfl rfl rfl ?_
  refine r_p hq 3 (pc' := 44) (L' := [(4, .int R_6), (3, .int R_1), (0, .ref 143), (1, .int X1), (2, .int X2)]) (st' := [.int (R_1 + ((9 : Int32))), .ref 144, .int ((9999 : Int32)), .int (R_1 + ((9 : Int32))), .ref 144]) rfl ?_
  obtain ⟨g_44, h⟩ := z_ifo_some h
  refine r_ia (pc' := 45) (L' := [(4, .int R_6), (3, .int R_1), (0, .ref 143), (1, .int X1), (2, .int X2)]) H_22 hq (z_at.mk 1 rfl rfl) (show zAr 144 0 2740 = true from rfl) (tx_iadd hR_1 (rfl : (9 : Int32).toInt = 9)) g_44 rfl rfl ?_
  intro V_44 hV_44
  refine r_p hq 1 (pc' := 46) (L' := [(4, .int R_6), (3, .int R_1), (0, .ref 143), (1, .int X1), (2, .int X2)]) (st' := [.ref 143, .int V_44, .int ((9999 : Int32)), .int (R_1 + ((9 : Int32))), .ref 144]) rfl ?_
  refine r_gR (b := 144) (pc' := 49) (L' := [(4, .int R_6), (3, .int R_1), (0, .ref 143), (1, .int X1), (2, .int X2)]) H_22 hq (z_at.mk 3 rfl rfl) rfl rfl rfl rfl ?_
  refine r_p hq 3 (pc' := 54) (L' := [(4, .int R_6), (3, .int R_1), (0, .ref 143), (1, .int X1), (2, .int X2)]) (st' := [.int (R_6 + ((9 : Int32))), .ref 144, .int V_44, .int ((9999 : Int32)), .int (R_1 + ((9 : Int32))), .ref 144]) rfl ?_
  obtain ⟨g_54, h⟩ := z_ifo_some h
  refine r_ia (pc' := 55) (L' := [(4, .int R_6), (3, .int R_1), (0, .ref 143), (1, .int X1), (2, .int X2)]) H_22 hq (z_at.mk 1 rfl rfl) (show zAr 144 0 2740 = true from rfl) (tx_iadd hR_6 (rfl : (9 : Int32).toInt = 9)) g_54 rfl rfl ?_
  intro V_54 hV_54
  refine r_p hq 1 (pc' := 56) (L' := [(4, .int R_6), (3, .int R_1), (0, .ref 143), (1, .int X1), (2, .int X2)]) (st' := [.int (V_44 + V_54), .int ((9999 : Int32)), .int (R_1 + ((9 : Int32))), .ref 144]) rfl ?_
  obtain ⟨o_56, h_56, h⟩ := Option.bind_eq_some_iff.mp h
  refine r_csI (pc' := 59) (L' := [(4, .int R_6), (3, .int R_1), (0, .ref 143), (1, .int X1), (2, .int X2)]) (As := [.int ((9999 : Int32)), .int (V_44 + V_54)]) (rest := [.int (R_1 + ((9 : Int32))), .ref 144]) (j := 160) hq (z_at.mk 3 rfl rfl) (Or.inl ⟨rfl, rfl⟩) rfl rfl (by omega) (g_m_less_ok (rfl : (9999 : Int32).toInt = 9999) (tx_iadd hV_44 hV_54) H_22 h_56) rfl rfl ?_
  intro R_56 m_56 p_56 e_56 hR_56 H_56
  subst e_56
  obtain ⟨g_59, h⟩ := z_ifo_some h
  refine r_is (pc' := 60) (L' := [(4, .int R_6), (3, .int R_1), (0, .ref 143), (1, .int X1), (2, .int X2)]) H_56 hq (z_at.mk 1 rfl rfl) (show zAr 144 0 2740 = true from rfl) (tx_iadd hR_1 (rfl : (9 : Int32).toInt = 9)) g_59 hR_56 rfl rfl ?_
  intro m_59 H_59
  refine r_p hq 1 (pc' := 61) (L' := [(4, .int R_6), (3, .int R_1), (0, .ref 143), (1, .int X1), (2, .int X2)]) (st' := [.ref 143]) rfl ?_
  refine r_gR (b := 144) (pc' := 64) (L' := [(4, .int R_6), (3, .int R_1), (0, .ref 143), (1, .int X1), (2, .int X2)]) H_59 hq (z_at.mk 3 rfl rfl) rfl rfl rfl rfl ?_
  refine r_p hq 3 (pc' := 68) (L' := [(4, .int R_6), (3, .int R_1), (0, .ref 143), (1, .int X1), (2, .int X2)]) (st' := [.int (R_6 + ((4 : Int32))), .ref 144]) rfl ?_
  obtain ⟨g_68, h⟩ := z_ifo_some h
  refine r_ia (pc' := 69) (L' := [(4, .int R_6), (3, .int R_1), (0, .ref 143), (1, .int X1), (2, .int X2)]) H_59 hq (z_at.mk 1 rfl rfl) (show zAr 144 0 2740 = true from rfl) (tx_iadd hR_6 (rfl : (4 : Int32).toInt = 4)) g_68 rfl rfl ?_
  intro V_68 hV_68
  rcases z_ite h with ⟨c_69, h⟩ | ⟨c_69, h⟩
  · refine r_t1 (pc' := 90) (L' := [(0, .ref 143), (1, .int X1), (2, .int X2)]) hq (z_at.mk 3 rfl rfl) rfl hV_68 c_69 rfl rfl ?_
    exact g_m_joins_L90_ok hx1 hx2 H_59 h
  · refine r_f1 (pc' := 72) (L' := [(4, .int R_6), (3, .int R_1), (0, .ref 143), (1, .int X1), (2, .int X2)]) hq (z_at.mk 3 rfl rfl) rfl hV_68 c_69 rfl rfl ?_
    refine r_p hq 1 (pc' := 73) (L' := [(4, .int R_6), (3, .int R_1), (0, .ref 143), (1, .int X1), (2, .int X2)]) (st' := [.ref 143]) rfl ?_
    refine r_gR (b := 144) (pc' := 76) (L' := [(4, .int R_6), (3, .int R_1), (0, .ref 143), (1, .int X1), (2, .int X2)]) H_59 hq (z_at.mk 3 rfl rfl) rfl rfl rfl rfl ?_
    refine r_p hq 4 (pc' := 80) (L' := [(4, .int R_6), (3, .int R_1), (0, .ref 143), (1, .int X1), (2, .int X2)]) (st' := [.ref 143, .int (R_1 + ((4 : Int32))), .ref 144]) rfl ?_
    refine r_gR (b := 144) (pc' := 83) (L' := [(4, .int R_6), (3, .int R_1), (0, .ref 143), (1, .int X1), (2, .int X2)]) H_59 hq (z_at.mk 3 rfl rfl) rfl rfl rfl rfl ?_
    refine r_p hq 3 (pc' := 87) (L' := [(4, .int R_6), (3, .int R_1), (0, .ref 143), (1, .int X1), (2, .int X2)]) (st' := [.int (R_6 + ((4 : Int32))), .ref 144, .int (R_1 + ((4 : Int32))), .ref 144]) rfl ?_
    obtain ⟨o_87, h_87, h⟩ := Option.bind_eq_some_iff.mp h
    refine r_csV (pc' := 90) (L' := [(0, .ref 143), (1, .int X1), (2, .int X2)]) (As := [.ref 144, .int (R_1 + ((4 : Int32))), .ref 144, .int (R_6 + ((4 : Int32)))]) (rest := []) (j := 171) hq (z_at.mk 3 rfl rfl) (Or.inl ⟨rfl, rfl⟩) rfl rfl (by omega) (g_m_arounds_ok rfl rfl (tx_iadd hR_1 (rfl : (4 : Int32).toInt = 4)) (tx_iadd hR_6 (rfl : (4 : Int32).toInt = 4)) H_59 h_87) rfl rfl ?_
    intro m_87 p_87 e_87 H_87
    subst e_87
    exact g_m_joins_L90_ok hx1 hx2 H_87 h
def g_m_isMerged_L16 (g2 : Int → zS → Option (Int × zS)) : Nat → Int → Int → zS → Option (Int × zS)
  | 0, _, _, _ => none
  | n + 1, x1, x2, σ =>
    let v_22 := σ 144 0
    if v_22 ≤ x2 then
      g2 (w32 (x1 + 1)) σ
    else
      (g_m_isOneBox x1 x2 σ).bind fun o_29 =>
      if o_29.1 ≠ 0 then
        (g_m_joins x1 x2 o_29.2).bind fun o_41 =>
        some (1, o_41.2)
      else
        (g_m_isMerged_L16 g2 n) x1 (w32 (x2 + 1)) o_29.2
set_option maxHeartbeats 4000000 in
theorem g_m_isMerged_L16_ok {xl : Nat} {xs : Nat → Int32} {g2 : Int → zS → Option (Int × zS)} (hg2 : ∀ {X1 : Int32} {x1 : Int} {σ : zS} {p : Nat} {m : zM} {o : Int × zS}, X1.toInt = x1 → zRep xl xs p m σ → g2 x1 σ = some o → zGo xl xs (fun p' => p = p') 5 185 2 [(0, .ref 143), (1, .int X1)] [] m (vI o.1) o.2) : ∀ (n : Nat) {X1 : Int32} {x1 : Int} {X2 : Int32} {x2 : Int} {σ : zS} {p : Nat} {m : zM} {o : Int × zS}, X1.toInt = x1 → X2.toInt = x2 → zRep xl xs p m σ → g_m_isMerged_L16 g2 n x1 x2 σ = some o → zGo xl xs (fun p' => p = p') 5 185 16 [(0, .ref 143), (1, .int X1), (2, .int X2)] [] m (vI o.1) o.2
  | 0, _, _, _, _, _, _, _, _, _, _, _, h => by cases h
  | n + 1, X1, x1, X2, x2, σ, p, m, o, hx1, hx2, H, h => by
    have hq : z_mth 185 = some z_r185 := rfl
    have ih := fun {X1 : Int32} {x1 : Int} {X2 : Int32} {x2 : Int} {σ : zS} {p : Nat} {m : zM} {o : Int × zS} => g_m_isMerged_L16_ok (xl := xl) (xs := xs) hg2 n (X1 := X1) (x1 := x1) (X2 := X2) (x2 := x2) (σ := σ) (p := p) (m := m) (o := o)
    unfold g_m_isMerged_L16 at h
    refine r_p hq 2 (pc' := 18) (L' := [(0, .ref 143), (1, .int X1), (2, .int X2)]) (st' := [.ref 143, .int X2]) rfl ?_
    refine r_gR (b := 144) (pc' := 21) (L' := [(0, .ref 143), (1, .int X1), (2, .int X2)]) H hq (z_at.mk 3 rfl rfl) rfl rfl rfl rfl ?_
    refine r_p hq 1 (pc' := 22) (L' := [(0, .ref 143), (1, .int X1), (2, .int X2)]) (st' := [.int ((0 : Int32)), .ref 144, .int X2]) rfl ?_
    refine r_ia (pc' := 23) (L' := [(0, .ref 143), (1, .int X1), (2, .int X2)]) H hq (z_at.mk 1 rfl rfl) (show zAr 144 0 2740 = true from rfl) (rfl : (0 : Int32).toInt = 0) ⟨by decide, by decide⟩ rfl rfl ?_
    intro V_22 hV_22
    rcases z_ite h with ⟨c_23, h⟩ | ⟨c_23, h⟩
    · refine r_t2 (pc' := 52) (L' := [(0, .ref 143), (1, .int X1), (2, .int X2)]) hq (z_at.mk 3 rfl rfl) rfl hx2 hV_22 c_23 rfl rfl ?_
      refine r_p hq 2 (pc' := 2) (L' := [(0, .ref 143), (1, .int (X1 + (1 : Int32)))]) (st' := []) rfl ?_
      exact hg2 (tx_iadd hx1 (rfl : (1 : Int32).toInt = 1)) H h
    · refine r_f2 (pc' := 26) (L' := [(0, .ref 143), (1, .int X1), (2, .int X2)]) hq (z_at.mk 3 rfl rfl) rfl hx2 hV_22 c_23 rfl rfl ?_
      refine r_p hq 3 (pc' := 29) (L' := [(0, .ref 143), (1, .int X1), (2, .int X2)]) (st' := [.int X2, .int X1, .ref 143]) rfl ?_
      obtain ⟨o_29, h_29, h⟩ := Option.bind_eq_some_iff.mp h
      refine r_cvI (pc' := 32) (L' := [(0, .ref 143), (1, .int X1), (2, .int X2)]) (Ps := [.int X1, .int X2]) (rest := []) hq (z_at.mk 3 rfl rfl) (Or.inl ⟨rfl, rfl⟩) rfl rfl (by decide) (by decide) rfl (Nat.not_lt.mpr (Nat.le_of_ble_eq_true rfl)) rfl rfl (z_cat_le 0 rfl (by decide)) (z_lgl_le 3 rfl (by decide)) (by decide) (H.tg rfl) (by omega) (g_m_isOneBox_ok hx1 hx2 H h_29) rfl rfl ?_
      intro R_29 m_29 p_29 e_29 hR_29 H_29
      subst e_29
      rcases z_ite h with ⟨c_32, h⟩ | ⟨c_32, h⟩
      · refine r_t1 (pc' := 38) (L' := [(0, .ref 143), (1, .int X1), (2, .int X2)]) hq (z_at.mk 3 rfl rfl) rfl hR_29 c_32 rfl rfl ?_
        refine r_p hq 3 (pc' := 41) (L' := [(0, .ref 143), (1, .int X1), (2, .int X2)]) (st' := [.int X2, .int X1, .ref 143]) rfl ?_
        obtain ⟨o_41, h_41, h⟩ := Option.bind_eq_some_iff.mp h
        refine r_cvV (pc' := 44) (L' := [(0, .ref 143), (1, .int X1), (2, .int X2)]) (Ps := [.int X1, .int X2]) (rest := []) hq (z_at.mk 3 rfl rfl) (Or.inl ⟨rfl, rfl⟩) rfl rfl (by decide) (by decide) rfl (Nat.not_lt.mpr (Nat.le_of_ble_eq_true rfl)) rfl rfl (z_cat_le 0 rfl (by decide)) (z_lgl_le 3 rfl (by decide)) (by decide) (H_29.tg rfl) (by omega) (g_m_joins_ok hx1 hx2 H_29 h_41) rfl rfl ?_
        intro m_41 p_41 e_41 H_41
        subst e_41
        refine r_p hq 1 (pc' := 45) (L' := [(0, .ref 143), (1, .int X1), (2, .int X2)]) (st' := [.int ((1 : Int32))]) rfl ?_
        cases h
        exact r_ri hq (z_at.mk 1 rfl rfl) rfl rfl (rfl : (1 : Int32).toInt = 1) rfl H_41
      · refine r_f1 (pc' := 35) (L' := [(0, .ref 143), (1, .int X1), (2, .int X2)]) hq (z_at.mk 3 rfl rfl) rfl hR_29 c_32 rfl rfl ?_
        refine r_p hq 3 (pc' := 16) (L' := [(0, .ref 143), (1, .int X1), (2, .int (X2 + (1 : Int32)))]) (st' := []) rfl ?_
        exact ih hx1 (tx_iadd hx2 (rfl : (1 : Int32).toInt = 1)) H_29 h
def g_m_isMerged_L2 : Nat → Int → zS → Option (Int × zS)
  | 0, _, _ => none
  | n + 1, x1, σ =>
    let v_8 := σ 144 0
    if v_8 ≤ x1 then
      some (0, σ)
    else
      g_m_isMerged_L16 ((g_m_isMerged_L2 n)) zK x1 (w32 (x1 + 1)) σ
set_option maxHeartbeats 4000000 in
theorem g_m_isMerged_L2_ok {xl : Nat} {xs : Nat → Int32} : ∀ (n : Nat) {X1 : Int32} {x1 : Int} {σ : zS} {p : Nat} {m : zM} {o : Int × zS}, X1.toInt = x1 → zRep xl xs p m σ → g_m_isMerged_L2 n x1 σ = some o → zGo xl xs (fun p' => p = p') 5 185 2 [(0, .ref 143), (1, .int X1)] [] m (vI o.1) o.2
  | 0, _, _, _, _, _, _, _, _, h => by cases h
  | n + 1, X1, x1, σ, p, m, o, hx1, H, h => by
    have hq : z_mth 185 = some z_r185 := rfl
    have ih := fun {X1 : Int32} {x1 : Int} {σ : zS} {p : Nat} {m : zM} {o : Int × zS} => g_m_isMerged_L2_ok (xl := xl) (xs := xs) n (X1 := X1) (x1 := x1) (σ := σ) (p := p) (m := m) (o := o)
    unfold g_m_isMerged_L2 at h
    refine r_p hq 2 (pc' := 4) (L' := [(0, .ref 143), (1, .int X1)]) (st' := [.ref 143, .int X1]) rfl ?_
    refine r_gR (b := 144) (pc' := 7) (L' := [(0, .ref 143), (1, .int X1)]) H hq (z_at.mk 3 rfl rfl) rfl rfl rfl rfl ?_
    refine r_p hq 1 (pc' := 8) (L' := [(0, .ref 143), (1, .int X1)]) (st' := [.int ((0 : Int32)), .ref 144, .int X1]) rfl ?_
    refine r_ia (pc' := 9) (L' := [(0, .ref 143), (1, .int X1)]) H hq (z_at.mk 1 rfl rfl) (show zAr 144 0 2740 = true from rfl) (rfl : (0 : Int32).toInt = 0) ⟨by decide, by decide⟩ rfl rfl ?_
    intro V_8 hV_8
    rcases z_ite h with ⟨c_9, h⟩ | ⟨c_9, h⟩
    · refine r_t2 (pc' := 58) (L' := [(0, .ref 143), (1, .int X1)]) hq (z_at.mk 3 rfl rfl) rfl hx1 hV_8 c_9 rfl rfl ?_
      refine r_p hq 1 (pc' := 59) (L' := [(0, .ref 143), (1, .int X1)]) (st' := [.int ((0 : Int32))]) rfl ?_
      cases h
      exact r_ri hq (z_at.mk 1 rfl rfl) rfl rfl (rfl : (0 : Int32).toInt = 0) rfl H
    · refine r_f2 (pc' := 12) (L' := [(0, .ref 143), (1, .int X1)]) hq (z_at.mk 3 rfl rfl) rfl hx1 hV_8 c_9 rfl rfl ?_
      refine r_p hq 4 (pc' := 16) (L' := [(0, .ref 143), (1, .int X1), (2, .int (X1 + ((1 : Int32))))]) (st' := []) rfl ?_
      exact g_m_isMerged_L16_ok ih zK hx1 (tx_iadd hx1 (rfl : (1 : Int32).toInt = 1)) H h
def g_m_isMerged (σ : zS) : Option (Int × zS) :=
  g_m_isMerged_L2 zK 0 σ
set_option maxHeartbeats 4000000 in
theorem g_m_isMerged_ok {xl : Nat} {xs : Nat → Int32} {σ : zS} {p : Nat} {m : zM} {o : Int × zS} (H : zRep xl xs p m σ) (h : g_m_isMerged σ = some o) : zGo xl xs (fun p' => p = p') 5 185 0 (z_can 185 0 (lv_args 0 [.ref 143])) [] m (vI o.1) o.2 := by
  have hq : z_mth 185 = some z_r185 := rfl
  unfold g_m_isMerged at h
  show zGo xl xs (fun p' => p = p') 5 185 0 [(0, .ref 143)] [] m (vI o.1) o.2
  refine r_p hq 2 (pc' := 2) (L' := [(0, .ref 143), (1, .int ((0 : Int32)))]) (st' := []) rfl ?_
  exact g_m_isMerged_L2_ok zK (rfl : (0 : Int32).toInt = 0) H h
def g_m_sizes_L4 : Nat → Int → Int → zS → Option (Int × zS)
  | 0, _, _, _ => none
  | n + 1, x1, x2, σ =>
    let v_10 := σ 144 0
    if v_10 ≤ x2 then
      some (x1, σ)
    else
      (g_m_size x2 σ).bind fun o_17 =>
      (g_m_sizes_L4 n) (w32 (x1 + o_17.1)) (w32 (x2 + 1)) o_17.2
set_option maxHeartbeats 4000000 in
theorem g_m_sizes_L4_ok {xl : Nat} {xs : Nat → Int32} : ∀ (n : Nat) {X1 : Int32} {x1 : Int} {X2 : Int32} {x2 : Int} {σ : zS} {p : Nat} {m : zM} {o : Int × zS}, X1.toInt = x1 → X2.toInt = x2 → zRep xl xs p m σ → g_m_sizes_L4 n x1 x2 σ = some o → zGo xl xs (fun p' => p = p') 5 186 4 [(0, .ref 143), (1, .int X1), (2, .int X2)] [] m (vI o.1) o.2
  | 0, _, _, _, _, _, _, _, _, _, _, _, h => by cases h
  | n + 1, X1, x1, X2, x2, σ, p, m, o, hx1, hx2, H, h => by
    have hq : z_mth 186 = some z_r186 := rfl
    have ih := fun {X1 : Int32} {x1 : Int} {X2 : Int32} {x2 : Int} {σ : zS} {p : Nat} {m : zM} {o : Int × zS} => g_m_sizes_L4_ok (xl := xl) (xs := xs) n (X1 := X1) (x1 := x1) (X2 := X2) (x2 := x2) (σ := σ) (p := p) (m := m) (o := o)
    unfold g_m_sizes_L4 at h
    refine r_p hq 2 (pc' := 6) (L' := [(0, .ref 143), (1, .int X1), (2, .int X2)]) (st' := [.ref 143, .int X2]) rfl ?_
    refine r_gR (b := 144) (pc' := 9) (L' := [(0, .ref 143), (1, .int X1), (2, .int X2)]) H hq (z_at.mk 3 rfl rfl) rfl rfl rfl rfl ?_
    refine r_p hq 1 (pc' := 10) (L' := [(0, .ref 143), (1, .int X1), (2, .int X2)]) (st' := [.int ((0 : Int32)), .ref 144, .int X2]) rfl ?_
    refine r_ia (pc' := 11) (L' := [(0, .ref 143), (1, .int X1), (2, .int X2)]) H hq (z_at.mk 1 rfl rfl) (show zAr 144 0 2740 = true from rfl) (rfl : (0 : Int32).toInt = 0) ⟨by decide, by decide⟩ rfl rfl ?_
    intro V_10 hV_10
    rcases z_ite h with ⟨c_11, h⟩ | ⟨c_11, h⟩
    · refine r_t2 (pc' := 28) (L' := [(0, .ref 143), (1, .int X1), (2, .int X2)]) hq (z_at.mk 3 rfl rfl) rfl hx2 hV_10 c_11 rfl rfl ?_
      refine r_p hq 1 (pc' := 29) (L' := [(0, .ref 143), (1, .int X1), (2, .int X2)]) (st' := [.int X1]) rfl ?_
      cases h
      exact r_ri hq (z_at.mk 1 rfl rfl) rfl rfl hx1 rfl H
    · refine r_f2 (pc' := 14) (L' := [(0, .ref 143), (1, .int X1), (2, .int X2)]) hq (z_at.mk 3 rfl rfl) rfl hx2 hV_10 c_11 rfl rfl ?_
      refine r_p hq 3 (pc' := 17) (L' := [(0, .ref 143), (1, .int X1), (2, .int X2)]) (st' := [.int X2, .ref 143, .int X1]) rfl ?_
      obtain ⟨o_17, h_17, h⟩ := Option.bind_eq_some_iff.mp h
      refine r_cvI (pc' := 20) (L' := [(0, .ref 143), (1, .int X1), (2, .int X2)]) (Ps := [.int X2]) (rest := [.int X1]) hq (z_at.mk 3 rfl rfl) (Or.inl ⟨rfl, rfl⟩) rfl rfl (by decide) (by decide) rfl (Nat.not_lt.mpr (Nat.le_of_ble_eq_true rfl)) rfl rfl (z_cat_le 1 rfl (by decide)) (z_lgl_le 2 rfl (by decide)) (by decide) (H.tg rfl) (by omega) (g_m_size_ok hx2 H h_17) rfl rfl ?_
      intro R_17 m_17 p_17 e_17 hR_17 H_17
      subst e_17
      refine r_p hq 4 (pc' := 4) (L' := [(0, .ref 143), (1, .int (X1 + R_17)), (2, .int (X2 + (1 : Int32)))]) (st' := []) rfl ?_
      exact ih (tx_iadd hx1 hR_17) (tx_iadd hx2 (rfl : (1 : Int32).toInt = 1)) H_17 h
def g_m_sizes (σ : zS) : Option (Int × zS) :=
  g_m_sizes_L4 zK 0 0 σ
set_option maxHeartbeats 4000000 in
theorem g_m_sizes_ok {xl : Nat} {xs : Nat → Int32} {σ : zS} {p : Nat} {m : zM} {o : Int × zS} (H : zRep xl xs p m σ) (h : g_m_sizes σ = some o) : zGo xl xs (fun p' => p = p') 5 186 0 (z_can 186 0 (lv_args 0 [.ref 143])) [] m (vI o.1) o.2 := by
  have hq : z_mth 186 = some z_r186 := rfl
  unfold g_m_sizes at h
  show zGo xl xs (fun p' => p = p') 5 186 0 [(0, .ref 143)] [] m (vI o.1) o.2
  refine r_p hq 4 (pc' := 4) (L' := [(0, .ref 143), (1, .int ((0 : Int32))), (2, .int ((0 : Int32)))]) (st' := []) rfl ?_
  exact g_m_sizes_L4_ok zK (rfl : (0 : Int32).toInt = 0) (rfl : (0 : Int32).toInt = 0) H h
def g_m_lightest_L100 (g4 : Int → Int → zS → Option (Int × zS)) (x2 : Int) (xs0 : Int) (σ : zS) : Option (Int × zS) :=
  g4 xs0 (w32 (x2 + 1)) σ
set_option maxHeartbeats 4000000 in
theorem g_m_lightest_L100_ok {xl : Nat} {xs : Nat → Int32} {g4 : Int → Int → zS → Option (Int × zS)} (hg4 : ∀ {X1 : Int32} {x1 : Int} {X2 : Int32} {x2 : Int} {σ : zS} {p : Nat} {m : zM} {o : Int × zS}, X1.toInt = x1 → X2.toInt = x2 → zRep xl xs p m σ → g4 x1 x2 σ = some o → zGo xl xs (fun p' => p = p') 2 187 4 [(0, .ref 143), (1, .int X1), (2, .int X2)] [] m (vI o.1) o.2) {X2 : Int32} {x2 : Int} (hx2 : X2.toInt = x2) {Xs0 : Int32} {xs0 : Int} (hxs0 : Xs0.toInt = xs0) {σ : zS} {p : Nat} {m : zM} {o : Int × zS} (H : zRep xl xs p m σ) (h : g_m_lightest_L100 g4 x2 xs0 σ = some o) : zGo xl xs (fun p' => p = p') 2 187 100 [(0, .ref 143), (2, .int X2)] [.int Xs0] m (vI o.1) o.2 := by
  have hq : z_mth 187 = some z_r187 := rfl
  unfold g_m_lightest_L100 at h
  refine r_p hq 3 (pc' := 4) (L' := [(0, .ref 143), (1, .int Xs0), (2, .int (X2 + (1 : Int32)))]) (st' := []) rfl ?_
  exact hg4 hxs0 (tx_iadd hx2 (rfl : (1 : Int32).toInt = 1)) H h
def g_m_lightest_L90 (g4 : Int → Int → zS → Option (Int × zS)) (x1 : Int) (x2 : Int) (xs0 : Int) (σ : zS) : Option (Int × zS) :=
  if xs0 = 0 then
    g_m_lightest_L100 g4 x2 x1 σ
  else
    g_m_lightest_L100 g4 x2 x2 σ
set_option maxHeartbeats 4000000 in
theorem g_m_lightest_L90_ok {xl : Nat} {xs : Nat → Int32} {g4 : Int → Int → zS → Option (Int × zS)} (hg4 : ∀ {X1 : Int32} {x1 : Int} {X2 : Int32} {x2 : Int} {σ : zS} {p : Nat} {m : zM} {o : Int × zS}, X1.toInt = x1 → X2.toInt = x2 → zRep xl xs p m σ → g4 x1 x2 σ = some o → zGo xl xs (fun p' => p = p') 2 187 4 [(0, .ref 143), (1, .int X1), (2, .int X2)] [] m (vI o.1) o.2) {X1 : Int32} {x1 : Int} (hx1 : X1.toInt = x1) {X2 : Int32} {x2 : Int} (hx2 : X2.toInt = x2) {Xs0 : Int32} {xs0 : Int} (hxs0 : Xs0.toInt = xs0) {σ : zS} {p : Nat} {m : zM} {o : Int × zS} (H : zRep xl xs p m σ) (h : g_m_lightest_L90 g4 x1 x2 xs0 σ = some o) : zGo xl xs (fun p' => p = p') 2 187 90 [(0, .ref 143), (1, .int X1), (2, .int X2)] [.int Xs0] m (vI o.1) o.2 := by
  have hq : z_mth 187 = some z_r187 := rfl
  unfold g_m_lightest_L90 at h
  refine r_p hq 2 (pc' := 92) (L' := [(3, .int Xs0), (0, .ref 143), (1, .int X1), (2, .int X2)]) (st' := [.int Xs0]) rfl ?_
  rcases z_ite h with ⟨c_92, h⟩ | ⟨c_92, h⟩
  · refine r_t1 (pc' := 99) (L' := [(3, .int Xs0), (0, .ref 143), (1, .int X1), (2, .int X2)]) hq (z_at.mk 3 rfl rfl) rfl hxs0 c_92 rfl rfl ?_
    refine r_p hq 1 (pc' := 100) (L' := [(0, .ref 143), (2, .int X2)]) (st' := [.int X1]) rfl ?_
    exact g_m_lightest_L100_ok hg4 hx2 hx1 H h
  · refine r_f1 (pc' := 95) (L' := [(3, .int Xs0), (0, .ref 143), (1, .int X1), (2, .int X2)]) hq (z_at.mk 3 rfl rfl) rfl hxs0 c_92 rfl rfl ?_
    refine r_p hq 2 (pc' := 100) (L' := [(0, .ref 143), (2, .int X2)]) (st' := [.int X2]) rfl ?_
    exact g_m_lightest_L100_ok hg4 hx2 hx2 H h
def g_m_lightest_L89 (g4 : Int → Int → zS → Option (Int × zS)) (x1 : Int) (x2 : Int) (σ : zS) : Option (Int × zS) :=
  g_m_lightest_L90 g4 x1 x2 0 σ
set_option maxHeartbeats 4000000 in
theorem g_m_lightest_L89_ok {xl : Nat} {xs : Nat → Int32} {g4 : Int → Int → zS → Option (Int × zS)} (hg4 : ∀ {X1 : Int32} {x1 : Int} {X2 : Int32} {x2 : Int} {σ : zS} {p : Nat} {m : zM} {o : Int × zS}, X1.toInt = x1 → X2.toInt = x2 → zRep xl xs p m σ → g4 x1 x2 σ = some o → zGo xl xs (fun p' => p = p') 2 187 4 [(0, .ref 143), (1, .int X1), (2, .int X2)] [] m (vI o.1) o.2) {X1 : Int32} {x1 : Int} (hx1 : X1.toInt = x1) {X2 : Int32} {x2 : Int} (hx2 : X2.toInt = x2) {σ : zS} {p : Nat} {m : zM} {o : Int × zS} (H : zRep xl xs p m σ) (h : g_m_lightest_L89 g4 x1 x2 σ = some o) : zGo xl xs (fun p' => p = p') 2 187 89 [(0, .ref 143), (1, .int X1), (2, .int X2)] [] m (vI o.1) o.2 := by
  have hq : z_mth 187 = some z_r187 := rfl
  unfold g_m_lightest_L89 at h
  refine r_p hq 1 (pc' := 90) (L' := [(0, .ref 143), (1, .int X1), (2, .int X2)]) (st' := [.int ((0 : Int32))]) rfl ?_
  exact g_m_lightest_L90_ok hg4 hx1 hx2 (rfl : (0 : Int32).toInt = 0) H h
def g_m_lightest_L85 (g4 : Int → Int → zS → Option (Int × zS)) (x1 : Int) (x2 : Int) (σ : zS) : Option (Int × zS) :=
  g_m_lightest_L90 g4 x1 x2 1 σ
set_option maxHeartbeats 4000000 in
theorem g_m_lightest_L85_ok {xl : Nat} {xs : Nat → Int32} {g4 : Int → Int → zS → Option (Int × zS)} (hg4 : ∀ {X1 : Int32} {x1 : Int} {X2 : Int32} {x2 : Int} {σ : zS} {p : Nat} {m : zM} {o : Int × zS}, X1.toInt = x1 → X2.toInt = x2 → zRep xl xs p m σ → g4 x1 x2 σ = some o → zGo xl xs (fun p' => p = p') 2 187 4 [(0, .ref 143), (1, .int X1), (2, .int X2)] [] m (vI o.1) o.2) {X1 : Int32} {x1 : Int} (hx1 : X1.toInt = x1) {X2 : Int32} {x2 : Int} (hx2 : X2.toInt = x2) {σ : zS} {p : Nat} {m : zM} {o : Int × zS} (H : zRep xl xs p m σ) (h : g_m_lightest_L85 g4 x1 x2 σ = some o) : zGo xl xs (fun p' => p = p') 2 187 85 [(0, .ref 143), (1, .int X1), (2, .int X2)] [] m (vI o.1) o.2 := by
  have hq : z_mth 187 = some z_r187 := rfl
  unfold g_m_lightest_L85 at h
  refine r_p hq 2 (pc' := 90) (L' := [(0, .ref 143), (1, .int X1), (2, .int X2)]) (st' := [.int ((1 : Int32))]) rfl ?_
  exact g_m_lightest_L90_ok hg4 hx1 hx2 (rfl : (1 : Int32).toInt = 1) H h
def g_m_lightest_L4 : Nat → Int → Int → zS → Option (Int × zS)
  | 0, _, _, _ => none
  | n + 1, x1, x2, σ =>
    let v_10 := σ 144 0
    if v_10 ≤ x2 then
      some (x1, σ)
    else
      if 0 ≤ w32 (121 + x2) ∧ w32 (121 + x2) < 361 then
      let v_22 := σ 147 (w32 (121 + x2))
      if 0 ≤ w32 (121 + x1) ∧ w32 (121 + x1) < 361 then
      let v_31 := σ 147 (w32 (121 + x1))
      if lCmp v_22 v_31 < 0 then
        g_m_lightest_L85 ((g_m_lightest_L4 n)) x1 x2 σ
      else
        if 0 ≤ w32 (121 + x2) ∧ w32 (121 + x2) < 361 then
        let v_44 := σ 147 (w32 (121 + x2))
        if 0 ≤ w32 (121 + x1) ∧ w32 (121 + x1) < 361 then
        let v_53 := σ 147 (w32 (121 + x1))
        if lCmp v_44 v_53 ≠ 0 then
          g_m_lightest_L89 ((g_m_lightest_L4 n)) x1 x2 σ
        else
          (g_m_region_173 x2 σ).bind fun o_63 =>
          if 0 ≤ w32 (o_63.1 + 8) ∧ w32 (o_63.1 + 8) < 2740 then
          let v_69 := o_63.2 144 (w32 (o_63.1 + 8))
          (g_m_region_173 x1 o_63.2).bind fun o_75 =>
          if 0 ≤ w32 (o_75.1 + 8) ∧ w32 (o_75.1 + 8) < 2740 then
          let v_81 := o_75.2 144 (w32 (o_75.1 + 8))
          if v_81 ≤ v_69 then
            g_m_lightest_L89 ((g_m_lightest_L4 n)) x1 x2 o_75.2
          else
            g_m_lightest_L85 ((g_m_lightest_L4 n)) x1 x2 o_75.2
          else none
          else none
        else none
        else none
      else none
      else none
set_option maxHeartbeats 4000000 in
theorem g_m_lightest_L4_ok {xl : Nat} {xs : Nat → Int32} : ∀ (n : Nat) {X1 : Int32} {x1 : Int} {X2 : Int32} {x2 : Int} {σ : zS} {p : Nat} {m : zM} {o : Int × zS}, X1.toInt = x1 → X2.toInt = x2 → zRep xl xs p m σ → g_m_lightest_L4 n x1 x2 σ = some o → zGo xl xs (fun p' => p = p') 2 187 4 [(0, .ref 143), (1, .int X1), (2, .int X2)] [] m (vI o.1) o.2
  | 0, _, _, _, _, _, _, _, _, _, _, _, h => by cases h
  | n + 1, X1, x1, X2, x2, σ, p, m, o, hx1, hx2, H, h => by
    have hq : z_mth 187 = some z_r187 := rfl
    have ih := fun {X1 : Int32} {x1 : Int} {X2 : Int32} {x2 : Int} {σ : zS} {p : Nat} {m : zM} {o : Int × zS} => g_m_lightest_L4_ok (xl := xl) (xs := xs) n (X1 := X1) (x1 := x1) (X2 := X2) (x2 := x2) (σ := σ) (p := p) (m := m) (o := o)
    unfold g_m_lightest_L4 at h
    refine r_p hq 2 (pc' := 6) (L' := [(0, .ref 143), (1, .int X1), (2, .int X2)]) (st' := [.ref 143, .int X2]) rfl ?_
    refine r_gR (b := 144) (pc' := 9) (L' := [(0, .ref 143), (1, .int X1), (2, .int X2)]) H hq (z_at.mk 3 rfl rfl) rfl rfl rfl rfl ?_
    refine r_p hq 1 (pc' := 10) (L' := [(0, .ref 143), (1, .int X1), (2, .int X2)]) (st' := [.int ((0 : Int32)), .ref 144, .int X2]) rfl ?_
    refine r_ia (pc' := 11) (L' := [(0, .ref 143), (1, .int X1), (2, .int X2)]) H hq (z_at.mk 1 rfl rfl) (show zAr 144 0 2740 = true from rfl) (rfl : (0 : Int32).toInt = 0) ⟨by decide, by decide⟩ rfl rfl ?_
    intro V_10 hV_10
    rcases z_ite h with ⟨c_11, h⟩ | ⟨c_11, h⟩
    · refine r_t2 (pc' := 107) (L' := [(0, .ref 143), (1, .int X1), (2, .int X2)]) hq (z_at.mk 3 rfl rfl) rfl hx2 hV_10 c_11 rfl rfl ?_
      refine r_p hq 1 (pc' := 108) (L' := [(0, .ref 143), (1, .int X1), (2, .int X2)]) (st' := [.int X1]) rfl ?_
      cases h
      exact r_ri hq (z_at.mk 1 rfl rfl) rfl rfl hx1 rfl H
    · refine r_f2 (pc' := 14) (L' := [(0, .ref 143), (1, .int X1), (2, .int X2)]) hq (z_at.mk 3 rfl rfl) rfl hx2 hV_10 c_11 rfl rfl ?_
      refine r_p hq 1 (pc' := 15) (L' := [(0, .ref 143), (1, .int X1), (2, .int X2)]) (st' := [.ref 143]) rfl ?_
      refine r_gR (b := 147) (pc' := 18) (L' := [(0, .ref 143), (1, .int X1), (2, .int X2)]) H hq (z_at.mk 3 rfl rfl) rfl rfl rfl rfl ?_
      refine r_p hq 3 (pc' := 22) (L' := [(0, .ref 143), (1, .int X1), (2, .int X2)]) (st' := [.int (((121 : Int32)) + X2), .ref 147]) rfl ?_
      obtain ⟨g_22, h⟩ := z_ifo_some h
      refine r_la (pc' := 23) (L' := [(0, .ref 143), (1, .int X1), (2, .int X2)]) H hq (z_at.mk 1 rfl rfl) (show zAr 147 1 361 = true from rfl) (tx_iadd (rfl : (121 : Int32).toInt = 121) hx2) g_22 rfl rfl ?_
      intro V_22 hV_22
      refine r_p hq 1 (pc' := 24) (L' := [(0, .ref 143), (1, .int X1), (2, .int X2)]) (st' := [.ref 143, .long V_22]) rfl ?_
      refine r_gR (b := 147) (pc' := 27) (L' := [(0, .ref 143), (1, .int X1), (2, .int X2)]) H hq (z_at.mk 3 rfl rfl) rfl rfl rfl rfl ?_
      refine r_p hq 3 (pc' := 31) (L' := [(0, .ref 143), (1, .int X1), (2, .int X2)]) (st' := [.int (((121 : Int32)) + X1), .ref 147, .long V_22]) rfl ?_
      obtain ⟨g_31, h⟩ := z_ifo_some h
      refine r_la (pc' := 32) (L' := [(0, .ref 143), (1, .int X1), (2, .int X2)]) H hq (z_at.mk 1 rfl rfl) (show zAr 147 1 361 = true from rfl) (tx_iadd (rfl : (121 : Int32).toInt = 121) hx1) g_31 rfl rfl ?_
      intro V_31 hV_31
      refine r_p hq 1 (pc' := 33) (L' := [(0, .ref 143), (1, .int X1), (2, .int X2)]) (st' := [.int (lg_cmp V_22 V_31)]) rfl ?_
      rcases z_ite h with ⟨c_33, h⟩ | ⟨c_33, h⟩
      · refine r_t1 (pc' := 85) (L' := [(0, .ref 143), (1, .int X1), (2, .int X2)]) hq (z_at.mk 3 rfl rfl) rfl (tx_lcmp hV_22 hV_31) c_33 rfl rfl ?_
        exact g_m_lightest_L85_ok ih hx1 hx2 H h
      · refine r_f1 (pc' := 36) (L' := [(0, .ref 143), (1, .int X1), (2, .int X2)]) hq (z_at.mk 3 rfl rfl) rfl (tx_lcmp hV_22 hV_31) c_33 rfl rfl ?_
        refine r_p hq 1 (pc' := 37) (L' := [(0, .ref 143), (1, .int X1), (2, .int X2)]) (st' := [.ref 143]) rfl ?_
        refine r_gR (b := 147) (pc' := 40) (L' := [(0, .ref 143), (1, .int X1), (2, .int X2)]) H hq (z_at.mk 3 rfl rfl) rfl rfl rfl rfl ?_
        refine r_p hq 3 (pc' := 44) (L' := [(0, .ref 143), (1, .int X1), (2, .int X2)]) (st' := [.int (((121 : Int32)) + X2), .ref 147]) rfl ?_
        obtain ⟨g_44, h⟩ := z_ifo_some h
        refine r_la (pc' := 45) (L' := [(0, .ref 143), (1, .int X1), (2, .int X2)]) H hq (z_at.mk 1 rfl rfl) (show zAr 147 1 361 = true from rfl) (tx_iadd (rfl : (121 : Int32).toInt = 121) hx2) g_44 rfl rfl ?_
        intro V_44 hV_44
        refine r_p hq 1 (pc' := 46) (L' := [(0, .ref 143), (1, .int X1), (2, .int X2)]) (st' := [.ref 143, .long V_44]) rfl ?_
        refine r_gR (b := 147) (pc' := 49) (L' := [(0, .ref 143), (1, .int X1), (2, .int X2)]) H hq (z_at.mk 3 rfl rfl) rfl rfl rfl rfl ?_
        refine r_p hq 3 (pc' := 53) (L' := [(0, .ref 143), (1, .int X1), (2, .int X2)]) (st' := [.int (((121 : Int32)) + X1), .ref 147, .long V_44]) rfl ?_
        obtain ⟨g_53, h⟩ := z_ifo_some h
        refine r_la (pc' := 54) (L' := [(0, .ref 143), (1, .int X1), (2, .int X2)]) H hq (z_at.mk 1 rfl rfl) (show zAr 147 1 361 = true from rfl) (tx_iadd (rfl : (121 : Int32).toInt = 121) hx1) g_53 rfl rfl ?_
        intro V_53 hV_53
        refine r_p hq 1 (pc' := 55) (L' := [(0, .ref 143), (1, .int X1), (2, .int X2)]) (st' := [.int (lg_cmp V_44 V_53)]) rfl ?_
        rcases z_ite h with ⟨c_55, h⟩ | ⟨c_55, h⟩
        · refine r_t1 (pc' := 89) (L' := [(0, .ref 143), (1, .int X1), (2, .int X2)]) hq (z_at.mk 3 rfl rfl) rfl (tx_lcmp hV_44 hV_53) c_55 rfl rfl ?_
          exact g_m_lightest_L89_ok ih hx1 hx2 H h
        · refine r_f1 (pc' := 58) (L' := [(0, .ref 143), (1, .int X1), (2, .int X2)]) hq (z_at.mk 3 rfl rfl) rfl (tx_lcmp hV_44 hV_53) c_55 rfl rfl ?_
          refine r_p hq 1 (pc' := 59) (L' := [(0, .ref 143), (1, .int X1), (2, .int X2)]) (st' := [.ref 143]) rfl ?_
          refine r_gR (b := 144) (pc' := 62) (L' := [(0, .ref 143), (1, .int X1), (2, .int X2)]) H hq (z_at.mk 3 rfl rfl) rfl rfl rfl rfl ?_
          refine r_p hq 1 (pc' := 63) (L' := [(0, .ref 143), (1, .int X1), (2, .int X2)]) (st' := [.int X2, .ref 144]) rfl ?_
          obtain ⟨o_63, h_63, h⟩ := Option.bind_eq_some_iff.mp h
          refine r_csI (pc' := 66) (L' := [(0, .ref 143), (1, .int X1), (2, .int X2)]) (As := [.int X2]) (rest := [.ref 144]) (j := 173) hq (z_at.mk 3 rfl rfl) (Or.inl ⟨rfl, rfl⟩) rfl rfl (by omega) (g_m_region_173_ok hx2 H h_63) rfl rfl ?_
          intro R_63 m_63 p_63 e_63 hR_63 H_63
          subst e_63
          refine r_p hq 2 (pc' := 69) (L' := [(0, .ref 143), (1, .int X1), (2, .int X2)]) (st' := [.int (R_63 + ((8 : Int32))), .ref 144]) rfl ?_
          obtain ⟨g_69, h⟩ := z_ifo_some h
          refine r_ia (pc' := 70) (L' := [(0, .ref 143), (1, .int X1), (2, .int X2)]) H_63 hq (z_at.mk 1 rfl rfl) (show zAr 144 0 2740 = true from rfl) (tx_iadd hR_63 (rfl : (8 : Int32).toInt = 8)) g_69 rfl rfl ?_
          intro V_69 hV_69
          refine r_p hq 1 (pc' := 71) (L' := [(0, .ref 143), (1, .int X1), (2, .int X2)]) (st' := [.ref 143, .int V_69]) rfl ?_
          refine r_gR (b := 144) (pc' := 74) (L' := [(0, .ref 143), (1, .int X1), (2, .int X2)]) H_63 hq (z_at.mk 3 rfl rfl) rfl rfl rfl rfl ?_
          refine r_p hq 1 (pc' := 75) (L' := [(0, .ref 143), (1, .int X1), (2, .int X2)]) (st' := [.int X1, .ref 144, .int V_69]) rfl ?_
          obtain ⟨o_75, h_75, h⟩ := Option.bind_eq_some_iff.mp h
          refine r_csI (pc' := 78) (L' := [(0, .ref 143), (1, .int X1), (2, .int X2)]) (As := [.int X1]) (rest := [.ref 144, .int V_69]) (j := 173) hq (z_at.mk 3 rfl rfl) (Or.inl ⟨rfl, rfl⟩) rfl rfl (by omega) (g_m_region_173_ok hx1 H_63 h_75) rfl rfl ?_
          intro R_75 m_75 p_75 e_75 hR_75 H_75
          subst e_75
          refine r_p hq 2 (pc' := 81) (L' := [(0, .ref 143), (1, .int X1), (2, .int X2)]) (st' := [.int (R_75 + ((8 : Int32))), .ref 144, .int V_69]) rfl ?_
          obtain ⟨g_81, h⟩ := z_ifo_some h
          refine r_ia (pc' := 82) (L' := [(0, .ref 143), (1, .int X1), (2, .int X2)]) H_75 hq (z_at.mk 1 rfl rfl) (show zAr 144 0 2740 = true from rfl) (tx_iadd hR_75 (rfl : (8 : Int32).toInt = 8)) g_81 rfl rfl ?_
          intro V_81 hV_81
          rcases z_ite h with ⟨c_82, h⟩ | ⟨c_82, h⟩
          · refine r_t2 (pc' := 89) (L' := [(0, .ref 143), (1, .int X1), (2, .int X2)]) hq (z_at.mk 3 rfl rfl) rfl hV_69 hV_81 c_82 rfl rfl ?_
            exact g_m_lightest_L89_ok ih hx1 hx2 H_75 h
          · refine r_f2 (pc' := 85) (L' := [(0, .ref 143), (1, .int X1), (2, .int X2)]) hq (z_at.mk 3 rfl rfl) rfl hV_69 hV_81 c_82 rfl rfl ?_
            exact g_m_lightest_L85_ok ih hx1 hx2 H_75 h
def g_m_lightest (σ : zS) : Option (Int × zS) :=
  g_m_lightest_L4 zK 0 1 σ
set_option maxHeartbeats 4000000 in
theorem g_m_lightest_ok {xl : Nat} {xs : Nat → Int32} {σ : zS} {p : Nat} {m : zM} {o : Int × zS} (H : zRep xl xs p m σ) (h : g_m_lightest σ = some o) : zGo xl xs (fun p' => p = p') 2 187 0 (z_can 187 0 (lv_args 0 [.ref 143])) [] m (vI o.1) o.2 := by
  have hq : z_mth 187 = some z_r187 := rfl
  unfold g_m_lightest at h
  show zGo xl xs (fun p' => p = p') 2 187 0 [(0, .ref 143)] [] m (vI o.1) o.2
  refine r_p hq 4 (pc' := 4) (L' := [(0, .ref 143), (1, .int ((0 : Int32))), (2, .int ((1 : Int32)))]) (st' := []) rfl ?_
  exact g_m_lightest_L4_ok zK (rfl : (0 : Int32).toInt = 0) (rfl : (1 : Int32).toInt = 1) H h
def g_m_trims_L196 (g0 : zS → Option (Unit × zS)) (σ : zS) : Option (Unit × zS) :=
  g0 σ
set_option maxHeartbeats 4000000 in
theorem g_m_trims_L196_ok {xl : Nat} {xs : Nat → Int32} {g0 : zS → Option (Unit × zS)} (hg0 : ∀ {σ : zS} {p : Nat} {m : zM} {o : Unit × zS}, zRep xl xs p m σ → g0 σ = some o → zGo xl xs (fun p' => p = p') 6 188 0 [(0, .ref 143)] [] m vV o.2) {σ : zS} {p : Nat} {m : zM} {o : Unit × zS} (H : zRep xl xs p m σ) (h : g_m_trims_L196 g0 σ = some o) : zGo xl xs (fun p' => p = p') 6 188 196 [(0, .ref 143)] [] m vV o.2 := by
  have hq : z_mth 188 = some z_r188 := rfl
  unfold g_m_trims_L196 at h
  refine r_p hq 1 (pc' := 0) (L' := [(0, .ref 143)]) (st' := []) rfl ?_
  exact hg0  H h
def g_m_trims_L181 (g0 : zS → Option (Unit × zS)) (x1 : Int) (σ : zS) : Option (Unit × zS) :=
  (g_m_goes x1 σ).bind fun o_183 =>
  let v_192 := o_183.2 144 4
  let s_195 := zu o_183.2 144 4 (w32 (v_192 + 1))
  g_m_trims_L196 g0 s_195
set_option maxHeartbeats 4000000 in
theorem g_m_trims_L181_ok {xl : Nat} {xs : Nat → Int32} {g0 : zS → Option (Unit × zS)} (hg0 : ∀ {σ : zS} {p : Nat} {m : zM} {o : Unit × zS}, zRep xl xs p m σ → g0 σ = some o → zGo xl xs (fun p' => p = p') 6 188 0 [(0, .ref 143)] [] m vV o.2) {X1 : Int32} {x1 : Int} (hx1 : X1.toInt = x1) {σ : zS} {p : Nat} {m : zM} {o : Unit × zS} (H : zRep xl xs p m σ) (h : g_m_trims_L181 g0 x1 σ = some o) : zGo xl xs (fun p' => p = p') 6 188 181 [(0, .ref 143), (1, .int X1)] [] m vV o.2 := by
  have hq : z_mth 188 = some z_r188 := rfl
  unfold g_m_trims_L181 at h
  refine r_p hq 2 (pc' := 183) (L' := [(0, .ref 143), (1, .int X1)]) (st' := [.int X1, .ref 143]) rfl ?_
  obtain ⟨o_183, h_183, h⟩ := Option.bind_eq_some_iff.mp h
  refine r_cvV (pc' := 186) (L' := [(0, .ref 143), (1, .int X1)]) (Ps := [.int X1]) (rest := []) hq (z_at.mk 3 rfl rfl) (Or.inl ⟨rfl, rfl⟩) rfl rfl (by decide) (by decide) rfl (Nat.not_lt.mpr (Nat.le_of_ble_eq_true rfl)) rfl rfl (z_cat_le 0 rfl (by decide)) (z_lgl_le 2 rfl (by decide)) (by decide) (H.tg rfl) (by omega) (g_m_goes_ok hx1 H h_183) rfl rfl ?_
  intro m_183 p_183 e_183 H_183
  subst e_183
  refine r_p hq 1 (pc' := 187) (L' := [(0, .ref 143), (1, .int X1)]) (st' := [.ref 143]) rfl ?_
  refine r_gR (b := 144) (pc' := 190) (L' := [(0, .ref 143), (1, .int X1)]) H_183 hq (z_at.mk 3 rfl rfl) rfl rfl rfl rfl ?_
  refine r_p hq 2 (pc' := 192) (L' := [(0, .ref 143), (1, .int X1)]) (st' := [.int ((4 : Int32)), .ref 144, .int ((4 : Int32)), .ref 144]) rfl ?_
  refine r_ia (pc' := 193) (L' := [(0, .ref 143), (1, .int X1)]) H_183 hq (z_at.mk 1 rfl rfl) (show zAr 144 0 2740 = true from rfl) (rfl : (4 : Int32).toInt = 4) ⟨by decide, by decide⟩ rfl rfl ?_
  intro V_192 hV_192
  refine r_p hq 2 (pc' := 195) (L' := [(0, .ref 143), (1, .int X1)]) (st' := [.int (V_192 + ((1 : Int32))), .int ((4 : Int32)), .ref 144]) rfl ?_
  refine r_is (pc' := 196) (L' := [(0, .ref 143)]) H_183 hq (z_at.mk 1 rfl rfl) (show zAr 144 0 2740 = true from rfl) (rfl : (4 : Int32).toInt = 4) ⟨by decide, by decide⟩ (tx_iadd hV_192 (rfl : (1 : Int32).toInt = 1)) rfl rfl ?_
  intro m_195 H_195
  exact g_m_trims_L196_ok hg0  H_195 h
def g_m_trims_L74 (g0 : zS → Option (Unit × zS)) (x1 : Int) (x2 : Int) (σ : zS) : Option (Unit × zS) :=
  let v_80 := σ 144 16
  if v_80 ≠ 1 then
    g_m_trims_L181 g0 x1 σ
  else
    if 0 ≤ w32 (x2 + 4) ∧ w32 (x2 + 4) < 2740 then
    let v_92 := σ 144 (w32 (x2 + 4))
    if v_92 < 0 then
      g_m_trims_L181 g0 x1 σ
    else
      (g_m_area 144 (w32 (x2 + 4)) σ).bind fun o_103 =>
      (g_m_area 144 x2 o_103.2).bind fun o_111 =>
      if o_111.1 ≤ o_103.1 then
        g_m_trims_L181 g0 x1 o_111.2
      else
        (g_m_copies 144 144 (w32 (x2 + 4)) x2 o_111.2).bind fun o_129 =>
        (g_m_sets 144 (w32 (x2 + 4)) (-5) (-5) (-5) (-5) o_129.2).bind fun o_147 =>
        if 0 ≤ w32 (x2 + 9) ∧ w32 (x2 + 9) < 2740 then
        let v_159 := o_147.2 144 (w32 (x2 + 9))
        if 0 ≤ w32 (x2 + 9) ∧ w32 (x2 + 9) < 2740 then
        let s_162 := zu o_147.2 144 (w32 (x2 + 9)) (w32 (Int.tdiv v_159 2))
        (g_m_weighs x1 s_162).bind fun o_165 =>
        let v_174 := o_165.2 144 5
        let s_177 := zu o_165.2 144 5 (w32 (v_174 + 1))
        g_m_trims_L196 g0 s_177
        else none
        else none
    else none
set_option maxHeartbeats 4000000 in
theorem g_m_trims_L74_ok {xl : Nat} {xs : Nat → Int32} {g0 : zS → Option (Unit × zS)} (hg0 : ∀ {σ : zS} {p : Nat} {m : zM} {o : Unit × zS}, zRep xl xs p m σ → g0 σ = some o → zGo xl xs (fun p' => p = p') 6 188 0 [(0, .ref 143)] [] m vV o.2) {X1 : Int32} {x1 : Int} (hx1 : X1.toInt = x1) {X2 : Int32} {x2 : Int} (hx2 : X2.toInt = x2) {σ : zS} {p : Nat} {m : zM} {o : Unit × zS} (H : zRep xl xs p m σ) (h : g_m_trims_L74 g0 x1 x2 σ = some o) : zGo xl xs (fun p' => p = p') 6 188 74 [(0, .ref 143), (1, .int X1), (2, .int X2)] [] m vV o.2 := by
  have hq : z_mth 188 = some z_r188 := rfl
  unfold g_m_trims_L74 at h
  refine r_p hq 1 (pc' := 75) (L' := [(0, .ref 143), (1, .int X1), (2, .int X2)]) (st' := [.ref 143]) rfl ?_
  refine r_gR (b := 144) (pc' := 78) (L' := [(0, .ref 143), (1, .int X1), (2, .int X2)]) H hq (z_at.mk 3 rfl rfl) rfl rfl rfl rfl ?_
  refine r_p hq 1 (pc' := 80) (L' := [(0, .ref 143), (1, .int X1), (2, .int X2)]) (st' := [.int ((16 : Int32)), .ref 144]) rfl ?_
  refine r_ia (pc' := 81) (L' := [(0, .ref 143), (1, .int X1), (2, .int X2)]) H hq (z_at.mk 1 rfl rfl) (show zAr 144 0 2740 = true from rfl) (rfl : (16 : Int32).toInt = 16) ⟨by decide, by decide⟩ rfl rfl ?_
  intro V_80 hV_80
  refine r_p hq 1 (pc' := 82) (L' := [(0, .ref 143), (1, .int X1), (2, .int X2)]) (st' := [.int ((1 : Int32)), .int V_80]) rfl ?_
  rcases z_ite h with ⟨c_82, h⟩ | ⟨c_82, h⟩
  · refine r_t2 (pc' := 181) (L' := [(0, .ref 143), (1, .int X1)]) hq (z_at.mk 3 rfl rfl) rfl hV_80 (rfl : (1 : Int32).toInt = 1) c_82 rfl rfl ?_
    exact g_m_trims_L181_ok hg0 hx1 H h
  · refine r_f2 (pc' := 85) (L' := [(0, .ref 143), (1, .int X1), (2, .int X2)]) hq (z_at.mk 3 rfl rfl) rfl hV_80 (rfl : (1 : Int32).toInt = 1) c_82 rfl rfl ?_
    refine r_p hq 1 (pc' := 86) (L' := [(0, .ref 143), (1, .int X1), (2, .int X2)]) (st' := [.ref 143]) rfl ?_
    refine r_gR (b := 144) (pc' := 89) (L' := [(0, .ref 143), (1, .int X1), (2, .int X2)]) H hq (z_at.mk 3 rfl rfl) rfl rfl rfl rfl ?_
    refine r_p hq 3 (pc' := 92) (L' := [(0, .ref 143), (1, .int X1), (2, .int X2)]) (st' := [.int (X2 + ((4 : Int32))), .ref 144]) rfl ?_
    obtain ⟨g_92, h⟩ := z_ifo_some h
    refine r_ia (pc' := 93) (L' := [(0, .ref 143), (1, .int X1), (2, .int X2)]) H hq (z_at.mk 1 rfl rfl) (show zAr 144 0 2740 = true from rfl) (tx_iadd hx2 (rfl : (4 : Int32).toInt = 4)) g_92 rfl rfl ?_
    intro V_92 hV_92
    rcases z_ite h with ⟨c_93, h⟩ | ⟨c_93, h⟩
    · refine r_t1 (pc' := 181) (L' := [(0, .ref 143), (1, .int X1)]) hq (z_at.mk 3 rfl rfl) rfl hV_92 c_93 rfl rfl ?_
      exact g_m_trims_L181_ok hg0 hx1 H h
    · refine r_f1 (pc' := 96) (L' := [(0, .ref 143), (1, .int X1), (2, .int X2)]) hq (z_at.mk 3 rfl rfl) rfl hV_92 c_93 rfl rfl ?_
      refine r_p hq 1 (pc' := 97) (L' := [(0, .ref 143), (1, .int X1), (2, .int X2)]) (st' := [.ref 143]) rfl ?_
      refine r_gR (b := 144) (pc' := 100) (L' := [(0, .ref 143), (1, .int X1), (2, .int X2)]) H hq (z_at.mk 3 rfl rfl) rfl rfl rfl rfl ?_
      refine r_p hq 3 (pc' := 103) (L' := [(0, .ref 143), (1, .int X1), (2, .int X2)]) (st' := [.int (X2 + ((4 : Int32))), .ref 144]) rfl ?_
      obtain ⟨o_103, h_103, h⟩ := Option.bind_eq_some_iff.mp h
      refine r_csI (pc' := 106) (L' := [(0, .ref 143), (1, .int X1), (2, .int X2)]) (As := [.ref 144, .int (X2 + ((4 : Int32)))]) (rest := []) (j := 167) hq (z_at.mk 3 rfl rfl) (Or.inl ⟨rfl, rfl⟩) rfl rfl (by omega) (g_m_area_ok rfl (tx_iadd hx2 (rfl : (4 : Int32).toInt = 4)) H h_103) rfl rfl ?_
      intro R_103 m_103 p_103 e_103 hR_103 H_103
      subst e_103
      refine r_p hq 1 (pc' := 107) (L' := [(0, .ref 143), (1, .int X1), (2, .int X2)]) (st' := [.ref 143, .int R_103]) rfl ?_
      refine r_gR (b := 144) (pc' := 110) (L' := [(0, .ref 143), (1, .int X1), (2, .int X2)]) H_103 hq (z_at.mk 3 rfl rfl) rfl rfl rfl rfl ?_
      refine r_p hq 1 (pc' := 111) (L' := [(0, .ref 143), (1, .int X1), (2, .int X2)]) (st' := [.int X2, .ref 144, .int R_103]) rfl ?_
      obtain ⟨o_111, h_111, h⟩ := Option.bind_eq_some_iff.mp h
      refine r_csI (pc' := 114) (L' := [(0, .ref 143), (1, .int X1), (2, .int X2)]) (As := [.ref 144, .int X2]) (rest := [.int R_103]) (j := 167) hq (z_at.mk 3 rfl rfl) (Or.inl ⟨rfl, rfl⟩) rfl rfl (by omega) (g_m_area_ok rfl hx2 H_103 h_111) rfl rfl ?_
      intro R_111 m_111 p_111 e_111 hR_111 H_111
      subst e_111
      rcases z_ite h with ⟨c_114, h⟩ | ⟨c_114, h⟩
      · refine r_t2 (pc' := 181) (L' := [(0, .ref 143), (1, .int X1)]) hq (z_at.mk 3 rfl rfl) rfl hR_103 hR_111 c_114 rfl rfl ?_
        exact g_m_trims_L181_ok hg0 hx1 H_111 h
      · refine r_f2 (pc' := 117) (L' := [(0, .ref 143), (1, .int X1), (2, .int X2)]) hq (z_at.mk 3 rfl rfl) rfl hR_103 hR_111 c_114 rfl rfl ?_
        refine r_p hq 1 (pc' := 118) (L' := [(0, .ref 143), (1, .int X1), (2, .int X2)]) (st' := [.ref 143]) rfl ?_
        refine r_gR (b := 144) (pc' := 121) (L' := [(0, .ref 143), (1, .int X1), (2, .int X2)]) H_111 hq (z_at.mk 3 rfl rfl) rfl rfl rfl rfl ?_
        refine r_p hq 4 (pc' := 125) (L' := [(0, .ref 143), (1, .int X1), (2, .int X2)]) (st' := [.ref 143, .int (X2 + ((4 : Int32))), .ref 144]) rfl ?_
        refine r_gR (b := 144) (pc' := 128) (L' := [(0, .ref 143), (1, .int X1), (2, .int X2)]) H_111 hq (z_at.mk 3 rfl rfl) rfl rfl rfl rfl ?_
        refine r_p hq 1 (pc' := 129) (L' := [(0, .ref 143), (1, .int X1), (2, .int X2)]) (st' := [.int X2, .ref 144, .int (X2 + ((4 : Int32))), .ref 144]) rfl ?_
        obtain ⟨o_129, h_129, h⟩ := Option.bind_eq_some_iff.mp h
        refine r_csV (pc' := 132) (L' := [(0, .ref 143), (1, .int X1), (2, .int X2)]) (As := [.ref 144, .int (X2 + ((4 : Int32))), .ref 144, .int X2]) (rest := []) (j := 166) hq (z_at.mk 3 rfl rfl) (Or.inl ⟨rfl, rfl⟩) rfl rfl (by omega) (g_m_copies_ok rfl rfl (tx_iadd hx2 (rfl : (4 : Int32).toInt = 4)) hx2 H_111 h_129) rfl rfl ?_
        intro m_129 p_129 e_129 H_129
        subst e_129
        refine r_p hq 1 (pc' := 133) (L' := [(0, .ref 143), (1, .int X1), (2, .int X2)]) (st' := [.ref 143]) rfl ?_
        refine r_gR (b := 144) (pc' := 136) (L' := [(0, .ref 143), (1, .int X1), (2, .int X2)]) H_129 hq (z_at.mk 3 rfl rfl) rfl rfl rfl rfl ?_
        refine r_p hq 7 (pc' := 147) (L' := [(0, .ref 143), (1, .int X1), (2, .int X2)]) (st' := [.int ((-5 : Int32)), .int ((-5 : Int32)), .int ((-5 : Int32)), .int ((-5 : Int32)), .int (X2 + ((4 : Int32))), .ref 144]) rfl ?_
        obtain ⟨o_147, h_147, h⟩ := Option.bind_eq_some_iff.mp h
        refine r_csV (pc' := 150) (L' := [(0, .ref 143), (1, .int X1), (2, .int X2)]) (As := [.ref 144, .int (X2 + ((4 : Int32))), .int ((-5 : Int32)), .int ((-5 : Int32)), .int ((-5 : Int32)), .int ((-5 : Int32))]) (rest := []) (j := 165) hq (z_at.mk 3 rfl rfl) (Or.inl ⟨rfl, rfl⟩) rfl rfl (by omega) (g_m_sets_ok rfl (tx_iadd hx2 (rfl : (4 : Int32).toInt = 4)) (rfl : (-5 : Int32).toInt = -5) (rfl : (-5 : Int32).toInt = -5) (rfl : (-5 : Int32).toInt = -5) (rfl : (-5 : Int32).toInt = -5) H_129 h_147) rfl rfl ?_
        intro m_147 p_147 e_147 H_147
        subst e_147
        refine r_p hq 1 (pc' := 151) (L' := [(0, .ref 143), (1, .int X1), (2, .int X2)]) (st' := [.ref 143]) rfl ?_
        refine r_gR (b := 144) (pc' := 154) (L' := [(0, .ref 143), (1, .int X1), (2, .int X2)]) H_147 hq (z_at.mk 3 rfl rfl) rfl rfl rfl rfl ?_
        refine r_p hq 4 (pc' := 159) (L' := [(0, .ref 143), (1, .int X1), (2, .int X2)]) (st' := [.int (X2 + ((9 : Int32))), .ref 144, .int (X2 + ((9 : Int32))), .ref 144]) rfl ?_
        obtain ⟨g_159, h⟩ := z_ifo_some h
        refine r_ia (pc' := 160) (L' := [(0, .ref 143), (1, .int X1), (2, .int X2)]) H_147 hq (z_at.mk 1 rfl rfl) (show zAr 144 0 2740 = true from rfl) (tx_iadd hx2 (rfl : (9 : Int32).toInt = 9)) g_159 rfl rfl ?_
        intro V_159 hV_159
        refine r_p hq 1 (pc' := 161) (L' := [(0, .ref 143), (1, .int X1), (2, .int X2)]) (st' := [.int ((2 : Int32)), .int V_159, .int (X2 + ((9 : Int32))), .ref 144]) rfl ?_
        refine r_idiv (pc' := 162) (L' := [(0, .ref 143), (1, .int X1), (2, .int X2)]) hq (z_at.mk 1 rfl rfl) hV_159 (rfl : (2 : Int32).toInt = 2) (by decide) rfl rfl ?_
        intro V_161 hV_161
        obtain ⟨g_162, h⟩ := z_ifo_some h
        refine r_is (pc' := 163) (L' := [(0, .ref 143), (1, .int X1), (2, .int X2)]) H_147 hq (z_at.mk 1 rfl rfl) (show zAr 144 0 2740 = true from rfl) (tx_iadd hx2 (rfl : (9 : Int32).toInt = 9)) g_162 hV_161 rfl rfl ?_
        intro m_162 H_162
        refine r_p hq 2 (pc' := 165) (L' := [(0, .ref 143), (1, .int X1), (2, .int X2)]) (st' := [.int X1, .ref 143]) rfl ?_
        obtain ⟨o_165, h_165, h⟩ := Option.bind_eq_some_iff.mp h
        refine r_cvV (pc' := 168) (L' := [(0, .ref 143), (1, .int X1), (2, .int X2)]) (Ps := [.int X1]) (rest := []) hq (z_at.mk 3 rfl rfl) (Or.inl ⟨rfl, rfl⟩) rfl rfl (by decide) (by decide) rfl (Nat.not_lt.mpr (Nat.le_of_ble_eq_true rfl)) rfl rfl (z_cat_le 0 rfl (by decide)) (z_lgl_le 2 rfl (by decide)) (by decide) (H_162.tg rfl) (by omega) (g_m_weighs_ok hx1 H_162 h_165) rfl rfl ?_
        intro m_165 p_165 e_165 H_165
        subst e_165
        refine r_p hq 1 (pc' := 169) (L' := [(0, .ref 143), (1, .int X1), (2, .int X2)]) (st' := [.ref 143]) rfl ?_
        refine r_gR (b := 144) (pc' := 172) (L' := [(0, .ref 143), (1, .int X1), (2, .int X2)]) H_165 hq (z_at.mk 3 rfl rfl) rfl rfl rfl rfl ?_
        refine r_p hq 2 (pc' := 174) (L' := [(0, .ref 143), (1, .int X1), (2, .int X2)]) (st' := [.int ((5 : Int32)), .ref 144, .int ((5 : Int32)), .ref 144]) rfl ?_
        refine r_ia (pc' := 175) (L' := [(0, .ref 143), (1, .int X1), (2, .int X2)]) H_165 hq (z_at.mk 1 rfl rfl) (show zAr 144 0 2740 = true from rfl) (rfl : (5 : Int32).toInt = 5) ⟨by decide, by decide⟩ rfl rfl ?_
        intro V_174 hV_174
        refine r_p hq 2 (pc' := 177) (L' := [(0, .ref 143), (1, .int X1), (2, .int X2)]) (st' := [.int (V_174 + ((1 : Int32))), .int ((5 : Int32)), .ref 144]) rfl ?_
        refine r_is (pc' := 178) (L' := [(0, .ref 143), (1, .int X1), (2, .int X2)]) H_165 hq (z_at.mk 1 rfl rfl) (show zAr 144 0 2740 = true from rfl) (rfl : (5 : Int32).toInt = 5) ⟨by decide, by decide⟩ (tx_iadd hV_174 (rfl : (1 : Int32).toInt = 1)) rfl rfl ?_
        intro m_177 H_177
        refine r_p hq 1 (pc' := 196) (L' := [(0, .ref 143)]) (st' := []) rfl ?_
        exact g_m_trims_L196_ok hg0  H_177 h
def g_m_trims_L30 (g0 : zS → Option (Unit × zS)) (σ : zS) : Option (Unit × zS) :=
  (g_m_lightest σ).bind fun o_31 =>
  (g_m_region_173 o_31.1 o_31.2).bind fun o_36 =>
  if 0 ≤ w32 (121 + o_31.1) ∧ w32 (121 + o_31.1) < 361 then
  let v_48 := o_36.2 147 (w32 (121 + o_31.1))
  let v_54 := o_36.2 147 0
  if lCmp v_48 v_54 ≤ 0 then
    g_m_trims_L74 g0 o_31.1 o_36.1 o_36.2
  else
    if 0 ≤ w32 (121 + o_31.1) ∧ w32 (121 + o_31.1) < 361 then
    let v_72 := o_36.2 147 (w32 (121 + o_31.1))
    let s_73 := zu o_36.2 147 0 v_72
    g_m_trims_L74 g0 o_31.1 o_36.1 s_73
    else none
  else none
set_option maxHeartbeats 4000000 in
theorem g_m_trims_L30_ok {xl : Nat} {xs : Nat → Int32} {g0 : zS → Option (Unit × zS)} (hg0 : ∀ {σ : zS} {p : Nat} {m : zM} {o : Unit × zS}, zRep xl xs p m σ → g0 σ = some o → zGo xl xs (fun p' => p = p') 6 188 0 [(0, .ref 143)] [] m vV o.2) {σ : zS} {p : Nat} {m : zM} {o : Unit × zS} (H : zRep xl xs p m σ) (h : g_m_trims_L30 g0 σ = some o) : zGo xl xs (fun p' => p = p') 6 188 30 [(0, .ref 143)] [] m vV o.2 := by
  have hq : z_mth 188 = some z_r188 := rfl
  unfold g_m_trims_L30 at h
  refine r_p hq 1 (pc' := 31) (L' := [(0, .ref 143)]) (st' := [.ref 143]) rfl ?_
  obtain ⟨o_31, h_31, h⟩ := Option.bind_eq_some_iff.mp h
  refine r_cvI (pc' := 34) (L' := [(0, .ref 143)]) (Ps := []) (rest := []) hq (z_at.mk 3 rfl rfl) (Or.inl ⟨rfl, rfl⟩) rfl rfl (by decide) (by decide) rfl (Nat.not_lt.mpr (Nat.le_of_ble_eq_true rfl)) rfl rfl (z_cat_le 0 rfl (by decide)) (z_lgl_le 1 rfl (by decide)) (by decide) (H.tg rfl) (by omega) (g_m_lightest_ok H h_31) rfl rfl ?_
  intro R_31 m_31 p_31 e_31 hR_31 H_31
  subst e_31
  refine r_p hq 2 (pc' := 36) (L' := [(1, .int R_31), (0, .ref 143)]) (st' := [.int R_31]) rfl ?_
  obtain ⟨o_36, h_36, h⟩ := Option.bind_eq_some_iff.mp h
  refine r_csI (pc' := 39) (L' := [(1, .int R_31), (0, .ref 143)]) (As := [.int R_31]) (rest := []) (j := 173) hq (z_at.mk 3 rfl rfl) (Or.inl ⟨rfl, rfl⟩) rfl rfl (by omega) (g_m_region_173_ok hR_31 H_31 h_36) rfl rfl ?_
  intro R_36 m_36 p_36 e_36 hR_36 H_36
  subst e_36
  refine r_p hq 2 (pc' := 41) (L' := [(2, .int R_36), (1, .int R_31), (0, .ref 143)]) (st' := [.ref 143]) rfl ?_
  refine r_gR (b := 147) (pc' := 44) (L' := [(2, .int R_36), (1, .int R_31), (0, .ref 143)]) H_36 hq (z_at.mk 3 rfl rfl) rfl rfl rfl rfl ?_
  refine r_p hq 3 (pc' := 48) (L' := [(2, .int R_36), (1, .int R_31), (0, .ref 143)]) (st' := [.int (((121 : Int32)) + R_31), .ref 147]) rfl ?_
  obtain ⟨g_48, h⟩ := z_ifo_some h
  refine r_la (pc' := 49) (L' := [(2, .int R_36), (1, .int R_31), (0, .ref 143)]) H_36 hq (z_at.mk 1 rfl rfl) (show zAr 147 1 361 = true from rfl) (tx_iadd (rfl : (121 : Int32).toInt = 121) hR_31) g_48 rfl rfl ?_
  intro V_48 hV_48
  refine r_p hq 1 (pc' := 50) (L' := [(2, .int R_36), (1, .int R_31), (0, .ref 143)]) (st' := [.ref 143, .long V_48]) rfl ?_
  refine r_gR (b := 147) (pc' := 53) (L' := [(2, .int R_36), (1, .int R_31), (0, .ref 143)]) H_36 hq (z_at.mk 3 rfl rfl) rfl rfl rfl rfl ?_
  refine r_p hq 1 (pc' := 54) (L' := [(2, .int R_36), (1, .int R_31), (0, .ref 143)]) (st' := [.int ((0 : Int32)), .ref 147, .long V_48]) rfl ?_
  refine r_la (pc' := 55) (L' := [(2, .int R_36), (1, .int R_31), (0, .ref 143)]) H_36 hq (z_at.mk 1 rfl rfl) (show zAr 147 1 361 = true from rfl) (rfl : (0 : Int32).toInt = 0) ⟨by decide, by decide⟩ rfl rfl ?_
  intro V_54 hV_54
  refine r_p hq 1 (pc' := 56) (L' := [(2, .int R_36), (1, .int R_31), (0, .ref 143)]) (st' := [.int (lg_cmp V_48 V_54)]) rfl ?_
  rcases z_ite h with ⟨c_56, h⟩ | ⟨c_56, h⟩
  · refine r_t1 (pc' := 74) (L' := [(0, .ref 143), (1, .int R_31), (2, .int R_36)]) hq (z_at.mk 3 rfl rfl) rfl (tx_lcmp hV_48 hV_54) c_56 rfl rfl ?_
    exact g_m_trims_L74_ok hg0 hR_31 hR_36 H_36 h
  · refine r_f1 (pc' := 59) (L' := [(2, .int R_36), (1, .int R_31), (0, .ref 143)]) hq (z_at.mk 3 rfl rfl) rfl (tx_lcmp hV_48 hV_54) c_56 rfl rfl ?_
    refine r_p hq 1 (pc' := 60) (L' := [(2, .int R_36), (1, .int R_31), (0, .ref 143)]) (st' := [.ref 143]) rfl ?_
    refine r_gR (b := 147) (pc' := 63) (L' := [(2, .int R_36), (1, .int R_31), (0, .ref 143)]) H_36 hq (z_at.mk 3 rfl rfl) rfl rfl rfl rfl ?_
    refine r_p hq 2 (pc' := 65) (L' := [(2, .int R_36), (1, .int R_31), (0, .ref 143)]) (st' := [.ref 143, .int ((0 : Int32)), .ref 147]) rfl ?_
    refine r_gR (b := 147) (pc' := 68) (L' := [(2, .int R_36), (1, .int R_31), (0, .ref 143)]) H_36 hq (z_at.mk 3 rfl rfl) rfl rfl rfl rfl ?_
    refine r_p hq 3 (pc' := 72) (L' := [(2, .int R_36), (1, .int R_31), (0, .ref 143)]) (st' := [.int (((121 : Int32)) + R_31), .ref 147, .int ((0 : Int32)), .ref 147]) rfl ?_
    obtain ⟨g_72, h⟩ := z_ifo_some h
    refine r_la (pc' := 73) (L' := [(2, .int R_36), (1, .int R_31), (0, .ref 143)]) H_36 hq (z_at.mk 1 rfl rfl) (show zAr 147 1 361 = true from rfl) (tx_iadd (rfl : (121 : Int32).toInt = 121) hR_31) g_72 rfl rfl ?_
    intro V_72 hV_72
    refine r_ls (pc' := 74) (L' := [(0, .ref 143), (1, .int R_31), (2, .int R_36)]) H_36 hq (z_at.mk 1 rfl rfl) (show zAr 147 1 361 = true from rfl) (rfl : (0 : Int32).toInt = 0) ⟨by decide, by decide⟩ hV_72 rfl rfl ?_
    intro m_73 H_73
    exact g_m_trims_L74_ok hg0 hR_31 hR_36 H_73 h
def g_m_trims_L0 : Nat → zS → Option (Unit × zS)
  | 0, _ => none
  | n + 1, σ =>
    let v_5 := σ 144 0
    let v_12 := σ 144 13
    if v_12 < v_5 then
      g_m_trims_L30 ((g_m_trims_L0 n)) σ
    else
      (g_m_sizes σ).bind fun o_17 =>
      let v_26 := o_17.2 144 12
      if o_17.1 ≤ v_26 then
        some ((), o_17.2)
      else
        g_m_trims_L30 ((g_m_trims_L0 n)) o_17.2
set_option maxHeartbeats 4000000 in
theorem g_m_trims_L0_ok {xl : Nat} {xs : Nat → Int32} : ∀ (n : Nat) {σ : zS} {p : Nat} {m : zM} {o : Unit × zS}, zRep xl xs p m σ → g_m_trims_L0 n σ = some o → zGo xl xs (fun p' => p = p') 6 188 0 [(0, .ref 143)] [] m vV o.2
  | 0, _, _, _, _, _, h => by cases h
  | n + 1, σ, p, m, o, H, h => by
    have hq : z_mth 188 = some z_r188 := rfl
    have ih := fun {σ : zS} {p : Nat} {m : zM} {o : Unit × zS} => g_m_trims_L0_ok (xl := xl) (xs := xs) n (σ := σ) (p := p) (m := m) (o := o)
    unfold g_m_trims_L0 at h
    refine r_p hq 1 (pc' := 1) (L' := [(0, .ref 143)]) (st' := [.ref 143]) rfl ?_
    refine r_gR (b := 144) (pc' := 4) (L' := [(0, .ref 143)]) H hq (z_at.mk 3 rfl rfl) rfl rfl rfl rfl ?_
    refine r_p hq 1 (pc' := 5) (L' := [(0, .ref 143)]) (st' := [.int ((0 : Int32)), .ref 144]) rfl ?_
    refine r_ia (pc' := 6) (L' := [(0, .ref 143)]) H hq (z_at.mk 1 rfl rfl) (show zAr 144 0 2740 = true from rfl) (rfl : (0 : Int32).toInt = 0) ⟨by decide, by decide⟩ rfl rfl ?_
    intro V_5 hV_5
    refine r_p hq 1 (pc' := 7) (L' := [(0, .ref 143)]) (st' := [.ref 143, .int V_5]) rfl ?_
    refine r_gR (b := 144) (pc' := 10) (L' := [(0, .ref 143)]) H hq (z_at.mk 3 rfl rfl) rfl rfl rfl rfl ?_
    refine r_p hq 1 (pc' := 12) (L' := [(0, .ref 143)]) (st' := [.int ((13 : Int32)), .ref 144, .int V_5]) rfl ?_
    refine r_ia (pc' := 13) (L' := [(0, .ref 143)]) H hq (z_at.mk 1 rfl rfl) (show zAr 144 0 2740 = true from rfl) (rfl : (13 : Int32).toInt = 13) ⟨by decide, by decide⟩ rfl rfl ?_
    intro V_12 hV_12
    rcases z_ite h with ⟨c_13, h⟩ | ⟨c_13, h⟩
    · refine r_t2 (pc' := 30) (L' := [(0, .ref 143)]) hq (z_at.mk 3 rfl rfl) rfl hV_5 hV_12 c_13 rfl rfl ?_
      exact g_m_trims_L30_ok ih  H h
    · refine r_f2 (pc' := 16) (L' := [(0, .ref 143)]) hq (z_at.mk 3 rfl rfl) rfl hV_5 hV_12 c_13 rfl rfl ?_
      refine r_p hq 1 (pc' := 17) (L' := [(0, .ref 143)]) (st' := [.ref 143]) rfl ?_
      obtain ⟨o_17, h_17, h⟩ := Option.bind_eq_some_iff.mp h
      refine r_cvI (pc' := 20) (L' := [(0, .ref 143)]) (Ps := []) (rest := []) hq (z_at.mk 3 rfl rfl) (Or.inl ⟨rfl, rfl⟩) rfl rfl (by decide) (by decide) rfl (Nat.not_lt.mpr (Nat.le_of_ble_eq_true rfl)) rfl rfl (z_cat_le 0 rfl (by decide)) (z_lgl_le 1 rfl (by decide)) (by decide) (H.tg rfl) (by omega) (g_m_sizes_ok H h_17) rfl rfl ?_
      intro R_17 m_17 p_17 e_17 hR_17 H_17
      subst e_17
      refine r_p hq 1 (pc' := 21) (L' := [(0, .ref 143)]) (st' := [.ref 143, .int R_17]) rfl ?_
      refine r_gR (b := 144) (pc' := 24) (L' := [(0, .ref 143)]) H_17 hq (z_at.mk 3 rfl rfl) rfl rfl rfl rfl ?_
      refine r_p hq 1 (pc' := 26) (L' := [(0, .ref 143)]) (st' := [.int ((12 : Int32)), .ref 144, .int R_17]) rfl ?_
      refine r_ia (pc' := 27) (L' := [(0, .ref 143)]) H_17 hq (z_at.mk 1 rfl rfl) (show zAr 144 0 2740 = true from rfl) (rfl : (12 : Int32).toInt = 12) ⟨by decide, by decide⟩ rfl rfl ?_
      intro V_26 hV_26
      rcases z_ite h with ⟨c_27, h⟩ | ⟨c_27, h⟩
      · refine r_t2 (pc' := 199) (L' := [(0, .ref 143)]) hq (z_at.mk 3 rfl rfl) rfl hR_17 hV_26 c_27 rfl rfl ?_
        cases h
        exact r_rv hq (z_at.mk 1 rfl rfl) rfl rfl H_17
      · refine r_f2 (pc' := 30) (L' := [(0, .ref 143)]) hq (z_at.mk 3 rfl rfl) rfl hR_17 hV_26 c_27 rfl rfl ?_
        exact g_m_trims_L30_ok ih  H_17 h
def g_m_trims (σ : zS) : Option (Unit × zS) :=
  g_m_trims_L0 zK σ
set_option maxHeartbeats 4000000 in
theorem g_m_trims_ok {xl : Nat} {xs : Nat → Int32} {σ : zS} {p : Nat} {m : zM} {o : Unit × zS} (H : zRep xl xs p m σ) (h : g_m_trims σ = some o) : zGo xl xs (fun p' => p = p') 6 188 0 (z_can 188 0 (lv_args 0 [.ref 143])) [] m vV o.2 := by
  have hq : z_mth 188 = some z_r188 := rfl
  unfold g_m_trims at h
  show zGo xl xs (fun p' => p = p') 6 188 0 [(0, .ref 143)] [] m vV o.2
  exact g_m_trims_L0_ok zK  H h
end
section
/-! 21.g11 -/
/-! THE METHODS over the typed memory, 11 (by wip/zg.py) -/
def g_m_queries_L104 (g6 : Int → zS → Option (Unit × zS)) (x1 : Int) (σ : zS) : Option (Unit × zS) :=
  g6 (w32 (x1 + 1)) σ
set_option maxHeartbeats 4000000 in
theorem g_m_queries_L104_ok {xl : Nat} {xs : Nat → Int32} {g6 : Int → zS → Option (Unit × zS)} (hg6 : ∀ {X1 : Int32} {x1 : Int} {σ : zS} {p : Nat} {m : zM} {o : Unit × zS}, X1.toInt = x1 → zRep xl xs p m σ → g6 x1 σ = some o → zGo xl xs (fun p' => p = p') 7 189 6 [(0, .ref 143), (1, .int X1)] [] m vV o.2) {X1 : Int32} {x1 : Int} (hx1 : X1.toInt = x1) {σ : zS} {p : Nat} {m : zM} {o : Unit × zS} (H : zRep xl xs p m σ) (h : g_m_queries_L104 g6 x1 σ = some o) : zGo xl xs (fun p' => p = p') 7 189 104 [(0, .ref 143), (1, .int X1)] [] m vV o.2 := by
  have hq : z_mth 189 = some z_r189 := rfl
  unfold g_m_queries_L104 at h
  refine r_p hq 2 (pc' := 6) (L' := [(0, .ref 143), (1, .int (X1 + (1 : Int32)))]) (st' := []) rfl ?_
  exact hg6 (tx_iadd hx1 (rfl : (1 : Int32).toInt = 1)) H h
def g_m_queries_L189 : Nat → Int → zS → Option (Unit × zS)
  | 0, _, _ => none
  | n + 1, x1, σ =>
    if x1 = 0 then
      (g_m_trims σ).bind fun o_202 =>
      some ((), o_202.2)
    else
      (g_m_isMerged σ).bind fun o_194 =>
      (g_m_queries_L189 n) o_194.1 o_194.2
set_option maxHeartbeats 4000000 in
theorem g_m_queries_L189_ok {xl : Nat} {xs : Nat → Int32} : ∀ (n : Nat) {X1 : Int32} {x1 : Int} {σ : zS} {p : Nat} {m : zM} {o : Unit × zS}, X1.toInt = x1 → zRep xl xs p m σ → g_m_queries_L189 n x1 σ = some o → zGo xl xs (fun p' => p = p') 7 189 189 [(0, .ref 143), (1, .int X1)] [] m vV o.2
  | 0, _, _, _, _, _, _, _, _, h => by cases h
  | n + 1, X1, x1, σ, p, m, o, hx1, H, h => by
    have hq : z_mth 189 = some z_r189 := rfl
    have ih := fun {X1 : Int32} {x1 : Int} {σ : zS} {p : Nat} {m : zM} {o : Unit × zS} => g_m_queries_L189_ok (xl := xl) (xs := xs) n (X1 := X1) (x1 := x1) (σ := σ) (p := p) (m := m) (o := o)
    unfold g_m_queries_L189 at h
    refine r_p hq 1 (pc' := 190) (L' := [(0, .ref 143), (1, .int X1)]) (st' := [.int X1]) rfl ?_
    rcases z_ite h with ⟨c_190, h⟩ | ⟨c_190, h⟩
    · refine r_t1 (pc' := 201) (L' := [(0, .ref 143), (1, .int X1)]) hq (z_at.mk 3 rfl rfl) rfl hx1 c_190 rfl rfl ?_
      refine r_p hq 1 (pc' := 202) (L' := [(0, .ref 143), (1, .int X1)]) (st' := [.ref 143]) rfl ?_
      obtain ⟨o_202, h_202, h⟩ := Option.bind_eq_some_iff.mp h
      refine r_cvV (pc' := 205) (L' := [(0, .ref 143), (1, .int X1)]) (Ps := []) (rest := []) hq (z_at.mk 3 rfl rfl) (Or.inl ⟨rfl, rfl⟩) rfl rfl (by decide) (by decide) rfl (Nat.not_lt.mpr (Nat.le_of_ble_eq_true rfl)) rfl rfl (z_cat_le 0 rfl (by decide)) (z_lgl_le 1 rfl (by decide)) (by decide) (H.tg rfl) (by omega) (g_m_trims_ok H h_202) rfl rfl ?_
      intro m_202 p_202 e_202 H_202
      subst e_202
      cases h
      exact r_rv hq (z_at.mk 1 rfl rfl) rfl rfl H_202
    · refine r_f1 (pc' := 193) (L' := [(0, .ref 143), (1, .int X1)]) hq (z_at.mk 3 rfl rfl) rfl hx1 c_190 rfl rfl ?_
      refine r_p hq 1 (pc' := 194) (L' := [(0, .ref 143), (1, .int X1)]) (st' := [.ref 143]) rfl ?_
      obtain ⟨o_194, h_194, h⟩ := Option.bind_eq_some_iff.mp h
      refine r_cvI (pc' := 197) (L' := [(0, .ref 143), (1, .int X1)]) (Ps := []) (rest := []) hq (z_at.mk 3 rfl rfl) (Or.inl ⟨rfl, rfl⟩) rfl rfl (by decide) (by decide) rfl (Nat.not_lt.mpr (Nat.le_of_ble_eq_true rfl)) rfl rfl (z_cat_le 0 rfl (by decide)) (z_lgl_le 1 rfl (by decide)) (by decide) (H.tg rfl) (by omega) (g_m_isMerged_ok H h_194) rfl rfl ?_
      intro R_194 m_194 p_194 e_194 hR_194 H_194
      subst e_194
      refine r_p hq 2 (pc' := 189) (L' := [(0, .ref 143), (1, .int R_194)]) (st' := []) rfl ?_
      exact ih hR_194 H_194 h
def g_m_queries_L188 (xs0 : Int) (σ : zS) : Option (Unit × zS) :=
  g_m_queries_L189 zK xs0 σ
set_option maxHeartbeats 4000000 in
theorem g_m_queries_L188_ok {xl : Nat} {xs : Nat → Int32} {Xs0 : Int32} {xs0 : Int} (hxs0 : Xs0.toInt = xs0) {σ : zS} {p : Nat} {m : zM} {o : Unit × zS} (H : zRep xl xs p m σ) (h : g_m_queries_L188 xs0 σ = some o) : zGo xl xs (fun p' => p = p') 7 189 188 [(0, .ref 143)] [.int Xs0] m vV o.2 := by
  have hq : z_mth 189 = some z_r189 := rfl
  unfold g_m_queries_L188 at h
  refine r_p hq 1 (pc' := 189) (L' := [(0, .ref 143), (1, .int Xs0)]) (st' := []) rfl ?_
  exact g_m_queries_L189_ok zK hxs0 H h
def g_m_queries_L166 (g112 : Int → zS → Option (Unit × zS)) (x1 : Int) (σ : zS) : Option (Unit × zS) :=
  g112 (w32 (x1 + 1)) σ
set_option maxHeartbeats 4000000 in
theorem g_m_queries_L166_ok {xl : Nat} {xs : Nat → Int32} {g112 : Int → zS → Option (Unit × zS)} (hg112 : ∀ {X1 : Int32} {x1 : Int} {σ : zS} {p : Nat} {m : zM} {o : Unit × zS}, X1.toInt = x1 → zRep xl xs p m σ → g112 x1 σ = some o → zGo xl xs (fun p' => p = p') 7 189 112 [(0, .ref 143), (1, .int X1)] [] m vV o.2) {X1 : Int32} {x1 : Int} (hx1 : X1.toInt = x1) {σ : zS} {p : Nat} {m : zM} {o : Unit × zS} (H : zRep xl xs p m σ) (h : g_m_queries_L166 g112 x1 σ = some o) : zGo xl xs (fun p' => p = p') 7 189 166 [(0, .ref 143), (1, .int X1)] [] m vV o.2 := by
  have hq : z_mth 189 = some z_r189 := rfl
  unfold g_m_queries_L166 at h
  refine r_p hq 2 (pc' := 112) (L' := [(0, .ref 143), (1, .int (X1 + (1 : Int32)))]) (st' := []) rfl ?_
  exact hg112 (tx_iadd hx1 (rfl : (1 : Int32).toInt = 1)) H h
def g_m_queries_L112 : Nat → Int → zS → Option (Unit × zS)
  | 0, _, _ => none
  | n + 1, x1, σ =>
    let v_114 := σ 143 10
    if v_114 ≤ x1 then
      let v_178 := σ 144 15
      if v_178 ≠ 1 then
        g_m_queries_L188 0 σ
      else
        g_m_queries_L188 1 σ
    else
      (g_m_asks 150 (w32 (4 * x1)) σ).bind fun o_128 =>
      (g_m_area 150 (w32 (4 * x1)) o_128.2).bind fun o_138 =>
      let v_147 := o_138.2 144 17
      if v_147 < o_138.1 then
        g_m_queries_L166 ((g_m_queries_L112 n)) x1 o_138.2
      else
        (g_m_adds 150 (w32 (4 * x1)) o_138.2).bind fun o_160 =>
        (g_m_weighs o_160.1 o_160.2).bind fun o_163 =>
        g_m_queries_L166 ((g_m_queries_L112 n)) x1 o_163.2
set_option maxHeartbeats 4000000 in
theorem g_m_queries_L112_ok {xl : Nat} {xs : Nat → Int32} : ∀ (n : Nat) {X1 : Int32} {x1 : Int} {σ : zS} {p : Nat} {m : zM} {o : Unit × zS}, X1.toInt = x1 → zRep xl xs p m σ → g_m_queries_L112 n x1 σ = some o → zGo xl xs (fun p' => p = p') 7 189 112 [(0, .ref 143), (1, .int X1)] [] m vV o.2
  | 0, _, _, _, _, _, _, _, _, h => by cases h
  | n + 1, X1, x1, σ, p, m, o, hx1, H, h => by
    have hq : z_mth 189 = some z_r189 := rfl
    have ih := fun {X1 : Int32} {x1 : Int} {σ : zS} {p : Nat} {m : zM} {o : Unit × zS} => g_m_queries_L112_ok (xl := xl) (xs := xs) n (X1 := X1) (x1 := x1) (σ := σ) (p := p) (m := m) (o := o)
    unfold g_m_queries_L112 at h
    refine r_p hq 2 (pc' := 114) (L' := [(0, .ref 143), (1, .int X1)]) (st' := [.ref 143, .int X1]) rfl ?_
    refine r_gI (pc' := 117) (L' := [(0, .ref 143), (1, .int X1)]) H hq (z_at.mk 3 rfl rfl) rfl rfl rfl rfl ?_
    intro V_114 hV_114
    rcases z_ite h with ⟨c_117, h⟩ | ⟨c_117, h⟩
    · refine r_t2 (pc' := 172) (L' := [(0, .ref 143), (1, .int X1)]) hq (z_at.mk 3 rfl rfl) rfl hx1 hV_114 c_117 rfl rfl ?_
      refine r_p hq 1 (pc' := 173) (L' := [(0, .ref 143), (1, .int X1)]) (st' := [.ref 143]) rfl ?_
      refine r_gR (b := 144) (pc' := 176) (L' := [(0, .ref 143), (1, .int X1)]) H hq (z_at.mk 3 rfl rfl) rfl rfl rfl rfl ?_
      refine r_p hq 1 (pc' := 178) (L' := [(0, .ref 143), (1, .int X1)]) (st' := [.int ((15 : Int32)), .ref 144]) rfl ?_
      refine r_ia (pc' := 179) (L' := [(0, .ref 143), (1, .int X1)]) H hq (z_at.mk 1 rfl rfl) (show zAr 144 0 2740 = true from rfl) (rfl : (15 : Int32).toInt = 15) ⟨by decide, by decide⟩ rfl rfl ?_
      intro V_178 hV_178
      refine r_p hq 1 (pc' := 180) (L' := [(0, .ref 143), (1, .int X1)]) (st' := [.int ((1 : Int32)), .int V_178]) rfl ?_
      rcases z_ite h with ⟨c_180, h⟩ | ⟨c_180, h⟩
      · refine r_t2 (pc' := 187) (L' := [(0, .ref 143), (1, .int X1)]) hq (z_at.mk 3 rfl rfl) rfl hV_178 (rfl : (1 : Int32).toInt = 1) c_180 rfl rfl ?_
        refine r_p hq 1 (pc' := 188) (L' := [(0, .ref 143)]) (st' := [.int ((0 : Int32))]) rfl ?_
        exact g_m_queries_L188_ok (rfl : (0 : Int32).toInt = 0) H h
      · refine r_f2 (pc' := 183) (L' := [(0, .ref 143), (1, .int X1)]) hq (z_at.mk 3 rfl rfl) rfl hV_178 (rfl : (1 : Int32).toInt = 1) c_180 rfl rfl ?_
        refine r_p hq 2 (pc' := 188) (L' := [(0, .ref 143)]) (st' := [.int ((1 : Int32))]) rfl ?_
        exact g_m_queries_L188_ok (rfl : (1 : Int32).toInt = 1) H h
    · refine r_f2 (pc' := 120) (L' := [(0, .ref 143), (1, .int X1)]) hq (z_at.mk 3 rfl rfl) rfl hx1 hV_114 c_117 rfl rfl ?_
      refine r_p hq 2 (pc' := 122) (L' := [(0, .ref 143), (1, .int X1)]) (st' := [.ref 143, .ref 143]) rfl ?_
      refine r_gR (b := 150) (pc' := 125) (L' := [(0, .ref 143), (1, .int X1)]) H hq (z_at.mk 3 rfl rfl) rfl rfl rfl rfl ?_
      refine r_p hq 3 (pc' := 128) (L' := [(0, .ref 143), (1, .int X1)]) (st' := [.int (((4 : Int32)) * X1), .ref 150, .ref 143]) rfl ?_
      obtain ⟨o_128, h_128, h⟩ := Option.bind_eq_some_iff.mp h
      refine r_cvV (pc' := 131) (L' := [(0, .ref 143), (1, .int X1)]) (Ps := [.ref 150, .int (((4 : Int32)) * X1)]) (rest := []) hq (z_at.mk 3 rfl rfl) (Or.inl ⟨rfl, rfl⟩) rfl rfl (by decide) (by decide) rfl (Nat.not_lt.mpr (Nat.le_of_ble_eq_true rfl)) rfl rfl (z_cat_le 0 rfl (by decide)) (z_lgl_le 3 rfl (by decide)) (by decide) (H.tg rfl) (by omega) (g_m_asks_ok rfl (tx_imul (rfl : (4 : Int32).toInt = 4) hx1) H h_128) rfl rfl ?_
      intro m_128 p_128 e_128 H_128
      subst e_128
      refine r_p hq 1 (pc' := 132) (L' := [(0, .ref 143), (1, .int X1)]) (st' := [.ref 143]) rfl ?_
      refine r_gR (b := 150) (pc' := 135) (L' := [(0, .ref 143), (1, .int X1)]) H_128 hq (z_at.mk 3 rfl rfl) rfl rfl rfl rfl ?_
      refine r_p hq 3 (pc' := 138) (L' := [(0, .ref 143), (1, .int X1)]) (st' := [.int (((4 : Int32)) * X1), .ref 150]) rfl ?_
      obtain ⟨o_138, h_138, h⟩ := Option.bind_eq_some_iff.mp h
      refine r_csI (pc' := 141) (L' := [(0, .ref 143), (1, .int X1)]) (As := [.ref 150, .int (((4 : Int32)) * X1)]) (rest := []) (j := 167) hq (z_at.mk 3 rfl rfl) (Or.inl ⟨rfl, rfl⟩) rfl rfl (by omega) (g_m_area_ok rfl (tx_imul (rfl : (4 : Int32).toInt = 4) hx1) H_128 h_138) rfl rfl ?_
      intro R_138 m_138 p_138 e_138 hR_138 H_138
      subst e_138
      refine r_p hq 1 (pc' := 142) (L' := [(0, .ref 143), (1, .int X1)]) (st' := [.ref 143, .int R_138]) rfl ?_
      refine r_gR (b := 144) (pc' := 145) (L' := [(0, .ref 143), (1, .int X1)]) H_138 hq (z_at.mk 3 rfl rfl) rfl rfl rfl rfl ?_
      refine r_p hq 1 (pc' := 147) (L' := [(0, .ref 143), (1, .int X1)]) (st' := [.int ((17 : Int32)), .ref 144, .int R_138]) rfl ?_
      refine r_ia (pc' := 148) (L' := [(0, .ref 143), (1, .int X1)]) H_138 hq (z_at.mk 1 rfl rfl) (show zAr 144 0 2740 = true from rfl) (rfl : (17 : Int32).toInt = 17) ⟨by decide, by decide⟩ rfl rfl ?_
      intro V_147 hV_147
      rcases z_ite h with ⟨c_148, h⟩ | ⟨c_148, h⟩
      · refine r_t2 (pc' := 166) (L' := [(0, .ref 143), (1, .int X1)]) hq (z_at.mk 3 rfl rfl) rfl hR_138 hV_147 c_148 rfl rfl ?_
        exact g_m_queries_L166_ok ih hx1 H_138 h
      · refine r_f2 (pc' := 151) (L' := [(0, .ref 143), (1, .int X1)]) hq (z_at.mk 3 rfl rfl) rfl hR_138 hV_147 c_148 rfl rfl ?_
        refine r_p hq 3 (pc' := 154) (L' := [(0, .ref 143), (1, .int X1)]) (st' := [.ref 143, .ref 143, .ref 143]) rfl ?_
        refine r_gR (b := 150) (pc' := 157) (L' := [(0, .ref 143), (1, .int X1)]) H_138 hq (z_at.mk 3 rfl rfl) rfl rfl rfl rfl ?_
        refine r_p hq 3 (pc' := 160) (L' := [(0, .ref 143), (1, .int X1)]) (st' := [.int (((4 : Int32)) * X1), .ref 150, .ref 143, .ref 143]) rfl ?_
        obtain ⟨o_160, h_160, h⟩ := Option.bind_eq_some_iff.mp h
        refine r_cvI (pc' := 163) (L' := [(0, .ref 143), (1, .int X1)]) (Ps := [.ref 150, .int (((4 : Int32)) * X1)]) (rest := [.ref 143]) hq (z_at.mk 3 rfl rfl) (Or.inl ⟨rfl, rfl⟩) rfl rfl (by decide) (by decide) rfl (Nat.not_lt.mpr (Nat.le_of_ble_eq_true rfl)) rfl rfl (z_cat_le 1 rfl (by decide)) (z_lgl_le 3 rfl (by decide)) (by decide) (H_138.tg rfl) (by omega) (g_m_adds_ok rfl (tx_imul (rfl : (4 : Int32).toInt = 4) hx1) H_138 h_160) rfl rfl ?_
        intro R_160 m_160 p_160 e_160 hR_160 H_160
        subst e_160
        obtain ⟨o_163, h_163, h⟩ := Option.bind_eq_some_iff.mp h
        refine r_cvV (pc' := 166) (L' := [(0, .ref 143), (1, .int X1)]) (Ps := [.int R_160]) (rest := []) hq (z_at.mk 3 rfl rfl) (Or.inl ⟨rfl, rfl⟩) rfl rfl (by decide) (by decide) rfl (Nat.not_lt.mpr (Nat.le_of_ble_eq_true rfl)) rfl rfl (z_cat_le 0 rfl (by decide)) (z_lgl_le 2 rfl (by decide)) (by decide) (H_160.tg rfl) (by omega) (g_m_weighs_ok hR_160 H_160 h_163) rfl rfl ?_
        intro m_163 p_163 e_163 H_163
        subst e_163
        exact g_m_queries_L166_ok ih hx1 H_163 h
def g_m_queries_L6 : Nat → Int → zS → Option (Unit × zS)
  | 0, _, _ => none
  | n + 1, x1, σ =>
    let v_12 := σ 144 0
    if v_12 ≤ x1 then
      g_m_queries_L112 zK 0 σ
    else
      (g_m_region_173 x1 σ).bind fun o_17 =>
      (g_m_doMeet 144 152 o_17.1 0 o_17.2).bind fun o_31 =>
      if o_31.1 ≠ 0 then
        if 0 ≤ w32 (o_17.1 + 9) ∧ w32 (o_17.1 + 9) < 2740 then
        let v_59 := o_31.2 144 (w32 (o_17.1 + 9))
        (g_m_less 9999 (w32 (v_59 + 1)) o_31.2).bind fun o_62 =>
        if 0 ≤ w32 (o_17.1 + 9) ∧ w32 (o_17.1 + 9) < 2740 then
        let s_65 := zu o_62.2 144 (w32 (o_17.1 + 9)) o_62.1
        (g_m_commons 144 152 153 o_17.1 0 0 s_65).bind fun o_81 =>
        (g_m_arounds 144 153 (w32 (o_17.1 + 4)) 0 o_81.2).bind fun o_96 =>
        (g_m_weighs x1 o_96.2).bind fun o_101 =>
        g_m_queries_L104 ((g_m_queries_L6 n)) x1 o_101.2
        else none
        else none
      else
        g_m_queries_L104 ((g_m_queries_L6 n)) x1 o_31.2
set_option maxHeartbeats 4000000 in
theorem g_m_queries_L6_ok {xl : Nat} {xs : Nat → Int32} : ∀ (n : Nat) {X1 : Int32} {x1 : Int} {σ : zS} {p : Nat} {m : zM} {o : Unit × zS}, X1.toInt = x1 → zRep xl xs p m σ → g_m_queries_L6 n x1 σ = some o → zGo xl xs (fun p' => p = p') 7 189 6 [(0, .ref 143), (1, .int X1)] [] m vV o.2
  | 0, _, _, _, _, _, _, _, _, h => by cases h
  | n + 1, X1, x1, σ, p, m, o, hx1, H, h => by
    have hq : z_mth 189 = some z_r189 := rfl
    have ih := fun {X1 : Int32} {x1 : Int} {σ : zS} {p : Nat} {m : zM} {o : Unit × zS} => g_m_queries_L6_ok (xl := xl) (xs := xs) n (X1 := X1) (x1 := x1) (σ := σ) (p := p) (m := m) (o := o)
    unfold g_m_queries_L6 at h
    refine r_p hq 2 (pc' := 8) (L' := [(0, .ref 143), (1, .int X1)]) (st' := [.ref 143, .int X1]) rfl ?_
    refine r_gR (b := 144) (pc' := 11) (L' := [(0, .ref 143), (1, .int X1)]) H hq (z_at.mk 3 rfl rfl) rfl rfl rfl rfl ?_
    refine r_p hq 1 (pc' := 12) (L' := [(0, .ref 143), (1, .int X1)]) (st' := [.int ((0 : Int32)), .ref 144, .int X1]) rfl ?_
    refine r_ia (pc' := 13) (L' := [(0, .ref 143), (1, .int X1)]) H hq (z_at.mk 1 rfl rfl) (show zAr 144 0 2740 = true from rfl) (rfl : (0 : Int32).toInt = 0) ⟨by decide, by decide⟩ rfl rfl ?_
    intro V_12 hV_12
    rcases z_ite h with ⟨c_13, h⟩ | ⟨c_13, h⟩
    · refine r_t2 (pc' := 110) (L' := [(0, .ref 143), (1, .int X1)]) hq (z_at.mk 3 rfl rfl) rfl hx1 hV_12 c_13 rfl rfl ?_
      refine r_p hq 2 (pc' := 112) (L' := [(0, .ref 143), (1, .int ((0 : Int32)))]) (st' := []) rfl ?_
      exact g_m_queries_L112_ok zK (rfl : (0 : Int32).toInt = 0) H h
    · refine r_f2 (pc' := 16) (L' := [(0, .ref 143), (1, .int X1)]) hq (z_at.mk 3 rfl rfl) rfl hx1 hV_12 c_13 rfl rfl ?_
      refine r_p hq 1 (pc' := 17) (L' := [(0, .ref 143), (1, .int X1)]) (st' := [.int X1]) rfl ?_
      obtain ⟨o_17, h_17, h⟩ := Option.bind_eq_some_iff.mp h
      refine r_csI (pc' := 20) (L' := [(0, .ref 143), (1, .int X1)]) (As := [.int X1]) (rest := []) (j := 173) hq (z_at.mk 3 rfl rfl) (Or.inl ⟨rfl, rfl⟩) rfl rfl (by omega) (g_m_region_173_ok hx1 H h_17) rfl rfl ?_
      intro R_17 m_17 p_17 e_17 hR_17 H_17
      subst e_17
      refine r_p hq 2 (pc' := 22) (L' := [(2, .int R_17), (0, .ref 143), (1, .int X1)]) (st' := [.ref 143]) rfl ?_
      refine r_gR (b := 144) (pc' := 25) (L' := [(2, .int R_17), (0, .ref 143), (1, .int X1)]) H_17 hq (z_at.mk 3 rfl rfl) rfl rfl rfl rfl ?_
      refine r_p hq 2 (pc' := 27) (L' := [(2, .int R_17), (0, .ref 143), (1, .int X1)]) (st' := [.ref 143, .int R_17, .ref 144]) rfl ?_
      refine r_gR (b := 152) (pc' := 30) (L' := [(2, .int R_17), (0, .ref 143), (1, .int X1)]) H_17 hq (z_at.mk 3 rfl rfl) rfl rfl rfl rfl ?_
      refine r_p hq 1 (pc' := 31) (L' := [(2, .int R_17), (0, .ref 143), (1, .int X1)]) (st' := [.int ((0 : Int32)), .ref 152, .int R_17, .ref 144]) rfl ?_
      obtain ⟨o_31, h_31, h⟩ := Option.bind_eq_some_iff.mp h
      refine r_csI (pc' := 34) (L' := [(2, .int R_17), (0, .ref 143), (1, .int X1)]) (As := [.ref 144, .int R_17, .ref 152, .int ((0 : Int32))]) (rest := []) (j := 169) hq (z_at.mk 3 rfl rfl) (Or.inl ⟨rfl, rfl⟩) rfl rfl (by omega) (g_m_doMeet_ok rfl rfl hR_17 (rfl : (0 : Int32).toInt = 0) H_17 h_31) rfl rfl ?_
      intro R_31 m_31 p_31 e_31 hR_31 H_31
      subst e_31
      rcases z_ite h with ⟨c_34, h⟩ | ⟨c_34, h⟩
      · refine r_t1 (pc' := 40) (L' := [(2, .int R_17), (0, .ref 143), (1, .int X1)]) hq (z_at.mk 3 rfl rfl) rfl hR_31 c_34 rfl rfl ?_
        refine r_p hq 1 (pc' := 41) (L' := [(2, .int R_17), (0, .ref 143), (1, .int X1)]) (st' := [.ref 143]) rfl ?_
        refine r_gR (b := 144) (pc' := 44) (L' := [(2, .int R_17), (0, .ref 143), (1, .int X1)]) H_31 hq (z_at.mk 3 rfl rfl) rfl rfl rfl rfl ?_
        refine r_p hq 5 (pc' := 52) (L' := [(2, .int R_17), (0, .ref 143), (1, .int X1)]) (st' := [.ref 143, .int ((9999 : Int32)), .int (R_17 + ((9 : Int32))), .ref 144]) rfl ?_
        refine r_gR (b := 144) (pc' := 55) (L' := [(2, .int R_17), (0, .ref 143), (1, .int X1)]) H_31 hq (z_at.mk 3 rfl rfl) rfl rfl rfl rfl ?_
        refine r_p hq 3 (pc' := 59) (L' := [(2, .int R_17), (0, .ref 143), (1, .int X1)]) (st' := [.int (R_17 + ((9 : Int32))), .ref 144, .int ((9999 : Int32)), .int (R_17 + ((9 : Int32))), .ref 144]) rfl ?_
        obtain ⟨g_59, h⟩ := z_ifo_some h
        refine r_ia (pc' := 60) (L' := [(2, .int R_17), (0, .ref 143), (1, .int X1)]) H_31 hq (z_at.mk 1 rfl rfl) (show zAr 144 0 2740 = true from rfl) (tx_iadd hR_17 (rfl : (9 : Int32).toInt = 9)) g_59 rfl rfl ?_
        intro V_59 hV_59
        refine r_p hq 2 (pc' := 62) (L' := [(2, .int R_17), (0, .ref 143), (1, .int X1)]) (st' := [.int (V_59 + ((1 : Int32))), .int ((9999 : Int32)), .int (R_17 + ((9 : Int32))), .ref 144]) rfl ?_
        obtain ⟨o_62, h_62, h⟩ := Option.bind_eq_some_iff.mp h
        refine r_csI (pc' := 65) (L' := [(2, .int R_17), (0, .ref 143), (1, .int X1)]) (As := [.int ((9999 : Int32)), .int (V_59 + ((1 : Int32)))]) (rest := [.int (R_17 + ((9 : Int32))), .ref 144]) (j := 160) hq (z_at.mk 3 rfl rfl) (Or.inl ⟨rfl, rfl⟩) rfl rfl (by omega) (g_m_less_ok (rfl : (9999 : Int32).toInt = 9999) (tx_iadd hV_59 (rfl : (1 : Int32).toInt = 1)) H_31 h_62) rfl rfl ?_
        intro R_62 m_62 p_62 e_62 hR_62 H_62
        subst e_62
        obtain ⟨g_65, h⟩ := z_ifo_some h
        refine r_is (pc' := 66) (L' := [(2, .int R_17), (0, .ref 143), (1, .int X1)]) H_62 hq (z_at.mk 1 rfl rfl) (show zAr 144 0 2740 = true from rfl) (tx_iadd hR_17 (rfl : (9 : Int32).toInt = 9)) g_65 hR_62 rfl rfl ?_
        intro m_65 H_65
        refine r_p hq 1 (pc' := 67) (L' := [(2, .int R_17), (0, .ref 143), (1, .int X1)]) (st' := [.ref 143]) rfl ?_
        refine r_gR (b := 144) (pc' := 70) (L' := [(2, .int R_17), (0, .ref 143), (1, .int X1)]) H_65 hq (z_at.mk 3 rfl rfl) rfl rfl rfl rfl ?_
        refine r_p hq 2 (pc' := 72) (L' := [(2, .int R_17), (0, .ref 143), (1, .int X1)]) (st' := [.ref 143, .int R_17, .ref 144]) rfl ?_
        refine r_gR (b := 152) (pc' := 75) (L' := [(2, .int R_17), (0, .ref 143), (1, .int X1)]) H_65 hq (z_at.mk 3 rfl rfl) rfl rfl rfl rfl ?_
        refine r_p hq 2 (pc' := 77) (L' := [(2, .int R_17), (0, .ref 143), (1, .int X1)]) (st' := [.ref 143, .int ((0 : Int32)), .ref 152, .int R_17, .ref 144]) rfl ?_
        refine r_gR (b := 153) (pc' := 80) (L' := [(2, .int R_17), (0, .ref 143), (1, .int X1)]) H_65 hq (z_at.mk 3 rfl rfl) rfl rfl rfl rfl ?_
        refine r_p hq 1 (pc' := 81) (L' := [(2, .int R_17), (0, .ref 143), (1, .int X1)]) (st' := [.int ((0 : Int32)), .ref 153, .int ((0 : Int32)), .ref 152, .int R_17, .ref 144]) rfl ?_
        obtain ⟨o_81, h_81, h⟩ := Option.bind_eq_some_iff.mp h
        refine r_csV (pc' := 84) (L' := [(2, .int R_17), (0, .ref 143), (1, .int X1)]) (As := [.ref 144, .int R_17, .ref 152, .int ((0 : Int32)), .ref 153, .int ((0 : Int32))]) (rest := []) (j := 170) hq (z_at.mk 3 rfl rfl) (Or.inl ⟨rfl, rfl⟩) rfl rfl (by omega) (g_m_commons_ok rfl rfl rfl hR_17 (rfl : (0 : Int32).toInt = 0) (rfl : (0 : Int32).toInt = 0) H_65 h_81) rfl rfl ?_
        intro m_81 p_81 e_81 H_81
        subst e_81
        refine r_p hq 1 (pc' := 85) (L' := [(2, .int R_17), (0, .ref 143), (1, .int X1)]) (st' := [.ref 143]) rfl ?_
        refine r_gR (b := 144) (pc' := 88) (L' := [(2, .int R_17), (0, .ref 143), (1, .int X1)]) H_81 hq (z_at.mk 3 rfl rfl) rfl rfl rfl rfl ?_
        refine r_p hq 4 (pc' := 92) (L' := [(2, .int R_17), (0, .ref 143), (1, .int X1)]) (st' := [.ref 143, .int (R_17 + ((4 : Int32))), .ref 144]) rfl ?_
        refine r_gR (b := 153) (pc' := 95) (L' := [(2, .int R_17), (0, .ref 143), (1, .int X1)]) H_81 hq (z_at.mk 3 rfl rfl) rfl rfl rfl rfl ?_
        refine r_p hq 1 (pc' := 96) (L' := [(2, .int R_17), (0, .ref 143), (1, .int X1)]) (st' := [.int ((0 : Int32)), .ref 153, .int (R_17 + ((4 : Int32))), .ref 144]) rfl ?_
        obtain ⟨o_96, h_96, h⟩ := Option.bind_eq_some_iff.mp h
        refine r_csV (pc' := 99) (L' := [(2, .int R_17), (0, .ref 143), (1, .int X1)]) (As := [.ref 144, .int (R_17 + ((4 : Int32))), .ref 153, .int ((0 : Int32))]) (rest := []) (j := 171) hq (z_at.mk 3 rfl rfl) (Or.inl ⟨rfl, rfl⟩) rfl rfl (by omega) (g_m_arounds_ok rfl rfl (tx_iadd hR_17 (rfl : (4 : Int32).toInt = 4)) (rfl : (0 : Int32).toInt = 0) H_81 h_96) rfl rfl ?_
        intro m_96 p_96 e_96 H_96
        subst e_96
        refine r_p hq 2 (pc' := 101) (L' := [(2, .int R_17), (0, .ref 143), (1, .int X1)]) (st' := [.int X1, .ref 143]) rfl ?_
        obtain ⟨o_101, h_101, h⟩ := Option.bind_eq_some_iff.mp h
        refine r_cvV (pc' := 104) (L' := [(0, .ref 143), (1, .int X1)]) (Ps := [.int X1]) (rest := []) hq (z_at.mk 3 rfl rfl) (Or.inl ⟨rfl, rfl⟩) rfl rfl (by decide) (by decide) rfl (Nat.not_lt.mpr (Nat.le_of_ble_eq_true rfl)) rfl rfl (z_cat_le 0 rfl (by decide)) (z_lgl_le 2 rfl (by decide)) (by decide) (H_96.tg rfl) (by omega) (g_m_weighs_ok hx1 H_96 h_101) rfl rfl ?_
        intro m_101 p_101 e_101 H_101
        subst e_101
        exact g_m_queries_L104_ok ih hx1 H_101 h
      · refine r_f1 (pc' := 37) (L' := [(2, .int R_17), (0, .ref 143), (1, .int X1)]) hq (z_at.mk 3 rfl rfl) rfl hR_31 c_34 rfl rfl ?_
        refine r_p hq 1 (pc' := 104) (L' := [(0, .ref 143), (1, .int X1)]) (st' := []) rfl ?_
        exact g_m_queries_L104_ok ih hx1 H_31 h
def g_m_queries (σ : zS) : Option (Unit × zS) :=
  (g_m_misses σ).bind fun o_1 =>
  g_m_queries_L6 zK 0 o_1.2
set_option maxHeartbeats 4000000 in
theorem g_m_queries_ok {xl : Nat} {xs : Nat → Int32} {σ : zS} {p : Nat} {m : zM} {o : Unit × zS} (H : zRep xl xs p m σ) (h : g_m_queries σ = some o) : zGo xl xs (fun p' => p = p') 7 189 0 (z_can 189 0 (lv_args 0 [.ref 143])) [] m vV o.2 := by
  have hq : z_mth 189 = some z_r189 := rfl
  unfold g_m_queries at h
  show zGo xl xs (fun p' => p = p') 7 189 0 [(0, .ref 143)] [] m vV o.2
  refine r_p hq 1 (pc' := 1) (L' := [(0, .ref 143)]) (st' := [.ref 143]) rfl ?_
  obtain ⟨o_1, h_1, h⟩ := Option.bind_eq_some_iff.mp h
  refine r_cvV (pc' := 4) (L' := [(0, .ref 143)]) (Ps := []) (rest := []) hq (z_at.mk 3 rfl rfl) (Or.inl ⟨rfl, rfl⟩) rfl rfl (by decide) (by decide) rfl (Nat.not_lt.mpr (Nat.le_of_ble_eq_true rfl)) rfl rfl (z_cat_le 0 rfl (by decide)) (z_lgl_le 1 rfl (by decide)) (by decide) (H.tg rfl) (by omega) (g_m_misses_ok H h_1) rfl rfl ?_
  intro m_1 p_1 e_1 H_1
  subst e_1
  refine r_p hq 2 (pc' := 6) (L' := [(0, .ref 143), (1, .int ((0 : Int32)))]) (st' := []) rfl ?_
  exact g_m_queries_L6_ok zK (rfl : (0 : Int32).toInt = 0) H_1 h
def g_m_orderOf (x1 : Int) (σ : zS) : Option (Int × zS) :=
  (g_m_rowAt x1 σ).bind fun o_7 =>
  if 0 ≤ w32 (o_7.1 + 1) ∧ w32 (o_7.1 + 1) < 2740 then
  let v_12 := o_7.2 144 (w32 (o_7.1 + 1))
  (g_m_rowAt x1 o_7.2).bind fun o_19 =>
  if 0 ≤ w32 (o_19.1 + 2) ∧ w32 (o_19.1 + 2) < 2740 then
  let v_24 := o_19.2 144 (w32 (o_19.1 + 2))
  some (w32 ((w32 (32 * v_12)) + v_24), o_19.2)
  else none
  else none
set_option maxHeartbeats 4000000 in
theorem g_m_orderOf_ok {xl : Nat} {xs : Nat → Int32} {X1 : Int32} {x1 : Int} (hx1 : X1.toInt = x1) {σ : zS} {p : Nat} {m : zM} {o : Int × zS} (H : zRep xl xs p m σ) (h : g_m_orderOf x1 σ = some o) : zGo xl xs (fun p' => p = p') 2 190 0 (z_can 190 0 (lv_args 0 [.ref 143, .int X1])) [] m (vI o.1) o.2 := by
  have hq : z_mth 190 = some z_r190 := rfl
  unfold g_m_orderOf at h
  show zGo xl xs (fun p' => p = p') 2 190 0 [(0, .ref 143), (1, .int X1)] [] m (vI o.1) o.2
  refine r_p hq 2 (pc' := 3) (L' := [(0, .ref 143), (1, .int X1)]) (st' := [.ref 143, .int ((32 : Int32))]) rfl ?_
  refine r_gR (b := 144) (pc' := 6) (L' := [(0, .ref 143), (1, .int X1)]) H hq (z_at.mk 3 rfl rfl) rfl rfl rfl rfl ?_
  refine r_p hq 1 (pc' := 7) (L' := [(0, .ref 143), (1, .int X1)]) (st' := [.int X1, .ref 144, .int ((32 : Int32))]) rfl ?_
  obtain ⟨o_7, h_7, h⟩ := Option.bind_eq_some_iff.mp h
  refine r_csI (pc' := 10) (L' := [(0, .ref 143), (1, .int X1)]) (As := [.int X1]) (rest := [.ref 144, .int ((32 : Int32))]) (j := 174) hq (z_at.mk 3 rfl rfl) (Or.inl ⟨rfl, rfl⟩) rfl rfl (by omega) (g_m_rowAt_ok hx1 H h_7) rfl rfl ?_
  intro R_7 m_7 p_7 e_7 hR_7 H_7
  subst e_7
  refine r_p hq 2 (pc' := 12) (L' := [(0, .ref 143), (1, .int X1)]) (st' := [.int (R_7 + ((1 : Int32))), .ref 144, .int ((32 : Int32))]) rfl ?_
  obtain ⟨g_12, h⟩ := z_ifo_some h
  refine r_ia (pc' := 13) (L' := [(0, .ref 143), (1, .int X1)]) H_7 hq (z_at.mk 1 rfl rfl) (show zAr 144 0 2740 = true from rfl) (tx_iadd hR_7 (rfl : (1 : Int32).toInt = 1)) g_12 rfl rfl ?_
  intro V_12 hV_12
  refine r_p hq 2 (pc' := 15) (L' := [(0, .ref 143), (1, .int X1)]) (st' := [.ref 143, .int (((32 : Int32)) * V_12)]) rfl ?_
  refine r_gR (b := 144) (pc' := 18) (L' := [(0, .ref 143), (1, .int X1)]) H_7 hq (z_at.mk 3 rfl rfl) rfl rfl rfl rfl ?_
  refine r_p hq 1 (pc' := 19) (L' := [(0, .ref 143), (1, .int X1)]) (st' := [.int X1, .ref 144, .int (((32 : Int32)) * V_12)]) rfl ?_
  obtain ⟨o_19, h_19, h⟩ := Option.bind_eq_some_iff.mp h
  refine r_csI (pc' := 22) (L' := [(0, .ref 143), (1, .int X1)]) (As := [.int X1]) (rest := [.ref 144, .int (((32 : Int32)) * V_12)]) (j := 174) hq (z_at.mk 3 rfl rfl) (Or.inl ⟨rfl, rfl⟩) rfl rfl (by omega) (g_m_rowAt_ok hx1 H_7 h_19) rfl rfl ?_
  intro R_19 m_19 p_19 e_19 hR_19 H_19
  subst e_19
  refine r_p hq 2 (pc' := 24) (L' := [(0, .ref 143), (1, .int X1)]) (st' := [.int (R_19 + ((2 : Int32))), .ref 144, .int (((32 : Int32)) * V_12)]) rfl ?_
  obtain ⟨g_24, h⟩ := z_ifo_some h
  refine r_ia (pc' := 25) (L' := [(0, .ref 143), (1, .int X1)]) H_19 hq (z_at.mk 1 rfl rfl) (show zAr 144 0 2740 = true from rfl) (tx_iadd hR_19 (rfl : (2 : Int32).toInt = 2)) g_24 rfl rfl ?_
  intro V_24 hV_24
  refine r_p hq 1 (pc' := 26) (L' := [(0, .ref 143), (1, .int X1)]) (st' := [.int ((((32 : Int32)) * V_12) + V_24)]) rfl ?_
  cases h
  exact r_ri hq (z_at.mk 1 rfl rfl) rfl rfl (tx_iadd (tx_imul (rfl : (32 : Int32).toInt = 32) hV_12) hV_24) rfl H_19
def g_m_here (σ : zS) : Option (Int × zS) :=
  let v_1 := σ 143 21
  let v_5 := σ 143 20
  if v_5 ≤ v_1 then
    some (-1, σ)
  else
    let v_16 := σ 143 21
    if 0 ≤ v_16 ∧ v_16 < 160 then
    let v_19 := σ 159 v_16
    some (v_19, σ)
    else none
set_option maxHeartbeats 4000000 in
theorem g_m_here_ok {xl : Nat} {xs : Nat → Int32} {σ : zS} {p : Nat} {m : zM} {o : Int × zS} (H : zRep xl xs p m σ) (h : g_m_here σ = some o) : zGo xl xs (fun p' => p = p') 1 212 0 (z_can 212 0 (lv_args 0 [.ref 143])) [] m (vI o.1) o.2 := by
  have hq : z_mth 212 = some z_r212 := rfl
  unfold g_m_here at h
  show zGo xl xs (fun p' => p = p') 1 212 0 [(0, .ref 143)] [] m (vI o.1) o.2
  refine r_p hq 1 (pc' := 1) (L' := [(0, .ref 143)]) (st' := [.ref 143]) rfl ?_
  refine r_gI (pc' := 4) (L' := [(0, .ref 143)]) H hq (z_at.mk 3 rfl rfl) rfl rfl rfl rfl ?_
  intro V_1 hV_1
  refine r_p hq 1 (pc' := 5) (L' := [(0, .ref 143)]) (st' := [.ref 143, .int V_1]) rfl ?_
  refine r_gI (pc' := 8) (L' := [(0, .ref 143)]) H hq (z_at.mk 3 rfl rfl) rfl rfl rfl rfl ?_
  intro V_5 hV_5
  rcases z_ite h with ⟨c_8, h⟩ | ⟨c_8, h⟩
  · refine r_t2 (pc' := 23) (L' := [(0, .ref 143)]) hq (z_at.mk 3 rfl rfl) rfl hV_1 hV_5 c_8 rfl rfl ?_
    refine r_p hq 1 (pc' := 24) (L' := []) (st' := [.int ((-1 : Int32))]) rfl ?_
    cases h
    exact r_ri hq (z_at.mk 1 rfl rfl) rfl rfl (rfl : (-1 : Int32).toInt = -1) rfl H
  · refine r_f2 (pc' := 11) (L' := [(0, .ref 143)]) hq (z_at.mk 3 rfl rfl) rfl hV_1 hV_5 c_8 rfl rfl ?_
    refine r_p hq 1 (pc' := 12) (L' := [(0, .ref 143)]) (st' := [.ref 143]) rfl ?_
    refine r_gR (b := 159) (pc' := 15) (L' := [(0, .ref 143)]) H hq (z_at.mk 3 rfl rfl) rfl rfl rfl rfl ?_
    refine r_p hq 1 (pc' := 16) (L' := [(0, .ref 143)]) (st' := [.ref 143, .ref 159]) rfl ?_
    refine r_gI (pc' := 19) (L' := [(0, .ref 143)]) H hq (z_at.mk 3 rfl rfl) rfl rfl rfl rfl ?_
    intro V_16 hV_16
    obtain ⟨g_19, h⟩ := z_ifo_some h
    refine r_ia (pc' := 20) (L' := [(0, .ref 143)]) H hq (z_at.mk 1 rfl rfl) (show zAr 159 0 160 = true from rfl) hV_16 g_19 rfl rfl ?_
    intro V_19 hV_19
    refine r_p hq 1 (pc' := 24) (L' := []) (st' := [.int V_19]) rfl ?_
    cases h
    exact r_ri hq (z_at.mk 1 rfl rfl) rfl rfl hV_19 rfl H
def g_m_fails (x1 : Int) (σ : zS) : Option (Int × zS) :=
  let v_1 := σ 143 22
  if 0 ≤ v_1 then
    some (0, σ)
  else
    let s_9 := zu σ 143 22 x1
    some (0, s_9)
set_option maxHeartbeats 4000000 in
theorem g_m_fails_ok {xl : Nat} {xs : Nat → Int32} {X1 : Int32} {x1 : Int} (hx1 : X1.toInt = x1) {σ : zS} {p : Nat} {m : zM} {o : Int × zS} (H : zRep xl xs p m σ) (h : g_m_fails x1 σ = some o) : zGo xl xs (fun p' => p = p') 1 213 0 (z_can 213 0 (lv_args 0 [.ref 143, .int X1])) [] m (vI o.1) o.2 := by
  have hq : z_mth 213 = some z_r213 := rfl
  unfold g_m_fails at h
  show zGo xl xs (fun p' => p = p') 1 213 0 [(0, .ref 143), (1, .int X1)] [] m (vI o.1) o.2
  refine r_p hq 1 (pc' := 1) (L' := [(0, .ref 143), (1, .int X1)]) (st' := [.ref 143]) rfl ?_
  refine r_gI (pc' := 4) (L' := [(0, .ref 143), (1, .int X1)]) H hq (z_at.mk 3 rfl rfl) rfl rfl rfl rfl ?_
  intro V_1 hV_1
  rcases z_ite h with ⟨c_4, h⟩ | ⟨c_4, h⟩
  · refine r_t1 (pc' := 12) (L' := []) hq (z_at.mk 3 rfl rfl) rfl hV_1 c_4 rfl rfl ?_
    refine r_p hq 1 (pc' := 13) (L' := []) (st' := [.int ((0 : Int32))]) rfl ?_
    cases h
    exact r_ri hq (z_at.mk 1 rfl rfl) rfl rfl (rfl : (0 : Int32).toInt = 0) rfl H
  · refine r_f1 (pc' := 7) (L' := [(0, .ref 143), (1, .int X1)]) hq (z_at.mk 3 rfl rfl) rfl hV_1 c_4 rfl rfl ?_
    refine r_p hq 2 (pc' := 9) (L' := [(0, .ref 143), (1, .int X1)]) (st' := [.int X1, .ref 143]) rfl ?_
    refine r_pI (X := X1) (pc' := 12) (L' := []) H hq (z_at.mk 3 rfl rfl) rfl rfl hx1 (by decide) rfl rfl rfl rfl ?_
    intro m_9 H_9
    refine r_p hq 1 (pc' := 13) (L' := []) (st' := [.int ((0 : Int32))]) rfl ?_
    cases h
    exact r_ri hq (z_at.mk 1 rfl rfl) rfl rfl (rfl : (0 : Int32).toInt = 0) rfl H_9
def g_m_isFigure (x0 : Int) (σ : zS) : Option (Int × zS) :=
  (g_m_isIn x0 48 57 σ).bind fun o_5 =>
  if o_5.1 = 0 ∨ o_5.1 = 1 then some (o_5.1, o_5.2) else none
set_option maxHeartbeats 4000000 in
theorem g_m_isFigure_ok {xl : Nat} {xs : Nat → Int32} {X0 : Int32} {x0 : Int} (hx0 : X0.toInt = x0) {σ : zS} {p : Nat} {m : zM} {o : Int × zS} (H : zRep xl xs p m σ) (h : g_m_isFigure x0 σ = some o) : zGo xl xs (fun p' => p = p') 2 215 0 (z_can 215 0 (lv_args 0 [.int X0])) [] m (vI o.1) o.2 := by
  have hq : z_mth 215 = some z_r215 := rfl
  unfold g_m_isFigure at h
  show zGo xl xs (fun p' => p = p') 2 215 0 [(0, .int X0)] [] m (vI o.1) o.2
  refine r_p hq 3 (pc' := 5) (L' := [(0, .int X0)]) (st' := [.int ((57 : Int32)), .int ((48 : Int32)), .int X0]) rfl ?_
  obtain ⟨o_5, h_5, h⟩ := Option.bind_eq_some_iff.mp h
  refine r_csI (pc' := 8) (L' := [(0, .int X0)]) (As := [.int X0, .int ((48 : Int32)), .int ((57 : Int32))]) (rest := []) (j := 159) hq (z_at.mk 3 rfl rfl) (Or.inl ⟨rfl, rfl⟩) rfl rfl (by omega) (g_m_isIn_ok hx0 (rfl : (48 : Int32).toInt = 48) (rfl : (57 : Int32).toInt = 57) H h_5) rfl rfl ?_
  intro R_5 m_5 p_5 e_5 hR_5 H_5
  subst e_5
  obtain ⟨g_8, h⟩ := z_if_some h
  cases h
  exact r_ri hq (z_at.mk 1 rfl rfl) rfl (z_rty_bo hR_5 g_8) hR_5 rfl H_5
def g_m_isNumber_L84 (x2 : Int) (x3 : Int) (x4 : Int) (σ : zS) : Option (Int × zS) :=
  let v_85 := σ 143 23
  (g_m_isIn v_85 x2 x3 σ).bind fun o_90 =>
  if o_90.1 ≠ 0 then
    some (1, o_90.2)
  else
    (g_m_fails x4 o_90.2).bind fun o_99 =>
    if o_99.1 = 0 then
      some (0, o_99.2)
    else
      some (1, o_99.2)
set_option maxHeartbeats 4000000 in
theorem g_m_isNumber_L84_ok {xl : Nat} {xs : Nat → Int32} {X2 : Int32} {x2 : Int} (hx2 : X2.toInt = x2) {X3 : Int32} {x3 : Int} (hx3 : X3.toInt = x3) {X4 : Int32} {x4 : Int} (hx4 : X4.toInt = x4) {σ : zS} {p : Nat} {m : zM} {o : Int × zS} (H : zRep xl xs p m σ) (h : g_m_isNumber_L84 x2 x3 x4 σ = some o) : zGo xl xs (fun p' => p = p') 3 216 84 [(0, .ref 143), (2, .int X2), (3, .int X3), (4, .int X4)] [] m (vI o.1) o.2 := by
  have hq : z_mth 216 = some z_r216 := rfl
  unfold g_m_isNumber_L84 at h
  refine r_p hq 1 (pc' := 85) (L' := [(0, .ref 143), (2, .int X2), (3, .int X3), (4, .int X4)]) (st' := [.ref 143]) rfl ?_
  refine r_gI (pc' := 88) (L' := [(0, .ref 143), (2, .int X2), (3, .int X3), (4, .int X4)]) H hq (z_at.mk 3 rfl rfl) rfl rfl rfl rfl ?_
  intro V_85 hV_85
  refine r_p hq 2 (pc' := 90) (L' := [(0, .ref 143), (2, .int X2), (3, .int X3), (4, .int X4)]) (st' := [.int X3, .int X2, .int V_85]) rfl ?_
  obtain ⟨o_90, h_90, h⟩ := Option.bind_eq_some_iff.mp h
  refine r_csI (pc' := 93) (L' := [(0, .ref 143), (2, .int X2), (3, .int X3), (4, .int X4)]) (As := [.int V_85, .int X2, .int X3]) (rest := []) (j := 159) hq (z_at.mk 3 rfl rfl) (Or.inl ⟨rfl, rfl⟩) rfl rfl (by omega) (g_m_isIn_ok hV_85 hx2 hx3 H h_90) rfl rfl ?_
  intro R_90 m_90 p_90 e_90 hR_90 H_90
  subst e_90
  rcases z_ite h with ⟨c_93, h⟩ | ⟨c_93, h⟩
  · refine r_t1 (pc' := 105) (L' := []) hq (z_at.mk 3 rfl rfl) rfl hR_90 c_93 rfl rfl ?_
    refine r_p hq 2 (pc' := 110) (L' := []) (st' := [.int ((1 : Int32))]) rfl ?_
    cases h
    exact r_ri hq (z_at.mk 1 rfl rfl) rfl rfl (rfl : (1 : Int32).toInt = 1) rfl H_90
  · refine r_f1 (pc' := 96) (L' := [(0, .ref 143), (2, .int X2), (3, .int X3), (4, .int X4)]) hq (z_at.mk 3 rfl rfl) rfl hR_90 c_93 rfl rfl ?_
    refine r_p hq 2 (pc' := 99) (L' := [(0, .ref 143), (2, .int X2), (3, .int X3), (4, .int X4)]) (st' := [.int X4, .ref 143]) rfl ?_
    obtain ⟨o_99, h_99, h⟩ := Option.bind_eq_some_iff.mp h
    refine r_cvI (pc' := 102) (L' := [(0, .ref 143), (2, .int X2), (3, .int X3), (4, .int X4)]) (Ps := [.int X4]) (rest := []) hq (z_at.mk 3 rfl rfl) (Or.inl ⟨rfl, rfl⟩) rfl rfl (by decide) (by decide) rfl (Nat.not_lt.mpr (Nat.le_of_ble_eq_true rfl)) rfl rfl (z_cat_le 0 rfl (by decide)) (z_lgl_le 2 rfl (by decide)) (by decide) (H_90.tg rfl) (by omega) (g_m_fails_ok hx4 H_90 h_99) rfl rfl ?_
    intro R_99 m_99 p_99 e_99 hR_99 H_99
    subst e_99
    rcases z_ite h with ⟨c_102, h⟩ | ⟨c_102, h⟩
    · refine r_t1 (pc' := 109) (L' := [(0, .ref 143), (2, .int X2), (3, .int X3), (4, .int X4)]) hq (z_at.mk 3 rfl rfl) rfl hR_99 c_102 rfl rfl ?_
      refine r_p hq 1 (pc' := 110) (L' := []) (st' := [.int ((0 : Int32))]) rfl ?_
      cases h
      exact r_ri hq (z_at.mk 1 rfl rfl) rfl rfl (rfl : (0 : Int32).toInt = 0) rfl H_99
    · refine r_f1 (pc' := 105) (L' := []) hq (z_at.mk 3 rfl rfl) rfl hR_99 c_102 rfl rfl ?_
      refine r_p hq 2 (pc' := 110) (L' := []) (st' := [.int ((1 : Int32))]) rfl ?_
      cases h
      exact r_ri hq (z_at.mk 1 rfl rfl) rfl rfl (rfl : (1 : Int32).toInt = 1) rfl H_99
def g_m_isNumber_L33 : Nat → Int → Int → Int → Int → Int → zS → Option (Int × zS)
  | 0, _, _, _, _, _, _ => none
  | n + 1, x1, x2, x3, x4, x5, σ =>
    if x1 ≤ x5 then
      g_m_isNumber_L84 x2 x3 x4 σ
    else
      (g_m_here σ).bind fun o_40 =>
      (g_m_isFigure o_40.1 o_40.2).bind fun o_43 =>
      if o_43.1 = 0 then
        g_m_isNumber_L84 x2 x3 x4 o_43.2
      else
        let v_53 := o_43.2 143 23
        (g_m_here o_43.2).bind fun o_58 =>
        let s_65 := zu o_58.2 143 23 (w32 ((w32 ((w32 (10 * v_53)) + o_58.1)) - 48))
        let v_70 := s_65 143 21
        let s_75 := zu s_65 143 21 (w32 (v_70 + 1))
        (g_m_isNumber_L33 n) x1 x2 x3 x4 (w32 (x5 + 1)) s_75
set_option maxHeartbeats 4000000 in
theorem g_m_isNumber_L33_ok {xl : Nat} {xs : Nat → Int32} : ∀ (n : Nat) {X1 : Int32} {x1 : Int} {X2 : Int32} {x2 : Int} {X3 : Int32} {x3 : Int} {X4 : Int32} {x4 : Int} {X5 : Int32} {x5 : Int} {σ : zS} {p : Nat} {m : zM} {o : Int × zS}, X1.toInt = x1 → X2.toInt = x2 → X3.toInt = x3 → X4.toInt = x4 → X5.toInt = x5 → zRep xl xs p m σ → g_m_isNumber_L33 n x1 x2 x3 x4 x5 σ = some o → zGo xl xs (fun p' => p = p') 3 216 33 [(0, .ref 143), (1, .int X1), (2, .int X2), (3, .int X3), (4, .int X4), (5, .int X5)] [] m (vI o.1) o.2
  | 0, _, _, _, _, _, _, _, _, _, _, _, _, _, _, _, _, _, _, _, _, h => by cases h
  | n + 1, X1, x1, X2, x2, X3, x3, X4, x4, X5, x5, σ, p, m, o, hx1, hx2, hx3, hx4, hx5, H, h => by
    have hq : z_mth 216 = some z_r216 := rfl
    have ih := fun {X1 : Int32} {x1 : Int} {X2 : Int32} {x2 : Int} {X3 : Int32} {x3 : Int} {X4 : Int32} {x4 : Int} {X5 : Int32} {x5 : Int} {σ : zS} {p : Nat} {m : zM} {o : Int × zS} => g_m_isNumber_L33_ok (xl := xl) (xs := xs) n (X1 := X1) (x1 := x1) (X2 := X2) (x2 := x2) (X3 := X3) (x3 := x3) (X4 := X4) (x4 := x4) (X5 := X5) (x5 := x5) (σ := σ) (p := p) (m := m) (o := o)
    unfold g_m_isNumber_L33 at h
    refine r_p hq 2 (pc' := 36) (L' := [(0, .ref 143), (1, .int X1), (2, .int X2), (3, .int X3), (4, .int X4), (5, .int X5)]) (st' := [.int X1, .int X5]) rfl ?_
    rcases z_ite h with ⟨c_36, h⟩ | ⟨c_36, h⟩
    · refine r_t2 (pc' := 84) (L' := [(0, .ref 143), (2, .int X2), (3, .int X3), (4, .int X4)]) hq (z_at.mk 3 rfl rfl) rfl hx5 hx1 c_36 rfl rfl ?_
      exact g_m_isNumber_L84_ok hx2 hx3 hx4 H h
    · refine r_f2 (pc' := 39) (L' := [(0, .ref 143), (1, .int X1), (2, .int X2), (3, .int X3), (4, .int X4), (5, .int X5)]) hq (z_at.mk 3 rfl rfl) rfl hx5 hx1 c_36 rfl rfl ?_
      refine r_p hq 1 (pc' := 40) (L' := [(0, .ref 143), (1, .int X1), (2, .int X2), (3, .int X3), (4, .int X4), (5, .int X5)]) (st' := [.ref 143]) rfl ?_
      obtain ⟨o_40, h_40, h⟩ := Option.bind_eq_some_iff.mp h
      refine r_cvI (pc' := 43) (L' := [(0, .ref 143), (1, .int X1), (2, .int X2), (3, .int X3), (4, .int X4), (5, .int X5)]) (Ps := []) (rest := []) hq (z_at.mk 3 rfl rfl) (Or.inl ⟨rfl, rfl⟩) rfl rfl (by decide) (by decide) rfl (Nat.not_lt.mpr (Nat.le_of_ble_eq_true rfl)) rfl rfl (z_cat_le 0 rfl (by decide)) (z_lgl_le 1 rfl (by decide)) (by decide) (H.tg rfl) (by omega) (g_m_here_ok H h_40) rfl rfl ?_
      intro R_40 m_40 p_40 e_40 hR_40 H_40
      subst e_40
      obtain ⟨o_43, h_43, h⟩ := Option.bind_eq_some_iff.mp h
      refine r_csI (pc' := 46) (L' := [(0, .ref 143), (1, .int X1), (2, .int X2), (3, .int X3), (4, .int X4), (5, .int X5)]) (As := [.int R_40]) (rest := []) (j := 215) hq (z_at.mk 3 rfl rfl) (Or.inl ⟨rfl, rfl⟩) rfl rfl (by omega) (g_m_isFigure_ok hR_40 H_40 h_43) rfl rfl ?_
      intro R_43 m_43 p_43 e_43 hR_43 H_43
      subst e_43
      rcases z_ite h with ⟨c_46, h⟩ | ⟨c_46, h⟩
      · refine r_t1 (pc' := 84) (L' := [(0, .ref 143), (2, .int X2), (3, .int X3), (4, .int X4)]) hq (z_at.mk 3 rfl rfl) rfl hR_43 c_46 rfl rfl ?_
        exact g_m_isNumber_L84_ok hx2 hx3 hx4 H_43 h
      · refine r_f1 (pc' := 49) (L' := [(0, .ref 143), (1, .int X1), (2, .int X2), (3, .int X3), (4, .int X4), (5, .int X5)]) hq (z_at.mk 3 rfl rfl) rfl hR_43 c_46 rfl rfl ?_
        refine r_p hq 3 (pc' := 53) (L' := [(0, .ref 143), (1, .int X1), (2, .int X2), (3, .int X3), (4, .int X4), (5, .int X5)]) (st' := [.ref 143, .int ((10 : Int32)), .ref 143]) rfl ?_
        refine r_gI (pc' := 56) (L' := [(0, .ref 143), (1, .int X1), (2, .int X2), (3, .int X3), (4, .int X4), (5, .int X5)]) H_43 hq (z_at.mk 3 rfl rfl) rfl rfl rfl rfl ?_
        intro V_53 hV_53
        refine r_p hq 2 (pc' := 58) (L' := [(0, .ref 143), (1, .int X1), (2, .int X2), (3, .int X3), (4, .int X4), (5, .int X5)]) (st' := [.ref 143, .int (((10 : Int32)) * V_53), .ref 143]) rfl ?_
        obtain ⟨o_58, h_58, h⟩ := Option.bind_eq_some_iff.mp h
        refine r_cvI (pc' := 61) (L' := [(0, .ref 143), (1, .int X1), (2, .int X2), (3, .int X3), (4, .int X4), (5, .int X5)]) (Ps := []) (rest := [.int (((10 : Int32)) * V_53), .ref 143]) hq (z_at.mk 3 rfl rfl) (Or.inl ⟨rfl, rfl⟩) rfl rfl (by decide) (by decide) rfl (Nat.not_lt.mpr (Nat.le_of_ble_eq_true rfl)) rfl rfl (z_cat_le 2 rfl (by decide)) (z_lgl_le 1 rfl (by decide)) (by decide) (H_43.tg rfl) (by omega) (g_m_here_ok H_43 h_58) rfl rfl ?_
        intro R_58 m_58 p_58 e_58 hR_58 H_58
        subst e_58
        refine r_p hq 3 (pc' := 65) (L' := [(0, .ref 143), (1, .int X1), (2, .int X2), (3, .int X3), (4, .int X4), (5, .int X5)]) (st' := [.int (((((10 : Int32)) * V_53) + R_58) - ((48 : Int32))), .ref 143]) rfl ?_
        refine r_pI (X := ((((10 : Int32)) * V_53) + R_58) - ((48 : Int32))) (pc' := 68) (L' := [(0, .ref 143), (1, .int X1), (2, .int X2), (3, .int X3), (4, .int X4), (5, .int X5)]) H_58 hq (z_at.mk 3 rfl rfl) rfl rfl (tx_isub (tx_iadd (tx_imul (rfl : (10 : Int32).toInt = 10) hV_53) hR_58) (rfl : (48 : Int32).toInt = 48)) (by decide) rfl rfl rfl rfl ?_
        intro m_65 H_65
        refine r_p hq 2 (pc' := 70) (L' := [(0, .ref 143), (1, .int X1), (2, .int X2), (3, .int X3), (4, .int X4), (5, .int X5)]) (st' := [.ref 143, .ref 143]) rfl ?_
        refine r_gI (pc' := 73) (L' := [(0, .ref 143), (1, .int X1), (2, .int X2), (3, .int X3), (4, .int X4), (5, .int X5)]) H_65 hq (z_at.mk 3 rfl rfl) rfl rfl rfl rfl ?_
        intro V_70 hV_70
        refine r_p hq 2 (pc' := 75) (L' := [(0, .ref 143), (1, .int X1), (2, .int X2), (3, .int X3), (4, .int X4), (5, .int X5)]) (st' := [.int (V_70 + ((1 : Int32))), .ref 143]) rfl ?_
        refine r_pI (X := V_70 + ((1 : Int32))) (pc' := 78) (L' := [(0, .ref 143), (1, .int X1), (2, .int X2), (3, .int X3), (4, .int X4), (5, .int X5)]) H_65 hq (z_at.mk 3 rfl rfl) rfl rfl (tx_iadd hV_70 (rfl : (1 : Int32).toInt = 1)) (by decide) rfl rfl rfl rfl ?_
        intro m_75 H_75
        refine r_p hq 2 (pc' := 33) (L' := [(0, .ref 143), (1, .int X1), (2, .int X2), (3, .int X3), (4, .int X4), (5, .int (X5 + (1 : Int32)))]) (st' := []) rfl ?_
        exact ih hx1 hx2 hx3 hx4 (tx_iadd hx5 (rfl : (1 : Int32).toInt = 1)) H_75 h
def g_m_isNumber (x1 : Int) (x2 : Int) (x3 : Int) (σ : zS) : Option (Int × zS) :=
  let v_1 := σ 143 21
  let s_8 := zu σ 143 23 0
  (g_m_here s_8).bind fun o_12 =>
  (g_m_isFigure o_12.1 o_12.2).bind fun o_15 =>
  if o_15.1 ≠ 0 then
    g_m_isNumber_L33 zK x1 x2 x3 v_1 0 o_15.2
  else
    let v_23 := o_15.2 143 21
    (g_m_fails v_23 o_15.2).bind fun o_26 =>
    if o_26.1 = 0 ∨ o_26.1 = 1 then some (o_26.1, o_26.2) else none
set_option maxHeartbeats 4000000 in
theorem g_m_isNumber_ok {xl : Nat} {xs : Nat → Int32} {X1 : Int32} {x1 : Int} (hx1 : X1.toInt = x1) {X2 : Int32} {x2 : Int} (hx2 : X2.toInt = x2) {X3 : Int32} {x3 : Int} (hx3 : X3.toInt = x3) {σ : zS} {p : Nat} {m : zM} {o : Int × zS} (H : zRep xl xs p m σ) (h : g_m_isNumber x1 x2 x3 σ = some o) : zGo xl xs (fun p' => p = p') 3 216 0 (z_can 216 0 (lv_args 0 [.ref 143, .int X1, .int X2, .int X3])) [] m (vI o.1) o.2 := by
  have hq : z_mth 216 = some z_r216 := rfl
  unfold g_m_isNumber at h
  show zGo xl xs (fun p' => p = p') 3 216 0 [(0, .ref 143), (1, .int X1), (2, .int X2), (3, .int X3)] [] m (vI o.1) o.2
  refine r_p hq 1 (pc' := 1) (L' := [(0, .ref 143), (1, .int X1), (2, .int X2), (3, .int X3)]) (st' := [.ref 143]) rfl ?_
  refine r_gI (pc' := 4) (L' := [(0, .ref 143), (1, .int X1), (2, .int X2), (3, .int X3)]) H hq (z_at.mk 3 rfl rfl) rfl rfl rfl rfl ?_
  intro V_1 hV_1
  refine r_p hq 3 (pc' := 8) (L' := [(4, .int V_1), (0, .ref 143), (1, .int X1), (2, .int X2), (3, .int X3)]) (st' := [.int ((0 : Int32)), .ref 143]) rfl ?_
  refine r_pI (X := (0 : Int32)) (pc' := 11) (L' := [(4, .int V_1), (0, .ref 143), (1, .int X1), (2, .int X2), (3, .int X3)]) H hq (z_at.mk 3 rfl rfl) rfl rfl (rfl : (0 : Int32).toInt = 0) (by decide) rfl rfl rfl rfl ?_
  intro m_8 H_8
  refine r_p hq 1 (pc' := 12) (L' := [(4, .int V_1), (0, .ref 143), (1, .int X1), (2, .int X2), (3, .int X3)]) (st' := [.ref 143]) rfl ?_
  obtain ⟨o_12, h_12, h⟩ := Option.bind_eq_some_iff.mp h
  refine r_cvI (pc' := 15) (L' := [(4, .int V_1), (0, .ref 143), (1, .int X1), (2, .int X2), (3, .int X3)]) (Ps := []) (rest := []) hq (z_at.mk 3 rfl rfl) (Or.inl ⟨rfl, rfl⟩) rfl rfl (by decide) (by decide) rfl (Nat.not_lt.mpr (Nat.le_of_ble_eq_true rfl)) rfl rfl (z_cat_le 0 rfl (by decide)) (z_lgl_le 1 rfl (by decide)) (by decide) (H_8.tg rfl) (by omega) (g_m_here_ok H_8 h_12) rfl rfl ?_
  intro R_12 m_12 p_12 e_12 hR_12 H_12
  subst e_12
  obtain ⟨o_15, h_15, h⟩ := Option.bind_eq_some_iff.mp h
  refine r_csI (pc' := 18) (L' := [(4, .int V_1), (0, .ref 143), (1, .int X1), (2, .int X2), (3, .int X3)]) (As := [.int R_12]) (rest := []) (j := 215) hq (z_at.mk 3 rfl rfl) (Or.inl ⟨rfl, rfl⟩) rfl rfl (by omega) (g_m_isFigure_ok hR_12 H_12 h_15) rfl rfl ?_
  intro R_15 m_15 p_15 e_15 hR_15 H_15
  subst e_15
  rcases z_ite h with ⟨c_18, h⟩ | ⟨c_18, h⟩
  · refine r_t1 (pc' := 30) (L' := [(4, .int V_1), (0, .ref 143), (1, .int X1), (2, .int X2), (3, .int X3)]) hq (z_at.mk 3 rfl rfl) rfl hR_15 c_18 rfl rfl ?_
    refine r_p hq 2 (pc' := 33) (L' := [(0, .ref 143), (1, .int X1), (2, .int X2), (3, .int X3), (4, .int V_1), (5, .int ((0 : Int32)))]) (st' := []) rfl ?_
    exact g_m_isNumber_L33_ok zK hx1 hx2 hx3 hV_1 (rfl : (0 : Int32).toInt = 0) H_15 h
  · refine r_f1 (pc' := 21) (L' := [(4, .int V_1), (0, .ref 143), (1, .int X1), (2, .int X2), (3, .int X3)]) hq (z_at.mk 3 rfl rfl) rfl hR_15 c_18 rfl rfl ?_
    refine r_p hq 2 (pc' := 23) (L' := [(4, .int V_1), (0, .ref 143), (1, .int X1), (2, .int X2), (3, .int X3)]) (st' := [.ref 143, .ref 143]) rfl ?_
    refine r_gI (pc' := 26) (L' := [(4, .int V_1), (0, .ref 143), (1, .int X1), (2, .int X2), (3, .int X3)]) H_15 hq (z_at.mk 3 rfl rfl) rfl rfl rfl rfl ?_
    intro V_23 hV_23
    obtain ⟨o_26, h_26, h⟩ := Option.bind_eq_some_iff.mp h
    refine r_cvI (pc' := 29) (L' := [(4, .int V_1), (0, .ref 143), (1, .int X1), (2, .int X2), (3, .int X3)]) (Ps := [.int V_23]) (rest := []) hq (z_at.mk 3 rfl rfl) (Or.inl ⟨rfl, rfl⟩) rfl rfl (by decide) (by decide) rfl (Nat.not_lt.mpr (Nat.le_of_ble_eq_true rfl)) rfl rfl (z_cat_le 0 rfl (by decide)) (z_lgl_le 2 rfl (by decide)) (by decide) (H_15.tg rfl) (by omega) (g_m_fails_ok hV_23 H_15 h_26) rfl rfl ?_
    intro R_26 m_26 p_26 e_26 hR_26 H_26
    subst e_26
    obtain ⟨g_29, h⟩ := z_if_some h
    cases h
    exact r_ri hq (z_at.mk 1 rfl rfl) rfl (z_rty_bo hR_26 g_29) hR_26 rfl H_26
def g_m_doesHold_L6 (rec : Nat → Int → zS → Option (Int × zS)) : Nat → Int → Int → zS → Option (Int × zS)
  | 0, _, _, _ => none
  | n + 1, x1, x2, σ =>
    (g_m_here σ).bind fun o_7 =>
    if o_7.1 ≠ 124 then
      if x2 = 0 ∨ x2 = 1 then some (x2, o_7.2) else none
    else
      let v_17 := o_7.2 143 21
      let s_22 := zu o_7.2 143 21 (w32 (v_17 + 1))
      (rec 232 x1 s_22).bind fun o_27 =>
      (g_m_doesHold_L6 rec n) x1 (iOr x2 o_27.1) o_27.2
set_option maxHeartbeats 4000000 in
theorem g_m_doesHold_L6_ok {xl : Nat} {xs : Nat → Int32} {dr : Nat} (hdr : 4 ≤ dr) {rec : Nat → Int → zS → Option (Int × zS)} (hrec : ∀ j, j ∈ [231, 232, 233] → ∀ {X1 : Int32} {x1 : Int} {σ : zS} {p : Nat} {m : zM} {o : Int × zS}, X1.toInt = x1 → zRep xl xs p m σ → rec j x1 σ = some o → zGo xl xs (fun p' => p = p') dr j 0 (z_can j 0 (lv_args 0 [.ref 143, .int X1])) [] m (vI o.1) o.2) : ∀ (n : Nat) {X1 : Int32} {x1 : Int} {X2 : Int32} {x2 : Int} {σ : zS} {p : Nat} {m : zM} {o : Int × zS}, X1.toInt = x1 → X2.toInt = x2 → zRep xl xs p m σ → g_m_doesHold_L6 rec n x1 x2 σ = some o → zGo xl xs (fun p' => p = p') (dr + 1) 231 6 [(0, .ref 143), (1, .int X1), (2, .int X2)] [] m (vI o.1) o.2
  | 0, _, _, _, _, _, _, _, _, _, _, _, h => by cases h
  | n + 1, X1, x1, X2, x2, σ, p, m, o, hx1, hx2, H, h => by
    have hq : z_mth 231 = some z_r231 := rfl
    have ih := fun {X1 : Int32} {x1 : Int} {X2 : Int32} {x2 : Int} {σ : zS} {p : Nat} {m : zM} {o : Int × zS} => g_m_doesHold_L6_ok (xl := xl) (xs := xs) hdr hrec n (X1 := X1) (x1 := x1) (X2 := X2) (x2 := x2) (σ := σ) (p := p) (m := m) (o := o)
    unfold g_m_doesHold_L6 at h
    refine r_p hq 1 (pc' := 7) (L' := [(0, .ref 143), (1, .int X1), (2, .int X2)]) (st' := [.ref 143]) rfl ?_
    obtain ⟨o_7, h_7, h⟩ := Option.bind_eq_some_iff.mp h
    refine r_cvI (pc' := 10) (L' := [(0, .ref 143), (1, .int X1), (2, .int X2)]) (Ps := []) (rest := []) hq (z_at.mk 3 rfl rfl) (Or.inl ⟨rfl, rfl⟩) rfl rfl (by decide) (by decide) rfl (Nat.not_lt.mpr (Nat.le_of_ble_eq_true rfl)) rfl rfl (z_cat_le 0 rfl (by decide)) (z_lgl_le 1 rfl (by decide)) (by decide) (H.tg rfl) (by omega) (g_m_here_ok H h_7) rfl rfl ?_
    intro R_7 m_7 p_7 e_7 hR_7 H_7
    subst e_7
    refine r_p hq 1 (pc' := 12) (L' := [(0, .ref 143), (1, .int X1), (2, .int X2)]) (st' := [.int ((124 : Int32)), .int R_7]) rfl ?_
    rcases z_ite h with ⟨c_12, h⟩ | ⟨c_12, h⟩
    · refine r_t2 (pc' := 38) (L' := [(0, .ref 143), (1, .int X1), (2, .int X2)]) hq (z_at.mk 3 rfl rfl) rfl hR_7 (rfl : (124 : Int32).toInt = 124) c_12 rfl rfl ?_
      refine r_p hq 1 (pc' := 39) (L' := [(0, .ref 143), (1, .int X1), (2, .int X2)]) (st' := [.int X2]) rfl ?_
      obtain ⟨g_39, h⟩ := z_if_some h
      cases h
      exact r_ri hq (z_at.mk 1 rfl rfl) rfl (z_rty_bo hx2 g_39) hx2 rfl H_7
    · refine r_f2 (pc' := 15) (L' := [(0, .ref 143), (1, .int X1), (2, .int X2)]) hq (z_at.mk 3 rfl rfl) rfl hR_7 (rfl : (124 : Int32).toInt = 124) c_12 rfl rfl ?_
      refine r_p hq 2 (pc' := 17) (L' := [(0, .ref 143), (1, .int X1), (2, .int X2)]) (st' := [.ref 143, .ref 143]) rfl ?_
      refine r_gI (pc' := 20) (L' := [(0, .ref 143), (1, .int X1), (2, .int X2)]) H_7 hq (z_at.mk 3 rfl rfl) rfl rfl rfl rfl ?_
      intro V_17 hV_17
      refine r_p hq 2 (pc' := 22) (L' := [(0, .ref 143), (1, .int X1), (2, .int X2)]) (st' := [.int (V_17 + ((1 : Int32))), .ref 143]) rfl ?_
      refine r_pI (X := V_17 + ((1 : Int32))) (pc' := 25) (L' := [(0, .ref 143), (1, .int X1), (2, .int X2)]) H_7 hq (z_at.mk 3 rfl rfl) rfl rfl (tx_iadd hV_17 (rfl : (1 : Int32).toInt = 1)) (by decide) rfl rfl rfl rfl ?_
      intro m_22 H_22
      refine r_p hq 2 (pc' := 27) (L' := [(0, .ref 143), (1, .int X1), (2, .int X2)]) (st' := [.int X1, .ref 143]) rfl ?_
      obtain ⟨o_27, h_27, h⟩ := Option.bind_eq_some_iff.mp h
      refine r_cvI (pc' := 30) (L' := [(0, .ref 143), (1, .int X1), (2, .int X2)]) (Ps := [.int X1]) (rest := []) hq (z_at.mk 3 rfl rfl) (Or.inl ⟨rfl, rfl⟩) rfl rfl (by decide) (by decide) rfl (Nat.not_lt.mpr (Nat.le_of_ble_eq_true rfl)) rfl rfl (z_cat_le 0 rfl (by decide)) (z_lgl_le 2 rfl (by decide)) (by decide) (H_22.tg rfl) (by omega) (hrec 232 (by simp) hx1 H_22 h_27) rfl rfl ?_
      intro R_27 m_27 p_27 e_27 hR_27 H_27
      subst e_27
      refine r_p hq 6 (pc' := 6) (L' := [(0, .ref 143), (1, .int X1), (2, .int (X2 ||| R_27))]) (st' := []) rfl ?_
      exact ih hx1 (tx_ior hx2 hR_27) H_27 h
def g_m_doesHold (rec : Nat → Int → zS → Option (Int × zS)) (x1 : Int) (σ : zS) : Option (Int × zS) :=
  (rec 232 x1 σ).bind fun o_2 =>
  g_m_doesHold_L6 rec zK x1 o_2.1 o_2.2
set_option maxHeartbeats 4000000 in
theorem g_m_doesHold_ok {xl : Nat} {xs : Nat → Int32} {dr : Nat} (hdr : 4 ≤ dr) {rec : Nat → Int → zS → Option (Int × zS)} (hrec : ∀ j, j ∈ [231, 232, 233] → ∀ {X1 : Int32} {x1 : Int} {σ : zS} {p : Nat} {m : zM} {o : Int × zS}, X1.toInt = x1 → zRep xl xs p m σ → rec j x1 σ = some o → zGo xl xs (fun p' => p = p') dr j 0 (z_can j 0 (lv_args 0 [.ref 143, .int X1])) [] m (vI o.1) o.2) {X1 : Int32} {x1 : Int} (hx1 : X1.toInt = x1) {σ : zS} {p : Nat} {m : zM} {o : Int × zS} (H : zRep xl xs p m σ) (h : g_m_doesHold rec x1 σ = some o) : zGo xl xs (fun p' => p = p') (dr + 1) 231 0 (z_can 231 0 (lv_args 0 [.ref 143, .int X1])) [] m (vI o.1) o.2 := by
  have hq : z_mth 231 = some z_r231 := rfl
  unfold g_m_doesHold at h
  show zGo xl xs (fun p' => p = p') (dr + 1) 231 0 [(0, .ref 143), (1, .int X1)] [] m (vI o.1) o.2
  refine r_p hq 2 (pc' := 2) (L' := [(0, .ref 143), (1, .int X1)]) (st' := [.int X1, .ref 143]) rfl ?_
  obtain ⟨o_2, h_2, h⟩ := Option.bind_eq_some_iff.mp h
  refine r_cvI (pc' := 5) (L' := [(0, .ref 143), (1, .int X1)]) (Ps := [.int X1]) (rest := []) hq (z_at.mk 3 rfl rfl) (Or.inl ⟨rfl, rfl⟩) rfl rfl (by decide) (by decide) rfl (Nat.not_lt.mpr (Nat.le_of_ble_eq_true rfl)) rfl rfl (z_cat_le 0 rfl (by decide)) (z_lgl_le 2 rfl (by decide)) (by decide) (H.tg rfl) (by omega) (hrec 232 (by simp) hx1 H h_2) rfl rfl ?_
  intro R_2 m_2 p_2 e_2 hR_2 H_2
  subst e_2
  refine r_p hq 1 (pc' := 6) (L' := [(0, .ref 143), (1, .int X1), (2, .int R_2)]) (st' := []) rfl ?_
  exact g_m_doesHold_L6_ok hdr hrec zK hx1 hR_2 H_2 h
def g_m_holdsBoth_L6 (rec : Nat → Int → zS → Option (Int × zS)) : Nat → Int → Int → zS → Option (Int × zS)
  | 0, _, _, _ => none
  | n + 1, x1, x2, σ =>
    (g_m_here σ).bind fun o_7 =>
    if o_7.1 ≠ 38 then
      if x2 = 0 ∨ x2 = 1 then some (x2, o_7.2) else none
    else
      let v_17 := o_7.2 143 21
      let s_22 := zu o_7.2 143 21 (w32 (v_17 + 1))
      (rec 233 x1 s_22).bind fun o_27 =>
      (g_m_holdsBoth_L6 rec n) x1 (iAnd x2 o_27.1) o_27.2
set_option maxHeartbeats 4000000 in
theorem g_m_holdsBoth_L6_ok {xl : Nat} {xs : Nat → Int32} {dr : Nat} (hdr : 4 ≤ dr) {rec : Nat → Int → zS → Option (Int × zS)} (hrec : ∀ j, j ∈ [231, 232, 233] → ∀ {X1 : Int32} {x1 : Int} {σ : zS} {p : Nat} {m : zM} {o : Int × zS}, X1.toInt = x1 → zRep xl xs p m σ → rec j x1 σ = some o → zGo xl xs (fun p' => p = p') dr j 0 (z_can j 0 (lv_args 0 [.ref 143, .int X1])) [] m (vI o.1) o.2) : ∀ (n : Nat) {X1 : Int32} {x1 : Int} {X2 : Int32} {x2 : Int} {σ : zS} {p : Nat} {m : zM} {o : Int × zS}, X1.toInt = x1 → X2.toInt = x2 → zRep xl xs p m σ → g_m_holdsBoth_L6 rec n x1 x2 σ = some o → zGo xl xs (fun p' => p = p') (dr + 1) 232 6 [(0, .ref 143), (1, .int X1), (2, .int X2)] [] m (vI o.1) o.2
  | 0, _, _, _, _, _, _, _, _, _, _, _, h => by cases h
  | n + 1, X1, x1, X2, x2, σ, p, m, o, hx1, hx2, H, h => by
    have hq : z_mth 232 = some z_r232 := rfl
    have ih := fun {X1 : Int32} {x1 : Int} {X2 : Int32} {x2 : Int} {σ : zS} {p : Nat} {m : zM} {o : Int × zS} => g_m_holdsBoth_L6_ok (xl := xl) (xs := xs) hdr hrec n (X1 := X1) (x1 := x1) (X2 := X2) (x2 := x2) (σ := σ) (p := p) (m := m) (o := o)
    unfold g_m_holdsBoth_L6 at h
    refine r_p hq 1 (pc' := 7) (L' := [(0, .ref 143), (1, .int X1), (2, .int X2)]) (st' := [.ref 143]) rfl ?_
    obtain ⟨o_7, h_7, h⟩ := Option.bind_eq_some_iff.mp h
    refine r_cvI (pc' := 10) (L' := [(0, .ref 143), (1, .int X1), (2, .int X2)]) (Ps := []) (rest := []) hq (z_at.mk 3 rfl rfl) (Or.inl ⟨rfl, rfl⟩) rfl rfl (by decide) (by decide) rfl (Nat.not_lt.mpr (Nat.le_of_ble_eq_true rfl)) rfl rfl (z_cat_le 0 rfl (by decide)) (z_lgl_le 1 rfl (by decide)) (by decide) (H.tg rfl) (by omega) (g_m_here_ok H h_7) rfl rfl ?_
    intro R_7 m_7 p_7 e_7 hR_7 H_7
    subst e_7
    refine r_p hq 1 (pc' := 12) (L' := [(0, .ref 143), (1, .int X1), (2, .int X2)]) (st' := [.int ((38 : Int32)), .int R_7]) rfl ?_
    rcases z_ite h with ⟨c_12, h⟩ | ⟨c_12, h⟩
    · refine r_t2 (pc' := 38) (L' := [(0, .ref 143), (1, .int X1), (2, .int X2)]) hq (z_at.mk 3 rfl rfl) rfl hR_7 (rfl : (38 : Int32).toInt = 38) c_12 rfl rfl ?_
      refine r_p hq 1 (pc' := 39) (L' := [(0, .ref 143), (1, .int X1), (2, .int X2)]) (st' := [.int X2]) rfl ?_
      obtain ⟨g_39, h⟩ := z_if_some h
      cases h
      exact r_ri hq (z_at.mk 1 rfl rfl) rfl (z_rty_bo hx2 g_39) hx2 rfl H_7
    · refine r_f2 (pc' := 15) (L' := [(0, .ref 143), (1, .int X1), (2, .int X2)]) hq (z_at.mk 3 rfl rfl) rfl hR_7 (rfl : (38 : Int32).toInt = 38) c_12 rfl rfl ?_
      refine r_p hq 2 (pc' := 17) (L' := [(0, .ref 143), (1, .int X1), (2, .int X2)]) (st' := [.ref 143, .ref 143]) rfl ?_
      refine r_gI (pc' := 20) (L' := [(0, .ref 143), (1, .int X1), (2, .int X2)]) H_7 hq (z_at.mk 3 rfl rfl) rfl rfl rfl rfl ?_
      intro V_17 hV_17
      refine r_p hq 2 (pc' := 22) (L' := [(0, .ref 143), (1, .int X1), (2, .int X2)]) (st' := [.int (V_17 + ((1 : Int32))), .ref 143]) rfl ?_
      refine r_pI (X := V_17 + ((1 : Int32))) (pc' := 25) (L' := [(0, .ref 143), (1, .int X1), (2, .int X2)]) H_7 hq (z_at.mk 3 rfl rfl) rfl rfl (tx_iadd hV_17 (rfl : (1 : Int32).toInt = 1)) (by decide) rfl rfl rfl rfl ?_
      intro m_22 H_22
      refine r_p hq 2 (pc' := 27) (L' := [(0, .ref 143), (1, .int X1), (2, .int X2)]) (st' := [.int X1, .ref 143]) rfl ?_
      obtain ⟨o_27, h_27, h⟩ := Option.bind_eq_some_iff.mp h
      refine r_cvI (pc' := 30) (L' := [(0, .ref 143), (1, .int X1), (2, .int X2)]) (Ps := [.int X1]) (rest := []) hq (z_at.mk 3 rfl rfl) (Or.inl ⟨rfl, rfl⟩) rfl rfl (by decide) (by decide) rfl (Nat.not_lt.mpr (Nat.le_of_ble_eq_true rfl)) rfl rfl (z_cat_le 0 rfl (by decide)) (z_lgl_le 2 rfl (by decide)) (by decide) (H_22.tg rfl) (by omega) (hrec 233 (by simp) hx1 H_22 h_27) rfl rfl ?_
      intro R_27 m_27 p_27 e_27 hR_27 H_27
      subst e_27
      refine r_p hq 6 (pc' := 6) (L' := [(0, .ref 143), (1, .int X1), (2, .int (X2 &&& R_27))]) (st' := []) rfl ?_
      exact ih hx1 (tx_iand hx2 hR_27) H_27 h
def g_m_holdsBoth (rec : Nat → Int → zS → Option (Int × zS)) (x1 : Int) (σ : zS) : Option (Int × zS) :=
  (rec 233 x1 σ).bind fun o_2 =>
  g_m_holdsBoth_L6 rec zK x1 o_2.1 o_2.2
set_option maxHeartbeats 4000000 in
theorem g_m_holdsBoth_ok {xl : Nat} {xs : Nat → Int32} {dr : Nat} (hdr : 4 ≤ dr) {rec : Nat → Int → zS → Option (Int × zS)} (hrec : ∀ j, j ∈ [231, 232, 233] → ∀ {X1 : Int32} {x1 : Int} {σ : zS} {p : Nat} {m : zM} {o : Int × zS}, X1.toInt = x1 → zRep xl xs p m σ → rec j x1 σ = some o → zGo xl xs (fun p' => p = p') dr j 0 (z_can j 0 (lv_args 0 [.ref 143, .int X1])) [] m (vI o.1) o.2) {X1 : Int32} {x1 : Int} (hx1 : X1.toInt = x1) {σ : zS} {p : Nat} {m : zM} {o : Int × zS} (H : zRep xl xs p m σ) (h : g_m_holdsBoth rec x1 σ = some o) : zGo xl xs (fun p' => p = p') (dr + 1) 232 0 (z_can 232 0 (lv_args 0 [.ref 143, .int X1])) [] m (vI o.1) o.2 := by
  have hq : z_mth 232 = some z_r232 := rfl
  unfold g_m_holdsBoth at h
  show zGo xl xs (fun p' => p = p') (dr + 1) 232 0 [(0, .ref 143), (1, .int X1)] [] m (vI o.1) o.2
  refine r_p hq 2 (pc' := 2) (L' := [(0, .ref 143), (1, .int X1)]) (st' := [.int X1, .ref 143]) rfl ?_
  obtain ⟨o_2, h_2, h⟩ := Option.bind_eq_some_iff.mp h
  refine r_cvI (pc' := 5) (L' := [(0, .ref 143), (1, .int X1)]) (Ps := [.int X1]) (rest := []) hq (z_at.mk 3 rfl rfl) (Or.inl ⟨rfl, rfl⟩) rfl rfl (by decide) (by decide) rfl (Nat.not_lt.mpr (Nat.le_of_ble_eq_true rfl)) rfl rfl (z_cat_le 0 rfl (by decide)) (z_lgl_le 2 rfl (by decide)) (by decide) (H.tg rfl) (by omega) (hrec 233 (by simp) hx1 H h_2) rfl rfl ?_
  intro R_2 m_2 p_2 e_2 hR_2 H_2
  subst e_2
  refine r_p hq 1 (pc' := 6) (L' := [(0, .ref 143), (1, .int X1), (2, .int R_2)]) (st' := []) rfl ?_
  exact g_m_holdsBoth_L6_ok hdr hrec zK hx1 hR_2 H_2 h
def g_m_holdsFactor_L202 (rec : Nat → Int → zS → Option (Int × zS)) (y3 : Int) (x5 : Int) (ys0 : Int) (σ : zS) : Option (Int × zS) :=
  if x5 ≠ 60 then
    if x5 ≠ 62 then
      if lCmp y3 ys0 ≠ 0 then
        some (0, σ)
      else
        some (1, σ)
    else
      if lCmp y3 ys0 ≤ 0 then
        some (0, σ)
      else
        some (1, σ)
  else
    if 0 ≤ lCmp y3 ys0 then
      some (0, σ)
    else
      some (1, σ)
set_option maxHeartbeats 4000000 in
theorem g_m_holdsFactor_L202_ok {xl : Nat} {xs : Nat → Int32} {dr : Nat} (hdr : 4 ≤ dr) {rec : Nat → Int → zS → Option (Int × zS)} (hrec : ∀ j, j ∈ [231, 232, 233] → ∀ {X1 : Int32} {x1 : Int} {σ : zS} {p : Nat} {m : zM} {o : Int × zS}, X1.toInt = x1 → zRep xl xs p m σ → rec j x1 σ = some o → zGo xl xs (fun p' => p = p') dr j 0 (z_can j 0 (lv_args 0 [.ref 143, .int X1])) [] m (vI o.1) o.2) {Y3 : Int64} {y3 : Int} (hy3 : Y3.toInt = y3) {X5 : Int32} {x5 : Int} (hx5 : X5.toInt = x5) {Ys0 : Int64} {ys0 : Int} (hys0 : Ys0.toInt = ys0) {σ : zS} {p : Nat} {m : zM} {o : Int × zS} (H : zRep xl xs p m σ) (h : g_m_holdsFactor_L202 rec y3 x5 ys0 σ = some o) : zGo xl xs (fun p' => p = p') (dr + 1) 233 202 [(3, .long Y3), (5, .int X5)] [.long Ys0] m (vI o.1) o.2 := by
  have hq : z_mth 233 = some z_r233 := rfl
  unfold g_m_holdsFactor_L202 at h
  refine r_p hq 3 (pc' := 208) (L' := [(7, .long Ys0), (3, .long Y3), (5, .int X5)]) (st' := [.int ((60 : Int32)), .int X5]) rfl ?_
  rcases z_ite h with ⟨c_208, h⟩ | ⟨c_208, h⟩
  · refine r_t2 (pc' := 226) (L' := [(7, .long Ys0), (3, .long Y3), (5, .int X5)]) hq (z_at.mk 3 rfl rfl) rfl hx5 (rfl : (60 : Int32).toInt = 60) c_208 rfl rfl ?_
    refine r_p hq 2 (pc' := 230) (L' := [(7, .long Ys0), (3, .long Y3), (5, .int X5)]) (st' := [.int ((62 : Int32)), .int X5]) rfl ?_
    rcases z_ite h with ⟨c_230, h⟩ | ⟨c_230, h⟩
    · refine r_t2 (pc' := 248) (L' := [(7, .long Ys0), (3, .long Y3), (5, .int X5)]) hq (z_at.mk 3 rfl rfl) rfl hx5 (rfl : (62 : Int32).toInt = 62) c_230 rfl rfl ?_
      refine r_p hq 3 (pc' := 252) (L' := [(7, .long Ys0), (3, .long Y3), (5, .int X5)]) (st' := [.int (lg_cmp Y3 Ys0)]) rfl ?_
      rcases z_ite h with ⟨c_252, h⟩ | ⟨c_252, h⟩
      · refine r_t1 (pc' := 259) (L' := [(7, .long Ys0), (3, .long Y3), (5, .int X5)]) hq (z_at.mk 3 rfl rfl) rfl (tx_lcmp hy3 hys0) c_252 rfl rfl ?_
        refine r_p hq 1 (pc' := 260) (L' := []) (st' := [.int ((0 : Int32))]) rfl ?_
        cases h
        exact r_ri hq (z_at.mk 1 rfl rfl) rfl rfl (rfl : (0 : Int32).toInt = 0) rfl H
      · refine r_f1 (pc' := 255) (L' := [(7, .long Ys0), (3, .long Y3), (5, .int X5)]) hq (z_at.mk 3 rfl rfl) rfl (tx_lcmp hy3 hys0) c_252 rfl rfl ?_
        refine r_p hq 2 (pc' := 260) (L' := []) (st' := [.int ((1 : Int32))]) rfl ?_
        cases h
        exact r_ri hq (z_at.mk 1 rfl rfl) rfl rfl (rfl : (1 : Int32).toInt = 1) rfl H
    · refine r_f2 (pc' := 233) (L' := [(7, .long Ys0), (3, .long Y3), (5, .int X5)]) hq (z_at.mk 3 rfl rfl) rfl hx5 (rfl : (62 : Int32).toInt = 62) c_230 rfl rfl ?_
      refine r_p hq 3 (pc' := 237) (L' := [(7, .long Ys0), (3, .long Y3), (5, .int X5)]) (st' := [.int (lg_cmp Y3 Ys0)]) rfl ?_
      rcases z_ite h with ⟨c_237, h⟩ | ⟨c_237, h⟩
      · refine r_t1 (pc' := 244) (L' := [(7, .long Ys0), (3, .long Y3), (5, .int X5)]) hq (z_at.mk 3 rfl rfl) rfl (tx_lcmp hy3 hys0) c_237 rfl rfl ?_
        refine r_p hq 2 (pc' := 260) (L' := []) (st' := [.int ((0 : Int32))]) rfl ?_
        cases h
        exact r_ri hq (z_at.mk 1 rfl rfl) rfl rfl (rfl : (0 : Int32).toInt = 0) rfl H
      · refine r_f1 (pc' := 240) (L' := [(7, .long Ys0), (3, .long Y3), (5, .int X5)]) hq (z_at.mk 3 rfl rfl) rfl (tx_lcmp hy3 hys0) c_237 rfl rfl ?_
        refine r_p hq 2 (pc' := 260) (L' := []) (st' := [.int ((1 : Int32))]) rfl ?_
        cases h
        exact r_ri hq (z_at.mk 1 rfl rfl) rfl rfl (rfl : (1 : Int32).toInt = 1) rfl H
  · refine r_f2 (pc' := 211) (L' := [(7, .long Ys0), (3, .long Y3), (5, .int X5)]) hq (z_at.mk 3 rfl rfl) rfl hx5 (rfl : (60 : Int32).toInt = 60) c_208 rfl rfl ?_
    refine r_p hq 3 (pc' := 215) (L' := [(7, .long Ys0), (3, .long Y3), (5, .int X5)]) (st' := [.int (lg_cmp Y3 Ys0)]) rfl ?_
    rcases z_ite h with ⟨c_215, h⟩ | ⟨c_215, h⟩
    · refine r_t1 (pc' := 222) (L' := [(7, .long Ys0), (3, .long Y3), (5, .int X5)]) hq (z_at.mk 3 rfl rfl) rfl (tx_lcmp hy3 hys0) c_215 rfl rfl ?_
      refine r_p hq 2 (pc' := 260) (L' := []) (st' := [.int ((0 : Int32))]) rfl ?_
      cases h
      exact r_ri hq (z_at.mk 1 rfl rfl) rfl rfl (rfl : (0 : Int32).toInt = 0) rfl H
    · refine r_f1 (pc' := 218) (L' := [(7, .long Ys0), (3, .long Y3), (5, .int X5)]) hq (z_at.mk 3 rfl rfl) rfl (tx_lcmp hy3 hys0) c_215 rfl rfl ?_
      refine r_p hq 2 (pc' := 260) (L' := []) (st' := [.int ((1 : Int32))]) rfl ?_
      cases h
      exact r_ri hq (z_at.mk 1 rfl rfl) rfl rfl (rfl : (1 : Int32).toInt = 1) rfl H
def g_m_holdsFactor_L168 (rec : Nat → Int → zS → Option (Int × zS)) (y3 : Int) (x5 : Int) (x6 : Int) (xs0 : Int) (xs1 : Int) (σ : zS) : Option (Int × zS) :=
  let s_169 := zu σ 143 21 (w32 (xs1 + xs0))
  (g_m_isNumber 9 0 999999999 s_169).bind fun o_179 =>
  if x6 = 0 then
    let v_198 := o_179.2 143 23
    g_m_holdsFactor_L202 rec y3 x5 v_198 o_179.2
  else
    let v_189 := o_179.2 143 23
    g_m_holdsFactor_L202 rec y3 x5 (w32 (-v_189)) o_179.2
set_option maxHeartbeats 4000000 in
theorem g_m_holdsFactor_L168_ok {xl : Nat} {xs : Nat → Int32} {dr : Nat} (hdr : 4 ≤ dr) {rec : Nat → Int → zS → Option (Int × zS)} (hrec : ∀ j, j ∈ [231, 232, 233] → ∀ {X1 : Int32} {x1 : Int} {σ : zS} {p : Nat} {m : zM} {o : Int × zS}, X1.toInt = x1 → zRep xl xs p m σ → rec j x1 σ = some o → zGo xl xs (fun p' => p = p') dr j 0 (z_can j 0 (lv_args 0 [.ref 143, .int X1])) [] m (vI o.1) o.2) {Y3 : Int64} {y3 : Int} (hy3 : Y3.toInt = y3) {X5 : Int32} {x5 : Int} (hx5 : X5.toInt = x5) {X6 : Int32} {x6 : Int} (hx6 : X6.toInt = x6) {Xs0 : Int32} {xs0 : Int} (hxs0 : Xs0.toInt = xs0) {Xs1 : Int32} {xs1 : Int} (hxs1 : Xs1.toInt = xs1) {σ : zS} {p : Nat} {m : zM} {o : Int × zS} (H : zRep xl xs p m σ) (h : g_m_holdsFactor_L168 rec y3 x5 x6 xs0 xs1 σ = some o) : zGo xl xs (fun p' => p = p') (dr + 1) 233 168 [(0, .ref 143), (3, .long Y3), (5, .int X5), (6, .int X6)] [.int Xs0, .int Xs1, .ref 143] m (vI o.1) o.2 := by
  have hq : z_mth 233 = some z_r233 := rfl
  unfold g_m_holdsFactor_L168 at h
  refine r_p hq 1 (pc' := 169) (L' := [(0, .ref 143), (3, .long Y3), (5, .int X5), (6, .int X6)]) (st' := [.int (Xs1 + Xs0), .ref 143]) rfl ?_
  refine r_pI (X := Xs1 + Xs0) (pc' := 172) (L' := [(0, .ref 143), (3, .long Y3), (5, .int X5), (6, .int X6)]) H hq (z_at.mk 3 rfl rfl) rfl rfl (tx_iadd hxs1 hxs0) (by decide) rfl rfl rfl rfl ?_
  intro m_169 H_169
  refine r_p hq 4 (pc' := 179) (L' := [(0, .ref 143), (3, .long Y3), (5, .int X5), (6, .int X6)]) (st' := [.int ((999999999 : Int32)), .int ((0 : Int32)), .int ((9 : Int32)), .ref 143]) rfl ?_
  obtain ⟨o_179, h_179, h⟩ := Option.bind_eq_some_iff.mp h
  refine r_cvI (pc' := 182) (L' := [(0, .ref 143), (3, .long Y3), (5, .int X5), (6, .int X6)]) (Ps := [.int ((9 : Int32)), .int ((0 : Int32)), .int ((999999999 : Int32))]) (rest := []) hq (z_at.mk 3 rfl rfl) (Or.inl ⟨rfl, rfl⟩) rfl rfl (by decide) (by decide) rfl (Nat.not_lt.mpr (Nat.le_of_ble_eq_true rfl)) rfl rfl (z_cat_le 0 rfl (by decide)) (z_lgl_le 4 rfl (by decide)) (by decide) (H_169.tg rfl) (by omega) (g_m_isNumber_ok (rfl : (9 : Int32).toInt = 9) (rfl : (0 : Int32).toInt = 0) (rfl : (999999999 : Int32).toInt = 999999999) H_169 h_179) rfl rfl ?_
  intro R_179 m_179 p_179 e_179 hR_179 H_179
  subst e_179
  refine r_p hq 2 (pc' := 185) (L' := [(0, .ref 143), (3, .long Y3), (5, .int X5), (6, .int X6)]) (st' := [.int X6]) rfl ?_
  rcases z_ite h with ⟨c_185, h⟩ | ⟨c_185, h⟩
  · refine r_t1 (pc' := 197) (L' := [(0, .ref 143), (3, .long Y3), (5, .int X5), (6, .int X6)]) hq (z_at.mk 3 rfl rfl) rfl hx6 c_185 rfl rfl ?_
    refine r_p hq 1 (pc' := 198) (L' := [(0, .ref 143), (3, .long Y3), (5, .int X5), (6, .int X6)]) (st' := [.ref 143]) rfl ?_
    refine r_gI (pc' := 201) (L' := [(0, .ref 143), (3, .long Y3), (5, .int X5), (6, .int X6)]) H_179 hq (z_at.mk 3 rfl rfl) rfl rfl rfl rfl ?_
    intro V_198 hV_198
    refine r_p hq 1 (pc' := 202) (L' := [(3, .long Y3), (5, .int X5)]) (st' := [.long V_198.toInt64]) rfl ?_
    exact g_m_holdsFactor_L202_ok hdr hrec hy3 hx5 (tx_i2l hV_198) H_179 h
  · refine r_f1 (pc' := 188) (L' := [(0, .ref 143), (3, .long Y3), (5, .int X5), (6, .int X6)]) hq (z_at.mk 3 rfl rfl) rfl hx6 c_185 rfl rfl ?_
    refine r_p hq 1 (pc' := 189) (L' := [(0, .ref 143), (3, .long Y3), (5, .int X5), (6, .int X6)]) (st' := [.ref 143]) rfl ?_
    refine r_gI (pc' := 192) (L' := [(0, .ref 143), (3, .long Y3), (5, .int X5), (6, .int X6)]) H_179 hq (z_at.mk 3 rfl rfl) rfl rfl rfl rfl ?_
    intro V_189 hV_189
    refine r_p hq 3 (pc' := 202) (L' := [(3, .long Y3), (5, .int X5)]) (st' := [.long ((-V_189).toInt64)]) rfl ?_
    exact g_m_holdsFactor_L202_ok hdr hrec hy3 hx5 (tx_i2l (tx_ineg hV_189)) H_179 h
def g_m_holdsFactor_L151 (rec : Nat → Int → zS → Option (Int × zS)) (y3 : Int) (x5 : Int) (xs0 : Int) (σ : zS) : Option (Int × zS) :=
  let v_155 := σ 143 21
  if xs0 = 0 then
    g_m_holdsFactor_L168 rec y3 x5 xs0 0 v_155 σ
  else
    g_m_holdsFactor_L168 rec y3 x5 xs0 1 v_155 σ
set_option maxHeartbeats 4000000 in
theorem g_m_holdsFactor_L151_ok {xl : Nat} {xs : Nat → Int32} {dr : Nat} (hdr : 4 ≤ dr) {rec : Nat → Int → zS → Option (Int × zS)} (hrec : ∀ j, j ∈ [231, 232, 233] → ∀ {X1 : Int32} {x1 : Int} {σ : zS} {p : Nat} {m : zM} {o : Int × zS}, X1.toInt = x1 → zRep xl xs p m σ → rec j x1 σ = some o → zGo xl xs (fun p' => p = p') dr j 0 (z_can j 0 (lv_args 0 [.ref 143, .int X1])) [] m (vI o.1) o.2) {Y3 : Int64} {y3 : Int} (hy3 : Y3.toInt = y3) {X5 : Int32} {x5 : Int} (hx5 : X5.toInt = x5) {Xs0 : Int32} {xs0 : Int} (hxs0 : Xs0.toInt = xs0) {σ : zS} {p : Nat} {m : zM} {o : Int × zS} (H : zRep xl xs p m σ) (h : g_m_holdsFactor_L151 rec y3 x5 xs0 σ = some o) : zGo xl xs (fun p' => p = p') (dr + 1) 233 151 [(0, .ref 143), (3, .long Y3), (5, .int X5)] [.int Xs0] m (vI o.1) o.2 := by
  have hq : z_mth 233 = some z_r233 := rfl
  unfold g_m_holdsFactor_L151 at h
  refine r_p hq 3 (pc' := 155) (L' := [(6, .int Xs0), (0, .ref 143), (3, .long Y3), (5, .int X5)]) (st' := [.ref 143, .ref 143]) rfl ?_
  refine r_gI (pc' := 158) (L' := [(6, .int Xs0), (0, .ref 143), (3, .long Y3), (5, .int X5)]) H hq (z_at.mk 3 rfl rfl) rfl rfl rfl rfl ?_
  intro V_155 hV_155
  refine r_p hq 1 (pc' := 160) (L' := [(6, .int Xs0), (0, .ref 143), (3, .long Y3), (5, .int X5)]) (st' := [.int Xs0, .int V_155, .ref 143]) rfl ?_
  rcases z_ite h with ⟨c_160, h⟩ | ⟨c_160, h⟩
  · refine r_t1 (pc' := 167) (L' := [(6, .int Xs0), (0, .ref 143), (3, .long Y3), (5, .int X5)]) hq (z_at.mk 3 rfl rfl) rfl hxs0 c_160 rfl rfl ?_
    refine r_p hq 1 (pc' := 168) (L' := [(0, .ref 143), (3, .long Y3), (5, .int X5), (6, .int Xs0)]) (st' := [.int ((0 : Int32)), .int V_155, .ref 143]) rfl ?_
    exact g_m_holdsFactor_L168_ok hdr hrec hy3 hx5 hxs0 (rfl : (0 : Int32).toInt = 0) hV_155 H h
  · refine r_f1 (pc' := 163) (L' := [(6, .int Xs0), (0, .ref 143), (3, .long Y3), (5, .int X5)]) hq (z_at.mk 3 rfl rfl) rfl hxs0 c_160 rfl rfl ?_
    refine r_p hq 2 (pc' := 168) (L' := [(0, .ref 143), (3, .long Y3), (5, .int X5), (6, .int Xs0)]) (st' := [.int ((1 : Int32)), .int V_155, .ref 143]) rfl ?_
    exact g_m_holdsFactor_L168_ok hdr hrec hy3 hx5 hxs0 (rfl : (1 : Int32).toInt = 1) hV_155 H h
def g_m_holdsFactor_L120 (rec : Nat → Int → zS → Option (Int × zS)) (ys0 : Int) (σ : zS) : Option (Int × zS) :=
  (g_m_here σ).bind fun o_122 =>
  let v_129 := o_122.2 143 21
  let s_134 := zu o_122.2 143 21 (w32 (v_129 + 1))
  (g_m_here s_134).bind fun o_138 =>
  if o_138.1 ≠ 45 then
    g_m_holdsFactor_L151 rec ys0 o_122.1 0 o_138.2
  else
    g_m_holdsFactor_L151 rec ys0 o_122.1 1 o_138.2
set_option maxHeartbeats 4000000 in
theorem g_m_holdsFactor_L120_ok {xl : Nat} {xs : Nat → Int32} {dr : Nat} (hdr : 4 ≤ dr) {rec : Nat → Int → zS → Option (Int × zS)} (hrec : ∀ j, j ∈ [231, 232, 233] → ∀ {X1 : Int32} {x1 : Int} {σ : zS} {p : Nat} {m : zM} {o : Int × zS}, X1.toInt = x1 → zRep xl xs p m σ → rec j x1 σ = some o → zGo xl xs (fun p' => p = p') dr j 0 (z_can j 0 (lv_args 0 [.ref 143, .int X1])) [] m (vI o.1) o.2) {Ys0 : Int64} {ys0 : Int} (hys0 : Ys0.toInt = ys0) {σ : zS} {p : Nat} {m : zM} {o : Int × zS} (H : zRep xl xs p m σ) (h : g_m_holdsFactor_L120 rec ys0 σ = some o) : zGo xl xs (fun p' => p = p') (dr + 1) 233 120 [(0, .ref 143)] [.long Ys0] m (vI o.1) o.2 := by
  have hq : z_mth 233 = some z_r233 := rfl
  unfold g_m_holdsFactor_L120 at h
  refine r_p hq 2 (pc' := 122) (L' := [(3, .long Ys0), (0, .ref 143)]) (st' := [.ref 143]) rfl ?_
  obtain ⟨o_122, h_122, h⟩ := Option.bind_eq_some_iff.mp h
  refine r_cvI (pc' := 125) (L' := [(3, .long Ys0), (0, .ref 143)]) (Ps := []) (rest := []) hq (z_at.mk 3 rfl rfl) (Or.inl ⟨rfl, rfl⟩) rfl rfl (by decide) (by decide) rfl (Nat.not_lt.mpr (Nat.le_of_ble_eq_true rfl)) rfl rfl (z_cat_le 0 rfl (by decide)) (z_lgl_le 1 rfl (by decide)) (by decide) (H.tg rfl) (by omega) (g_m_here_ok H h_122) rfl rfl ?_
  intro R_122 m_122 p_122 e_122 hR_122 H_122
  subst e_122
  refine r_p hq 3 (pc' := 129) (L' := [(5, .int R_122), (3, .long Ys0), (0, .ref 143)]) (st' := [.ref 143, .ref 143]) rfl ?_
  refine r_gI (pc' := 132) (L' := [(5, .int R_122), (3, .long Ys0), (0, .ref 143)]) H_122 hq (z_at.mk 3 rfl rfl) rfl rfl rfl rfl ?_
  intro V_129 hV_129
  refine r_p hq 2 (pc' := 134) (L' := [(5, .int R_122), (3, .long Ys0), (0, .ref 143)]) (st' := [.int (V_129 + ((1 : Int32))), .ref 143]) rfl ?_
  refine r_pI (X := V_129 + ((1 : Int32))) (pc' := 137) (L' := [(5, .int R_122), (3, .long Ys0), (0, .ref 143)]) H_122 hq (z_at.mk 3 rfl rfl) rfl rfl (tx_iadd hV_129 (rfl : (1 : Int32).toInt = 1)) (by decide) rfl rfl rfl rfl ?_
  intro m_134 H_134
  refine r_p hq 1 (pc' := 138) (L' := [(5, .int R_122), (3, .long Ys0), (0, .ref 143)]) (st' := [.ref 143]) rfl ?_
  obtain ⟨o_138, h_138, h⟩ := Option.bind_eq_some_iff.mp h
  refine r_cvI (pc' := 141) (L' := [(5, .int R_122), (3, .long Ys0), (0, .ref 143)]) (Ps := []) (rest := []) hq (z_at.mk 3 rfl rfl) (Or.inl ⟨rfl, rfl⟩) rfl rfl (by decide) (by decide) rfl (Nat.not_lt.mpr (Nat.le_of_ble_eq_true rfl)) rfl rfl (z_cat_le 0 rfl (by decide)) (z_lgl_le 1 rfl (by decide)) (by decide) (H_134.tg rfl) (by omega) (g_m_here_ok H_134 h_138) rfl rfl ?_
  intro R_138 m_138 p_138 e_138 hR_138 H_138
  subst e_138
  refine r_p hq 1 (pc' := 143) (L' := [(5, .int R_122), (3, .long Ys0), (0, .ref 143)]) (st' := [.int ((45 : Int32)), .int R_138]) rfl ?_
  rcases z_ite h with ⟨c_143, h⟩ | ⟨c_143, h⟩
  · refine r_t2 (pc' := 150) (L' := [(5, .int R_122), (3, .long Ys0), (0, .ref 143)]) hq (z_at.mk 3 rfl rfl) rfl hR_138 (rfl : (45 : Int32).toInt = 45) c_143 rfl rfl ?_
    refine r_p hq 1 (pc' := 151) (L' := [(0, .ref 143), (3, .long Ys0), (5, .int R_122)]) (st' := [.int ((0 : Int32))]) rfl ?_
    exact g_m_holdsFactor_L151_ok hdr hrec hys0 hR_122 (rfl : (0 : Int32).toInt = 0) H_138 h
  · refine r_f2 (pc' := 146) (L' := [(5, .int R_122), (3, .long Ys0), (0, .ref 143)]) hq (z_at.mk 3 rfl rfl) rfl hR_138 (rfl : (45 : Int32).toInt = 45) c_143 rfl rfl ?_
    refine r_p hq 2 (pc' := 151) (L' := [(0, .ref 143), (3, .long Ys0), (5, .int R_122)]) (st' := [.int ((1 : Int32))]) rfl ?_
    exact g_m_holdsFactor_L151_ok hdr hrec hys0 hR_122 (rfl : (1 : Int32).toInt = 1) H_138 h
def g_m_holdsFactor (rec : Nat → Int → zS → Option (Int × zS)) (x1 : Int) (σ : zS) : Option (Int × zS) :=
  (g_m_here σ).bind fun o_1 =>
  let v_7 := o_1.2 143 21
  let s_12 := zu o_1.2 143 21 (w32 (v_7 + 1))
  if o_1.1 ≠ 33 then
    if o_1.1 ≠ 40 then
      if o_1.1 ≠ 119 then
        if o_1.1 ≠ 120 then
          if o_1.1 ≠ 121 then
            g_m_holdsFactor_L120 rec x1 s_12
          else
            (g_m_rowAt x1 s_12).bind fun o_108 =>
            if 0 ≤ w32 (o_108.1 + 2) ∧ w32 (o_108.1 + 2) < 2740 then
            let v_113 := o_108.2 144 (w32 (o_108.1 + 2))
            g_m_holdsFactor_L120 rec v_113 o_108.2
            else none
        else
          (g_m_rowAt x1 s_12).bind fun o_87 =>
          if 0 ≤ w32 (o_87.1 + 1) ∧ w32 (o_87.1 + 1) < 2740 then
          let v_92 := o_87.2 144 (w32 (o_87.1 + 1))
          g_m_holdsFactor_L120 rec v_92 o_87.2
          else none
      else
        if 0 ≤ w32 (1 + x1) ∧ w32 (1 + x1) < 361 then
        let v_72 := s_12 147 (w32 (1 + x1))
        g_m_holdsFactor_L120 rec v_72 s_12
        else none
    else
      (rec 231 x1 s_12).bind fun o_43 =>
      let v_49 := o_43.2 143 21
      let s_54 := zu o_43.2 143 21 (w32 (v_49 + 1))
      if o_43.1 = 0 ∨ o_43.1 = 1 then some (o_43.1, s_54) else none
  else
    (rec 233 x1 s_12).bind fun o_23 =>
    if o_23.1 ≠ 0 then
      some (0, o_23.2)
    else
      some (1, o_23.2)
set_option maxHeartbeats 4000000 in
theorem g_m_holdsFactor_ok {xl : Nat} {xs : Nat → Int32} {dr : Nat} (hdr : 4 ≤ dr) {rec : Nat → Int → zS → Option (Int × zS)} (hrec : ∀ j, j ∈ [231, 232, 233] → ∀ {X1 : Int32} {x1 : Int} {σ : zS} {p : Nat} {m : zM} {o : Int × zS}, X1.toInt = x1 → zRep xl xs p m σ → rec j x1 σ = some o → zGo xl xs (fun p' => p = p') dr j 0 (z_can j 0 (lv_args 0 [.ref 143, .int X1])) [] m (vI o.1) o.2) {X1 : Int32} {x1 : Int} (hx1 : X1.toInt = x1) {σ : zS} {p : Nat} {m : zM} {o : Int × zS} (H : zRep xl xs p m σ) (h : g_m_holdsFactor rec x1 σ = some o) : zGo xl xs (fun p' => p = p') (dr + 1) 233 0 (z_can 233 0 (lv_args 0 [.ref 143, .int X1])) [] m (vI o.1) o.2 := by
  have hq : z_mth 233 = some z_r233 := rfl
  unfold g_m_holdsFactor at h
  show zGo xl xs (fun p' => p = p') (dr + 1) 233 0 [(0, .ref 143), (1, .int X1)] [] m (vI o.1) o.2
  refine r_p hq 1 (pc' := 1) (L' := [(0, .ref 143), (1, .int X1)]) (st' := [.ref 143]) rfl ?_
  obtain ⟨o_1, h_1, h⟩ := Option.bind_eq_some_iff.mp h
  refine r_cvI (pc' := 4) (L' := [(0, .ref 143), (1, .int X1)]) (Ps := []) (rest := []) hq (z_at.mk 3 rfl rfl) (Or.inl ⟨rfl, rfl⟩) rfl rfl (by decide) (by decide) rfl (Nat.not_lt.mpr (Nat.le_of_ble_eq_true rfl)) rfl rfl (z_cat_le 0 rfl (by decide)) (z_lgl_le 1 rfl (by decide)) (by decide) (H.tg rfl) (by omega) (g_m_here_ok H h_1) rfl rfl ?_
  intro R_1 m_1 p_1 e_1 hR_1 H_1
  subst e_1
  refine r_p hq 3 (pc' := 7) (L' := [(2, .int R_1), (0, .ref 143), (1, .int X1)]) (st' := [.ref 143, .ref 143]) rfl ?_
  refine r_gI (pc' := 10) (L' := [(2, .int R_1), (0, .ref 143), (1, .int X1)]) H_1 hq (z_at.mk 3 rfl rfl) rfl rfl rfl rfl ?_
  intro V_7 hV_7
  refine r_p hq 2 (pc' := 12) (L' := [(2, .int R_1), (0, .ref 143), (1, .int X1)]) (st' := [.int (V_7 + ((1 : Int32))), .ref 143]) rfl ?_
  refine r_pI (X := V_7 + ((1 : Int32))) (pc' := 15) (L' := [(2, .int R_1), (0, .ref 143), (1, .int X1)]) H_1 hq (z_at.mk 3 rfl rfl) rfl rfl (tx_iadd hV_7 (rfl : (1 : Int32).toInt = 1)) (by decide) rfl rfl rfl rfl ?_
  intro m_12 H_12
  refine r_p hq 2 (pc' := 18) (L' := [(2, .int R_1), (0, .ref 143), (1, .int X1)]) (st' := [.int ((33 : Int32)), .int R_1]) rfl ?_
  rcases z_ite h with ⟨c_18, h⟩ | ⟨c_18, h⟩
  · refine r_t2 (pc' := 35) (L' := [(2, .int R_1), (0, .ref 143), (1, .int X1)]) hq (z_at.mk 3 rfl rfl) rfl hR_1 (rfl : (33 : Int32).toInt = 33) c_18 rfl rfl ?_
    refine r_p hq 2 (pc' := 38) (L' := [(2, .int R_1), (0, .ref 143), (1, .int X1)]) (st' := [.int ((40 : Int32)), .int R_1]) rfl ?_
    rcases z_ite h with ⟨c_38, h⟩ | ⟨c_38, h⟩
    · refine r_t2 (pc' := 59) (L' := [(2, .int R_1), (0, .ref 143), (1, .int X1)]) hq (z_at.mk 3 rfl rfl) rfl hR_1 (rfl : (40 : Int32).toInt = 40) c_38 rfl rfl ?_
      refine r_p hq 2 (pc' := 62) (L' := [(2, .int R_1), (0, .ref 143), (1, .int X1)]) (st' := [.int ((119 : Int32)), .int R_1]) rfl ?_
      rcases z_ite h with ⟨c_62, h⟩ | ⟨c_62, h⟩
      · refine r_t2 (pc' := 76) (L' := [(2, .int R_1), (0, .ref 143), (1, .int X1)]) hq (z_at.mk 3 rfl rfl) rfl hR_1 (rfl : (119 : Int32).toInt = 119) c_62 rfl rfl ?_
        refine r_p hq 2 (pc' := 79) (L' := [(2, .int R_1), (0, .ref 143), (1, .int X1)]) (st' := [.int ((120 : Int32)), .int R_1]) rfl ?_
        rcases z_ite h with ⟨c_79, h⟩ | ⟨c_79, h⟩
        · refine r_t2 (pc' := 97) (L' := [(2, .int R_1), (0, .ref 143), (1, .int X1)]) hq (z_at.mk 3 rfl rfl) rfl hR_1 (rfl : (120 : Int32).toInt = 120) c_79 rfl rfl ?_
          refine r_p hq 2 (pc' := 100) (L' := [(2, .int R_1), (0, .ref 143), (1, .int X1)]) (st' := [.int ((121 : Int32)), .int R_1]) rfl ?_
          rcases z_ite h with ⟨c_100, h⟩ | ⟨c_100, h⟩
          · refine r_t2 (pc' := 118) (L' := [(2, .int R_1), (0, .ref 143), (1, .int X1)]) hq (z_at.mk 3 rfl rfl) rfl hR_1 (rfl : (121 : Int32).toInt = 121) c_100 rfl rfl ?_
            refine r_p hq 2 (pc' := 120) (L' := [(0, .ref 143)]) (st' := [.long X1.toInt64]) rfl ?_
            exact g_m_holdsFactor_L120_ok hdr hrec (tx_i2l hx1) H_12 h
          · refine r_f2 (pc' := 103) (L' := [(2, .int R_1), (0, .ref 143), (1, .int X1)]) hq (z_at.mk 3 rfl rfl) rfl hR_1 (rfl : (121 : Int32).toInt = 121) c_100 rfl rfl ?_
            refine r_p hq 1 (pc' := 104) (L' := [(2, .int R_1), (0, .ref 143), (1, .int X1)]) (st' := [.ref 143]) rfl ?_
            refine r_gR (b := 144) (pc' := 107) (L' := [(2, .int R_1), (0, .ref 143), (1, .int X1)]) H_12 hq (z_at.mk 3 rfl rfl) rfl rfl rfl rfl ?_
            refine r_p hq 1 (pc' := 108) (L' := [(2, .int R_1), (0, .ref 143), (1, .int X1)]) (st' := [.int X1, .ref 144]) rfl ?_
            obtain ⟨o_108, h_108, h⟩ := Option.bind_eq_some_iff.mp h
            refine r_csI (pc' := 111) (L' := [(2, .int R_1), (0, .ref 143), (1, .int X1)]) (As := [.int X1]) (rest := [.ref 144]) (j := 174) hq (z_at.mk 3 rfl rfl) (Or.inl ⟨rfl, rfl⟩) rfl rfl (by omega) (g_m_rowAt_ok hx1 H_12 h_108) rfl rfl ?_
            intro R_108 m_108 p_108 e_108 hR_108 H_108
            subst e_108
            refine r_p hq 2 (pc' := 113) (L' := [(2, .int R_1), (0, .ref 143), (1, .int X1)]) (st' := [.int (R_108 + ((2 : Int32))), .ref 144]) rfl ?_
            obtain ⟨g_113, h⟩ := z_ifo_some h
            refine r_ia (pc' := 114) (L' := [(2, .int R_1), (0, .ref 143), (1, .int X1)]) H_108 hq (z_at.mk 1 rfl rfl) (show zAr 144 0 2740 = true from rfl) (tx_iadd hR_108 (rfl : (2 : Int32).toInt = 2)) g_113 rfl rfl ?_
            intro V_113 hV_113
            refine r_p hq 2 (pc' := 120) (L' := [(0, .ref 143)]) (st' := [.long V_113.toInt64]) rfl ?_
            exact g_m_holdsFactor_L120_ok hdr hrec (tx_i2l hV_113) H_108 h
        · refine r_f2 (pc' := 82) (L' := [(2, .int R_1), (0, .ref 143), (1, .int X1)]) hq (z_at.mk 3 rfl rfl) rfl hR_1 (rfl : (120 : Int32).toInt = 120) c_79 rfl rfl ?_
          refine r_p hq 1 (pc' := 83) (L' := [(2, .int R_1), (0, .ref 143), (1, .int X1)]) (st' := [.ref 143]) rfl ?_
          refine r_gR (b := 144) (pc' := 86) (L' := [(2, .int R_1), (0, .ref 143), (1, .int X1)]) H_12 hq (z_at.mk 3 rfl rfl) rfl rfl rfl rfl ?_
          refine r_p hq 1 (pc' := 87) (L' := [(2, .int R_1), (0, .ref 143), (1, .int X1)]) (st' := [.int X1, .ref 144]) rfl ?_
          obtain ⟨o_87, h_87, h⟩ := Option.bind_eq_some_iff.mp h
          refine r_csI (pc' := 90) (L' := [(2, .int R_1), (0, .ref 143), (1, .int X1)]) (As := [.int X1]) (rest := [.ref 144]) (j := 174) hq (z_at.mk 3 rfl rfl) (Or.inl ⟨rfl, rfl⟩) rfl rfl (by omega) (g_m_rowAt_ok hx1 H_12 h_87) rfl rfl ?_
          intro R_87 m_87 p_87 e_87 hR_87 H_87
          subst e_87
          refine r_p hq 2 (pc' := 92) (L' := [(2, .int R_1), (0, .ref 143), (1, .int X1)]) (st' := [.int (R_87 + ((1 : Int32))), .ref 144]) rfl ?_
          obtain ⟨g_92, h⟩ := z_ifo_some h
          refine r_ia (pc' := 93) (L' := [(2, .int R_1), (0, .ref 143), (1, .int X1)]) H_87 hq (z_at.mk 1 rfl rfl) (show zAr 144 0 2740 = true from rfl) (tx_iadd hR_87 (rfl : (1 : Int32).toInt = 1)) g_92 rfl rfl ?_
          intro V_92 hV_92
          refine r_p hq 2 (pc' := 120) (L' := [(0, .ref 143)]) (st' := [.long V_92.toInt64]) rfl ?_
          exact g_m_holdsFactor_L120_ok hdr hrec (tx_i2l hV_92) H_87 h
      · refine r_f2 (pc' := 65) (L' := [(2, .int R_1), (0, .ref 143), (1, .int X1)]) hq (z_at.mk 3 rfl rfl) rfl hR_1 (rfl : (119 : Int32).toInt = 119) c_62 rfl rfl ?_
        refine r_p hq 1 (pc' := 66) (L' := [(2, .int R_1), (0, .ref 143), (1, .int X1)]) (st' := [.ref 143]) rfl ?_
        refine r_gR (b := 147) (pc' := 69) (L' := [(2, .int R_1), (0, .ref 143), (1, .int X1)]) H_12 hq (z_at.mk 3 rfl rfl) rfl rfl rfl rfl ?_
        refine r_p hq 3 (pc' := 72) (L' := [(2, .int R_1), (0, .ref 143), (1, .int X1)]) (st' := [.int (((1 : Int32)) + X1), .ref 147]) rfl ?_
        obtain ⟨g_72, h⟩ := z_ifo_some h
        refine r_la (pc' := 73) (L' := [(2, .int R_1), (0, .ref 143), (1, .int X1)]) H_12 hq (z_at.mk 1 rfl rfl) (show zAr 147 1 361 = true from rfl) (tx_iadd (rfl : (1 : Int32).toInt = 1) hx1) g_72 rfl rfl ?_
        intro V_72 hV_72
        refine r_p hq 1 (pc' := 120) (L' := [(0, .ref 143)]) (st' := [.long V_72]) rfl ?_
        exact g_m_holdsFactor_L120_ok hdr hrec hV_72 H_12 h
    · refine r_f2 (pc' := 41) (L' := [(2, .int R_1), (0, .ref 143), (1, .int X1)]) hq (z_at.mk 3 rfl rfl) rfl hR_1 (rfl : (40 : Int32).toInt = 40) c_38 rfl rfl ?_
      refine r_p hq 2 (pc' := 43) (L' := [(2, .int R_1), (0, .ref 143), (1, .int X1)]) (st' := [.int X1, .ref 143]) rfl ?_
      obtain ⟨o_43, h_43, h⟩ := Option.bind_eq_some_iff.mp h
      refine r_cvI (pc' := 46) (L' := [(2, .int R_1), (0, .ref 143), (1, .int X1)]) (Ps := [.int X1]) (rest := []) hq (z_at.mk 3 rfl rfl) (Or.inl ⟨rfl, rfl⟩) rfl rfl (by decide) (by decide) rfl (Nat.not_lt.mpr (Nat.le_of_ble_eq_true rfl)) rfl rfl (z_cat_le 0 rfl (by decide)) (z_lgl_le 2 rfl (by decide)) (by decide) (H_12.tg rfl) (by omega) (hrec 231 (by simp) hx1 H_12 h_43) rfl rfl ?_
      intro R_43 m_43 p_43 e_43 hR_43 H_43
      subst e_43
      refine r_p hq 3 (pc' := 49) (L' := [(3, .int R_43), (2, .int R_1), (0, .ref 143), (1, .int X1)]) (st' := [.ref 143, .ref 143]) rfl ?_
      refine r_gI (pc' := 52) (L' := [(3, .int R_43), (2, .int R_1), (0, .ref 143), (1, .int X1)]) H_43 hq (z_at.mk 3 rfl rfl) rfl rfl rfl rfl ?_
      intro V_49 hV_49
      refine r_p hq 2 (pc' := 54) (L' := [(3, .int R_43), (2, .int R_1), (0, .ref 143), (1, .int X1)]) (st' := [.int (V_49 + ((1 : Int32))), .ref 143]) rfl ?_
      refine r_pI (X := V_49 + ((1 : Int32))) (pc' := 57) (L' := [(3, .int R_43), (2, .int R_1), (0, .ref 143), (1, .int X1)]) H_43 hq (z_at.mk 3 rfl rfl) rfl rfl (tx_iadd hV_49 (rfl : (1 : Int32).toInt = 1)) (by decide) rfl rfl rfl rfl ?_
      intro m_54 H_54
      refine r_p hq 1 (pc' := 58) (L' := [(3, .int R_43), (2, .int R_1), (0, .ref 143), (1, .int X1)]) (st' := [.int R_43]) rfl ?_
      obtain ⟨g_58, h⟩ := z_if_some h
      cases h
      exact r_ri hq (z_at.mk 1 rfl rfl) rfl (z_rty_bo hR_43 g_58) hR_43 rfl H_54
  · refine r_f2 (pc' := 21) (L' := [(2, .int R_1), (0, .ref 143), (1, .int X1)]) hq (z_at.mk 3 rfl rfl) rfl hR_1 (rfl : (33 : Int32).toInt = 33) c_18 rfl rfl ?_
    refine r_p hq 2 (pc' := 23) (L' := [(2, .int R_1), (0, .ref 143), (1, .int X1)]) (st' := [.int X1, .ref 143]) rfl ?_
    obtain ⟨o_23, h_23, h⟩ := Option.bind_eq_some_iff.mp h
    refine r_cvI (pc' := 26) (L' := [(2, .int R_1), (0, .ref 143), (1, .int X1)]) (Ps := [.int X1]) (rest := []) hq (z_at.mk 3 rfl rfl) (Or.inl ⟨rfl, rfl⟩) rfl rfl (by decide) (by decide) rfl (Nat.not_lt.mpr (Nat.le_of_ble_eq_true rfl)) rfl rfl (z_cat_le 0 rfl (by decide)) (z_lgl_le 2 rfl (by decide)) (by decide) (H_12.tg rfl) (by omega) (hrec 233 (by simp) hx1 H_12 h_23) rfl rfl ?_
    intro R_23 m_23 p_23 e_23 hR_23 H_23
    subst e_23
    rcases z_ite h with ⟨c_26, h⟩ | ⟨c_26, h⟩
    · refine r_t1 (pc' := 33) (L' := [(2, .int R_1), (0, .ref 143), (1, .int X1)]) hq (z_at.mk 3 rfl rfl) rfl hR_23 c_26 rfl rfl ?_
      refine r_p hq 1 (pc' := 34) (L' := []) (st' := [.int ((0 : Int32))]) rfl ?_
      cases h
      exact r_ri hq (z_at.mk 1 rfl rfl) rfl rfl (rfl : (0 : Int32).toInt = 0) rfl H_23
    · refine r_f1 (pc' := 29) (L' := [(2, .int R_1), (0, .ref 143), (1, .int X1)]) hq (z_at.mk 3 rfl rfl) rfl hR_23 c_26 rfl rfl ?_
      refine r_p hq 2 (pc' := 34) (L' := []) (st' := [.int ((1 : Int32))]) rfl ?_
      cases h
      exact r_ri hq (z_at.mk 1 rfl rfl) rfl rfl (rfl : (1 : Int32).toInt = 1) rfl H_23
def g_grp231 : Nat → Nat → Int → zS → Option (Int × zS)
  | 0, _, _, _ => none
  | n + 1, j, x1, σ =>
    if j = 231 then g_m_doesHold (g_grp231 n) x1 σ else
    if j = 232 then g_m_holdsBoth (g_grp231 n) x1 σ else
    if j = 233 then g_m_holdsFactor (g_grp231 n) x1 σ else
    none
theorem g_grp231_ok {xl : Nat} {xs : Nat → Int32} : ∀ (n : Nat) (j : Nat), j ∈ [231, 232, 233] → ∀ {X1 : Int32} {x1 : Int} {σ : zS} {p : Nat} {m : zM} {o : Int × zS}, X1.toInt = x1 → zRep xl xs p m σ → g_grp231 n j x1 σ = some o → zGo xl xs (fun p' => p = p') (4 + n) j 0 (z_can j 0 (lv_args 0 [.ref 143, .int X1])) [] m (vI o.1) o.2
  | 0, _, _, _, _, _, _, _, _, _, _, h => by cases h
  | n + 1, j, hj, X1, x1, σ, p, m, o, hx1, H, h => by
    have ih := fun (j : Nat) (hj : j ∈ [231, 232, 233]) {X1 : Int32} {x1 : Int} {σ : zS} {p : Nat} {m : zM} {o : Int × zS} => g_grp231_ok (xl := xl) (xs := xs) n j hj (X1 := X1) (x1 := x1) (σ := σ) (p := p) (m := m) (o := o)
    unfold g_grp231 at h
    by_cases c_231 : j = 231
    · rw [if_pos c_231] at h
      subst c_231
      exact g_m_doesHold_ok (Nat.le_add_right _ _) ih hx1 H h
    rw [if_neg c_231] at h
    by_cases c_232 : j = 232
    · rw [if_pos c_232] at h
      subst c_232
      exact g_m_holdsBoth_ok (Nat.le_add_right _ _) ih hx1 H h
    rw [if_neg c_232] at h
    by_cases c_233 : j = 233
    · rw [if_pos c_233] at h
      subst c_233
      exact g_m_holdsFactor_ok (Nat.le_add_right _ _) ih hx1 H h
    rw [if_neg c_233] at h
    cases h
def g_m_gathers_L158 (a1 : Nat) (g8 : Int → Int → Int → zS → Option (Unit × zS)) (x2 : Int) (x3 : Int) (x4 : Int) (σ : zS) : Option (Unit × zS) :=
  g8 x2 x3 (w32 (x4 + 1)) σ
set_option maxHeartbeats 4000000 in
theorem g_m_gathers_L158_ok {xl : Nat} {xs : Nat → Int32} {a1 : Nat} (ha1 : zIn [144, 150, 151, 152, 153, 156, 157, 161, 164, 165] a1 = true) {g8 : Int → Int → Int → zS → Option (Unit × zS)} (hg8 : ∀ {X2 : Int32} {x2 : Int} {X3 : Int32} {x3 : Int} {X4 : Int32} {x4 : Int} {σ : zS} {p : Nat} {m : zM} {o : Unit × zS}, X2.toInt = x2 → X3.toInt = x3 → X4.toInt = x4 → zRep xl xs p m σ → g8 x2 x3 x4 σ = some o → zGo xl xs (fun p' => p = p') 505 191 8 [(0, .ref 143), (1, .ref a1), (2, .int X2), (3, .int X3), (4, .int X4)] [] m vV o.2) {X2 : Int32} {x2 : Int} (hx2 : X2.toInt = x2) {X3 : Int32} {x3 : Int} (hx3 : X3.toInt = x3) {X4 : Int32} {x4 : Int} (hx4 : X4.toInt = x4) {σ : zS} {p : Nat} {m : zM} {o : Unit × zS} (H : zRep xl xs p m σ) (h : g_m_gathers_L158 a1 g8 x2 x3 x4 σ = some o) : zGo xl xs (fun p' => p = p') 505 191 158 [(0, .ref 143), (1, .ref a1), (2, .int X2), (3, .int X3), (4, .int X4)] [] m vV o.2 := by
  have hq : z_mth 191 = some z_r191 := rfl
  unfold g_m_gathers_L158 at h
  refine r_p hq 2 (pc' := 8) (L' := [(0, .ref 143), (1, .ref a1), (2, .int X2), (3, .int X3), (4, .int (X4 + (1 : Int32)))]) (st' := []) rfl ?_
  exact hg8 hx2 hx3 (tx_iadd hx4 (rfl : (1 : Int32).toInt = 1)) H h
def g_m_gathers_L139 (a1 : Nat) (g8 : Int → Int → Int → zS → Option (Unit × zS)) (x2 : Int) (x3 : Int) (x4 : Int) (x5 : Int) (σ : zS) : Option (Unit × zS) :=
  if 0 ≤ x5 ∧ x5 < 60 then
  let s_147 := zu σ 154 x5 x4
  let v_150 := s_147 143 14
  let s_155 := zu s_147 143 14 (w32 (v_150 + 1))
  g_m_gathers_L158 a1 g8 x2 x3 x4 s_155
  else none
set_option maxHeartbeats 4000000 in
theorem g_m_gathers_L139_ok {xl : Nat} {xs : Nat → Int32} {a1 : Nat} (ha1 : zIn [144, 150, 151, 152, 153, 156, 157, 161, 164, 165] a1 = true) {g8 : Int → Int → Int → zS → Option (Unit × zS)} (hg8 : ∀ {X2 : Int32} {x2 : Int} {X3 : Int32} {x3 : Int} {X4 : Int32} {x4 : Int} {σ : zS} {p : Nat} {m : zM} {o : Unit × zS}, X2.toInt = x2 → X3.toInt = x3 → X4.toInt = x4 → zRep xl xs p m σ → g8 x2 x3 x4 σ = some o → zGo xl xs (fun p' => p = p') 505 191 8 [(0, .ref 143), (1, .ref a1), (2, .int X2), (3, .int X3), (4, .int X4)] [] m vV o.2) {X2 : Int32} {x2 : Int} (hx2 : X2.toInt = x2) {X3 : Int32} {x3 : Int} (hx3 : X3.toInt = x3) {X4 : Int32} {x4 : Int} (hx4 : X4.toInt = x4) {X5 : Int32} {x5 : Int} (hx5 : X5.toInt = x5) {σ : zS} {p : Nat} {m : zM} {o : Unit × zS} (H : zRep xl xs p m σ) (h : g_m_gathers_L139 a1 g8 x2 x3 x4 x5 σ = some o) : zGo xl xs (fun p' => p = p') 505 191 139 [(0, .ref 143), (1, .ref a1), (2, .int X2), (3, .int X3), (4, .int X4), (5, .int X5)] [] m vV o.2 := by
  have hq : z_mth 191 = some z_r191 := rfl
  unfold g_m_gathers_L139 at h
  refine r_p hq 1 (pc' := 140) (L' := [(0, .ref 143), (1, .ref a1), (2, .int X2), (3, .int X3), (4, .int X4), (5, .int X5)]) (st' := [.ref 143]) rfl ?_
  refine r_gR (b := 154) (pc' := 143) (L' := [(0, .ref 143), (1, .ref a1), (2, .int X2), (3, .int X3), (4, .int X4), (5, .int X5)]) H hq (z_at.mk 3 rfl rfl) rfl rfl rfl rfl ?_
  refine r_p hq 2 (pc' := 147) (L' := [(0, .ref 143), (1, .ref a1), (2, .int X2), (3, .int X3), (4, .int X4), (5, .int X5)]) (st' := [.int X4, .int X5, .ref 154]) rfl ?_
  obtain ⟨g_147, h⟩ := z_ifo_some h
  refine r_is (pc' := 148) (L' := [(0, .ref 143), (1, .ref a1), (2, .int X2), (3, .int X3), (4, .int X4), (5, .int X5)]) H hq (z_at.mk 1 rfl rfl) (show zAr 154 0 60 = true from rfl) hx5 g_147 hx4 rfl rfl ?_
  intro m_147 H_147
  refine r_p hq 2 (pc' := 150) (L' := [(0, .ref 143), (1, .ref a1), (2, .int X2), (3, .int X3), (4, .int X4), (5, .int X5)]) (st' := [.ref 143, .ref 143]) rfl ?_
  refine r_gI (pc' := 153) (L' := [(0, .ref 143), (1, .ref a1), (2, .int X2), (3, .int X3), (4, .int X4), (5, .int X5)]) H_147 hq (z_at.mk 3 rfl rfl) rfl rfl rfl rfl ?_
  intro V_150 hV_150
  refine r_p hq 2 (pc' := 155) (L' := [(0, .ref 143), (1, .ref a1), (2, .int X2), (3, .int X3), (4, .int X4), (5, .int X5)]) (st' := [.int (V_150 + ((1 : Int32))), .ref 143]) rfl ?_
  refine r_pI (X := V_150 + ((1 : Int32))) (pc' := 158) (L' := [(0, .ref 143), (1, .ref a1), (2, .int X2), (3, .int X3), (4, .int X4)]) H_147 hq (z_at.mk 3 rfl rfl) rfl rfl (tx_iadd hV_150 (rfl : (1 : Int32).toInt = 1)) (by decide) rfl rfl rfl rfl ?_
  intro m_155 H_155
  exact g_m_gathers_L158_ok ha1 hg8 hx2 hx3 hx4 H_155 h
def g_m_gathers_L90 (a1 : Nat) (g8 : Int → Int → Int → zS → Option (Unit × zS)) : Nat → Int → Int → Int → Int → zS → Option (Unit × zS)
  | 0, _, _, _, _, _ => none
  | n + 1, x2, x3, x4, x5, σ =>
    if x5 ≤ 0 then
      g_m_gathers_L139 a1 g8 x2 x3 x4 x5 σ
    else
      if 0 ≤ w32 (x5 - 1) ∧ w32 (x5 - 1) < 60 then
      let v_104 := σ 154 (w32 (x5 - 1))
      (g_m_orderOf v_104 σ).bind fun o_105 =>
      (g_m_orderOf x4 o_105.2).bind fun o_111 =>
      if o_105.1 ≤ o_111.1 then
        g_m_gathers_L139 a1 g8 x2 x3 x4 x5 o_111.2
      else
        if 0 ≤ w32 (x5 - 1) ∧ w32 (x5 - 1) < 60 then
        let v_131 := o_111.2 154 (w32 (x5 - 1))
        if 0 ≤ x5 ∧ x5 < 60 then
        let s_132 := zu o_111.2 154 x5 v_131
        (g_m_gathers_L90 a1 g8 n) x2 x3 x4 (w32 (x5 - 1)) s_132
        else none
        else none
      else none
set_option maxHeartbeats 4000000 in
theorem g_m_gathers_L90_ok {xl : Nat} {xs : Nat → Int32} {a1 : Nat} (ha1 : zIn [144, 150, 151, 152, 153, 156, 157, 161, 164, 165] a1 = true) {g8 : Int → Int → Int → zS → Option (Unit × zS)} (hg8 : ∀ {X2 : Int32} {x2 : Int} {X3 : Int32} {x3 : Int} {X4 : Int32} {x4 : Int} {σ : zS} {p : Nat} {m : zM} {o : Unit × zS}, X2.toInt = x2 → X3.toInt = x3 → X4.toInt = x4 → zRep xl xs p m σ → g8 x2 x3 x4 σ = some o → zGo xl xs (fun p' => p = p') 505 191 8 [(0, .ref 143), (1, .ref a1), (2, .int X2), (3, .int X3), (4, .int X4)] [] m vV o.2) : ∀ (n : Nat) {X2 : Int32} {x2 : Int} {X3 : Int32} {x3 : Int} {X4 : Int32} {x4 : Int} {X5 : Int32} {x5 : Int} {σ : zS} {p : Nat} {m : zM} {o : Unit × zS}, X2.toInt = x2 → X3.toInt = x3 → X4.toInt = x4 → X5.toInt = x5 → zRep xl xs p m σ → g_m_gathers_L90 a1 g8 n x2 x3 x4 x5 σ = some o → zGo xl xs (fun p' => p = p') 505 191 90 [(0, .ref 143), (1, .ref a1), (2, .int X2), (3, .int X3), (4, .int X4), (5, .int X5)] [] m vV o.2
  | 0, _, _, _, _, _, _, _, _, _, _, _, _, _, _, _, _, _, h => by cases h
  | n + 1, X2, x2, X3, x3, X4, x4, X5, x5, σ, p, m, o, hx2, hx3, hx4, hx5, H, h => by
    have hq : z_mth 191 = some z_r191 := rfl
    have ih := fun {X2 : Int32} {x2 : Int} {X3 : Int32} {x3 : Int} {X4 : Int32} {x4 : Int} {X5 : Int32} {x5 : Int} {σ : zS} {p : Nat} {m : zM} {o : Unit × zS} => g_m_gathers_L90_ok (xl := xl) (xs := xs) ha1 hg8 n (X2 := X2) (x2 := x2) (X3 := X3) (x3 := x3) (X4 := X4) (x4 := x4) (X5 := X5) (x5 := x5) (σ := σ) (p := p) (m := m) (o := o)
    unfold g_m_gathers_L90 at h
    refine r_p hq 1 (pc' := 92) (L' := [(0, .ref 143), (1, .ref a1), (2, .int X2), (3, .int X3), (4, .int X4), (5, .int X5)]) (st' := [.int X5]) rfl ?_
    rcases z_ite h with ⟨c_92, h⟩ | ⟨c_92, h⟩
    · refine r_t1 (pc' := 139) (L' := [(0, .ref 143), (1, .ref a1), (2, .int X2), (3, .int X3), (4, .int X4), (5, .int X5)]) hq (z_at.mk 3 rfl rfl) rfl hx5 c_92 rfl rfl ?_
      exact g_m_gathers_L139_ok ha1 hg8 hx2 hx3 hx4 hx5 H h
    · refine r_f1 (pc' := 95) (L' := [(0, .ref 143), (1, .ref a1), (2, .int X2), (3, .int X3), (4, .int X4), (5, .int X5)]) hq (z_at.mk 3 rfl rfl) rfl hx5 c_92 rfl rfl ?_
      refine r_p hq 2 (pc' := 97) (L' := [(0, .ref 143), (1, .ref a1), (2, .int X2), (3, .int X3), (4, .int X4), (5, .int X5)]) (st' := [.ref 143, .ref 143]) rfl ?_
      refine r_gR (b := 154) (pc' := 100) (L' := [(0, .ref 143), (1, .ref a1), (2, .int X2), (3, .int X3), (4, .int X4), (5, .int X5)]) H hq (z_at.mk 3 rfl rfl) rfl rfl rfl rfl ?_
      refine r_p hq 3 (pc' := 104) (L' := [(0, .ref 143), (1, .ref a1), (2, .int X2), (3, .int X3), (4, .int X4), (5, .int X5)]) (st' := [.int (X5 - ((1 : Int32))), .ref 154, .ref 143]) rfl ?_
      obtain ⟨g_104, h⟩ := z_ifo_some h
      refine r_ia (pc' := 105) (L' := [(0, .ref 143), (1, .ref a1), (2, .int X2), (3, .int X3), (4, .int X4), (5, .int X5)]) H hq (z_at.mk 1 rfl rfl) (show zAr 154 0 60 = true from rfl) (tx_isub hx5 (rfl : (1 : Int32).toInt = 1)) g_104 rfl rfl ?_
      intro V_104 hV_104
      obtain ⟨o_105, h_105, h⟩ := Option.bind_eq_some_iff.mp h
      refine r_cvI (pc' := 108) (L' := [(0, .ref 143), (1, .ref a1), (2, .int X2), (3, .int X3), (4, .int X4), (5, .int X5)]) (Ps := [.int V_104]) (rest := []) hq (z_at.mk 3 rfl rfl) (Or.inl ⟨rfl, rfl⟩) rfl rfl (by decide) (by decide) rfl (Nat.not_lt.mpr (Nat.le_of_ble_eq_true rfl)) rfl rfl (z_cat_le 0 rfl (by decide)) (z_lgl_le 2 rfl (by decide)) (by decide) (H.tg rfl) (by omega) (g_m_orderOf_ok hV_104 H h_105) rfl rfl ?_
      intro R_105 m_105 p_105 e_105 hR_105 H_105
      subst e_105
      refine r_p hq 2 (pc' := 111) (L' := [(0, .ref 143), (1, .ref a1), (2, .int X2), (3, .int X3), (4, .int X4), (5, .int X5)]) (st' := [.int X4, .ref 143, .int R_105]) rfl ?_
      obtain ⟨o_111, h_111, h⟩ := Option.bind_eq_some_iff.mp h
      refine r_cvI (pc' := 114) (L' := [(0, .ref 143), (1, .ref a1), (2, .int X2), (3, .int X3), (4, .int X4), (5, .int X5)]) (Ps := [.int X4]) (rest := [.int R_105]) hq (z_at.mk 3 rfl rfl) (Or.inl ⟨rfl, rfl⟩) rfl rfl (by decide) (by decide) rfl (Nat.not_lt.mpr (Nat.le_of_ble_eq_true rfl)) rfl rfl (z_cat_le 1 rfl (by decide)) (z_lgl_le 2 rfl (by decide)) (by decide) (H_105.tg rfl) (by omega) (g_m_orderOf_ok hx4 H_105 h_111) rfl rfl ?_
      intro R_111 m_111 p_111 e_111 hR_111 H_111
      subst e_111
      rcases z_ite h with ⟨c_114, h⟩ | ⟨c_114, h⟩
      · refine r_t2 (pc' := 139) (L' := [(0, .ref 143), (1, .ref a1), (2, .int X2), (3, .int X3), (4, .int X4), (5, .int X5)]) hq (z_at.mk 3 rfl rfl) rfl hR_105 hR_111 c_114 rfl rfl ?_
        exact g_m_gathers_L139_ok ha1 hg8 hx2 hx3 hx4 hx5 H_111 h
      · refine r_f2 (pc' := 117) (L' := [(0, .ref 143), (1, .ref a1), (2, .int X2), (3, .int X3), (4, .int X4), (5, .int X5)]) hq (z_at.mk 3 rfl rfl) rfl hR_105 hR_111 c_114 rfl rfl ?_
        refine r_p hq 1 (pc' := 118) (L' := [(0, .ref 143), (1, .ref a1), (2, .int X2), (3, .int X3), (4, .int X4), (5, .int X5)]) (st' := [.ref 143]) rfl ?_
        refine r_gR (b := 154) (pc' := 121) (L' := [(0, .ref 143), (1, .ref a1), (2, .int X2), (3, .int X3), (4, .int X4), (5, .int X5)]) H_111 hq (z_at.mk 3 rfl rfl) rfl rfl rfl rfl ?_
        refine r_p hq 2 (pc' := 124) (L' := [(0, .ref 143), (1, .ref a1), (2, .int X2), (3, .int X3), (4, .int X4), (5, .int X5)]) (st' := [.ref 143, .int X5, .ref 154]) rfl ?_
        refine r_gR (b := 154) (pc' := 127) (L' := [(0, .ref 143), (1, .ref a1), (2, .int X2), (3, .int X3), (4, .int X4), (5, .int X5)]) H_111 hq (z_at.mk 3 rfl rfl) rfl rfl rfl rfl ?_
        refine r_p hq 3 (pc' := 131) (L' := [(0, .ref 143), (1, .ref a1), (2, .int X2), (3, .int X3), (4, .int X4), (5, .int X5)]) (st' := [.int (X5 - ((1 : Int32))), .ref 154, .int X5, .ref 154]) rfl ?_
        obtain ⟨g_131, h⟩ := z_ifo_some h
        refine r_ia (pc' := 132) (L' := [(0, .ref 143), (1, .ref a1), (2, .int X2), (3, .int X3), (4, .int X4), (5, .int X5)]) H_111 hq (z_at.mk 1 rfl rfl) (show zAr 154 0 60 = true from rfl) (tx_isub hx5 (rfl : (1 : Int32).toInt = 1)) g_131 rfl rfl ?_
        intro V_131 hV_131
        obtain ⟨g_132, h⟩ := z_ifo_some h
        refine r_is (pc' := 133) (L' := [(0, .ref 143), (1, .ref a1), (2, .int X2), (3, .int X3), (4, .int X4), (5, .int X5)]) H_111 hq (z_at.mk 1 rfl rfl) (show zAr 154 0 60 = true from rfl) hx5 g_132 hV_131 rfl rfl ?_
        intro m_132 H_132
        refine r_p hq 2 (pc' := 90) (L' := [(0, .ref 143), (1, .ref a1), (2, .int X2), (3, .int X3), (4, .int X4), (5, .int (X5 + (-1 : Int32)))]) (st' := []) rfl ?_
        exact ih hx2 hx3 hx4 (tx_iaddn hx5 (rfl : (-1 : Int32).toInt = -1)) H_132 h
def g_m_gathers_L84 (a1 : Nat) (g8 : Int → Int → Int → zS → Option (Unit × zS)) (x2 : Int) (x3 : Int) (x4 : Int) (σ : zS) : Option (Unit × zS) :=
  let v_85 := σ 143 14
  g_m_gathers_L90 a1 g8 zK x2 x3 x4 v_85 σ
set_option maxHeartbeats 4000000 in
theorem g_m_gathers_L84_ok {xl : Nat} {xs : Nat → Int32} {a1 : Nat} (ha1 : zIn [144, 150, 151, 152, 153, 156, 157, 161, 164, 165] a1 = true) {g8 : Int → Int → Int → zS → Option (Unit × zS)} (hg8 : ∀ {X2 : Int32} {x2 : Int} {X3 : Int32} {x3 : Int} {X4 : Int32} {x4 : Int} {σ : zS} {p : Nat} {m : zM} {o : Unit × zS}, X2.toInt = x2 → X3.toInt = x3 → X4.toInt = x4 → zRep xl xs p m σ → g8 x2 x3 x4 σ = some o → zGo xl xs (fun p' => p = p') 505 191 8 [(0, .ref 143), (1, .ref a1), (2, .int X2), (3, .int X3), (4, .int X4)] [] m vV o.2) {X2 : Int32} {x2 : Int} (hx2 : X2.toInt = x2) {X3 : Int32} {x3 : Int} (hx3 : X3.toInt = x3) {X4 : Int32} {x4 : Int} (hx4 : X4.toInt = x4) {σ : zS} {p : Nat} {m : zM} {o : Unit × zS} (H : zRep xl xs p m σ) (h : g_m_gathers_L84 a1 g8 x2 x3 x4 σ = some o) : zGo xl xs (fun p' => p = p') 505 191 84 [(0, .ref 143), (1, .ref a1), (2, .int X2), (3, .int X3), (4, .int X4)] [] m vV o.2 := by
  have hq : z_mth 191 = some z_r191 := rfl
  unfold g_m_gathers_L84 at h
  refine r_p hq 1 (pc' := 85) (L' := [(0, .ref 143), (1, .ref a1), (2, .int X2), (3, .int X3), (4, .int X4)]) (st' := [.ref 143]) rfl ?_
  refine r_gI (pc' := 88) (L' := [(0, .ref 143), (1, .ref a1), (2, .int X2), (3, .int X3), (4, .int X4)]) H hq (z_at.mk 3 rfl rfl) rfl rfl rfl rfl ?_
  intro V_85 hV_85
  refine r_p hq 1 (pc' := 90) (L' := [(0, .ref 143), (1, .ref a1), (2, .int X2), (3, .int X3), (4, .int X4), (5, .int V_85)]) (st' := []) rfl ?_
  exact g_m_gathers_L90_ok ha1 hg8 zK hx2 hx3 hx4 hV_85 H h
def g_m_gathers_L167 (a1 : Nat) : Nat → Int → zS → Option (Unit × zS)
  | 0, _, _ => none
  | n + 1, x4, σ =>
    let v_170 := σ 143 14
    if v_170 ≤ x4 then
      some ((), σ)
    else
      if 0 ≤ x4 ∧ x4 < 60 then
      let v_193 := σ 154 x4
      if 0 ≤ w32 (1 + v_193) ∧ w32 (1 + v_193) < 361 then
      let v_195 := σ 147 (w32 (1 + v_193))
      if 0 ≤ x4 ∧ x4 < 60 then
      let s_196 := zu σ 155 x4 v_195
      (g_m_gathers_L167 a1 n) (w32 (x4 + 1)) s_196
      else none
      else none
      else none
set_option maxHeartbeats 4000000 in
theorem g_m_gathers_L167_ok {xl : Nat} {xs : Nat → Int32} {a1 : Nat} (ha1 : zIn [144, 150, 151, 152, 153, 156, 157, 161, 164, 165] a1 = true) : ∀ (n : Nat) {X4 : Int32} {x4 : Int} {σ : zS} {p : Nat} {m : zM} {o : Unit × zS}, X4.toInt = x4 → zRep xl xs p m σ → g_m_gathers_L167 a1 n x4 σ = some o → zGo xl xs (fun p' => p = p') 505 191 167 [(0, .ref 143), (4, .int X4)] [] m vV o.2
  | 0, _, _, _, _, _, _, _, _, h => by cases h
  | n + 1, X4, x4, σ, p, m, o, hx4, H, h => by
    have hq : z_mth 191 = some z_r191 := rfl
    have ih := fun {X4 : Int32} {x4 : Int} {σ : zS} {p : Nat} {m : zM} {o : Unit × zS} => g_m_gathers_L167_ok (xl := xl) (xs := xs) ha1 n (X4 := X4) (x4 := x4) (σ := σ) (p := p) (m := m) (o := o)
    unfold g_m_gathers_L167 at h
    refine r_p hq 2 (pc' := 170) (L' := [(0, .ref 143), (4, .int X4)]) (st' := [.ref 143, .int X4]) rfl ?_
    refine r_gI (pc' := 173) (L' := [(0, .ref 143), (4, .int X4)]) H hq (z_at.mk 3 rfl rfl) rfl rfl rfl rfl ?_
    intro V_170 hV_170
    rcases z_ite h with ⟨c_173, h⟩ | ⟨c_173, h⟩
    · refine r_t2 (pc' := 203) (L' := [(0, .ref 143), (4, .int X4)]) hq (z_at.mk 3 rfl rfl) rfl hx4 hV_170 c_173 rfl rfl ?_
      cases h
      exact r_rv hq (z_at.mk 1 rfl rfl) rfl rfl H
    · refine r_f2 (pc' := 176) (L' := [(0, .ref 143), (4, .int X4)]) hq (z_at.mk 3 rfl rfl) rfl hx4 hV_170 c_173 rfl rfl ?_
      refine r_p hq 1 (pc' := 177) (L' := [(0, .ref 143), (4, .int X4)]) (st' := [.ref 143]) rfl ?_
      refine r_gR (b := 155) (pc' := 180) (L' := [(0, .ref 143), (4, .int X4)]) H hq (z_at.mk 3 rfl rfl) rfl rfl rfl rfl ?_
      refine r_p hq 2 (pc' := 183) (L' := [(0, .ref 143), (4, .int X4)]) (st' := [.ref 143, .int X4, .ref 155]) rfl ?_
      refine r_gR (b := 147) (pc' := 186) (L' := [(0, .ref 143), (4, .int X4)]) H hq (z_at.mk 3 rfl rfl) rfl rfl rfl rfl ?_
      refine r_p hq 2 (pc' := 188) (L' := [(0, .ref 143), (4, .int X4)]) (st' := [.ref 143, .int ((1 : Int32)), .ref 147, .int X4, .ref 155]) rfl ?_
      refine r_gR (b := 154) (pc' := 191) (L' := [(0, .ref 143), (4, .int X4)]) H hq (z_at.mk 3 rfl rfl) rfl rfl rfl rfl ?_
      refine r_p hq 1 (pc' := 193) (L' := [(0, .ref 143), (4, .int X4)]) (st' := [.int X4, .ref 154, .int ((1 : Int32)), .ref 147, .int X4, .ref 155]) rfl ?_
      obtain ⟨g_193, h⟩ := z_ifo_some h
      refine r_ia (pc' := 194) (L' := [(0, .ref 143), (4, .int X4)]) H hq (z_at.mk 1 rfl rfl) (show zAr 154 0 60 = true from rfl) hx4 g_193 rfl rfl ?_
      intro V_193 hV_193
      refine r_p hq 1 (pc' := 195) (L' := [(0, .ref 143), (4, .int X4)]) (st' := [.int (((1 : Int32)) + V_193), .ref 147, .int X4, .ref 155]) rfl ?_
      obtain ⟨g_195, h⟩ := z_ifo_some h
      refine r_la (pc' := 196) (L' := [(0, .ref 143), (4, .int X4)]) H hq (z_at.mk 1 rfl rfl) (show zAr 147 1 361 = true from rfl) (tx_iadd (rfl : (1 : Int32).toInt = 1) hV_193) g_195 rfl rfl ?_
      intro V_195 hV_195
      obtain ⟨g_196, h⟩ := z_ifo_some h
      refine r_ls (pc' := 197) (L' := [(0, .ref 143), (4, .int X4)]) H hq (z_at.mk 1 rfl rfl) (show zAr 155 1 60 = true from rfl) hx4 g_196 hV_195 rfl rfl ?_
      intro m_196 H_196
      refine r_p hq 2 (pc' := 167) (L' := [(0, .ref 143), (4, .int (X4 + (1 : Int32)))]) (st' := []) rfl ?_
      exact ih (tx_iadd hx4 (rfl : (1 : Int32).toInt = 1)) H_196 h
def g_m_gathers_L8 (a1 : Nat) : Nat → Int → Int → Int → zS → Option (Unit × zS)
  | 0, _, _, _, _ => none
  | n + 1, x2, x3, x4, σ =>
    if 60 ≤ x4 then
      g_m_gathers_L167 a1 zK 0 σ
    else
      (g_m_rowAt x4 σ).bind fun o_21 =>
      if 0 ≤ o_21.1 ∧ o_21.1 < 2740 then
      let v_24 := o_21.2 144 o_21.1
      if v_24 = 0 then
        g_m_gathers_L158 a1 ((g_m_gathers_L8 a1 n)) x2 x3 x4 o_21.2
      else
        (g_m_rowAt x4 o_21.2).bind fun o_36 =>
        if 0 ≤ w32 (o_36.1 + 1) ∧ w32 (o_36.1 + 1) < 2740 then
        let v_41 := o_36.2 144 (w32 (o_36.1 + 1))
        (g_m_rowAt x4 o_36.2).bind fun o_48 =>
        if 0 ≤ w32 (o_48.1 + 2) ∧ w32 (o_48.1 + 2) < 2740 then
        let v_53 := o_48.2 144 (w32 (o_48.1 + 2))
        (g_m_has a1 x2 v_41 v_53 o_48.2).bind fun o_54 =>
        if o_54.1 ≠ 0 then
          let s_65 := zu o_54.2 143 21 x3
          if x3 < 0 then
            g_m_gathers_L84 a1 ((g_m_gathers_L8 a1 n)) x2 x3 x4 s_65
          else
            (g_grp231 zR 231 x4 s_65).bind fun o_75 =>
            if o_75.1 ≠ 0 then
              g_m_gathers_L84 a1 ((g_m_gathers_L8 a1 n)) x2 x3 x4 o_75.2
            else
              g_m_gathers_L158 a1 ((g_m_gathers_L8 a1 n)) x2 x3 x4 o_75.2
        else
          g_m_gathers_L158 a1 ((g_m_gathers_L8 a1 n)) x2 x3 x4 o_54.2
        else none
        else none
      else none
set_option maxHeartbeats 4000000 in
theorem g_m_gathers_L8_ok {xl : Nat} {xs : Nat → Int32} {a1 : Nat} (ha1 : zIn [144, 150, 151, 152, 153, 156, 157, 161, 164, 165] a1 = true) : ∀ (n : Nat) {X2 : Int32} {x2 : Int} {X3 : Int32} {x3 : Int} {X4 : Int32} {x4 : Int} {σ : zS} {p : Nat} {m : zM} {o : Unit × zS}, X2.toInt = x2 → X3.toInt = x3 → X4.toInt = x4 → zRep xl xs p m σ → g_m_gathers_L8 a1 n x2 x3 x4 σ = some o → zGo xl xs (fun p' => p = p') 505 191 8 [(0, .ref 143), (1, .ref a1), (2, .int X2), (3, .int X3), (4, .int X4)] [] m vV o.2
  | 0, _, _, _, _, _, _, _, _, _, _, _, _, _, _, h => by cases h
  | n + 1, X2, x2, X3, x3, X4, x4, σ, p, m, o, hx2, hx3, hx4, H, h => by
    have hq : z_mth 191 = some z_r191 := rfl
    have ih := fun {X2 : Int32} {x2 : Int} {X3 : Int32} {x3 : Int} {X4 : Int32} {x4 : Int} {σ : zS} {p : Nat} {m : zM} {o : Unit × zS} => g_m_gathers_L8_ok (xl := xl) (xs := xs) ha1 n (X2 := X2) (x2 := x2) (X3 := X3) (x3 := x3) (X4 := X4) (x4 := x4) (σ := σ) (p := p) (m := m) (o := o)
    unfold g_m_gathers_L8 at h
    refine r_p hq 2 (pc' := 12) (L' := [(0, .ref 143), (1, .ref a1), (2, .int X2), (3, .int X3), (4, .int X4)]) (st' := [.int ((60 : Int32)), .int X4]) rfl ?_
    rcases z_ite h with ⟨c_12, h⟩ | ⟨c_12, h⟩
    · refine r_t2 (pc' := 164) (L' := [(0, .ref 143), (1, .ref a1), (2, .int X2), (3, .int X3), (4, .int X4)]) hq (z_at.mk 3 rfl rfl) rfl hx4 (rfl : (60 : Int32).toInt = 60) c_12 rfl rfl ?_
      refine r_p hq 2 (pc' := 167) (L' := [(0, .ref 143), (4, .int ((0 : Int32)))]) (st' := []) rfl ?_
      exact g_m_gathers_L167_ok ha1 zK (rfl : (0 : Int32).toInt = 0) H h
    · refine r_f2 (pc' := 15) (L' := [(0, .ref 143), (1, .ref a1), (2, .int X2), (3, .int X3), (4, .int X4)]) hq (z_at.mk 3 rfl rfl) rfl hx4 (rfl : (60 : Int32).toInt = 60) c_12 rfl rfl ?_
      refine r_p hq 1 (pc' := 16) (L' := [(0, .ref 143), (1, .ref a1), (2, .int X2), (3, .int X3), (4, .int X4)]) (st' := [.ref 143]) rfl ?_
      refine r_gR (b := 144) (pc' := 19) (L' := [(0, .ref 143), (1, .ref a1), (2, .int X2), (3, .int X3), (4, .int X4)]) H hq (z_at.mk 3 rfl rfl) rfl rfl rfl rfl ?_
      refine r_p hq 1 (pc' := 21) (L' := [(0, .ref 143), (1, .ref a1), (2, .int X2), (3, .int X3), (4, .int X4)]) (st' := [.int X4, .ref 144]) rfl ?_
      obtain ⟨o_21, h_21, h⟩ := Option.bind_eq_some_iff.mp h
      refine r_csI (pc' := 24) (L' := [(0, .ref 143), (1, .ref a1), (2, .int X2), (3, .int X3), (4, .int X4)]) (As := [.int X4]) (rest := [.ref 144]) (j := 174) hq (z_at.mk 3 rfl rfl) (Or.inl ⟨rfl, rfl⟩) rfl rfl (by omega) (g_m_rowAt_ok hx4 H h_21) rfl rfl ?_
      intro R_21 m_21 p_21 e_21 hR_21 H_21
      subst e_21
      obtain ⟨g_24, h⟩ := z_ifo_some h
      refine r_ia (pc' := 25) (L' := [(0, .ref 143), (1, .ref a1), (2, .int X2), (3, .int X3), (4, .int X4)]) H_21 hq (z_at.mk 1 rfl rfl) (show zAr 144 0 2740 = true from rfl) hR_21 g_24 rfl rfl ?_
      intro V_24 hV_24
      rcases z_ite h with ⟨c_25, h⟩ | ⟨c_25, h⟩
      · refine r_t1 (pc' := 158) (L' := [(0, .ref 143), (1, .ref a1), (2, .int X2), (3, .int X3), (4, .int X4)]) hq (z_at.mk 3 rfl rfl) rfl hV_24 c_25 rfl rfl ?_
        exact g_m_gathers_L158_ok ha1 ih hx2 hx3 hx4 H_21 h
      · refine r_f1 (pc' := 28) (L' := [(0, .ref 143), (1, .ref a1), (2, .int X2), (3, .int X3), (4, .int X4)]) hq (z_at.mk 3 rfl rfl) rfl hV_24 c_25 rfl rfl ?_
        refine r_p hq 3 (pc' := 31) (L' := [(0, .ref 143), (1, .ref a1), (2, .int X2), (3, .int X3), (4, .int X4)]) (st' := [.ref 143, .int X2, .ref a1]) rfl ?_
        refine r_gR (b := 144) (pc' := 34) (L' := [(0, .ref 143), (1, .ref a1), (2, .int X2), (3, .int X3), (4, .int X4)]) H_21 hq (z_at.mk 3 rfl rfl) rfl rfl rfl rfl ?_
        refine r_p hq 1 (pc' := 36) (L' := [(0, .ref 143), (1, .ref a1), (2, .int X2), (3, .int X3), (4, .int X4)]) (st' := [.int X4, .ref 144, .int X2, .ref a1]) rfl ?_
        obtain ⟨o_36, h_36, h⟩ := Option.bind_eq_some_iff.mp h
        refine r_csI (pc' := 39) (L' := [(0, .ref 143), (1, .ref a1), (2, .int X2), (3, .int X3), (4, .int X4)]) (As := [.int X4]) (rest := [.ref 144, .int X2, .ref a1]) (j := 174) hq (z_at.mk 3 rfl rfl) (Or.inl ⟨rfl, rfl⟩) rfl rfl (by omega) (g_m_rowAt_ok hx4 H_21 h_36) rfl rfl ?_
        intro R_36 m_36 p_36 e_36 hR_36 H_36
        subst e_36
        refine r_p hq 2 (pc' := 41) (L' := [(0, .ref 143), (1, .ref a1), (2, .int X2), (3, .int X3), (4, .int X4)]) (st' := [.int (R_36 + ((1 : Int32))), .ref 144, .int X2, .ref a1]) rfl ?_
        obtain ⟨g_41, h⟩ := z_ifo_some h
        refine r_ia (pc' := 42) (L' := [(0, .ref 143), (1, .ref a1), (2, .int X2), (3, .int X3), (4, .int X4)]) H_36 hq (z_at.mk 1 rfl rfl) (show zAr 144 0 2740 = true from rfl) (tx_iadd hR_36 (rfl : (1 : Int32).toInt = 1)) g_41 rfl rfl ?_
        intro V_41 hV_41
        refine r_p hq 1 (pc' := 43) (L' := [(0, .ref 143), (1, .ref a1), (2, .int X2), (3, .int X3), (4, .int X4)]) (st' := [.ref 143, .int V_41, .int X2, .ref a1]) rfl ?_
        refine r_gR (b := 144) (pc' := 46) (L' := [(0, .ref 143), (1, .ref a1), (2, .int X2), (3, .int X3), (4, .int X4)]) H_36 hq (z_at.mk 3 rfl rfl) rfl rfl rfl rfl ?_
        refine r_p hq 1 (pc' := 48) (L' := [(0, .ref 143), (1, .ref a1), (2, .int X2), (3, .int X3), (4, .int X4)]) (st' := [.int X4, .ref 144, .int V_41, .int X2, .ref a1]) rfl ?_
        obtain ⟨o_48, h_48, h⟩ := Option.bind_eq_some_iff.mp h
        refine r_csI (pc' := 51) (L' := [(0, .ref 143), (1, .ref a1), (2, .int X2), (3, .int X3), (4, .int X4)]) (As := [.int X4]) (rest := [.ref 144, .int V_41, .int X2, .ref a1]) (j := 174) hq (z_at.mk 3 rfl rfl) (Or.inl ⟨rfl, rfl⟩) rfl rfl (by omega) (g_m_rowAt_ok hx4 H_36 h_48) rfl rfl ?_
        intro R_48 m_48 p_48 e_48 hR_48 H_48
        subst e_48
        refine r_p hq 2 (pc' := 53) (L' := [(0, .ref 143), (1, .ref a1), (2, .int X2), (3, .int X3), (4, .int X4)]) (st' := [.int (R_48 + ((2 : Int32))), .ref 144, .int V_41, .int X2, .ref a1]) rfl ?_
        obtain ⟨g_53, h⟩ := z_ifo_some h
        refine r_ia (pc' := 54) (L' := [(0, .ref 143), (1, .ref a1), (2, .int X2), (3, .int X3), (4, .int X4)]) H_48 hq (z_at.mk 1 rfl rfl) (show zAr 144 0 2740 = true from rfl) (tx_iadd hR_48 (rfl : (2 : Int32).toInt = 2)) g_53 rfl rfl ?_
        intro V_53 hV_53
        obtain ⟨o_54, h_54, h⟩ := Option.bind_eq_some_iff.mp h
        refine r_csI (pc' := 57) (L' := [(0, .ref 143), (1, .ref a1), (2, .int X2), (3, .int X3), (4, .int X4)]) (As := [.ref a1, .int X2, .int V_41, .int V_53]) (rest := []) (j := 168) hq (z_at.mk 3 rfl rfl) (Or.inl ⟨rfl, rfl⟩) rfl rfl (by omega) (g_m_has_ok (zIn_all (l := [144, 150, 151, 152, 153, 156, 157, 161, 164, 165]) (p := fun a => zIn [144, 150, 151, 152, 153, 156, 157, 161, 164, 165] a) rfl ha1) hx2 hV_41 hV_53 H_48 h_54) rfl rfl ?_
        intro R_54 m_54 p_54 e_54 hR_54 H_54
        subst e_54
        rcases z_ite h with ⟨c_57, h⟩ | ⟨c_57, h⟩
        · refine r_t1 (pc' := 63) (L' := [(0, .ref 143), (1, .ref a1), (2, .int X2), (3, .int X3), (4, .int X4)]) hq (z_at.mk 3 rfl rfl) rfl hR_54 c_57 rfl rfl ?_
          refine r_p hq 2 (pc' := 65) (L' := [(0, .ref 143), (1, .ref a1), (2, .int X2), (3, .int X3), (4, .int X4)]) (st' := [.int X3, .ref 143]) rfl ?_
          refine r_pI (X := X3) (pc' := 68) (L' := [(0, .ref 143), (1, .ref a1), (2, .int X2), (3, .int X3), (4, .int X4)]) H_54 hq (z_at.mk 3 rfl rfl) rfl rfl hx3 (by decide) rfl rfl rfl rfl ?_
          intro m_65 H_65
          refine r_p hq 1 (pc' := 69) (L' := [(0, .ref 143), (1, .ref a1), (2, .int X2), (3, .int X3), (4, .int X4)]) (st' := [.int X3]) rfl ?_
          rcases z_ite h with ⟨c_69, h⟩ | ⟨c_69, h⟩
          · refine r_t1 (pc' := 84) (L' := [(0, .ref 143), (1, .ref a1), (2, .int X2), (3, .int X3), (4, .int X4)]) hq (z_at.mk 3 rfl rfl) rfl hx3 c_69 rfl rfl ?_
            exact g_m_gathers_L84_ok ha1 ih hx2 hx3 hx4 H_65 h
          · refine r_f1 (pc' := 72) (L' := [(0, .ref 143), (1, .ref a1), (2, .int X2), (3, .int X3), (4, .int X4)]) hq (z_at.mk 3 rfl rfl) rfl hx3 c_69 rfl rfl ?_
            refine r_p hq 2 (pc' := 75) (L' := [(0, .ref 143), (1, .ref a1), (2, .int X2), (3, .int X3), (4, .int X4)]) (st' := [.int X4, .ref 143]) rfl ?_
            obtain ⟨o_75, h_75, h⟩ := Option.bind_eq_some_iff.mp h
            refine r_cvI (pc' := 78) (L' := [(0, .ref 143), (1, .ref a1), (2, .int X2), (3, .int X3), (4, .int X4)]) (Ps := [.int X4]) (rest := []) hq (z_at.mk 3 rfl rfl) (Or.inl ⟨rfl, rfl⟩) rfl rfl (by decide) (by decide) rfl (Nat.not_lt.mpr (Nat.le_of_ble_eq_true rfl)) rfl rfl (z_cat_le 0 rfl (by decide)) (z_lgl_le 2 rfl (by decide)) (by decide) (H_65.tg rfl) (by show 4 + zR + 1 ≤ _; unfold zR; omega) (g_grp231_ok zR 231 (by simp) hx4 H_65 h_75) rfl rfl ?_
            intro R_75 m_75 p_75 e_75 hR_75 H_75
            subst e_75
            rcases z_ite h with ⟨c_78, h⟩ | ⟨c_78, h⟩
            · refine r_t1 (pc' := 84) (L' := [(0, .ref 143), (1, .ref a1), (2, .int X2), (3, .int X3), (4, .int X4)]) hq (z_at.mk 3 rfl rfl) rfl hR_75 c_78 rfl rfl ?_
              exact g_m_gathers_L84_ok ha1 ih hx2 hx3 hx4 H_75 h
            · refine r_f1 (pc' := 81) (L' := [(0, .ref 143), (1, .ref a1), (2, .int X2), (3, .int X3), (4, .int X4)]) hq (z_at.mk 3 rfl rfl) rfl hR_75 c_78 rfl rfl ?_
              refine r_p hq 1 (pc' := 158) (L' := [(0, .ref 143), (1, .ref a1), (2, .int X2), (3, .int X3), (4, .int X4)]) (st' := []) rfl ?_
              exact g_m_gathers_L158_ok ha1 ih hx2 hx3 hx4 H_75 h
        · refine r_f1 (pc' := 60) (L' := [(0, .ref 143), (1, .ref a1), (2, .int X2), (3, .int X3), (4, .int X4)]) hq (z_at.mk 3 rfl rfl) rfl hR_54 c_57 rfl rfl ?_
          refine r_p hq 1 (pc' := 158) (L' := [(0, .ref 143), (1, .ref a1), (2, .int X2), (3, .int X3), (4, .int X4)]) (st' := []) rfl ?_
          exact g_m_gathers_L158_ok ha1 ih hx2 hx3 hx4 H_54 h
def g_m_gathers (a1 : Nat) (x2 : Int) (x3 : Int) (σ : zS) : Option (Unit × zS) :=
  let s_2 := zu σ 143 14 0
  g_m_gathers_L8 a1 zK x2 x3 0 s_2
set_option maxHeartbeats 4000000 in
theorem g_m_gathers_ok {xl : Nat} {xs : Nat → Int32} {a1 : Nat} (ha1 : zIn [144, 150, 151, 152, 153, 156, 157, 161, 164, 165] a1 = true) {X2 : Int32} {x2 : Int} (hx2 : X2.toInt = x2) {X3 : Int32} {x3 : Int} (hx3 : X3.toInt = x3) {σ : zS} {p : Nat} {m : zM} {o : Unit × zS} (H : zRep xl xs p m σ) (h : g_m_gathers a1 x2 x3 σ = some o) : zGo xl xs (fun p' => p = p') 505 191 0 (z_can 191 0 (lv_args 0 [.ref 143, .ref a1, .int X2, .int X3])) [] m vV o.2 := by
  have hq : z_mth 191 = some z_r191 := rfl
  unfold g_m_gathers at h
  show zGo xl xs (fun p' => p = p') 505 191 0 [(0, .ref 143), (1, .ref a1), (2, .int X2), (3, .int X3)] [] m vV o.2
  refine r_p hq 2 (pc' := 2) (L' := [(0, .ref 143), (1, .ref a1), (2, .int X2), (3, .int X3)]) (st' := [.int ((0 : Int32)), .ref 143]) rfl ?_
  refine r_pI (X := (0 : Int32)) (pc' := 5) (L' := [(0, .ref 143), (1, .ref a1), (2, .int X2), (3, .int X3)]) H hq (z_at.mk 3 rfl rfl) rfl rfl (rfl : (0 : Int32).toInt = 0) (by decide) rfl rfl rfl rfl ?_
  intro m_2 H_2
  refine r_p hq 2 (pc' := 8) (L' := [(0, .ref 143), (1, .ref a1), (2, .int X2), (3, .int X3), (4, .int ((0 : Int32)))]) (st' := []) rfl ?_
  exact g_m_gathers_L8_ok ha1 zK hx2 hx3 (rfl : (0 : Int32).toInt = 0) H_2 h
def g_m_leastOf_L38 (g9 : Int → Int → zS → Option (Int × zS)) (x3 : Int) (ys0 : Int) (σ : zS) : Option (Int × zS) :=
  g9 ys0 (w32 (x3 + 1)) σ
set_option maxHeartbeats 4000000 in
theorem g_m_leastOf_L38_ok {xl : Nat} {xs : Nat → Int32} {g9 : Int → Int → zS → Option (Int × zS)} (hg9 : ∀ {Y1 : Int64} {y1 : Int} {X3 : Int32} {x3 : Int} {σ : zS} {p : Nat} {m : zM} {o : Int × zS}, Y1.toInt = y1 → X3.toInt = x3 → zRep xl xs p m σ → g9 y1 x3 σ = some o → zGo xl xs (fun p' => p = p') 1 192 9 [(0, .ref 143), (1, .long Y1), (3, .int X3)] [] m (vL o.1) o.2) {X3 : Int32} {x3 : Int} (hx3 : X3.toInt = x3) {Ys0 : Int64} {ys0 : Int} (hys0 : Ys0.toInt = ys0) {σ : zS} {p : Nat} {m : zM} {o : Int × zS} (H : zRep xl xs p m σ) (h : g_m_leastOf_L38 g9 x3 ys0 σ = some o) : zGo xl xs (fun p' => p = p') 1 192 38 [(0, .ref 143), (3, .int X3)] [.long Ys0] m (vL o.1) o.2 := by
  have hq : z_mth 192 = some z_r192 := rfl
  unfold g_m_leastOf_L38 at h
  refine r_p hq 3 (pc' := 9) (L' := [(0, .ref 143), (1, .long Ys0), (3, .int (X3 + (1 : Int32)))]) (st' := []) rfl ?_
  exact hg9 hys0 (tx_iadd hx3 (rfl : (1 : Int32).toInt = 1)) H h
def g_m_leastOf_L9 : Nat → Int → Int → zS → Option (Int × zS)
  | 0, _, _, _ => none
  | n + 1, y1, x3, σ =>
    let v_11 := σ 143 14
    if v_11 ≤ x3 then
      some (y1, σ)
    else
      if 0 ≤ x3 ∧ x3 < 60 then
      let v_22 := σ 155 x3
      if 0 ≤ lCmp v_22 y1 then
        g_m_leastOf_L38 ((g_m_leastOf_L9 n)) x3 y1 σ
      else
        if 0 ≤ x3 ∧ x3 < 60 then
        let v_33 := σ 155 x3
        g_m_leastOf_L38 ((g_m_leastOf_L9 n)) x3 v_33 σ
        else none
      else none
set_option maxHeartbeats 4000000 in
theorem g_m_leastOf_L9_ok {xl : Nat} {xs : Nat → Int32} : ∀ (n : Nat) {Y1 : Int64} {y1 : Int} {X3 : Int32} {x3 : Int} {σ : zS} {p : Nat} {m : zM} {o : Int × zS}, Y1.toInt = y1 → X3.toInt = x3 → zRep xl xs p m σ → g_m_leastOf_L9 n y1 x3 σ = some o → zGo xl xs (fun p' => p = p') 1 192 9 [(0, .ref 143), (1, .long Y1), (3, .int X3)] [] m (vL o.1) o.2
  | 0, _, _, _, _, _, _, _, _, _, _, _, h => by cases h
  | n + 1, Y1, y1, X3, x3, σ, p, m, o, hy1, hx3, H, h => by
    have hq : z_mth 192 = some z_r192 := rfl
    have ih := fun {Y1 : Int64} {y1 : Int} {X3 : Int32} {x3 : Int} {σ : zS} {p : Nat} {m : zM} {o : Int × zS} => g_m_leastOf_L9_ok (xl := xl) (xs := xs) n (Y1 := Y1) (y1 := y1) (X3 := X3) (x3 := x3) (σ := σ) (p := p) (m := m) (o := o)
    unfold g_m_leastOf_L9 at h
    refine r_p hq 2 (pc' := 11) (L' := [(0, .ref 143), (1, .long Y1), (3, .int X3)]) (st' := [.ref 143, .int X3]) rfl ?_
    refine r_gI (pc' := 14) (L' := [(0, .ref 143), (1, .long Y1), (3, .int X3)]) H hq (z_at.mk 3 rfl rfl) rfl rfl rfl rfl ?_
    intro V_11 hV_11
    rcases z_ite h with ⟨c_14, h⟩ | ⟨c_14, h⟩
    · refine r_t2 (pc' := 45) (L' := [(0, .ref 143), (1, .long Y1), (3, .int X3)]) hq (z_at.mk 3 rfl rfl) rfl hx3 hV_11 c_14 rfl rfl ?_
      refine r_p hq 1 (pc' := 46) (L' := [(0, .ref 143), (1, .long Y1), (3, .int X3)]) (st' := [.long Y1]) rfl ?_
      cases h
      exact r_rl hq (z_at.mk 1 rfl rfl) rfl hy1 rfl H
    · refine r_f2 (pc' := 17) (L' := [(0, .ref 143), (1, .long Y1), (3, .int X3)]) hq (z_at.mk 3 rfl rfl) rfl hx3 hV_11 c_14 rfl rfl ?_
      refine r_p hq 1 (pc' := 18) (L' := [(0, .ref 143), (1, .long Y1), (3, .int X3)]) (st' := [.ref 143]) rfl ?_
      refine r_gR (b := 155) (pc' := 21) (L' := [(0, .ref 143), (1, .long Y1), (3, .int X3)]) H hq (z_at.mk 3 rfl rfl) rfl rfl rfl rfl ?_
      refine r_p hq 1 (pc' := 22) (L' := [(0, .ref 143), (1, .long Y1), (3, .int X3)]) (st' := [.int X3, .ref 155]) rfl ?_
      obtain ⟨g_22, h⟩ := z_ifo_some h
      refine r_la (pc' := 23) (L' := [(0, .ref 143), (1, .long Y1), (3, .int X3)]) H hq (z_at.mk 1 rfl rfl) (show zAr 155 1 60 = true from rfl) hx3 g_22 rfl rfl ?_
      intro V_22 hV_22
      refine r_p hq 2 (pc' := 25) (L' := [(0, .ref 143), (1, .long Y1), (3, .int X3)]) (st' := [.int (lg_cmp V_22 Y1)]) rfl ?_
      rcases z_ite h with ⟨c_25, h⟩ | ⟨c_25, h⟩
      · refine r_t1 (pc' := 37) (L' := [(0, .ref 143), (1, .long Y1), (3, .int X3)]) hq (z_at.mk 3 rfl rfl) rfl (tx_lcmp hV_22 hy1) c_25 rfl rfl ?_
        refine r_p hq 1 (pc' := 38) (L' := [(0, .ref 143), (3, .int X3)]) (st' := [.long Y1]) rfl ?_
        exact g_m_leastOf_L38_ok ih hx3 hy1 H h
      · refine r_f1 (pc' := 28) (L' := [(0, .ref 143), (1, .long Y1), (3, .int X3)]) hq (z_at.mk 3 rfl rfl) rfl (tx_lcmp hV_22 hy1) c_25 rfl rfl ?_
        refine r_p hq 1 (pc' := 29) (L' := [(0, .ref 143), (1, .long Y1), (3, .int X3)]) (st' := [.ref 143]) rfl ?_
        refine r_gR (b := 155) (pc' := 32) (L' := [(0, .ref 143), (1, .long Y1), (3, .int X3)]) H hq (z_at.mk 3 rfl rfl) rfl rfl rfl rfl ?_
        refine r_p hq 1 (pc' := 33) (L' := [(0, .ref 143), (1, .long Y1), (3, .int X3)]) (st' := [.int X3, .ref 155]) rfl ?_
        obtain ⟨g_33, h⟩ := z_ifo_some h
        refine r_la (pc' := 34) (L' := [(0, .ref 143), (1, .long Y1), (3, .int X3)]) H hq (z_at.mk 1 rfl rfl) (show zAr 155 1 60 = true from rfl) hx3 g_33 rfl rfl ?_
        intro V_33 hV_33
        refine r_p hq 1 (pc' := 38) (L' := [(0, .ref 143), (3, .int X3)]) (st' := [.long V_33]) rfl ?_
        exact g_m_leastOf_L38_ok ih hx3 hV_33 H h
def g_m_leastOf (σ : zS) : Option (Int × zS) :=
  let v_5 := σ 155 0
  g_m_leastOf_L9 zK v_5 1 σ
set_option maxHeartbeats 4000000 in
theorem g_m_leastOf_ok {xl : Nat} {xs : Nat → Int32} {σ : zS} {p : Nat} {m : zM} {o : Int × zS} (H : zRep xl xs p m σ) (h : g_m_leastOf σ = some o) : zGo xl xs (fun p' => p = p') 1 192 0 (z_can 192 0 (lv_args 0 [.ref 143])) [] m (vL o.1) o.2 := by
  have hq : z_mth 192 = some z_r192 := rfl
  unfold g_m_leastOf at h
  show zGo xl xs (fun p' => p = p') 1 192 0 [(0, .ref 143)] [] m (vL o.1) o.2
  refine r_p hq 1 (pc' := 1) (L' := [(0, .ref 143)]) (st' := [.ref 143]) rfl ?_
  refine r_gR (b := 155) (pc' := 4) (L' := [(0, .ref 143)]) H hq (z_at.mk 3 rfl rfl) rfl rfl rfl rfl ?_
  refine r_p hq 1 (pc' := 5) (L' := [(0, .ref 143)]) (st' := [.int ((0 : Int32)), .ref 155]) rfl ?_
  refine r_la (pc' := 6) (L' := [(0, .ref 143)]) H hq (z_at.mk 1 rfl rfl) (show zAr 155 1 60 = true from rfl) (rfl : (0 : Int32).toInt = 0) ⟨by decide, by decide⟩ rfl rfl ?_
  intro V_5 hV_5
  refine r_p hq 3 (pc' := 9) (L' := [(0, .ref 143), (1, .long V_5), (3, .int ((1 : Int32)))]) (st' := []) rfl ?_
  exact g_m_leastOf_L9_ok zK hV_5 (rfl : (1 : Int32).toInt = 1) H h
end
section
/-! 21.g12 -/
/-! THE METHODS over the typed memory, 12 (by wip/zg.py) -/
def g_m_mostOf_L38 (g9 : Int → Int → zS → Option (Int × zS)) (x3 : Int) (ys0 : Int) (σ : zS) : Option (Int × zS) :=
  g9 ys0 (w32 (x3 + 1)) σ
set_option maxHeartbeats 4000000 in
theorem g_m_mostOf_L38_ok {xl : Nat} {xs : Nat → Int32} {g9 : Int → Int → zS → Option (Int × zS)} (hg9 : ∀ {Y1 : Int64} {y1 : Int} {X3 : Int32} {x3 : Int} {σ : zS} {p : Nat} {m : zM} {o : Int × zS}, Y1.toInt = y1 → X3.toInt = x3 → zRep xl xs p m σ → g9 y1 x3 σ = some o → zGo xl xs (fun p' => p = p') 1 193 9 [(0, .ref 143), (1, .long Y1), (3, .int X3)] [] m (vL o.1) o.2) {X3 : Int32} {x3 : Int} (hx3 : X3.toInt = x3) {Ys0 : Int64} {ys0 : Int} (hys0 : Ys0.toInt = ys0) {σ : zS} {p : Nat} {m : zM} {o : Int × zS} (H : zRep xl xs p m σ) (h : g_m_mostOf_L38 g9 x3 ys0 σ = some o) : zGo xl xs (fun p' => p = p') 1 193 38 [(0, .ref 143), (3, .int X3)] [.long Ys0] m (vL o.1) o.2 := by
  have hq : z_mth 193 = some z_r193 := rfl
  unfold g_m_mostOf_L38 at h
  refine r_p hq 3 (pc' := 9) (L' := [(0, .ref 143), (1, .long Ys0), (3, .int (X3 + (1 : Int32)))]) (st' := []) rfl ?_
  exact hg9 hys0 (tx_iadd hx3 (rfl : (1 : Int32).toInt = 1)) H h
def g_m_mostOf_L9 : Nat → Int → Int → zS → Option (Int × zS)
  | 0, _, _, _ => none
  | n + 1, y1, x3, σ =>
    let v_11 := σ 143 14
    if v_11 ≤ x3 then
      some (y1, σ)
    else
      if 0 ≤ x3 ∧ x3 < 60 then
      let v_22 := σ 155 x3
      if lCmp v_22 y1 ≤ 0 then
        g_m_mostOf_L38 ((g_m_mostOf_L9 n)) x3 y1 σ
      else
        if 0 ≤ x3 ∧ x3 < 60 then
        let v_33 := σ 155 x3
        g_m_mostOf_L38 ((g_m_mostOf_L9 n)) x3 v_33 σ
        else none
      else none
set_option maxHeartbeats 4000000 in
theorem g_m_mostOf_L9_ok {xl : Nat} {xs : Nat → Int32} : ∀ (n : Nat) {Y1 : Int64} {y1 : Int} {X3 : Int32} {x3 : Int} {σ : zS} {p : Nat} {m : zM} {o : Int × zS}, Y1.toInt = y1 → X3.toInt = x3 → zRep xl xs p m σ → g_m_mostOf_L9 n y1 x3 σ = some o → zGo xl xs (fun p' => p = p') 1 193 9 [(0, .ref 143), (1, .long Y1), (3, .int X3)] [] m (vL o.1) o.2
  | 0, _, _, _, _, _, _, _, _, _, _, _, h => by cases h
  | n + 1, Y1, y1, X3, x3, σ, p, m, o, hy1, hx3, H, h => by
    have hq : z_mth 193 = some z_r193 := rfl
    have ih := fun {Y1 : Int64} {y1 : Int} {X3 : Int32} {x3 : Int} {σ : zS} {p : Nat} {m : zM} {o : Int × zS} => g_m_mostOf_L9_ok (xl := xl) (xs := xs) n (Y1 := Y1) (y1 := y1) (X3 := X3) (x3 := x3) (σ := σ) (p := p) (m := m) (o := o)
    unfold g_m_mostOf_L9 at h
    refine r_p hq 2 (pc' := 11) (L' := [(0, .ref 143), (1, .long Y1), (3, .int X3)]) (st' := [.ref 143, .int X3]) rfl ?_
    refine r_gI (pc' := 14) (L' := [(0, .ref 143), (1, .long Y1), (3, .int X3)]) H hq (z_at.mk 3 rfl rfl) rfl rfl rfl rfl ?_
    intro V_11 hV_11
    rcases z_ite h with ⟨c_14, h⟩ | ⟨c_14, h⟩
    · refine r_t2 (pc' := 45) (L' := [(0, .ref 143), (1, .long Y1), (3, .int X3)]) hq (z_at.mk 3 rfl rfl) rfl hx3 hV_11 c_14 rfl rfl ?_
      refine r_p hq 1 (pc' := 46) (L' := [(0, .ref 143), (1, .long Y1), (3, .int X3)]) (st' := [.long Y1]) rfl ?_
      cases h
      exact r_rl hq (z_at.mk 1 rfl rfl) rfl hy1 rfl H
    · refine r_f2 (pc' := 17) (L' := [(0, .ref 143), (1, .long Y1), (3, .int X3)]) hq (z_at.mk 3 rfl rfl) rfl hx3 hV_11 c_14 rfl rfl ?_
      refine r_p hq 1 (pc' := 18) (L' := [(0, .ref 143), (1, .long Y1), (3, .int X3)]) (st' := [.ref 143]) rfl ?_
      refine r_gR (b := 155) (pc' := 21) (L' := [(0, .ref 143), (1, .long Y1), (3, .int X3)]) H hq (z_at.mk 3 rfl rfl) rfl rfl rfl rfl ?_
      refine r_p hq 1 (pc' := 22) (L' := [(0, .ref 143), (1, .long Y1), (3, .int X3)]) (st' := [.int X3, .ref 155]) rfl ?_
      obtain ⟨g_22, h⟩ := z_ifo_some h
      refine r_la (pc' := 23) (L' := [(0, .ref 143), (1, .long Y1), (3, .int X3)]) H hq (z_at.mk 1 rfl rfl) (show zAr 155 1 60 = true from rfl) hx3 g_22 rfl rfl ?_
      intro V_22 hV_22
      refine r_p hq 2 (pc' := 25) (L' := [(0, .ref 143), (1, .long Y1), (3, .int X3)]) (st' := [.int (lg_cmp V_22 Y1)]) rfl ?_
      rcases z_ite h with ⟨c_25, h⟩ | ⟨c_25, h⟩
      · refine r_t1 (pc' := 37) (L' := [(0, .ref 143), (1, .long Y1), (3, .int X3)]) hq (z_at.mk 3 rfl rfl) rfl (tx_lcmp hV_22 hy1) c_25 rfl rfl ?_
        refine r_p hq 1 (pc' := 38) (L' := [(0, .ref 143), (3, .int X3)]) (st' := [.long Y1]) rfl ?_
        exact g_m_mostOf_L38_ok ih hx3 hy1 H h
      · refine r_f1 (pc' := 28) (L' := [(0, .ref 143), (1, .long Y1), (3, .int X3)]) hq (z_at.mk 3 rfl rfl) rfl (tx_lcmp hV_22 hy1) c_25 rfl rfl ?_
        refine r_p hq 1 (pc' := 29) (L' := [(0, .ref 143), (1, .long Y1), (3, .int X3)]) (st' := [.ref 143]) rfl ?_
        refine r_gR (b := 155) (pc' := 32) (L' := [(0, .ref 143), (1, .long Y1), (3, .int X3)]) H hq (z_at.mk 3 rfl rfl) rfl rfl rfl rfl ?_
        refine r_p hq 1 (pc' := 33) (L' := [(0, .ref 143), (1, .long Y1), (3, .int X3)]) (st' := [.int X3, .ref 155]) rfl ?_
        obtain ⟨g_33, h⟩ := z_ifo_some h
        refine r_la (pc' := 34) (L' := [(0, .ref 143), (1, .long Y1), (3, .int X3)]) H hq (z_at.mk 1 rfl rfl) (show zAr 155 1 60 = true from rfl) hx3 g_33 rfl rfl ?_
        intro V_33 hV_33
        refine r_p hq 1 (pc' := 38) (L' := [(0, .ref 143), (3, .int X3)]) (st' := [.long V_33]) rfl ?_
        exact g_m_mostOf_L38_ok ih hx3 hV_33 H h
def g_m_mostOf (σ : zS) : Option (Int × zS) :=
  let v_5 := σ 155 0
  g_m_mostOf_L9 zK v_5 1 σ
set_option maxHeartbeats 4000000 in
theorem g_m_mostOf_ok {xl : Nat} {xs : Nat → Int32} {σ : zS} {p : Nat} {m : zM} {o : Int × zS} (H : zRep xl xs p m σ) (h : g_m_mostOf σ = some o) : zGo xl xs (fun p' => p = p') 1 193 0 (z_can 193 0 (lv_args 0 [.ref 143])) [] m (vL o.1) o.2 := by
  have hq : z_mth 193 = some z_r193 := rfl
  unfold g_m_mostOf at h
  show zGo xl xs (fun p' => p = p') 1 193 0 [(0, .ref 143)] [] m (vL o.1) o.2
  refine r_p hq 1 (pc' := 1) (L' := [(0, .ref 143)]) (st' := [.ref 143]) rfl ?_
  refine r_gR (b := 155) (pc' := 4) (L' := [(0, .ref 143)]) H hq (z_at.mk 3 rfl rfl) rfl rfl rfl rfl ?_
  refine r_p hq 1 (pc' := 5) (L' := [(0, .ref 143)]) (st' := [.int ((0 : Int32)), .ref 155]) rfl ?_
  refine r_la (pc' := 6) (L' := [(0, .ref 143)]) H hq (z_at.mk 1 rfl rfl) (show zAr 155 1 60 = true from rfl) (rfl : (0 : Int32).toInt = 0) ⟨by decide, by decide⟩ rfl rfl ?_
  intro V_5 hV_5
  refine r_p hq 3 (pc' := 9) (L' := [(0, .ref 143), (1, .long V_5), (3, .int ((1 : Int32)))]) (st' := []) rfl ?_
  exact g_m_mostOf_L9_ok zK hV_5 (rfl : (1 : Int32).toInt = 1) H h
def g_m_sumOf_L60 (g9 : Int → Int → zS → Option (Int × zS)) (x3 : Int) (y4 : Int) (xs0 : Int) (xs1 : Int) (σ : zS) : Option (Int × zS) :=
  if iOr xs1 xs0 = 0 ∨ iOr xs1 xs0 = 1 then
  let s_61 := zu σ 143 15 (iOr xs1 xs0)
  g9 y4 (w32 (x3 + 1)) s_61
  else none
set_option maxHeartbeats 4000000 in
theorem g_m_sumOf_L60_ok {xl : Nat} {xs : Nat → Int32} {g9 : Int → Int → zS → Option (Int × zS)} (hg9 : ∀ {Y1 : Int64} {y1 : Int} {X3 : Int32} {x3 : Int} {σ : zS} {p : Nat} {m : zM} {o : Int × zS}, Y1.toInt = y1 → X3.toInt = x3 → zRep xl xs p m σ → g9 y1 x3 σ = some o → zGo xl xs (fun p' => p = p') 1 194 9 [(0, .ref 143), (1, .long Y1), (3, .int X3)] [] m (vL o.1) o.2) {X3 : Int32} {x3 : Int} (hx3 : X3.toInt = x3) {Y4 : Int64} {y4 : Int} (hy4 : Y4.toInt = y4) {Xs0 : Int32} {xs0 : Int} (hxs0 : Xs0.toInt = xs0) {Xs1 : Int32} {xs1 : Int} (hxs1 : Xs1.toInt = xs1) {σ : zS} {p : Nat} {m : zM} {o : Int × zS} (H : zRep xl xs p m σ) (h : g_m_sumOf_L60 g9 x3 y4 xs0 xs1 σ = some o) : zGo xl xs (fun p' => p = p') 1 194 60 [(0, .ref 143), (3, .int X3), (4, .long Y4)] [.int Xs0, .int Xs1, .ref 143] m (vL o.1) o.2 := by
  have hq : z_mth 194 = some z_r194 := rfl
  unfold g_m_sumOf_L60 at h
  refine r_p hq 1 (pc' := 61) (L' := [(0, .ref 143), (3, .int X3), (4, .long Y4)]) (st' := [.int (Xs1 ||| Xs0), .ref 143]) rfl ?_
  obtain ⟨g_61, h⟩ := z_ifo_some h
  refine r_pI (X := Xs1 ||| Xs0) (pc' := 64) (L' := [(0, .ref 143), (3, .int X3), (4, .long Y4)]) H hq (z_at.mk 3 rfl rfl) rfl rfl (tx_ior hxs1 hxs0) (by decide) (z_fit_bz (tx_ior hxs1 hxs0) g_61) rfl rfl rfl ?_
  intro m_61 H_61
  refine r_p hq 4 (pc' := 9) (L' := [(0, .ref 143), (1, .long Y4), (3, .int (X3 + (1 : Int32)))]) (st' := []) rfl ?_
  exact hg9 hy4 (tx_iadd hx3 (rfl : (1 : Int32).toInt = 1)) H_61 h
def g_m_sumOf_L59 (g9 : Int → Int → zS → Option (Int × zS)) (x3 : Int) (y4 : Int) (xs0 : Int) (σ : zS) : Option (Int × zS) :=
  g_m_sumOf_L60 g9 x3 y4 0 xs0 σ
set_option maxHeartbeats 4000000 in
theorem g_m_sumOf_L59_ok {xl : Nat} {xs : Nat → Int32} {g9 : Int → Int → zS → Option (Int × zS)} (hg9 : ∀ {Y1 : Int64} {y1 : Int} {X3 : Int32} {x3 : Int} {σ : zS} {p : Nat} {m : zM} {o : Int × zS}, Y1.toInt = y1 → X3.toInt = x3 → zRep xl xs p m σ → g9 y1 x3 σ = some o → zGo xl xs (fun p' => p = p') 1 194 9 [(0, .ref 143), (1, .long Y1), (3, .int X3)] [] m (vL o.1) o.2) {X3 : Int32} {x3 : Int} (hx3 : X3.toInt = x3) {Y4 : Int64} {y4 : Int} (hy4 : Y4.toInt = y4) {Xs0 : Int32} {xs0 : Int} (hxs0 : Xs0.toInt = xs0) {σ : zS} {p : Nat} {m : zM} {o : Int × zS} (H : zRep xl xs p m σ) (h : g_m_sumOf_L59 g9 x3 y4 xs0 σ = some o) : zGo xl xs (fun p' => p = p') 1 194 59 [(0, .ref 143), (3, .int X3), (4, .long Y4)] [.int Xs0, .ref 143] m (vL o.1) o.2 := by
  have hq : z_mth 194 = some z_r194 := rfl
  unfold g_m_sumOf_L59 at h
  refine r_p hq 1 (pc' := 60) (L' := [(0, .ref 143), (3, .int X3), (4, .long Y4)]) (st' := [.int ((0 : Int32)), .int Xs0, .ref 143]) rfl ?_
  exact g_m_sumOf_L60_ok hg9 hx3 hy4 (rfl : (0 : Int32).toInt = 0) hxs0 H h
def g_m_sumOf_L9 : Nat → Int → Int → zS → Option (Int × zS)
  | 0, _, _, _ => none
  | n + 1, y1, x3, σ =>
    let v_11 := σ 143 14
    if v_11 ≤ x3 then
      some (y1, σ)
    else
      if 0 ≤ x3 ∧ x3 < 60 then
      let v_23 := σ 155 x3
      let v_29 := σ 143 15
      if 0 ≤ lCmp (lXor y1 (w64 (y1 + v_23))) 0 then
        g_m_sumOf_L59 ((g_m_sumOf_L9 n)) x3 (w64 (y1 + v_23)) v_29 σ
      else
        if 0 ≤ x3 ∧ x3 < 60 then
        let v_46 := σ 155 x3
        if 0 ≤ lCmp (lXor v_46 (w64 (y1 + v_23))) 0 then
          g_m_sumOf_L59 ((g_m_sumOf_L9 n)) x3 (w64 (y1 + v_23)) v_29 σ
        else
          g_m_sumOf_L60 ((g_m_sumOf_L9 n)) x3 (w64 (y1 + v_23)) 1 v_29 σ
        else none
      else none
set_option maxHeartbeats 4000000 in
theorem g_m_sumOf_L9_ok {xl : Nat} {xs : Nat → Int32} : ∀ (n : Nat) {Y1 : Int64} {y1 : Int} {X3 : Int32} {x3 : Int} {σ : zS} {p : Nat} {m : zM} {o : Int × zS}, Y1.toInt = y1 → X3.toInt = x3 → zRep xl xs p m σ → g_m_sumOf_L9 n y1 x3 σ = some o → zGo xl xs (fun p' => p = p') 1 194 9 [(0, .ref 143), (1, .long Y1), (3, .int X3)] [] m (vL o.1) o.2
  | 0, _, _, _, _, _, _, _, _, _, _, _, h => by cases h
  | n + 1, Y1, y1, X3, x3, σ, p, m, o, hy1, hx3, H, h => by
    have hq : z_mth 194 = some z_r194 := rfl
    have ih := fun {Y1 : Int64} {y1 : Int} {X3 : Int32} {x3 : Int} {σ : zS} {p : Nat} {m : zM} {o : Int × zS} => g_m_sumOf_L9_ok (xl := xl) (xs := xs) n (Y1 := Y1) (y1 := y1) (X3 := X3) (x3 := x3) (σ := σ) (p := p) (m := m) (o := o)
    unfold g_m_sumOf_L9 at h
    refine r_p hq 2 (pc' := 11) (L' := [(0, .ref 143), (1, .long Y1), (3, .int X3)]) (st' := [.ref 143, .int X3]) rfl ?_
    refine r_gI (pc' := 14) (L' := [(0, .ref 143), (1, .long Y1), (3, .int X3)]) H hq (z_at.mk 3 rfl rfl) rfl rfl rfl rfl ?_
    intro V_11 hV_11
    rcases z_ite h with ⟨c_14, h⟩ | ⟨c_14, h⟩
    · refine r_t2 (pc' := 73) (L' := [(0, .ref 143), (1, .long Y1), (3, .int X3)]) hq (z_at.mk 3 rfl rfl) rfl hx3 hV_11 c_14 rfl rfl ?_
      refine r_p hq 1 (pc' := 74) (L' := [(0, .ref 143), (1, .long Y1), (3, .int X3)]) (st' := [.long Y1]) rfl ?_
      cases h
      exact r_rl hq (z_at.mk 1 rfl rfl) rfl hy1 rfl H
    · refine r_f2 (pc' := 17) (L' := [(0, .ref 143), (1, .long Y1), (3, .int X3)]) hq (z_at.mk 3 rfl rfl) rfl hx3 hV_11 c_14 rfl rfl ?_
      refine r_p hq 2 (pc' := 19) (L' := [(0, .ref 143), (1, .long Y1), (3, .int X3)]) (st' := [.ref 143, .long Y1]) rfl ?_
      refine r_gR (b := 155) (pc' := 22) (L' := [(0, .ref 143), (1, .long Y1), (3, .int X3)]) H hq (z_at.mk 3 rfl rfl) rfl rfl rfl rfl ?_
      refine r_p hq 1 (pc' := 23) (L' := [(0, .ref 143), (1, .long Y1), (3, .int X3)]) (st' := [.int X3, .ref 155, .long Y1]) rfl ?_
      obtain ⟨g_23, h⟩ := z_ifo_some h
      refine r_la (pc' := 24) (L' := [(0, .ref 143), (1, .long Y1), (3, .int X3)]) H hq (z_at.mk 1 rfl rfl) (show zAr 155 1 60 = true from rfl) hx3 g_23 rfl rfl ?_
      intro V_23 hV_23
      refine r_p hq 4 (pc' := 29) (L' := [(4, .long (Y1 + V_23)), (0, .ref 143), (1, .long Y1), (3, .int X3)]) (st' := [.ref 143, .ref 143]) rfl ?_
      refine r_gI (pc' := 32) (L' := [(4, .long (Y1 + V_23)), (0, .ref 143), (1, .long Y1), (3, .int X3)]) H hq (z_at.mk 3 rfl rfl) rfl rfl rfl rfl ?_
      intro V_29 hV_29
      refine r_p hq 5 (pc' := 38) (L' := [(4, .long (Y1 + V_23)), (0, .ref 143), (1, .long Y1), (3, .int X3)]) (st' := [.int (lg_cmp (Y1 ^^^ (Y1 + V_23)) ((0 : Int64))), .int V_29, .ref 143]) rfl ?_
      rcases z_ite h with ⟨c_38, h⟩ | ⟨c_38, h⟩
      · refine r_t1 (pc' := 59) (L' := [(0, .ref 143), (3, .int X3), (4, .long (Y1 + V_23))]) hq (z_at.mk 3 rfl rfl) rfl (tx_lcmp (tx_lxor hy1 (tx_ladd hy1 hV_23)) (rfl : (0 : Int64).toInt = 0)) c_38 rfl rfl ?_
        exact g_m_sumOf_L59_ok ih hx3 (tx_ladd hy1 hV_23) hV_29 H h
      · refine r_f1 (pc' := 41) (L' := [(4, .long (Y1 + V_23)), (0, .ref 143), (1, .long Y1), (3, .int X3)]) hq (z_at.mk 3 rfl rfl) rfl (tx_lcmp (tx_lxor hy1 (tx_ladd hy1 hV_23)) (rfl : (0 : Int64).toInt = 0)) c_38 rfl rfl ?_
        refine r_p hq 1 (pc' := 42) (L' := [(4, .long (Y1 + V_23)), (0, .ref 143), (1, .long Y1), (3, .int X3)]) (st' := [.ref 143, .int V_29, .ref 143]) rfl ?_
        refine r_gR (b := 155) (pc' := 45) (L' := [(4, .long (Y1 + V_23)), (0, .ref 143), (1, .long Y1), (3, .int X3)]) H hq (z_at.mk 3 rfl rfl) rfl rfl rfl rfl ?_
        refine r_p hq 1 (pc' := 46) (L' := [(4, .long (Y1 + V_23)), (0, .ref 143), (1, .long Y1), (3, .int X3)]) (st' := [.int X3, .ref 155, .int V_29, .ref 143]) rfl ?_
        obtain ⟨g_46, h⟩ := z_ifo_some h
        refine r_la (pc' := 47) (L' := [(4, .long (Y1 + V_23)), (0, .ref 143), (1, .long Y1), (3, .int X3)]) H hq (z_at.mk 1 rfl rfl) (show zAr 155 1 60 = true from rfl) hx3 g_46 rfl rfl ?_
        intro V_46 hV_46
        refine r_p hq 4 (pc' := 52) (L' := [(4, .long (Y1 + V_23)), (0, .ref 143), (1, .long Y1), (3, .int X3)]) (st' := [.int (lg_cmp (V_46 ^^^ (Y1 + V_23)) ((0 : Int64))), .int V_29, .ref 143]) rfl ?_
        rcases z_ite h with ⟨c_52, h⟩ | ⟨c_52, h⟩
        · refine r_t1 (pc' := 59) (L' := [(0, .ref 143), (3, .int X3), (4, .long (Y1 + V_23))]) hq (z_at.mk 3 rfl rfl) rfl (tx_lcmp (tx_lxor hV_46 (tx_ladd hy1 hV_23)) (rfl : (0 : Int64).toInt = 0)) c_52 rfl rfl ?_
          exact g_m_sumOf_L59_ok ih hx3 (tx_ladd hy1 hV_23) hV_29 H h
        · refine r_f1 (pc' := 55) (L' := [(4, .long (Y1 + V_23)), (0, .ref 143), (1, .long Y1), (3, .int X3)]) hq (z_at.mk 3 rfl rfl) rfl (tx_lcmp (tx_lxor hV_46 (tx_ladd hy1 hV_23)) (rfl : (0 : Int64).toInt = 0)) c_52 rfl rfl ?_
          refine r_p hq 2 (pc' := 60) (L' := [(0, .ref 143), (3, .int X3), (4, .long (Y1 + V_23))]) (st' := [.int ((1 : Int32)), .int V_29, .ref 143]) rfl ?_
          exact g_m_sumOf_L60_ok ih hx3 (tx_ladd hy1 hV_23) (rfl : (1 : Int32).toInt = 1) hV_29 H h
def g_m_sumOf (σ : zS) : Option (Int × zS) :=
  let s_4 := zu σ 143 15 0
  g_m_sumOf_L9 zK 0 0 s_4
set_option maxHeartbeats 4000000 in
theorem g_m_sumOf_ok {xl : Nat} {xs : Nat → Int32} {σ : zS} {p : Nat} {m : zM} {o : Int × zS} (H : zRep xl xs p m σ) (h : g_m_sumOf σ = some o) : zGo xl xs (fun p' => p = p') 1 194 0 (z_can 194 0 (lv_args 0 [.ref 143])) [] m (vL o.1) o.2 := by
  have hq : z_mth 194 = some z_r194 := rfl
  unfold g_m_sumOf at h
  show zGo xl xs (fun p' => p = p') 1 194 0 [(0, .ref 143)] [] m (vL o.1) o.2
  refine r_p hq 4 (pc' := 4) (L' := [(1, .long ((0 : Int64))), (0, .ref 143)]) (st' := [.int ((0 : Int32)), .ref 143]) rfl ?_
  refine r_pI (X := (0 : Int32)) (pc' := 7) (L' := [(1, .long ((0 : Int64))), (0, .ref 143)]) H hq (z_at.mk 3 rfl rfl) rfl rfl (rfl : (0 : Int32).toInt = 0) (by decide) rfl rfl rfl rfl ?_
  intro m_4 H_4
  refine r_p hq 2 (pc' := 9) (L' := [(0, .ref 143), (1, .long ((0 : Int64))), (3, .int ((0 : Int32)))]) (st' := []) rfl ?_
  exact g_m_sumOf_L9_ok zK (rfl : (0 : Int64).toInt = 0) (rfl : (0 : Int32).toInt = 0) H_4 h
def g_m_meanOf (σ : zS) : Option (Int × zS) :=
  (g_m_sumOf σ).bind fun o_1 =>
  let v_7 := o_1.2 143 14
  if v_7 = 0 then none else
  let v_15 := o_1.2 143 14
  if v_15 = 0 then none else
  if 0 ≤ lCmp (Int.tmod o_1.1 v_15) 0 then
    some (w64 (Int.tdiv o_1.1 v_7), o_1.2)
  else
    some (w64 ((w64 (Int.tdiv o_1.1 v_7)) - 1), o_1.2)
set_option maxHeartbeats 4000000 in
theorem g_m_meanOf_ok {xl : Nat} {xs : Nat → Int32} {σ : zS} {p : Nat} {m : zM} {o : Int × zS} (H : zRep xl xs p m σ) (h : g_m_meanOf σ = some o) : zGo xl xs (fun p' => p = p') 2 195 0 (z_can 195 0 (lv_args 0 [.ref 143])) [] m (vL o.1) o.2 := by
  have hq : z_mth 195 = some z_r195 := rfl
  unfold g_m_meanOf at h
  show zGo xl xs (fun p' => p = p') 2 195 0 [(0, .ref 143)] [] m (vL o.1) o.2
  refine r_p hq 1 (pc' := 1) (L' := [(0, .ref 143)]) (st' := [.ref 143]) rfl ?_
  obtain ⟨o_1, h_1, h⟩ := Option.bind_eq_some_iff.mp h
  refine r_cvL (pc' := 4) (L' := [(0, .ref 143)]) (Ps := []) (rest := []) hq (z_at.mk 3 rfl rfl) (Or.inl ⟨rfl, rfl⟩) rfl rfl (by decide) (by decide) rfl (Nat.not_lt.mpr (Nat.le_of_ble_eq_true rfl)) rfl rfl (z_cat_le 0 rfl (by decide)) (z_lgl_le 1 rfl (by decide)) (by decide) (H.tg rfl) (by omega) (g_m_sumOf_ok H h_1) rfl rfl ?_
  intro R_1 m_1 p_1 e_1 hR_1 H_1
  subst e_1
  refine r_p hq 3 (pc' := 7) (L' := [(1, .long R_1), (0, .ref 143)]) (st' := [.ref 143, .long R_1]) rfl ?_
  refine r_gI (pc' := 10) (L' := [(1, .long R_1), (0, .ref 143)]) H_1 hq (z_at.mk 3 rfl rfl) rfl rfl rfl rfl ?_
  intro V_7 hV_7
  refine r_p hq 1 (pc' := 11) (L' := [(1, .long R_1), (0, .ref 143)]) (st' := [.long V_7.toInt64, .long R_1]) rfl ?_
  obtain ⟨g_11, h⟩ := z_ifno_some h
  refine r_ldiv (pc' := 12) (L' := [(1, .long R_1), (0, .ref 143)]) hq (z_at.mk 1 rfl rfl) hR_1 (tx_i2l hV_7) g_11 rfl rfl ?_
  intro V_11 hV_11
  refine r_p hq 3 (pc' := 15) (L' := [(3, .long V_11), (1, .long R_1), (0, .ref 143)]) (st' := [.ref 143, .long R_1]) rfl ?_
  refine r_gI (pc' := 18) (L' := [(3, .long V_11), (1, .long R_1), (0, .ref 143)]) H_1 hq (z_at.mk 3 rfl rfl) rfl rfl rfl rfl ?_
  intro V_15 hV_15
  refine r_p hq 1 (pc' := 19) (L' := [(3, .long V_11), (1, .long R_1), (0, .ref 143)]) (st' := [.long V_15.toInt64, .long R_1]) rfl ?_
  obtain ⟨g_19, h⟩ := z_ifno_some h
  refine r_lrem (pc' := 20) (L' := [(3, .long V_11), (1, .long R_1), (0, .ref 143)]) hq (z_at.mk 1 rfl rfl) hR_1 (tx_i2l hV_15) g_19 rfl rfl ?_
  intro V_19 hV_19
  refine r_p hq 2 (pc' := 22) (L' := [(3, .long V_11), (1, .long R_1), (0, .ref 143)]) (st' := [.int (lg_cmp V_19 ((0 : Int64)))]) rfl ?_
  rcases z_ite h with ⟨c_22, h⟩ | ⟨c_22, h⟩
  · refine r_t1 (pc' := 31) (L' := [(3, .long V_11), (1, .long R_1), (0, .ref 143)]) hq (z_at.mk 3 rfl rfl) rfl (tx_lcmp hV_19 (rfl : (0 : Int64).toInt = 0)) c_22 rfl rfl ?_
    refine r_p hq 1 (pc' := 32) (L' := []) (st' := [.long V_11]) rfl ?_
    cases h
    exact r_rl hq (z_at.mk 1 rfl rfl) rfl hV_11 rfl H_1
  · refine r_f1 (pc' := 25) (L' := [(3, .long V_11), (1, .long R_1), (0, .ref 143)]) hq (z_at.mk 3 rfl rfl) rfl (tx_lcmp hV_19 (rfl : (0 : Int64).toInt = 0)) c_22 rfl rfl ?_
    refine r_p hq 4 (pc' := 32) (L' := []) (st' := [.long (V_11 - ((1 : Int64)))]) rfl ?_
    cases h
    exact r_rl hq (z_at.mk 1 rfl rfl) rfl (tx_lsub hV_11 (rfl : (1 : Int64).toInt = 1)) rfl H_1
def g_m_spanOf_L28 (y5 : Int) (xs0 : Int) (σ : zS) : Option (Int × zS) :=
  if xs0 = 0 ∨ xs0 = 1 then
  let s_28 := zu σ 143 15 xs0
  some (y5, s_28)
  else none
set_option maxHeartbeats 4000000 in
theorem g_m_spanOf_L28_ok {xl : Nat} {xs : Nat → Int32} {Y5 : Int64} {y5 : Int} (hy5 : Y5.toInt = y5) {Xs0 : Int32} {xs0 : Int} (hxs0 : Xs0.toInt = xs0) {σ : zS} {p : Nat} {m : zM} {o : Int × zS} (H : zRep xl xs p m σ) (h : g_m_spanOf_L28 y5 xs0 σ = some o) : zGo xl xs (fun p' => p = p') 2 196 28 [(5, .long Y5)] [.int Xs0, .ref 143] m (vL o.1) o.2 := by
  have hq : z_mth 196 = some z_r196 := rfl
  unfold g_m_spanOf_L28 at h
  obtain ⟨g_28, h⟩ := z_ifo_some h
  refine r_pI (X := Xs0) (pc' := 31) (L' := [(5, .long Y5)]) H hq (z_at.mk 3 rfl rfl) rfl rfl hxs0 (by decide) (z_fit_bz hxs0 g_28) rfl rfl rfl ?_
  intro m_28 H_28
  refine r_p hq 1 (pc' := 33) (L' := [(5, .long Y5)]) (st' := [.long Y5]) rfl ?_
  cases h
  exact r_rl hq (z_at.mk 1 rfl rfl) rfl hy5 rfl H_28
def g_m_spanOf (σ : zS) : Option (Int × zS) :=
  (g_m_mostOf σ).bind fun o_1 =>
  (g_m_leastOf o_1.2).bind fun o_6 =>
  if 0 ≤ lCmp (w64 (o_1.1 - o_6.1)) 0 then
    g_m_spanOf_L28 (w64 (o_1.1 - o_6.1)) 0 o_6.2
  else
    g_m_spanOf_L28 (w64 (o_1.1 - o_6.1)) 1 o_6.2
set_option maxHeartbeats 4000000 in
theorem g_m_spanOf_ok {xl : Nat} {xs : Nat → Int32} {σ : zS} {p : Nat} {m : zM} {o : Int × zS} (H : zRep xl xs p m σ) (h : g_m_spanOf σ = some o) : zGo xl xs (fun p' => p = p') 2 196 0 (z_can 196 0 (lv_args 0 [.ref 143])) [] m (vL o.1) o.2 := by
  have hq : z_mth 196 = some z_r196 := rfl
  unfold g_m_spanOf at h
  show zGo xl xs (fun p' => p = p') 2 196 0 [(0, .ref 143)] [] m (vL o.1) o.2
  refine r_p hq 1 (pc' := 1) (L' := [(0, .ref 143)]) (st' := [.ref 143]) rfl ?_
  obtain ⟨o_1, h_1, h⟩ := Option.bind_eq_some_iff.mp h
  refine r_cvL (pc' := 4) (L' := [(0, .ref 143)]) (Ps := []) (rest := []) hq (z_at.mk 3 rfl rfl) (Or.inl ⟨rfl, rfl⟩) rfl rfl (by decide) (by decide) rfl (Nat.not_lt.mpr (Nat.le_of_ble_eq_true rfl)) rfl rfl (z_cat_le 0 rfl (by decide)) (z_lgl_le 1 rfl (by decide)) (by decide) (H.tg rfl) (by omega) (g_m_mostOf_ok H h_1) rfl rfl ?_
  intro R_1 m_1 p_1 e_1 hR_1 H_1
  subst e_1
  refine r_p hq 2 (pc' := 6) (L' := [(1, .long R_1), (0, .ref 143)]) (st' := [.ref 143]) rfl ?_
  obtain ⟨o_6, h_6, h⟩ := Option.bind_eq_some_iff.mp h
  refine r_cvL (pc' := 9) (L' := [(1, .long R_1), (0, .ref 143)]) (Ps := []) (rest := []) hq (z_at.mk 3 rfl rfl) (Or.inl ⟨rfl, rfl⟩) rfl rfl (by decide) (by decide) rfl (Nat.not_lt.mpr (Nat.le_of_ble_eq_true rfl)) rfl rfl (z_cat_le 0 rfl (by decide)) (z_lgl_le 1 rfl (by decide)) (by decide) (H_1.tg rfl) (by omega) (g_m_leastOf_ok H_1 h_6) rfl rfl ?_
  intro R_6 m_6 p_6 e_6 hR_6 H_6
  subst e_6
  refine r_p hq 9 (pc' := 20) (L' := [(5, .long (R_1 - R_6)), (3, .long R_6), (1, .long R_1), (0, .ref 143)]) (st' := [.int (lg_cmp (R_1 - R_6) ((0 : Int64))), .ref 143]) rfl ?_
  rcases z_ite h with ⟨c_20, h⟩ | ⟨c_20, h⟩
  · refine r_t1 (pc' := 27) (L' := [(5, .long (R_1 - R_6)), (3, .long R_6), (1, .long R_1), (0, .ref 143)]) hq (z_at.mk 3 rfl rfl) rfl (tx_lcmp (tx_lsub hR_1 hR_6) (rfl : (0 : Int64).toInt = 0)) c_20 rfl rfl ?_
    refine r_p hq 1 (pc' := 28) (L' := [(5, .long (R_1 - R_6))]) (st' := [.int ((0 : Int32)), .ref 143]) rfl ?_
    exact g_m_spanOf_L28_ok (tx_lsub hR_1 hR_6) (rfl : (0 : Int32).toInt = 0) H_6 h
  · refine r_f1 (pc' := 23) (L' := [(5, .long (R_1 - R_6)), (3, .long R_6), (1, .long R_1), (0, .ref 143)]) hq (z_at.mk 3 rfl rfl) rfl (tx_lcmp (tx_lsub hR_1 hR_6) (rfl : (0 : Int64).toInt = 0)) c_20 rfl rfl ?_
    refine r_p hq 2 (pc' := 28) (L' := [(5, .long (R_1 - R_6))]) (st' := [.int ((1 : Int32)), .ref 143]) rfl ?_
    exact g_m_spanOf_L28_ok (tx_lsub hR_1 hR_6) (rfl : (1 : Int32).toInt = 1) H_6 h
def g_m_kindsOf_L64 (g4 : Int → Int → zS → Option (Int × zS)) (x2 : Int) (xs0 : Int) (xs1 : Int) (σ : zS) : Option (Int × zS) :=
  g4 (w32 (xs1 + xs0)) (w32 (x2 + 1)) σ
set_option maxHeartbeats 4000000 in
theorem g_m_kindsOf_L64_ok {xl : Nat} {xs : Nat → Int32} {g4 : Int → Int → zS → Option (Int × zS)} (hg4 : ∀ {X1 : Int32} {x1 : Int} {X2 : Int32} {x2 : Int} {σ : zS} {p : Nat} {m : zM} {o : Int × zS}, X1.toInt = x1 → X2.toInt = x2 → zRep xl xs p m σ → g4 x1 x2 σ = some o → zGo xl xs (fun p' => p = p') 1 197 4 [(0, .ref 143), (1, .int X1), (2, .int X2)] [] m (vI o.1) o.2) {X2 : Int32} {x2 : Int} (hx2 : X2.toInt = x2) {Xs0 : Int32} {xs0 : Int} (hxs0 : Xs0.toInt = xs0) {Xs1 : Int32} {xs1 : Int} (hxs1 : Xs1.toInt = xs1) {σ : zS} {p : Nat} {m : zM} {o : Int × zS} (H : zRep xl xs p m σ) (h : g_m_kindsOf_L64 g4 x2 xs0 xs1 σ = some o) : zGo xl xs (fun p' => p = p') 1 197 64 [(0, .ref 143), (2, .int X2)] [.int Xs0, .int Xs1] m (vI o.1) o.2 := by
  have hq : z_mth 197 = some z_r197 := rfl
  unfold g_m_kindsOf_L64 at h
  refine r_p hq 4 (pc' := 4) (L' := [(0, .ref 143), (1, .int (Xs1 + Xs0)), (2, .int (X2 + (1 : Int32)))]) (st' := []) rfl ?_
  exact hg4 (tx_iadd hxs1 hxs0) (tx_iadd hx2 (rfl : (1 : Int32).toInt = 1)) H h
def g_m_kindsOf_L46 (g17 : Int → Int → Int → Int → zS → Option (Int × zS)) (x1 : Int) (x2 : Int) (x4 : Int) (xs0 : Int) (xs1 : Int) (σ : zS) : Option (Int × zS) :=
  g17 x1 x2 (iAnd xs1 xs0) (w32 (x4 + 1)) σ
set_option maxHeartbeats 4000000 in
theorem g_m_kindsOf_L46_ok {xl : Nat} {xs : Nat → Int32} {g17 : Int → Int → Int → Int → zS → Option (Int × zS)} (hg17 : ∀ {X1 : Int32} {x1 : Int} {X2 : Int32} {x2 : Int} {X3 : Int32} {x3 : Int} {X4 : Int32} {x4 : Int} {σ : zS} {p : Nat} {m : zM} {o : Int × zS}, X1.toInt = x1 → X2.toInt = x2 → X3.toInt = x3 → X4.toInt = x4 → zRep xl xs p m σ → g17 x1 x2 x3 x4 σ = some o → zGo xl xs (fun p' => p = p') 1 197 17 [(0, .ref 143), (1, .int X1), (2, .int X2), (3, .int X3), (4, .int X4)] [] m (vI o.1) o.2) {X1 : Int32} {x1 : Int} (hx1 : X1.toInt = x1) {X2 : Int32} {x2 : Int} (hx2 : X2.toInt = x2) {X4 : Int32} {x4 : Int} (hx4 : X4.toInt = x4) {Xs0 : Int32} {xs0 : Int} (hxs0 : Xs0.toInt = xs0) {Xs1 : Int32} {xs1 : Int} (hxs1 : Xs1.toInt = xs1) {σ : zS} {p : Nat} {m : zM} {o : Int × zS} (H : zRep xl xs p m σ) (h : g_m_kindsOf_L46 g17 x1 x2 x4 xs0 xs1 σ = some o) : zGo xl xs (fun p' => p = p') 1 197 46 [(0, .ref 143), (1, .int X1), (2, .int X2), (4, .int X4)] [.int Xs0, .int Xs1] m (vI o.1) o.2 := by
  have hq : z_mth 197 = some z_r197 := rfl
  unfold g_m_kindsOf_L46 at h
  refine r_p hq 4 (pc' := 17) (L' := [(0, .ref 143), (1, .int X1), (2, .int X2), (3, .int (Xs1 &&& Xs0)), (4, .int (X4 + (1 : Int32)))]) (st' := []) rfl ?_
  exact hg17 hx1 hx2 (tx_iand hxs1 hxs0) (tx_iadd hx4 (rfl : (1 : Int32).toInt = 1)) H h
def g_m_kindsOf_L17 (g4 : Int → Int → zS → Option (Int × zS)) : Nat → Int → Int → Int → Int → zS → Option (Int × zS)
  | 0, _, _, _, _, _ => none
  | n + 1, x1, x2, x3, x4, σ =>
    if x2 ≤ x4 then
      if x3 = 0 then
        g_m_kindsOf_L64 g4 x2 0 x1 σ
      else
        g_m_kindsOf_L64 g4 x2 1 x1 σ
    else
      if 0 ≤ x4 ∧ x4 < 60 then
      let v_30 := σ 155 x4
      if 0 ≤ x2 ∧ x2 < 60 then
      let v_36 := σ 155 x2
      if lCmp v_30 v_36 = 0 then
        g_m_kindsOf_L46 ((g_m_kindsOf_L17 g4 n)) x1 x2 x4 0 x3 σ
      else
        g_m_kindsOf_L46 ((g_m_kindsOf_L17 g4 n)) x1 x2 x4 1 x3 σ
      else none
      else none
set_option maxHeartbeats 4000000 in
theorem g_m_kindsOf_L17_ok {xl : Nat} {xs : Nat → Int32} {g4 : Int → Int → zS → Option (Int × zS)} (hg4 : ∀ {X1 : Int32} {x1 : Int} {X2 : Int32} {x2 : Int} {σ : zS} {p : Nat} {m : zM} {o : Int × zS}, X1.toInt = x1 → X2.toInt = x2 → zRep xl xs p m σ → g4 x1 x2 σ = some o → zGo xl xs (fun p' => p = p') 1 197 4 [(0, .ref 143), (1, .int X1), (2, .int X2)] [] m (vI o.1) o.2) : ∀ (n : Nat) {X1 : Int32} {x1 : Int} {X2 : Int32} {x2 : Int} {X3 : Int32} {x3 : Int} {X4 : Int32} {x4 : Int} {σ : zS} {p : Nat} {m : zM} {o : Int × zS}, X1.toInt = x1 → X2.toInt = x2 → X3.toInt = x3 → X4.toInt = x4 → zRep xl xs p m σ → g_m_kindsOf_L17 g4 n x1 x2 x3 x4 σ = some o → zGo xl xs (fun p' => p = p') 1 197 17 [(0, .ref 143), (1, .int X1), (2, .int X2), (3, .int X3), (4, .int X4)] [] m (vI o.1) o.2
  | 0, _, _, _, _, _, _, _, _, _, _, _, _, _, _, _, _, _, h => by cases h
  | n + 1, X1, x1, X2, x2, X3, x3, X4, x4, σ, p, m, o, hx1, hx2, hx3, hx4, H, h => by
    have hq : z_mth 197 = some z_r197 := rfl
    have ih := fun {X1 : Int32} {x1 : Int} {X2 : Int32} {x2 : Int} {X3 : Int32} {x3 : Int} {X4 : Int32} {x4 : Int} {σ : zS} {p : Nat} {m : zM} {o : Int × zS} => g_m_kindsOf_L17_ok (xl := xl) (xs := xs) hg4 n (X1 := X1) (x1 := x1) (X2 := X2) (x2 := x2) (X3 := X3) (x3 := x3) (X4 := X4) (x4 := x4) (σ := σ) (p := p) (m := m) (o := o)
    unfold g_m_kindsOf_L17 at h
    refine r_p hq 2 (pc' := 20) (L' := [(0, .ref 143), (1, .int X1), (2, .int X2), (3, .int X3), (4, .int X4)]) (st' := [.int X2, .int X4]) rfl ?_
    rcases z_ite h with ⟨c_20, h⟩ | ⟨c_20, h⟩
    · refine r_t2 (pc' := 54) (L' := [(0, .ref 143), (1, .int X1), (2, .int X2), (3, .int X3), (4, .int X4)]) hq (z_at.mk 3 rfl rfl) rfl hx4 hx2 c_20 rfl rfl ?_
      refine r_p hq 2 (pc' := 56) (L' := [(0, .ref 143), (1, .int X1), (2, .int X2), (3, .int X3), (4, .int X4)]) (st' := [.int X3, .int X1]) rfl ?_
      rcases z_ite h with ⟨c_56, h⟩ | ⟨c_56, h⟩
      · refine r_t1 (pc' := 63) (L' := [(0, .ref 143), (1, .int X1), (2, .int X2), (3, .int X3), (4, .int X4)]) hq (z_at.mk 3 rfl rfl) rfl hx3 c_56 rfl rfl ?_
        refine r_p hq 1 (pc' := 64) (L' := [(0, .ref 143), (2, .int X2)]) (st' := [.int ((0 : Int32)), .int X1]) rfl ?_
        exact g_m_kindsOf_L64_ok hg4 hx2 (rfl : (0 : Int32).toInt = 0) hx1 H h
      · refine r_f1 (pc' := 59) (L' := [(0, .ref 143), (1, .int X1), (2, .int X2), (3, .int X3), (4, .int X4)]) hq (z_at.mk 3 rfl rfl) rfl hx3 c_56 rfl rfl ?_
        refine r_p hq 2 (pc' := 64) (L' := [(0, .ref 143), (2, .int X2)]) (st' := [.int ((1 : Int32)), .int X1]) rfl ?_
        exact g_m_kindsOf_L64_ok hg4 hx2 (rfl : (1 : Int32).toInt = 1) hx1 H h
    · refine r_f2 (pc' := 23) (L' := [(0, .ref 143), (1, .int X1), (2, .int X2), (3, .int X3), (4, .int X4)]) hq (z_at.mk 3 rfl rfl) rfl hx4 hx2 c_20 rfl rfl ?_
      refine r_p hq 2 (pc' := 25) (L' := [(0, .ref 143), (1, .int X1), (2, .int X2), (3, .int X3), (4, .int X4)]) (st' := [.ref 143, .int X3]) rfl ?_
      refine r_gR (b := 155) (pc' := 28) (L' := [(0, .ref 143), (1, .int X1), (2, .int X2), (3, .int X3), (4, .int X4)]) H hq (z_at.mk 3 rfl rfl) rfl rfl rfl rfl ?_
      refine r_p hq 1 (pc' := 30) (L' := [(0, .ref 143), (1, .int X1), (2, .int X2), (3, .int X3), (4, .int X4)]) (st' := [.int X4, .ref 155, .int X3]) rfl ?_
      obtain ⟨g_30, h⟩ := z_ifo_some h
      refine r_la (pc' := 31) (L' := [(0, .ref 143), (1, .int X1), (2, .int X2), (3, .int X3), (4, .int X4)]) H hq (z_at.mk 1 rfl rfl) (show zAr 155 1 60 = true from rfl) hx4 g_30 rfl rfl ?_
      intro V_30 hV_30
      refine r_p hq 1 (pc' := 32) (L' := [(0, .ref 143), (1, .int X1), (2, .int X2), (3, .int X3), (4, .int X4)]) (st' := [.ref 143, .long V_30, .int X3]) rfl ?_
      refine r_gR (b := 155) (pc' := 35) (L' := [(0, .ref 143), (1, .int X1), (2, .int X2), (3, .int X3), (4, .int X4)]) H hq (z_at.mk 3 rfl rfl) rfl rfl rfl rfl ?_
      refine r_p hq 1 (pc' := 36) (L' := [(0, .ref 143), (1, .int X1), (2, .int X2), (3, .int X3), (4, .int X4)]) (st' := [.int X2, .ref 155, .long V_30, .int X3]) rfl ?_
      obtain ⟨g_36, h⟩ := z_ifo_some h
      refine r_la (pc' := 37) (L' := [(0, .ref 143), (1, .int X1), (2, .int X2), (3, .int X3), (4, .int X4)]) H hq (z_at.mk 1 rfl rfl) (show zAr 155 1 60 = true from rfl) hx2 g_36 rfl rfl ?_
      intro V_36 hV_36
      refine r_p hq 1 (pc' := 38) (L' := [(0, .ref 143), (1, .int X1), (2, .int X2), (3, .int X3), (4, .int X4)]) (st' := [.int (lg_cmp V_30 V_36), .int X3]) rfl ?_
      rcases z_ite h with ⟨c_38, h⟩ | ⟨c_38, h⟩
      · refine r_t1 (pc' := 45) (L' := [(0, .ref 143), (1, .int X1), (2, .int X2), (3, .int X3), (4, .int X4)]) hq (z_at.mk 3 rfl rfl) rfl (tx_lcmp hV_30 hV_36) c_38 rfl rfl ?_
        refine r_p hq 1 (pc' := 46) (L' := [(0, .ref 143), (1, .int X1), (2, .int X2), (4, .int X4)]) (st' := [.int ((0 : Int32)), .int X3]) rfl ?_
        exact g_m_kindsOf_L46_ok ih hx1 hx2 hx4 (rfl : (0 : Int32).toInt = 0) hx3 H h
      · refine r_f1 (pc' := 41) (L' := [(0, .ref 143), (1, .int X1), (2, .int X2), (3, .int X3), (4, .int X4)]) hq (z_at.mk 3 rfl rfl) rfl (tx_lcmp hV_30 hV_36) c_38 rfl rfl ?_
        refine r_p hq 2 (pc' := 46) (L' := [(0, .ref 143), (1, .int X1), (2, .int X2), (4, .int X4)]) (st' := [.int ((1 : Int32)), .int X3]) rfl ?_
        exact g_m_kindsOf_L46_ok ih hx1 hx2 hx4 (rfl : (1 : Int32).toInt = 1) hx3 H h
def g_m_kindsOf_L4 : Nat → Int → Int → zS → Option (Int × zS)
  | 0, _, _, _ => none
  | n + 1, x1, x2, σ =>
    let v_6 := σ 143 14
    if v_6 ≤ x2 then
      some (x1, σ)
    else
      g_m_kindsOf_L17 ((g_m_kindsOf_L4 n)) zK x1 x2 1 0 σ
set_option maxHeartbeats 4000000 in
theorem g_m_kindsOf_L4_ok {xl : Nat} {xs : Nat → Int32} : ∀ (n : Nat) {X1 : Int32} {x1 : Int} {X2 : Int32} {x2 : Int} {σ : zS} {p : Nat} {m : zM} {o : Int × zS}, X1.toInt = x1 → X2.toInt = x2 → zRep xl xs p m σ → g_m_kindsOf_L4 n x1 x2 σ = some o → zGo xl xs (fun p' => p = p') 1 197 4 [(0, .ref 143), (1, .int X1), (2, .int X2)] [] m (vI o.1) o.2
  | 0, _, _, _, _, _, _, _, _, _, _, _, h => by cases h
  | n + 1, X1, x1, X2, x2, σ, p, m, o, hx1, hx2, H, h => by
    have hq : z_mth 197 = some z_r197 := rfl
    have ih := fun {X1 : Int32} {x1 : Int} {X2 : Int32} {x2 : Int} {σ : zS} {p : Nat} {m : zM} {o : Int × zS} => g_m_kindsOf_L4_ok (xl := xl) (xs := xs) n (X1 := X1) (x1 := x1) (X2 := X2) (x2 := x2) (σ := σ) (p := p) (m := m) (o := o)
    unfold g_m_kindsOf_L4 at h
    refine r_p hq 2 (pc' := 6) (L' := [(0, .ref 143), (1, .int X1), (2, .int X2)]) (st' := [.ref 143, .int X2]) rfl ?_
    refine r_gI (pc' := 9) (L' := [(0, .ref 143), (1, .int X1), (2, .int X2)]) H hq (z_at.mk 3 rfl rfl) rfl rfl rfl rfl ?_
    intro V_6 hV_6
    rcases z_ite h with ⟨c_9, h⟩ | ⟨c_9, h⟩
    · refine r_t2 (pc' := 72) (L' := [(0, .ref 143), (1, .int X1), (2, .int X2)]) hq (z_at.mk 3 rfl rfl) rfl hx2 hV_6 c_9 rfl rfl ?_
      refine r_p hq 1 (pc' := 73) (L' := [(0, .ref 143), (1, .int X1), (2, .int X2)]) (st' := [.int X1]) rfl ?_
      cases h
      exact r_ri hq (z_at.mk 1 rfl rfl) rfl rfl hx1 rfl H
    · refine r_f2 (pc' := 12) (L' := [(0, .ref 143), (1, .int X1), (2, .int X2)]) hq (z_at.mk 3 rfl rfl) rfl hx2 hV_6 c_9 rfl rfl ?_
      refine r_p hq 4 (pc' := 17) (L' := [(0, .ref 143), (1, .int X1), (2, .int X2), (3, .int ((1 : Int32))), (4, .int ((0 : Int32)))]) (st' := []) rfl ?_
      exact g_m_kindsOf_L17_ok ih zK hx1 hx2 (rfl : (1 : Int32).toInt = 1) (rfl : (0 : Int32).toInt = 0) H h
def g_m_kindsOf (σ : zS) : Option (Int × zS) :=
  g_m_kindsOf_L4 zK 0 0 σ
set_option maxHeartbeats 4000000 in
theorem g_m_kindsOf_ok {xl : Nat} {xs : Nat → Int32} {σ : zS} {p : Nat} {m : zM} {o : Int × zS} (H : zRep xl xs p m σ) (h : g_m_kindsOf σ = some o) : zGo xl xs (fun p' => p = p') 1 197 0 (z_can 197 0 (lv_args 0 [.ref 143])) [] m (vI o.1) o.2 := by
  have hq : z_mth 197 = some z_r197 := rfl
  unfold g_m_kindsOf at h
  show zGo xl xs (fun p' => p = p') 1 197 0 [(0, .ref 143)] [] m (vI o.1) o.2
  refine r_p hq 4 (pc' := 4) (L' := [(0, .ref 143), (1, .int ((0 : Int32))), (2, .int ((0 : Int32)))]) (st' := []) rfl ?_
  exact g_m_kindsOf_L4_ok zK (rfl : (0 : Int32).toInt = 0) (rfl : (0 : Int32).toInt = 0) H h
def g_m_measured_L102 (ys0 : Int) (σ : zS) : Option (Int × zS) :=
  let v_104 := σ 143 15
  if v_104 = 0 then
    some (ys0, σ)
  else
    some (-9223372036854775807, σ)
set_option maxHeartbeats 4000000 in
theorem g_m_measured_L102_ok {xl : Nat} {xs : Nat → Int32} {Ys0 : Int64} {ys0 : Int} (hys0 : Ys0.toInt = ys0) {σ : zS} {p : Nat} {m : zM} {o : Int × zS} (H : zRep xl xs p m σ) (h : g_m_measured_L102 ys0 σ = some o) : zGo xl xs (fun p' => p = p') 3 198 102 [(0, .ref 143)] [.long Ys0] m (vL o.1) o.2 := by
  have hq : z_mth 198 = some z_r198 := rfl
  unfold g_m_measured_L102 at h
  refine r_p hq 2 (pc' := 104) (L' := [(2, .long Ys0), (0, .ref 143)]) (st' := [.ref 143]) rfl ?_
  refine r_gI (pc' := 107) (L' := [(2, .long Ys0), (0, .ref 143)]) H hq (z_at.mk 3 rfl rfl) rfl rfl rfl rfl ?_
  intro V_104 hV_104
  rcases z_ite h with ⟨c_107, h⟩ | ⟨c_107, h⟩
  · refine r_t1 (pc' := 116) (L' := [(2, .long Ys0), (0, .ref 143)]) hq (z_at.mk 3 rfl rfl) rfl hV_104 c_107 rfl rfl ?_
    refine r_p hq 1 (pc' := 117) (L' := []) (st' := [.long Ys0]) rfl ?_
    cases h
    exact r_rl hq (z_at.mk 1 rfl rfl) rfl hys0 rfl H
  · refine r_f1 (pc' := 110) (L' := [(2, .long Ys0), (0, .ref 143)]) hq (z_at.mk 3 rfl rfl) rfl hV_104 c_107 rfl rfl ?_
    refine r_p hq 2 (pc' := 117) (L' := []) (st' := [.long ((-9223372036854775807 : Int64))]) rfl ?_
    cases h
    exact r_rl hq (z_at.mk 1 rfl rfl) rfl (rfl : (-9223372036854775807 : Int64).toInt = -9223372036854775807) rfl H
def g_m_measured_L25 (x1 : Int) (σ : zS) : Option (Int × zS) :=
  if x1 ≠ 0 then
    if x1 ≠ 1 then
      if x1 ≠ 2 then
        if x1 ≠ 3 then
          if x1 ≠ 4 then
            if x1 ≠ 5 then
              (g_m_kindsOf σ).bind fun o_98 =>
              g_m_measured_L102 o_98.1 o_98.2
            else
              (g_m_spanOf σ).bind fun o_91 =>
              g_m_measured_L102 o_91.1 o_91.2
          else
            (g_m_meanOf σ).bind fun o_79 =>
            g_m_measured_L102 o_79.1 o_79.2
        else
          (g_m_mostOf σ).bind fun o_67 =>
          g_m_measured_L102 o_67.1 o_67.2
      else
        (g_m_leastOf σ).bind fun o_55 =>
        g_m_measured_L102 o_55.1 o_55.2
    else
      (g_m_sumOf σ).bind fun o_43 =>
      g_m_measured_L102 o_43.1 o_43.2
  else
    let v_30 := σ 143 14
    g_m_measured_L102 v_30 σ
set_option maxHeartbeats 4000000 in
theorem g_m_measured_L25_ok {xl : Nat} {xs : Nat → Int32} {X1 : Int32} {x1 : Int} (hx1 : X1.toInt = x1) {σ : zS} {p : Nat} {m : zM} {o : Int × zS} (H : zRep xl xs p m σ) (h : g_m_measured_L25 x1 σ = some o) : zGo xl xs (fun p' => p = p') 3 198 25 [(0, .ref 143), (1, .int X1)] [] m (vL o.1) o.2 := by
  have hq : z_mth 198 = some z_r198 := rfl
  unfold g_m_measured_L25 at h
  refine r_p hq 1 (pc' := 26) (L' := [(0, .ref 143), (1, .int X1)]) (st' := [.int X1]) rfl ?_
  rcases z_ite h with ⟨c_26, h⟩ | ⟨c_26, h⟩
  · refine r_t1 (pc' := 37) (L' := [(0, .ref 143), (1, .int X1)]) hq (z_at.mk 3 rfl rfl) rfl hx1 c_26 rfl rfl ?_
    refine r_p hq 2 (pc' := 39) (L' := [(0, .ref 143), (1, .int X1)]) (st' := [.int ((1 : Int32)), .int X1]) rfl ?_
    rcases z_ite h with ⟨c_39, h⟩ | ⟨c_39, h⟩
    · refine r_t2 (pc' := 49) (L' := [(0, .ref 143), (1, .int X1)]) hq (z_at.mk 3 rfl rfl) rfl hx1 (rfl : (1 : Int32).toInt = 1) c_39 rfl rfl ?_
      refine r_p hq 2 (pc' := 51) (L' := [(0, .ref 143), (1, .int X1)]) (st' := [.int ((2 : Int32)), .int X1]) rfl ?_
      rcases z_ite h with ⟨c_51, h⟩ | ⟨c_51, h⟩
      · refine r_t2 (pc' := 61) (L' := [(0, .ref 143), (1, .int X1)]) hq (z_at.mk 3 rfl rfl) rfl hx1 (rfl : (2 : Int32).toInt = 2) c_51 rfl rfl ?_
        refine r_p hq 2 (pc' := 63) (L' := [(0, .ref 143), (1, .int X1)]) (st' := [.int ((3 : Int32)), .int X1]) rfl ?_
        rcases z_ite h with ⟨c_63, h⟩ | ⟨c_63, h⟩
        · refine r_t2 (pc' := 73) (L' := [(0, .ref 143), (1, .int X1)]) hq (z_at.mk 3 rfl rfl) rfl hx1 (rfl : (3 : Int32).toInt = 3) c_63 rfl rfl ?_
          refine r_p hq 2 (pc' := 75) (L' := [(0, .ref 143), (1, .int X1)]) (st' := [.int ((4 : Int32)), .int X1]) rfl ?_
          rcases z_ite h with ⟨c_75, h⟩ | ⟨c_75, h⟩
          · refine r_t2 (pc' := 85) (L' := [(0, .ref 143), (1, .int X1)]) hq (z_at.mk 3 rfl rfl) rfl hx1 (rfl : (4 : Int32).toInt = 4) c_75 rfl rfl ?_
            refine r_p hq 2 (pc' := 87) (L' := [(0, .ref 143), (1, .int X1)]) (st' := [.int ((5 : Int32)), .int X1]) rfl ?_
            rcases z_ite h with ⟨c_87, h⟩ | ⟨c_87, h⟩
            · refine r_t2 (pc' := 97) (L' := [(0, .ref 143), (1, .int X1)]) hq (z_at.mk 3 rfl rfl) rfl hx1 (rfl : (5 : Int32).toInt = 5) c_87 rfl rfl ?_
              refine r_p hq 1 (pc' := 98) (L' := [(0, .ref 143), (1, .int X1)]) (st' := [.ref 143]) rfl ?_
              obtain ⟨o_98, h_98, h⟩ := Option.bind_eq_some_iff.mp h
              refine r_cvI (pc' := 101) (L' := [(0, .ref 143), (1, .int X1)]) (Ps := []) (rest := []) hq (z_at.mk 3 rfl rfl) (Or.inl ⟨rfl, rfl⟩) rfl rfl (by decide) (by decide) rfl (Nat.not_lt.mpr (Nat.le_of_ble_eq_true rfl)) rfl rfl (z_cat_le 0 rfl (by decide)) (z_lgl_le 1 rfl (by decide)) (by decide) (H.tg rfl) (by omega) (g_m_kindsOf_ok H h_98) rfl rfl ?_
              intro R_98 m_98 p_98 e_98 hR_98 H_98
              subst e_98
              refine r_p hq 1 (pc' := 102) (L' := [(0, .ref 143)]) (st' := [.long R_98.toInt64]) rfl ?_
              exact g_m_measured_L102_ok (tx_i2l hR_98) H_98 h
            · refine r_f2 (pc' := 90) (L' := [(0, .ref 143), (1, .int X1)]) hq (z_at.mk 3 rfl rfl) rfl hx1 (rfl : (5 : Int32).toInt = 5) c_87 rfl rfl ?_
              refine r_p hq 1 (pc' := 91) (L' := [(0, .ref 143), (1, .int X1)]) (st' := [.ref 143]) rfl ?_
              obtain ⟨o_91, h_91, h⟩ := Option.bind_eq_some_iff.mp h
              refine r_cvL (pc' := 94) (L' := [(0, .ref 143), (1, .int X1)]) (Ps := []) (rest := []) hq (z_at.mk 3 rfl rfl) (Or.inl ⟨rfl, rfl⟩) rfl rfl (by decide) (by decide) rfl (Nat.not_lt.mpr (Nat.le_of_ble_eq_true rfl)) rfl rfl (z_cat_le 0 rfl (by decide)) (z_lgl_le 1 rfl (by decide)) (by decide) (H.tg rfl) (by omega) (g_m_spanOf_ok H h_91) rfl rfl ?_
              intro R_91 m_91 p_91 e_91 hR_91 H_91
              subst e_91
              refine r_p hq 1 (pc' := 102) (L' := [(0, .ref 143)]) (st' := [.long R_91]) rfl ?_
              exact g_m_measured_L102_ok hR_91 H_91 h
          · refine r_f2 (pc' := 78) (L' := [(0, .ref 143), (1, .int X1)]) hq (z_at.mk 3 rfl rfl) rfl hx1 (rfl : (4 : Int32).toInt = 4) c_75 rfl rfl ?_
            refine r_p hq 1 (pc' := 79) (L' := [(0, .ref 143), (1, .int X1)]) (st' := [.ref 143]) rfl ?_
            obtain ⟨o_79, h_79, h⟩ := Option.bind_eq_some_iff.mp h
            refine r_cvL (pc' := 82) (L' := [(0, .ref 143), (1, .int X1)]) (Ps := []) (rest := []) hq (z_at.mk 3 rfl rfl) (Or.inl ⟨rfl, rfl⟩) rfl rfl (by decide) (by decide) rfl (Nat.not_lt.mpr (Nat.le_of_ble_eq_true rfl)) rfl rfl (z_cat_le 0 rfl (by decide)) (z_lgl_le 1 rfl (by decide)) (by decide) (H.tg rfl) (by omega) (g_m_meanOf_ok H h_79) rfl rfl ?_
            intro R_79 m_79 p_79 e_79 hR_79 H_79
            subst e_79
            refine r_p hq 1 (pc' := 102) (L' := [(0, .ref 143)]) (st' := [.long R_79]) rfl ?_
            exact g_m_measured_L102_ok hR_79 H_79 h
        · refine r_f2 (pc' := 66) (L' := [(0, .ref 143), (1, .int X1)]) hq (z_at.mk 3 rfl rfl) rfl hx1 (rfl : (3 : Int32).toInt = 3) c_63 rfl rfl ?_
          refine r_p hq 1 (pc' := 67) (L' := [(0, .ref 143), (1, .int X1)]) (st' := [.ref 143]) rfl ?_
          obtain ⟨o_67, h_67, h⟩ := Option.bind_eq_some_iff.mp h
          refine r_cvL (pc' := 70) (L' := [(0, .ref 143), (1, .int X1)]) (Ps := []) (rest := []) hq (z_at.mk 3 rfl rfl) (Or.inl ⟨rfl, rfl⟩) rfl rfl (by decide) (by decide) rfl (Nat.not_lt.mpr (Nat.le_of_ble_eq_true rfl)) rfl rfl (z_cat_le 0 rfl (by decide)) (z_lgl_le 1 rfl (by decide)) (by decide) (H.tg rfl) (by omega) (g_m_mostOf_ok H h_67) rfl rfl ?_
          intro R_67 m_67 p_67 e_67 hR_67 H_67
          subst e_67
          refine r_p hq 1 (pc' := 102) (L' := [(0, .ref 143)]) (st' := [.long R_67]) rfl ?_
          exact g_m_measured_L102_ok hR_67 H_67 h
      · refine r_f2 (pc' := 54) (L' := [(0, .ref 143), (1, .int X1)]) hq (z_at.mk 3 rfl rfl) rfl hx1 (rfl : (2 : Int32).toInt = 2) c_51 rfl rfl ?_
        refine r_p hq 1 (pc' := 55) (L' := [(0, .ref 143), (1, .int X1)]) (st' := [.ref 143]) rfl ?_
        obtain ⟨o_55, h_55, h⟩ := Option.bind_eq_some_iff.mp h
        refine r_cvL (pc' := 58) (L' := [(0, .ref 143), (1, .int X1)]) (Ps := []) (rest := []) hq (z_at.mk 3 rfl rfl) (Or.inl ⟨rfl, rfl⟩) rfl rfl (by decide) (by decide) rfl (Nat.not_lt.mpr (Nat.le_of_ble_eq_true rfl)) rfl rfl (z_cat_le 0 rfl (by decide)) (z_lgl_le 1 rfl (by decide)) (by decide) (H.tg rfl) (by omega) (g_m_leastOf_ok H h_55) rfl rfl ?_
        intro R_55 m_55 p_55 e_55 hR_55 H_55
        subst e_55
        refine r_p hq 1 (pc' := 102) (L' := [(0, .ref 143)]) (st' := [.long R_55]) rfl ?_
        exact g_m_measured_L102_ok hR_55 H_55 h
    · refine r_f2 (pc' := 42) (L' := [(0, .ref 143), (1, .int X1)]) hq (z_at.mk 3 rfl rfl) rfl hx1 (rfl : (1 : Int32).toInt = 1) c_39 rfl rfl ?_
      refine r_p hq 1 (pc' := 43) (L' := [(0, .ref 143), (1, .int X1)]) (st' := [.ref 143]) rfl ?_
      obtain ⟨o_43, h_43, h⟩ := Option.bind_eq_some_iff.mp h
      refine r_cvL (pc' := 46) (L' := [(0, .ref 143), (1, .int X1)]) (Ps := []) (rest := []) hq (z_at.mk 3 rfl rfl) (Or.inl ⟨rfl, rfl⟩) rfl rfl (by decide) (by decide) rfl (Nat.not_lt.mpr (Nat.le_of_ble_eq_true rfl)) rfl rfl (z_cat_le 0 rfl (by decide)) (z_lgl_le 1 rfl (by decide)) (by decide) (H.tg rfl) (by omega) (g_m_sumOf_ok H h_43) rfl rfl ?_
      intro R_43 m_43 p_43 e_43 hR_43 H_43
      subst e_43
      refine r_p hq 1 (pc' := 102) (L' := [(0, .ref 143)]) (st' := [.long R_43]) rfl ?_
      exact g_m_measured_L102_ok hR_43 H_43 h
  · refine r_f1 (pc' := 29) (L' := [(0, .ref 143), (1, .int X1)]) hq (z_at.mk 3 rfl rfl) rfl hx1 c_26 rfl rfl ?_
    refine r_p hq 1 (pc' := 30) (L' := [(0, .ref 143), (1, .int X1)]) (st' := [.ref 143]) rfl ?_
    refine r_gI (pc' := 33) (L' := [(0, .ref 143), (1, .int X1)]) H hq (z_at.mk 3 rfl rfl) rfl rfl rfl rfl ?_
    intro V_30 hV_30
    refine r_p hq 2 (pc' := 102) (L' := [(0, .ref 143)]) (st' := [.long V_30.toInt64]) rfl ?_
    exact g_m_measured_L102_ok (tx_i2l hV_30) H h
def g_m_measured (x1 : Int) (σ : zS) : Option (Int × zS) :=
  let s_2 := zu σ 143 15 0
  let v_6 := s_2 143 14
  if v_6 ≠ 0 then
    g_m_measured_L25 x1 s_2
  else
    (g_m_isIn x1 2 5 s_2).bind fun o_15 =>
    if o_15.1 = 0 then
      g_m_measured_L25 x1 o_15.2
    else
      some (-9223372036854775808, o_15.2)
set_option maxHeartbeats 4000000 in
theorem g_m_measured_ok {xl : Nat} {xs : Nat → Int32} {X1 : Int32} {x1 : Int} (hx1 : X1.toInt = x1) {σ : zS} {p : Nat} {m : zM} {o : Int × zS} (H : zRep xl xs p m σ) (h : g_m_measured x1 σ = some o) : zGo xl xs (fun p' => p = p') 3 198 0 (z_can 198 0 (lv_args 0 [.ref 143, .int X1])) [] m (vL o.1) o.2 := by
  have hq : z_mth 198 = some z_r198 := rfl
  unfold g_m_measured at h
  show zGo xl xs (fun p' => p = p') 3 198 0 [(0, .ref 143), (1, .int X1)] [] m (vL o.1) o.2
  refine r_p hq 2 (pc' := 2) (L' := [(0, .ref 143), (1, .int X1)]) (st' := [.int ((0 : Int32)), .ref 143]) rfl ?_
  refine r_pI (X := (0 : Int32)) (pc' := 5) (L' := [(0, .ref 143), (1, .int X1)]) H hq (z_at.mk 3 rfl rfl) rfl rfl (rfl : (0 : Int32).toInt = 0) (by decide) rfl rfl rfl rfl ?_
  intro m_2 H_2
  refine r_p hq 1 (pc' := 6) (L' := [(0, .ref 143), (1, .int X1)]) (st' := [.ref 143]) rfl ?_
  refine r_gI (pc' := 9) (L' := [(0, .ref 143), (1, .int X1)]) H_2 hq (z_at.mk 3 rfl rfl) rfl rfl rfl rfl ?_
  intro V_6 hV_6
  rcases z_ite h with ⟨c_9, h⟩ | ⟨c_9, h⟩
  · refine r_t1 (pc' := 25) (L' := [(0, .ref 143), (1, .int X1)]) hq (z_at.mk 3 rfl rfl) rfl hV_6 c_9 rfl rfl ?_
    exact g_m_measured_L25_ok hx1 H_2 h
  · refine r_f1 (pc' := 12) (L' := [(0, .ref 143), (1, .int X1)]) hq (z_at.mk 3 rfl rfl) rfl hV_6 c_9 rfl rfl ?_
    refine r_p hq 3 (pc' := 15) (L' := [(0, .ref 143), (1, .int X1)]) (st' := [.int ((5 : Int32)), .int ((2 : Int32)), .int X1]) rfl ?_
    obtain ⟨o_15, h_15, h⟩ := Option.bind_eq_some_iff.mp h
    refine r_csI (pc' := 18) (L' := [(0, .ref 143), (1, .int X1)]) (As := [.int X1, .int ((2 : Int32)), .int ((5 : Int32))]) (rest := []) (j := 159) hq (z_at.mk 3 rfl rfl) (Or.inl ⟨rfl, rfl⟩) rfl rfl (by omega) (g_m_isIn_ok hx1 (rfl : (2 : Int32).toInt = 2) (rfl : (5 : Int32).toInt = 5) H_2 h_15) rfl rfl ?_
    intro R_15 m_15 p_15 e_15 hR_15 H_15
    subst e_15
    rcases z_ite h with ⟨c_18, h⟩ | ⟨c_18, h⟩
    · refine r_t1 (pc' := 25) (L' := [(0, .ref 143), (1, .int X1)]) hq (z_at.mk 3 rfl rfl) rfl hR_15 c_18 rfl rfl ?_
      exact g_m_measured_L25_ok hx1 H_15 h
    · refine r_f1 (pc' := 21) (L' := [(0, .ref 143), (1, .int X1)]) hq (z_at.mk 3 rfl rfl) rfl hR_15 c_18 rfl rfl ?_
      refine r_p hq 1 (pc' := 24) (L' := [(0, .ref 143), (1, .int X1)]) (st' := [.long ((-9223372036854775808 : Int64))]) rfl ?_
      cases h
      exact r_rl hq (z_at.mk 1 rfl rfl) rfl (rfl : (-9223372036854775808 : Int64).toInt = -9223372036854775808) rfl H_15
def g_m_asked_L27 : Nat → Int → Int → zS → Option (Int × zS)
  | 0, _, _, _ => none
  | n + 1, x1, x3, σ =>
    let v_29 := σ 143 14
    if v_29 ≤ x3 then
      (g_m_measured x1 σ).bind fun o_74 =>
      some (o_74.1, o_74.2)
    else
      if 0 ≤ x3 ∧ x3 < 60 then
      let v_49 := σ 154 x3
      if 0 ≤ w32 (200 + x3) ∧ w32 (200 + x3) < 2740 then
      let s_50 := zu σ 144 (w32 (200 + x3)) v_49
      if 0 ≤ x3 ∧ x3 < 60 then
      let v_64 := s_50 155 x3
      if 0 ≤ w32 (61 + x3) ∧ w32 (61 + x3) < 361 then
      let s_65 := zu s_50 147 (w32 (61 + x3)) v_64
      (g_m_asked_L27 n) x1 (w32 (x3 + 1)) s_65
      else none
      else none
      else none
      else none
set_option maxHeartbeats 4000000 in
theorem g_m_asked_L27_ok {xl : Nat} {xs : Nat → Int32} : ∀ (n : Nat) {X1 : Int32} {x1 : Int} {X3 : Int32} {x3 : Int} {σ : zS} {p : Nat} {m : zM} {o : Int × zS}, X1.toInt = x1 → X3.toInt = x3 → zRep xl xs p m σ → g_m_asked_L27 n x1 x3 σ = some o → zGo xl xs (fun p' => p = p') 506 199 27 [(0, .ref 143), (1, .int X1), (3, .int X3)] [] m (vL o.1) o.2
  | 0, _, _, _, _, _, _, _, _, _, _, _, h => by cases h
  | n + 1, X1, x1, X3, x3, σ, p, m, o, hx1, hx3, H, h => by
    have hq : z_mth 199 = some z_r199 := rfl
    have ih := fun {X1 : Int32} {x1 : Int} {X3 : Int32} {x3 : Int} {σ : zS} {p : Nat} {m : zM} {o : Int × zS} => g_m_asked_L27_ok (xl := xl) (xs := xs) n (X1 := X1) (x1 := x1) (X3 := X3) (x3 := x3) (σ := σ) (p := p) (m := m) (o := o)
    unfold g_m_asked_L27 at h
    refine r_p hq 2 (pc' := 29) (L' := [(0, .ref 143), (1, .int X1), (3, .int X3)]) (st' := [.ref 143, .int X3]) rfl ?_
    refine r_gI (pc' := 32) (L' := [(0, .ref 143), (1, .int X1), (3, .int X3)]) H hq (z_at.mk 3 rfl rfl) rfl rfl rfl rfl ?_
    intro V_29 hV_29
    rcases z_ite h with ⟨c_32, h⟩ | ⟨c_32, h⟩
    · refine r_t2 (pc' := 72) (L' := [(0, .ref 143), (1, .int X1), (3, .int X3)]) hq (z_at.mk 3 rfl rfl) rfl hx3 hV_29 c_32 rfl rfl ?_
      refine r_p hq 2 (pc' := 74) (L' := [(0, .ref 143), (1, .int X1), (3, .int X3)]) (st' := [.int X1, .ref 143]) rfl ?_
      obtain ⟨o_74, h_74, h⟩ := Option.bind_eq_some_iff.mp h
      refine r_cvL (pc' := 77) (L' := [(0, .ref 143), (1, .int X1), (3, .int X3)]) (Ps := [.int X1]) (rest := []) hq (z_at.mk 3 rfl rfl) (Or.inl ⟨rfl, rfl⟩) rfl rfl (by decide) (by decide) rfl (Nat.not_lt.mpr (Nat.le_of_ble_eq_true rfl)) rfl rfl (z_cat_le 0 rfl (by decide)) (z_lgl_le 2 rfl (by decide)) (by decide) (H.tg rfl) (by omega) (g_m_measured_ok hx1 H h_74) rfl rfl ?_
      intro R_74 m_74 p_74 e_74 hR_74 H_74
      subst e_74
      cases h
      exact r_rl hq (z_at.mk 1 rfl rfl) rfl hR_74 rfl H_74
    · refine r_f2 (pc' := 35) (L' := [(0, .ref 143), (1, .int X1), (3, .int X3)]) hq (z_at.mk 3 rfl rfl) rfl hx3 hV_29 c_32 rfl rfl ?_
      refine r_p hq 1 (pc' := 36) (L' := [(0, .ref 143), (1, .int X1), (3, .int X3)]) (st' := [.ref 143]) rfl ?_
      refine r_gR (b := 144) (pc' := 39) (L' := [(0, .ref 143), (1, .int X1), (3, .int X3)]) H hq (z_at.mk 3 rfl rfl) rfl rfl rfl rfl ?_
      refine r_p hq 4 (pc' := 45) (L' := [(0, .ref 143), (1, .int X1), (3, .int X3)]) (st' := [.ref 143, .int (((200 : Int32)) + X3), .ref 144]) rfl ?_
      refine r_gR (b := 154) (pc' := 48) (L' := [(0, .ref 143), (1, .int X1), (3, .int X3)]) H hq (z_at.mk 3 rfl rfl) rfl rfl rfl rfl ?_
      refine r_p hq 1 (pc' := 49) (L' := [(0, .ref 143), (1, .int X1), (3, .int X3)]) (st' := [.int X3, .ref 154, .int (((200 : Int32)) + X3), .ref 144]) rfl ?_
      obtain ⟨g_49, h⟩ := z_ifo_some h
      refine r_ia (pc' := 50) (L' := [(0, .ref 143), (1, .int X1), (3, .int X3)]) H hq (z_at.mk 1 rfl rfl) (show zAr 154 0 60 = true from rfl) hx3 g_49 rfl rfl ?_
      intro V_49 hV_49
      obtain ⟨g_50, h⟩ := z_ifo_some h
      refine r_is (pc' := 51) (L' := [(0, .ref 143), (1, .int X1), (3, .int X3)]) H hq (z_at.mk 1 rfl rfl) (show zAr 144 0 2740 = true from rfl) (tx_iadd (rfl : (200 : Int32).toInt = 200) hx3) g_50 hV_49 rfl rfl ?_
      intro m_50 H_50
      refine r_p hq 1 (pc' := 52) (L' := [(0, .ref 143), (1, .int X1), (3, .int X3)]) (st' := [.ref 143]) rfl ?_
      refine r_gR (b := 147) (pc' := 55) (L' := [(0, .ref 143), (1, .int X1), (3, .int X3)]) H_50 hq (z_at.mk 3 rfl rfl) rfl rfl rfl rfl ?_
      refine r_p hq 4 (pc' := 60) (L' := [(0, .ref 143), (1, .int X1), (3, .int X3)]) (st' := [.ref 143, .int (((61 : Int32)) + X3), .ref 147]) rfl ?_
      refine r_gR (b := 155) (pc' := 63) (L' := [(0, .ref 143), (1, .int X1), (3, .int X3)]) H_50 hq (z_at.mk 3 rfl rfl) rfl rfl rfl rfl ?_
      refine r_p hq 1 (pc' := 64) (L' := [(0, .ref 143), (1, .int X1), (3, .int X3)]) (st' := [.int X3, .ref 155, .int (((61 : Int32)) + X3), .ref 147]) rfl ?_
      obtain ⟨g_64, h⟩ := z_ifo_some h
      refine r_la (pc' := 65) (L' := [(0, .ref 143), (1, .int X1), (3, .int X3)]) H_50 hq (z_at.mk 1 rfl rfl) (show zAr 155 1 60 = true from rfl) hx3 g_64 rfl rfl ?_
      intro V_64 hV_64
      obtain ⟨g_65, h⟩ := z_ifo_some h
      refine r_ls (pc' := 66) (L' := [(0, .ref 143), (1, .int X1), (3, .int X3)]) H_50 hq (z_at.mk 1 rfl rfl) (show zAr 147 1 361 = true from rfl) (tx_iadd (rfl : (61 : Int32).toInt = 61) hx3) g_65 hV_64 rfl rfl ?_
      intro m_65 H_65
      refine r_p hq 2 (pc' := 27) (L' := [(0, .ref 143), (1, .int X1), (3, .int (X3 + (1 : Int32)))]) (st' := []) rfl ?_
      exact ih hx1 (tx_iadd hx3 (rfl : (1 : Int32).toInt = 1)) H_65 h
def g_m_asked (x1 : Int) (x2 : Int) (σ : zS) : Option (Int × zS) :=
  (g_m_queries σ).bind fun o_1 =>
  (g_m_gathers 152 0 x2 o_1.2).bind fun o_11 =>
  let v_21 := o_11.2 143 14
  let s_24 := zu o_11.2 144 8 v_21
  g_m_asked_L27 zK x1 0 s_24
set_option maxHeartbeats 4000000 in
theorem g_m_asked_ok {xl : Nat} {xs : Nat → Int32} {X1 : Int32} {x1 : Int} (hx1 : X1.toInt = x1) {X2 : Int32} {x2 : Int} (hx2 : X2.toInt = x2) {σ : zS} {p : Nat} {m : zM} {o : Int × zS} (H : zRep xl xs p m σ) (h : g_m_asked x1 x2 σ = some o) : zGo xl xs (fun p' => p = p') 506 199 0 (z_can 199 0 (lv_args 0 [.ref 143, .int X1, .int X2])) [] m (vL o.1) o.2 := by
  have hq : z_mth 199 = some z_r199 := rfl
  unfold g_m_asked at h
  show zGo xl xs (fun p' => p = p') 506 199 0 [(0, .ref 143), (1, .int X1), (2, .int X2)] [] m (vL o.1) o.2
  refine r_p hq 1 (pc' := 1) (L' := [(0, .ref 143), (1, .int X1), (2, .int X2)]) (st' := [.ref 143]) rfl ?_
  obtain ⟨o_1, h_1, h⟩ := Option.bind_eq_some_iff.mp h
  refine r_cvV (pc' := 4) (L' := [(0, .ref 143), (1, .int X1), (2, .int X2)]) (Ps := []) (rest := []) hq (z_at.mk 3 rfl rfl) (Or.inl ⟨rfl, rfl⟩) rfl rfl (by decide) (by decide) rfl (Nat.not_lt.mpr (Nat.le_of_ble_eq_true rfl)) rfl rfl (z_cat_le 0 rfl (by decide)) (z_lgl_le 1 rfl (by decide)) (by decide) (H.tg rfl) (by omega) (g_m_queries_ok H h_1) rfl rfl ?_
  intro m_1 p_1 e_1 H_1
  subst e_1
  refine r_p hq 2 (pc' := 6) (L' := [(0, .ref 143), (1, .int X1), (2, .int X2)]) (st' := [.ref 143, .ref 143]) rfl ?_
  refine r_gR (b := 152) (pc' := 9) (L' := [(0, .ref 143), (1, .int X1), (2, .int X2)]) H_1 hq (z_at.mk 3 rfl rfl) rfl rfl rfl rfl ?_
  refine r_p hq 2 (pc' := 11) (L' := [(0, .ref 143), (1, .int X1), (2, .int X2)]) (st' := [.int X2, .int ((0 : Int32)), .ref 152, .ref 143]) rfl ?_
  obtain ⟨o_11, h_11, h⟩ := Option.bind_eq_some_iff.mp h
  refine r_cvV (pc' := 14) (L' := [(0, .ref 143), (1, .int X1), (2, .int X2)]) (Ps := [.ref 152, .int ((0 : Int32)), .int X2]) (rest := []) hq (z_at.mk 3 rfl rfl) (Or.inl ⟨rfl, rfl⟩) rfl rfl (by decide) (by decide) rfl (Nat.not_lt.mpr (Nat.le_of_ble_eq_true rfl)) rfl rfl (z_cat_le 0 rfl (by decide)) (z_lgl_le 4 rfl (by decide)) (by decide) (H_1.tg rfl) (by omega) (g_m_gathers_ok rfl (rfl : (0 : Int32).toInt = 0) hx2 H_1 h_11) rfl rfl ?_
  intro m_11 p_11 e_11 H_11
  subst e_11
  refine r_p hq 1 (pc' := 15) (L' := [(0, .ref 143), (1, .int X1), (2, .int X2)]) (st' := [.ref 143]) rfl ?_
  refine r_gR (b := 144) (pc' := 18) (L' := [(0, .ref 143), (1, .int X1), (2, .int X2)]) H_11 hq (z_at.mk 3 rfl rfl) rfl rfl rfl rfl ?_
  refine r_p hq 2 (pc' := 21) (L' := [(0, .ref 143), (1, .int X1), (2, .int X2)]) (st' := [.ref 143, .int ((8 : Int32)), .ref 144]) rfl ?_
  refine r_gI (pc' := 24) (L' := [(0, .ref 143), (1, .int X1), (2, .int X2)]) H_11 hq (z_at.mk 3 rfl rfl) rfl rfl rfl rfl ?_
  intro V_21 hV_21
  refine r_is (pc' := 25) (L' := [(0, .ref 143), (1, .int X1), (2, .int X2)]) H_11 hq (z_at.mk 1 rfl rfl) (show zAr 144 0 2740 = true from rfl) (rfl : (8 : Int32).toInt = 8) ⟨by decide, by decide⟩ hV_21 rfl rfl ?_
  intro m_24 H_24
  refine r_p hq 2 (pc' := 27) (L' := [(0, .ref 143), (1, .int X1), (3, .int ((0 : Int32)))]) (st' := []) rfl ?_
  exact g_m_asked_L27_ok zK hx1 (rfl : (0 : Int32).toInt = 0) H_24 h
def g_m_cuts_L194 (g86 : Int → Int → Int → zS → Option (Unit × zS)) (y4 : Int) (x6 : Int) (x7 : Int) (σ : zS) : Option (Unit × zS) :=
  g86 y4 x6 (w32 (x7 + 1)) σ
set_option maxHeartbeats 4000000 in
theorem g_m_cuts_L194_ok {xl : Nat} {xs : Nat → Int32} {g86 : Int → Int → Int → zS → Option (Unit × zS)} (hg86 : ∀ {Y4 : Int64} {y4 : Int} {X6 : Int32} {x6 : Int} {X7 : Int32} {x7 : Int} {σ : zS} {p : Nat} {m : zM} {o : Unit × zS}, Y4.toInt = y4 → X6.toInt = x6 → X7.toInt = x7 → zRep xl xs p m σ → g86 y4 x6 x7 σ = some o → zGo xl xs (fun p' => p = p') 4 201 86 [(0, .ref 143), (4, .long Y4), (6, .int X6), (7, .int X7)] [] m vV o.2) {Y4 : Int64} {y4 : Int} (hy4 : Y4.toInt = y4) {X6 : Int32} {x6 : Int} (hx6 : X6.toInt = x6) {X7 : Int32} {x7 : Int} (hx7 : X7.toInt = x7) {σ : zS} {p : Nat} {m : zM} {o : Unit × zS} (H : zRep xl xs p m σ) (h : g_m_cuts_L194 g86 y4 x6 x7 σ = some o) : zGo xl xs (fun p' => p = p') 4 201 194 [(0, .ref 143), (4, .long Y4), (6, .int X6), (7, .int X7)] [] m vV o.2 := by
  have hq : z_mth 201 = some z_r201 := rfl
  unfold g_m_cuts_L194 at h
  refine r_p hq 2 (pc' := 86) (L' := [(0, .ref 143), (4, .long Y4), (6, .int X6), (7, .int (X7 + (1 : Int32)))]) (st' := []) rfl ?_
  exact hg86 hy4 hx6 (tx_iadd hx7 (rfl : (1 : Int32).toInt = 1)) H h
def g_m_cuts_L86 : Nat → Int → Int → Int → zS → Option (Unit × zS)
  | 0, _, _, _, _ => none
  | n + 1, y4, x6, x7, σ =>
    if x6 ≤ x7 then
      some ((), σ)
    else
      (g_m_adds 151 (w32 (4 * x7)) σ).bind fun o_102 =>
      (g_m_region_173 o_102.1 o_102.2).bind fun o_113 =>
      let v_125 := o_113.2 156 9
      if 0 ≤ w32 (o_113.1 + 9) ∧ w32 (o_113.1 + 9) < 2740 then
      let s_126 := zu o_113.2 144 (w32 (o_113.1 + 9)) v_125
      if 0 ≤ w32 (121 + o_102.1) ∧ w32 (121 + o_102.1) < 361 then
      let s_138 := zu s_126 147 (w32 (121 + o_102.1)) y4
      let v_144 := s_138 156 4
      if v_144 < 0 then
        g_m_cuts_L194 ((g_m_cuts_L86 n)) y4 x6 x7 s_138
      else
        (g_m_doMeet 156 151 4 (w32 (4 * x7)) s_138).bind fun o_161 =>
        if o_161.1 = 0 then
          g_m_cuts_L194 ((g_m_cuts_L86 n)) y4 x6 x7 o_161.2
        else
          (g_m_region_173 o_102.1 o_161.2).bind fun o_186 =>
          (g_m_commons 156 151 144 4 (w32 (4 * x7)) (w32 (o_186.1 + 4)) o_186.2).bind fun o_191 =>
          g_m_cuts_L194 ((g_m_cuts_L86 n)) y4 x6 x7 o_191.2
      else none
      else none
set_option maxHeartbeats 4000000 in
theorem g_m_cuts_L86_ok {xl : Nat} {xs : Nat → Int32} : ∀ (n : Nat) {Y4 : Int64} {y4 : Int} {X6 : Int32} {x6 : Int} {X7 : Int32} {x7 : Int} {σ : zS} {p : Nat} {m : zM} {o : Unit × zS}, Y4.toInt = y4 → X6.toInt = x6 → X7.toInt = x7 → zRep xl xs p m σ → g_m_cuts_L86 n y4 x6 x7 σ = some o → zGo xl xs (fun p' => p = p') 4 201 86 [(0, .ref 143), (4, .long Y4), (6, .int X6), (7, .int X7)] [] m vV o.2
  | 0, _, _, _, _, _, _, _, _, _, _, _, _, _, _, h => by cases h
  | n + 1, Y4, y4, X6, x6, X7, x7, σ, p, m, o, hy4, hx6, hx7, H, h => by
    have hq : z_mth 201 = some z_r201 := rfl
    have ih := fun {Y4 : Int64} {y4 : Int} {X6 : Int32} {x6 : Int} {X7 : Int32} {x7 : Int} {σ : zS} {p : Nat} {m : zM} {o : Unit × zS} => g_m_cuts_L86_ok (xl := xl) (xs := xs) n (Y4 := Y4) (y4 := y4) (X6 := X6) (x6 := x6) (X7 := X7) (x7 := x7) (σ := σ) (p := p) (m := m) (o := o)
    unfold g_m_cuts_L86 at h
    refine r_p hq 2 (pc' := 90) (L' := [(0, .ref 143), (4, .long Y4), (6, .int X6), (7, .int X7)]) (st' := [.int X6, .int X7]) rfl ?_
    rcases z_ite h with ⟨c_90, h⟩ | ⟨c_90, h⟩
    · refine r_t2 (pc' := 200) (L' := [(0, .ref 143), (4, .long Y4), (6, .int X6), (7, .int X7)]) hq (z_at.mk 3 rfl rfl) rfl hx7 hx6 c_90 rfl rfl ?_
      cases h
      exact r_rv hq (z_at.mk 1 rfl rfl) rfl rfl H
    · refine r_f2 (pc' := 93) (L' := [(0, .ref 143), (4, .long Y4), (6, .int X6), (7, .int X7)]) hq (z_at.mk 3 rfl rfl) rfl hx7 hx6 c_90 rfl rfl ?_
      refine r_p hq 2 (pc' := 95) (L' := [(0, .ref 143), (4, .long Y4), (6, .int X6), (7, .int X7)]) (st' := [.ref 143, .ref 143]) rfl ?_
      refine r_gR (b := 151) (pc' := 98) (L' := [(0, .ref 143), (4, .long Y4), (6, .int X6), (7, .int X7)]) H hq (z_at.mk 3 rfl rfl) rfl rfl rfl rfl ?_
      refine r_p hq 3 (pc' := 102) (L' := [(0, .ref 143), (4, .long Y4), (6, .int X6), (7, .int X7)]) (st' := [.int (((4 : Int32)) * X7), .ref 151, .ref 143]) rfl ?_
      obtain ⟨o_102, h_102, h⟩ := Option.bind_eq_some_iff.mp h
      refine r_cvI (pc' := 105) (L' := [(0, .ref 143), (4, .long Y4), (6, .int X6), (7, .int X7)]) (Ps := [.ref 151, .int (((4 : Int32)) * X7)]) (rest := []) hq (z_at.mk 3 rfl rfl) (Or.inl ⟨rfl, rfl⟩) rfl rfl (by decide) (by decide) rfl (Nat.not_lt.mpr (Nat.le_of_ble_eq_true rfl)) rfl rfl (z_cat_le 0 rfl (by decide)) (z_lgl_le 3 rfl (by decide)) (by decide) (H.tg rfl) (by omega) (g_m_adds_ok rfl (tx_imul (rfl : (4 : Int32).toInt = 4) hx7) H h_102) rfl rfl ?_
      intro R_102 m_102 p_102 e_102 hR_102 H_102
      subst e_102
      refine r_p hq 2 (pc' := 108) (L' := [(8, .int R_102), (0, .ref 143), (4, .long Y4), (6, .int X6), (7, .int X7)]) (st' := [.ref 143]) rfl ?_
      refine r_gR (b := 144) (pc' := 111) (L' := [(8, .int R_102), (0, .ref 143), (4, .long Y4), (6, .int X6), (7, .int X7)]) H_102 hq (z_at.mk 3 rfl rfl) rfl rfl rfl rfl ?_
      refine r_p hq 1 (pc' := 113) (L' := [(8, .int R_102), (0, .ref 143), (4, .long Y4), (6, .int X6), (7, .int X7)]) (st' := [.int R_102, .ref 144]) rfl ?_
      obtain ⟨o_113, h_113, h⟩ := Option.bind_eq_some_iff.mp h
      refine r_csI (pc' := 116) (L' := [(8, .int R_102), (0, .ref 143), (4, .long Y4), (6, .int X6), (7, .int X7)]) (As := [.int R_102]) (rest := [.ref 144]) (j := 173) hq (z_at.mk 3 rfl rfl) (Or.inl ⟨rfl, rfl⟩) rfl rfl (by omega) (g_m_region_173_ok hR_102 H_102 h_113) rfl rfl ?_
      intro R_113 m_113 p_113 e_113 hR_113 H_113
      subst e_113
      refine r_p hq 3 (pc' := 120) (L' := [(8, .int R_102), (0, .ref 143), (4, .long Y4), (6, .int X6), (7, .int X7)]) (st' := [.ref 143, .int (R_113 + ((9 : Int32))), .ref 144]) rfl ?_
      refine r_gR (b := 156) (pc' := 123) (L' := [(8, .int R_102), (0, .ref 143), (4, .long Y4), (6, .int X6), (7, .int X7)]) H_113 hq (z_at.mk 3 rfl rfl) rfl rfl rfl rfl ?_
      refine r_p hq 1 (pc' := 125) (L' := [(8, .int R_102), (0, .ref 143), (4, .long Y4), (6, .int X6), (7, .int X7)]) (st' := [.int ((9 : Int32)), .ref 156, .int (R_113 + ((9 : Int32))), .ref 144]) rfl ?_
      refine r_ia (pc' := 126) (L' := [(8, .int R_102), (0, .ref 143), (4, .long Y4), (6, .int X6), (7, .int X7)]) H_113 hq (z_at.mk 1 rfl rfl) (show zAr 156 0 10 = true from rfl) (rfl : (9 : Int32).toInt = 9) ⟨by decide, by decide⟩ rfl rfl ?_
      intro V_125 hV_125
      obtain ⟨g_126, h⟩ := z_ifo_some h
      refine r_is (pc' := 127) (L' := [(8, .int R_102), (0, .ref 143), (4, .long Y4), (6, .int X6), (7, .int X7)]) H_113 hq (z_at.mk 1 rfl rfl) (show zAr 144 0 2740 = true from rfl) (tx_iadd hR_113 (rfl : (9 : Int32).toInt = 9)) g_126 hV_125 rfl rfl ?_
      intro m_126 H_126
      refine r_p hq 1 (pc' := 128) (L' := [(8, .int R_102), (0, .ref 143), (4, .long Y4), (6, .int X6), (7, .int X7)]) (st' := [.ref 143]) rfl ?_
      refine r_gR (b := 147) (pc' := 131) (L' := [(8, .int R_102), (0, .ref 143), (4, .long Y4), (6, .int X6), (7, .int X7)]) H_126 hq (z_at.mk 3 rfl rfl) rfl rfl rfl rfl ?_
      refine r_p hq 4 (pc' := 138) (L' := [(8, .int R_102), (0, .ref 143), (4, .long Y4), (6, .int X6), (7, .int X7)]) (st' := [.long Y4, .int (((121 : Int32)) + R_102), .ref 147]) rfl ?_
      obtain ⟨g_138, h⟩ := z_ifo_some h
      refine r_ls (pc' := 139) (L' := [(8, .int R_102), (0, .ref 143), (4, .long Y4), (6, .int X6), (7, .int X7)]) H_126 hq (z_at.mk 1 rfl rfl) (show zAr 147 1 361 = true from rfl) (tx_iadd (rfl : (121 : Int32).toInt = 121) hR_102) g_138 hy4 rfl rfl ?_
      intro m_138 H_138
      refine r_p hq 1 (pc' := 140) (L' := [(8, .int R_102), (0, .ref 143), (4, .long Y4), (6, .int X6), (7, .int X7)]) (st' := [.ref 143]) rfl ?_
      refine r_gR (b := 156) (pc' := 143) (L' := [(8, .int R_102), (0, .ref 143), (4, .long Y4), (6, .int X6), (7, .int X7)]) H_138 hq (z_at.mk 3 rfl rfl) rfl rfl rfl rfl ?_
      refine r_p hq 1 (pc' := 144) (L' := [(8, .int R_102), (0, .ref 143), (4, .long Y4), (6, .int X6), (7, .int X7)]) (st' := [.int ((4 : Int32)), .ref 156]) rfl ?_
      refine r_ia (pc' := 145) (L' := [(8, .int R_102), (0, .ref 143), (4, .long Y4), (6, .int X6), (7, .int X7)]) H_138 hq (z_at.mk 1 rfl rfl) (show zAr 156 0 10 = true from rfl) (rfl : (4 : Int32).toInt = 4) ⟨by decide, by decide⟩ rfl rfl ?_
      intro V_144 hV_144
      rcases z_ite h with ⟨c_145, h⟩ | ⟨c_145, h⟩
      · refine r_t1 (pc' := 194) (L' := [(0, .ref 143), (4, .long Y4), (6, .int X6), (7, .int X7)]) hq (z_at.mk 3 rfl rfl) rfl hV_144 c_145 rfl rfl ?_
        exact g_m_cuts_L194_ok ih hy4 hx6 hx7 H_138 h
      · refine r_f1 (pc' := 148) (L' := [(8, .int R_102), (0, .ref 143), (4, .long Y4), (6, .int X6), (7, .int X7)]) hq (z_at.mk 3 rfl rfl) rfl hV_144 c_145 rfl rfl ?_
        refine r_p hq 1 (pc' := 149) (L' := [(8, .int R_102), (0, .ref 143), (4, .long Y4), (6, .int X6), (7, .int X7)]) (st' := [.ref 143]) rfl ?_
        refine r_gR (b := 156) (pc' := 152) (L' := [(8, .int R_102), (0, .ref 143), (4, .long Y4), (6, .int X6), (7, .int X7)]) H_138 hq (z_at.mk 3 rfl rfl) rfl rfl rfl rfl ?_
        refine r_p hq 2 (pc' := 154) (L' := [(8, .int R_102), (0, .ref 143), (4, .long Y4), (6, .int X6), (7, .int X7)]) (st' := [.ref 143, .int ((4 : Int32)), .ref 156]) rfl ?_
        refine r_gR (b := 151) (pc' := 157) (L' := [(8, .int R_102), (0, .ref 143), (4, .long Y4), (6, .int X6), (7, .int X7)]) H_138 hq (z_at.mk 3 rfl rfl) rfl rfl rfl rfl ?_
        refine r_p hq 3 (pc' := 161) (L' := [(8, .int R_102), (0, .ref 143), (4, .long Y4), (6, .int X6), (7, .int X7)]) (st' := [.int (((4 : Int32)) * X7), .ref 151, .int ((4 : Int32)), .ref 156]) rfl ?_
        obtain ⟨o_161, h_161, h⟩ := Option.bind_eq_some_iff.mp h
        refine r_csI (pc' := 164) (L' := [(8, .int R_102), (0, .ref 143), (4, .long Y4), (6, .int X6), (7, .int X7)]) (As := [.ref 156, .int ((4 : Int32)), .ref 151, .int (((4 : Int32)) * X7)]) (rest := []) (j := 169) hq (z_at.mk 3 rfl rfl) (Or.inl ⟨rfl, rfl⟩) rfl rfl (by omega) (g_m_doMeet_ok rfl rfl (rfl : (4 : Int32).toInt = 4) (tx_imul (rfl : (4 : Int32).toInt = 4) hx7) H_138 h_161) rfl rfl ?_
        intro R_161 m_161 p_161 e_161 hR_161 H_161
        subst e_161
        rcases z_ite h with ⟨c_164, h⟩ | ⟨c_164, h⟩
        · refine r_t1 (pc' := 194) (L' := [(0, .ref 143), (4, .long Y4), (6, .int X6), (7, .int X7)]) hq (z_at.mk 3 rfl rfl) rfl hR_161 c_164 rfl rfl ?_
          exact g_m_cuts_L194_ok ih hy4 hx6 hx7 H_161 h
        · refine r_f1 (pc' := 167) (L' := [(8, .int R_102), (0, .ref 143), (4, .long Y4), (6, .int X6), (7, .int X7)]) hq (z_at.mk 3 rfl rfl) rfl hR_161 c_164 rfl rfl ?_
          refine r_p hq 1 (pc' := 168) (L' := [(8, .int R_102), (0, .ref 143), (4, .long Y4), (6, .int X6), (7, .int X7)]) (st' := [.ref 143]) rfl ?_
          refine r_gR (b := 156) (pc' := 171) (L' := [(8, .int R_102), (0, .ref 143), (4, .long Y4), (6, .int X6), (7, .int X7)]) H_161 hq (z_at.mk 3 rfl rfl) rfl rfl rfl rfl ?_
          refine r_p hq 2 (pc' := 173) (L' := [(8, .int R_102), (0, .ref 143), (4, .long Y4), (6, .int X6), (7, .int X7)]) (st' := [.ref 143, .int ((4 : Int32)), .ref 156]) rfl ?_
          refine r_gR (b := 151) (pc' := 176) (L' := [(8, .int R_102), (0, .ref 143), (4, .long Y4), (6, .int X6), (7, .int X7)]) H_161 hq (z_at.mk 3 rfl rfl) rfl rfl rfl rfl ?_
          refine r_p hq 4 (pc' := 181) (L' := [(8, .int R_102), (0, .ref 143), (4, .long Y4), (6, .int X6), (7, .int X7)]) (st' := [.ref 143, .int (((4 : Int32)) * X7), .ref 151, .int ((4 : Int32)), .ref 156]) rfl ?_
          refine r_gR (b := 144) (pc' := 184) (L' := [(8, .int R_102), (0, .ref 143), (4, .long Y4), (6, .int X6), (7, .int X7)]) H_161 hq (z_at.mk 3 rfl rfl) rfl rfl rfl rfl ?_
          refine r_p hq 1 (pc' := 186) (L' := [(8, .int R_102), (0, .ref 143), (4, .long Y4), (6, .int X6), (7, .int X7)]) (st' := [.int R_102, .ref 144, .int (((4 : Int32)) * X7), .ref 151, .int ((4 : Int32)), .ref 156]) rfl ?_
          obtain ⟨o_186, h_186, h⟩ := Option.bind_eq_some_iff.mp h
          refine r_csI (pc' := 189) (L' := [(8, .int R_102), (0, .ref 143), (4, .long Y4), (6, .int X6), (7, .int X7)]) (As := [.int R_102]) (rest := [.ref 144, .int (((4 : Int32)) * X7), .ref 151, .int ((4 : Int32)), .ref 156]) (j := 173) hq (z_at.mk 3 rfl rfl) (Or.inl ⟨rfl, rfl⟩) rfl rfl (by omega) (g_m_region_173_ok hR_102 H_161 h_186) rfl rfl ?_
          intro R_186 m_186 p_186 e_186 hR_186 H_186
          subst e_186
          refine r_p hq 2 (pc' := 191) (L' := [(8, .int R_102), (0, .ref 143), (4, .long Y4), (6, .int X6), (7, .int X7)]) (st' := [.int (R_186 + ((4 : Int32))), .ref 144, .int (((4 : Int32)) * X7), .ref 151, .int ((4 : Int32)), .ref 156]) rfl ?_
          obtain ⟨o_191, h_191, h⟩ := Option.bind_eq_some_iff.mp h
          refine r_csV (pc' := 194) (L' := [(0, .ref 143), (4, .long Y4), (6, .int X6), (7, .int X7)]) (As := [.ref 156, .int ((4 : Int32)), .ref 151, .int (((4 : Int32)) * X7), .ref 144, .int (R_186 + ((4 : Int32)))]) (rest := []) (j := 170) hq (z_at.mk 3 rfl rfl) (Or.inl ⟨rfl, rfl⟩) rfl rfl (by omega) (g_m_commons_ok rfl rfl rfl (rfl : (4 : Int32).toInt = 4) (tx_imul (rfl : (4 : Int32).toInt = 4) hx7) (tx_iadd hR_186 (rfl : (4 : Int32).toInt = 4)) H_186 h_191) rfl rfl ?_
          intro m_191 p_191 e_191 H_191
          subst e_191
          exact g_m_cuts_L194_ok ih hy4 hx6 hx7 H_191 h
def g_m_cuts_L3 : Nat → Int → Int → Int → Int → zS → Option (Unit × zS)
  | 0, _, _, _, _, _ => none
  | n + 1, x1, x2, x3, x4, σ =>
    if 10 ≤ x4 then
      if 0 ≤ w32 (121 + x1) ∧ w32 (121 + x1) < 361 then
      let v_43 := σ 147 (w32 (121 + x1))
      (g_m_goes x1 σ).bind fun o_48 =>
      (g_m_sets 157 0 x2 x2 x3 x3 o_48.2).bind fun o_60 =>
      (g_m_rests 156 157 151 0 0 0 o_60.2).bind fun o_78 =>
      g_m_cuts_L86 zK v_43 o_78.1 0 o_78.2
      else none
    else
      (g_m_region_173 x1 σ).bind fun o_21 =>
      if 0 ≤ w32 (o_21.1 + x4) ∧ w32 (o_21.1 + x4) < 2740 then
      let v_27 := o_21.2 144 (w32 (o_21.1 + x4))
      if 0 ≤ x4 ∧ x4 < 10 then
      let s_28 := zu o_21.2 156 x4 v_27
      (g_m_cuts_L3 n) x1 x2 x3 (w32 (x4 + 1)) s_28
      else none
      else none
set_option maxHeartbeats 4000000 in
theorem g_m_cuts_L3_ok {xl : Nat} {xs : Nat → Int32} : ∀ (n : Nat) {X1 : Int32} {x1 : Int} {X2 : Int32} {x2 : Int} {X3 : Int32} {x3 : Int} {X4 : Int32} {x4 : Int} {σ : zS} {p : Nat} {m : zM} {o : Unit × zS}, X1.toInt = x1 → X2.toInt = x2 → X3.toInt = x3 → X4.toInt = x4 → zRep xl xs p m σ → g_m_cuts_L3 n x1 x2 x3 x4 σ = some o → zGo xl xs (fun p' => p = p') 4 201 3 [(0, .ref 143), (1, .int X1), (2, .int X2), (3, .int X3), (4, .int X4)] [] m vV o.2
  | 0, _, _, _, _, _, _, _, _, _, _, _, _, _, _, _, _, _, h => by cases h
  | n + 1, X1, x1, X2, x2, X3, x3, X4, x4, σ, p, m, o, hx1, hx2, hx3, hx4, H, h => by
    have hq : z_mth 201 = some z_r201 := rfl
    have ih := fun {X1 : Int32} {x1 : Int} {X2 : Int32} {x2 : Int} {X3 : Int32} {x3 : Int} {X4 : Int32} {x4 : Int} {σ : zS} {p : Nat} {m : zM} {o : Unit × zS} => g_m_cuts_L3_ok (xl := xl) (xs := xs) n (X1 := X1) (x1 := x1) (X2 := X2) (x2 := x2) (X3 := X3) (x3 := x3) (X4 := X4) (x4 := x4) (σ := σ) (p := p) (m := m) (o := o)
    unfold g_m_cuts_L3 at h
    refine r_p hq 2 (pc' := 7) (L' := [(0, .ref 143), (1, .int X1), (2, .int X2), (3, .int X3), (4, .int X4)]) (st' := [.int ((10 : Int32)), .int X4]) rfl ?_
    rcases z_ite h with ⟨c_7, h⟩ | ⟨c_7, h⟩
    · refine r_t2 (pc' := 35) (L' := [(0, .ref 143), (1, .int X1), (2, .int X2), (3, .int X3), (4, .int X4)]) hq (z_at.mk 3 rfl rfl) rfl hx4 (rfl : (10 : Int32).toInt = 10) c_7 rfl rfl ?_
      refine r_p hq 1 (pc' := 36) (L' := [(0, .ref 143), (1, .int X1), (2, .int X2), (3, .int X3), (4, .int X4)]) (st' := [.ref 143]) rfl ?_
      refine r_gR (b := 147) (pc' := 39) (L' := [(0, .ref 143), (1, .int X1), (2, .int X2), (3, .int X3), (4, .int X4)]) H hq (z_at.mk 3 rfl rfl) rfl rfl rfl rfl ?_
      refine r_p hq 3 (pc' := 43) (L' := [(0, .ref 143), (1, .int X1), (2, .int X2), (3, .int X3), (4, .int X4)]) (st' := [.int (((121 : Int32)) + X1), .ref 147]) rfl ?_
      obtain ⟨g_43, h⟩ := z_ifo_some h
      refine r_la (pc' := 44) (L' := [(0, .ref 143), (1, .int X1), (2, .int X2), (3, .int X3), (4, .int X4)]) H hq (z_at.mk 1 rfl rfl) (show zAr 147 1 361 = true from rfl) (tx_iadd (rfl : (121 : Int32).toInt = 121) hx1) g_43 rfl rfl ?_
      intro V_43 hV_43
      refine r_p hq 3 (pc' := 48) (L' := [(4, .long V_43), (0, .ref 143), (1, .int X1), (2, .int X2), (3, .int X3)]) (st' := [.int X1, .ref 143]) rfl ?_
      obtain ⟨o_48, h_48, h⟩ := Option.bind_eq_some_iff.mp h
      refine r_cvV (pc' := 51) (L' := [(4, .long V_43), (0, .ref 143), (1, .int X1), (2, .int X2), (3, .int X3)]) (Ps := [.int X1]) (rest := []) hq (z_at.mk 3 rfl rfl) (Or.inl ⟨rfl, rfl⟩) rfl rfl (by decide) (by decide) rfl (Nat.not_lt.mpr (Nat.le_of_ble_eq_true rfl)) rfl rfl (z_cat_le 0 rfl (by decide)) (z_lgl_le 2 rfl (by decide)) (by decide) (H.tg rfl) (by omega) (g_m_goes_ok hx1 H h_48) rfl rfl ?_
      intro m_48 p_48 e_48 H_48
      subst e_48
      refine r_p hq 1 (pc' := 52) (L' := [(4, .long V_43), (0, .ref 143), (1, .int X1), (2, .int X2), (3, .int X3)]) (st' := [.ref 143]) rfl ?_
      refine r_gR (b := 157) (pc' := 55) (L' := [(4, .long V_43), (0, .ref 143), (1, .int X1), (2, .int X2), (3, .int X3)]) H_48 hq (z_at.mk 3 rfl rfl) rfl rfl rfl rfl ?_
      refine r_p hq 5 (pc' := 60) (L' := [(4, .long V_43), (0, .ref 143), (1, .int X1), (2, .int X2), (3, .int X3)]) (st' := [.int X3, .int X3, .int X2, .int X2, .int ((0 : Int32)), .ref 157]) rfl ?_
      obtain ⟨o_60, h_60, h⟩ := Option.bind_eq_some_iff.mp h
      refine r_csV (pc' := 63) (L' := [(4, .long V_43), (0, .ref 143), (1, .int X1), (2, .int X2), (3, .int X3)]) (As := [.ref 157, .int ((0 : Int32)), .int X2, .int X2, .int X3, .int X3]) (rest := []) (j := 165) hq (z_at.mk 3 rfl rfl) (Or.inl ⟨rfl, rfl⟩) rfl rfl (by omega) (g_m_sets_ok rfl (rfl : (0 : Int32).toInt = 0) hx2 hx2 hx3 hx3 H_48 h_60) rfl rfl ?_
      intro m_60 p_60 e_60 H_60
      subst e_60
      refine r_p hq 1 (pc' := 64) (L' := [(4, .long V_43), (0, .ref 143), (1, .int X1), (2, .int X2), (3, .int X3)]) (st' := [.ref 143]) rfl ?_
      refine r_gR (b := 156) (pc' := 67) (L' := [(4, .long V_43), (0, .ref 143), (1, .int X1), (2, .int X2), (3, .int X3)]) H_60 hq (z_at.mk 3 rfl rfl) rfl rfl rfl rfl ?_
      refine r_p hq 2 (pc' := 69) (L' := [(4, .long V_43), (0, .ref 143), (1, .int X1), (2, .int X2), (3, .int X3)]) (st' := [.ref 143, .int ((0 : Int32)), .ref 156]) rfl ?_
      refine r_gR (b := 157) (pc' := 72) (L' := [(4, .long V_43), (0, .ref 143), (1, .int X1), (2, .int X2), (3, .int X3)]) H_60 hq (z_at.mk 3 rfl rfl) rfl rfl rfl rfl ?_
      refine r_p hq 2 (pc' := 74) (L' := [(4, .long V_43), (0, .ref 143), (1, .int X1), (2, .int X2), (3, .int X3)]) (st' := [.ref 143, .int ((0 : Int32)), .ref 157, .int ((0 : Int32)), .ref 156]) rfl ?_
      refine r_gR (b := 151) (pc' := 77) (L' := [(4, .long V_43), (0, .ref 143), (1, .int X1), (2, .int X2), (3, .int X3)]) H_60 hq (z_at.mk 3 rfl rfl) rfl rfl rfl rfl ?_
      refine r_p hq 1 (pc' := 78) (L' := [(4, .long V_43), (0, .ref 143), (1, .int X1), (2, .int X2), (3, .int X3)]) (st' := [.int ((0 : Int32)), .ref 151, .int ((0 : Int32)), .ref 157, .int ((0 : Int32)), .ref 156]) rfl ?_
      obtain ⟨o_78, h_78, h⟩ := Option.bind_eq_some_iff.mp h
      refine r_csI (pc' := 81) (L' := [(4, .long V_43), (0, .ref 143), (1, .int X1), (2, .int X2), (3, .int X3)]) (As := [.ref 156, .int ((0 : Int32)), .ref 157, .int ((0 : Int32)), .ref 151, .int ((0 : Int32))]) (rest := []) (j := 172) hq (z_at.mk 3 rfl rfl) (Or.inl ⟨rfl, rfl⟩) rfl rfl (by omega) (g_m_rests_ok rfl rfl rfl (rfl : (0 : Int32).toInt = 0) (rfl : (0 : Int32).toInt = 0) (rfl : (0 : Int32).toInt = 0) H_60 h_78) rfl rfl ?_
      intro R_78 m_78 p_78 e_78 hR_78 H_78
      subst e_78
      refine r_p hq 3 (pc' := 86) (L' := [(0, .ref 143), (4, .long V_43), (6, .int R_78), (7, .int ((0 : Int32)))]) (st' := []) rfl ?_
      exact g_m_cuts_L86_ok zK hV_43 hR_78 (rfl : (0 : Int32).toInt = 0) H_78 h
    · refine r_f2 (pc' := 10) (L' := [(0, .ref 143), (1, .int X1), (2, .int X2), (3, .int X3), (4, .int X4)]) hq (z_at.mk 3 rfl rfl) rfl hx4 (rfl : (10 : Int32).toInt = 10) c_7 rfl rfl ?_
      refine r_p hq 1 (pc' := 11) (L' := [(0, .ref 143), (1, .int X1), (2, .int X2), (3, .int X3), (4, .int X4)]) (st' := [.ref 143]) rfl ?_
      refine r_gR (b := 156) (pc' := 14) (L' := [(0, .ref 143), (1, .int X1), (2, .int X2), (3, .int X3), (4, .int X4)]) H hq (z_at.mk 3 rfl rfl) rfl rfl rfl rfl ?_
      refine r_p hq 2 (pc' := 17) (L' := [(0, .ref 143), (1, .int X1), (2, .int X2), (3, .int X3), (4, .int X4)]) (st' := [.ref 143, .int X4, .ref 156]) rfl ?_
      refine r_gR (b := 144) (pc' := 20) (L' := [(0, .ref 143), (1, .int X1), (2, .int X2), (3, .int X3), (4, .int X4)]) H hq (z_at.mk 3 rfl rfl) rfl rfl rfl rfl ?_
      refine r_p hq 1 (pc' := 21) (L' := [(0, .ref 143), (1, .int X1), (2, .int X2), (3, .int X3), (4, .int X4)]) (st' := [.int X1, .ref 144, .int X4, .ref 156]) rfl ?_
      obtain ⟨o_21, h_21, h⟩ := Option.bind_eq_some_iff.mp h
      refine r_csI (pc' := 24) (L' := [(0, .ref 143), (1, .int X1), (2, .int X2), (3, .int X3), (4, .int X4)]) (As := [.int X1]) (rest := [.ref 144, .int X4, .ref 156]) (j := 173) hq (z_at.mk 3 rfl rfl) (Or.inl ⟨rfl, rfl⟩) rfl rfl (by omega) (g_m_region_173_ok hx1 H h_21) rfl rfl ?_
      intro R_21 m_21 p_21 e_21 hR_21 H_21
      subst e_21
      refine r_p hq 2 (pc' := 27) (L' := [(0, .ref 143), (1, .int X1), (2, .int X2), (3, .int X3), (4, .int X4)]) (st' := [.int (R_21 + X4), .ref 144, .int X4, .ref 156]) rfl ?_
      obtain ⟨g_27, h⟩ := z_ifo_some h
      refine r_ia (pc' := 28) (L' := [(0, .ref 143), (1, .int X1), (2, .int X2), (3, .int X3), (4, .int X4)]) H_21 hq (z_at.mk 1 rfl rfl) (show zAr 144 0 2740 = true from rfl) (tx_iadd hR_21 hx4) g_27 rfl rfl ?_
      intro V_27 hV_27
      obtain ⟨g_28, h⟩ := z_ifo_some h
      refine r_is (pc' := 29) (L' := [(0, .ref 143), (1, .int X1), (2, .int X2), (3, .int X3), (4, .int X4)]) H_21 hq (z_at.mk 1 rfl rfl) (show zAr 156 0 10 = true from rfl) hx4 g_28 hV_27 rfl rfl ?_
      intro m_28 H_28
      refine r_p hq 2 (pc' := 3) (L' := [(0, .ref 143), (1, .int X1), (2, .int X2), (3, .int X3), (4, .int (X4 + (1 : Int32)))]) (st' := []) rfl ?_
      exact ih hx1 hx2 hx3 (tx_iadd hx4 (rfl : (1 : Int32).toInt = 1)) H_28 h
def g_m_cuts (x1 : Int) (x2 : Int) (x3 : Int) (σ : zS) : Option (Unit × zS) :=
  g_m_cuts_L3 zK x1 x2 x3 0 σ
set_option maxHeartbeats 4000000 in
theorem g_m_cuts_ok {xl : Nat} {xs : Nat → Int32} {X1 : Int32} {x1 : Int} (hx1 : X1.toInt = x1) {X2 : Int32} {x2 : Int} (hx2 : X2.toInt = x2) {X3 : Int32} {x3 : Int} (hx3 : X3.toInt = x3) {σ : zS} {p : Nat} {m : zM} {o : Unit × zS} (H : zRep xl xs p m σ) (h : g_m_cuts x1 x2 x3 σ = some o) : zGo xl xs (fun p' => p = p') 4 201 0 (z_can 201 0 (lv_args 0 [.ref 143, .int X1, .int X2, .int X3])) [] m vV o.2 := by
  have hq : z_mth 201 = some z_r201 := rfl
  unfold g_m_cuts at h
  show zGo xl xs (fun p' => p = p') 4 201 0 [(0, .ref 143), (1, .int X1), (2, .int X2), (3, .int X3)] [] m vV o.2
  refine r_p hq 2 (pc' := 3) (L' := [(0, .ref 143), (1, .int X1), (2, .int X2), (3, .int X3), (4, .int ((0 : Int32)))]) (st' := []) rfl ?_
  exact g_m_cuts_L3_ok zK hx1 hx2 hx3 (rfl : (0 : Int32).toInt = 0) H h
def g_m_writes_L62 (x1 : Int) (x2 : Int) (x3 : Int) (σ : zS) : Option (Unit × zS) :=
  let v_68 := σ 144 14
  if v_68 ≠ 2 then
    some ((), σ)
  else
    (g_m_cuts x3 x1 x2 σ).bind fun o_77 =>
    some ((), o_77.2)
set_option maxHeartbeats 4000000 in
theorem g_m_writes_L62_ok {xl : Nat} {xs : Nat → Int32} {X1 : Int32} {x1 : Int} (hx1 : X1.toInt = x1) {X2 : Int32} {x2 : Int} (hx2 : X2.toInt = x2) {X3 : Int32} {x3 : Int} (hx3 : X3.toInt = x3) {σ : zS} {p : Nat} {m : zM} {o : Unit × zS} (H : zRep xl xs p m σ) (h : g_m_writes_L62 x1 x2 x3 σ = some o) : zGo xl xs (fun p' => p = p') 5 200 62 [(0, .ref 143), (1, .int X1), (2, .int X2), (3, .int X3)] [] m vV o.2 := by
  have hq : z_mth 200 = some z_r200 := rfl
  unfold g_m_writes_L62 at h
  refine r_p hq 1 (pc' := 63) (L' := [(0, .ref 143), (1, .int X1), (2, .int X2), (3, .int X3)]) (st' := [.ref 143]) rfl ?_
  refine r_gR (b := 144) (pc' := 66) (L' := [(0, .ref 143), (1, .int X1), (2, .int X2), (3, .int X3)]) H hq (z_at.mk 3 rfl rfl) rfl rfl rfl rfl ?_
  refine r_p hq 1 (pc' := 68) (L' := [(0, .ref 143), (1, .int X1), (2, .int X2), (3, .int X3)]) (st' := [.int ((14 : Int32)), .ref 144]) rfl ?_
  refine r_ia (pc' := 69) (L' := [(0, .ref 143), (1, .int X1), (2, .int X2), (3, .int X3)]) H hq (z_at.mk 1 rfl rfl) (show zAr 144 0 2740 = true from rfl) (rfl : (14 : Int32).toInt = 14) ⟨by decide, by decide⟩ rfl rfl ?_
  intro V_68 hV_68
  refine r_p hq 1 (pc' := 70) (L' := [(0, .ref 143), (1, .int X1), (2, .int X2), (3, .int X3)]) (st' := [.int ((2 : Int32)), .int V_68]) rfl ?_
  rcases z_ite h with ⟨c_70, h⟩ | ⟨c_70, h⟩
  · refine r_t2 (pc' := 80) (L' := []) hq (z_at.mk 3 rfl rfl) rfl hV_68 (rfl : (2 : Int32).toInt = 2) c_70 rfl rfl ?_
    cases h
    exact r_rv hq (z_at.mk 1 rfl rfl) rfl rfl H
  · refine r_f2 (pc' := 73) (L' := [(0, .ref 143), (1, .int X1), (2, .int X2), (3, .int X3)]) hq (z_at.mk 3 rfl rfl) rfl hV_68 (rfl : (2 : Int32).toInt = 2) c_70 rfl rfl ?_
    refine r_p hq 4 (pc' := 77) (L' := [(0, .ref 143), (1, .int X1), (2, .int X2), (3, .int X3)]) (st' := [.int X2, .int X1, .int X3, .ref 143]) rfl ?_
    obtain ⟨o_77, h_77, h⟩ := Option.bind_eq_some_iff.mp h
    refine r_cvV (pc' := 80) (L' := []) (Ps := [.int X3, .int X1, .int X2]) (rest := []) hq (z_at.mk 3 rfl rfl) (Or.inl ⟨rfl, rfl⟩) rfl rfl (by decide) (by decide) rfl (Nat.not_lt.mpr (Nat.le_of_ble_eq_true rfl)) rfl rfl (z_cat_le 0 rfl (by decide)) (z_lgl_le 4 rfl (by decide)) (by decide) (H.tg rfl) (by omega) (g_m_cuts_ok hx3 hx1 hx2 H h_77) rfl rfl ?_
    intro m_77 p_77 e_77 H_77
    subst e_77
    cases h
    exact r_rv hq (z_at.mk 1 rfl rfl) rfl rfl H_77
def g_m_writes_L2 : Nat → Int → Int → Int → zS → Option (Unit × zS)
  | 0, _, _, _, _ => none
  | n + 1, x1, x2, x3, σ =>
    let v_8 := σ 144 0
    if v_8 ≤ x3 then
      some ((), σ)
    else
      (g_m_region_173 x3 σ).bind fun o_13 =>
      (g_m_has 144 o_13.1 x1 x2 o_13.2).bind fun o_26 =>
      if o_26.1 ≠ 0 then
        let v_42 := o_26.2 144 7
        let s_45 := zu o_26.2 144 7 (w32 (v_42 + 1))
        let v_52 := s_45 144 14
        if v_52 ≠ 1 then
          g_m_writes_L62 x1 x2 x3 s_45
        else
          (g_m_goes x3 s_45).bind fun o_59 =>
          g_m_writes_L62 x1 x2 x3 o_59.2
      else
        (g_m_writes_L2 n) x1 x2 (w32 (x3 + 1)) o_26.2
set_option maxHeartbeats 4000000 in
theorem g_m_writes_L2_ok {xl : Nat} {xs : Nat → Int32} : ∀ (n : Nat) {X1 : Int32} {x1 : Int} {X2 : Int32} {x2 : Int} {X3 : Int32} {x3 : Int} {σ : zS} {p : Nat} {m : zM} {o : Unit × zS}, X1.toInt = x1 → X2.toInt = x2 → X3.toInt = x3 → zRep xl xs p m σ → g_m_writes_L2 n x1 x2 x3 σ = some o → zGo xl xs (fun p' => p = p') 5 200 2 [(0, .ref 143), (1, .int X1), (2, .int X2), (3, .int X3)] [] m vV o.2
  | 0, _, _, _, _, _, _, _, _, _, _, _, _, _, _, h => by cases h
  | n + 1, X1, x1, X2, x2, X3, x3, σ, p, m, o, hx1, hx2, hx3, H, h => by
    have hq : z_mth 200 = some z_r200 := rfl
    have ih := fun {X1 : Int32} {x1 : Int} {X2 : Int32} {x2 : Int} {X3 : Int32} {x3 : Int} {σ : zS} {p : Nat} {m : zM} {o : Unit × zS} => g_m_writes_L2_ok (xl := xl) (xs := xs) n (X1 := X1) (x1 := x1) (X2 := X2) (x2 := x2) (X3 := X3) (x3 := x3) (σ := σ) (p := p) (m := m) (o := o)
    unfold g_m_writes_L2 at h
    refine r_p hq 2 (pc' := 4) (L' := [(0, .ref 143), (1, .int X1), (2, .int X2), (3, .int X3)]) (st' := [.ref 143, .int X3]) rfl ?_
    refine r_gR (b := 144) (pc' := 7) (L' := [(0, .ref 143), (1, .int X1), (2, .int X2), (3, .int X3)]) H hq (z_at.mk 3 rfl rfl) rfl rfl rfl rfl ?_
    refine r_p hq 1 (pc' := 8) (L' := [(0, .ref 143), (1, .int X1), (2, .int X2), (3, .int X3)]) (st' := [.int ((0 : Int32)), .ref 144, .int X3]) rfl ?_
    refine r_ia (pc' := 9) (L' := [(0, .ref 143), (1, .int X1), (2, .int X2), (3, .int X3)]) H hq (z_at.mk 1 rfl rfl) (show zAr 144 0 2740 = true from rfl) (rfl : (0 : Int32).toInt = 0) ⟨by decide, by decide⟩ rfl rfl ?_
    intro V_8 hV_8
    rcases z_ite h with ⟨c_9, h⟩ | ⟨c_9, h⟩
    · refine r_t2 (pc' := 87) (L' := [(0, .ref 143), (1, .int X1), (2, .int X2), (3, .int X3)]) hq (z_at.mk 3 rfl rfl) rfl hx3 hV_8 c_9 rfl rfl ?_
      cases h
      exact r_rv hq (z_at.mk 1 rfl rfl) rfl rfl H
    · refine r_f2 (pc' := 12) (L' := [(0, .ref 143), (1, .int X1), (2, .int X2), (3, .int X3)]) hq (z_at.mk 3 rfl rfl) rfl hx3 hV_8 c_9 rfl rfl ?_
      refine r_p hq 1 (pc' := 13) (L' := [(0, .ref 143), (1, .int X1), (2, .int X2), (3, .int X3)]) (st' := [.int X3]) rfl ?_
      obtain ⟨o_13, h_13, h⟩ := Option.bind_eq_some_iff.mp h
      refine r_csI (pc' := 16) (L' := [(0, .ref 143), (1, .int X1), (2, .int X2), (3, .int X3)]) (As := [.int X3]) (rest := []) (j := 173) hq (z_at.mk 3 rfl rfl) (Or.inl ⟨rfl, rfl⟩) rfl rfl (by omega) (g_m_region_173_ok hx3 H h_13) rfl rfl ?_
      intro R_13 m_13 p_13 e_13 hR_13 H_13
      subst e_13
      refine r_p hq 2 (pc' := 19) (L' := [(4, .int R_13), (0, .ref 143), (1, .int X1), (2, .int X2), (3, .int X3)]) (st' := [.ref 143]) rfl ?_
      refine r_gR (b := 144) (pc' := 22) (L' := [(4, .int R_13), (0, .ref 143), (1, .int X1), (2, .int X2), (3, .int X3)]) H_13 hq (z_at.mk 3 rfl rfl) rfl rfl rfl rfl ?_
      refine r_p hq 3 (pc' := 26) (L' := [(4, .int R_13), (0, .ref 143), (1, .int X1), (2, .int X2), (3, .int X3)]) (st' := [.int X2, .int X1, .int R_13, .ref 144]) rfl ?_
      obtain ⟨o_26, h_26, h⟩ := Option.bind_eq_some_iff.mp h
      refine r_csI (pc' := 29) (L' := [(4, .int R_13), (0, .ref 143), (1, .int X1), (2, .int X2), (3, .int X3)]) (As := [.ref 144, .int R_13, .int X1, .int X2]) (rest := []) (j := 168) hq (z_at.mk 3 rfl rfl) (Or.inl ⟨rfl, rfl⟩) rfl rfl (by omega) (g_m_has_ok rfl hR_13 hx1 hx2 H_13 h_26) rfl rfl ?_
      intro R_26 m_26 p_26 e_26 hR_26 H_26
      subst e_26
      rcases z_ite h with ⟨c_29, h⟩ | ⟨c_29, h⟩
      · refine r_t1 (pc' := 35) (L' := [(4, .int R_13), (0, .ref 143), (1, .int X1), (2, .int X2), (3, .int X3)]) hq (z_at.mk 3 rfl rfl) rfl hR_26 c_29 rfl rfl ?_
        refine r_p hq 1 (pc' := 36) (L' := [(4, .int R_13), (0, .ref 143), (1, .int X1), (2, .int X2), (3, .int X3)]) (st' := [.ref 143]) rfl ?_
        refine r_gR (b := 144) (pc' := 39) (L' := [(4, .int R_13), (0, .ref 143), (1, .int X1), (2, .int X2), (3, .int X3)]) H_26 hq (z_at.mk 3 rfl rfl) rfl rfl rfl rfl ?_
        refine r_p hq 2 (pc' := 42) (L' := [(4, .int R_13), (0, .ref 143), (1, .int X1), (2, .int X2), (3, .int X3)]) (st' := [.int ((7 : Int32)), .ref 144, .int ((7 : Int32)), .ref 144]) rfl ?_
        refine r_ia (pc' := 43) (L' := [(4, .int R_13), (0, .ref 143), (1, .int X1), (2, .int X2), (3, .int X3)]) H_26 hq (z_at.mk 1 rfl rfl) (show zAr 144 0 2740 = true from rfl) (rfl : (7 : Int32).toInt = 7) ⟨by decide, by decide⟩ rfl rfl ?_
        intro V_42 hV_42
        refine r_p hq 2 (pc' := 45) (L' := [(4, .int R_13), (0, .ref 143), (1, .int X1), (2, .int X2), (3, .int X3)]) (st' := [.int (V_42 + ((1 : Int32))), .int ((7 : Int32)), .ref 144]) rfl ?_
        refine r_is (pc' := 46) (L' := [(4, .int R_13), (0, .ref 143), (1, .int X1), (2, .int X2), (3, .int X3)]) H_26 hq (z_at.mk 1 rfl rfl) (show zAr 144 0 2740 = true from rfl) (rfl : (7 : Int32).toInt = 7) ⟨by decide, by decide⟩ (tx_iadd hV_42 (rfl : (1 : Int32).toInt = 1)) rfl rfl ?_
        intro m_45 H_45
        refine r_p hq 1 (pc' := 47) (L' := [(4, .int R_13), (0, .ref 143), (1, .int X1), (2, .int X2), (3, .int X3)]) (st' := [.ref 143]) rfl ?_
        refine r_gR (b := 144) (pc' := 50) (L' := [(4, .int R_13), (0, .ref 143), (1, .int X1), (2, .int X2), (3, .int X3)]) H_45 hq (z_at.mk 3 rfl rfl) rfl rfl rfl rfl ?_
        refine r_p hq 1 (pc' := 52) (L' := [(4, .int R_13), (0, .ref 143), (1, .int X1), (2, .int X2), (3, .int X3)]) (st' := [.int ((14 : Int32)), .ref 144]) rfl ?_
        refine r_ia (pc' := 53) (L' := [(4, .int R_13), (0, .ref 143), (1, .int X1), (2, .int X2), (3, .int X3)]) H_45 hq (z_at.mk 1 rfl rfl) (show zAr 144 0 2740 = true from rfl) (rfl : (14 : Int32).toInt = 14) ⟨by decide, by decide⟩ rfl rfl ?_
        intro V_52 hV_52
        refine r_p hq 1 (pc' := 54) (L' := [(4, .int R_13), (0, .ref 143), (1, .int X1), (2, .int X2), (3, .int X3)]) (st' := [.int ((1 : Int32)), .int V_52]) rfl ?_
        rcases z_ite h with ⟨c_54, h⟩ | ⟨c_54, h⟩
        · refine r_t2 (pc' := 62) (L' := [(0, .ref 143), (1, .int X1), (2, .int X2), (3, .int X3)]) hq (z_at.mk 3 rfl rfl) rfl hV_52 (rfl : (1 : Int32).toInt = 1) c_54 rfl rfl ?_
          exact g_m_writes_L62_ok hx1 hx2 hx3 H_45 h
        · refine r_f2 (pc' := 57) (L' := [(4, .int R_13), (0, .ref 143), (1, .int X1), (2, .int X2), (3, .int X3)]) hq (z_at.mk 3 rfl rfl) rfl hV_52 (rfl : (1 : Int32).toInt = 1) c_54 rfl rfl ?_
          refine r_p hq 2 (pc' := 59) (L' := [(4, .int R_13), (0, .ref 143), (1, .int X1), (2, .int X2), (3, .int X3)]) (st' := [.int X3, .ref 143]) rfl ?_
          obtain ⟨o_59, h_59, h⟩ := Option.bind_eq_some_iff.mp h
          refine r_cvV (pc' := 62) (L' := [(0, .ref 143), (1, .int X1), (2, .int X2), (3, .int X3)]) (Ps := [.int X3]) (rest := []) hq (z_at.mk 3 rfl rfl) (Or.inl ⟨rfl, rfl⟩) rfl rfl (by decide) (by decide) rfl (Nat.not_lt.mpr (Nat.le_of_ble_eq_true rfl)) rfl rfl (z_cat_le 0 rfl (by decide)) (z_lgl_le 2 rfl (by decide)) (by decide) (H_45.tg rfl) (by omega) (g_m_goes_ok hx3 H_45 h_59) rfl rfl ?_
          intro m_59 p_59 e_59 H_59
          subst e_59
          exact g_m_writes_L62_ok hx1 hx2 hx3 H_59 h
      · refine r_f1 (pc' := 32) (L' := [(4, .int R_13), (0, .ref 143), (1, .int X1), (2, .int X2), (3, .int X3)]) hq (z_at.mk 3 rfl rfl) rfl hR_26 c_29 rfl rfl ?_
        refine r_p hq 3 (pc' := 2) (L' := [(0, .ref 143), (1, .int X1), (2, .int X2), (3, .int (X3 + (1 : Int32)))]) (st' := []) rfl ?_
        exact ih hx1 hx2 (tx_iadd hx3 (rfl : (1 : Int32).toInt = 1)) H_26 h
def g_m_writes (x1 : Int) (x2 : Int) (σ : zS) : Option (Unit × zS) :=
  g_m_writes_L2 zK x1 x2 0 σ
set_option maxHeartbeats 4000000 in
theorem g_m_writes_ok {xl : Nat} {xs : Nat → Int32} {X1 : Int32} {x1 : Int} (hx1 : X1.toInt = x1) {X2 : Int32} {x2 : Int} (hx2 : X2.toInt = x2) {σ : zS} {p : Nat} {m : zM} {o : Unit × zS} (H : zRep xl xs p m σ) (h : g_m_writes x1 x2 σ = some o) : zGo xl xs (fun p' => p = p') 5 200 0 (z_can 200 0 (lv_args 0 [.ref 143, .int X1, .int X2])) [] m vV o.2 := by
  have hq : z_mth 200 = some z_r200 := rfl
  unfold g_m_writes at h
  show zGo xl xs (fun p' => p = p') 5 200 0 [(0, .ref 143), (1, .int X1), (2, .int X2)] [] m vV o.2
  refine r_p hq 2 (pc' := 2) (L' := [(0, .ref 143), (1, .int X1), (2, .int X2), (3, .int ((0 : Int32)))]) (st' := []) rfl ?_
  exact g_m_writes_L2_ok zK hx1 hx2 (rfl : (0 : Int32).toInt = 0) H h
def g_m_isWatch (x1 : Int) (σ : zS) : Option (Int × zS) :=
  let v_8 := σ 144 10
  (g_m_isIn x1 0 (w32 (v_8 - 1)) σ).bind fun o_11 =>
  if o_11.1 = 0 ∨ o_11.1 = 1 then some (o_11.1, o_11.2) else none
set_option maxHeartbeats 4000000 in
theorem g_m_isWatch_ok {xl : Nat} {xs : Nat → Int32} {X1 : Int32} {x1 : Int} (hx1 : X1.toInt = x1) {σ : zS} {p : Nat} {m : zM} {o : Int × zS} (H : zRep xl xs p m σ) (h : g_m_isWatch x1 σ = some o) : zGo xl xs (fun p' => p = p') 2 259 0 (z_can 259 0 (lv_args 0 [.ref 143, .int X1])) [] m (vI o.1) o.2 := by
  have hq : z_mth 259 = some z_r259 := rfl
  unfold g_m_isWatch at h
  show zGo xl xs (fun p' => p = p') 2 259 0 [(0, .ref 143), (1, .int X1)] [] m (vI o.1) o.2
  refine r_p hq 3 (pc' := 3) (L' := [(0, .ref 143), (1, .int X1)]) (st' := [.ref 143, .int ((0 : Int32)), .int X1]) rfl ?_
  refine r_gR (b := 144) (pc' := 6) (L' := [(0, .ref 143), (1, .int X1)]) H hq (z_at.mk 3 rfl rfl) rfl rfl rfl rfl ?_
  refine r_p hq 1 (pc' := 8) (L' := [(0, .ref 143), (1, .int X1)]) (st' := [.int ((10 : Int32)), .ref 144, .int ((0 : Int32)), .int X1]) rfl ?_
  refine r_ia (pc' := 9) (L' := [(0, .ref 143), (1, .int X1)]) H hq (z_at.mk 1 rfl rfl) (show zAr 144 0 2740 = true from rfl) (rfl : (10 : Int32).toInt = 10) ⟨by decide, by decide⟩ rfl rfl ?_
  intro V_8 hV_8
  refine r_p hq 2 (pc' := 11) (L' := [(0, .ref 143), (1, .int X1)]) (st' := [.int (V_8 - ((1 : Int32))), .int ((0 : Int32)), .int X1]) rfl ?_
  obtain ⟨o_11, h_11, h⟩ := Option.bind_eq_some_iff.mp h
  refine r_csI (pc' := 14) (L' := [(0, .ref 143), (1, .int X1)]) (As := [.int X1, .int ((0 : Int32)), .int (V_8 - ((1 : Int32)))]) (rest := []) (j := 159) hq (z_at.mk 3 rfl rfl) (Or.inl ⟨rfl, rfl⟩) rfl rfl (by omega) (g_m_isIn_ok hx1 (rfl : (0 : Int32).toInt = 0) (tx_isub hV_8 (rfl : (1 : Int32).toInt = 1)) H h_11) rfl rfl ?_
  intro R_11 m_11 p_11 e_11 hR_11 H_11
  subst e_11
  obtain ⟨g_14, h⟩ := z_if_some h
  cases h
  exact r_ri hq (z_at.mk 1 rfl rfl) rfl (z_rty_bo hR_11 g_14) hR_11 rfl H_11
def g_m_value (x1 : Int) (σ : zS) : Option (Int × zS) :=
  (g_m_isWatch x1 σ).bind fun o_2 =>
  if o_2.1 ≠ 0 then
    (g_m_gathers 144 (w32 ((w32 (300 + (w32 (6 * x1)))) + 1)) (-1) o_2.2).bind fun o_28 =>
    if 0 ≤ w32 (300 + (w32 (6 * x1))) ∧ w32 (300 + (w32 (6 * x1))) < 2740 then
    let v_44 := o_28.2 144 (w32 (300 + (w32 (6 * x1))))
    (g_m_measured v_44 o_28.2).bind fun o_45 =>
    some (o_45.1, o_45.2)
    else none
  else
    some (-9223372036854775808, o_2.2)
set_option maxHeartbeats 4000000 in
theorem g_m_value_ok {xl : Nat} {xs : Nat → Int32} {X1 : Int32} {x1 : Int} (hx1 : X1.toInt = x1) {σ : zS} {p : Nat} {m : zM} {o : Int × zS} (H : zRep xl xs p m σ) (h : g_m_value x1 σ = some o) : zGo xl xs (fun p' => p = p') 506 260 0 (z_can 260 0 (lv_args 0 [.ref 143, .int X1])) [] m (vL o.1) o.2 := by
  have hq : z_mth 260 = some z_r260 := rfl
  unfold g_m_value at h
  show zGo xl xs (fun p' => p = p') 506 260 0 [(0, .ref 143), (1, .int X1)] [] m (vL o.1) o.2
  refine r_p hq 2 (pc' := 2) (L' := [(0, .ref 143), (1, .int X1)]) (st' := [.int X1, .ref 143]) rfl ?_
  obtain ⟨o_2, h_2, h⟩ := Option.bind_eq_some_iff.mp h
  refine r_cvI (pc' := 5) (L' := [(0, .ref 143), (1, .int X1)]) (Ps := [.int X1]) (rest := []) hq (z_at.mk 3 rfl rfl) (Or.inl ⟨rfl, rfl⟩) rfl rfl (by decide) (by decide) rfl (Nat.not_lt.mpr (Nat.le_of_ble_eq_true rfl)) rfl rfl (z_cat_le 0 rfl (by decide)) (z_lgl_le 2 rfl (by decide)) (by decide) (H.tg rfl) (by omega) (g_m_isWatch_ok hx1 H h_2) rfl rfl ?_
  intro R_2 m_2 p_2 e_2 hR_2 H_2
  subst e_2
  rcases z_ite h with ⟨c_5, h⟩ | ⟨c_5, h⟩
  · refine r_t1 (pc' := 12) (L' := [(0, .ref 143), (1, .int X1)]) hq (z_at.mk 3 rfl rfl) rfl hR_2 c_5 rfl rfl ?_
    refine r_p hq 2 (pc' := 14) (L' := [(0, .ref 143), (1, .int X1)]) (st' := [.ref 143, .ref 143]) rfl ?_
    refine r_gR (b := 144) (pc' := 17) (L' := [(0, .ref 143), (1, .int X1)]) H_2 hq (z_at.mk 3 rfl rfl) rfl rfl rfl rfl ?_
    refine r_p hq 8 (pc' := 28) (L' := [(0, .ref 143), (1, .int X1)]) (st' := [.int ((-1 : Int32)), .int ((((300 : Int32)) + (((6 : Int32)) * X1)) + ((1 : Int32))), .ref 144, .ref 143]) rfl ?_
    obtain ⟨o_28, h_28, h⟩ := Option.bind_eq_some_iff.mp h
    refine r_cvV (pc' := 31) (L' := [(0, .ref 143), (1, .int X1)]) (Ps := [.ref 144, .int ((((300 : Int32)) + (((6 : Int32)) * X1)) + ((1 : Int32))), .int ((-1 : Int32))]) (rest := []) hq (z_at.mk 3 rfl rfl) (Or.inl ⟨rfl, rfl⟩) rfl rfl (by decide) (by decide) rfl (Nat.not_lt.mpr (Nat.le_of_ble_eq_true rfl)) rfl rfl (z_cat_le 0 rfl (by decide)) (z_lgl_le 4 rfl (by decide)) (by decide) (H_2.tg rfl) (by omega) (g_m_gathers_ok rfl (tx_iadd (tx_iadd (rfl : (300 : Int32).toInt = 300) (tx_imul (rfl : (6 : Int32).toInt = 6) hx1)) (rfl : (1 : Int32).toInt = 1)) (rfl : (-1 : Int32).toInt = -1) H_2 h_28) rfl rfl ?_
    intro m_28 p_28 e_28 H_28
    subst e_28
    refine r_p hq 2 (pc' := 33) (L' := [(0, .ref 143), (1, .int X1)]) (st' := [.ref 143, .ref 143]) rfl ?_
    refine r_gR (b := 144) (pc' := 36) (L' := [(0, .ref 143), (1, .int X1)]) H_28 hq (z_at.mk 3 rfl rfl) rfl rfl rfl rfl ?_
    refine r_p hq 5 (pc' := 44) (L' := [(0, .ref 143), (1, .int X1)]) (st' := [.int (((300 : Int32)) + (((6 : Int32)) * X1)), .ref 144, .ref 143]) rfl ?_
    obtain ⟨g_44, h⟩ := z_ifo_some h
    refine r_ia (pc' := 45) (L' := [(0, .ref 143), (1, .int X1)]) H_28 hq (z_at.mk 1 rfl rfl) (show zAr 144 0 2740 = true from rfl) (tx_iadd (rfl : (300 : Int32).toInt = 300) (tx_imul (rfl : (6 : Int32).toInt = 6) hx1)) g_44 rfl rfl ?_
    intro V_44 hV_44
    obtain ⟨o_45, h_45, h⟩ := Option.bind_eq_some_iff.mp h
    refine r_cvL (pc' := 48) (L' := [(0, .ref 143), (1, .int X1)]) (Ps := [.int V_44]) (rest := []) hq (z_at.mk 3 rfl rfl) (Or.inl ⟨rfl, rfl⟩) rfl rfl (by decide) (by decide) rfl (Nat.not_lt.mpr (Nat.le_of_ble_eq_true rfl)) rfl rfl (z_cat_le 0 rfl (by decide)) (z_lgl_le 2 rfl (by decide)) (by decide) (H_28.tg rfl) (by omega) (g_m_measured_ok hV_44 H_28 h_45) rfl rfl ?_
    intro R_45 m_45 p_45 e_45 hR_45 H_45
    subst e_45
    cases h
    exact r_rl hq (z_at.mk 1 rfl rfl) rfl hR_45 rfl H_45
  · refine r_f1 (pc' := 8) (L' := [(0, .ref 143), (1, .int X1)]) hq (z_at.mk 3 rfl rfl) rfl hR_2 c_5 rfl rfl ?_
    refine r_p hq 1 (pc' := 11) (L' := [(0, .ref 143), (1, .int X1)]) (st' := [.long ((-9223372036854775808 : Int64))]) rfl ?_
    cases h
    exact r_rl hq (z_at.mk 1 rfl rfl) rfl (rfl : (-9223372036854775808 : Int64).toInt = -9223372036854775808) rfl H_2
def g_m_values_L2 : Nat → Int → zS → Option (Unit × zS)
  | 0, _, _ => none
  | n + 1, x1, σ =>
    let v_9 := σ 144 10
    if v_9 ≤ x1 then
      some ((), σ)
    else
      (g_m_value x1 σ).bind fun o_20 =>
      if 0 ≤ x1 ∧ x1 < 6 then
      let s_23 := zu o_20.2 158 x1 o_20.1
      (g_m_values_L2 n) (w32 (x1 + 1)) s_23
      else none
set_option maxHeartbeats 4000000 in
theorem g_m_values_L2_ok {xl : Nat} {xs : Nat → Int32} : ∀ (n : Nat) {X1 : Int32} {x1 : Int} {σ : zS} {p : Nat} {m : zM} {o : Unit × zS}, X1.toInt = x1 → zRep xl xs p m σ → g_m_values_L2 n x1 σ = some o → zGo xl xs (fun p' => p = p') 507 202 2 [(0, .ref 143), (1, .int X1)] [] m vV o.2
  | 0, _, _, _, _, _, _, _, _, h => by cases h
  | n + 1, X1, x1, σ, p, m, o, hx1, H, h => by
    have hq : z_mth 202 = some z_r202 := rfl
    have ih := fun {X1 : Int32} {x1 : Int} {σ : zS} {p : Nat} {m : zM} {o : Unit × zS} => g_m_values_L2_ok (xl := xl) (xs := xs) n (X1 := X1) (x1 := x1) (σ := σ) (p := p) (m := m) (o := o)
    unfold g_m_values_L2 at h
    refine r_p hq 2 (pc' := 4) (L' := [(0, .ref 143), (1, .int X1)]) (st' := [.ref 143, .int X1]) rfl ?_
    refine r_gR (b := 144) (pc' := 7) (L' := [(0, .ref 143), (1, .int X1)]) H hq (z_at.mk 3 rfl rfl) rfl rfl rfl rfl ?_
    refine r_p hq 1 (pc' := 9) (L' := [(0, .ref 143), (1, .int X1)]) (st' := [.int ((10 : Int32)), .ref 144, .int X1]) rfl ?_
    refine r_ia (pc' := 10) (L' := [(0, .ref 143), (1, .int X1)]) H hq (z_at.mk 1 rfl rfl) (show zAr 144 0 2740 = true from rfl) (rfl : (10 : Int32).toInt = 10) ⟨by decide, by decide⟩ rfl rfl ?_
    intro V_9 hV_9
    rcases z_ite h with ⟨c_10, h⟩ | ⟨c_10, h⟩
    · refine r_t2 (pc' := 30) (L' := [(0, .ref 143), (1, .int X1)]) hq (z_at.mk 3 rfl rfl) rfl hx1 hV_9 c_10 rfl rfl ?_
      cases h
      exact r_rv hq (z_at.mk 1 rfl rfl) rfl rfl H
    · refine r_f2 (pc' := 13) (L' := [(0, .ref 143), (1, .int X1)]) hq (z_at.mk 3 rfl rfl) rfl hx1 hV_9 c_10 rfl rfl ?_
      refine r_p hq 1 (pc' := 14) (L' := [(0, .ref 143), (1, .int X1)]) (st' := [.ref 143]) rfl ?_
      refine r_gR (b := 158) (pc' := 17) (L' := [(0, .ref 143), (1, .int X1)]) H hq (z_at.mk 3 rfl rfl) rfl rfl rfl rfl ?_
      refine r_p hq 3 (pc' := 20) (L' := [(0, .ref 143), (1, .int X1)]) (st' := [.int X1, .ref 143, .int X1, .ref 158]) rfl ?_
      obtain ⟨o_20, h_20, h⟩ := Option.bind_eq_some_iff.mp h
      refine r_cvL (pc' := 23) (L' := [(0, .ref 143), (1, .int X1)]) (Ps := [.int X1]) (rest := [.int X1, .ref 158]) hq (z_at.mk 3 rfl rfl) (Or.inl ⟨rfl, rfl⟩) rfl rfl (by decide) (by decide) rfl (Nat.not_lt.mpr (Nat.le_of_ble_eq_true rfl)) rfl rfl (z_cat_le 2 rfl (by decide)) (z_lgl_le 2 rfl (by decide)) (by decide) (H.tg rfl) (by omega) (g_m_value_ok hx1 H h_20) rfl rfl ?_
      intro R_20 m_20 p_20 e_20 hR_20 H_20
      subst e_20
      obtain ⟨g_23, h⟩ := z_ifo_some h
      refine r_ls (pc' := 24) (L' := [(0, .ref 143), (1, .int X1)]) H_20 hq (z_at.mk 1 rfl rfl) (show zAr 158 1 6 = true from rfl) hx1 g_23 hR_20 rfl rfl ?_
      intro m_23 H_23
      refine r_p hq 2 (pc' := 2) (L' := [(0, .ref 143), (1, .int (X1 + (1 : Int32)))]) (st' := []) rfl ?_
      exact ih (tx_iadd hx1 (rfl : (1 : Int32).toInt = 1)) H_23 h
def g_m_values (σ : zS) : Option (Unit × zS) :=
  g_m_values_L2 zK 0 σ
set_option maxHeartbeats 4000000 in
theorem g_m_values_ok {xl : Nat} {xs : Nat → Int32} {σ : zS} {p : Nat} {m : zM} {o : Unit × zS} (H : zRep xl xs p m σ) (h : g_m_values σ = some o) : zGo xl xs (fun p' => p = p') 507 202 0 (z_can 202 0 (lv_args 0 [.ref 143])) [] m vV o.2 := by
  have hq : z_mth 202 = some z_r202 := rfl
  unfold g_m_values at h
  show zGo xl xs (fun p' => p = p') 507 202 0 [(0, .ref 143)] [] m vV o.2
  refine r_p hq 2 (pc' := 2) (L' := [(0, .ref 143), (1, .int ((0 : Int32)))]) (st' := []) rfl ?_
  exact g_m_values_L2_ok zK (rfl : (0 : Int32).toInt = 0) H h
def g_m_behind_L53 (g6 : Int → zS → Option (Int × zS)) (x1 : Int) (xs0 : Int) (xs1 : Int) (xs2 : Int) (σ : zS) : Option (Int × zS) :=
  if 0 ≤ xs2 ∧ xs2 < 2740 then
  let s_54 := zu σ 144 xs2 (w32 (xs1 + xs0))
  g6 (w32 (x1 + 1)) s_54
  else none
set_option maxHeartbeats 4000000 in
theorem g_m_behind_L53_ok {xl : Nat} {xs : Nat → Int32} {g6 : Int → zS → Option (Int × zS)} (hg6 : ∀ {X1 : Int32} {x1 : Int} {σ : zS} {p : Nat} {m : zM} {o : Int × zS}, X1.toInt = x1 → zRep xl xs p m σ → g6 x1 σ = some o → zGo xl xs (fun p' => p = p') 507 203 6 [(0, .ref 143), (1, .int X1)] [] m (vI o.1) o.2) {X1 : Int32} {x1 : Int} (hx1 : X1.toInt = x1) {Xs0 : Int32} {xs0 : Int} (hxs0 : Xs0.toInt = xs0) {Xs1 : Int32} {xs1 : Int} (hxs1 : Xs1.toInt = xs1) {Xs2 : Int32} {xs2 : Int} (hxs2 : Xs2.toInt = xs2) {σ : zS} {p : Nat} {m : zM} {o : Int × zS} (H : zRep xl xs p m σ) (h : g_m_behind_L53 g6 x1 xs0 xs1 xs2 σ = some o) : zGo xl xs (fun p' => p = p') 507 203 53 [(0, .ref 143), (1, .int X1)] [.int Xs0, .int Xs1, .int Xs2, .ref 144] m (vI o.1) o.2 := by
  have hq : z_mth 203 = some z_r203 := rfl
  unfold g_m_behind_L53 at h
  refine r_p hq 1 (pc' := 54) (L' := [(0, .ref 143), (1, .int X1)]) (st' := [.int (Xs1 + Xs0), .int Xs2, .ref 144]) rfl ?_
  obtain ⟨g_54, h⟩ := z_ifo_some h
  refine r_is (pc' := 55) (L' := [(0, .ref 143), (1, .int X1)]) H hq (z_at.mk 1 rfl rfl) (show zAr 144 0 2740 = true from rfl) hxs2 g_54 (tx_iadd hxs1 hxs0) rfl rfl ?_
  intro m_54 H_54
  refine r_p hq 2 (pc' := 6) (L' := [(0, .ref 143), (1, .int (X1 + (1 : Int32)))]) (st' := []) rfl ?_
  exact hg6 (tx_iadd hx1 (rfl : (1 : Int32).toInt = 1)) H_54 h
def g_m_behind_L6 : Nat → Int → zS → Option (Int × zS)
  | 0, _, _ => none
  | n + 1, x1, σ =>
    let v_13 := σ 144 10
    if v_13 ≤ x1 then
      let v_66 := σ 144 0
      some (v_66, σ)
    else
      if 0 ≤ w32 ((w32 (300 + (w32 (6 * x1)))) + 5) ∧ w32 ((w32 (300 + (w32 (6 * x1)))) + 5) < 2740 then
      let v_32 := σ 144 (w32 ((w32 (300 + (w32 (6 * x1)))) + 5))
      (g_m_value x1 σ).bind fun o_35 =>
      if 0 ≤ x1 ∧ x1 < 6 then
      let v_43 := o_35.2 158 x1
      if lCmp o_35.1 v_43 = 0 then
        g_m_behind_L53 ((g_m_behind_L6 n)) x1 0 v_32 (w32 ((w32 (300 + (w32 (6 * x1)))) + 5)) o_35.2
      else
        g_m_behind_L53 ((g_m_behind_L6 n)) x1 1 v_32 (w32 ((w32 (300 + (w32 (6 * x1)))) + 5)) o_35.2
      else none
      else none
set_option maxHeartbeats 4000000 in
theorem g_m_behind_L6_ok {xl : Nat} {xs : Nat → Int32} : ∀ (n : Nat) {X1 : Int32} {x1 : Int} {σ : zS} {p : Nat} {m : zM} {o : Int × zS}, X1.toInt = x1 → zRep xl xs p m σ → g_m_behind_L6 n x1 σ = some o → zGo xl xs (fun p' => p = p') 507 203 6 [(0, .ref 143), (1, .int X1)] [] m (vI o.1) o.2
  | 0, _, _, _, _, _, _, _, _, h => by cases h
  | n + 1, X1, x1, σ, p, m, o, hx1, H, h => by
    have hq : z_mth 203 = some z_r203 := rfl
    have ih := fun {X1 : Int32} {x1 : Int} {σ : zS} {p : Nat} {m : zM} {o : Int × zS} => g_m_behind_L6_ok (xl := xl) (xs := xs) n (X1 := X1) (x1 := x1) (σ := σ) (p := p) (m := m) (o := o)
    unfold g_m_behind_L6 at h
    refine r_p hq 2 (pc' := 8) (L' := [(0, .ref 143), (1, .int X1)]) (st' := [.ref 143, .int X1]) rfl ?_
    refine r_gR (b := 144) (pc' := 11) (L' := [(0, .ref 143), (1, .int X1)]) H hq (z_at.mk 3 rfl rfl) rfl rfl rfl rfl ?_
    refine r_p hq 1 (pc' := 13) (L' := [(0, .ref 143), (1, .int X1)]) (st' := [.int ((10 : Int32)), .ref 144, .int X1]) rfl ?_
    refine r_ia (pc' := 14) (L' := [(0, .ref 143), (1, .int X1)]) H hq (z_at.mk 1 rfl rfl) (show zAr 144 0 2740 = true from rfl) (rfl : (10 : Int32).toInt = 10) ⟨by decide, by decide⟩ rfl rfl ?_
    intro V_13 hV_13
    rcases z_ite h with ⟨c_14, h⟩ | ⟨c_14, h⟩
    · refine r_t2 (pc' := 61) (L' := [(0, .ref 143), (1, .int X1)]) hq (z_at.mk 3 rfl rfl) rfl hx1 hV_13 c_14 rfl rfl ?_
      refine r_p hq 1 (pc' := 62) (L' := [(0, .ref 143), (1, .int X1)]) (st' := [.ref 143]) rfl ?_
      refine r_gR (b := 144) (pc' := 65) (L' := [(0, .ref 143), (1, .int X1)]) H hq (z_at.mk 3 rfl rfl) rfl rfl rfl rfl ?_
      refine r_p hq 1 (pc' := 66) (L' := [(0, .ref 143), (1, .int X1)]) (st' := [.int ((0 : Int32)), .ref 144]) rfl ?_
      refine r_ia (pc' := 67) (L' := [(0, .ref 143), (1, .int X1)]) H hq (z_at.mk 1 rfl rfl) (show zAr 144 0 2740 = true from rfl) (rfl : (0 : Int32).toInt = 0) ⟨by decide, by decide⟩ rfl rfl ?_
      intro V_66 hV_66
      cases h
      exact r_ri hq (z_at.mk 1 rfl rfl) rfl rfl hV_66 rfl H
    · refine r_f2 (pc' := 17) (L' := [(0, .ref 143), (1, .int X1)]) hq (z_at.mk 3 rfl rfl) rfl hx1 hV_13 c_14 rfl rfl ?_
      refine r_p hq 1 (pc' := 18) (L' := [(0, .ref 143), (1, .int X1)]) (st' := [.ref 143]) rfl ?_
      refine r_gR (b := 144) (pc' := 21) (L' := [(0, .ref 143), (1, .int X1)]) H hq (z_at.mk 3 rfl rfl) rfl rfl rfl rfl ?_
      refine r_p hq 8 (pc' := 32) (L' := [(0, .ref 143), (1, .int X1)]) (st' := [.int ((((300 : Int32)) + (((6 : Int32)) * X1)) + ((5 : Int32))), .ref 144, .int ((((300 : Int32)) + (((6 : Int32)) * X1)) + ((5 : Int32))), .ref 144]) rfl ?_
      obtain ⟨g_32, h⟩ := z_ifo_some h
      refine r_ia (pc' := 33) (L' := [(0, .ref 143), (1, .int X1)]) H hq (z_at.mk 1 rfl rfl) (show zAr 144 0 2740 = true from rfl) (tx_iadd (tx_iadd (rfl : (300 : Int32).toInt = 300) (tx_imul (rfl : (6 : Int32).toInt = 6) hx1)) (rfl : (5 : Int32).toInt = 5)) g_32 rfl rfl ?_
      intro V_32 hV_32
      refine r_p hq 2 (pc' := 35) (L' := [(0, .ref 143), (1, .int X1)]) (st' := [.int X1, .ref 143, .int V_32, .int ((((300 : Int32)) + (((6 : Int32)) * X1)) + ((5 : Int32))), .ref 144]) rfl ?_
      obtain ⟨o_35, h_35, h⟩ := Option.bind_eq_some_iff.mp h
      refine r_cvL (pc' := 38) (L' := [(0, .ref 143), (1, .int X1)]) (Ps := [.int X1]) (rest := [.int V_32, .int ((((300 : Int32)) + (((6 : Int32)) * X1)) + ((5 : Int32))), .ref 144]) hq (z_at.mk 3 rfl rfl) (Or.inl ⟨rfl, rfl⟩) rfl rfl (by decide) (by decide) rfl (Nat.not_lt.mpr (Nat.le_of_ble_eq_true rfl)) rfl rfl (z_cat_le 3 rfl (by decide)) (z_lgl_le 2 rfl (by decide)) (by decide) (H.tg rfl) (by omega) (g_m_value_ok hx1 H h_35) rfl rfl ?_
      intro R_35 m_35 p_35 e_35 hR_35 H_35
      subst e_35
      refine r_p hq 1 (pc' := 39) (L' := [(0, .ref 143), (1, .int X1)]) (st' := [.ref 143, .long R_35, .int V_32, .int ((((300 : Int32)) + (((6 : Int32)) * X1)) + ((5 : Int32))), .ref 144]) rfl ?_
      refine r_gR (b := 158) (pc' := 42) (L' := [(0, .ref 143), (1, .int X1)]) H_35 hq (z_at.mk 3 rfl rfl) rfl rfl rfl rfl ?_
      refine r_p hq 1 (pc' := 43) (L' := [(0, .ref 143), (1, .int X1)]) (st' := [.int X1, .ref 158, .long R_35, .int V_32, .int ((((300 : Int32)) + (((6 : Int32)) * X1)) + ((5 : Int32))), .ref 144]) rfl ?_
      obtain ⟨g_43, h⟩ := z_ifo_some h
      refine r_la (pc' := 44) (L' := [(0, .ref 143), (1, .int X1)]) H_35 hq (z_at.mk 1 rfl rfl) (show zAr 158 1 6 = true from rfl) hx1 g_43 rfl rfl ?_
      intro V_43 hV_43
      refine r_p hq 1 (pc' := 45) (L' := [(0, .ref 143), (1, .int X1)]) (st' := [.int (lg_cmp R_35 V_43), .int V_32, .int ((((300 : Int32)) + (((6 : Int32)) * X1)) + ((5 : Int32))), .ref 144]) rfl ?_
      rcases z_ite h with ⟨c_45, h⟩ | ⟨c_45, h⟩
      · refine r_t1 (pc' := 52) (L' := [(0, .ref 143), (1, .int X1)]) hq (z_at.mk 3 rfl rfl) rfl (tx_lcmp hR_35 hV_43) c_45 rfl rfl ?_
        refine r_p hq 1 (pc' := 53) (L' := [(0, .ref 143), (1, .int X1)]) (st' := [.int ((0 : Int32)), .int V_32, .int ((((300 : Int32)) + (((6 : Int32)) * X1)) + ((5 : Int32))), .ref 144]) rfl ?_
        exact g_m_behind_L53_ok ih hx1 (rfl : (0 : Int32).toInt = 0) hV_32 (tx_iadd (tx_iadd (rfl : (300 : Int32).toInt = 300) (tx_imul (rfl : (6 : Int32).toInt = 6) hx1)) (rfl : (5 : Int32).toInt = 5)) H_35 h
      · refine r_f1 (pc' := 48) (L' := [(0, .ref 143), (1, .int X1)]) hq (z_at.mk 3 rfl rfl) rfl (tx_lcmp hR_35 hV_43) c_45 rfl rfl ?_
        refine r_p hq 2 (pc' := 53) (L' := [(0, .ref 143), (1, .int X1)]) (st' := [.int ((1 : Int32)), .int V_32, .int ((((300 : Int32)) + (((6 : Int32)) * X1)) + ((5 : Int32))), .ref 144]) rfl ?_
        exact g_m_behind_L53_ok ih hx1 (rfl : (1 : Int32).toInt = 1) hV_32 (tx_iadd (tx_iadd (rfl : (300 : Int32).toInt = 300) (tx_imul (rfl : (6 : Int32).toInt = 6) hx1)) (rfl : (5 : Int32).toInt = 5)) H_35 h
def g_m_behind (σ : zS) : Option (Int × zS) :=
  (g_m_trims σ).bind fun o_1 =>
  g_m_behind_L6 zK 0 o_1.2
set_option maxHeartbeats 4000000 in
theorem g_m_behind_ok {xl : Nat} {xs : Nat → Int32} {σ : zS} {p : Nat} {m : zM} {o : Int × zS} (H : zRep xl xs p m σ) (h : g_m_behind σ = some o) : zGo xl xs (fun p' => p = p') 507 203 0 (z_can 203 0 (lv_args 0 [.ref 143])) [] m (vI o.1) o.2 := by
  have hq : z_mth 203 = some z_r203 := rfl
  unfold g_m_behind at h
  show zGo xl xs (fun p' => p = p') 507 203 0 [(0, .ref 143)] [] m (vI o.1) o.2
  refine r_p hq 1 (pc' := 1) (L' := [(0, .ref 143)]) (st' := [.ref 143]) rfl ?_
  obtain ⟨o_1, h_1, h⟩ := Option.bind_eq_some_iff.mp h
  refine r_cvV (pc' := 4) (L' := [(0, .ref 143)]) (Ps := []) (rest := []) hq (z_at.mk 3 rfl rfl) (Or.inl ⟨rfl, rfl⟩) rfl rfl (by decide) (by decide) rfl (Nat.not_lt.mpr (Nat.le_of_ble_eq_true rfl)) rfl rfl (z_cat_le 0 rfl (by decide)) (z_lgl_le 1 rfl (by decide)) (by decide) (H.tg rfl) (by omega) (g_m_trims_ok H h_1) rfl rfl ?_
  intro m_1 p_1 e_1 H_1
  subst e_1
  refine r_p hq 2 (pc' := 6) (L' := [(0, .ref 143), (1, .int ((0 : Int32)))]) (st' := []) rfl ?_
  exact g_m_behind_L6_ok zK (rfl : (0 : Int32).toInt = 0) H_1 h
def g_m_isRow (x0 : Int) (σ : zS) : Option (Int × zS) :=
  (g_m_isIn x0 0 59 σ).bind fun o_4 =>
  if o_4.1 = 0 ∨ o_4.1 = 1 then some (o_4.1, o_4.2) else none
set_option maxHeartbeats 4000000 in
theorem g_m_isRow_ok {xl : Nat} {xs : Nat → Int32} {X0 : Int32} {x0 : Int} (hx0 : X0.toInt = x0) {σ : zS} {p : Nat} {m : zM} {o : Int × zS} (H : zRep xl xs p m σ) (h : g_m_isRow x0 σ = some o) : zGo xl xs (fun p' => p = p') 2 204 0 (z_can 204 0 (lv_args 0 [.int X0])) [] m (vI o.1) o.2 := by
  have hq : z_mth 204 = some z_r204 := rfl
  unfold g_m_isRow at h
  show zGo xl xs (fun p' => p = p') 2 204 0 [(0, .int X0)] [] m (vI o.1) o.2
  refine r_p hq 3 (pc' := 4) (L' := [(0, .int X0)]) (st' := [.int ((59 : Int32)), .int ((0 : Int32)), .int X0]) rfl ?_
  obtain ⟨o_4, h_4, h⟩ := Option.bind_eq_some_iff.mp h
  refine r_csI (pc' := 7) (L' := [(0, .int X0)]) (As := [.int X0, .int ((0 : Int32)), .int ((59 : Int32))]) (rest := []) (j := 159) hq (z_at.mk 3 rfl rfl) (Or.inl ⟨rfl, rfl⟩) rfl rfl (by omega) (g_m_isIn_ok hx0 (rfl : (0 : Int32).toInt = 0) (rfl : (59 : Int32).toInt = 59) H h_4) rfl rfl ?_
  intro R_4 m_4 p_4 e_4 hR_4 H_4
  subst e_4
  obtain ⟨g_7, h⟩ := z_if_some h
  cases h
  exact r_ri hq (z_at.mk 1 rfl rfl) rfl (z_rty_bo hR_4 g_7) hR_4 rfl H_4
def g_m_out (x1 : Int) (σ : zS) : Option (Unit × zS) :=
  (g_m_rowAt x1 σ).bind fun o_5 =>
  if 0 ≤ o_5.1 ∧ o_5.1 < 2740 then
  let s_9 := zu o_5.2 144 o_5.1 0
  (g_m_rowAt x1 s_9).bind fun o_16 =>
  if 0 ≤ w32 (o_16.1 + 1) ∧ w32 (o_16.1 + 1) < 2740 then
  let v_21 := o_16.2 144 (w32 (o_16.1 + 1))
  (g_m_rowAt x1 o_16.2).bind fun o_27 =>
  if 0 ≤ w32 (o_27.1 + 2) ∧ w32 (o_27.1 + 2) < 2740 then
  let v_32 := o_27.2 144 (w32 (o_27.1 + 2))
  (g_m_writes v_21 v_32 o_27.2).bind fun o_33 =>
  some ((), o_33.2)
  else none
  else none
  else none
set_option maxHeartbeats 4000000 in
theorem g_m_out_ok {xl : Nat} {xs : Nat → Int32} {X1 : Int32} {x1 : Int} (hx1 : X1.toInt = x1) {σ : zS} {p : Nat} {m : zM} {o : Unit × zS} (H : zRep xl xs p m σ) (h : g_m_out x1 σ = some o) : zGo xl xs (fun p' => p = p') 6 205 0 (z_can 205 0 (lv_args 0 [.ref 143, .int X1])) [] m vV o.2 := by
  have hq : z_mth 205 = some z_r205 := rfl
  unfold g_m_out at h
  show zGo xl xs (fun p' => p = p') 6 205 0 [(0, .ref 143), (1, .int X1)] [] m vV o.2
  refine r_p hq 1 (pc' := 1) (L' := [(0, .ref 143), (1, .int X1)]) (st' := [.ref 143]) rfl ?_
  refine r_gR (b := 144) (pc' := 4) (L' := [(0, .ref 143), (1, .int X1)]) H hq (z_at.mk 3 rfl rfl) rfl rfl rfl rfl ?_
  refine r_p hq 1 (pc' := 5) (L' := [(0, .ref 143), (1, .int X1)]) (st' := [.int X1, .ref 144]) rfl ?_
  obtain ⟨o_5, h_5, h⟩ := Option.bind_eq_some_iff.mp h
  refine r_csI (pc' := 8) (L' := [(0, .ref 143), (1, .int X1)]) (As := [.int X1]) (rest := [.ref 144]) (j := 174) hq (z_at.mk 3 rfl rfl) (Or.inl ⟨rfl, rfl⟩) rfl rfl (by omega) (g_m_rowAt_ok hx1 H h_5) rfl rfl ?_
  intro R_5 m_5 p_5 e_5 hR_5 H_5
  subst e_5
  refine r_p hq 1 (pc' := 9) (L' := [(0, .ref 143), (1, .int X1)]) (st' := [.int ((0 : Int32)), .int R_5, .ref 144]) rfl ?_
  obtain ⟨g_9, h⟩ := z_ifo_some h
  refine r_is (pc' := 10) (L' := [(0, .ref 143), (1, .int X1)]) H_5 hq (z_at.mk 1 rfl rfl) (show zAr 144 0 2740 = true from rfl) hR_5 g_9 (rfl : (0 : Int32).toInt = 0) rfl rfl ?_
  intro m_9 H_9
  refine r_p hq 2 (pc' := 12) (L' := [(0, .ref 143), (1, .int X1)]) (st' := [.ref 143, .ref 143]) rfl ?_
  refine r_gR (b := 144) (pc' := 15) (L' := [(0, .ref 143), (1, .int X1)]) H_9 hq (z_at.mk 3 rfl rfl) rfl rfl rfl rfl ?_
  refine r_p hq 1 (pc' := 16) (L' := [(0, .ref 143), (1, .int X1)]) (st' := [.int X1, .ref 144, .ref 143]) rfl ?_
  obtain ⟨o_16, h_16, h⟩ := Option.bind_eq_some_iff.mp h
  refine r_csI (pc' := 19) (L' := [(0, .ref 143), (1, .int X1)]) (As := [.int X1]) (rest := [.ref 144, .ref 143]) (j := 174) hq (z_at.mk 3 rfl rfl) (Or.inl ⟨rfl, rfl⟩) rfl rfl (by omega) (g_m_rowAt_ok hx1 H_9 h_16) rfl rfl ?_
  intro R_16 m_16 p_16 e_16 hR_16 H_16
  subst e_16
  refine r_p hq 2 (pc' := 21) (L' := [(0, .ref 143), (1, .int X1)]) (st' := [.int (R_16 + ((1 : Int32))), .ref 144, .ref 143]) rfl ?_
  obtain ⟨g_21, h⟩ := z_ifo_some h
  refine r_ia (pc' := 22) (L' := [(0, .ref 143), (1, .int X1)]) H_16 hq (z_at.mk 1 rfl rfl) (show zAr 144 0 2740 = true from rfl) (tx_iadd hR_16 (rfl : (1 : Int32).toInt = 1)) g_21 rfl rfl ?_
  intro V_21 hV_21
  refine r_p hq 1 (pc' := 23) (L' := [(0, .ref 143), (1, .int X1)]) (st' := [.ref 143, .int V_21, .ref 143]) rfl ?_
  refine r_gR (b := 144) (pc' := 26) (L' := [(0, .ref 143), (1, .int X1)]) H_16 hq (z_at.mk 3 rfl rfl) rfl rfl rfl rfl ?_
  refine r_p hq 1 (pc' := 27) (L' := [(0, .ref 143), (1, .int X1)]) (st' := [.int X1, .ref 144, .int V_21, .ref 143]) rfl ?_
  obtain ⟨o_27, h_27, h⟩ := Option.bind_eq_some_iff.mp h
  refine r_csI (pc' := 30) (L' := [(0, .ref 143), (1, .int X1)]) (As := [.int X1]) (rest := [.ref 144, .int V_21, .ref 143]) (j := 174) hq (z_at.mk 3 rfl rfl) (Or.inl ⟨rfl, rfl⟩) rfl rfl (by omega) (g_m_rowAt_ok hx1 H_16 h_27) rfl rfl ?_
  intro R_27 m_27 p_27 e_27 hR_27 H_27
  subst e_27
  refine r_p hq 2 (pc' := 32) (L' := [(0, .ref 143), (1, .int X1)]) (st' := [.int (R_27 + ((2 : Int32))), .ref 144, .int V_21, .ref 143]) rfl ?_
  obtain ⟨g_32, h⟩ := z_ifo_some h
  refine r_ia (pc' := 33) (L' := [(0, .ref 143), (1, .int X1)]) H_27 hq (z_at.mk 1 rfl rfl) (show zAr 144 0 2740 = true from rfl) (tx_iadd hR_27 (rfl : (2 : Int32).toInt = 2)) g_32 rfl rfl ?_
  intro V_32 hV_32
  obtain ⟨o_33, h_33, h⟩ := Option.bind_eq_some_iff.mp h
  refine r_cvV (pc' := 36) (L' := [(0, .ref 143), (1, .int X1)]) (Ps := [.int V_21, .int V_32]) (rest := []) hq (z_at.mk 3 rfl rfl) (Or.inl ⟨rfl, rfl⟩) rfl rfl (by decide) (by decide) rfl (Nat.not_lt.mpr (Nat.le_of_ble_eq_true rfl)) rfl rfl (z_cat_le 0 rfl (by decide)) (z_lgl_le 3 rfl (by decide)) (by decide) (H_27.tg rfl) (by omega) (g_m_writes_ok hV_21 hV_32 H_27 h_33) rfl rfl ?_
  intro m_33 p_33 e_33 H_33
  subst e_33
  cases h
  exact r_rv hq (z_at.mk 1 rfl rfl) rfl rfl H_33
def g_m_put_L72 (x1 : Int) (x2 : Int) (x3 : Int) (y4 : Int) (σ : zS) : Option (Int × zS) :=
  (g_m_rowAt x1 σ).bind fun o_77 =>
  if 0 ≤ o_77.1 ∧ o_77.1 < 2740 then
  let s_81 := zu o_77.2 144 o_77.1 1
  (g_m_rowAt x1 s_81).bind fun o_87 =>
  if 0 ≤ w32 (o_87.1 + 1) ∧ w32 (o_87.1 + 1) < 2740 then
  let s_93 := zu o_87.2 144 (w32 (o_87.1 + 1)) x2
  (g_m_rowAt x1 s_93).bind fun o_99 =>
  if 0 ≤ w32 (o_99.1 + 2) ∧ w32 (o_99.1 + 2) < 2740 then
  let s_105 := zu o_99.2 144 (w32 (o_99.1 + 2)) x3
  if 0 ≤ w32 (1 + x1) ∧ w32 (1 + x1) < 361 then
  let s_115 := zu s_105 147 (w32 (1 + x1)) y4
  (g_m_writes x2 x3 s_115).bind fun o_119 =>
  (g_m_behind o_119.2).bind fun o_123 =>
  some (o_123.1, o_123.2)
  else none
  else none
  else none
  else none
set_option maxHeartbeats 4000000 in
theorem g_m_put_L72_ok {xl : Nat} {xs : Nat → Int32} {X1 : Int32} {x1 : Int} (hx1 : X1.toInt = x1) {X2 : Int32} {x2 : Int} (hx2 : X2.toInt = x2) {X3 : Int32} {x3 : Int} (hx3 : X3.toInt = x3) {Y4 : Int64} {y4 : Int} (hy4 : Y4.toInt = y4) {σ : zS} {p : Nat} {m : zM} {o : Int × zS} (H : zRep xl xs p m σ) (h : g_m_put_L72 x1 x2 x3 y4 σ = some o) : zGo xl xs (fun p' => p = p') 508 206 72 [(0, .ref 143), (1, .int X1), (2, .int X2), (3, .int X3), (4, .long Y4)] [] m (vI o.1) o.2 := by
  have hq : z_mth 206 = some z_r206 := rfl
  unfold g_m_put_L72 at h
  refine r_p hq 1 (pc' := 73) (L' := [(0, .ref 143), (1, .int X1), (2, .int X2), (3, .int X3), (4, .long Y4)]) (st' := [.ref 143]) rfl ?_
  refine r_gR (b := 144) (pc' := 76) (L' := [(0, .ref 143), (1, .int X1), (2, .int X2), (3, .int X3), (4, .long Y4)]) H hq (z_at.mk 3 rfl rfl) rfl rfl rfl rfl ?_
  refine r_p hq 1 (pc' := 77) (L' := [(0, .ref 143), (1, .int X1), (2, .int X2), (3, .int X3), (4, .long Y4)]) (st' := [.int X1, .ref 144]) rfl ?_
  obtain ⟨o_77, h_77, h⟩ := Option.bind_eq_some_iff.mp h
  refine r_csI (pc' := 80) (L' := [(0, .ref 143), (1, .int X1), (2, .int X2), (3, .int X3), (4, .long Y4)]) (As := [.int X1]) (rest := [.ref 144]) (j := 174) hq (z_at.mk 3 rfl rfl) (Or.inl ⟨rfl, rfl⟩) rfl rfl (by omega) (g_m_rowAt_ok hx1 H h_77) rfl rfl ?_
  intro R_77 m_77 p_77 e_77 hR_77 H_77
  subst e_77
  refine r_p hq 1 (pc' := 81) (L' := [(0, .ref 143), (1, .int X1), (2, .int X2), (3, .int X3), (4, .long Y4)]) (st' := [.int ((1 : Int32)), .int R_77, .ref 144]) rfl ?_
  obtain ⟨g_81, h⟩ := z_ifo_some h
  refine r_is (pc' := 82) (L' := [(0, .ref 143), (1, .int X1), (2, .int X2), (3, .int X3), (4, .long Y4)]) H_77 hq (z_at.mk 1 rfl rfl) (show zAr 144 0 2740 = true from rfl) hR_77 g_81 (rfl : (1 : Int32).toInt = 1) rfl rfl ?_
  intro m_81 H_81
  refine r_p hq 1 (pc' := 83) (L' := [(0, .ref 143), (1, .int X1), (2, .int X2), (3, .int X3), (4, .long Y4)]) (st' := [.ref 143]) rfl ?_
  refine r_gR (b := 144) (pc' := 86) (L' := [(0, .ref 143), (1, .int X1), (2, .int X2), (3, .int X3), (4, .long Y4)]) H_81 hq (z_at.mk 3 rfl rfl) rfl rfl rfl rfl ?_
  refine r_p hq 1 (pc' := 87) (L' := [(0, .ref 143), (1, .int X1), (2, .int X2), (3, .int X3), (4, .long Y4)]) (st' := [.int X1, .ref 144]) rfl ?_
  obtain ⟨o_87, h_87, h⟩ := Option.bind_eq_some_iff.mp h
  refine r_csI (pc' := 90) (L' := [(0, .ref 143), (1, .int X1), (2, .int X2), (3, .int X3), (4, .long Y4)]) (As := [.int X1]) (rest := [.ref 144]) (j := 174) hq (z_at.mk 3 rfl rfl) (Or.inl ⟨rfl, rfl⟩) rfl rfl (by omega) (g_m_rowAt_ok hx1 H_81 h_87) rfl rfl ?_
  intro R_87 m_87 p_87 e_87 hR_87 H_87
  subst e_87
  refine r_p hq 3 (pc' := 93) (L' := [(0, .ref 143), (1, .int X1), (2, .int X2), (3, .int X3), (4, .long Y4)]) (st' := [.int X2, .int (R_87 + ((1 : Int32))), .ref 144]) rfl ?_
  obtain ⟨g_93, h⟩ := z_ifo_some h
  refine r_is (pc' := 94) (L' := [(0, .ref 143), (1, .int X1), (2, .int X2), (3, .int X3), (4, .long Y4)]) H_87 hq (z_at.mk 1 rfl rfl) (show zAr 144 0 2740 = true from rfl) (tx_iadd hR_87 (rfl : (1 : Int32).toInt = 1)) g_93 hx2 rfl rfl ?_
  intro m_93 H_93
  refine r_p hq 1 (pc' := 95) (L' := [(0, .ref 143), (1, .int X1), (2, .int X2), (3, .int X3), (4, .long Y4)]) (st' := [.ref 143]) rfl ?_
  refine r_gR (b := 144) (pc' := 98) (L' := [(0, .ref 143), (1, .int X1), (2, .int X2), (3, .int X3), (4, .long Y4)]) H_93 hq (z_at.mk 3 rfl rfl) rfl rfl rfl rfl ?_
  refine r_p hq 1 (pc' := 99) (L' := [(0, .ref 143), (1, .int X1), (2, .int X2), (3, .int X3), (4, .long Y4)]) (st' := [.int X1, .ref 144]) rfl ?_
  obtain ⟨o_99, h_99, h⟩ := Option.bind_eq_some_iff.mp h
  refine r_csI (pc' := 102) (L' := [(0, .ref 143), (1, .int X1), (2, .int X2), (3, .int X3), (4, .long Y4)]) (As := [.int X1]) (rest := [.ref 144]) (j := 174) hq (z_at.mk 3 rfl rfl) (Or.inl ⟨rfl, rfl⟩) rfl rfl (by omega) (g_m_rowAt_ok hx1 H_93 h_99) rfl rfl ?_
  intro R_99 m_99 p_99 e_99 hR_99 H_99
  subst e_99
  refine r_p hq 3 (pc' := 105) (L' := [(0, .ref 143), (1, .int X1), (2, .int X2), (3, .int X3), (4, .long Y4)]) (st' := [.int X3, .int (R_99 + ((2 : Int32))), .ref 144]) rfl ?_
  obtain ⟨g_105, h⟩ := z_ifo_some h
  refine r_is (pc' := 106) (L' := [(0, .ref 143), (1, .int X1), (2, .int X2), (3, .int X3), (4, .long Y4)]) H_99 hq (z_at.mk 1 rfl rfl) (show zAr 144 0 2740 = true from rfl) (tx_iadd hR_99 (rfl : (2 : Int32).toInt = 2)) g_105 hx3 rfl rfl ?_
  intro m_105 H_105
  refine r_p hq 1 (pc' := 107) (L' := [(0, .ref 143), (1, .int X1), (2, .int X2), (3, .int X3), (4, .long Y4)]) (st' := [.ref 143]) rfl ?_
  refine r_gR (b := 147) (pc' := 110) (L' := [(0, .ref 143), (1, .int X1), (2, .int X2), (3, .int X3), (4, .long Y4)]) H_105 hq (z_at.mk 3 rfl rfl) rfl rfl rfl rfl ?_
  refine r_p hq 4 (pc' := 115) (L' := [(0, .ref 143), (1, .int X1), (2, .int X2), (3, .int X3), (4, .long Y4)]) (st' := [.long Y4, .int (((1 : Int32)) + X1), .ref 147]) rfl ?_
  obtain ⟨g_115, h⟩ := z_ifo_some h
  refine r_ls (pc' := 116) (L' := [(0, .ref 143), (1, .int X1), (2, .int X2), (3, .int X3), (4, .long Y4)]) H_105 hq (z_at.mk 1 rfl rfl) (show zAr 147 1 361 = true from rfl) (tx_iadd (rfl : (1 : Int32).toInt = 1) hx1) g_115 hy4 rfl rfl ?_
  intro m_115 H_115
  refine r_p hq 3 (pc' := 119) (L' := [(0, .ref 143), (1, .int X1), (2, .int X2), (3, .int X3), (4, .long Y4)]) (st' := [.int X3, .int X2, .ref 143]) rfl ?_
  obtain ⟨o_119, h_119, h⟩ := Option.bind_eq_some_iff.mp h
  refine r_cvV (pc' := 122) (L' := [(0, .ref 143), (1, .int X1), (2, .int X2), (3, .int X3), (4, .long Y4)]) (Ps := [.int X2, .int X3]) (rest := []) hq (z_at.mk 3 rfl rfl) (Or.inl ⟨rfl, rfl⟩) rfl rfl (by decide) (by decide) rfl (Nat.not_lt.mpr (Nat.le_of_ble_eq_true rfl)) rfl rfl (z_cat_le 0 rfl (by decide)) (z_lgl_le 3 rfl (by decide)) (by decide) (H_115.tg rfl) (by omega) (g_m_writes_ok hx2 hx3 H_115 h_119) rfl rfl ?_
  intro m_119 p_119 e_119 H_119
  subst e_119
  refine r_p hq 1 (pc' := 123) (L' := [(0, .ref 143), (1, .int X1), (2, .int X2), (3, .int X3), (4, .long Y4)]) (st' := [.ref 143]) rfl ?_
  obtain ⟨o_123, h_123, h⟩ := Option.bind_eq_some_iff.mp h
  refine r_cvI (pc' := 126) (L' := [(0, .ref 143), (1, .int X1), (2, .int X2), (3, .int X3), (4, .long Y4)]) (Ps := []) (rest := []) hq (z_at.mk 3 rfl rfl) (Or.inl ⟨rfl, rfl⟩) rfl rfl (by decide) (by decide) rfl (Nat.not_lt.mpr (Nat.le_of_ble_eq_true rfl)) rfl rfl (z_cat_le 0 rfl (by decide)) (z_lgl_le 1 rfl (by decide)) (by decide) (H_119.tg rfl) (by omega) (g_m_behind_ok H_119 h_123) rfl rfl ?_
  intro R_123 m_123 p_123 e_123 hR_123 H_123
  subst e_123
  cases h
  exact r_ri hq (z_at.mk 1 rfl rfl) rfl rfl hR_123 rfl H_123
def g_m_put (x1 : Int) (x2 : Int) (x3 : Int) (y4 : Int) (σ : zS) : Option (Int × zS) :=
  (g_m_isRow x1 σ).bind fun o_1 =>
  if o_1.1 ≠ 0 then
    (g_m_isIn x2 0 31 o_1.2).bind fun o_13 =>
    if o_13.1 = 0 then
      some (-2, o_13.2)
    else
      (g_m_isIn x3 0 31 o_13.2).bind fun o_23 =>
      if o_23.1 = 0 then
        some (-2, o_23.2)
      else
        if lCmp y4 (-9223372036854775808) = 0 then
          some (-2, o_23.2)
        else
          if lCmp y4 (-9223372036854775807) ≠ 0 then
            (g_m_values o_23.2).bind fun o_51 =>
            (g_m_rowAt x1 o_51.2).bind fun o_59 =>
            if 0 ≤ o_59.1 ∧ o_59.1 < 2740 then
            let v_62 := o_59.2 144 o_59.1
            if v_62 ≠ 1 then
              g_m_put_L72 x1 x2 x3 y4 o_59.2
            else
              (g_m_out x1 o_59.2).bind fun o_69 =>
              g_m_put_L72 x1 x2 x3 y4 o_69.2
            else none
          else
            some (-2, o_23.2)
  else
    some (-1, o_1.2)
set_option maxHeartbeats 4000000 in
theorem g_m_put_ok {xl : Nat} {xs : Nat → Int32} {X1 : Int32} {x1 : Int} (hx1 : X1.toInt = x1) {X2 : Int32} {x2 : Int} (hx2 : X2.toInt = x2) {X3 : Int32} {x3 : Int} (hx3 : X3.toInt = x3) {Y4 : Int64} {y4 : Int} (hy4 : Y4.toInt = y4) {σ : zS} {p : Nat} {m : zM} {o : Int × zS} (H : zRep xl xs p m σ) (h : g_m_put x1 x2 x3 y4 σ = some o) : zGo xl xs (fun p' => p = p') 508 206 0 (z_can 206 0 (lv_args 0 [.ref 143, .int X1, .int X2, .int X3, .long Y4])) [] m (vI o.1) o.2 := by
  have hq : z_mth 206 = some z_r206 := rfl
  unfold g_m_put at h
  show zGo xl xs (fun p' => p = p') 508 206 0 [(0, .ref 143), (1, .int X1), (2, .int X2), (3, .int X3), (4, .long Y4)] [] m (vI o.1) o.2
  refine r_p hq 1 (pc' := 1) (L' := [(0, .ref 143), (1, .int X1), (2, .int X2), (3, .int X3), (4, .long Y4)]) (st' := [.int X1]) rfl ?_
  obtain ⟨o_1, h_1, h⟩ := Option.bind_eq_some_iff.mp h
  refine r_csI (pc' := 4) (L' := [(0, .ref 143), (1, .int X1), (2, .int X2), (3, .int X3), (4, .long Y4)]) (As := [.int X1]) (rest := []) (j := 204) hq (z_at.mk 3 rfl rfl) (Or.inl ⟨rfl, rfl⟩) rfl rfl (by omega) (g_m_isRow_ok hx1 H h_1) rfl rfl ?_
  intro R_1 m_1 p_1 e_1 hR_1 H_1
  subst e_1
  rcases z_ite h with ⟨c_4, h⟩ | ⟨c_4, h⟩
  · refine r_t1 (pc' := 9) (L' := [(0, .ref 143), (1, .int X1), (2, .int X2), (3, .int X3), (4, .long Y4)]) hq (z_at.mk 3 rfl rfl) rfl hR_1 c_4 rfl rfl ?_
    refine r_p hq 3 (pc' := 13) (L' := [(0, .ref 143), (1, .int X1), (2, .int X2), (3, .int X3), (4, .long Y4)]) (st' := [.int ((31 : Int32)), .int ((0 : Int32)), .int X2]) rfl ?_
    obtain ⟨o_13, h_13, h⟩ := Option.bind_eq_some_iff.mp h
    refine r_csI (pc' := 16) (L' := [(0, .ref 143), (1, .int X1), (2, .int X2), (3, .int X3), (4, .long Y4)]) (As := [.int X2, .int ((0 : Int32)), .int ((31 : Int32))]) (rest := []) (j := 159) hq (z_at.mk 3 rfl rfl) (Or.inl ⟨rfl, rfl⟩) rfl rfl (by omega) (g_m_isIn_ok hx2 (rfl : (0 : Int32).toInt = 0) (rfl : (31 : Int32).toInt = 31) H_1 h_13) rfl rfl ?_
    intro R_13 m_13 p_13 e_13 hR_13 H_13
    subst e_13
    rcases z_ite h with ⟨c_16, h⟩ | ⟨c_16, h⟩
    · refine r_t1 (pc' := 47) (L' := []) hq (z_at.mk 3 rfl rfl) rfl hR_13 c_16 rfl rfl ?_
      refine r_p hq 1 (pc' := 49) (L' := []) (st' := [.int ((-2 : Int32))]) rfl ?_
      cases h
      exact r_ri hq (z_at.mk 1 rfl rfl) rfl rfl (rfl : (-2 : Int32).toInt = -2) rfl H_13
    · refine r_f1 (pc' := 19) (L' := [(0, .ref 143), (1, .int X1), (2, .int X2), (3, .int X3), (4, .long Y4)]) hq (z_at.mk 3 rfl rfl) rfl hR_13 c_16 rfl rfl ?_
      refine r_p hq 3 (pc' := 23) (L' := [(0, .ref 143), (1, .int X1), (2, .int X2), (3, .int X3), (4, .long Y4)]) (st' := [.int ((31 : Int32)), .int ((0 : Int32)), .int X3]) rfl ?_
      obtain ⟨o_23, h_23, h⟩ := Option.bind_eq_some_iff.mp h
      refine r_csI (pc' := 26) (L' := [(0, .ref 143), (1, .int X1), (2, .int X2), (3, .int X3), (4, .long Y4)]) (As := [.int X3, .int ((0 : Int32)), .int ((31 : Int32))]) (rest := []) (j := 159) hq (z_at.mk 3 rfl rfl) (Or.inl ⟨rfl, rfl⟩) rfl rfl (by omega) (g_m_isIn_ok hx3 (rfl : (0 : Int32).toInt = 0) (rfl : (31 : Int32).toInt = 31) H_13 h_23) rfl rfl ?_
      intro R_23 m_23 p_23 e_23 hR_23 H_23
      subst e_23
      rcases z_ite h with ⟨c_26, h⟩ | ⟨c_26, h⟩
      · refine r_t1 (pc' := 47) (L' := []) hq (z_at.mk 3 rfl rfl) rfl hR_23 c_26 rfl rfl ?_
        refine r_p hq 1 (pc' := 49) (L' := []) (st' := [.int ((-2 : Int32))]) rfl ?_
        cases h
        exact r_ri hq (z_at.mk 1 rfl rfl) rfl rfl (rfl : (-2 : Int32).toInt = -2) rfl H_23
      · refine r_f1 (pc' := 29) (L' := [(0, .ref 143), (1, .int X1), (2, .int X2), (3, .int X3), (4, .long Y4)]) hq (z_at.mk 3 rfl rfl) rfl hR_23 c_26 rfl rfl ?_
        refine r_p hq 3 (pc' := 35) (L' := [(0, .ref 143), (1, .int X1), (2, .int X2), (3, .int X3), (4, .long Y4)]) (st' := [.int (lg_cmp Y4 ((-9223372036854775808 : Int64)))]) rfl ?_
        rcases z_ite h with ⟨c_35, h⟩ | ⟨c_35, h⟩
        · refine r_t1 (pc' := 47) (L' := []) hq (z_at.mk 3 rfl rfl) rfl (tx_lcmp hy4 (rfl : (-9223372036854775808 : Int64).toInt = -9223372036854775808)) c_35 rfl rfl ?_
          refine r_p hq 1 (pc' := 49) (L' := []) (st' := [.int ((-2 : Int32))]) rfl ?_
          cases h
          exact r_ri hq (z_at.mk 1 rfl rfl) rfl rfl (rfl : (-2 : Int32).toInt = -2) rfl H_23
        · refine r_f1 (pc' := 38) (L' := [(0, .ref 143), (1, .int X1), (2, .int X2), (3, .int X3), (4, .long Y4)]) hq (z_at.mk 3 rfl rfl) rfl (tx_lcmp hy4 (rfl : (-9223372036854775808 : Int64).toInt = -9223372036854775808)) c_35 rfl rfl ?_
          refine r_p hq 3 (pc' := 44) (L' := [(0, .ref 143), (1, .int X1), (2, .int X2), (3, .int X3), (4, .long Y4)]) (st' := [.int (lg_cmp Y4 ((-9223372036854775807 : Int64)))]) rfl ?_
          rcases z_ite h with ⟨c_44, h⟩ | ⟨c_44, h⟩
          · refine r_t1 (pc' := 50) (L' := [(0, .ref 143), (1, .int X1), (2, .int X2), (3, .int X3), (4, .long Y4)]) hq (z_at.mk 3 rfl rfl) rfl (tx_lcmp hy4 (rfl : (-9223372036854775807 : Int64).toInt = -9223372036854775807)) c_44 rfl rfl ?_
            refine r_p hq 1 (pc' := 51) (L' := [(0, .ref 143), (1, .int X1), (2, .int X2), (3, .int X3), (4, .long Y4)]) (st' := [.ref 143]) rfl ?_
            obtain ⟨o_51, h_51, h⟩ := Option.bind_eq_some_iff.mp h
            refine r_cvV (pc' := 54) (L' := [(0, .ref 143), (1, .int X1), (2, .int X2), (3, .int X3), (4, .long Y4)]) (Ps := []) (rest := []) hq (z_at.mk 3 rfl rfl) (Or.inl ⟨rfl, rfl⟩) rfl rfl (by decide) (by decide) rfl (Nat.not_lt.mpr (Nat.le_of_ble_eq_true rfl)) rfl rfl (z_cat_le 0 rfl (by decide)) (z_lgl_le 1 rfl (by decide)) (by decide) (H_23.tg rfl) (by omega) (g_m_values_ok H_23 h_51) rfl rfl ?_
            intro m_51 p_51 e_51 H_51
            subst e_51
            refine r_p hq 1 (pc' := 55) (L' := [(0, .ref 143), (1, .int X1), (2, .int X2), (3, .int X3), (4, .long Y4)]) (st' := [.ref 143]) rfl ?_
            refine r_gR (b := 144) (pc' := 58) (L' := [(0, .ref 143), (1, .int X1), (2, .int X2), (3, .int X3), (4, .long Y4)]) H_51 hq (z_at.mk 3 rfl rfl) rfl rfl rfl rfl ?_
            refine r_p hq 1 (pc' := 59) (L' := [(0, .ref 143), (1, .int X1), (2, .int X2), (3, .int X3), (4, .long Y4)]) (st' := [.int X1, .ref 144]) rfl ?_
            obtain ⟨o_59, h_59, h⟩ := Option.bind_eq_some_iff.mp h
            refine r_csI (pc' := 62) (L' := [(0, .ref 143), (1, .int X1), (2, .int X2), (3, .int X3), (4, .long Y4)]) (As := [.int X1]) (rest := [.ref 144]) (j := 174) hq (z_at.mk 3 rfl rfl) (Or.inl ⟨rfl, rfl⟩) rfl rfl (by omega) (g_m_rowAt_ok hx1 H_51 h_59) rfl rfl ?_
            intro R_59 m_59 p_59 e_59 hR_59 H_59
            subst e_59
            obtain ⟨g_62, h⟩ := z_ifo_some h
            refine r_ia (pc' := 63) (L' := [(0, .ref 143), (1, .int X1), (2, .int X2), (3, .int X3), (4, .long Y4)]) H_59 hq (z_at.mk 1 rfl rfl) (show zAr 144 0 2740 = true from rfl) hR_59 g_62 rfl rfl ?_
            intro V_62 hV_62
            refine r_p hq 1 (pc' := 64) (L' := [(0, .ref 143), (1, .int X1), (2, .int X2), (3, .int X3), (4, .long Y4)]) (st' := [.int ((1 : Int32)), .int V_62]) rfl ?_
            rcases z_ite h with ⟨c_64, h⟩ | ⟨c_64, h⟩
            · refine r_t2 (pc' := 72) (L' := [(0, .ref 143), (1, .int X1), (2, .int X2), (3, .int X3), (4, .long Y4)]) hq (z_at.mk 3 rfl rfl) rfl hV_62 (rfl : (1 : Int32).toInt = 1) c_64 rfl rfl ?_
              exact g_m_put_L72_ok hx1 hx2 hx3 hy4 H_59 h
            · refine r_f2 (pc' := 67) (L' := [(0, .ref 143), (1, .int X1), (2, .int X2), (3, .int X3), (4, .long Y4)]) hq (z_at.mk 3 rfl rfl) rfl hV_62 (rfl : (1 : Int32).toInt = 1) c_64 rfl rfl ?_
              refine r_p hq 2 (pc' := 69) (L' := [(0, .ref 143), (1, .int X1), (2, .int X2), (3, .int X3), (4, .long Y4)]) (st' := [.int X1, .ref 143]) rfl ?_
              obtain ⟨o_69, h_69, h⟩ := Option.bind_eq_some_iff.mp h
              refine r_cvV (pc' := 72) (L' := [(0, .ref 143), (1, .int X1), (2, .int X2), (3, .int X3), (4, .long Y4)]) (Ps := [.int X1]) (rest := []) hq (z_at.mk 3 rfl rfl) (Or.inl ⟨rfl, rfl⟩) rfl rfl (by decide) (by decide) rfl (Nat.not_lt.mpr (Nat.le_of_ble_eq_true rfl)) rfl rfl (z_cat_le 0 rfl (by decide)) (z_lgl_le 2 rfl (by decide)) (by decide) (H_59.tg rfl) (by omega) (g_m_out_ok hx1 H_59 h_69) rfl rfl ?_
              intro m_69 p_69 e_69 H_69
              subst e_69
              exact g_m_put_L72_ok hx1 hx2 hx3 hy4 H_69 h
          · refine r_f1 (pc' := 47) (L' := []) hq (z_at.mk 3 rfl rfl) rfl (tx_lcmp hy4 (rfl : (-9223372036854775807 : Int64).toInt = -9223372036854775807)) c_44 rfl rfl ?_
            refine r_p hq 1 (pc' := 49) (L' := []) (st' := [.int ((-2 : Int32))]) rfl ?_
            cases h
            exact r_ri hq (z_at.mk 1 rfl rfl) rfl rfl (rfl : (-2 : Int32).toInt = -2) rfl H_23
  · refine r_f1 (pc' := 7) (L' := [(0, .ref 143), (1, .int X1), (2, .int X2), (3, .int X3), (4, .long Y4)]) hq (z_at.mk 3 rfl rfl) rfl hR_1 c_4 rfl rfl ?_
    refine r_p hq 1 (pc' := 8) (L' := [(0, .ref 143), (1, .int X1), (2, .int X2), (3, .int X3), (4, .long Y4)]) (st' := [.int ((-1 : Int32))]) rfl ?_
    cases h
    exact r_ri hq (z_at.mk 1 rfl rfl) rfl rfl (rfl : (-1 : Int32).toInt = -1) rfl H_1
end
