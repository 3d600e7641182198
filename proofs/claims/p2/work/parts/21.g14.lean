/-! THE METHODS over the typed memory, 14 (by wip/zg.py) -/
def g_m_isFactor_L80 (rec : Nat → Int → zS → Option (Int × zS)) (σ : zS) : Option (Int × zS) :=
  (g_m_isTest σ).bind fun o_81 =>
  if o_81.1 = 0 ∨ o_81.1 = 1 then some (o_81.1, o_81.2) else none
set_option maxHeartbeats 4000000 in
theorem g_m_isFactor_L80_ok {xl : Nat} {xs : Nat → Int32} {dr : Nat} (hdr : 5 ≤ dr) {rec : Nat → Int → zS → Option (Int × zS)} (hrec : ∀ j, j ∈ [225, 226, 227] → ∀ {X1 : Int32} {x1 : Int} {σ : zS} {p : Nat} {m : zM} {o : Int × zS}, X1.toInt = x1 → zRep xl xs p m σ → rec j x1 σ = some o → zGo xl xs (fun p' => p = p') dr j 0 (z_can j 0 (lv_args 0 [.ref 143, .int X1])) [] m (vI o.1) o.2) {σ : zS} {p : Nat} {m : zM} {o : Int × zS} (H : zRep xl xs p m σ) (h : g_m_isFactor_L80 rec σ = some o) : zGo xl xs (fun p' => p = p') (dr + 1) 225 80 [(0, .ref 143)] [] m (vI o.1) o.2 := by
  have hq : z_mth 225 = some z_r225 := rfl
  unfold g_m_isFactor_L80 at h
  refine r_p hq 1 (pc' := 81) (L' := [(0, .ref 143)]) (st' := [.ref 143]) rfl ?_
  obtain ⟨o_81, h_81, h⟩ := Option.bind_eq_some_iff.mp h
  refine r_cvI (pc' := 84) (L' := [(0, .ref 143)]) (Ps := []) (rest := []) hq (z_at.mk 3 rfl rfl) (Or.inl ⟨rfl, rfl⟩) rfl rfl (by decide) (by decide) rfl (Nat.not_lt.mpr (Nat.le_of_ble_eq_true rfl)) rfl rfl (z_cat_le 0 rfl (by decide)) (z_lgl_le 1 rfl (by decide)) (by decide) (H.tg rfl) (by omega) (g_m_isTest_ok H h_81) rfl rfl ?_
  intro R_81 m_81 p_81 e_81 hR_81 H_81
  subst e_81
  obtain ⟨g_84, h⟩ := z_if_some h
  cases h
  exact r_ri hq (z_at.mk 1 rfl rfl) rfl (z_rty_bo hR_81 g_84) hR_81 rfl H_81
def g_m_isFactor_L34 (rec : Nat → Int → zS → Option (Int × zS)) (x1 : Int) (x2 : Int) (σ : zS) : Option (Int × zS) :=
  if 4 ≤ x1 then
    g_m_isFactor_L80 rec σ
  else
    if x2 ≠ 40 then
      g_m_isFactor_L80 rec σ
    else
      let v_47 := σ 143 21
      let s_52 := zu σ 143 21 (w32 (v_47 + 1))
      (rec 227 (w32 (x1 + 1)) s_52).bind fun o_59 =>
      if o_59.1 = 0 then
        some (0, o_59.2)
      else
        (g_m_isSign 41 o_59.2).bind fun o_68 =>
        if o_68.1 = 0 then
          some (0, o_68.2)
        else
          some (1, o_68.2)
set_option maxHeartbeats 4000000 in
theorem g_m_isFactor_L34_ok {xl : Nat} {xs : Nat → Int32} {dr : Nat} (hdr : 5 ≤ dr) {rec : Nat → Int → zS → Option (Int × zS)} (hrec : ∀ j, j ∈ [225, 226, 227] → ∀ {X1 : Int32} {x1 : Int} {σ : zS} {p : Nat} {m : zM} {o : Int × zS}, X1.toInt = x1 → zRep xl xs p m σ → rec j x1 σ = some o → zGo xl xs (fun p' => p = p') dr j 0 (z_can j 0 (lv_args 0 [.ref 143, .int X1])) [] m (vI o.1) o.2) {X1 : Int32} {x1 : Int} (hx1 : X1.toInt = x1) {X2 : Int32} {x2 : Int} (hx2 : X2.toInt = x2) {σ : zS} {p : Nat} {m : zM} {o : Int × zS} (H : zRep xl xs p m σ) (h : g_m_isFactor_L34 rec x1 x2 σ = some o) : zGo xl xs (fun p' => p = p') (dr + 1) 225 34 [(0, .ref 143), (1, .int X1), (2, .int X2)] [] m (vI o.1) o.2 := by
  have hq : z_mth 225 = some z_r225 := rfl
  unfold g_m_isFactor_L34 at h
  refine r_p hq 2 (pc' := 36) (L' := [(0, .ref 143), (1, .int X1), (2, .int X2)]) (st' := [.int ((4 : Int32)), .int X1]) rfl ?_
  rcases z_ite h with ⟨c_36, h⟩ | ⟨c_36, h⟩
  · refine r_t2 (pc' := 80) (L' := [(0, .ref 143)]) hq (z_at.mk 3 rfl rfl) rfl hx1 (rfl : (4 : Int32).toInt = 4) c_36 rfl rfl ?_
    exact g_m_isFactor_L80_ok hdr hrec  H h
  · refine r_f2 (pc' := 39) (L' := [(0, .ref 143), (1, .int X1), (2, .int X2)]) hq (z_at.mk 3 rfl rfl) rfl hx1 (rfl : (4 : Int32).toInt = 4) c_36 rfl rfl ?_
    refine r_p hq 2 (pc' := 42) (L' := [(0, .ref 143), (1, .int X1), (2, .int X2)]) (st' := [.int ((40 : Int32)), .int X2]) rfl ?_
    rcases z_ite h with ⟨c_42, h⟩ | ⟨c_42, h⟩
    · refine r_t2 (pc' := 80) (L' := [(0, .ref 143)]) hq (z_at.mk 3 rfl rfl) rfl hx2 (rfl : (40 : Int32).toInt = 40) c_42 rfl rfl ?_
      exact g_m_isFactor_L80_ok hdr hrec  H h
    · refine r_f2 (pc' := 45) (L' := [(0, .ref 143), (1, .int X1), (2, .int X2)]) hq (z_at.mk 3 rfl rfl) rfl hx2 (rfl : (40 : Int32).toInt = 40) c_42 rfl rfl ?_
      refine r_p hq 2 (pc' := 47) (L' := [(0, .ref 143), (1, .int X1), (2, .int X2)]) (st' := [.ref 143, .ref 143]) rfl ?_
      refine r_gI (pc' := 50) (L' := [(0, .ref 143), (1, .int X1), (2, .int X2)]) H hq (z_at.mk 3 rfl rfl) rfl rfl rfl rfl ?_
      intro V_47 hV_47
      refine r_p hq 2 (pc' := 52) (L' := [(0, .ref 143), (1, .int X1), (2, .int X2)]) (st' := [.int (V_47 + ((1 : Int32))), .ref 143]) rfl ?_
      refine r_pI (X := V_47 + ((1 : Int32))) (pc' := 55) (L' := [(0, .ref 143), (1, .int X1), (2, .int X2)]) H hq (z_at.mk 3 rfl rfl) rfl rfl (tx_iadd hV_47 (rfl : (1 : Int32).toInt = 1)) (by decide) rfl rfl rfl rfl ?_
      intro m_52 H_52
      refine r_p hq 4 (pc' := 59) (L' := [(0, .ref 143), (1, .int X1), (2, .int X2)]) (st' := [.int (X1 + ((1 : Int32))), .ref 143]) rfl ?_
      obtain ⟨o_59, h_59, h⟩ := Option.bind_eq_some_iff.mp h
      refine r_cvI (pc' := 62) (L' := [(0, .ref 143), (1, .int X1), (2, .int X2)]) (Ps := [.int (X1 + ((1 : Int32)))]) (rest := []) hq (z_at.mk 3 rfl rfl) (Or.inl ⟨rfl, rfl⟩) rfl rfl (by decide) (by decide) rfl (Nat.not_lt.mpr (Nat.le_of_ble_eq_true rfl)) rfl rfl (z_cat_le 0 rfl (by decide)) (z_lgl_le 2 rfl (by decide)) (by decide) (H_52.tg rfl) (by omega) (hrec 227 (by simp) (tx_iadd hx1 (rfl : (1 : Int32).toInt = 1)) H_52 h_59) rfl rfl ?_
      intro R_59 m_59 p_59 e_59 hR_59 H_59
      subst e_59
      rcases z_ite h with ⟨c_62, h⟩ | ⟨c_62, h⟩
      · refine r_t1 (pc' := 78) (L' := []) hq (z_at.mk 3 rfl rfl) rfl hR_59 c_62 rfl rfl ?_
        refine r_p hq 1 (pc' := 79) (L' := []) (st' := [.int ((0 : Int32))]) rfl ?_
        cases h
        exact r_ri hq (z_at.mk 1 rfl rfl) rfl rfl (rfl : (0 : Int32).toInt = 0) rfl H_59
      · refine r_f1 (pc' := 65) (L' := [(0, .ref 143), (1, .int X1), (2, .int X2)]) hq (z_at.mk 3 rfl rfl) rfl hR_59 c_62 rfl rfl ?_
        refine r_p hq 2 (pc' := 68) (L' := [(0, .ref 143), (1, .int X1), (2, .int X2)]) (st' := [.int ((41 : Int32)), .ref 143]) rfl ?_
        obtain ⟨o_68, h_68, h⟩ := Option.bind_eq_some_iff.mp h
        refine r_cvI (pc' := 71) (L' := [(0, .ref 143), (1, .int X1), (2, .int X2)]) (Ps := [.int ((41 : Int32))]) (rest := []) hq (z_at.mk 3 rfl rfl) (Or.inl ⟨rfl, rfl⟩) rfl rfl (by decide) (by decide) rfl (Nat.not_lt.mpr (Nat.le_of_ble_eq_true rfl)) rfl rfl (z_cat_le 0 rfl (by decide)) (z_lgl_le 2 rfl (by decide)) (by decide) (H_59.tg rfl) (by omega) (g_m_isSign_ok (rfl : (41 : Int32).toInt = 41) H_59 h_68) rfl rfl ?_
        intro R_68 m_68 p_68 e_68 hR_68 H_68
        subst e_68
        rcases z_ite h with ⟨c_71, h⟩ | ⟨c_71, h⟩
        · refine r_t1 (pc' := 78) (L' := []) hq (z_at.mk 3 rfl rfl) rfl hR_68 c_71 rfl rfl ?_
          refine r_p hq 1 (pc' := 79) (L' := []) (st' := [.int ((0 : Int32))]) rfl ?_
          cases h
          exact r_ri hq (z_at.mk 1 rfl rfl) rfl rfl (rfl : (0 : Int32).toInt = 0) rfl H_68
        · refine r_f1 (pc' := 74) (L' := [(0, .ref 143), (1, .int X1), (2, .int X2)]) hq (z_at.mk 3 rfl rfl) rfl hR_68 c_71 rfl rfl ?_
          refine r_p hq 2 (pc' := 79) (L' := []) (st' := [.int ((1 : Int32))]) rfl ?_
          cases h
          exact r_ri hq (z_at.mk 1 rfl rfl) rfl rfl (rfl : (1 : Int32).toInt = 1) rfl H_68
def g_m_isFactor (rec : Nat → Int → zS → Option (Int × zS)) (x1 : Int) (σ : zS) : Option (Int × zS) :=
  (g_m_here σ).bind fun o_1 =>
  if 4 ≤ x1 then
    g_m_isFactor_L34 rec x1 o_1.1 o_1.2
  else
    if o_1.1 ≠ 33 then
      g_m_isFactor_L34 rec x1 o_1.1 o_1.2
    else
      let v_18 := o_1.2 143 21
      let s_23 := zu o_1.2 143 21 (w32 (v_18 + 1))
      (rec 225 (w32 (x1 + 1)) s_23).bind fun o_30 =>
      if o_30.1 = 0 ∨ o_30.1 = 1 then some (o_30.1, o_30.2) else none
set_option maxHeartbeats 4000000 in
theorem g_m_isFactor_ok {xl : Nat} {xs : Nat → Int32} {dr : Nat} (hdr : 5 ≤ dr) {rec : Nat → Int → zS → Option (Int × zS)} (hrec : ∀ j, j ∈ [225, 226, 227] → ∀ {X1 : Int32} {x1 : Int} {σ : zS} {p : Nat} {m : zM} {o : Int × zS}, X1.toInt = x1 → zRep xl xs p m σ → rec j x1 σ = some o → zGo xl xs (fun p' => p = p') dr j 0 (z_can j 0 (lv_args 0 [.ref 143, .int X1])) [] m (vI o.1) o.2) {X1 : Int32} {x1 : Int} (hx1 : X1.toInt = x1) {σ : zS} {p : Nat} {m : zM} {o : Int × zS} (H : zRep xl xs p m σ) (h : g_m_isFactor rec x1 σ = some o) : zGo xl xs (fun p' => p = p') (dr + 1) 225 0 (z_can 225 0 (lv_args 0 [.ref 143, .int X1])) [] m (vI o.1) o.2 := by
  have hq : z_mth 225 = some z_r225 := rfl
  unfold g_m_isFactor at h
  show zGo xl xs (fun p' => p = p') (dr + 1) 225 0 [(0, .ref 143), (1, .int X1)] [] m (vI o.1) o.2
  refine r_p hq 1 (pc' := 1) (L' := [(0, .ref 143), (1, .int X1)]) (st' := [.ref 143]) rfl ?_
  obtain ⟨o_1, h_1, h⟩ := Option.bind_eq_some_iff.mp h
  refine r_cvI (pc' := 4) (L' := [(0, .ref 143), (1, .int X1)]) (Ps := []) (rest := []) hq (z_at.mk 3 rfl rfl) (Or.inl ⟨rfl, rfl⟩) rfl rfl (by decide) (by decide) rfl (Nat.not_lt.mpr (Nat.le_of_ble_eq_true rfl)) rfl rfl (z_cat_le 0 rfl (by decide)) (z_lgl_le 1 rfl (by decide)) (by decide) (H.tg rfl) (by omega) (g_m_here_ok H h_1) rfl rfl ?_
  intro R_1 m_1 p_1 e_1 hR_1 H_1
  subst e_1
  refine r_p hq 3 (pc' := 7) (L' := [(2, .int R_1), (0, .ref 143), (1, .int X1)]) (st' := [.int ((4 : Int32)), .int X1]) rfl ?_
  rcases z_ite h with ⟨c_7, h⟩ | ⟨c_7, h⟩
  · refine r_t2 (pc' := 34) (L' := [(0, .ref 143), (1, .int X1), (2, .int R_1)]) hq (z_at.mk 3 rfl rfl) rfl hx1 (rfl : (4 : Int32).toInt = 4) c_7 rfl rfl ?_
    exact g_m_isFactor_L34_ok hdr hrec hx1 hR_1 H_1 h
  · refine r_f2 (pc' := 10) (L' := [(2, .int R_1), (0, .ref 143), (1, .int X1)]) hq (z_at.mk 3 rfl rfl) rfl hx1 (rfl : (4 : Int32).toInt = 4) c_7 rfl rfl ?_
    refine r_p hq 2 (pc' := 13) (L' := [(2, .int R_1), (0, .ref 143), (1, .int X1)]) (st' := [.int ((33 : Int32)), .int R_1]) rfl ?_
    rcases z_ite h with ⟨c_13, h⟩ | ⟨c_13, h⟩
    · refine r_t2 (pc' := 34) (L' := [(0, .ref 143), (1, .int X1), (2, .int R_1)]) hq (z_at.mk 3 rfl rfl) rfl hR_1 (rfl : (33 : Int32).toInt = 33) c_13 rfl rfl ?_
      exact g_m_isFactor_L34_ok hdr hrec hx1 hR_1 H_1 h
    · refine r_f2 (pc' := 16) (L' := [(2, .int R_1), (0, .ref 143), (1, .int X1)]) hq (z_at.mk 3 rfl rfl) rfl hR_1 (rfl : (33 : Int32).toInt = 33) c_13 rfl rfl ?_
      refine r_p hq 2 (pc' := 18) (L' := [(2, .int R_1), (0, .ref 143), (1, .int X1)]) (st' := [.ref 143, .ref 143]) rfl ?_
      refine r_gI (pc' := 21) (L' := [(2, .int R_1), (0, .ref 143), (1, .int X1)]) H_1 hq (z_at.mk 3 rfl rfl) rfl rfl rfl rfl ?_
      intro V_18 hV_18
      refine r_p hq 2 (pc' := 23) (L' := [(2, .int R_1), (0, .ref 143), (1, .int X1)]) (st' := [.int (V_18 + ((1 : Int32))), .ref 143]) rfl ?_
      refine r_pI (X := V_18 + ((1 : Int32))) (pc' := 26) (L' := [(2, .int R_1), (0, .ref 143), (1, .int X1)]) H_1 hq (z_at.mk 3 rfl rfl) rfl rfl (tx_iadd hV_18 (rfl : (1 : Int32).toInt = 1)) (by decide) rfl rfl rfl rfl ?_
      intro m_23 H_23
      refine r_p hq 4 (pc' := 30) (L' := [(2, .int R_1), (0, .ref 143), (1, .int X1)]) (st' := [.int (X1 + ((1 : Int32))), .ref 143]) rfl ?_
      obtain ⟨o_30, h_30, h⟩ := Option.bind_eq_some_iff.mp h
      refine r_cvI (pc' := 33) (L' := [(2, .int R_1), (0, .ref 143), (1, .int X1)]) (Ps := [.int (X1 + ((1 : Int32)))]) (rest := []) hq (z_at.mk 3 rfl rfl) (Or.inl ⟨rfl, rfl⟩) rfl rfl (by decide) (by decide) rfl (Nat.not_lt.mpr (Nat.le_of_ble_eq_true rfl)) rfl rfl (z_cat_le 0 rfl (by decide)) (z_lgl_le 2 rfl (by decide)) (by decide) (H_23.tg rfl) (by omega) (hrec 225 (by simp) (tx_iadd hx1 (rfl : (1 : Int32).toInt = 1)) H_23 h_30) rfl rfl ?_
      intro R_30 m_30 p_30 e_30 hR_30 H_30
      subst e_30
      obtain ⟨g_33, h⟩ := z_if_some h
      cases h
      exact r_ri hq (z_at.mk 1 rfl rfl) rfl (z_rty_bo hR_30 g_33) hR_30 rfl H_30
def g_m_isBoth_L6 (rec : Nat → Int → zS → Option (Int × zS)) : Nat → Int → Int → zS → Option (Int × zS)
  | 0, _, _, _ => none
  | n + 1, x1, x2, σ =>
    if x2 = 0 then
      if x2 = 0 ∨ x2 = 1 then some (x2, σ) else none
    else
      (g_m_here σ).bind fun o_11 =>
      if o_11.1 ≠ 38 then
        if x2 = 0 ∨ x2 = 1 then some (x2, o_11.2) else none
      else
        let v_21 := o_11.2 143 21
        let s_26 := zu o_11.2 143 21 (w32 (v_21 + 1))
        (rec 225 x1 s_26).bind fun o_31 =>
        (g_m_isBoth_L6 rec n) x1 o_31.1 o_31.2
set_option maxHeartbeats 4000000 in
theorem g_m_isBoth_L6_ok {xl : Nat} {xs : Nat → Int32} {dr : Nat} (hdr : 5 ≤ dr) {rec : Nat → Int → zS → Option (Int × zS)} (hrec : ∀ j, j ∈ [225, 226, 227] → ∀ {X1 : Int32} {x1 : Int} {σ : zS} {p : Nat} {m : zM} {o : Int × zS}, X1.toInt = x1 → zRep xl xs p m σ → rec j x1 σ = some o → zGo xl xs (fun p' => p = p') dr j 0 (z_can j 0 (lv_args 0 [.ref 143, .int X1])) [] m (vI o.1) o.2) : ∀ (n : Nat) {X1 : Int32} {x1 : Int} {X2 : Int32} {x2 : Int} {σ : zS} {p : Nat} {m : zM} {o : Int × zS}, X1.toInt = x1 → X2.toInt = x2 → zRep xl xs p m σ → g_m_isBoth_L6 rec n x1 x2 σ = some o → zGo xl xs (fun p' => p = p') (dr + 1) 226 6 [(0, .ref 143), (1, .int X1), (2, .int X2)] [] m (vI o.1) o.2
  | 0, _, _, _, _, _, _, _, _, _, _, _, h => by cases h
  | n + 1, X1, x1, X2, x2, σ, p, m, o, hx1, hx2, H, h => by
    have hq : z_mth 226 = some z_r226 := rfl
    have ih := fun {X1 : Int32} {x1 : Int} {X2 : Int32} {x2 : Int} {σ : zS} {p : Nat} {m : zM} {o : Int × zS} => g_m_isBoth_L6_ok (xl := xl) (xs := xs) hdr hrec n (X1 := X1) (x1 := x1) (X2 := X2) (x2 := x2) (σ := σ) (p := p) (m := m) (o := o)
    unfold g_m_isBoth_L6 at h
    refine r_p hq 1 (pc' := 7) (L' := [(0, .ref 143), (1, .int X1), (2, .int X2)]) (st' := [.int X2]) rfl ?_
    rcases z_ite h with ⟨c_7, h⟩ | ⟨c_7, h⟩
    · refine r_t1 (pc' := 38) (L' := [(2, .int X2)]) hq (z_at.mk 3 rfl rfl) rfl hx2 c_7 rfl rfl ?_
      refine r_p hq 1 (pc' := 39) (L' := [(2, .int X2)]) (st' := [.int X2]) rfl ?_
      obtain ⟨g_39, h⟩ := z_if_some h
      cases h
      exact r_ri hq (z_at.mk 1 rfl rfl) rfl (z_rty_bo hx2 g_39) hx2 rfl H
    · refine r_f1 (pc' := 10) (L' := [(0, .ref 143), (1, .int X1), (2, .int X2)]) hq (z_at.mk 3 rfl rfl) rfl hx2 c_7 rfl rfl ?_
      refine r_p hq 1 (pc' := 11) (L' := [(0, .ref 143), (1, .int X1), (2, .int X2)]) (st' := [.ref 143]) rfl ?_
      obtain ⟨o_11, h_11, h⟩ := Option.bind_eq_some_iff.mp h
      refine r_cvI (pc' := 14) (L' := [(0, .ref 143), (1, .int X1), (2, .int X2)]) (Ps := []) (rest := []) hq (z_at.mk 3 rfl rfl) (Or.inl ⟨rfl, rfl⟩) rfl rfl (by decide) (by decide) rfl (Nat.not_lt.mpr (Nat.le_of_ble_eq_true rfl)) rfl rfl (z_cat_le 0 rfl (by decide)) (z_lgl_le 1 rfl (by decide)) (by decide) (H.tg rfl) (by omega) (g_m_here_ok H h_11) rfl rfl ?_
      intro R_11 m_11 p_11 e_11 hR_11 H_11
      subst e_11
      refine r_p hq 1 (pc' := 16) (L' := [(0, .ref 143), (1, .int X1), (2, .int X2)]) (st' := [.int ((38 : Int32)), .int R_11]) rfl ?_
      rcases z_ite h with ⟨c_16, h⟩ | ⟨c_16, h⟩
      · refine r_t2 (pc' := 38) (L' := [(2, .int X2)]) hq (z_at.mk 3 rfl rfl) rfl hR_11 (rfl : (38 : Int32).toInt = 38) c_16 rfl rfl ?_
        refine r_p hq 1 (pc' := 39) (L' := [(2, .int X2)]) (st' := [.int X2]) rfl ?_
        obtain ⟨g_39, h⟩ := z_if_some h
        cases h
        exact r_ri hq (z_at.mk 1 rfl rfl) rfl (z_rty_bo hx2 g_39) hx2 rfl H_11
      · refine r_f2 (pc' := 19) (L' := [(0, .ref 143), (1, .int X1), (2, .int X2)]) hq (z_at.mk 3 rfl rfl) rfl hR_11 (rfl : (38 : Int32).toInt = 38) c_16 rfl rfl ?_
        refine r_p hq 2 (pc' := 21) (L' := [(0, .ref 143), (1, .int X1), (2, .int X2)]) (st' := [.ref 143, .ref 143]) rfl ?_
        refine r_gI (pc' := 24) (L' := [(0, .ref 143), (1, .int X1), (2, .int X2)]) H_11 hq (z_at.mk 3 rfl rfl) rfl rfl rfl rfl ?_
        intro V_21 hV_21
        refine r_p hq 2 (pc' := 26) (L' := [(0, .ref 143), (1, .int X1), (2, .int X2)]) (st' := [.int (V_21 + ((1 : Int32))), .ref 143]) rfl ?_
        refine r_pI (X := V_21 + ((1 : Int32))) (pc' := 29) (L' := [(0, .ref 143), (1, .int X1), (2, .int X2)]) H_11 hq (z_at.mk 3 rfl rfl) rfl rfl (tx_iadd hV_21 (rfl : (1 : Int32).toInt = 1)) (by decide) rfl rfl rfl rfl ?_
        intro m_26 H_26
        refine r_p hq 2 (pc' := 31) (L' := [(0, .ref 143), (1, .int X1), (2, .int X2)]) (st' := [.int X1, .ref 143]) rfl ?_
        obtain ⟨o_31, h_31, h⟩ := Option.bind_eq_some_iff.mp h
        refine r_cvI (pc' := 34) (L' := [(0, .ref 143), (1, .int X1), (2, .int X2)]) (Ps := [.int X1]) (rest := []) hq (z_at.mk 3 rfl rfl) (Or.inl ⟨rfl, rfl⟩) rfl rfl (by decide) (by decide) rfl (Nat.not_lt.mpr (Nat.le_of_ble_eq_true rfl)) rfl rfl (z_cat_le 0 rfl (by decide)) (z_lgl_le 2 rfl (by decide)) (by decide) (H_26.tg rfl) (by omega) (hrec 225 (by simp) hx1 H_26 h_31) rfl rfl ?_
        intro R_31 m_31 p_31 e_31 hR_31 H_31
        subst e_31
        refine r_p hq 2 (pc' := 6) (L' := [(0, .ref 143), (1, .int X1), (2, .int R_31)]) (st' := []) rfl ?_
        exact ih hx1 hR_31 H_31 h
def g_m_isBoth (rec : Nat → Int → zS → Option (Int × zS)) (x1 : Int) (σ : zS) : Option (Int × zS) :=
  (rec 225 x1 σ).bind fun o_2 =>
  g_m_isBoth_L6 rec zK x1 o_2.1 o_2.2
set_option maxHeartbeats 4000000 in
theorem g_m_isBoth_ok {xl : Nat} {xs : Nat → Int32} {dr : Nat} (hdr : 5 ≤ dr) {rec : Nat → Int → zS → Option (Int × zS)} (hrec : ∀ j, j ∈ [225, 226, 227] → ∀ {X1 : Int32} {x1 : Int} {σ : zS} {p : Nat} {m : zM} {o : Int × zS}, X1.toInt = x1 → zRep xl xs p m σ → rec j x1 σ = some o → zGo xl xs (fun p' => p = p') dr j 0 (z_can j 0 (lv_args 0 [.ref 143, .int X1])) [] m (vI o.1) o.2) {X1 : Int32} {x1 : Int} (hx1 : X1.toInt = x1) {σ : zS} {p : Nat} {m : zM} {o : Int × zS} (H : zRep xl xs p m σ) (h : g_m_isBoth rec x1 σ = some o) : zGo xl xs (fun p' => p = p') (dr + 1) 226 0 (z_can 226 0 (lv_args 0 [.ref 143, .int X1])) [] m (vI o.1) o.2 := by
  have hq : z_mth 226 = some z_r226 := rfl
  unfold g_m_isBoth at h
  show zGo xl xs (fun p' => p = p') (dr + 1) 226 0 [(0, .ref 143), (1, .int X1)] [] m (vI o.1) o.2
  refine r_p hq 2 (pc' := 2) (L' := [(0, .ref 143), (1, .int X1)]) (st' := [.int X1, .ref 143]) rfl ?_
  obtain ⟨o_2, h_2, h⟩ := Option.bind_eq_some_iff.mp h
  refine r_cvI (pc' := 5) (L' := [(0, .ref 143), (1, .int X1)]) (Ps := [.int X1]) (rest := []) hq (z_at.mk 3 rfl rfl) (Or.inl ⟨rfl, rfl⟩) rfl rfl (by decide) (by decide) rfl (Nat.not_lt.mpr (Nat.le_of_ble_eq_true rfl)) rfl rfl (z_cat_le 0 rfl (by decide)) (z_lgl_le 2 rfl (by decide)) (by decide) (H.tg rfl) (by omega) (hrec 225 (by simp) hx1 H h_2) rfl rfl ?_
  intro R_2 m_2 p_2 e_2 hR_2 H_2
  subst e_2
  refine r_p hq 1 (pc' := 6) (L' := [(0, .ref 143), (1, .int X1), (2, .int R_2)]) (st' := []) rfl ?_
  exact g_m_isBoth_L6_ok hdr hrec zK hx1 hR_2 H_2 h
def g_m_isEither_L6 (rec : Nat → Int → zS → Option (Int × zS)) : Nat → Int → Int → zS → Option (Int × zS)
  | 0, _, _, _ => none
  | n + 1, x1, x2, σ =>
    if x2 = 0 then
      if x2 = 0 ∨ x2 = 1 then some (x2, σ) else none
    else
      (g_m_here σ).bind fun o_11 =>
      if o_11.1 ≠ 124 then
        if x2 = 0 ∨ x2 = 1 then some (x2, o_11.2) else none
      else
        let v_21 := o_11.2 143 21
        let s_26 := zu o_11.2 143 21 (w32 (v_21 + 1))
        (rec 226 x1 s_26).bind fun o_31 =>
        (g_m_isEither_L6 rec n) x1 o_31.1 o_31.2
set_option maxHeartbeats 4000000 in
theorem g_m_isEither_L6_ok {xl : Nat} {xs : Nat → Int32} {dr : Nat} (hdr : 5 ≤ dr) {rec : Nat → Int → zS → Option (Int × zS)} (hrec : ∀ j, j ∈ [225, 226, 227] → ∀ {X1 : Int32} {x1 : Int} {σ : zS} {p : Nat} {m : zM} {o : Int × zS}, X1.toInt = x1 → zRep xl xs p m σ → rec j x1 σ = some o → zGo xl xs (fun p' => p = p') dr j 0 (z_can j 0 (lv_args 0 [.ref 143, .int X1])) [] m (vI o.1) o.2) : ∀ (n : Nat) {X1 : Int32} {x1 : Int} {X2 : Int32} {x2 : Int} {σ : zS} {p : Nat} {m : zM} {o : Int × zS}, X1.toInt = x1 → X2.toInt = x2 → zRep xl xs p m σ → g_m_isEither_L6 rec n x1 x2 σ = some o → zGo xl xs (fun p' => p = p') (dr + 1) 227 6 [(0, .ref 143), (1, .int X1), (2, .int X2)] [] m (vI o.1) o.2
  | 0, _, _, _, _, _, _, _, _, _, _, _, h => by cases h
  | n + 1, X1, x1, X2, x2, σ, p, m, o, hx1, hx2, H, h => by
    have hq : z_mth 227 = some z_r227 := rfl
    have ih := fun {X1 : Int32} {x1 : Int} {X2 : Int32} {x2 : Int} {σ : zS} {p : Nat} {m : zM} {o : Int × zS} => g_m_isEither_L6_ok (xl := xl) (xs := xs) hdr hrec n (X1 := X1) (x1 := x1) (X2 := X2) (x2 := x2) (σ := σ) (p := p) (m := m) (o := o)
    unfold g_m_isEither_L6 at h
    refine r_p hq 1 (pc' := 7) (L' := [(0, .ref 143), (1, .int X1), (2, .int X2)]) (st' := [.int X2]) rfl ?_
    rcases z_ite h with ⟨c_7, h⟩ | ⟨c_7, h⟩
    · refine r_t1 (pc' := 38) (L' := [(2, .int X2)]) hq (z_at.mk 3 rfl rfl) rfl hx2 c_7 rfl rfl ?_
      refine r_p hq 1 (pc' := 39) (L' := [(2, .int X2)]) (st' := [.int X2]) rfl ?_
      obtain ⟨g_39, h⟩ := z_if_some h
      cases h
      exact r_ri hq (z_at.mk 1 rfl rfl) rfl (z_rty_bo hx2 g_39) hx2 rfl H
    · refine r_f1 (pc' := 10) (L' := [(0, .ref 143), (1, .int X1), (2, .int X2)]) hq (z_at.mk 3 rfl rfl) rfl hx2 c_7 rfl rfl ?_
      refine r_p hq 1 (pc' := 11) (L' := [(0, .ref 143), (1, .int X1), (2, .int X2)]) (st' := [.ref 143]) rfl ?_
      obtain ⟨o_11, h_11, h⟩ := Option.bind_eq_some_iff.mp h
      refine r_cvI (pc' := 14) (L' := [(0, .ref 143), (1, .int X1), (2, .int X2)]) (Ps := []) (rest := []) hq (z_at.mk 3 rfl rfl) (Or.inl ⟨rfl, rfl⟩) rfl rfl (by decide) (by decide) rfl (Nat.not_lt.mpr (Nat.le_of_ble_eq_true rfl)) rfl rfl (z_cat_le 0 rfl (by decide)) (z_lgl_le 1 rfl (by decide)) (by decide) (H.tg rfl) (by omega) (g_m_here_ok H h_11) rfl rfl ?_
      intro R_11 m_11 p_11 e_11 hR_11 H_11
      subst e_11
      refine r_p hq 1 (pc' := 16) (L' := [(0, .ref 143), (1, .int X1), (2, .int X2)]) (st' := [.int ((124 : Int32)), .int R_11]) rfl ?_
      rcases z_ite h with ⟨c_16, h⟩ | ⟨c_16, h⟩
      · refine r_t2 (pc' := 38) (L' := [(2, .int X2)]) hq (z_at.mk 3 rfl rfl) rfl hR_11 (rfl : (124 : Int32).toInt = 124) c_16 rfl rfl ?_
        refine r_p hq 1 (pc' := 39) (L' := [(2, .int X2)]) (st' := [.int X2]) rfl ?_
        obtain ⟨g_39, h⟩ := z_if_some h
        cases h
        exact r_ri hq (z_at.mk 1 rfl rfl) rfl (z_rty_bo hx2 g_39) hx2 rfl H_11
      · refine r_f2 (pc' := 19) (L' := [(0, .ref 143), (1, .int X1), (2, .int X2)]) hq (z_at.mk 3 rfl rfl) rfl hR_11 (rfl : (124 : Int32).toInt = 124) c_16 rfl rfl ?_
        refine r_p hq 2 (pc' := 21) (L' := [(0, .ref 143), (1, .int X1), (2, .int X2)]) (st' := [.ref 143, .ref 143]) rfl ?_
        refine r_gI (pc' := 24) (L' := [(0, .ref 143), (1, .int X1), (2, .int X2)]) H_11 hq (z_at.mk 3 rfl rfl) rfl rfl rfl rfl ?_
        intro V_21 hV_21
        refine r_p hq 2 (pc' := 26) (L' := [(0, .ref 143), (1, .int X1), (2, .int X2)]) (st' := [.int (V_21 + ((1 : Int32))), .ref 143]) rfl ?_
        refine r_pI (X := V_21 + ((1 : Int32))) (pc' := 29) (L' := [(0, .ref 143), (1, .int X1), (2, .int X2)]) H_11 hq (z_at.mk 3 rfl rfl) rfl rfl (tx_iadd hV_21 (rfl : (1 : Int32).toInt = 1)) (by decide) rfl rfl rfl rfl ?_
        intro m_26 H_26
        refine r_p hq 2 (pc' := 31) (L' := [(0, .ref 143), (1, .int X1), (2, .int X2)]) (st' := [.int X1, .ref 143]) rfl ?_
        obtain ⟨o_31, h_31, h⟩ := Option.bind_eq_some_iff.mp h
        refine r_cvI (pc' := 34) (L' := [(0, .ref 143), (1, .int X1), (2, .int X2)]) (Ps := [.int X1]) (rest := []) hq (z_at.mk 3 rfl rfl) (Or.inl ⟨rfl, rfl⟩) rfl rfl (by decide) (by decide) rfl (Nat.not_lt.mpr (Nat.le_of_ble_eq_true rfl)) rfl rfl (z_cat_le 0 rfl (by decide)) (z_lgl_le 2 rfl (by decide)) (by decide) (H_26.tg rfl) (by omega) (hrec 226 (by simp) hx1 H_26 h_31) rfl rfl ?_
        intro R_31 m_31 p_31 e_31 hR_31 H_31
        subst e_31
        refine r_p hq 2 (pc' := 6) (L' := [(0, .ref 143), (1, .int X1), (2, .int R_31)]) (st' := []) rfl ?_
        exact ih hx1 hR_31 H_31 h
def g_m_isEither (rec : Nat → Int → zS → Option (Int × zS)) (x1 : Int) (σ : zS) : Option (Int × zS) :=
  (rec 226 x1 σ).bind fun o_2 =>
  g_m_isEither_L6 rec zK x1 o_2.1 o_2.2
set_option maxHeartbeats 4000000 in
theorem g_m_isEither_ok {xl : Nat} {xs : Nat → Int32} {dr : Nat} (hdr : 5 ≤ dr) {rec : Nat → Int → zS → Option (Int × zS)} (hrec : ∀ j, j ∈ [225, 226, 227] → ∀ {X1 : Int32} {x1 : Int} {σ : zS} {p : Nat} {m : zM} {o : Int × zS}, X1.toInt = x1 → zRep xl xs p m σ → rec j x1 σ = some o → zGo xl xs (fun p' => p = p') dr j 0 (z_can j 0 (lv_args 0 [.ref 143, .int X1])) [] m (vI o.1) o.2) {X1 : Int32} {x1 : Int} (hx1 : X1.toInt = x1) {σ : zS} {p : Nat} {m : zM} {o : Int × zS} (H : zRep xl xs p m σ) (h : g_m_isEither rec x1 σ = some o) : zGo xl xs (fun p' => p = p') (dr + 1) 227 0 (z_can 227 0 (lv_args 0 [.ref 143, .int X1])) [] m (vI o.1) o.2 := by
  have hq : z_mth 227 = some z_r227 := rfl
  unfold g_m_isEither at h
  show zGo xl xs (fun p' => p = p') (dr + 1) 227 0 [(0, .ref 143), (1, .int X1)] [] m (vI o.1) o.2
  refine r_p hq 2 (pc' := 2) (L' := [(0, .ref 143), (1, .int X1)]) (st' := [.int X1, .ref 143]) rfl ?_
  obtain ⟨o_2, h_2, h⟩ := Option.bind_eq_some_iff.mp h
  refine r_cvI (pc' := 5) (L' := [(0, .ref 143), (1, .int X1)]) (Ps := [.int X1]) (rest := []) hq (z_at.mk 3 rfl rfl) (Or.inl ⟨rfl, rfl⟩) rfl rfl (by decide) (by decide) rfl (Nat.not_lt.mpr (Nat.le_of_ble_eq_true rfl)) rfl rfl (z_cat_le 0 rfl (by decide)) (z_lgl_le 2 rfl (by decide)) (by decide) (H.tg rfl) (by omega) (hrec 226 (by simp) hx1 H h_2) rfl rfl ?_
  intro R_2 m_2 p_2 e_2 hR_2 H_2
  subst e_2
  refine r_p hq 1 (pc' := 6) (L' := [(0, .ref 143), (1, .int X1), (2, .int R_2)]) (st' := []) rfl ?_
  exact g_m_isEither_L6_ok hdr hrec zK hx1 hR_2 H_2 h
def g_grp225 : Nat → Nat → Int → zS → Option (Int × zS)
  | 0, _, _, _ => none
  | n + 1, j, x1, σ =>
    if j = 225 then g_m_isFactor (g_grp225 n) x1 σ else
    if j = 226 then g_m_isBoth (g_grp225 n) x1 σ else
    if j = 227 then g_m_isEither (g_grp225 n) x1 σ else
    none
theorem g_grp225_ok {xl : Nat} {xs : Nat → Int32} : ∀ (n : Nat) (j : Nat), j ∈ [225, 226, 227] → ∀ {X1 : Int32} {x1 : Int} {σ : zS} {p : Nat} {m : zM} {o : Int × zS}, X1.toInt = x1 → zRep xl xs p m σ → g_grp225 n j x1 σ = some o → zGo xl xs (fun p' => p = p') (5 + n) j 0 (z_can j 0 (lv_args 0 [.ref 143, .int X1])) [] m (vI o.1) o.2
  | 0, _, _, _, _, _, _, _, _, _, _, h => by cases h
  | n + 1, j, hj, X1, x1, σ, p, m, o, hx1, H, h => by
    have ih := fun (j : Nat) (hj : j ∈ [225, 226, 227]) {X1 : Int32} {x1 : Int} {σ : zS} {p : Nat} {m : zM} {o : Int × zS} => g_grp225_ok (xl := xl) (xs := xs) n j hj (X1 := X1) (x1 := x1) (σ := σ) (p := p) (m := m) (o := o)
    unfold g_grp225 at h
    by_cases c_225 : j = 225
    · rw [if_pos c_225] at h
      subst c_225
      exact g_m_isFactor_ok (Nat.le_add_right _ _) ih hx1 H h
    rw [if_neg c_225] at h
    by_cases c_226 : j = 226
    · rw [if_pos c_226] at h
      subst c_226
      exact g_m_isBoth_ok (Nat.le_add_right _ _) ih hx1 H h
    rw [if_neg c_226] at h
    by_cases c_227 : j = 227
    · rw [if_pos c_227] at h
      subst c_227
      exact g_m_isEither_ok (Nat.le_add_right _ _) ih hx1 H h
    rw [if_neg c_227] at h
    cases h
def g_m_isQuery (x1 : Int) (σ : zS) : Option (Int × zS) :=
  (g_m_word 14 σ).bind fun o_14 =>
  if 0 ≤ w32 (6 * x1) ∧ w32 (6 * x1) < 48 then
  let s_17 := zu o_14.2 161 (w32 (6 * x1)) o_14.1
  if 0 ≤ w32 (6 * x1) ∧ w32 (6 * x1) < 48 then
  let v_23 := s_17 161 (w32 (6 * x1))
  if v_23 < 0 then
    some (0, s_17)
  else
    (g_m_isSign 32 s_17).bind fun o_30 =>
    if o_30.1 = 0 then
      some (0, o_30.2)
    else
      (g_m_isRange (w32 ((w32 (6 * x1)) + 1)) o_30.2).bind fun o_40 =>
      if o_40.1 = 0 then
        some (0, o_40.2)
      else
        (g_m_isSign 32 o_40.2).bind fun o_49 =>
        if o_49.1 = 0 then
          some (0, o_49.2)
        else
          (g_m_isRange (w32 ((w32 (6 * x1)) + 3)) o_49.2).bind fun o_59 =>
          if o_59.1 ≠ 0 then
            if 0 ≤ w32 ((w32 (6 * x1)) + 5) ∧ w32 ((w32 (6 * x1)) + 5) < 48 then
            let s_75 := zu o_59.2 161 (w32 ((w32 (6 * x1)) + 5)) (-1)
            (g_m_here s_75).bind fun o_77 =>
            if o_77.1 = 32 then
              let v_89 := o_77.2 143 21
              let s_94 := zu o_77.2 143 21 (w32 (v_89 + 1))
              (g_m_word 15 s_94).bind fun o_101 =>
              if o_101.1 < 0 then
                some (0, o_101.2)
              else
                (g_m_isSign 32 o_101.2).bind fun o_110 =>
                if o_110.1 ≠ 0 then
                  let v_126 := o_110.2 143 21
                  if 0 ≤ w32 ((w32 (6 * x1)) + 5) ∧ w32 ((w32 (6 * x1)) + 5) < 48 then
                  let s_129 := zu o_110.2 161 (w32 ((w32 (6 * x1)) + 5)) v_126
                  (g_grp225 zR 227 0 s_129).bind fun o_132 =>
                  if o_132.1 = 0 ∨ o_132.1 = 1 then some (o_132.1, o_132.2) else none
                  else none
                else
                  some (0, o_110.2)
            else
              some (1, o_77.2)
            else none
          else
            some (0, o_59.2)
  else none
  else none
set_option maxHeartbeats 4000000 in
theorem g_m_isQuery_ok {xl : Nat} {xs : Nat → Int32} {X1 : Int32} {x1 : Int} (hx1 : X1.toInt = x1) {σ : zS} {p : Nat} {m : zM} {o : Int × zS} (H : zRep xl xs p m σ) (h : g_m_isQuery x1 σ = some o) : zGo xl xs (fun p' => p = p') 506 228 0 (z_can 228 0 (lv_args 0 [.ref 143, .int X1])) [] m (vI o.1) o.2 := by
  have hq : z_mth 228 = some z_r228 := rfl
  unfold g_m_isQuery at h
  show zGo xl xs (fun p' => p = p') 506 228 0 [(0, .ref 143), (1, .int X1)] [] m (vI o.1) o.2
  refine r_p hq 5 (pc' := 6) (L' := [(2, .int (((6 : Int32)) * X1)), (0, .ref 143), (1, .int X1)]) (st' := [.ref 143]) rfl ?_
  refine r_gR (b := 161) (pc' := 9) (L' := [(2, .int (((6 : Int32)) * X1)), (0, .ref 143), (1, .int X1)]) H hq (z_at.mk 3 rfl rfl) rfl rfl rfl rfl ?_
  refine r_p hq 3 (pc' := 14) (L' := [(2, .int (((6 : Int32)) * X1)), (0, .ref 143), (1, .int X1)]) (st' := [.ref 14, .ref 143, .int (((6 : Int32)) * X1), .ref 161]) rfl ?_
  obtain ⟨o_14, h_14, h⟩ := Option.bind_eq_some_iff.mp h
  refine r_cvI (pc' := 17) (L' := [(2, .int (((6 : Int32)) * X1)), (0, .ref 143), (1, .int X1)]) (Ps := [.ref 14]) (rest := [.int (((6 : Int32)) * X1), .ref 161]) hq (z_at.mk 3 rfl rfl) (Or.inl ⟨rfl, rfl⟩) rfl rfl (by decide) (by decide) rfl (Nat.not_lt.mpr (Nat.le_of_ble_eq_true rfl)) rfl rfl (z_cat_le 2 rfl (by decide)) (z_lgl_le 2 rfl (by decide)) (by decide) (H.tg rfl) (by omega) (g_m_word_ok rfl H h_14) rfl rfl ?_
  intro R_14 m_14 p_14 e_14 hR_14 H_14
  subst e_14
  obtain ⟨g_17, h⟩ := z_ifo_some h
  refine r_is (pc' := 18) (L' := [(2, .int (((6 : Int32)) * X1)), (0, .ref 143), (1, .int X1)]) H_14 hq (z_at.mk 1 rfl rfl) (show zAr 161 0 48 = true from rfl) (tx_imul (rfl : (6 : Int32).toInt = 6) hx1) g_17 hR_14 rfl rfl ?_
  intro m_17 H_17
  refine r_p hq 1 (pc' := 19) (L' := [(2, .int (((6 : Int32)) * X1)), (0, .ref 143), (1, .int X1)]) (st' := [.ref 143]) rfl ?_
  refine r_gR (b := 161) (pc' := 22) (L' := [(2, .int (((6 : Int32)) * X1)), (0, .ref 143), (1, .int X1)]) H_17 hq (z_at.mk 3 rfl rfl) rfl rfl rfl rfl ?_
  refine r_p hq 1 (pc' := 23) (L' := [(2, .int (((6 : Int32)) * X1)), (0, .ref 143), (1, .int X1)]) (st' := [.int (((6 : Int32)) * X1), .ref 161]) rfl ?_
  obtain ⟨g_23, h⟩ := z_ifo_some h
  refine r_ia (pc' := 24) (L' := [(2, .int (((6 : Int32)) * X1)), (0, .ref 143), (1, .int X1)]) H_17 hq (z_at.mk 1 rfl rfl) (show zAr 161 0 48 = true from rfl) (tx_imul (rfl : (6 : Int32).toInt = 6) hx1) g_23 rfl rfl ?_
  intro V_23 hV_23
  rcases z_ite h with ⟨c_24, h⟩ | ⟨c_24, h⟩
  · refine r_t1 (pc' := 65) (L' := []) hq (z_at.mk 3 rfl rfl) rfl hV_23 c_24 rfl rfl ?_
    refine r_p hq 1 (pc' := 66) (L' := []) (st' := [.int ((0 : Int32))]) rfl ?_
    cases h
    exact r_ri hq (z_at.mk 1 rfl rfl) rfl rfl (rfl : (0 : Int32).toInt = 0) rfl H_17
  · refine r_f1 (pc' := 27) (L' := [(2, .int (((6 : Int32)) * X1)), (0, .ref 143), (1, .int X1)]) hq (z_at.mk 3 rfl rfl) rfl hV_23 c_24 rfl rfl ?_
    refine r_p hq 2 (pc' := 30) (L' := [(2, .int (((6 : Int32)) * X1)), (0, .ref 143), (1, .int X1)]) (st' := [.int ((32 : Int32)), .ref 143]) rfl ?_
    obtain ⟨o_30, h_30, h⟩ := Option.bind_eq_some_iff.mp h
    refine r_cvI (pc' := 33) (L' := [(2, .int (((6 : Int32)) * X1)), (0, .ref 143), (1, .int X1)]) (Ps := [.int ((32 : Int32))]) (rest := []) hq (z_at.mk 3 rfl rfl) (Or.inl ⟨rfl, rfl⟩) rfl rfl (by decide) (by decide) rfl (Nat.not_lt.mpr (Nat.le_of_ble_eq_true rfl)) rfl rfl (z_cat_le 0 rfl (by decide)) (z_lgl_le 2 rfl (by decide)) (by decide) (H_17.tg rfl) (by omega) (g_m_isSign_ok (rfl : (32 : Int32).toInt = 32) H_17 h_30) rfl rfl ?_
    intro R_30 m_30 p_30 e_30 hR_30 H_30
    subst e_30
    rcases z_ite h with ⟨c_33, h⟩ | ⟨c_33, h⟩
    · refine r_t1 (pc' := 65) (L' := []) hq (z_at.mk 3 rfl rfl) rfl hR_30 c_33 rfl rfl ?_
      refine r_p hq 1 (pc' := 66) (L' := []) (st' := [.int ((0 : Int32))]) rfl ?_
      cases h
      exact r_ri hq (z_at.mk 1 rfl rfl) rfl rfl (rfl : (0 : Int32).toInt = 0) rfl H_30
    · refine r_f1 (pc' := 36) (L' := [(2, .int (((6 : Int32)) * X1)), (0, .ref 143), (1, .int X1)]) hq (z_at.mk 3 rfl rfl) rfl hR_30 c_33 rfl rfl ?_
      refine r_p hq 4 (pc' := 40) (L' := [(2, .int (((6 : Int32)) * X1)), (0, .ref 143), (1, .int X1)]) (st' := [.int ((((6 : Int32)) * X1) + ((1 : Int32))), .ref 143]) rfl ?_
      obtain ⟨o_40, h_40, h⟩ := Option.bind_eq_some_iff.mp h
      refine r_cvI (pc' := 43) (L' := [(2, .int (((6 : Int32)) * X1)), (0, .ref 143), (1, .int X1)]) (Ps := [.int ((((6 : Int32)) * X1) + ((1 : Int32)))]) (rest := []) hq (z_at.mk 3 rfl rfl) (Or.inl ⟨rfl, rfl⟩) rfl rfl (by decide) (by decide) rfl (Nat.not_lt.mpr (Nat.le_of_ble_eq_true rfl)) rfl rfl (z_cat_le 0 rfl (by decide)) (z_lgl_le 2 rfl (by decide)) (by decide) (H_30.tg rfl) (by omega) (g_m_isRange_ok (tx_iadd (tx_imul (rfl : (6 : Int32).toInt = 6) hx1) (rfl : (1 : Int32).toInt = 1)) H_30 h_40) rfl rfl ?_
      intro R_40 m_40 p_40 e_40 hR_40 H_40
      subst e_40
      rcases z_ite h with ⟨c_43, h⟩ | ⟨c_43, h⟩
      · refine r_t1 (pc' := 65) (L' := []) hq (z_at.mk 3 rfl rfl) rfl hR_40 c_43 rfl rfl ?_
        refine r_p hq 1 (pc' := 66) (L' := []) (st' := [.int ((0 : Int32))]) rfl ?_
        cases h
        exact r_ri hq (z_at.mk 1 rfl rfl) rfl rfl (rfl : (0 : Int32).toInt = 0) rfl H_40
      · refine r_f1 (pc' := 46) (L' := [(2, .int (((6 : Int32)) * X1)), (0, .ref 143), (1, .int X1)]) hq (z_at.mk 3 rfl rfl) rfl hR_40 c_43 rfl rfl ?_
        refine r_p hq 2 (pc' := 49) (L' := [(2, .int (((6 : Int32)) * X1)), (0, .ref 143), (1, .int X1)]) (st' := [.int ((32 : Int32)), .ref 143]) rfl ?_
        obtain ⟨o_49, h_49, h⟩ := Option.bind_eq_some_iff.mp h
        refine r_cvI (pc' := 52) (L' := [(2, .int (((6 : Int32)) * X1)), (0, .ref 143), (1, .int X1)]) (Ps := [.int ((32 : Int32))]) (rest := []) hq (z_at.mk 3 rfl rfl) (Or.inl ⟨rfl, rfl⟩) rfl rfl (by decide) (by decide) rfl (Nat.not_lt.mpr (Nat.le_of_ble_eq_true rfl)) rfl rfl (z_cat_le 0 rfl (by decide)) (z_lgl_le 2 rfl (by decide)) (by decide) (H_40.tg rfl) (by omega) (g_m_isSign_ok (rfl : (32 : Int32).toInt = 32) H_40 h_49) rfl rfl ?_
        intro R_49 m_49 p_49 e_49 hR_49 H_49
        subst e_49
        rcases z_ite h with ⟨c_52, h⟩ | ⟨c_52, h⟩
        · refine r_t1 (pc' := 65) (L' := []) hq (z_at.mk 3 rfl rfl) rfl hR_49 c_52 rfl rfl ?_
          refine r_p hq 1 (pc' := 66) (L' := []) (st' := [.int ((0 : Int32))]) rfl ?_
          cases h
          exact r_ri hq (z_at.mk 1 rfl rfl) rfl rfl (rfl : (0 : Int32).toInt = 0) rfl H_49
        · refine r_f1 (pc' := 55) (L' := [(2, .int (((6 : Int32)) * X1)), (0, .ref 143), (1, .int X1)]) hq (z_at.mk 3 rfl rfl) rfl hR_49 c_52 rfl rfl ?_
          refine r_p hq 4 (pc' := 59) (L' := [(2, .int (((6 : Int32)) * X1)), (0, .ref 143), (1, .int X1)]) (st' := [.int ((((6 : Int32)) * X1) + ((3 : Int32))), .ref 143]) rfl ?_
          obtain ⟨o_59, h_59, h⟩ := Option.bind_eq_some_iff.mp h
          refine r_cvI (pc' := 62) (L' := [(2, .int (((6 : Int32)) * X1)), (0, .ref 143), (1, .int X1)]) (Ps := [.int ((((6 : Int32)) * X1) + ((3 : Int32)))]) (rest := []) hq (z_at.mk 3 rfl rfl) (Or.inl ⟨rfl, rfl⟩) rfl rfl (by decide) (by decide) rfl (Nat.not_lt.mpr (Nat.le_of_ble_eq_true rfl)) rfl rfl (z_cat_le 0 rfl (by decide)) (z_lgl_le 2 rfl (by decide)) (by decide) (H_49.tg rfl) (by omega) (g_m_isRange_ok (tx_iadd (tx_imul (rfl : (6 : Int32).toInt = 6) hx1) (rfl : (3 : Int32).toInt = 3)) H_49 h_59) rfl rfl ?_
          intro R_59 m_59 p_59 e_59 hR_59 H_59
          subst e_59
          rcases z_ite h with ⟨c_62, h⟩ | ⟨c_62, h⟩
          · refine r_t1 (pc' := 67) (L' := [(2, .int (((6 : Int32)) * X1)), (0, .ref 143), (1, .int X1)]) hq (z_at.mk 3 rfl rfl) rfl hR_59 c_62 rfl rfl ?_
            refine r_p hq 1 (pc' := 68) (L' := [(2, .int (((6 : Int32)) * X1)), (0, .ref 143), (1, .int X1)]) (st' := [.ref 143]) rfl ?_
            refine r_gR (b := 161) (pc' := 71) (L' := [(2, .int (((6 : Int32)) * X1)), (0, .ref 143), (1, .int X1)]) H_59 hq (z_at.mk 3 rfl rfl) rfl rfl rfl rfl ?_
            refine r_p hq 4 (pc' := 75) (L' := [(2, .int (((6 : Int32)) * X1)), (0, .ref 143), (1, .int X1)]) (st' := [.int ((-1 : Int32)), .int ((((6 : Int32)) * X1) + ((5 : Int32))), .ref 161]) rfl ?_
            obtain ⟨g_75, h⟩ := z_ifo_some h
            refine r_is (pc' := 76) (L' := [(2, .int (((6 : Int32)) * X1)), (0, .ref 143), (1, .int X1)]) H_59 hq (z_at.mk 1 rfl rfl) (show zAr 161 0 48 = true from rfl) (tx_iadd (tx_imul (rfl : (6 : Int32).toInt = 6) hx1) (rfl : (5 : Int32).toInt = 5)) g_75 (rfl : (-1 : Int32).toInt = -1) rfl rfl ?_
            intro m_75 H_75
            refine r_p hq 1 (pc' := 77) (L' := [(2, .int (((6 : Int32)) * X1)), (0, .ref 143), (1, .int X1)]) (st' := [.ref 143]) rfl ?_
            obtain ⟨o_77, h_77, h⟩ := Option.bind_eq_some_iff.mp h
            refine r_cvI (pc' := 80) (L' := [(2, .int (((6 : Int32)) * X1)), (0, .ref 143), (1, .int X1)]) (Ps := []) (rest := []) hq (z_at.mk 3 rfl rfl) (Or.inl ⟨rfl, rfl⟩) rfl rfl (by decide) (by decide) rfl (Nat.not_lt.mpr (Nat.le_of_ble_eq_true rfl)) rfl rfl (z_cat_le 0 rfl (by decide)) (z_lgl_le 1 rfl (by decide)) (by decide) (H_75.tg rfl) (by omega) (g_m_here_ok H_75 h_77) rfl rfl ?_
            intro R_77 m_77 p_77 e_77 hR_77 H_77
            subst e_77
            refine r_p hq 1 (pc' := 82) (L' := [(2, .int (((6 : Int32)) * X1)), (0, .ref 143), (1, .int X1)]) (st' := [.int ((32 : Int32)), .int R_77]) rfl ?_
            rcases z_ite h with ⟨c_82, h⟩ | ⟨c_82, h⟩
            · refine r_t2 (pc' := 87) (L' := [(2, .int (((6 : Int32)) * X1)), (0, .ref 143), (1, .int X1)]) hq (z_at.mk 3 rfl rfl) rfl hR_77 (rfl : (32 : Int32).toInt = 32) c_82 rfl rfl ?_
              refine r_p hq 2 (pc' := 89) (L' := [(2, .int (((6 : Int32)) * X1)), (0, .ref 143), (1, .int X1)]) (st' := [.ref 143, .ref 143]) rfl ?_
              refine r_gI (pc' := 92) (L' := [(2, .int (((6 : Int32)) * X1)), (0, .ref 143), (1, .int X1)]) H_77 hq (z_at.mk 3 rfl rfl) rfl rfl rfl rfl ?_
              intro V_89 hV_89
              refine r_p hq 2 (pc' := 94) (L' := [(2, .int (((6 : Int32)) * X1)), (0, .ref 143), (1, .int X1)]) (st' := [.int (V_89 + ((1 : Int32))), .ref 143]) rfl ?_
              refine r_pI (X := V_89 + ((1 : Int32))) (pc' := 97) (L' := [(2, .int (((6 : Int32)) * X1)), (0, .ref 143), (1, .int X1)]) H_77 hq (z_at.mk 3 rfl rfl) rfl rfl (tx_iadd hV_89 (rfl : (1 : Int32).toInt = 1)) (by decide) rfl rfl rfl rfl ?_
              intro m_94 H_94
              refine r_p hq 2 (pc' := 101) (L' := [(2, .int (((6 : Int32)) * X1)), (0, .ref 143), (1, .int X1)]) (st' := [.ref 15, .ref 143]) rfl ?_
              obtain ⟨o_101, h_101, h⟩ := Option.bind_eq_some_iff.mp h
              refine r_cvI (pc' := 104) (L' := [(2, .int (((6 : Int32)) * X1)), (0, .ref 143), (1, .int X1)]) (Ps := [.ref 15]) (rest := []) hq (z_at.mk 3 rfl rfl) (Or.inl ⟨rfl, rfl⟩) rfl rfl (by decide) (by decide) rfl (Nat.not_lt.mpr (Nat.le_of_ble_eq_true rfl)) rfl rfl (z_cat_le 0 rfl (by decide)) (z_lgl_le 2 rfl (by decide)) (by decide) (H_94.tg rfl) (by omega) (g_m_word_ok rfl H_94 h_101) rfl rfl ?_
              intro R_101 m_101 p_101 e_101 hR_101 H_101
              subst e_101
              rcases z_ite h with ⟨c_104, h⟩ | ⟨c_104, h⟩
              · refine r_t1 (pc' := 116) (L' := []) hq (z_at.mk 3 rfl rfl) rfl hR_101 c_104 rfl rfl ?_
                refine r_p hq 1 (pc' := 117) (L' := []) (st' := [.int ((0 : Int32))]) rfl ?_
                cases h
                exact r_ri hq (z_at.mk 1 rfl rfl) rfl rfl (rfl : (0 : Int32).toInt = 0) rfl H_101
              · refine r_f1 (pc' := 107) (L' := [(2, .int (((6 : Int32)) * X1)), (0, .ref 143), (1, .int X1)]) hq (z_at.mk 3 rfl rfl) rfl hR_101 c_104 rfl rfl ?_
                refine r_p hq 2 (pc' := 110) (L' := [(2, .int (((6 : Int32)) * X1)), (0, .ref 143), (1, .int X1)]) (st' := [.int ((32 : Int32)), .ref 143]) rfl ?_
                obtain ⟨o_110, h_110, h⟩ := Option.bind_eq_some_iff.mp h
                refine r_cvI (pc' := 113) (L' := [(2, .int (((6 : Int32)) * X1)), (0, .ref 143), (1, .int X1)]) (Ps := [.int ((32 : Int32))]) (rest := []) hq (z_at.mk 3 rfl rfl) (Or.inl ⟨rfl, rfl⟩) rfl rfl (by decide) (by decide) rfl (Nat.not_lt.mpr (Nat.le_of_ble_eq_true rfl)) rfl rfl (z_cat_le 0 rfl (by decide)) (z_lgl_le 2 rfl (by decide)) (by decide) (H_101.tg rfl) (by omega) (g_m_isSign_ok (rfl : (32 : Int32).toInt = 32) H_101 h_110) rfl rfl ?_
                intro R_110 m_110 p_110 e_110 hR_110 H_110
                subst e_110
                rcases z_ite h with ⟨c_113, h⟩ | ⟨c_113, h⟩
                · refine r_t1 (pc' := 118) (L' := [(2, .int (((6 : Int32)) * X1)), (0, .ref 143), (1, .int X1)]) hq (z_at.mk 3 rfl rfl) rfl hR_110 c_113 rfl rfl ?_
                  refine r_p hq 1 (pc' := 119) (L' := [(2, .int (((6 : Int32)) * X1)), (0, .ref 143), (1, .int X1)]) (st' := [.ref 143]) rfl ?_
                  refine r_gR (b := 161) (pc' := 122) (L' := [(2, .int (((6 : Int32)) * X1)), (0, .ref 143), (1, .int X1)]) H_110 hq (z_at.mk 3 rfl rfl) rfl rfl rfl rfl ?_
                  refine r_p hq 4 (pc' := 126) (L' := [(2, .int (((6 : Int32)) * X1)), (0, .ref 143), (1, .int X1)]) (st' := [.ref 143, .int ((((6 : Int32)) * X1) + ((5 : Int32))), .ref 161]) rfl ?_
                  refine r_gI (pc' := 129) (L' := [(2, .int (((6 : Int32)) * X1)), (0, .ref 143), (1, .int X1)]) H_110 hq (z_at.mk 3 rfl rfl) rfl rfl rfl rfl ?_
                  intro V_126 hV_126
                  obtain ⟨g_129, h⟩ := z_ifo_some h
                  refine r_is (pc' := 130) (L' := [(2, .int (((6 : Int32)) * X1)), (0, .ref 143), (1, .int X1)]) H_110 hq (z_at.mk 1 rfl rfl) (show zAr 161 0 48 = true from rfl) (tx_iadd (tx_imul (rfl : (6 : Int32).toInt = 6) hx1) (rfl : (5 : Int32).toInt = 5)) g_129 hV_126 rfl rfl ?_
                  intro m_129 H_129
                  refine r_p hq 2 (pc' := 132) (L' := [(2, .int (((6 : Int32)) * X1)), (0, .ref 143), (1, .int X1)]) (st' := [.int ((0 : Int32)), .ref 143]) rfl ?_
                  obtain ⟨o_132, h_132, h⟩ := Option.bind_eq_some_iff.mp h
                  refine r_cvI (pc' := 135) (L' := [(2, .int (((6 : Int32)) * X1)), (0, .ref 143), (1, .int X1)]) (Ps := [.int ((0 : Int32))]) (rest := []) hq (z_at.mk 3 rfl rfl) (Or.inl ⟨rfl, rfl⟩) rfl rfl (by decide) (by decide) rfl (Nat.not_lt.mpr (Nat.le_of_ble_eq_true rfl)) rfl rfl (z_cat_le 0 rfl (by decide)) (z_lgl_le 2 rfl (by decide)) (by decide) (H_129.tg rfl) (by show 5 + zR + 1 ≤ _; unfold zR; omega) (g_grp225_ok zR 227 (by simp) (rfl : (0 : Int32).toInt = 0) H_129 h_132) rfl rfl ?_
                  intro R_132 m_132 p_132 e_132 hR_132 H_132
                  subst e_132
                  obtain ⟨g_135, h⟩ := z_if_some h
                  cases h
                  exact r_ri hq (z_at.mk 1 rfl rfl) rfl (z_rty_bo hR_132 g_135) hR_132 rfl H_132
                · refine r_f1 (pc' := 116) (L' := []) hq (z_at.mk 3 rfl rfl) rfl hR_110 c_113 rfl rfl ?_
                  refine r_p hq 1 (pc' := 117) (L' := []) (st' := [.int ((0 : Int32))]) rfl ?_
                  cases h
                  exact r_ri hq (z_at.mk 1 rfl rfl) rfl rfl (rfl : (0 : Int32).toInt = 0) rfl H_110
            · refine r_f2 (pc' := 85) (L' := [(2, .int (((6 : Int32)) * X1)), (0, .ref 143), (1, .int X1)]) hq (z_at.mk 3 rfl rfl) rfl hR_77 (rfl : (32 : Int32).toInt = 32) c_82 rfl rfl ?_
              refine r_p hq 1 (pc' := 86) (L' := [(2, .int (((6 : Int32)) * X1)), (0, .ref 143), (1, .int X1)]) (st' := [.int ((1 : Int32))]) rfl ?_
              cases h
              exact r_ri hq (z_at.mk 1 rfl rfl) rfl rfl (rfl : (1 : Int32).toInt = 1) rfl H_77
          · refine r_f1 (pc' := 65) (L' := []) hq (z_at.mk 3 rfl rfl) rfl hR_59 c_62 rfl rfl ?_
            refine r_p hq 1 (pc' := 66) (L' := []) (st' := [.int ((0 : Int32))]) rfl ?_
            cases h
            exact r_ri hq (z_at.mk 1 rfl rfl) rfl rfl (rfl : (0 : Int32).toInt = 0) rfl H_59
def g_m_run_L68 (g8 : Int → Int → zS → Option (Int × zS)) (x1 : Int) (xs0 : Int) (σ : zS) : Option (Int × zS) :=
  g8 x1 xs0 σ
set_option maxHeartbeats 4000000 in
theorem g_m_run_L68_ok {xl : Nat} {xs : Nat → Int32} {g8 : Int → Int → zS → Option (Int × zS)} (hg8 : ∀ {X1 : Int32} {x1 : Int} {X2 : Int32} {x2 : Int} {σ : zS} {p : Nat} {m : zM} {o : Int × zS}, X1.toInt = x1 → X2.toInt = x2 → zRep xl xs p m σ → g8 x1 x2 σ = some o → zGo xl xs (fun p' => p = p') 507 229 8 [(0, .ref 143), (1, .int X1), (2, .int X2)] [] m (vI o.1) o.2) {X1 : Int32} {x1 : Int} (hx1 : X1.toInt = x1) {Xs0 : Int32} {xs0 : Int} (hxs0 : Xs0.toInt = xs0) {σ : zS} {p : Nat} {m : zM} {o : Int × zS} (H : zRep xl xs p m σ) (h : g_m_run_L68 g8 x1 xs0 σ = some o) : zGo xl xs (fun p' => p = p') 507 229 68 [(0, .ref 143), (1, .int X1)] [.int Xs0] m (vI o.1) o.2 := by
  have hq : z_mth 229 = some z_r229 := rfl
  unfold g_m_run_L68 at h
  refine r_p hq 2 (pc' := 8) (L' := [(0, .ref 143), (1, .int X1), (2, .int Xs0)]) (st' := []) rfl ?_
  exact hg8 hx1 hxs0 H h
def g_m_run_L41 (g8 : Int → Int → zS → Option (Int × zS)) (x1 : Int) (x2 : Int) (σ : zS) : Option (Int × zS) :=
  if x2 = 0 then
    g8 x1 x2 σ
  else
    if 8 ≤ x1 then
      let v_62 := σ 143 21
      (g_m_fails v_62 σ).bind fun o_65 =>
      g_m_run_L68 g8 x1 o_65.1 o_65.2
    else
      (g_m_isSign 59 σ).bind fun o_54 =>
      g_m_run_L68 g8 x1 o_54.1 o_54.2
set_option maxHeartbeats 4000000 in
theorem g_m_run_L41_ok {xl : Nat} {xs : Nat → Int32} {g8 : Int → Int → zS → Option (Int × zS)} (hg8 : ∀ {X1 : Int32} {x1 : Int} {X2 : Int32} {x2 : Int} {σ : zS} {p : Nat} {m : zM} {o : Int × zS}, X1.toInt = x1 → X2.toInt = x2 → zRep xl xs p m σ → g8 x1 x2 σ = some o → zGo xl xs (fun p' => p = p') 507 229 8 [(0, .ref 143), (1, .int X1), (2, .int X2)] [] m (vI o.1) o.2) {X1 : Int32} {x1 : Int} (hx1 : X1.toInt = x1) {X2 : Int32} {x2 : Int} (hx2 : X2.toInt = x2) {σ : zS} {p : Nat} {m : zM} {o : Int × zS} (H : zRep xl xs p m σ) (h : g_m_run_L41 g8 x1 x2 σ = some o) : zGo xl xs (fun p' => p = p') 507 229 41 [(0, .ref 143), (1, .int X1), (2, .int X2)] [] m (vI o.1) o.2 := by
  have hq : z_mth 229 = some z_r229 := rfl
  unfold g_m_run_L41 at h
  refine r_p hq 1 (pc' := 42) (L' := [(0, .ref 143), (1, .int X1), (2, .int X2)]) (st' := [.int X2]) rfl ?_
  rcases z_ite h with ⟨c_42, h⟩ | ⟨c_42, h⟩
  · refine r_t1 (pc' := 8) (L' := [(0, .ref 143), (1, .int X1), (2, .int X2)]) hq (z_at.mk 3 rfl rfl) rfl hx2 c_42 rfl rfl ?_
    exact hg8 hx1 hx2 H h
  · refine r_f1 (pc' := 45) (L' := [(0, .ref 143), (1, .int X1), (2, .int X2)]) hq (z_at.mk 3 rfl rfl) rfl hx2 c_42 rfl rfl ?_
    refine r_p hq 2 (pc' := 48) (L' := [(0, .ref 143), (1, .int X1), (2, .int X2)]) (st' := [.int ((8 : Int32)), .int X1]) rfl ?_
    rcases z_ite h with ⟨c_48, h⟩ | ⟨c_48, h⟩
    · refine r_t2 (pc' := 60) (L' := [(0, .ref 143), (1, .int X1), (2, .int X2)]) hq (z_at.mk 3 rfl rfl) rfl hx1 (rfl : (8 : Int32).toInt = 8) c_48 rfl rfl ?_
      refine r_p hq 2 (pc' := 62) (L' := [(0, .ref 143), (1, .int X1), (2, .int X2)]) (st' := [.ref 143, .ref 143]) rfl ?_
      refine r_gI (pc' := 65) (L' := [(0, .ref 143), (1, .int X1), (2, .int X2)]) H hq (z_at.mk 3 rfl rfl) rfl rfl rfl rfl ?_
      intro V_62 hV_62
      obtain ⟨o_65, h_65, h⟩ := Option.bind_eq_some_iff.mp h
      refine r_cvI (pc' := 68) (L' := [(0, .ref 143), (1, .int X1)]) (Ps := [.int V_62]) (rest := []) hq (z_at.mk 3 rfl rfl) (Or.inl ⟨rfl, rfl⟩) rfl rfl (by decide) (by decide) rfl (Nat.not_lt.mpr (Nat.le_of_ble_eq_true rfl)) rfl rfl (z_cat_le 0 rfl (by decide)) (z_lgl_le 2 rfl (by decide)) (by decide) (H.tg rfl) (by omega) (g_m_fails_ok hV_62 H h_65) rfl rfl ?_
      intro R_65 m_65 p_65 e_65 hR_65 H_65
      subst e_65
      exact g_m_run_L68_ok hg8 hx1 hR_65 H_65 h
    · refine r_f2 (pc' := 51) (L' := [(0, .ref 143), (1, .int X1), (2, .int X2)]) hq (z_at.mk 3 rfl rfl) rfl hx1 (rfl : (8 : Int32).toInt = 8) c_48 rfl rfl ?_
      refine r_p hq 2 (pc' := 54) (L' := [(0, .ref 143), (1, .int X1), (2, .int X2)]) (st' := [.int ((59 : Int32)), .ref 143]) rfl ?_
      obtain ⟨o_54, h_54, h⟩ := Option.bind_eq_some_iff.mp h
      refine r_cvI (pc' := 57) (L' := [(0, .ref 143), (1, .int X1), (2, .int X2)]) (Ps := [.int ((59 : Int32))]) (rest := []) hq (z_at.mk 3 rfl rfl) (Or.inl ⟨rfl, rfl⟩) rfl rfl (by decide) (by decide) rfl (Nat.not_lt.mpr (Nat.le_of_ble_eq_true rfl)) rfl rfl (z_cat_le 0 rfl (by decide)) (z_lgl_le 2 rfl (by decide)) (by decide) (H.tg rfl) (by omega) (g_m_isSign_ok (rfl : (59 : Int32).toInt = 59) H h_54) rfl rfl ?_
      intro R_54 m_54 p_54 e_54 hR_54 H_54
      subst e_54
      refine r_p hq 1 (pc' := 68) (L' := [(0, .ref 143), (1, .int X1)]) (st' := [.int R_54]) rfl ?_
      exact g_m_run_L68_ok hg8 hx1 hR_54 H_54 h
def g_m_run_L145 (x1 : Int) (σ : zS) : Option (Int × zS) :=
  let s_147 := zu σ 143 20 0
  let v_151 := s_147 143 22
  if 0 ≤ v_151 then
    let v_164 := s_147 143 22
    some (w32 ((-100) - v_164), s_147)
  else
    some (x1, s_147)
set_option maxHeartbeats 4000000 in
theorem g_m_run_L145_ok {xl : Nat} {xs : Nat → Int32} {X1 : Int32} {x1 : Int} (hx1 : X1.toInt = x1) {σ : zS} {p : Nat} {m : zM} {o : Int × zS} (H : zRep xl xs p m σ) (h : g_m_run_L145 x1 σ = some o) : zGo xl xs (fun p' => p = p') 507 229 145 [(0, .ref 143), (1, .int X1)] [] m (vI o.1) o.2 := by
  have hq : z_mth 229 = some z_r229 := rfl
  unfold g_m_run_L145 at h
  refine r_p hq 2 (pc' := 147) (L' := [(0, .ref 143), (1, .int X1)]) (st' := [.int ((0 : Int32)), .ref 143]) rfl ?_
  refine r_pI (X := (0 : Int32)) (pc' := 150) (L' := [(0, .ref 143), (1, .int X1)]) H hq (z_at.mk 3 rfl rfl) rfl rfl (rfl : (0 : Int32).toInt = 0) (by decide) rfl rfl rfl rfl ?_
  intro m_147 H_147
  refine r_p hq 1 (pc' := 151) (L' := [(0, .ref 143), (1, .int X1)]) (st' := [.ref 143]) rfl ?_
  refine r_gI (pc' := 154) (L' := [(0, .ref 143), (1, .int X1)]) H_147 hq (z_at.mk 3 rfl rfl) rfl rfl rfl rfl ?_
  intro V_151 hV_151
  rcases z_ite h with ⟨c_154, h⟩ | ⟨c_154, h⟩
  · refine r_t1 (pc' := 161) (L' := [(0, .ref 143), (1, .int X1)]) hq (z_at.mk 3 rfl rfl) rfl hV_151 c_154 rfl rfl ?_
    refine r_p hq 2 (pc' := 164) (L' := [(0, .ref 143), (1, .int X1)]) (st' := [.ref 143, .int ((-100 : Int32))]) rfl ?_
    refine r_gI (pc' := 167) (L' := [(0, .ref 143), (1, .int X1)]) H_147 hq (z_at.mk 3 rfl rfl) rfl rfl rfl rfl ?_
    intro V_164 hV_164
    refine r_p hq 1 (pc' := 168) (L' := []) (st' := [.int (((-100 : Int32)) - V_164)]) rfl ?_
    cases h
    exact r_ri hq (z_at.mk 1 rfl rfl) rfl rfl (tx_isub (rfl : (-100 : Int32).toInt = -100) hV_164) rfl H_147
  · refine r_f1 (pc' := 157) (L' := [(0, .ref 143), (1, .int X1)]) hq (z_at.mk 3 rfl rfl) rfl hV_151 c_154 rfl rfl ?_
    refine r_p hq 2 (pc' := 168) (L' := []) (st' := [.int X1]) rfl ?_
    cases h
    exact r_ri hq (z_at.mk 1 rfl rfl) rfl rfl hx1 rfl H_147
def g_m_run_L86 : Nat → Int → Int → zS → Option (Int × zS)
  | 0, _, _, _ => none
  | n + 1, x1, x3, σ =>
    if x1 ≤ x3 then
      g_m_run_L145 x1 σ
    else
      (g_m_copies 161 152 (w32 ((w32 (6 * x3)) + 1)) 0 σ).bind fun o_106 =>
      if 0 ≤ w32 (6 * x3) ∧ w32 (6 * x3) < 48 then
      let v_123 := o_106.2 161 (w32 (6 * x3))
      if 0 ≤ w32 ((w32 (6 * x3)) + 5) ∧ w32 ((w32 (6 * x3)) + 5) < 48 then
      let v_134 := o_106.2 161 (w32 ((w32 (6 * x3)) + 5))
      (g_m_asked v_123 v_134 o_106.2).bind fun o_135 =>
      if 0 ≤ x3 ∧ x3 < 8 then
      let s_138 := zu o_135.2 162 x3 o_135.1
      (g_m_run_L86 n) x1 (w32 (x3 + 1)) s_138
      else none
      else none
      else none
set_option maxHeartbeats 4000000 in
theorem g_m_run_L86_ok {xl : Nat} {xs : Nat → Int32} : ∀ (n : Nat) {X1 : Int32} {x1 : Int} {X3 : Int32} {x3 : Int} {σ : zS} {p : Nat} {m : zM} {o : Int × zS}, X1.toInt = x1 → X3.toInt = x3 → zRep xl xs p m σ → g_m_run_L86 n x1 x3 σ = some o → zGo xl xs (fun p' => p = p') 507 229 86 [(0, .ref 143), (1, .int X1), (3, .int X3)] [] m (vI o.1) o.2
  | 0, _, _, _, _, _, _, _, _, _, _, _, h => by cases h
  | n + 1, X1, x1, X3, x3, σ, p, m, o, hx1, hx3, H, h => by
    have hq : z_mth 229 = some z_r229 := rfl
    have ih := fun {X1 : Int32} {x1 : Int} {X3 : Int32} {x3 : Int} {σ : zS} {p : Nat} {m : zM} {o : Int × zS} => g_m_run_L86_ok (xl := xl) (xs := xs) n (X1 := X1) (x1 := x1) (X3 := X3) (x3 := x3) (σ := σ) (p := p) (m := m) (o := o)
    unfold g_m_run_L86 at h
    refine r_p hq 2 (pc' := 88) (L' := [(0, .ref 143), (1, .int X1), (3, .int X3)]) (st' := [.int X1, .int X3]) rfl ?_
    rcases z_ite h with ⟨c_88, h⟩ | ⟨c_88, h⟩
    · refine r_t2 (pc' := 145) (L' := [(0, .ref 143), (1, .int X1)]) hq (z_at.mk 3 rfl rfl) rfl hx3 hx1 c_88 rfl rfl ?_
      exact g_m_run_L145_ok hx1 H h
    · refine r_f2 (pc' := 91) (L' := [(0, .ref 143), (1, .int X1), (3, .int X3)]) hq (z_at.mk 3 rfl rfl) rfl hx3 hx1 c_88 rfl rfl ?_
      refine r_p hq 1 (pc' := 92) (L' := [(0, .ref 143), (1, .int X1), (3, .int X3)]) (st' := [.ref 143]) rfl ?_
      refine r_gR (b := 161) (pc' := 95) (L' := [(0, .ref 143), (1, .int X1), (3, .int X3)]) H hq (z_at.mk 3 rfl rfl) rfl rfl rfl rfl ?_
      refine r_p hq 6 (pc' := 102) (L' := [(0, .ref 143), (1, .int X1), (3, .int X3)]) (st' := [.ref 143, .int ((((6 : Int32)) * X3) + ((1 : Int32))), .ref 161]) rfl ?_
      refine r_gR (b := 152) (pc' := 105) (L' := [(0, .ref 143), (1, .int X1), (3, .int X3)]) H hq (z_at.mk 3 rfl rfl) rfl rfl rfl rfl ?_
      refine r_p hq 1 (pc' := 106) (L' := [(0, .ref 143), (1, .int X1), (3, .int X3)]) (st' := [.int ((0 : Int32)), .ref 152, .int ((((6 : Int32)) * X3) + ((1 : Int32))), .ref 161]) rfl ?_
      obtain ⟨o_106, h_106, h⟩ := Option.bind_eq_some_iff.mp h
      refine r_csV (pc' := 109) (L' := [(0, .ref 143), (1, .int X1), (3, .int X3)]) (As := [.ref 161, .int ((((6 : Int32)) * X3) + ((1 : Int32))), .ref 152, .int ((0 : Int32))]) (rest := []) (j := 166) hq (z_at.mk 3 rfl rfl) (Or.inl ⟨rfl, rfl⟩) rfl rfl (by omega) (g_m_copies_ok rfl rfl (tx_iadd (tx_imul (rfl : (6 : Int32).toInt = 6) hx3) (rfl : (1 : Int32).toInt = 1)) (rfl : (0 : Int32).toInt = 0) H h_106) rfl rfl ?_
      intro m_106 p_106 e_106 H_106
      subst e_106
      refine r_p hq 1 (pc' := 110) (L' := [(0, .ref 143), (1, .int X1), (3, .int X3)]) (st' := [.ref 143]) rfl ?_
      refine r_gR (b := 162) (pc' := 113) (L' := [(0, .ref 143), (1, .int X1), (3, .int X3)]) H_106 hq (z_at.mk 3 rfl rfl) rfl rfl rfl rfl ?_
      refine r_p hq 3 (pc' := 116) (L' := [(0, .ref 143), (1, .int X1), (3, .int X3)]) (st' := [.ref 143, .ref 143, .int X3, .ref 162]) rfl ?_
      refine r_gR (b := 161) (pc' := 119) (L' := [(0, .ref 143), (1, .int X1), (3, .int X3)]) H_106 hq (z_at.mk 3 rfl rfl) rfl rfl rfl rfl ?_
      refine r_p hq 3 (pc' := 123) (L' := [(0, .ref 143), (1, .int X1), (3, .int X3)]) (st' := [.int (((6 : Int32)) * X3), .ref 161, .ref 143, .int X3, .ref 162]) rfl ?_
      obtain ⟨g_123, h⟩ := z_ifo_some h
      refine r_ia (pc' := 124) (L' := [(0, .ref 143), (1, .int X1), (3, .int X3)]) H_106 hq (z_at.mk 1 rfl rfl) (show zAr 161 0 48 = true from rfl) (tx_imul (rfl : (6 : Int32).toInt = 6) hx3) g_123 rfl rfl ?_
      intro V_123 hV_123
      refine r_p hq 1 (pc' := 125) (L' := [(0, .ref 143), (1, .int X1), (3, .int X3)]) (st' := [.ref 143, .int V_123, .ref 143, .int X3, .ref 162]) rfl ?_
      refine r_gR (b := 161) (pc' := 128) (L' := [(0, .ref 143), (1, .int X1), (3, .int X3)]) H_106 hq (z_at.mk 3 rfl rfl) rfl rfl rfl rfl ?_
      refine r_p hq 5 (pc' := 134) (L' := [(0, .ref 143), (1, .int X1), (3, .int X3)]) (st' := [.int ((((6 : Int32)) * X3) + ((5 : Int32))), .ref 161, .int V_123, .ref 143, .int X3, .ref 162]) rfl ?_
      obtain ⟨g_134, h⟩ := z_ifo_some h
      refine r_ia (pc' := 135) (L' := [(0, .ref 143), (1, .int X1), (3, .int X3)]) H_106 hq (z_at.mk 1 rfl rfl) (show zAr 161 0 48 = true from rfl) (tx_iadd (tx_imul (rfl : (6 : Int32).toInt = 6) hx3) (rfl : (5 : Int32).toInt = 5)) g_134 rfl rfl ?_
      intro V_134 hV_134
      obtain ⟨o_135, h_135, h⟩ := Option.bind_eq_some_iff.mp h
      refine r_cvL (pc' := 138) (L' := [(0, .ref 143), (1, .int X1), (3, .int X3)]) (Ps := [.int V_123, .int V_134]) (rest := [.int X3, .ref 162]) hq (z_at.mk 3 rfl rfl) (Or.inl ⟨rfl, rfl⟩) rfl rfl (by decide) (by decide) rfl (Nat.not_lt.mpr (Nat.le_of_ble_eq_true rfl)) rfl rfl (z_cat_le 2 rfl (by decide)) (z_lgl_le 3 rfl (by decide)) (by decide) (H_106.tg rfl) (by omega) (g_m_asked_ok hV_123 hV_134 H_106 h_135) rfl rfl ?_
      intro R_135 m_135 p_135 e_135 hR_135 H_135
      subst e_135
      obtain ⟨g_138, h⟩ := z_ifo_some h
      refine r_ls (pc' := 139) (L' := [(0, .ref 143), (1, .int X1), (3, .int X3)]) H_135 hq (z_at.mk 1 rfl rfl) (show zAr 162 1 8 = true from rfl) hx3 g_138 hR_135 rfl rfl ?_
      intro m_138 H_138
      refine r_p hq 2 (pc' := 86) (L' := [(0, .ref 143), (1, .int X1), (3, .int (X3 + (1 : Int32)))]) (st' := []) rfl ?_
      exact ih hx1 (tx_iadd hx3 (rfl : (1 : Int32).toInt = 1)) H_138 h
def g_m_run_L8 : Nat → Int → Int → zS → Option (Int × zS)
  | 0, _, _, _ => none
  | n + 1, x1, x2, σ =>
    if x2 = 0 then
      let v_73 := σ 143 22
      if 0 ≤ v_73 then
        g_m_run_L145 x1 σ
      else
        let s_81 := zu σ 143 27 x1
        g_m_run_L86 zK x1 0 s_81
    else
      (g_m_isQuery x1 σ).bind fun o_14 =>
      if o_14.1 = 0 then
        g_m_run_L41 ((g_m_run_L8 n)) (w32 (x1 + 1)) o_14.1 o_14.2
      else
        let v_26 := o_14.2 143 21
        let v_30 := o_14.2 143 20
        if v_26 ≠ v_30 then
          g_m_run_L41 ((g_m_run_L8 n)) (w32 (x1 + 1)) o_14.1 o_14.2
        else
          (g_m_run_L8 n) (w32 (x1 + 1)) 0 o_14.2
set_option maxHeartbeats 4000000 in
theorem g_m_run_L8_ok {xl : Nat} {xs : Nat → Int32} : ∀ (n : Nat) {X1 : Int32} {x1 : Int} {X2 : Int32} {x2 : Int} {σ : zS} {p : Nat} {m : zM} {o : Int × zS}, X1.toInt = x1 → X2.toInt = x2 → zRep xl xs p m σ → g_m_run_L8 n x1 x2 σ = some o → zGo xl xs (fun p' => p = p') 507 229 8 [(0, .ref 143), (1, .int X1), (2, .int X2)] [] m (vI o.1) o.2
  | 0, _, _, _, _, _, _, _, _, _, _, _, h => by cases h
  | n + 1, X1, x1, X2, x2, σ, p, m, o, hx1, hx2, H, h => by
    have hq : z_mth 229 = some z_r229 := rfl
    have ih := fun {X1 : Int32} {x1 : Int} {X2 : Int32} {x2 : Int} {σ : zS} {p : Nat} {m : zM} {o : Int × zS} => g_m_run_L8_ok (xl := xl) (xs := xs) n (X1 := X1) (x1 := x1) (X2 := X2) (x2 := x2) (σ := σ) (p := p) (m := m) (o := o)
    unfold g_m_run_L8 at h
    refine r_p hq 1 (pc' := 9) (L' := [(0, .ref 143), (1, .int X1), (2, .int X2)]) (st' := [.int X2]) rfl ?_
    rcases z_ite h with ⟨c_9, h⟩ | ⟨c_9, h⟩
    · refine r_t1 (pc' := 72) (L' := [(0, .ref 143), (1, .int X1), (2, .int X2)]) hq (z_at.mk 3 rfl rfl) rfl hx2 c_9 rfl rfl ?_
      refine r_p hq 1 (pc' := 73) (L' := [(0, .ref 143), (1, .int X1), (2, .int X2)]) (st' := [.ref 143]) rfl ?_
      refine r_gI (pc' := 76) (L' := [(0, .ref 143), (1, .int X1), (2, .int X2)]) H hq (z_at.mk 3 rfl rfl) rfl rfl rfl rfl ?_
      intro V_73 hV_73
      rcases z_ite h with ⟨c_76, h⟩ | ⟨c_76, h⟩
      · refine r_t1 (pc' := 145) (L' := [(0, .ref 143), (1, .int X1)]) hq (z_at.mk 3 rfl rfl) rfl hV_73 c_76 rfl rfl ?_
        exact g_m_run_L145_ok hx1 H h
      · refine r_f1 (pc' := 79) (L' := [(0, .ref 143), (1, .int X1), (2, .int X2)]) hq (z_at.mk 3 rfl rfl) rfl hV_73 c_76 rfl rfl ?_
        refine r_p hq 2 (pc' := 81) (L' := [(0, .ref 143), (1, .int X1), (2, .int X2)]) (st' := [.int X1, .ref 143]) rfl ?_
        refine r_pI (X := X1) (pc' := 84) (L' := [(0, .ref 143), (1, .int X1), (2, .int X2)]) H hq (z_at.mk 3 rfl rfl) rfl rfl hx1 (by decide) rfl rfl rfl rfl ?_
        intro m_81 H_81
        refine r_p hq 2 (pc' := 86) (L' := [(0, .ref 143), (1, .int X1), (3, .int ((0 : Int32)))]) (st' := []) rfl ?_
        exact g_m_run_L86_ok zK hx1 (rfl : (0 : Int32).toInt = 0) H_81 h
    · refine r_f1 (pc' := 12) (L' := [(0, .ref 143), (1, .int X1), (2, .int X2)]) hq (z_at.mk 3 rfl rfl) rfl hx2 c_9 rfl rfl ?_
      refine r_p hq 2 (pc' := 14) (L' := [(0, .ref 143), (1, .int X1), (2, .int X2)]) (st' := [.int X1, .ref 143]) rfl ?_
      obtain ⟨o_14, h_14, h⟩ := Option.bind_eq_some_iff.mp h
      refine r_cvI (pc' := 17) (L' := [(0, .ref 143), (1, .int X1), (2, .int X2)]) (Ps := [.int X1]) (rest := []) hq (z_at.mk 3 rfl rfl) (Or.inl ⟨rfl, rfl⟩) rfl rfl (by decide) (by decide) rfl (Nat.not_lt.mpr (Nat.le_of_ble_eq_true rfl)) rfl rfl (z_cat_le 0 rfl (by decide)) (z_lgl_le 2 rfl (by decide)) (by decide) (H.tg rfl) (by omega) (g_m_isQuery_ok hx1 H h_14) rfl rfl ?_
      intro R_14 m_14 p_14 e_14 hR_14 H_14
      subst e_14
      refine r_p hq 3 (pc' := 22) (L' := [(1, .int (X1 + (1 : Int32))), (2, .int R_14), (0, .ref 143)]) (st' := [.int R_14]) rfl ?_
      rcases z_ite h with ⟨c_22, h⟩ | ⟨c_22, h⟩
      · refine r_t1 (pc' := 41) (L' := [(0, .ref 143), (1, .int (X1 + (1 : Int32))), (2, .int R_14)]) hq (z_at.mk 3 rfl rfl) rfl hR_14 c_22 rfl rfl ?_
        exact g_m_run_L41_ok ih (tx_iadd hx1 (rfl : (1 : Int32).toInt = 1)) hR_14 H_14 h
      · refine r_f1 (pc' := 25) (L' := [(1, .int (X1 + (1 : Int32))), (2, .int R_14), (0, .ref 143)]) hq (z_at.mk 3 rfl rfl) rfl hR_14 c_22 rfl rfl ?_
        refine r_p hq 1 (pc' := 26) (L' := [(1, .int (X1 + (1 : Int32))), (2, .int R_14), (0, .ref 143)]) (st' := [.ref 143]) rfl ?_
        refine r_gI (pc' := 29) (L' := [(1, .int (X1 + (1 : Int32))), (2, .int R_14), (0, .ref 143)]) H_14 hq (z_at.mk 3 rfl rfl) rfl rfl rfl rfl ?_
        intro V_26 hV_26
        refine r_p hq 1 (pc' := 30) (L' := [(1, .int (X1 + (1 : Int32))), (2, .int R_14), (0, .ref 143)]) (st' := [.ref 143, .int V_26]) rfl ?_
        refine r_gI (pc' := 33) (L' := [(1, .int (X1 + (1 : Int32))), (2, .int R_14), (0, .ref 143)]) H_14 hq (z_at.mk 3 rfl rfl) rfl rfl rfl rfl ?_
        intro V_30 hV_30
        rcases z_ite h with ⟨c_33, h⟩ | ⟨c_33, h⟩
        · refine r_t2 (pc' := 41) (L' := [(0, .ref 143), (1, .int (X1 + (1 : Int32))), (2, .int R_14)]) hq (z_at.mk 3 rfl rfl) rfl hV_26 hV_30 c_33 rfl rfl ?_
          exact g_m_run_L41_ok ih (tx_iadd hx1 (rfl : (1 : Int32).toInt = 1)) hR_14 H_14 h
        · refine r_f2 (pc' := 36) (L' := [(1, .int (X1 + (1 : Int32))), (2, .int R_14), (0, .ref 143)]) hq (z_at.mk 3 rfl rfl) rfl hV_26 hV_30 c_33 rfl rfl ?_
          refine r_p hq 3 (pc' := 8) (L' := [(0, .ref 143), (1, .int (X1 + (1 : Int32))), (2, .int ((0 : Int32)))]) (st' := []) rfl ?_
          exact ih (tx_iadd hx1 (rfl : (1 : Int32).toInt = 1)) (rfl : (0 : Int32).toInt = 0) H_14 h
def g_m_run (σ : zS) : Option (Int × zS) :=
  (g_m_begins σ).bind fun o_1 =>
  g_m_run_L8 zK 0 1 o_1.2
set_option maxHeartbeats 4000000 in
theorem g_m_run_ok {xl : Nat} {xs : Nat → Int32} {σ : zS} {p : Nat} {m : zM} {o : Int × zS} (H : zRep xl xs p m σ) (h : g_m_run σ = some o) : zGo xl xs (fun p' => p = p') 507 229 0 (z_can 229 0 (lv_args 0 [.ref 143])) [] m (vI o.1) o.2 := by
  have hq : z_mth 229 = some z_r229 := rfl
  unfold g_m_run at h
  show zGo xl xs (fun p' => p = p') 507 229 0 [(0, .ref 143)] [] m (vI o.1) o.2
  refine r_p hq 1 (pc' := 1) (L' := [(0, .ref 143)]) (st' := [.ref 143]) rfl ?_
  obtain ⟨o_1, h_1, h⟩ := Option.bind_eq_some_iff.mp h
  refine r_cvV (pc' := 4) (L' := [(0, .ref 143)]) (Ps := []) (rest := []) hq (z_at.mk 3 rfl rfl) (Or.inl ⟨rfl, rfl⟩) rfl rfl (by decide) (by decide) rfl (Nat.not_lt.mpr (Nat.le_of_ble_eq_true rfl)) rfl rfl (z_cat_le 0 rfl (by decide)) (z_lgl_le 1 rfl (by decide)) (by decide) (H.tg rfl) (by omega) (g_m_begins_ok H h_1) rfl rfl ?_
  intro m_1 p_1 e_1 H_1
  subst e_1
  refine r_p hq 4 (pc' := 8) (L' := [(0, .ref 143), (1, .int ((0 : Int32))), (2, .int ((1 : Int32)))]) (st' := []) rfl ?_
  exact g_m_run_L8_ok zK (rfl : (0 : Int32).toInt = 0) (rfl : (1 : Int32).toInt = 1) H_1 h
def g_m_answer (x1 : Int) (σ : zS) : Option (Int × zS) :=
  let v_3 := σ 143 27
  (g_m_isIn x1 0 (w32 (v_3 - 1)) σ).bind fun o_8 =>
  if o_8.1 = 0 then
    some (-9223372036854775808, o_8.2)
  else
    if 0 ≤ x1 ∧ x1 < 8 then
    let v_19 := o_8.2 162 x1
    some (v_19, o_8.2)
    else none
set_option maxHeartbeats 4000000 in
theorem g_m_answer_ok {xl : Nat} {xs : Nat → Int32} {X1 : Int32} {x1 : Int} (hx1 : X1.toInt = x1) {σ : zS} {p : Nat} {m : zM} {o : Int × zS} (H : zRep xl xs p m σ) (h : g_m_answer x1 σ = some o) : zGo xl xs (fun p' => p = p') 2 230 0 (z_can 230 0 (lv_args 0 [.ref 143, .int X1])) [] m (vL o.1) o.2 := by
  have hq : z_mth 230 = some z_r230 := rfl
  unfold g_m_answer at h
  show zGo xl xs (fun p' => p = p') 2 230 0 [(0, .ref 143), (1, .int X1)] [] m (vL o.1) o.2
  refine r_p hq 3 (pc' := 3) (L' := [(0, .ref 143), (1, .int X1)]) (st' := [.ref 143, .int ((0 : Int32)), .int X1]) rfl ?_
  refine r_gI (pc' := 6) (L' := [(0, .ref 143), (1, .int X1)]) H hq (z_at.mk 3 rfl rfl) rfl rfl rfl rfl ?_
  intro V_3 hV_3
  refine r_p hq 2 (pc' := 8) (L' := [(0, .ref 143), (1, .int X1)]) (st' := [.int (V_3 - ((1 : Int32))), .int ((0 : Int32)), .int X1]) rfl ?_
  obtain ⟨o_8, h_8, h⟩ := Option.bind_eq_some_iff.mp h
  refine r_csI (pc' := 11) (L' := [(0, .ref 143), (1, .int X1)]) (As := [.int X1, .int ((0 : Int32)), .int (V_3 - ((1 : Int32)))]) (rest := []) (j := 159) hq (z_at.mk 3 rfl rfl) (Or.inl ⟨rfl, rfl⟩) rfl rfl (by omega) (g_m_isIn_ok hx1 (rfl : (0 : Int32).toInt = 0) (tx_isub hV_3 (rfl : (1 : Int32).toInt = 1)) H h_8) rfl rfl ?_
  intro R_8 m_8 p_8 e_8 hR_8 H_8
  subst e_8
  rcases z_ite h with ⟨c_11, h⟩ | ⟨c_11, h⟩
  · refine r_t1 (pc' := 23) (L' := [(0, .ref 143), (1, .int X1)]) hq (z_at.mk 3 rfl rfl) rfl hR_8 c_11 rfl rfl ?_
    refine r_p hq 1 (pc' := 26) (L' := []) (st' := [.long ((-9223372036854775808 : Int64))]) rfl ?_
    cases h
    exact r_rl hq (z_at.mk 1 rfl rfl) rfl (rfl : (-9223372036854775808 : Int64).toInt = -9223372036854775808) rfl H_8
  · refine r_f1 (pc' := 14) (L' := [(0, .ref 143), (1, .int X1)]) hq (z_at.mk 3 rfl rfl) rfl hR_8 c_11 rfl rfl ?_
    refine r_p hq 1 (pc' := 15) (L' := [(0, .ref 143), (1, .int X1)]) (st' := [.ref 143]) rfl ?_
    refine r_gR (b := 162) (pc' := 18) (L' := [(0, .ref 143), (1, .int X1)]) H_8 hq (z_at.mk 3 rfl rfl) rfl rfl rfl rfl ?_
    refine r_p hq 1 (pc' := 19) (L' := [(0, .ref 143), (1, .int X1)]) (st' := [.int X1, .ref 162]) rfl ?_
    obtain ⟨g_19, h⟩ := z_ifo_some h
    refine r_la (pc' := 20) (L' := [(0, .ref 143), (1, .int X1)]) H_8 hq (z_at.mk 1 rfl rfl) (show zAr 162 1 8 = true from rfl) hx1 g_19 rfl rfl ?_
    intro V_19 hV_19
    refine r_p hq 1 (pc' := 26) (L' := []) (st' := [.long V_19]) rfl ?_
    cases h
    exact r_rl hq (z_at.mk 1 rfl rfl) rfl hV_19 rfl H_8
def g_m_says (x1 : Int) (σ : zS) : Option (Unit × zS) :=
  let v_5 := σ 143 29
  if 0 ≤ v_5 ∧ v_5 < 40000 then
  let s_9 := zu σ 163 v_5 x1
  let v_12 := s_9 143 29
  let s_17 := zu s_9 143 29 (w32 (v_12 + 1))
  some ((), s_17)
  else none
set_option maxHeartbeats 4000000 in
theorem g_m_says_ok {xl : Nat} {xs : Nat → Int32} {X1 : Int32} {x1 : Int} (hx1 : X1.toInt = x1) {σ : zS} {p : Nat} {m : zM} {o : Unit × zS} (H : zRep xl xs p m σ) (h : g_m_says x1 σ = some o) : zGo xl xs (fun p' => p = p') 1 234 0 (z_can 234 0 (lv_args 0 [.ref 143, .int X1])) [] m vV o.2 := by
  have hq : z_mth 234 = some z_r234 := rfl
  unfold g_m_says at h
  show zGo xl xs (fun p' => p = p') 1 234 0 [(0, .ref 143), (1, .int X1)] [] m vV o.2
  refine r_p hq 1 (pc' := 1) (L' := [(0, .ref 143), (1, .int X1)]) (st' := [.ref 143]) rfl ?_
  refine r_gR (b := 163) (pc' := 4) (L' := [(0, .ref 143), (1, .int X1)]) H hq (z_at.mk 3 rfl rfl) rfl rfl rfl rfl ?_
  refine r_p hq 1 (pc' := 5) (L' := [(0, .ref 143), (1, .int X1)]) (st' := [.ref 143, .ref 163]) rfl ?_
  refine r_gI (pc' := 8) (L' := [(0, .ref 143), (1, .int X1)]) H hq (z_at.mk 3 rfl rfl) rfl rfl rfl rfl ?_
  intro V_5 hV_5
  refine r_p hq 1 (pc' := 9) (L' := [(0, .ref 143), (1, .int X1)]) (st' := [.int X1, .int V_5, .ref 163]) rfl ?_
  obtain ⟨g_9, h⟩ := z_ifo_some h
  refine r_is (pc' := 10) (L' := [(0, .ref 143), (1, .int X1)]) H hq (z_at.mk 1 rfl rfl) (show zAr 163 0 40000 = true from rfl) hV_5 g_9 hx1 rfl rfl ?_
  intro m_9 H_9
  refine r_p hq 2 (pc' := 12) (L' := [(0, .ref 143), (1, .int X1)]) (st' := [.ref 143, .ref 143]) rfl ?_
  refine r_gI (pc' := 15) (L' := [(0, .ref 143), (1, .int X1)]) H_9 hq (z_at.mk 3 rfl rfl) rfl rfl rfl rfl ?_
  intro V_12 hV_12
  refine r_p hq 2 (pc' := 17) (L' := [(0, .ref 143), (1, .int X1)]) (st' := [.int (V_12 + ((1 : Int32))), .ref 143]) rfl ?_
  refine r_pI (X := V_12 + ((1 : Int32))) (pc' := 20) (L' := [(0, .ref 143), (1, .int X1)]) H_9 hq (z_at.mk 3 rfl rfl) rfl rfl (tx_iadd hV_12 (rfl : (1 : Int32).toInt = 1)) (by decide) rfl rfl rfl rfl ?_
  intro m_17 H_17
  cases h
  exact r_rv hq (z_at.mk 1 rfl rfl) rfl rfl H_17
def g_m_saysWord_L2 (a1 : Nat) : Nat → Int → zS → Option (Unit × zS)
  | 0, _, _ => none
  | n + 1, x2, σ =>
    (g_jString_length a1 σ).bind fun o_4 =>
    if o_4.1 ≤ x2 then
      some ((), o_4.2)
    else
      (g_jString_charAt a1 x2 o_4.2).bind fun o_13 =>
      (g_m_says o_13.1 o_13.2).bind fun o_16 =>
      (g_m_saysWord_L2 a1 n) (w32 (x2 + 1)) o_16.2
set_option maxHeartbeats 4000000 in
theorem g_m_saysWord_L2_ok {xl : Nat} {xs : Nat → Int32} {a1 : Nat} (ha1 : zIn [1, 2, 3, 4, 5, 6, 7, 8, 9, 10, 11, 12, 13, 14, 15, 16, 17, 18] a1 = true) : ∀ (n : Nat) {X2 : Int32} {x2 : Int} {σ : zS} {p : Nat} {m : zM} {o : Unit × zS}, X2.toInt = x2 → zRep xl xs p m σ → g_m_saysWord_L2 a1 n x2 σ = some o → zGo xl xs (fun p' => p = p') 3 235 2 [(0, .ref 143), (1, .ref a1), (2, .int X2)] [] m vV o.2
  | 0, _, _, _, _, _, _, _, _, h => by cases h
  | n + 1, X2, x2, σ, p, m, o, hx2, H, h => by
    have hq : z_mth 235 = some z_r235 := rfl
    have ih := fun {X2 : Int32} {x2 : Int} {σ : zS} {p : Nat} {m : zM} {o : Unit × zS} => g_m_saysWord_L2_ok (xl := xl) (xs := xs) ha1 n (X2 := X2) (x2 := x2) (σ := σ) (p := p) (m := m) (o := o)
    unfold g_m_saysWord_L2 at h
    refine r_p hq 2 (pc' := 4) (L' := [(0, .ref 143), (1, .ref a1), (2, .int X2)]) (st' := [.ref a1, .int X2]) rfl ?_
    obtain ⟨o_4, h_4, h⟩ := Option.bind_eq_some_iff.mp h
    refine r_cvI (pc' := 7) (L' := [(0, .ref 143), (1, .ref a1), (2, .int X2)]) (Ps := []) (rest := [.int X2]) hq (z_at.mk 3 rfl rfl) (Or.inl ⟨rfl, rfl⟩) rfl rfl (by decide) (by decide) rfl (Nat.not_lt.mpr (Nat.le_of_ble_eq_true rfl)) rfl rfl (z_cat_le 1 rfl (by decide)) (z_lgl_le 1 rfl (by decide)) (by decide) (H.tg9 (zIn_all (l := [1, 2, 3, 4, 5, 6, 7, 8, 9, 10, 11, 12, 13, 14, 15, 16, 17, 18]) (p := fun a => zIn [1, 2, 3, 4, 5, 6, 7, 8, 9, 10, 11, 12, 13, 14, 15, 16, 17, 18] a) rfl ha1)) (by omega) (g_jString_length_ok (zIn_all (l := [1, 2, 3, 4, 5, 6, 7, 8, 9, 10, 11, 12, 13, 14, 15, 16, 17, 18]) (p := fun a => zIn [1, 2, 3, 4, 5, 6, 7, 8, 9, 10, 11, 12, 13, 14, 15, 16, 17, 18] a) rfl ha1) H h_4) rfl rfl ?_
    intro R_4 m_4 p_4 e_4 hR_4 H_4
    subst e_4
    rcases z_ite h with ⟨c_7, h⟩ | ⟨c_7, h⟩
    · refine r_t2 (pc' := 25) (L' := [(0, .ref 143), (1, .ref a1), (2, .int X2)]) hq (z_at.mk 3 rfl rfl) rfl hx2 hR_4 c_7 rfl rfl ?_
      cases h
      exact r_rv hq (z_at.mk 1 rfl rfl) rfl rfl H_4
    · refine r_f2 (pc' := 10) (L' := [(0, .ref 143), (1, .ref a1), (2, .int X2)]) hq (z_at.mk 3 rfl rfl) rfl hx2 hR_4 c_7 rfl rfl ?_
      refine r_p hq 3 (pc' := 13) (L' := [(0, .ref 143), (1, .ref a1), (2, .int X2)]) (st' := [.int X2, .ref a1, .ref 143]) rfl ?_
      obtain ⟨o_13, h_13, h⟩ := Option.bind_eq_some_iff.mp h
      refine r_cvI (pc' := 16) (L' := [(0, .ref 143), (1, .ref a1), (2, .int X2)]) (Ps := [.int X2]) (rest := [.ref 143]) hq (z_at.mk 3 rfl rfl) (Or.inl ⟨rfl, rfl⟩) rfl rfl (by decide) (by decide) rfl (Nat.not_lt.mpr (Nat.le_of_ble_eq_true rfl)) rfl rfl (z_cat_le 1 rfl (by decide)) (z_lgl_le 2 rfl (by decide)) (by decide) (H_4.tg9 (zIn_all (l := [1, 2, 3, 4, 5, 6, 7, 8, 9, 10, 11, 12, 13, 14, 15, 16, 17, 18]) (p := fun a => zIn [1, 2, 3, 4, 5, 6, 7, 8, 9, 10, 11, 12, 13, 14, 15, 16, 17, 18] a) rfl ha1)) (by omega) (g_jString_charAt_ok (zIn_all (l := [1, 2, 3, 4, 5, 6, 7, 8, 9, 10, 11, 12, 13, 14, 15, 16, 17, 18]) (p := fun a => zIn [1, 2, 3, 4, 5, 6, 7, 8, 9, 10, 11, 12, 13, 14, 15, 16, 17, 18] a) rfl ha1) hx2 H_4 h_13) rfl rfl ?_
      intro R_13 m_13 p_13 e_13 hR_13 H_13
      subst e_13
      obtain ⟨o_16, h_16, h⟩ := Option.bind_eq_some_iff.mp h
      refine r_cvV (pc' := 19) (L' := [(0, .ref 143), (1, .ref a1), (2, .int X2)]) (Ps := [.int R_13]) (rest := []) hq (z_at.mk 3 rfl rfl) (Or.inl ⟨rfl, rfl⟩) rfl rfl (by decide) (by decide) rfl (Nat.not_lt.mpr (Nat.le_of_ble_eq_true rfl)) rfl rfl (z_cat_le 0 rfl (by decide)) (z_lgl_le 2 rfl (by decide)) (by decide) (H_13.tg rfl) (by omega) (g_m_says_ok hR_13 H_13 h_16) rfl rfl ?_
      intro m_16 p_16 e_16 H_16
      subst e_16
      refine r_p hq 2 (pc' := 2) (L' := [(0, .ref 143), (1, .ref a1), (2, .int (X2 + (1 : Int32)))]) (st' := []) rfl ?_
      exact ih (tx_iadd hx2 (rfl : (1 : Int32).toInt = 1)) H_16 h
def g_m_saysWord (a1 : Nat) (σ : zS) : Option (Unit × zS) :=
  g_m_saysWord_L2 a1 zK 0 σ
set_option maxHeartbeats 4000000 in
theorem g_m_saysWord_ok {xl : Nat} {xs : Nat → Int32} {a1 : Nat} (ha1 : zIn [1, 2, 3, 4, 5, 6, 7, 8, 9, 10, 11, 12, 13, 14, 15, 16, 17, 18] a1 = true) {σ : zS} {p : Nat} {m : zM} {o : Unit × zS} (H : zRep xl xs p m σ) (h : g_m_saysWord a1 σ = some o) : zGo xl xs (fun p' => p = p') 3 235 0 (z_can 235 0 (lv_args 0 [.ref 143, .ref a1])) [] m vV o.2 := by
  have hq : z_mth 235 = some z_r235 := rfl
  unfold g_m_saysWord at h
  show zGo xl xs (fun p' => p = p') 3 235 0 [(0, .ref 143), (1, .ref a1)] [] m vV o.2
  refine r_p hq 2 (pc' := 2) (L' := [(0, .ref 143), (1, .ref a1), (2, .int ((0 : Int32)))]) (st' := []) rfl ?_
  exact g_m_saysWord_L2_ok ha1 zK (rfl : (0 : Int32).toInt = 0) H h
def g_m_saysNumber_L14 (rec : Nat → Int → zS → Option (Unit × zS)) (x1 : Int) (σ : zS) : Option (Unit × zS) :=
  (g_m_says (w32 (48 + (Int.tmod x1 10))) σ).bind fun o_22 =>
  some ((), o_22.2)
set_option maxHeartbeats 4000000 in
theorem g_m_saysNumber_L14_ok {xl : Nat} {xs : Nat → Int32} {dr : Nat} (hdr : 2 ≤ dr) {rec : Nat → Int → zS → Option (Unit × zS)} (hrec : ∀ j, j ∈ [236] → ∀ {X1 : Int32} {x1 : Int} {σ : zS} {p : Nat} {m : zM} {o : Unit × zS}, X1.toInt = x1 → zRep xl xs p m σ → rec j x1 σ = some o → zGo xl xs (fun p' => p = p') dr j 0 (z_can j 0 (lv_args 0 [.ref 143, .int X1])) [] m vV o.2) {X1 : Int32} {x1 : Int} (hx1 : X1.toInt = x1) {σ : zS} {p : Nat} {m : zM} {o : Unit × zS} (H : zRep xl xs p m σ) (h : g_m_saysNumber_L14 rec x1 σ = some o) : zGo xl xs (fun p' => p = p') (dr + 1) 236 14 [(0, .ref 143), (1, .int X1)] [] m vV o.2 := by
  have hq : z_mth 236 = some z_r236 := rfl
  unfold g_m_saysNumber_L14 at h
  refine r_p hq 4 (pc' := 20) (L' := [(0, .ref 143), (1, .int X1)]) (st' := [.int ((10 : Int32)), .int X1, .int ((48 : Int32)), .ref 143]) rfl ?_
  refine r_irem (pc' := 21) (L' := [(0, .ref 143), (1, .int X1)]) hq (z_at.mk 1 rfl rfl) hx1 (rfl : (10 : Int32).toInt = 10) (by decide) rfl rfl ?_
  intro V_20 hV_20
  refine r_p hq 1 (pc' := 22) (L' := [(0, .ref 143), (1, .int X1)]) (st' := [.int (((48 : Int32)) + V_20), .ref 143]) rfl ?_
  obtain ⟨o_22, h_22, h⟩ := Option.bind_eq_some_iff.mp h
  refine r_cvV (pc' := 25) (L' := [(0, .ref 143), (1, .int X1)]) (Ps := [.int (((48 : Int32)) + V_20)]) (rest := []) hq (z_at.mk 3 rfl rfl) (Or.inl ⟨rfl, rfl⟩) rfl rfl (by decide) (by decide) rfl (Nat.not_lt.mpr (Nat.le_of_ble_eq_true rfl)) rfl rfl (z_cat_le 0 rfl (by decide)) (z_lgl_le 2 rfl (by decide)) (by decide) (H.tg rfl) (by omega) (g_m_says_ok (tx_iadd (rfl : (48 : Int32).toInt = 48) hV_20) H h_22) rfl rfl ?_
  intro m_22 p_22 e_22 H_22
  subst e_22
  cases h
  exact r_rv hq (z_at.mk 1 rfl rfl) rfl rfl H_22
def g_m_saysNumber (rec : Nat → Int → zS → Option (Unit × zS)) (x1 : Int) (σ : zS) : Option (Unit × zS) :=
  if x1 ≤ 9 then
    g_m_saysNumber_L14 rec x1 σ
  else
    (rec 236 (w32 (Int.tdiv x1 10)) σ).bind fun o_11 =>
    g_m_saysNumber_L14 rec x1 o_11.2
set_option maxHeartbeats 4000000 in
theorem g_m_saysNumber_ok {xl : Nat} {xs : Nat → Int32} {dr : Nat} (hdr : 2 ≤ dr) {rec : Nat → Int → zS → Option (Unit × zS)} (hrec : ∀ j, j ∈ [236] → ∀ {X1 : Int32} {x1 : Int} {σ : zS} {p : Nat} {m : zM} {o : Unit × zS}, X1.toInt = x1 → zRep xl xs p m σ → rec j x1 σ = some o → zGo xl xs (fun p' => p = p') dr j 0 (z_can j 0 (lv_args 0 [.ref 143, .int X1])) [] m vV o.2) {X1 : Int32} {x1 : Int} (hx1 : X1.toInt = x1) {σ : zS} {p : Nat} {m : zM} {o : Unit × zS} (H : zRep xl xs p m σ) (h : g_m_saysNumber rec x1 σ = some o) : zGo xl xs (fun p' => p = p') (dr + 1) 236 0 (z_can 236 0 (lv_args 0 [.ref 143, .int X1])) [] m vV o.2 := by
  have hq : z_mth 236 = some z_r236 := rfl
  unfold g_m_saysNumber at h
  show zGo xl xs (fun p' => p = p') (dr + 1) 236 0 [(0, .ref 143), (1, .int X1)] [] m vV o.2
  refine r_p hq 2 (pc' := 3) (L' := [(0, .ref 143), (1, .int X1)]) (st' := [.int ((9 : Int32)), .int X1]) rfl ?_
  rcases z_ite h with ⟨c_3, h⟩ | ⟨c_3, h⟩
  · refine r_t2 (pc' := 14) (L' := [(0, .ref 143), (1, .int X1)]) hq (z_at.mk 3 rfl rfl) rfl hx1 (rfl : (9 : Int32).toInt = 9) c_3 rfl rfl ?_
    exact g_m_saysNumber_L14_ok hdr hrec hx1 H h
  · refine r_f2 (pc' := 6) (L' := [(0, .ref 143), (1, .int X1)]) hq (z_at.mk 3 rfl rfl) rfl hx1 (rfl : (9 : Int32).toInt = 9) c_3 rfl rfl ?_
    refine r_p hq 3 (pc' := 10) (L' := [(0, .ref 143), (1, .int X1)]) (st' := [.int ((10 : Int32)), .int X1, .ref 143]) rfl ?_
    refine r_idiv (pc' := 11) (L' := [(0, .ref 143), (1, .int X1)]) hq (z_at.mk 1 rfl rfl) hx1 (rfl : (10 : Int32).toInt = 10) (by decide) rfl rfl ?_
    intro V_10 hV_10
    obtain ⟨o_11, h_11, h⟩ := Option.bind_eq_some_iff.mp h
    refine r_cvV (pc' := 14) (L' := [(0, .ref 143), (1, .int X1)]) (Ps := [.int V_10]) (rest := []) hq (z_at.mk 3 rfl rfl) (Or.inl ⟨rfl, rfl⟩) rfl rfl (by decide) (by decide) rfl (Nat.not_lt.mpr (Nat.le_of_ble_eq_true rfl)) rfl rfl (z_cat_le 0 rfl (by decide)) (z_lgl_le 2 rfl (by decide)) (by decide) (H.tg rfl) (by omega) (hrec 236 (by simp) hV_10 H h_11) rfl rfl ?_
    intro m_11 p_11 e_11 H_11
    subst e_11
    exact g_m_saysNumber_L14_ok hdr hrec hx1 H_11 h
def g_grp236 : Nat → Nat → Int → zS → Option (Unit × zS)
  | 0, _, _, _ => none
  | n + 1, j, x1, σ =>
    if j = 236 then g_m_saysNumber (g_grp236 n) x1 σ else
    none
theorem g_grp236_ok {xl : Nat} {xs : Nat → Int32} : ∀ (n : Nat) (j : Nat), j ∈ [236] → ∀ {X1 : Int32} {x1 : Int} {σ : zS} {p : Nat} {m : zM} {o : Unit × zS}, X1.toInt = x1 → zRep xl xs p m σ → g_grp236 n j x1 σ = some o → zGo xl xs (fun p' => p = p') (2 + n) j 0 (z_can j 0 (lv_args 0 [.ref 143, .int X1])) [] m vV o.2
  | 0, _, _, _, _, _, _, _, _, _, _, h => by cases h
  | n + 1, j, hj, X1, x1, σ, p, m, o, hx1, H, h => by
    have ih := fun (j : Nat) (hj : j ∈ [236]) {X1 : Int32} {x1 : Int} {σ : zS} {p : Nat} {m : zM} {o : Unit × zS} => g_grp236_ok (xl := xl) (xs := xs) n j hj (X1 := X1) (x1 := x1) (σ := σ) (p := p) (m := m) (o := o)
    unfold g_grp236 at h
    by_cases c_236 : j = 236
    · rw [if_pos c_236] at h
      subst c_236
      exact g_m_saysNumber_ok (Nat.le_add_right _ _) ih hx1 H h
    rw [if_neg c_236] at h
    cases h
def g_m_saysBox (a1 : Nat) (x2 : Int) (σ : zS) : Option (Unit × zS) :=
  if 0 ≤ x2 ∧ x2 < zLI a1 then
  let v_3 := σ a1 x2
  (g_grp236 zR 236 v_3 σ).bind fun o_4 =>
  (g_m_says 45 o_4.2).bind fun o_10 =>
  if 0 ≤ w32 (x2 + 1) ∧ w32 (x2 + 1) < zLI a1 then
  let v_18 := o_10.2 a1 (w32 (x2 + 1))
  (g_grp236 zR 236 v_18 o_10.2).bind fun o_19 =>
  (g_m_says 44 o_19.2).bind fun o_25 =>
  if 0 ≤ w32 (x2 + 2) ∧ w32 (x2 + 2) < zLI a1 then
  let v_33 := o_25.2 a1 (w32 (x2 + 2))
  (g_grp236 zR 236 v_33 o_25.2).bind fun o_34 =>
  (g_m_says 45 o_34.2).bind fun o_40 =>
  if 0 ≤ w32 (x2 + 3) ∧ w32 (x2 + 3) < zLI a1 then
  let v_48 := o_40.2 a1 (w32 (x2 + 3))
  (g_grp236 zR 236 v_48 o_40.2).bind fun o_49 =>
  some ((), o_49.2)
  else none
  else none
  else none
  else none
set_option maxHeartbeats 4000000 in
theorem g_m_saysBox_ok {xl : Nat} {xs : Nat → Int32} {a1 : Nat} (ha1 : zIn [144, 150, 151, 152, 153, 156, 157, 161, 164, 165] a1 = true) {X2 : Int32} {x2 : Int} (hx2 : X2.toInt = x2) {σ : zS} {p : Nat} {m : zM} {o : Unit × zS} (H : zRep xl xs p m σ) (h : g_m_saysBox a1 x2 σ = some o) : zGo xl xs (fun p' => p = p') 503 237 0 (z_can 237 0 (lv_args 0 [.ref 143, .ref a1, .int X2])) [] m vV o.2 := by
  have hq : z_mth 237 = some z_r237 := rfl
  unfold g_m_saysBox at h
  show zGo xl xs (fun p' => p = p') 503 237 0 [(0, .ref 143), (1, .ref a1), (2, .int X2)] [] m vV o.2
  refine r_p hq 3 (pc' := 3) (L' := [(0, .ref 143), (1, .ref a1), (2, .int X2)]) (st' := [.int X2, .ref a1, .ref 143]) rfl ?_
  obtain ⟨g_3, h⟩ := z_ifo_some h
  refine r_ia (pc' := 4) (L' := [(0, .ref 143), (1, .ref a1), (2, .int X2)]) H hq (z_at.mk 1 rfl rfl) (zIn_all (l := [144, 150, 151, 152, 153, 156, 157, 161, 164, 165]) (p := fun a => zAr a 0 (zLI a)) rfl ha1) hx2 g_3 rfl rfl ?_
  intro V_3 hV_3
  obtain ⟨o_4, h_4, h⟩ := Option.bind_eq_some_iff.mp h
  refine r_cvV (pc' := 7) (L' := [(0, .ref 143), (1, .ref a1), (2, .int X2)]) (Ps := [.int V_3]) (rest := []) hq (z_at.mk 3 rfl rfl) (Or.inl ⟨rfl, rfl⟩) rfl rfl (by decide) (by decide) rfl (Nat.not_lt.mpr (Nat.le_of_ble_eq_true rfl)) rfl rfl (z_cat_le 0 rfl (by decide)) (z_lgl_le 2 rfl (by decide)) (by decide) (H.tg rfl) (by show 2 + zR + 1 ≤ _; unfold zR; omega) (g_grp236_ok zR 236 (by simp) hV_3 H h_4) rfl rfl ?_
  intro m_4 p_4 e_4 H_4
  subst e_4
  refine r_p hq 2 (pc' := 10) (L' := [(0, .ref 143), (1, .ref a1), (2, .int X2)]) (st' := [.int ((45 : Int32)), .ref 143]) rfl ?_
  obtain ⟨o_10, h_10, h⟩ := Option.bind_eq_some_iff.mp h
  refine r_cvV (pc' := 13) (L' := [(0, .ref 143), (1, .ref a1), (2, .int X2)]) (Ps := [.int ((45 : Int32))]) (rest := []) hq (z_at.mk 3 rfl rfl) (Or.inl ⟨rfl, rfl⟩) rfl rfl (by decide) (by decide) rfl (Nat.not_lt.mpr (Nat.le_of_ble_eq_true rfl)) rfl rfl (z_cat_le 0 rfl (by decide)) (z_lgl_le 2 rfl (by decide)) (by decide) (H_4.tg rfl) (by omega) (g_m_says_ok (rfl : (45 : Int32).toInt = 45) H_4 h_10) rfl rfl ?_
  intro m_10 p_10 e_10 H_10
  subst e_10
  refine r_p hq 5 (pc' := 18) (L' := [(0, .ref 143), (1, .ref a1), (2, .int X2)]) (st' := [.int (X2 + ((1 : Int32))), .ref a1, .ref 143]) rfl ?_
  obtain ⟨g_18, h⟩ := z_ifo_some h
  refine r_ia (pc' := 19) (L' := [(0, .ref 143), (1, .ref a1), (2, .int X2)]) H_10 hq (z_at.mk 1 rfl rfl) (zIn_all (l := [144, 150, 151, 152, 153, 156, 157, 161, 164, 165]) (p := fun a => zAr a 0 (zLI a)) rfl ha1) (tx_iadd hx2 (rfl : (1 : Int32).toInt = 1)) g_18 rfl rfl ?_
  intro V_18 hV_18
  obtain ⟨o_19, h_19, h⟩ := Option.bind_eq_some_iff.mp h
  refine r_cvV (pc' := 22) (L' := [(0, .ref 143), (1, .ref a1), (2, .int X2)]) (Ps := [.int V_18]) (rest := []) hq (z_at.mk 3 rfl rfl) (Or.inl ⟨rfl, rfl⟩) rfl rfl (by decide) (by decide) rfl (Nat.not_lt.mpr (Nat.le_of_ble_eq_true rfl)) rfl rfl (z_cat_le 0 rfl (by decide)) (z_lgl_le 2 rfl (by decide)) (by decide) (H_10.tg rfl) (by show 2 + zR + 1 ≤ _; unfold zR; omega) (g_grp236_ok zR 236 (by simp) hV_18 H_10 h_19) rfl rfl ?_
  intro m_19 p_19 e_19 H_19
  subst e_19
  refine r_p hq 2 (pc' := 25) (L' := [(0, .ref 143), (1, .ref a1), (2, .int X2)]) (st' := [.int ((44 : Int32)), .ref 143]) rfl ?_
  obtain ⟨o_25, h_25, h⟩ := Option.bind_eq_some_iff.mp h
  refine r_cvV (pc' := 28) (L' := [(0, .ref 143), (1, .ref a1), (2, .int X2)]) (Ps := [.int ((44 : Int32))]) (rest := []) hq (z_at.mk 3 rfl rfl) (Or.inl ⟨rfl, rfl⟩) rfl rfl (by decide) (by decide) rfl (Nat.not_lt.mpr (Nat.le_of_ble_eq_true rfl)) rfl rfl (z_cat_le 0 rfl (by decide)) (z_lgl_le 2 rfl (by decide)) (by decide) (H_19.tg rfl) (by omega) (g_m_says_ok (rfl : (44 : Int32).toInt = 44) H_19 h_25) rfl rfl ?_
  intro m_25 p_25 e_25 H_25
  subst e_25
  refine r_p hq 5 (pc' := 33) (L' := [(0, .ref 143), (1, .ref a1), (2, .int X2)]) (st' := [.int (X2 + ((2 : Int32))), .ref a1, .ref 143]) rfl ?_
  obtain ⟨g_33, h⟩ := z_ifo_some h
  refine r_ia (pc' := 34) (L' := [(0, .ref 143), (1, .ref a1), (2, .int X2)]) H_25 hq (z_at.mk 1 rfl rfl) (zIn_all (l := [144, 150, 151, 152, 153, 156, 157, 161, 164, 165]) (p := fun a => zAr a 0 (zLI a)) rfl ha1) (tx_iadd hx2 (rfl : (2 : Int32).toInt = 2)) g_33 rfl rfl ?_
  intro V_33 hV_33
  obtain ⟨o_34, h_34, h⟩ := Option.bind_eq_some_iff.mp h
  refine r_cvV (pc' := 37) (L' := [(0, .ref 143), (1, .ref a1), (2, .int X2)]) (Ps := [.int V_33]) (rest := []) hq (z_at.mk 3 rfl rfl) (Or.inl ⟨rfl, rfl⟩) rfl rfl (by decide) (by decide) rfl (Nat.not_lt.mpr (Nat.le_of_ble_eq_true rfl)) rfl rfl (z_cat_le 0 rfl (by decide)) (z_lgl_le 2 rfl (by decide)) (by decide) (H_25.tg rfl) (by show 2 + zR + 1 ≤ _; unfold zR; omega) (g_grp236_ok zR 236 (by simp) hV_33 H_25 h_34) rfl rfl ?_
  intro m_34 p_34 e_34 H_34
  subst e_34
  refine r_p hq 2 (pc' := 40) (L' := [(0, .ref 143), (1, .ref a1), (2, .int X2)]) (st' := [.int ((45 : Int32)), .ref 143]) rfl ?_
  obtain ⟨o_40, h_40, h⟩ := Option.bind_eq_some_iff.mp h
  refine r_cvV (pc' := 43) (L' := [(0, .ref 143), (1, .ref a1), (2, .int X2)]) (Ps := [.int ((45 : Int32))]) (rest := []) hq (z_at.mk 3 rfl rfl) (Or.inl ⟨rfl, rfl⟩) rfl rfl (by decide) (by decide) rfl (Nat.not_lt.mpr (Nat.le_of_ble_eq_true rfl)) rfl rfl (z_cat_le 0 rfl (by decide)) (z_lgl_le 2 rfl (by decide)) (by decide) (H_34.tg rfl) (by omega) (g_m_says_ok (rfl : (45 : Int32).toInt = 45) H_34 h_40) rfl rfl ?_
  intro m_40 p_40 e_40 H_40
  subst e_40
  refine r_p hq 5 (pc' := 48) (L' := [(0, .ref 143), (1, .ref a1), (2, .int X2)]) (st' := [.int (X2 + ((3 : Int32))), .ref a1, .ref 143]) rfl ?_
  obtain ⟨g_48, h⟩ := z_ifo_some h
  refine r_ia (pc' := 49) (L' := [(0, .ref 143), (1, .ref a1), (2, .int X2)]) H_40 hq (z_at.mk 1 rfl rfl) (zIn_all (l := [144, 150, 151, 152, 153, 156, 157, 161, 164, 165]) (p := fun a => zAr a 0 (zLI a)) rfl ha1) (tx_iadd hx2 (rfl : (3 : Int32).toInt = 3)) g_48 rfl rfl ?_
  intro V_48 hV_48
  obtain ⟨o_49, h_49, h⟩ := Option.bind_eq_some_iff.mp h
  refine r_cvV (pc' := 52) (L' := [(0, .ref 143), (1, .ref a1), (2, .int X2)]) (Ps := [.int V_48]) (rest := []) hq (z_at.mk 3 rfl rfl) (Or.inl ⟨rfl, rfl⟩) rfl rfl (by decide) (by decide) rfl (Nat.not_lt.mpr (Nat.le_of_ble_eq_true rfl)) rfl rfl (z_cat_le 0 rfl (by decide)) (z_lgl_le 2 rfl (by decide)) (by decide) (H_40.tg rfl) (by show 2 + zR + 1 ≤ _; unfold zR; omega) (g_grp236_ok zR 236 (by simp) hV_48 H_40 h_49) rfl rfl ?_
  intro m_49 p_49 e_49 H_49
  subst e_49
  cases h
  exact r_rv hq (z_at.mk 1 rfl rfl) rfl rfl H_49
def g_m_spell_L27 (g7 : Int → zS → Option (Int × zS)) (x1 : Int) (σ : zS) : Option (Int × zS) :=
  (g_m_region_173 x1 σ).bind fun o_33 =>
  (g_m_saysBox 144 o_33.1 o_33.2).bind fun o_36 =>
  g7 (w32 (x1 + 1)) o_36.2
set_option maxHeartbeats 4000000 in
theorem g_m_spell_L27_ok {xl : Nat} {xs : Nat → Int32} {g7 : Int → zS → Option (Int × zS)} (hg7 : ∀ {X1 : Int32} {x1 : Int} {σ : zS} {p : Nat} {m : zM} {o : Int × zS}, X1.toInt = x1 → zRep xl xs p m σ → g7 x1 σ = some o → zGo xl xs (fun p' => p = p') 504 238 7 [(0, .ref 143), (1, .int X1)] [] m (vI o.1) o.2) {X1 : Int32} {x1 : Int} (hx1 : X1.toInt = x1) {σ : zS} {p : Nat} {m : zM} {o : Int × zS} (H : zRep xl xs p m σ) (h : g_m_spell_L27 g7 x1 σ = some o) : zGo xl xs (fun p' => p = p') 504 238 27 [(0, .ref 143), (1, .int X1)] [] m (vI o.1) o.2 := by
  have hq : z_mth 238 = some z_r238 := rfl
  unfold g_m_spell_L27 at h
  refine r_p hq 2 (pc' := 29) (L' := [(0, .ref 143), (1, .int X1)]) (st' := [.ref 143, .ref 143]) rfl ?_
  refine r_gR (b := 144) (pc' := 32) (L' := [(0, .ref 143), (1, .int X1)]) H hq (z_at.mk 3 rfl rfl) rfl rfl rfl rfl ?_
  refine r_p hq 1 (pc' := 33) (L' := [(0, .ref 143), (1, .int X1)]) (st' := [.int X1, .ref 144, .ref 143]) rfl ?_
  obtain ⟨o_33, h_33, h⟩ := Option.bind_eq_some_iff.mp h
  refine r_csI (pc' := 36) (L' := [(0, .ref 143), (1, .int X1)]) (As := [.int X1]) (rest := [.ref 144, .ref 143]) (j := 173) hq (z_at.mk 3 rfl rfl) (Or.inl ⟨rfl, rfl⟩) rfl rfl (by omega) (g_m_region_173_ok hx1 H h_33) rfl rfl ?_
  intro R_33 m_33 p_33 e_33 hR_33 H_33
  subst e_33
  obtain ⟨o_36, h_36, h⟩ := Option.bind_eq_some_iff.mp h
  refine r_cvV (pc' := 39) (L' := [(0, .ref 143), (1, .int X1)]) (Ps := [.ref 144, .int R_33]) (rest := []) hq (z_at.mk 3 rfl rfl) (Or.inl ⟨rfl, rfl⟩) rfl rfl (by decide) (by decide) rfl (Nat.not_lt.mpr (Nat.le_of_ble_eq_true rfl)) rfl rfl (z_cat_le 0 rfl (by decide)) (z_lgl_le 3 rfl (by decide)) (by decide) (H_33.tg rfl) (by omega) (g_m_saysBox_ok rfl hR_33 H_33 h_36) rfl rfl ?_
  intro m_36 p_36 e_36 H_36
  subst e_36
  refine r_p hq 2 (pc' := 7) (L' := [(0, .ref 143), (1, .int (X1 + (1 : Int32)))]) (st' := []) rfl ?_
  exact hg7 (tx_iadd hx1 (rfl : (1 : Int32).toInt = 1)) H_36 h
def g_m_spell_L7 : Nat → Int → zS → Option (Int × zS)
  | 0, _, _ => none
  | n + 1, x1, σ =>
    let v_13 := σ 144 0
    if v_13 ≤ x1 then
      let v_46 := σ 143 29
      some (v_46, σ)
    else
      if x1 ≤ 0 then
        g_m_spell_L27 ((g_m_spell_L7 n)) x1 σ
      else
        (g_m_says 59 σ).bind fun o_24 =>
        g_m_spell_L27 ((g_m_spell_L7 n)) x1 o_24.2
set_option maxHeartbeats 4000000 in
theorem g_m_spell_L7_ok {xl : Nat} {xs : Nat → Int32} : ∀ (n : Nat) {X1 : Int32} {x1 : Int} {σ : zS} {p : Nat} {m : zM} {o : Int × zS}, X1.toInt = x1 → zRep xl xs p m σ → g_m_spell_L7 n x1 σ = some o → zGo xl xs (fun p' => p = p') 504 238 7 [(0, .ref 143), (1, .int X1)] [] m (vI o.1) o.2
  | 0, _, _, _, _, _, _, _, _, h => by cases h
  | n + 1, X1, x1, σ, p, m, o, hx1, H, h => by
    have hq : z_mth 238 = some z_r238 := rfl
    have ih := fun {X1 : Int32} {x1 : Int} {σ : zS} {p : Nat} {m : zM} {o : Int × zS} => g_m_spell_L7_ok (xl := xl) (xs := xs) n (X1 := X1) (x1 := x1) (σ := σ) (p := p) (m := m) (o := o)
    unfold g_m_spell_L7 at h
    refine r_p hq 2 (pc' := 9) (L' := [(0, .ref 143), (1, .int X1)]) (st' := [.ref 143, .int X1]) rfl ?_
    refine r_gR (b := 144) (pc' := 12) (L' := [(0, .ref 143), (1, .int X1)]) H hq (z_at.mk 3 rfl rfl) rfl rfl rfl rfl ?_
    refine r_p hq 1 (pc' := 13) (L' := [(0, .ref 143), (1, .int X1)]) (st' := [.int ((0 : Int32)), .ref 144, .int X1]) rfl ?_
    refine r_ia (pc' := 14) (L' := [(0, .ref 143), (1, .int X1)]) H hq (z_at.mk 1 rfl rfl) (show zAr 144 0 2740 = true from rfl) (rfl : (0 : Int32).toInt = 0) ⟨by decide, by decide⟩ rfl rfl ?_
    intro V_13 hV_13
    rcases z_ite h with ⟨c_14, h⟩ | ⟨c_14, h⟩
    · refine r_t2 (pc' := 45) (L' := [(0, .ref 143), (1, .int X1)]) hq (z_at.mk 3 rfl rfl) rfl hx1 hV_13 c_14 rfl rfl ?_
      refine r_p hq 1 (pc' := 46) (L' := [(0, .ref 143), (1, .int X1)]) (st' := [.ref 143]) rfl ?_
      refine r_gI (pc' := 49) (L' := [(0, .ref 143), (1, .int X1)]) H hq (z_at.mk 3 rfl rfl) rfl rfl rfl rfl ?_
      intro V_46 hV_46
      cases h
      exact r_ri hq (z_at.mk 1 rfl rfl) rfl rfl hV_46 rfl H
    · refine r_f2 (pc' := 17) (L' := [(0, .ref 143), (1, .int X1)]) hq (z_at.mk 3 rfl rfl) rfl hx1 hV_13 c_14 rfl rfl ?_
      refine r_p hq 1 (pc' := 18) (L' := [(0, .ref 143), (1, .int X1)]) (st' := [.int X1]) rfl ?_
      rcases z_ite h with ⟨c_18, h⟩ | ⟨c_18, h⟩
      · refine r_t1 (pc' := 27) (L' := [(0, .ref 143), (1, .int X1)]) hq (z_at.mk 3 rfl rfl) rfl hx1 c_18 rfl rfl ?_
        exact g_m_spell_L27_ok ih hx1 H h
      · refine r_f1 (pc' := 21) (L' := [(0, .ref 143), (1, .int X1)]) hq (z_at.mk 3 rfl rfl) rfl hx1 c_18 rfl rfl ?_
        refine r_p hq 2 (pc' := 24) (L' := [(0, .ref 143), (1, .int X1)]) (st' := [.int ((59 : Int32)), .ref 143]) rfl ?_
        obtain ⟨o_24, h_24, h⟩ := Option.bind_eq_some_iff.mp h
        refine r_cvV (pc' := 27) (L' := [(0, .ref 143), (1, .int X1)]) (Ps := [.int ((59 : Int32))]) (rest := []) hq (z_at.mk 3 rfl rfl) (Or.inl ⟨rfl, rfl⟩) rfl rfl (by decide) (by decide) rfl (Nat.not_lt.mpr (Nat.le_of_ble_eq_true rfl)) rfl rfl (z_cat_le 0 rfl (by decide)) (z_lgl_le 2 rfl (by decide)) (by decide) (H.tg rfl) (by omega) (g_m_says_ok (rfl : (59 : Int32).toInt = 59) H h_24) rfl rfl ?_
        intro m_24 p_24 e_24 H_24
        subst e_24
        exact g_m_spell_L27_ok ih hx1 H_24 h
def g_m_spell (σ : zS) : Option (Int × zS) :=
  let s_2 := zu σ 143 29 0
  g_m_spell_L7 zK 0 s_2
set_option maxHeartbeats 4000000 in
theorem g_m_spell_ok {xl : Nat} {xs : Nat → Int32} {σ : zS} {p : Nat} {m : zM} {o : Int × zS} (H : zRep xl xs p m σ) (h : g_m_spell σ = some o) : zGo xl xs (fun p' => p = p') 504 238 0 (z_can 238 0 (lv_args 0 [.ref 143])) [] m (vI o.1) o.2 := by
  have hq : z_mth 238 = some z_r238 := rfl
  unfold g_m_spell at h
  show zGo xl xs (fun p' => p = p') 504 238 0 [(0, .ref 143)] [] m (vI o.1) o.2
  refine r_p hq 2 (pc' := 2) (L' := [(0, .ref 143)]) (st' := [.int ((0 : Int32)), .ref 143]) rfl ?_
  refine r_pI (X := (0 : Int32)) (pc' := 5) (L' := [(0, .ref 143)]) H hq (z_at.mk 3 rfl rfl) rfl rfl (rfl : (0 : Int32).toInt = 0) (by decide) rfl rfl rfl rfl ?_
  intro m_2 H_2
  refine r_p hq 2 (pc' := 7) (L' := [(0, .ref 143), (1, .int ((0 : Int32)))]) (st' := []) rfl ?_
  exact g_m_spell_L7_ok zK (rfl : (0 : Int32).toInt = 0) H_2 h
def g_m_explain_L152 : Nat → Int → Int → zS → Option (Int × zS)
  | 0, _, _, _ => none
  | n + 1, x5, x6, σ =>
    let v_155 := σ 143 10
    if v_155 ≤ x6 then
      (g_m_saysWord 18 σ).bind fun o_235 =>
      (g_grp236 zR 236 x5 o_235.2).bind fun o_241 =>
      let v_245 := o_241.2 143 29
      some (v_245, o_241.2)
    else
      (g_m_saysWord 17 σ).bind fun o_165 =>
      (g_m_saysBox 150 (w32 (4 * x6)) o_165.2).bind fun o_177 =>
      (g_m_says 32 o_177.2).bind fun o_183 =>
      (g_m_cost 150 (w32 (4 * x6)) o_183.2).bind fun o_196 =>
      (g_grp236 zR 236 o_196.1 o_196.2).bind fun o_199 =>
      (g_m_cost 150 (w32 (4 * x6)) o_199.2).bind fun o_213 =>
      (g_m_says 59 o_213.2).bind fun o_222 =>
      (g_m_explain_L152 n) (w32 (x5 + o_213.1)) (w32 (x6 + 1)) o_222.2
set_option maxHeartbeats 4000000 in
theorem g_m_explain_L152_ok {xl : Nat} {xs : Nat → Int32} : ∀ (n : Nat) {X5 : Int32} {x5 : Int} {X6 : Int32} {x6 : Int} {σ : zS} {p : Nat} {m : zM} {o : Int × zS}, X5.toInt = x5 → X6.toInt = x6 → zRep xl xs p m σ → g_m_explain_L152 n x5 x6 σ = some o → zGo xl xs (fun p' => p = p') 504 239 152 [(0, .ref 143), (5, .int X5), (6, .int X6)] [] m (vI o.1) o.2
  | 0, _, _, _, _, _, _, _, _, _, _, _, h => by cases h
  | n + 1, X5, x5, X6, x6, σ, p, m, o, hx5, hx6, H, h => by
    have hq : z_mth 239 = some z_r239 := rfl
    have ih := fun {X5 : Int32} {x5 : Int} {X6 : Int32} {x6 : Int} {σ : zS} {p : Nat} {m : zM} {o : Int × zS} => g_m_explain_L152_ok (xl := xl) (xs := xs) n (X5 := X5) (x5 := x5) (X6 := X6) (x6 := x6) (σ := σ) (p := p) (m := m) (o := o)
    unfold g_m_explain_L152 at h
    refine r_p hq 2 (pc' := 155) (L' := [(0, .ref 143), (5, .int X5), (6, .int X6)]) (st' := [.ref 143, .int X6]) rfl ?_
    refine r_gI (pc' := 158) (L' := [(0, .ref 143), (5, .int X5), (6, .int X6)]) H hq (z_at.mk 3 rfl rfl) rfl rfl rfl rfl ?_
    intro V_155 hV_155
    rcases z_ite h with ⟨c_158, h⟩ | ⟨c_158, h⟩
    · refine r_t2 (pc' := 231) (L' := [(0, .ref 143), (5, .int X5), (6, .int X6)]) hq (z_at.mk 3 rfl rfl) rfl hx6 hV_155 c_158 rfl rfl ?_
      refine r_p hq 2 (pc' := 235) (L' := [(0, .ref 143), (5, .int X5), (6, .int X6)]) (st' := [.ref 18, .ref 143]) rfl ?_
      obtain ⟨o_235, h_235, h⟩ := Option.bind_eq_some_iff.mp h
      refine r_cvV (pc' := 238) (L' := [(0, .ref 143), (5, .int X5), (6, .int X6)]) (Ps := [.ref 18]) (rest := []) hq (z_at.mk 3 rfl rfl) (Or.inl ⟨rfl, rfl⟩) rfl rfl (by decide) (by decide) rfl (Nat.not_lt.mpr (Nat.le_of_ble_eq_true rfl)) rfl rfl (z_cat_le 0 rfl (by decide)) (z_lgl_le 2 rfl (by decide)) (by decide) (H.tg rfl) (by omega) (g_m_saysWord_ok rfl H h_235) rfl rfl ?_
      intro m_235 p_235 e_235 H_235
      subst e_235
      refine r_p hq 2 (pc' := 241) (L' := [(0, .ref 143), (5, .int X5), (6, .int X6)]) (st' := [.int X5, .ref 143]) rfl ?_
      obtain ⟨o_241, h_241, h⟩ := Option.bind_eq_some_iff.mp h
      refine r_cvV (pc' := 244) (L' := [(0, .ref 143), (5, .int X5), (6, .int X6)]) (Ps := [.int X5]) (rest := []) hq (z_at.mk 3 rfl rfl) (Or.inl ⟨rfl, rfl⟩) rfl rfl (by decide) (by decide) rfl (Nat.not_lt.mpr (Nat.le_of_ble_eq_true rfl)) rfl rfl (z_cat_le 0 rfl (by decide)) (z_lgl_le 2 rfl (by decide)) (by decide) (H_235.tg rfl) (by show 2 + zR + 1 ≤ _; unfold zR; omega) (g_grp236_ok zR 236 (by simp) hx5 H_235 h_241) rfl rfl ?_
      intro m_241 p_241 e_241 H_241
      subst e_241
      refine r_p hq 1 (pc' := 245) (L' := [(0, .ref 143), (5, .int X5), (6, .int X6)]) (st' := [.ref 143]) rfl ?_
      refine r_gI (pc' := 248) (L' := [(0, .ref 143), (5, .int X5), (6, .int X6)]) H_241 hq (z_at.mk 3 rfl rfl) rfl rfl rfl rfl ?_
      intro V_245 hV_245
      cases h
      exact r_ri hq (z_at.mk 1 rfl rfl) rfl rfl hV_245 rfl H_241
    · refine r_f2 (pc' := 161) (L' := [(0, .ref 143), (5, .int X5), (6, .int X6)]) hq (z_at.mk 3 rfl rfl) rfl hx6 hV_155 c_158 rfl rfl ?_
      refine r_p hq 2 (pc' := 165) (L' := [(0, .ref 143), (5, .int X5), (6, .int X6)]) (st' := [.ref 17, .ref 143]) rfl ?_
      obtain ⟨o_165, h_165, h⟩ := Option.bind_eq_some_iff.mp h
      refine r_cvV (pc' := 168) (L' := [(0, .ref 143), (5, .int X5), (6, .int X6)]) (Ps := [.ref 17]) (rest := []) hq (z_at.mk 3 rfl rfl) (Or.inl ⟨rfl, rfl⟩) rfl rfl (by decide) (by decide) rfl (Nat.not_lt.mpr (Nat.le_of_ble_eq_true rfl)) rfl rfl (z_cat_le 0 rfl (by decide)) (z_lgl_le 2 rfl (by decide)) (by decide) (H.tg rfl) (by omega) (g_m_saysWord_ok rfl H h_165) rfl rfl ?_
      intro m_165 p_165 e_165 H_165
      subst e_165
      refine r_p hq 2 (pc' := 170) (L' := [(0, .ref 143), (5, .int X5), (6, .int X6)]) (st' := [.ref 143, .ref 143]) rfl ?_
      refine r_gR (b := 150) (pc' := 173) (L' := [(0, .ref 143), (5, .int X5), (6, .int X6)]) H_165 hq (z_at.mk 3 rfl rfl) rfl rfl rfl rfl ?_
      refine r_p hq 3 (pc' := 177) (L' := [(0, .ref 143), (5, .int X5), (6, .int X6)]) (st' := [.int (((4 : Int32)) * X6), .ref 150, .ref 143]) rfl ?_
      obtain ⟨o_177, h_177, h⟩ := Option.bind_eq_some_iff.mp h
      refine r_cvV (pc' := 180) (L' := [(0, .ref 143), (5, .int X5), (6, .int X6)]) (Ps := [.ref 150, .int (((4 : Int32)) * X6)]) (rest := []) hq (z_at.mk 3 rfl rfl) (Or.inl ⟨rfl, rfl⟩) rfl rfl (by decide) (by decide) rfl (Nat.not_lt.mpr (Nat.le_of_ble_eq_true rfl)) rfl rfl (z_cat_le 0 rfl (by decide)) (z_lgl_le 3 rfl (by decide)) (by decide) (H_165.tg rfl) (by omega) (g_m_saysBox_ok rfl (tx_imul (rfl : (4 : Int32).toInt = 4) hx6) H_165 h_177) rfl rfl ?_
      intro m_177 p_177 e_177 H_177
      subst e_177
      refine r_p hq 2 (pc' := 183) (L' := [(0, .ref 143), (5, .int X5), (6, .int X6)]) (st' := [.int ((32 : Int32)), .ref 143]) rfl ?_
      obtain ⟨o_183, h_183, h⟩ := Option.bind_eq_some_iff.mp h
      refine r_cvV (pc' := 186) (L' := [(0, .ref 143), (5, .int X5), (6, .int X6)]) (Ps := [.int ((32 : Int32))]) (rest := []) hq (z_at.mk 3 rfl rfl) (Or.inl ⟨rfl, rfl⟩) rfl rfl (by decide) (by decide) rfl (Nat.not_lt.mpr (Nat.le_of_ble_eq_true rfl)) rfl rfl (z_cat_le 0 rfl (by decide)) (z_lgl_le 2 rfl (by decide)) (by decide) (H_177.tg rfl) (by omega) (g_m_says_ok (rfl : (32 : Int32).toInt = 32) H_177 h_183) rfl rfl ?_
      intro m_183 p_183 e_183 H_183
      subst e_183
      refine r_p hq 3 (pc' := 189) (L' := [(0, .ref 143), (5, .int X5), (6, .int X6)]) (st' := [.ref 143, .ref 143, .ref 143]) rfl ?_
      refine r_gR (b := 150) (pc' := 192) (L' := [(0, .ref 143), (5, .int X5), (6, .int X6)]) H_183 hq (z_at.mk 3 rfl rfl) rfl rfl rfl rfl ?_
      refine r_p hq 3 (pc' := 196) (L' := [(0, .ref 143), (5, .int X5), (6, .int X6)]) (st' := [.int (((4 : Int32)) * X6), .ref 150, .ref 143, .ref 143]) rfl ?_
      obtain ⟨o_196, h_196, h⟩ := Option.bind_eq_some_iff.mp h
      refine r_cvI (pc' := 199) (L' := [(0, .ref 143), (5, .int X5), (6, .int X6)]) (Ps := [.ref 150, .int (((4 : Int32)) * X6)]) (rest := [.ref 143]) hq (z_at.mk 3 rfl rfl) (Or.inl ⟨rfl, rfl⟩) rfl rfl (by decide) (by decide) rfl (Nat.not_lt.mpr (Nat.le_of_ble_eq_true rfl)) rfl rfl (z_cat_le 1 rfl (by decide)) (z_lgl_le 3 rfl (by decide)) (by decide) (H_183.tg rfl) (by omega) (g_m_cost_ok rfl (tx_imul (rfl : (4 : Int32).toInt = 4) hx6) H_183 h_196) rfl rfl ?_
      intro R_196 m_196 p_196 e_196 hR_196 H_196
      subst e_196
      obtain ⟨o_199, h_199, h⟩ := Option.bind_eq_some_iff.mp h
      refine r_cvV (pc' := 202) (L' := [(0, .ref 143), (5, .int X5), (6, .int X6)]) (Ps := [.int R_196]) (rest := []) hq (z_at.mk 3 rfl rfl) (Or.inl ⟨rfl, rfl⟩) rfl rfl (by decide) (by decide) rfl (Nat.not_lt.mpr (Nat.le_of_ble_eq_true rfl)) rfl rfl (z_cat_le 0 rfl (by decide)) (z_lgl_le 2 rfl (by decide)) (by decide) (H_196.tg rfl) (by show 2 + zR + 1 ≤ _; unfold zR; omega) (g_grp236_ok zR 236 (by simp) hR_196 H_196 h_199) rfl rfl ?_
      intro m_199 p_199 e_199 H_199
      subst e_199
      refine r_p hq 3 (pc' := 206) (L' := [(0, .ref 143), (5, .int X5), (6, .int X6)]) (st' := [.ref 143, .ref 143, .int X5]) rfl ?_
      refine r_gR (b := 150) (pc' := 209) (L' := [(0, .ref 143), (5, .int X5), (6, .int X6)]) H_199 hq (z_at.mk 3 rfl rfl) rfl rfl rfl rfl ?_
      refine r_p hq 3 (pc' := 213) (L' := [(0, .ref 143), (5, .int X5), (6, .int X6)]) (st' := [.int (((4 : Int32)) * X6), .ref 150, .ref 143, .int X5]) rfl ?_
      obtain ⟨o_213, h_213, h⟩ := Option.bind_eq_some_iff.mp h
      refine r_cvI (pc' := 216) (L' := [(0, .ref 143), (5, .int X5), (6, .int X6)]) (Ps := [.ref 150, .int (((4 : Int32)) * X6)]) (rest := [.int X5]) hq (z_at.mk 3 rfl rfl) (Or.inl ⟨rfl, rfl⟩) rfl rfl (by decide) (by decide) rfl (Nat.not_lt.mpr (Nat.le_of_ble_eq_true rfl)) rfl rfl (z_cat_le 1 rfl (by decide)) (z_lgl_le 3 rfl (by decide)) (by decide) (H_199.tg rfl) (by omega) (g_m_cost_ok rfl (tx_imul (rfl : (4 : Int32).toInt = 4) hx6) H_199 h_213) rfl rfl ?_
      intro R_213 m_213 p_213 e_213 hR_213 H_213
      subst e_213
      refine r_p hq 4 (pc' := 222) (L' := [(5, .int (X5 + R_213)), (0, .ref 143), (6, .int X6)]) (st' := [.int ((59 : Int32)), .ref 143]) rfl ?_
      obtain ⟨o_222, h_222, h⟩ := Option.bind_eq_some_iff.mp h
      refine r_cvV (pc' := 225) (L' := [(5, .int (X5 + R_213)), (0, .ref 143), (6, .int X6)]) (Ps := [.int ((59 : Int32))]) (rest := []) hq (z_at.mk 3 rfl rfl) (Or.inl ⟨rfl, rfl⟩) rfl rfl (by decide) (by decide) rfl (Nat.not_lt.mpr (Nat.le_of_ble_eq_true rfl)) rfl rfl (z_cat_le 0 rfl (by decide)) (z_lgl_le 2 rfl (by decide)) (by decide) (H_213.tg rfl) (by omega) (g_m_says_ok (rfl : (59 : Int32).toInt = 59) H_213 h_222) rfl rfl ?_
      intro m_222 p_222 e_222 H_222
      subst e_222
      refine r_p hq 2 (pc' := 152) (L' := [(0, .ref 143), (5, .int (X5 + R_213)), (6, .int (X6 + (1 : Int32)))]) (st' := []) rfl ?_
      exact ih (tx_iadd hx5 hR_213) (tx_iadd hx6 (rfl : (1 : Int32).toInt = 1)) H_222 h
def g_m_explain_L140 (g39 : Int → zS → Option (Int × zS)) (x5 : Int) (σ : zS) : Option (Int × zS) :=
  g39 (w32 (x5 + 1)) σ
set_option maxHeartbeats 4000000 in
theorem g_m_explain_L140_ok {xl : Nat} {xs : Nat → Int32} {g39 : Int → zS → Option (Int × zS)} (hg39 : ∀ {X5 : Int32} {x5 : Int} {σ : zS} {p : Nat} {m : zM} {o : Int × zS}, X5.toInt = x5 → zRep xl xs p m σ → g39 x5 σ = some o → zGo xl xs (fun p' => p = p') 504 239 39 [(0, .ref 143), (5, .int X5)] [] m (vI o.1) o.2) {X5 : Int32} {x5 : Int} (hx5 : X5.toInt = x5) {σ : zS} {p : Nat} {m : zM} {o : Int × zS} (H : zRep xl xs p m σ) (h : g_m_explain_L140 g39 x5 σ = some o) : zGo xl xs (fun p' => p = p') 504 239 140 [(0, .ref 143), (5, .int X5)] [] m (vI o.1) o.2 := by
  have hq : z_mth 239 = some z_r239 := rfl
  unfold g_m_explain_L140 at h
  refine r_p hq 2 (pc' := 39) (L' := [(0, .ref 143), (5, .int (X5 + (1 : Int32)))]) (st' := []) rfl ?_
  exact hg39 (tx_iadd hx5 (rfl : (1 : Int32).toInt = 1)) H h
def g_m_explain_L39 : Nat → Int → zS → Option (Int × zS)
  | 0, _, _ => none
  | n + 1, x5, σ =>
    let v_46 := σ 144 0
    if v_46 ≤ x5 then
      g_m_explain_L152 zK 0 0 σ
    else
      (g_m_region_173 x5 σ).bind fun o_56 =>
      (g_m_doMeet 144 152 o_56.1 0 o_56.2).bind fun o_64 =>
      if o_64.1 ≠ 0 then
        (g_m_saysWord 16 o_64.2).bind fun o_77 =>
        (g_m_region_173 x5 o_77.2).bind fun o_87 =>
        if 0 ≤ w32 (o_87.1 + 8) ∧ w32 (o_87.1 + 8) < 2740 then
        let v_93 := o_87.2 144 (w32 (o_87.1 + 8))
        (g_grp236 zR 236 v_93 o_87.2).bind fun o_94 =>
        (g_m_says 32 o_94.2).bind fun o_100 =>
        (g_m_region_173 x5 o_100.2).bind fun o_109 =>
        (g_m_commons 144 152 153 o_109.1 0 0 o_109.2).bind fun o_122 =>
        (g_m_saysBox 153 0 o_122.2).bind fun o_131 =>
        (g_m_says 59 o_131.2).bind fun o_137 =>
        g_m_explain_L140 ((g_m_explain_L39 n)) x5 o_137.2
        else none
      else
        g_m_explain_L140 ((g_m_explain_L39 n)) x5 o_64.2
set_option maxHeartbeats 4000000 in
theorem g_m_explain_L39_ok {xl : Nat} {xs : Nat → Int32} : ∀ (n : Nat) {X5 : Int32} {x5 : Int} {σ : zS} {p : Nat} {m : zM} {o : Int × zS}, X5.toInt = x5 → zRep xl xs p m σ → g_m_explain_L39 n x5 σ = some o → zGo xl xs (fun p' => p = p') 504 239 39 [(0, .ref 143), (5, .int X5)] [] m (vI o.1) o.2
  | 0, _, _, _, _, _, _, _, _, h => by cases h
  | n + 1, X5, x5, σ, p, m, o, hx5, H, h => by
    have hq : z_mth 239 = some z_r239 := rfl
    have ih := fun {X5 : Int32} {x5 : Int} {σ : zS} {p : Nat} {m : zM} {o : Int × zS} => g_m_explain_L39_ok (xl := xl) (xs := xs) n (X5 := X5) (x5 := x5) (σ := σ) (p := p) (m := m) (o := o)
    unfold g_m_explain_L39 at h
    refine r_p hq 2 (pc' := 42) (L' := [(0, .ref 143), (5, .int X5)]) (st' := [.ref 143, .int X5]) rfl ?_
    refine r_gR (b := 144) (pc' := 45) (L' := [(0, .ref 143), (5, .int X5)]) H hq (z_at.mk 3 rfl rfl) rfl rfl rfl rfl ?_
    refine r_p hq 1 (pc' := 46) (L' := [(0, .ref 143), (5, .int X5)]) (st' := [.int ((0 : Int32)), .ref 144, .int X5]) rfl ?_
    refine r_ia (pc' := 47) (L' := [(0, .ref 143), (5, .int X5)]) H hq (z_at.mk 1 rfl rfl) (show zAr 144 0 2740 = true from rfl) (rfl : (0 : Int32).toInt = 0) ⟨by decide, by decide⟩ rfl rfl ?_
    intro V_46 hV_46
    rcases z_ite h with ⟨c_47, h⟩ | ⟨c_47, h⟩
    · refine r_t2 (pc' := 146) (L' := [(0, .ref 143), (5, .int X5)]) hq (z_at.mk 3 rfl rfl) rfl hx5 hV_46 c_47 rfl rfl ?_
      refine r_p hq 4 (pc' := 152) (L' := [(0, .ref 143), (5, .int ((0 : Int32))), (6, .int ((0 : Int32)))]) (st' := []) rfl ?_
      exact g_m_explain_L152_ok zK (rfl : (0 : Int32).toInt = 0) (rfl : (0 : Int32).toInt = 0) H h
    · refine r_f2 (pc' := 50) (L' := [(0, .ref 143), (5, .int X5)]) hq (z_at.mk 3 rfl rfl) rfl hx5 hV_46 c_47 rfl rfl ?_
      refine r_p hq 1 (pc' := 51) (L' := [(0, .ref 143), (5, .int X5)]) (st' := [.ref 143]) rfl ?_
      refine r_gR (b := 144) (pc' := 54) (L' := [(0, .ref 143), (5, .int X5)]) H hq (z_at.mk 3 rfl rfl) rfl rfl rfl rfl ?_
      refine r_p hq 1 (pc' := 56) (L' := [(0, .ref 143), (5, .int X5)]) (st' := [.int X5, .ref 144]) rfl ?_
      obtain ⟨o_56, h_56, h⟩ := Option.bind_eq_some_iff.mp h
      refine r_csI (pc' := 59) (L' := [(0, .ref 143), (5, .int X5)]) (As := [.int X5]) (rest := [.ref 144]) (j := 173) hq (z_at.mk 3 rfl rfl) (Or.inl ⟨rfl, rfl⟩) rfl rfl (by omega) (g_m_region_173_ok hx5 H h_56) rfl rfl ?_
      intro R_56 m_56 p_56 e_56 hR_56 H_56
      subst e_56
      refine r_p hq 1 (pc' := 60) (L' := [(0, .ref 143), (5, .int X5)]) (st' := [.ref 143, .int R_56, .ref 144]) rfl ?_
      refine r_gR (b := 152) (pc' := 63) (L' := [(0, .ref 143), (5, .int X5)]) H_56 hq (z_at.mk 3 rfl rfl) rfl rfl rfl rfl ?_
      refine r_p hq 1 (pc' := 64) (L' := [(0, .ref 143), (5, .int X5)]) (st' := [.int ((0 : Int32)), .ref 152, .int R_56, .ref 144]) rfl ?_
      obtain ⟨o_64, h_64, h⟩ := Option.bind_eq_some_iff.mp h
      refine r_csI (pc' := 67) (L' := [(0, .ref 143), (5, .int X5)]) (As := [.ref 144, .int R_56, .ref 152, .int ((0 : Int32))]) (rest := []) (j := 169) hq (z_at.mk 3 rfl rfl) (Or.inl ⟨rfl, rfl⟩) rfl rfl (by omega) (g_m_doMeet_ok rfl rfl hR_56 (rfl : (0 : Int32).toInt = 0) H_56 h_64) rfl rfl ?_
      intro R_64 m_64 p_64 e_64 hR_64 H_64
      subst e_64
      rcases z_ite h with ⟨c_67, h⟩ | ⟨c_67, h⟩
      · refine r_t1 (pc' := 73) (L' := [(0, .ref 143), (5, .int X5)]) hq (z_at.mk 3 rfl rfl) rfl hR_64 c_67 rfl rfl ?_
        refine r_p hq 2 (pc' := 77) (L' := [(0, .ref 143), (5, .int X5)]) (st' := [.ref 16, .ref 143]) rfl ?_
        obtain ⟨o_77, h_77, h⟩ := Option.bind_eq_some_iff.mp h
        refine r_cvV (pc' := 80) (L' := [(0, .ref 143), (5, .int X5)]) (Ps := [.ref 16]) (rest := []) hq (z_at.mk 3 rfl rfl) (Or.inl ⟨rfl, rfl⟩) rfl rfl (by decide) (by decide) rfl (Nat.not_lt.mpr (Nat.le_of_ble_eq_true rfl)) rfl rfl (z_cat_le 0 rfl (by decide)) (z_lgl_le 2 rfl (by decide)) (by decide) (H_64.tg rfl) (by omega) (g_m_saysWord_ok rfl H_64 h_77) rfl rfl ?_
        intro m_77 p_77 e_77 H_77
        subst e_77
        refine r_p hq 2 (pc' := 82) (L' := [(0, .ref 143), (5, .int X5)]) (st' := [.ref 143, .ref 143]) rfl ?_
        refine r_gR (b := 144) (pc' := 85) (L' := [(0, .ref 143), (5, .int X5)]) H_77 hq (z_at.mk 3 rfl rfl) rfl rfl rfl rfl ?_
        refine r_p hq 1 (pc' := 87) (L' := [(0, .ref 143), (5, .int X5)]) (st' := [.int X5, .ref 144, .ref 143]) rfl ?_
        obtain ⟨o_87, h_87, h⟩ := Option.bind_eq_some_iff.mp h
        refine r_csI (pc' := 90) (L' := [(0, .ref 143), (5, .int X5)]) (As := [.int X5]) (rest := [.ref 144, .ref 143]) (j := 173) hq (z_at.mk 3 rfl rfl) (Or.inl ⟨rfl, rfl⟩) rfl rfl (by omega) (g_m_region_173_ok hx5 H_77 h_87) rfl rfl ?_
        intro R_87 m_87 p_87 e_87 hR_87 H_87
        subst e_87
        refine r_p hq 2 (pc' := 93) (L' := [(0, .ref 143), (5, .int X5)]) (st' := [.int (R_87 + ((8 : Int32))), .ref 144, .ref 143]) rfl ?_
        obtain ⟨g_93, h⟩ := z_ifo_some h
        refine r_ia (pc' := 94) (L' := [(0, .ref 143), (5, .int X5)]) H_87 hq (z_at.mk 1 rfl rfl) (show zAr 144 0 2740 = true from rfl) (tx_iadd hR_87 (rfl : (8 : Int32).toInt = 8)) g_93 rfl rfl ?_
        intro V_93 hV_93
        obtain ⟨o_94, h_94, h⟩ := Option.bind_eq_some_iff.mp h
        refine r_cvV (pc' := 97) (L' := [(0, .ref 143), (5, .int X5)]) (Ps := [.int V_93]) (rest := []) hq (z_at.mk 3 rfl rfl) (Or.inl ⟨rfl, rfl⟩) rfl rfl (by decide) (by decide) rfl (Nat.not_lt.mpr (Nat.le_of_ble_eq_true rfl)) rfl rfl (z_cat_le 0 rfl (by decide)) (z_lgl_le 2 rfl (by decide)) (by decide) (H_87.tg rfl) (by show 2 + zR + 1 ≤ _; unfold zR; omega) (g_grp236_ok zR 236 (by simp) hV_93 H_87 h_94) rfl rfl ?_
        intro m_94 p_94 e_94 H_94
        subst e_94
        refine r_p hq 2 (pc' := 100) (L' := [(0, .ref 143), (5, .int X5)]) (st' := [.int ((32 : Int32)), .ref 143]) rfl ?_
        obtain ⟨o_100, h_100, h⟩ := Option.bind_eq_some_iff.mp h
        refine r_cvV (pc' := 103) (L' := [(0, .ref 143), (5, .int X5)]) (Ps := [.int ((32 : Int32))]) (rest := []) hq (z_at.mk 3 rfl rfl) (Or.inl ⟨rfl, rfl⟩) rfl rfl (by decide) (by decide) rfl (Nat.not_lt.mpr (Nat.le_of_ble_eq_true rfl)) rfl rfl (z_cat_le 0 rfl (by decide)) (z_lgl_le 2 rfl (by decide)) (by decide) (H_94.tg rfl) (by omega) (g_m_says_ok (rfl : (32 : Int32).toInt = 32) H_94 h_100) rfl rfl ?_
        intro m_100 p_100 e_100 H_100
        subst e_100
        refine r_p hq 1 (pc' := 104) (L' := [(0, .ref 143), (5, .int X5)]) (st' := [.ref 143]) rfl ?_
        refine r_gR (b := 144) (pc' := 107) (L' := [(0, .ref 143), (5, .int X5)]) H_100 hq (z_at.mk 3 rfl rfl) rfl rfl rfl rfl ?_
        refine r_p hq 1 (pc' := 109) (L' := [(0, .ref 143), (5, .int X5)]) (st' := [.int X5, .ref 144]) rfl ?_
        obtain ⟨o_109, h_109, h⟩ := Option.bind_eq_some_iff.mp h
        refine r_csI (pc' := 112) (L' := [(0, .ref 143), (5, .int X5)]) (As := [.int X5]) (rest := [.ref 144]) (j := 173) hq (z_at.mk 3 rfl rfl) (Or.inl ⟨rfl, rfl⟩) rfl rfl (by omega) (g_m_region_173_ok hx5 H_100 h_109) rfl rfl ?_
        intro R_109 m_109 p_109 e_109 hR_109 H_109
        subst e_109
        refine r_p hq 1 (pc' := 113) (L' := [(0, .ref 143), (5, .int X5)]) (st' := [.ref 143, .int R_109, .ref 144]) rfl ?_
        refine r_gR (b := 152) (pc' := 116) (L' := [(0, .ref 143), (5, .int X5)]) H_109 hq (z_at.mk 3 rfl rfl) rfl rfl rfl rfl ?_
        refine r_p hq 2 (pc' := 118) (L' := [(0, .ref 143), (5, .int X5)]) (st' := [.ref 143, .int ((0 : Int32)), .ref 152, .int R_109, .ref 144]) rfl ?_
        refine r_gR (b := 153) (pc' := 121) (L' := [(0, .ref 143), (5, .int X5)]) H_109 hq (z_at.mk 3 rfl rfl) rfl rfl rfl rfl ?_
        refine r_p hq 1 (pc' := 122) (L' := [(0, .ref 143), (5, .int X5)]) (st' := [.int ((0 : Int32)), .ref 153, .int ((0 : Int32)), .ref 152, .int R_109, .ref 144]) rfl ?_
        obtain ⟨o_122, h_122, h⟩ := Option.bind_eq_some_iff.mp h
        refine r_csV (pc' := 125) (L' := [(0, .ref 143), (5, .int X5)]) (As := [.ref 144, .int R_109, .ref 152, .int ((0 : Int32)), .ref 153, .int ((0 : Int32))]) (rest := []) (j := 170) hq (z_at.mk 3 rfl rfl) (Or.inl ⟨rfl, rfl⟩) rfl rfl (by omega) (g_m_commons_ok rfl rfl rfl hR_109 (rfl : (0 : Int32).toInt = 0) (rfl : (0 : Int32).toInt = 0) H_109 h_122) rfl rfl ?_
        intro m_122 p_122 e_122 H_122
        subst e_122
        refine r_p hq 2 (pc' := 127) (L' := [(0, .ref 143), (5, .int X5)]) (st' := [.ref 143, .ref 143]) rfl ?_
        refine r_gR (b := 153) (pc' := 130) (L' := [(0, .ref 143), (5, .int X5)]) H_122 hq (z_at.mk 3 rfl rfl) rfl rfl rfl rfl ?_
        refine r_p hq 1 (pc' := 131) (L' := [(0, .ref 143), (5, .int X5)]) (st' := [.int ((0 : Int32)), .ref 153, .ref 143]) rfl ?_
        obtain ⟨o_131, h_131, h⟩ := Option.bind_eq_some_iff.mp h
        refine r_cvV (pc' := 134) (L' := [(0, .ref 143), (5, .int X5)]) (Ps := [.ref 153, .int ((0 : Int32))]) (rest := []) hq (z_at.mk 3 rfl rfl) (Or.inl ⟨rfl, rfl⟩) rfl rfl (by decide) (by decide) rfl (Nat.not_lt.mpr (Nat.le_of_ble_eq_true rfl)) rfl rfl (z_cat_le 0 rfl (by decide)) (z_lgl_le 3 rfl (by decide)) (by decide) (H_122.tg rfl) (by omega) (g_m_saysBox_ok rfl (rfl : (0 : Int32).toInt = 0) H_122 h_131) rfl rfl ?_
        intro m_131 p_131 e_131 H_131
        subst e_131
        refine r_p hq 2 (pc' := 137) (L' := [(0, .ref 143), (5, .int X5)]) (st' := [.int ((59 : Int32)), .ref 143]) rfl ?_
        obtain ⟨o_137, h_137, h⟩ := Option.bind_eq_some_iff.mp h
        refine r_cvV (pc' := 140) (L' := [(0, .ref 143), (5, .int X5)]) (Ps := [.int ((59 : Int32))]) (rest := []) hq (z_at.mk 3 rfl rfl) (Or.inl ⟨rfl, rfl⟩) rfl rfl (by decide) (by decide) rfl (Nat.not_lt.mpr (Nat.le_of_ble_eq_true rfl)) rfl rfl (z_cat_le 0 rfl (by decide)) (z_lgl_le 2 rfl (by decide)) (by decide) (H_131.tg rfl) (by omega) (g_m_says_ok (rfl : (59 : Int32).toInt = 59) H_131 h_137) rfl rfl ?_
        intro m_137 p_137 e_137 H_137
        subst e_137
        exact g_m_explain_L140_ok ih hx5 H_137 h
      · refine r_f1 (pc' := 70) (L' := [(0, .ref 143), (5, .int X5)]) hq (z_at.mk 3 rfl rfl) rfl hR_64 c_67 rfl rfl ?_
        refine r_p hq 1 (pc' := 140) (L' := [(0, .ref 143), (5, .int X5)]) (st' := []) rfl ?_
        exact g_m_explain_L140_ok ih hx5 H_64 h
def g_m_explain (x1 : Int) (x2 : Int) (x3 : Int) (x4 : Int) (σ : zS) : Option (Int × zS) :=
  (g_m_isBox x1 x2 x3 x4 σ).bind fun o_5 =>
  if o_5.1 ≠ 0 then
    (g_m_sets 152 0 x1 x2 x3 x4 o_5.2).bind fun o_24 =>
    (g_m_misses o_24.2).bind fun o_28 =>
    let s_33 := zu o_28.2 143 29 0
    g_m_explain_L39 zK 0 s_33
  else
    some (-2, o_5.2)
set_option maxHeartbeats 4000000 in
theorem g_m_explain_ok {xl : Nat} {xs : Nat → Int32} {X1 : Int32} {x1 : Int} (hx1 : X1.toInt = x1) {X2 : Int32} {x2 : Int} (hx2 : X2.toInt = x2) {X3 : Int32} {x3 : Int} (hx3 : X3.toInt = x3) {X4 : Int32} {x4 : Int} (hx4 : X4.toInt = x4) {σ : zS} {p : Nat} {m : zM} {o : Int × zS} (H : zRep xl xs p m σ) (h : g_m_explain x1 x2 x3 x4 σ = some o) : zGo xl xs (fun p' => p = p') 504 239 0 (z_can 239 0 (lv_args 0 [.ref 143, .int X1, .int X2, .int X3, .int X4])) [] m (vI o.1) o.2 := by
  have hq : z_mth 239 = some z_r239 := rfl
  unfold g_m_explain at h
  show zGo xl xs (fun p' => p = p') 504 239 0 [(0, .ref 143), (1, .int X1), (2, .int X2), (3, .int X3), (4, .int X4)] [] m (vI o.1) o.2
  refine r_p hq 4 (pc' := 5) (L' := [(0, .ref 143), (1, .int X1), (2, .int X2), (3, .int X3), (4, .int X4)]) (st' := [.int X4, .int X3, .int X2, .int X1]) rfl ?_
  obtain ⟨o_5, h_5, h⟩ := Option.bind_eq_some_iff.mp h
  refine r_csI (pc' := 8) (L' := [(0, .ref 143), (1, .int X1), (2, .int X2), (3, .int X3), (4, .int X4)]) (As := [.int X1, .int X2, .int X3, .int X4]) (rest := []) (j := 164) hq (z_at.mk 3 rfl rfl) (Or.inl ⟨rfl, rfl⟩) rfl rfl (by omega) (g_m_isBox_ok hx1 hx2 hx3 hx4 H h_5) rfl rfl ?_
  intro R_5 m_5 p_5 e_5 hR_5 H_5
  subst e_5
  rcases z_ite h with ⟨c_8, h⟩ | ⟨c_8, h⟩
  · refine r_t1 (pc' := 14) (L' := [(0, .ref 143), (1, .int X1), (2, .int X2), (3, .int X3), (4, .int X4)]) hq (z_at.mk 3 rfl rfl) rfl hR_5 c_8 rfl rfl ?_
    refine r_p hq 1 (pc' := 15) (L' := [(0, .ref 143), (1, .int X1), (2, .int X2), (3, .int X3), (4, .int X4)]) (st' := [.ref 143]) rfl ?_
    refine r_gR (b := 152) (pc' := 18) (L' := [(0, .ref 143), (1, .int X1), (2, .int X2), (3, .int X3), (4, .int X4)]) H_5 hq (z_at.mk 3 rfl rfl) rfl rfl rfl rfl ?_
    refine r_p hq 5 (pc' := 24) (L' := [(0, .ref 143), (1, .int X1), (2, .int X2), (3, .int X3), (4, .int X4)]) (st' := [.int X4, .int X3, .int X2, .int X1, .int ((0 : Int32)), .ref 152]) rfl ?_
    obtain ⟨o_24, h_24, h⟩ := Option.bind_eq_some_iff.mp h
    refine r_csV (pc' := 27) (L' := [(0, .ref 143), (1, .int X1), (2, .int X2), (3, .int X3), (4, .int X4)]) (As := [.ref 152, .int ((0 : Int32)), .int X1, .int X2, .int X3, .int X4]) (rest := []) (j := 165) hq (z_at.mk 3 rfl rfl) (Or.inl ⟨rfl, rfl⟩) rfl rfl (by omega) (g_m_sets_ok rfl (rfl : (0 : Int32).toInt = 0) hx1 hx2 hx3 hx4 H_5 h_24) rfl rfl ?_
    intro m_24 p_24 e_24 H_24
    subst e_24
    refine r_p hq 1 (pc' := 28) (L' := [(0, .ref 143), (1, .int X1), (2, .int X2), (3, .int X3), (4, .int X4)]) (st' := [.ref 143]) rfl ?_
    obtain ⟨o_28, h_28, h⟩ := Option.bind_eq_some_iff.mp h
    refine r_cvV (pc' := 31) (L' := [(0, .ref 143), (1, .int X1), (2, .int X2), (3, .int X3), (4, .int X4)]) (Ps := []) (rest := []) hq (z_at.mk 3 rfl rfl) (Or.inl ⟨rfl, rfl⟩) rfl rfl (by decide) (by decide) rfl (Nat.not_lt.mpr (Nat.le_of_ble_eq_true rfl)) rfl rfl (z_cat_le 0 rfl (by decide)) (z_lgl_le 1 rfl (by decide)) (by decide) (H_24.tg rfl) (by omega) (g_m_misses_ok H_24 h_28) rfl rfl ?_
    intro m_28 p_28 e_28 H_28
    subst e_28
    refine r_p hq 2 (pc' := 33) (L' := [(0, .ref 143), (1, .int X1), (2, .int X2), (3, .int X3), (4, .int X4)]) (st' := [.int ((0 : Int32)), .ref 143]) rfl ?_
    refine r_pI (X := (0 : Int32)) (pc' := 36) (L' := [(0, .ref 143), (1, .int X1), (2, .int X2), (3, .int X3), (4, .int X4)]) H_28 hq (z_at.mk 3 rfl rfl) rfl rfl (rfl : (0 : Int32).toInt = 0) (by decide) rfl rfl rfl rfl ?_
    intro m_33 H_33
    refine r_p hq 2 (pc' := 39) (L' := [(0, .ref 143), (5, .int ((0 : Int32)))]) (st' := []) rfl ?_
    exact g_m_explain_L39_ok zK (rfl : (0 : Int32).toInt = 0) H_33 h
  · refine r_f1 (pc' := 11) (L' := [(0, .ref 143), (1, .int X1), (2, .int X2), (3, .int X3), (4, .int X4)]) hq (z_at.mk 3 rfl rfl) rfl hR_5 c_8 rfl rfl ?_
    refine r_p hq 1 (pc' := 13) (L' := [(0, .ref 143), (1, .int X1), (2, .int X2), (3, .int X3), (4, .int X4)]) (st' := [.int ((-2 : Int32))]) rfl ?_
    cases h
    exact r_ri hq (z_at.mk 1 rfl rfl) rfl rfl (rfl : (-2 : Int32).toInt = -2) rfl H_5
def g_m_paper (x1 : Int) (σ : zS) : Option (Int × zS) :=
  let v_3 := σ 143 29
  (g_m_isIn x1 0 (w32 (v_3 - 1)) σ).bind fun o_8 =>
  if o_8.1 = 0 then
    some (-1, o_8.2)
  else
    if 0 ≤ x1 ∧ x1 < 40000 then
    let v_19 := o_8.2 163 x1
    some (v_19, o_8.2)
    else none
set_option maxHeartbeats 4000000 in
theorem g_m_paper_ok {xl : Nat} {xs : Nat → Int32} {X1 : Int32} {x1 : Int} (hx1 : X1.toInt = x1) {σ : zS} {p : Nat} {m : zM} {o : Int × zS} (H : zRep xl xs p m σ) (h : g_m_paper x1 σ = some o) : zGo xl xs (fun p' => p = p') 2 240 0 (z_can 240 0 (lv_args 0 [.ref 143, .int X1])) [] m (vI o.1) o.2 := by
  have hq : z_mth 240 = some z_r240 := rfl
  unfold g_m_paper at h
  show zGo xl xs (fun p' => p = p') 2 240 0 [(0, .ref 143), (1, .int X1)] [] m (vI o.1) o.2
  refine r_p hq 3 (pc' := 3) (L' := [(0, .ref 143), (1, .int X1)]) (st' := [.ref 143, .int ((0 : Int32)), .int X1]) rfl ?_
  refine r_gI (pc' := 6) (L' := [(0, .ref 143), (1, .int X1)]) H hq (z_at.mk 3 rfl rfl) rfl rfl rfl rfl ?_
  intro V_3 hV_3
  refine r_p hq 2 (pc' := 8) (L' := [(0, .ref 143), (1, .int X1)]) (st' := [.int (V_3 - ((1 : Int32))), .int ((0 : Int32)), .int X1]) rfl ?_
  obtain ⟨o_8, h_8, h⟩ := Option.bind_eq_some_iff.mp h
  refine r_csI (pc' := 11) (L' := [(0, .ref 143), (1, .int X1)]) (As := [.int X1, .int ((0 : Int32)), .int (V_3 - ((1 : Int32)))]) (rest := []) (j := 159) hq (z_at.mk 3 rfl rfl) (Or.inl ⟨rfl, rfl⟩) rfl rfl (by omega) (g_m_isIn_ok hx1 (rfl : (0 : Int32).toInt = 0) (tx_isub hV_3 (rfl : (1 : Int32).toInt = 1)) H h_8) rfl rfl ?_
  intro R_8 m_8 p_8 e_8 hR_8 H_8
  subst e_8
  rcases z_ite h with ⟨c_11, h⟩ | ⟨c_11, h⟩
  · refine r_t1 (pc' := 23) (L' := [(0, .ref 143), (1, .int X1)]) hq (z_at.mk 3 rfl rfl) rfl hR_8 c_11 rfl rfl ?_
    refine r_p hq 1 (pc' := 24) (L' := []) (st' := [.int ((-1 : Int32))]) rfl ?_
    cases h
    exact r_ri hq (z_at.mk 1 rfl rfl) rfl rfl (rfl : (-1 : Int32).toInt = -1) rfl H_8
  · refine r_f1 (pc' := 14) (L' := [(0, .ref 143), (1, .int X1)]) hq (z_at.mk 3 rfl rfl) rfl hR_8 c_11 rfl rfl ?_
    refine r_p hq 1 (pc' := 15) (L' := [(0, .ref 143), (1, .int X1)]) (st' := [.ref 143]) rfl ?_
    refine r_gR (b := 163) (pc' := 18) (L' := [(0, .ref 143), (1, .int X1)]) H_8 hq (z_at.mk 3 rfl rfl) rfl rfl rfl rfl ?_
    refine r_p hq 1 (pc' := 19) (L' := [(0, .ref 143), (1, .int X1)]) (st' := [.int X1, .ref 163]) rfl ?_
    obtain ⟨g_19, h⟩ := z_ifo_some h
    refine r_ia (pc' := 20) (L' := [(0, .ref 143), (1, .int X1)]) H_8 hq (z_at.mk 1 rfl rfl) (show zAr 163 0 40000 = true from rfl) hx1 g_19 rfl rfl ?_
    intro V_19 hV_19
    refine r_p hq 1 (pc' := 24) (L' := []) (st' := [.int V_19]) rfl ?_
    cases h
    exact r_ri hq (z_at.mk 1 rfl rfl) rfl rfl hV_19 rfl H_8
