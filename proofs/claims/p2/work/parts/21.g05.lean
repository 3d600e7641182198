/-! THE METHODS over the typed memory, 5 (by wip/zg.py) -/
def g_ta_ranges (σ : zS) : Option (Int × zS) :=
  (g_ta_range σ).bind fun o_1 =>
  (g_ta_wants 32 o_1.2).bind fun o_8 =>
  (g_ta_range o_8.2).bind fun o_12 =>
  (g_ta_isSound o_12.2).bind fun o_17 =>
  if o_17.1 = 0 then
    some (-1, o_17.2)
  else
    (g_b_of (w32 (Int.tdiv o_1.1 32)) (Int.tmod o_1.1 32) (w32 (Int.tdiv o_12.1 32)) (Int.tmod o_12.1 32) o_17.2).bind fun o_39 =>
    some (o_39.1, o_39.2)
set_option maxHeartbeats 4000000 in
theorem g_ta_ranges_ok {xl : Nat} {xs : Nat → Int32} {σ : zS} {p : Nat} {m : zM} {o : Int × zS} (H : zRep xl xs p m σ) (h : g_ta_ranges σ = some o) : zGo xl xs (fun p' => p = p') 4 105 0 (z_can 105 0 (lv_args 0 [.ref 120])) [] m (vI o.1) o.2 := by
  have hq : z_mth 105 = some z_r105 := rfl
  unfold g_ta_ranges at h
  show zGo xl xs (fun p' => p = p') 4 105 0 [(0, .ref 120)] [] m (vI o.1) o.2
  refine r_p hq 1 (pc' := 1) (L' := [(0, .ref 120)]) (st' := [.ref 120]) rfl ?_
  obtain ⟨o_1, h_1, h⟩ := Option.bind_eq_some_iff.mp h
  refine r_cvI (pc' := 4) (L' := [(0, .ref 120)]) (Ps := []) (rest := []) hq (z_at.mk 3 rfl rfl) (Or.inl ⟨rfl, rfl⟩) rfl rfl (by decide) (by decide) rfl (Nat.not_lt.mpr (Nat.le_of_ble_eq_true rfl)) rfl rfl (z_cat_le 0 rfl (by decide)) (z_lgl_le 1 rfl (by decide)) (by decide) (H.tg rfl) (by omega) (g_ta_range_ok H h_1) rfl rfl ?_
  intro R_1 m_1 p_1 e_1 hR_1 H_1
  subst e_1
  refine r_p hq 3 (pc' := 8) (L' := [(1, .int R_1), (0, .ref 120)]) (st' := [.int ((32 : Int32)), .ref 120]) rfl ?_
  obtain ⟨o_8, h_8, h⟩ := Option.bind_eq_some_iff.mp h
  refine r_cvV (pc' := 11) (L' := [(1, .int R_1), (0, .ref 120)]) (Ps := [.int ((32 : Int32))]) (rest := []) hq (z_at.mk 3 rfl rfl) (Or.inl ⟨rfl, rfl⟩) rfl rfl (by decide) (by decide) rfl (Nat.not_lt.mpr (Nat.le_of_ble_eq_true rfl)) rfl rfl (z_cat_le 0 rfl (by decide)) (z_lgl_le 2 rfl (by decide)) (by decide) (H_1.tg rfl) (by omega) (g_ta_wants_ok (rfl : (32 : Int32).toInt = 32) H_1 h_8) rfl rfl ?_
  intro m_8 p_8 e_8 H_8
  subst e_8
  refine r_p hq 1 (pc' := 12) (L' := [(1, .int R_1), (0, .ref 120)]) (st' := [.ref 120]) rfl ?_
  obtain ⟨o_12, h_12, h⟩ := Option.bind_eq_some_iff.mp h
  refine r_cvI (pc' := 15) (L' := [(1, .int R_1), (0, .ref 120)]) (Ps := []) (rest := []) hq (z_at.mk 3 rfl rfl) (Or.inl ⟨rfl, rfl⟩) rfl rfl (by decide) (by decide) rfl (Nat.not_lt.mpr (Nat.le_of_ble_eq_true rfl)) rfl rfl (z_cat_le 0 rfl (by decide)) (z_lgl_le 1 rfl (by decide)) (by decide) (H_8.tg rfl) (by omega) (g_ta_range_ok H_8 h_12) rfl rfl ?_
  intro R_12 m_12 p_12 e_12 hR_12 H_12
  subst e_12
  refine r_p hq 2 (pc' := 17) (L' := [(2, .int R_12), (1, .int R_1), (0, .ref 120)]) (st' := [.ref 120]) rfl ?_
  obtain ⟨o_17, h_17, h⟩ := Option.bind_eq_some_iff.mp h
  refine r_cvI (pc' := 20) (L' := [(2, .int R_12), (1, .int R_1), (0, .ref 120)]) (Ps := []) (rest := []) hq (z_at.mk 3 rfl rfl) (Or.inl ⟨rfl, rfl⟩) rfl rfl (by decide) (by decide) rfl (Nat.not_lt.mpr (Nat.le_of_ble_eq_true rfl)) rfl rfl (z_cat_le 0 rfl (by decide)) (z_lgl_le 1 rfl (by decide)) (by decide) (H_12.tg rfl) (by omega) (g_ta_isSound_ok H_12 h_17) rfl rfl ?_
  intro R_17 m_17 p_17 e_17 hR_17 H_17
  subst e_17
  rcases z_ite h with ⟨c_20, h⟩ | ⟨c_20, h⟩
  · refine r_t1 (pc' := 45) (L' := [(2, .int R_12), (1, .int R_1), (0, .ref 120)]) hq (z_at.mk 3 rfl rfl) rfl hR_17 c_20 rfl rfl ?_
    refine r_p hq 1 (pc' := 46) (L' := []) (st' := [.int ((-1 : Int32))]) rfl ?_
    cases h
    exact r_ri hq (z_at.mk 1 rfl rfl) rfl rfl (rfl : (-1 : Int32).toInt = -1) rfl H_17
  · refine r_f1 (pc' := 23) (L' := [(2, .int R_12), (1, .int R_1), (0, .ref 120)]) hq (z_at.mk 3 rfl rfl) rfl hR_17 c_20 rfl rfl ?_
    refine r_p hq 2 (pc' := 26) (L' := [(2, .int R_12), (1, .int R_1), (0, .ref 120)]) (st' := [.int ((32 : Int32)), .int R_1]) rfl ?_
    refine r_idiv (pc' := 27) (L' := [(2, .int R_12), (1, .int R_1), (0, .ref 120)]) hq (z_at.mk 1 rfl rfl) hR_1 (rfl : (32 : Int32).toInt = 32) (by decide) rfl rfl ?_
    intro V_26 hV_26
    refine r_p hq 2 (pc' := 30) (L' := [(2, .int R_12), (1, .int R_1), (0, .ref 120)]) (st' := [.int ((32 : Int32)), .int R_1, .int V_26]) rfl ?_
    refine r_irem (pc' := 31) (L' := [(2, .int R_12), (1, .int R_1), (0, .ref 120)]) hq (z_at.mk 1 rfl rfl) hR_1 (rfl : (32 : Int32).toInt = 32) (by decide) rfl rfl ?_
    intro V_30 hV_30
    refine r_p hq 2 (pc' := 34) (L' := [(2, .int R_12), (1, .int R_1), (0, .ref 120)]) (st' := [.int ((32 : Int32)), .int R_12, .int V_30, .int V_26]) rfl ?_
    refine r_idiv (pc' := 35) (L' := [(2, .int R_12), (1, .int R_1), (0, .ref 120)]) hq (z_at.mk 1 rfl rfl) hR_12 (rfl : (32 : Int32).toInt = 32) (by decide) rfl rfl ?_
    intro V_34 hV_34
    refine r_p hq 2 (pc' := 38) (L' := [(2, .int R_12), (1, .int R_1), (0, .ref 120)]) (st' := [.int ((32 : Int32)), .int R_12, .int V_34, .int V_30, .int V_26]) rfl ?_
    refine r_irem (pc' := 39) (L' := [(2, .int R_12), (1, .int R_1), (0, .ref 120)]) hq (z_at.mk 1 rfl rfl) hR_12 (rfl : (32 : Int32).toInt = 32) (by decide) rfl rfl ?_
    intro V_38 hV_38
    obtain ⟨o_39, h_39, h⟩ := Option.bind_eq_some_iff.mp h
    refine r_csI (pc' := 42) (L' := [(2, .int R_12), (1, .int R_1), (0, .ref 120)]) (As := [.int V_26, .int V_30, .int V_34, .int V_38]) (rest := []) (j := 2) hq (z_at.mk 3 rfl rfl) (Or.inl ⟨rfl, rfl⟩) rfl rfl (by omega) (g_b_of_ok hV_26 hV_30 hV_34 hV_38 H_17 h_39) rfl rfl ?_
    intro R_39 m_39 p_39 e_39 hR_39 H_39
    subst e_39
    refine r_p hq 1 (pc' := 46) (L' := []) (st' := [.int R_39]) rfl ?_
    cases h
    exact r_ri hq (z_at.mk 1 rfl rfl) rfl rfl hR_39 rfl H_39
def g_qu_readParts_L91 (g9 : Int → Int → zS → Option (Unit × zS)) (x2 : Int) (xs0 : Int) (σ : zS) : Option (Unit × zS) :=
  (g_ta_another xs0 σ).bind fun o_91 =>
  g9 o_91.1 (w32 (x2 + 1)) o_91.2
set_option maxHeartbeats 4000000 in
theorem g_qu_readParts_L91_ok {xl : Nat} {xs : Nat → Int32} {g9 : Int → Int → zS → Option (Unit × zS)} (hg9 : ∀ {X1 : Int32} {x1 : Int} {X2 : Int32} {x2 : Int} {σ : zS} {p : Nat} {m : zM} {o : Unit × zS}, X1.toInt = x1 → X2.toInt = x2 → zRep xl xs p m σ → g9 x1 x2 σ = some o → zGo xl xs (fun p' => p = p') 508 66 9 [(0, .ref 122), (1, .int X1), (2, .int X2)] [] m vV o.2) {X2 : Int32} {x2 : Int} (hx2 : X2.toInt = x2) {Xs0 : Int32} {xs0 : Int} (hxs0 : Xs0.toInt = xs0) {σ : zS} {p : Nat} {m : zM} {o : Unit × zS} (H : zRep xl xs p m σ) (h : g_qu_readParts_L91 g9 x2 xs0 σ = some o) : zGo xl xs (fun p' => p = p') 508 66 91 [(0, .ref 122), (2, .int X2)] [.int Xs0, .ref 120] m vV o.2 := by
  have hq : z_mth 66 = some z_r66 := rfl
  unfold g_qu_readParts_L91 at h
  obtain ⟨o_91, h_91, h⟩ := Option.bind_eq_some_iff.mp h
  refine r_cvI (pc' := 94) (L' := [(0, .ref 122), (2, .int X2)]) (Ps := [.int Xs0]) (rest := []) hq (z_at.mk 3 rfl rfl) (Or.inl ⟨rfl, rfl⟩) rfl rfl (by decide) (by decide) rfl (Nat.not_lt.mpr (Nat.le_of_ble_eq_true rfl)) rfl rfl (z_cat_le 0 rfl (by decide)) (z_lgl_le 2 rfl (by decide)) (by decide) (H.tg rfl) (by omega) (g_ta_another_ok hxs0 H h_91) rfl rfl ?_
  intro R_91 m_91 p_91 e_91 hR_91 H_91
  subst e_91
  refine r_p hq 3 (pc' := 9) (L' := [(0, .ref 122), (1, .int R_91), (2, .int (X2 + (1 : Int32)))]) (st' := []) rfl ?_
  exact hg9 hR_91 (tx_iadd hx2 (rfl : (1 : Int32).toInt = 1)) H_91 h
def g_qu_readParts_L9 : Nat → Int → Int → zS → Option (Unit × zS)
  | 0, _, _, _ => none
  | n + 1, x1, x2, σ =>
    if x1 = 0 then
      some ((), σ)
    else
      if 8 ≤ x2 then
        some ((), σ)
      else
        (g_ta_word 4 σ).bind fun o_30 =>
        if 0 ≤ x2 ∧ x2 < 8 then
        let s_33 := zu o_30.2 123 x2 o_30.1
        (g_ta_wants 32 s_33).bind fun o_40 =>
        (g_ta_ranges o_40.2).bind fun o_52 =>
        if 0 ≤ x2 ∧ x2 < 8 then
        let s_55 := zu o_52.2 124 x2 o_52.1
        (g_qu_readIf s_55).bind fun o_62 =>
        if 0 ≤ x2 ∧ x2 < 8 then
        let s_65 := zu o_62.2 125 x2 o_62.1
        let s_70 := zu s_65 122 5 (w32 (x2 + 1))
        let v_78 := s_70 122 5
        if 8 ≤ v_78 then
          g_qu_readParts_L91 ((g_qu_readParts_L9 n)) x2 0 s_70
        else
          g_qu_readParts_L91 ((g_qu_readParts_L9 n)) x2 1 s_70
        else none
        else none
        else none
set_option maxHeartbeats 4000000 in
theorem g_qu_readParts_L9_ok {xl : Nat} {xs : Nat → Int32} : ∀ (n : Nat) {X1 : Int32} {x1 : Int} {X2 : Int32} {x2 : Int} {σ : zS} {p : Nat} {m : zM} {o : Unit × zS}, X1.toInt = x1 → X2.toInt = x2 → zRep xl xs p m σ → g_qu_readParts_L9 n x1 x2 σ = some o → zGo xl xs (fun p' => p = p') 508 66 9 [(0, .ref 122), (1, .int X1), (2, .int X2)] [] m vV o.2
  | 0, _, _, _, _, _, _, _, _, _, _, _, h => by cases h
  | n + 1, X1, x1, X2, x2, σ, p, m, o, hx1, hx2, H, h => by
    have hq : z_mth 66 = some z_r66 := rfl
    have ih := fun {X1 : Int32} {x1 : Int} {X2 : Int32} {x2 : Int} {σ : zS} {p : Nat} {m : zM} {o : Unit × zS} => g_qu_readParts_L9_ok (xl := xl) (xs := xs) n (X1 := X1) (x1 := x1) (X2 := X2) (x2 := x2) (σ := σ) (p := p) (m := m) (o := o)
    unfold g_qu_readParts_L9 at h
    refine r_p hq 1 (pc' := 10) (L' := [(0, .ref 122), (1, .int X1), (2, .int X2)]) (st' := [.int X1]) rfl ?_
    rcases z_ite h with ⟨c_10, h⟩ | ⟨c_10, h⟩
    · refine r_t1 (pc' := 101) (L' := []) hq (z_at.mk 3 rfl rfl) rfl hx1 c_10 rfl rfl ?_
      cases h
      exact r_rv hq (z_at.mk 1 rfl rfl) rfl rfl H
    · refine r_f1 (pc' := 13) (L' := [(0, .ref 122), (1, .int X1), (2, .int X2)]) hq (z_at.mk 3 rfl rfl) rfl hx1 c_10 rfl rfl ?_
      refine r_p hq 2 (pc' := 16) (L' := [(0, .ref 122), (1, .int X1), (2, .int X2)]) (st' := [.int ((8 : Int32)), .int X2]) rfl ?_
      rcases z_ite h with ⟨c_16, h⟩ | ⟨c_16, h⟩
      · refine r_t2 (pc' := 101) (L' := []) hq (z_at.mk 3 rfl rfl) rfl hx2 (rfl : (8 : Int32).toInt = 8) c_16 rfl rfl ?_
        cases h
        exact r_rv hq (z_at.mk 1 rfl rfl) rfl rfl H
      · refine r_f2 (pc' := 19) (L' := [(0, .ref 122), (1, .int X1), (2, .int X2)]) hq (z_at.mk 3 rfl rfl) rfl hx2 (rfl : (8 : Int32).toInt = 8) c_16 rfl rfl ?_
        refine r_p hq 1 (pc' := 20) (L' := [(0, .ref 122), (1, .int X1), (2, .int X2)]) (st' := [.ref 122]) rfl ?_
        refine r_gR (b := 123) (pc' := 23) (L' := [(0, .ref 122), (1, .int X1), (2, .int X2)]) H hq (z_at.mk 3 rfl rfl) rfl rfl rfl rfl ?_
        refine r_p hq 2 (pc' := 25) (L' := [(0, .ref 122), (1, .int X1), (2, .int X2)]) (st' := [.ref 122, .int X2, .ref 123]) rfl ?_
        refine r_gR (b := 120) (pc' := 28) (L' := [(0, .ref 122), (1, .int X1), (2, .int X2)]) H hq (z_at.mk 3 rfl rfl) rfl rfl rfl rfl ?_
        refine r_p hq 1 (pc' := 30) (L' := [(0, .ref 122), (1, .int X1), (2, .int X2)]) (st' := [.ref 4, .ref 120, .int X2, .ref 123]) rfl ?_
        obtain ⟨o_30, h_30, h⟩ := Option.bind_eq_some_iff.mp h
        refine r_cvI (pc' := 33) (L' := [(0, .ref 122), (1, .int X1), (2, .int X2)]) (Ps := [.ref 4]) (rest := [.int X2, .ref 123]) hq (z_at.mk 3 rfl rfl) (Or.inl ⟨rfl, rfl⟩) rfl rfl (by decide) (by decide) rfl (Nat.not_lt.mpr (Nat.le_of_ble_eq_true rfl)) rfl rfl (z_cat_le 2 rfl (by decide)) (z_lgl_le 2 rfl (by decide)) (by decide) (H.tg rfl) (by omega) (g_ta_word_ok rfl H h_30) rfl rfl ?_
        intro R_30 m_30 p_30 e_30 hR_30 H_30
        subst e_30
        obtain ⟨g_33, h⟩ := z_ifo_some h
        refine r_is (pc' := 34) (L' := [(0, .ref 122), (1, .int X1), (2, .int X2)]) H_30 hq (z_at.mk 1 rfl rfl) (show zAr 123 0 8 = true from rfl) hx2 g_33 hR_30 rfl rfl ?_
        intro m_33 H_33
        refine r_p hq 1 (pc' := 35) (L' := [(0, .ref 122), (1, .int X1), (2, .int X2)]) (st' := [.ref 122]) rfl ?_
        refine r_gR (b := 120) (pc' := 38) (L' := [(0, .ref 122), (1, .int X1), (2, .int X2)]) H_33 hq (z_at.mk 3 rfl rfl) rfl rfl rfl rfl ?_
        refine r_p hq 1 (pc' := 40) (L' := [(0, .ref 122), (1, .int X1), (2, .int X2)]) (st' := [.int ((32 : Int32)), .ref 120]) rfl ?_
        obtain ⟨o_40, h_40, h⟩ := Option.bind_eq_some_iff.mp h
        refine r_cvV (pc' := 43) (L' := [(0, .ref 122), (1, .int X1), (2, .int X2)]) (Ps := [.int ((32 : Int32))]) (rest := []) hq (z_at.mk 3 rfl rfl) (Or.inl ⟨rfl, rfl⟩) rfl rfl (by decide) (by decide) rfl (Nat.not_lt.mpr (Nat.le_of_ble_eq_true rfl)) rfl rfl (z_cat_le 0 rfl (by decide)) (z_lgl_le 2 rfl (by decide)) (by decide) (H_33.tg rfl) (by omega) (g_ta_wants_ok (rfl : (32 : Int32).toInt = 32) H_33 h_40) rfl rfl ?_
        intro m_40 p_40 e_40 H_40
        subst e_40
        refine r_p hq 1 (pc' := 44) (L' := [(0, .ref 122), (1, .int X1), (2, .int X2)]) (st' := [.ref 122]) rfl ?_
        refine r_gR (b := 124) (pc' := 47) (L' := [(0, .ref 122), (1, .int X1), (2, .int X2)]) H_40 hq (z_at.mk 3 rfl rfl) rfl rfl rfl rfl ?_
        refine r_p hq 2 (pc' := 49) (L' := [(0, .ref 122), (1, .int X1), (2, .int X2)]) (st' := [.ref 122, .int X2, .ref 124]) rfl ?_
        refine r_gR (b := 120) (pc' := 52) (L' := [(0, .ref 122), (1, .int X1), (2, .int X2)]) H_40 hq (z_at.mk 3 rfl rfl) rfl rfl rfl rfl ?_
        obtain ⟨o_52, h_52, h⟩ := Option.bind_eq_some_iff.mp h
        refine r_cvI (pc' := 55) (L' := [(0, .ref 122), (1, .int X1), (2, .int X2)]) (Ps := []) (rest := [.int X2, .ref 124]) hq (z_at.mk 3 rfl rfl) (Or.inl ⟨rfl, rfl⟩) rfl rfl (by decide) (by decide) rfl (Nat.not_lt.mpr (Nat.le_of_ble_eq_true rfl)) rfl rfl (z_cat_le 2 rfl (by decide)) (z_lgl_le 1 rfl (by decide)) (by decide) (H_40.tg rfl) (by omega) (g_ta_ranges_ok H_40 h_52) rfl rfl ?_
        intro R_52 m_52 p_52 e_52 hR_52 H_52
        subst e_52
        obtain ⟨g_55, h⟩ := z_ifo_some h
        refine r_is (pc' := 56) (L' := [(0, .ref 122), (1, .int X1), (2, .int X2)]) H_52 hq (z_at.mk 1 rfl rfl) (show zAr 124 0 8 = true from rfl) hx2 g_55 hR_52 rfl rfl ?_
        intro m_55 H_55
        refine r_p hq 1 (pc' := 57) (L' := [(0, .ref 122), (1, .int X1), (2, .int X2)]) (st' := [.ref 122]) rfl ?_
        refine r_gR (b := 125) (pc' := 60) (L' := [(0, .ref 122), (1, .int X1), (2, .int X2)]) H_55 hq (z_at.mk 3 rfl rfl) rfl rfl rfl rfl ?_
        refine r_p hq 2 (pc' := 62) (L' := [(0, .ref 122), (1, .int X1), (2, .int X2)]) (st' := [.ref 122, .int X2, .ref 125]) rfl ?_
        obtain ⟨o_62, h_62, h⟩ := Option.bind_eq_some_iff.mp h
        refine r_cvL (pc' := 65) (L' := [(0, .ref 122), (1, .int X1), (2, .int X2)]) (Ps := []) (rest := [.int X2, .ref 125]) hq (z_at.mk 3 rfl rfl) (Or.inl ⟨rfl, rfl⟩) rfl rfl (by decide) (by decide) rfl (Nat.not_lt.mpr (Nat.le_of_ble_eq_true rfl)) rfl rfl (z_cat_le 2 rfl (by decide)) (z_lgl_le 1 rfl (by decide)) (by decide) (H_55.tg rfl) (by omega) (g_qu_readIf_ok H_55 h_62) rfl rfl ?_
        intro R_62 m_62 p_62 e_62 hR_62 H_62
        subst e_62
        obtain ⟨g_65, h⟩ := z_ifo_some h
        refine r_ls (pc' := 66) (L' := [(0, .ref 122), (1, .int X1), (2, .int X2)]) H_62 hq (z_at.mk 1 rfl rfl) (show zAr 125 1 8 = true from rfl) hx2 g_65 hR_62 rfl rfl ?_
        intro m_65 H_65
        refine r_p hq 4 (pc' := 70) (L' := [(0, .ref 122), (1, .int X1), (2, .int X2)]) (st' := [.int (X2 + ((1 : Int32))), .ref 122]) rfl ?_
        refine r_pI (X := X2 + ((1 : Int32))) (pc' := 73) (L' := [(0, .ref 122), (1, .int X1), (2, .int X2)]) H_65 hq (z_at.mk 3 rfl rfl) rfl rfl (tx_iadd hx2 (rfl : (1 : Int32).toInt = 1)) (by decide) rfl rfl rfl rfl ?_
        intro m_70 H_70
        refine r_p hq 1 (pc' := 74) (L' := [(0, .ref 122), (1, .int X1), (2, .int X2)]) (st' := [.ref 122]) rfl ?_
        refine r_gR (b := 120) (pc' := 77) (L' := [(0, .ref 122), (1, .int X1), (2, .int X2)]) H_70 hq (z_at.mk 3 rfl rfl) rfl rfl rfl rfl ?_
        refine r_p hq 1 (pc' := 78) (L' := [(0, .ref 122), (1, .int X1), (2, .int X2)]) (st' := [.ref 122, .ref 120]) rfl ?_
        refine r_gI (pc' := 81) (L' := [(0, .ref 122), (1, .int X1), (2, .int X2)]) H_70 hq (z_at.mk 3 rfl rfl) rfl rfl rfl rfl ?_
        intro V_78 hV_78
        refine r_p hq 1 (pc' := 83) (L' := [(0, .ref 122), (1, .int X1), (2, .int X2)]) (st' := [.int ((8 : Int32)), .int V_78, .ref 120]) rfl ?_
        rcases z_ite h with ⟨c_83, h⟩ | ⟨c_83, h⟩
        · refine r_t2 (pc' := 90) (L' := [(0, .ref 122), (1, .int X1), (2, .int X2)]) hq (z_at.mk 3 rfl rfl) rfl hV_78 (rfl : (8 : Int32).toInt = 8) c_83 rfl rfl ?_
          refine r_p hq 1 (pc' := 91) (L' := [(0, .ref 122), (2, .int X2)]) (st' := [.int ((0 : Int32)), .ref 120]) rfl ?_
          exact g_qu_readParts_L91_ok ih hx2 (rfl : (0 : Int32).toInt = 0) H_70 h
        · refine r_f2 (pc' := 86) (L' := [(0, .ref 122), (1, .int X1), (2, .int X2)]) hq (z_at.mk 3 rfl rfl) rfl hV_78 (rfl : (8 : Int32).toInt = 8) c_83 rfl rfl ?_
          refine r_p hq 2 (pc' := 91) (L' := [(0, .ref 122), (2, .int X2)]) (st' := [.int ((1 : Int32)), .ref 120]) rfl ?_
          exact g_qu_readParts_L91_ok ih hx2 (rfl : (1 : Int32).toInt = 1) H_70 h
def g_qu_readParts (σ : zS) : Option (Unit × zS) :=
  let s_2 := zu σ 122 5 0
  g_qu_readParts_L9 zK 1 0 s_2
set_option maxHeartbeats 4000000 in
theorem g_qu_readParts_ok {xl : Nat} {xs : Nat → Int32} {σ : zS} {p : Nat} {m : zM} {o : Unit × zS} (H : zRep xl xs p m σ) (h : g_qu_readParts σ = some o) : zGo xl xs (fun p' => p = p') 508 66 0 (z_can 66 0 (lv_args 0 [.ref 122])) [] m vV o.2 := by
  have hq : z_mth 66 = some z_r66 := rfl
  unfold g_qu_readParts at h
  show zGo xl xs (fun p' => p = p') 508 66 0 [(0, .ref 122)] [] m vV o.2
  refine r_p hq 2 (pc' := 2) (L' := [(0, .ref 122)]) (st' := [.int ((0 : Int32)), .ref 122]) rfl ?_
  refine r_pI (X := (0 : Int32)) (pc' := 5) (L' := [(0, .ref 122)]) H hq (z_at.mk 3 rfl rfl) rfl rfl (rfl : (0 : Int32).toInt = 0) (by decide) rfl rfl rfl rfl ?_
  intro m_2 H_2
  refine r_p hq 4 (pc' := 9) (L' := [(0, .ref 122), (1, .int ((1 : Int32))), (2, .int ((0 : Int32)))]) (st' := []) rfl ?_
  exact g_qu_readParts_L9_ok zK (rfl : (1 : Int32).toInt = 1) (rfl : (0 : Int32).toInt = 0) H_2 h
def g_se_become (a0 : Nat) (x1 : Int) (x2 : Int) (σ : zS) : Option (Unit × zS) :=
  if x1 < 0 then
    some ((), σ)
  else
    if 7 ≤ x1 then
      some ((), σ)
    else
      if 0 ≤ x1 ∧ x1 < 7 then
      let s_16 := zu σ (a0 + 1) x1 x2
      some ((), s_16)
      else none
set_option maxHeartbeats 4000000 in
theorem g_se_become_ok {xl : Nat} {xs : Nat → Int32} {a0 : Nat} (ha0 : zIn [49, 82, 107, 118] a0 = true) {X1 : Int32} {x1 : Int} (hx1 : X1.toInt = x1) {X2 : Int32} {x2 : Int} (hx2 : X2.toInt = x2) {σ : zS} {p : Nat} {m : zM} {o : Unit × zS} (H : zRep xl xs p m σ) (h : g_se_become a0 x1 x2 σ = some o) : zGo xl xs (fun p' => p = p') 1 73 0 (z_can 73 0 (lv_args 0 [.ref a0, .int X1, .int X2])) [] m vV o.2 := by
  have hq : z_mth 73 = some z_r73 := rfl
  unfold g_se_become at h
  show zGo xl xs (fun p' => p = p') 1 73 0 [(0, .ref a0), (1, .int X1), (2, .int X2)] [] m vV o.2
  refine r_p hq 1 (pc' := 1) (L' := [(0, .ref a0), (1, .int X1), (2, .int X2)]) (st' := [.int X1]) rfl ?_
  rcases z_ite h with ⟨c_1, h⟩ | ⟨c_1, h⟩
  · refine r_t1 (pc' := 17) (L' := []) hq (z_at.mk 3 rfl rfl) rfl hx1 c_1 rfl rfl ?_
    cases h
    exact r_rv hq (z_at.mk 1 rfl rfl) rfl rfl H
  · refine r_f1 (pc' := 4) (L' := [(0, .ref a0), (1, .int X1), (2, .int X2)]) hq (z_at.mk 3 rfl rfl) rfl hx1 c_1 rfl rfl ?_
    refine r_p hq 2 (pc' := 7) (L' := [(0, .ref a0), (1, .int X1), (2, .int X2)]) (st' := [.int ((7 : Int32)), .int X1]) rfl ?_
    rcases z_ite h with ⟨c_7, h⟩ | ⟨c_7, h⟩
    · refine r_t2 (pc' := 17) (L' := []) hq (z_at.mk 3 rfl rfl) rfl hx1 (rfl : (7 : Int32).toInt = 7) c_7 rfl rfl ?_
      cases h
      exact r_rv hq (z_at.mk 1 rfl rfl) rfl rfl H
    · refine r_f2 (pc' := 10) (L' := [(0, .ref a0), (1, .int X1), (2, .int X2)]) hq (z_at.mk 3 rfl rfl) rfl hx1 (rfl : (7 : Int32).toInt = 7) c_7 rfl rfl ?_
      refine r_p hq 1 (pc' := 11) (L' := [(0, .ref a0), (1, .int X1), (2, .int X2)]) (st' := [.ref a0]) rfl ?_
      refine r_gR (b := a0 + 1) (pc' := 14) (L' := [(0, .ref a0), (1, .int X1), (2, .int X2)]) H hq (z_at.mk 3 rfl rfl) rfl (zIn_all (l := [49, 82, 107, 118]) (p := fun a => zQ a 16 0 (100 + a + 1)) rfl ha0) rfl rfl ?_
      refine r_p hq 2 (pc' := 16) (L' := [(0, .ref a0), (1, .int X1), (2, .int X2)]) (st' := [.int X2, .int X1, .ref (a0 + 1)]) rfl ?_
      obtain ⟨g_16, h⟩ := z_ifo_some h
      refine r_is (pc' := 17) (L' := []) H hq (z_at.mk 1 rfl rfl) (zIn_all (l := [49, 82, 107, 118]) (p := fun a => zAr (a + 1) 0 7) rfl ha0) hx1 g_16 hx2 rfl rfl ?_
      intro m_16 H_16
      cases h
      exact r_rv hq (z_at.mk 1 rfl rfl) rfl rfl H_16
def g_se_readValue (x2 : Int) (σ : zS) : Option (Int × zS) :=
  if x2 = 0 then
    (g_ta_number 2 0 99 σ).bind fun o_49 =>
    some (o_49.1, o_49.2)
  else
  if x2 = 1 then
    (g_ta_number 2 1 99 σ).bind fun o_58 =>
    some (o_58.1, o_58.2)
  else
  if x2 = 2 then
    (g_ta_number 2 1 12 σ).bind fun o_67 =>
    some (o_67.1, o_67.2)
  else
  if x2 = 3 then
    (g_ta_word 2 σ).bind fun o_74 =>
    some (o_74.1, o_74.2)
  else
  if x2 = 6 then
    (g_ta_number 4 1 1024 σ).bind fun o_84 =>
    some (o_84.1, o_84.2)
  else
  (g_ta_word 3 σ).bind fun o_91 =>
  some (o_91.1, o_91.2)
set_option maxHeartbeats 4000000 in
theorem g_se_readValue_ok {xl : Nat} {xs : Nat → Int32} {X2 : Int32} {x2 : Int} (hx2 : X2.toInt = x2) {σ : zS} {p : Nat} {m : zM} {o : Int × zS} (H : zRep xl xs p m σ) (h : g_se_readValue x2 σ = some o) : zGo xl xs (fun p' => p = p') 5 76 0 (z_can 76 0 (lv_args 0 [.ref 118, .ref 120, .int X2])) [] m (vI o.1) o.2 := by
  have hq : z_mth 76 = some z_r76 := rfl
  unfold g_se_readValue at h
  show zGo xl xs (fun p' => p = p') 5 76 0 [(0, .ref 118), (1, .ref 120), (2, .int X2)] [] m (vI o.1) o.2
  refine r_p hq 1 (pc' := 1) (L' := [(0, .ref 118), (1, .ref 120), (2, .int X2)]) (st' := [.int X2]) rfl ?_
  rcases z_ite h with ⟨c_1_0, h⟩ | ⟨c_1_0, h⟩
  · refine r_sw (off := 43) (pc' := 44) (L' := [(0, .ref 118), (1, .ref 120), (2, .int X2)]) hq (z_at.mk 43 rfl rfl) (z_off_v (hx2.trans c_1_0) rfl) rfl rfl rfl ?_
    refine r_p hq 4 (pc' := 49) (L' := [(0, .ref 118), (1, .ref 120), (2, .int X2)]) (st' := [.int ((99 : Int32)), .int ((0 : Int32)), .int ((2 : Int32)), .ref 120]) rfl ?_
    obtain ⟨o_49, h_49, h⟩ := Option.bind_eq_some_iff.mp h
    refine r_cvI (pc' := 52) (L' := [(0, .ref 118), (1, .ref 120), (2, .int X2)]) (Ps := [.int ((2 : Int32)), .int ((0 : Int32)), .int ((99 : Int32))]) (rest := []) hq (z_at.mk 3 rfl rfl) (Or.inl ⟨rfl, rfl⟩) rfl rfl (by decide) (by decide) rfl (Nat.not_lt.mpr (Nat.le_of_ble_eq_true rfl)) rfl rfl (z_cat_le 0 rfl (by decide)) (z_lgl_le 4 rfl (by decide)) (by decide) (H.tg rfl) (by omega) (g_ta_number_ok (rfl : (2 : Int32).toInt = 2) (rfl : (0 : Int32).toInt = 0) (rfl : (99 : Int32).toInt = 99) H h_49) rfl rfl ?_
    intro R_49 m_49 p_49 e_49 hR_49 H_49
    subst e_49
    cases h
    exact r_ri hq (z_at.mk 1 rfl rfl) rfl rfl hR_49 rfl H_49
  rcases z_ite h with ⟨c_1_1, h⟩ | ⟨c_1_1, h⟩
  · refine r_sw (off := 52) (pc' := 53) (L' := [(0, .ref 118), (1, .ref 120), (2, .int X2)]) hq (z_at.mk 43 rfl rfl) (z_off_v (hx2.trans c_1_1) rfl) rfl rfl rfl ?_
    refine r_p hq 4 (pc' := 58) (L' := [(0, .ref 118), (1, .ref 120), (2, .int X2)]) (st' := [.int ((99 : Int32)), .int ((1 : Int32)), .int ((2 : Int32)), .ref 120]) rfl ?_
    obtain ⟨o_58, h_58, h⟩ := Option.bind_eq_some_iff.mp h
    refine r_cvI (pc' := 61) (L' := [(0, .ref 118), (1, .ref 120), (2, .int X2)]) (Ps := [.int ((2 : Int32)), .int ((1 : Int32)), .int ((99 : Int32))]) (rest := []) hq (z_at.mk 3 rfl rfl) (Or.inl ⟨rfl, rfl⟩) rfl rfl (by decide) (by decide) rfl (Nat.not_lt.mpr (Nat.le_of_ble_eq_true rfl)) rfl rfl (z_cat_le 0 rfl (by decide)) (z_lgl_le 4 rfl (by decide)) (by decide) (H.tg rfl) (by omega) (g_ta_number_ok (rfl : (2 : Int32).toInt = 2) (rfl : (1 : Int32).toInt = 1) (rfl : (99 : Int32).toInt = 99) H h_58) rfl rfl ?_
    intro R_58 m_58 p_58 e_58 hR_58 H_58
    subst e_58
    cases h
    exact r_ri hq (z_at.mk 1 rfl rfl) rfl rfl hR_58 rfl H_58
  rcases z_ite h with ⟨c_1_2, h⟩ | ⟨c_1_2, h⟩
  · refine r_sw (off := 61) (pc' := 62) (L' := [(0, .ref 118), (1, .ref 120), (2, .int X2)]) hq (z_at.mk 43 rfl rfl) (z_off_v (hx2.trans c_1_2) rfl) rfl rfl rfl ?_
    refine r_p hq 4 (pc' := 67) (L' := [(0, .ref 118), (1, .ref 120), (2, .int X2)]) (st' := [.int ((12 : Int32)), .int ((1 : Int32)), .int ((2 : Int32)), .ref 120]) rfl ?_
    obtain ⟨o_67, h_67, h⟩ := Option.bind_eq_some_iff.mp h
    refine r_cvI (pc' := 70) (L' := [(0, .ref 118), (1, .ref 120), (2, .int X2)]) (Ps := [.int ((2 : Int32)), .int ((1 : Int32)), .int ((12 : Int32))]) (rest := []) hq (z_at.mk 3 rfl rfl) (Or.inl ⟨rfl, rfl⟩) rfl rfl (by decide) (by decide) rfl (Nat.not_lt.mpr (Nat.le_of_ble_eq_true rfl)) rfl rfl (z_cat_le 0 rfl (by decide)) (z_lgl_le 4 rfl (by decide)) (by decide) (H.tg rfl) (by omega) (g_ta_number_ok (rfl : (2 : Int32).toInt = 2) (rfl : (1 : Int32).toInt = 1) (rfl : (12 : Int32).toInt = 12) H h_67) rfl rfl ?_
    intro R_67 m_67 p_67 e_67 hR_67 H_67
    subst e_67
    cases h
    exact r_ri hq (z_at.mk 1 rfl rfl) rfl rfl hR_67 rfl H_67
  rcases z_ite h with ⟨c_1_3, h⟩ | ⟨c_1_3, h⟩
  · refine r_sw (off := 70) (pc' := 71) (L' := [(0, .ref 118), (1, .ref 120), (2, .int X2)]) hq (z_at.mk 43 rfl rfl) (z_off_v (hx2.trans c_1_3) rfl) rfl rfl rfl ?_
    refine r_p hq 2 (pc' := 74) (L' := [(0, .ref 118), (1, .ref 120), (2, .int X2)]) (st' := [.ref 2, .ref 120]) rfl ?_
    obtain ⟨o_74, h_74, h⟩ := Option.bind_eq_some_iff.mp h
    refine r_cvI (pc' := 77) (L' := [(0, .ref 118), (1, .ref 120), (2, .int X2)]) (Ps := [.ref 2]) (rest := []) hq (z_at.mk 3 rfl rfl) (Or.inl ⟨rfl, rfl⟩) rfl rfl (by decide) (by decide) rfl (Nat.not_lt.mpr (Nat.le_of_ble_eq_true rfl)) rfl rfl (z_cat_le 0 rfl (by decide)) (z_lgl_le 2 rfl (by decide)) (by decide) (H.tg rfl) (by omega) (g_ta_word_ok rfl H h_74) rfl rfl ?_
    intro R_74 m_74 p_74 e_74 hR_74 H_74
    subst e_74
    cases h
    exact r_ri hq (z_at.mk 1 rfl rfl) rfl rfl hR_74 rfl H_74
  rcases z_ite h with ⟨c_1_6, h⟩ | ⟨c_1_6, h⟩
  · refine r_sw (off := 77) (pc' := 78) (L' := [(0, .ref 118), (1, .ref 120), (2, .int X2)]) hq (z_at.mk 43 rfl rfl) (z_off_v (hx2.trans c_1_6) rfl) rfl rfl rfl ?_
    refine r_p hq 4 (pc' := 84) (L' := [(0, .ref 118), (1, .ref 120), (2, .int X2)]) (st' := [.int ((1024 : Int32)), .int ((1 : Int32)), .int ((4 : Int32)), .ref 120]) rfl ?_
    obtain ⟨o_84, h_84, h⟩ := Option.bind_eq_some_iff.mp h
    refine r_cvI (pc' := 87) (L' := [(0, .ref 118), (1, .ref 120), (2, .int X2)]) (Ps := [.int ((4 : Int32)), .int ((1 : Int32)), .int ((1024 : Int32))]) (rest := []) hq (z_at.mk 3 rfl rfl) (Or.inl ⟨rfl, rfl⟩) rfl rfl (by decide) (by decide) rfl (Nat.not_lt.mpr (Nat.le_of_ble_eq_true rfl)) rfl rfl (z_cat_le 0 rfl (by decide)) (z_lgl_le 4 rfl (by decide)) (by decide) (H.tg rfl) (by omega) (g_ta_number_ok (rfl : (4 : Int32).toInt = 4) (rfl : (1 : Int32).toInt = 1) (rfl : (1024 : Int32).toInt = 1024) H h_84) rfl rfl ?_
    intro R_84 m_84 p_84 e_84 hR_84 H_84
    subst e_84
    cases h
    exact r_ri hq (z_at.mk 1 rfl rfl) rfl rfl hR_84 rfl H_84
  have hx_1 : X2.toInt = x2 := hx2
  refine r_sw (off := 87) (pc' := 88) (L' := [(0, .ref 118), (1, .ref 120), (2, .int X2)]) hq (z_at.mk 43 rfl rfl) (z_off_df [0, 1, 2, 3, 6] (by intro z hz; simp only [List.mem_cons, List.not_mem_nil, or_false] at hz; omega) (by decide)) rfl rfl rfl ?_
  refine r_p hq 2 (pc' := 91) (L' := [(0, .ref 118), (1, .ref 120), (2, .int X2)]) (st' := [.ref 3, .ref 120]) rfl ?_
  obtain ⟨o_91, h_91, h⟩ := Option.bind_eq_some_iff.mp h
  refine r_cvI (pc' := 94) (L' := [(0, .ref 118), (1, .ref 120), (2, .int X2)]) (Ps := [.ref 3]) (rest := []) hq (z_at.mk 3 rfl rfl) (Or.inl ⟨rfl, rfl⟩) rfl rfl (by decide) (by decide) rfl (Nat.not_lt.mpr (Nat.le_of_ble_eq_true rfl)) rfl rfl (z_cat_le 0 rfl (by decide)) (z_lgl_le 2 rfl (by decide)) (by decide) (H.tg rfl) (by omega) (g_ta_word_ok rfl H h_91) rfl rfl ?_
  intro R_91 m_91 p_91 e_91 hR_91 H_91
  subst e_91
  cases h
  exact r_ri hq (z_at.mk 1 rfl rfl) rfl rfl hR_91 rfl H_91
def g_se_readParts_L4 : Nat → Int → Int → zS → Option (Int × zS)
  | 0, _, _, _ => none
  | n + 1, x2, x3, σ =>
    if x3 = 0 then
      some (x2, σ)
    else
      if 160 ≤ x2 then
        some (x2, σ)
      else
        (g_ta_word 1 σ).bind fun o_18 =>
        (g_ta_wants 32 o_18.2).bind fun o_26 =>
        (g_se_readValue o_18.1 o_26.2).bind fun o_36 =>
        (g_se_become 118 o_18.1 o_36.1 o_36.2).bind fun o_39 =>
        (g_ta_another 1 o_39.2).bind fun o_44 =>
        (g_se_readParts_L4 n) (w32 (x2 + 1)) o_44.1 o_44.2
set_option maxHeartbeats 4000000 in
theorem g_se_readParts_L4_ok {xl : Nat} {xs : Nat → Int32} : ∀ (n : Nat) {X2 : Int32} {x2 : Int} {X3 : Int32} {x3 : Int} {σ : zS} {p : Nat} {m : zM} {o : Int × zS}, X2.toInt = x2 → X3.toInt = x3 → zRep xl xs p m σ → g_se_readParts_L4 n x2 x3 σ = some o → zGo xl xs (fun p' => p = p') 6 75 4 [(0, .ref 118), (1, .ref 120), (2, .int X2), (3, .int X3)] [] m (vI o.1) o.2
  | 0, _, _, _, _, _, _, _, _, _, _, _, h => by cases h
  | n + 1, X2, x2, X3, x3, σ, p, m, o, hx2, hx3, H, h => by
    have hq : z_mth 75 = some z_r75 := rfl
    have ih := fun {X2 : Int32} {x2 : Int} {X3 : Int32} {x3 : Int} {σ : zS} {p : Nat} {m : zM} {o : Int × zS} => g_se_readParts_L4_ok (xl := xl) (xs := xs) n (X2 := X2) (x2 := x2) (X3 := X3) (x3 := x3) (σ := σ) (p := p) (m := m) (o := o)
    unfold g_se_readParts_L4 at h
    refine r_p hq 1 (pc' := 5) (L' := [(0, .ref 118), (1, .ref 120), (2, .int X2), (3, .int X3)]) (st' := [.int X3]) rfl ?_
    rcases z_ite h with ⟨c_5, h⟩ | ⟨c_5, h⟩
    · refine r_t1 (pc' := 54) (L' := [(2, .int X2)]) hq (z_at.mk 3 rfl rfl) rfl hx3 c_5 rfl rfl ?_
      refine r_p hq 1 (pc' := 55) (L' := [(2, .int X2)]) (st' := [.int X2]) rfl ?_
      cases h
      exact r_ri hq (z_at.mk 1 rfl rfl) rfl rfl hx2 rfl H
    · refine r_f1 (pc' := 8) (L' := [(0, .ref 118), (1, .ref 120), (2, .int X2), (3, .int X3)]) hq (z_at.mk 3 rfl rfl) rfl hx3 c_5 rfl rfl ?_
      refine r_p hq 2 (pc' := 12) (L' := [(0, .ref 118), (1, .ref 120), (2, .int X2), (3, .int X3)]) (st' := [.int ((160 : Int32)), .int X2]) rfl ?_
      rcases z_ite h with ⟨c_12, h⟩ | ⟨c_12, h⟩
      · refine r_t2 (pc' := 54) (L' := [(2, .int X2)]) hq (z_at.mk 3 rfl rfl) rfl hx2 (rfl : (160 : Int32).toInt = 160) c_12 rfl rfl ?_
        refine r_p hq 1 (pc' := 55) (L' := [(2, .int X2)]) (st' := [.int X2]) rfl ?_
        cases h
        exact r_ri hq (z_at.mk 1 rfl rfl) rfl rfl hx2 rfl H
      · refine r_f2 (pc' := 15) (L' := [(0, .ref 118), (1, .ref 120), (2, .int X2), (3, .int X3)]) hq (z_at.mk 3 rfl rfl) rfl hx2 (rfl : (160 : Int32).toInt = 160) c_12 rfl rfl ?_
        refine r_p hq 2 (pc' := 18) (L' := [(0, .ref 118), (1, .ref 120), (2, .int X2), (3, .int X3)]) (st' := [.ref 1, .ref 120]) rfl ?_
        obtain ⟨o_18, h_18, h⟩ := Option.bind_eq_some_iff.mp h
        refine r_cvI (pc' := 21) (L' := [(0, .ref 118), (1, .ref 120), (2, .int X2), (3, .int X3)]) (Ps := [.ref 1]) (rest := []) hq (z_at.mk 3 rfl rfl) (Or.inl ⟨rfl, rfl⟩) rfl rfl (by decide) (by decide) rfl (Nat.not_lt.mpr (Nat.le_of_ble_eq_true rfl)) rfl rfl (z_cat_le 0 rfl (by decide)) (z_lgl_le 2 rfl (by decide)) (by decide) (H.tg rfl) (by omega) (g_ta_word_ok rfl H h_18) rfl rfl ?_
        intro R_18 m_18 p_18 e_18 hR_18 H_18
        subst e_18
        refine r_p hq 3 (pc' := 26) (L' := [(4, .int R_18), (0, .ref 118), (1, .ref 120), (2, .int X2), (3, .int X3)]) (st' := [.int ((32 : Int32)), .ref 120]) rfl ?_
        obtain ⟨o_26, h_26, h⟩ := Option.bind_eq_some_iff.mp h
        refine r_cvV (pc' := 29) (L' := [(4, .int R_18), (0, .ref 118), (1, .ref 120), (2, .int X2), (3, .int X3)]) (Ps := [.int ((32 : Int32))]) (rest := []) hq (z_at.mk 3 rfl rfl) (Or.inl ⟨rfl, rfl⟩) rfl rfl (by decide) (by decide) rfl (Nat.not_lt.mpr (Nat.le_of_ble_eq_true rfl)) rfl rfl (z_cat_le 0 rfl (by decide)) (z_lgl_le 2 rfl (by decide)) (by decide) (H_18.tg rfl) (by omega) (g_ta_wants_ok (rfl : (32 : Int32).toInt = 32) H_18 h_26) rfl rfl ?_
        intro m_26 p_26 e_26 H_26
        subst e_26
        refine r_p hq 5 (pc' := 36) (L' := [(4, .int R_18), (0, .ref 118), (1, .ref 120), (2, .int X2), (3, .int X3)]) (st' := [.int R_18, .ref 120, .ref 118, .int R_18, .ref 118]) rfl ?_
        obtain ⟨o_36, h_36, h⟩ := Option.bind_eq_some_iff.mp h
        refine r_cvI (pc' := 39) (L' := [(4, .int R_18), (0, .ref 118), (1, .ref 120), (2, .int X2), (3, .int X3)]) (Ps := [.ref 120, .int R_18]) (rest := [.int R_18, .ref 118]) hq (z_at.mk 3 rfl rfl) (Or.inl ⟨rfl, rfl⟩) rfl rfl (by decide) (by decide) rfl (Nat.not_lt.mpr (Nat.le_of_ble_eq_true rfl)) rfl rfl (z_cat_le 2 rfl (by decide)) (z_lgl_le 3 rfl (by decide)) (by decide) (H_26.tg rfl) (by omega) (g_se_readValue_ok hR_18 H_26 h_36) rfl rfl ?_
        intro R_36 m_36 p_36 e_36 hR_36 H_36
        subst e_36
        obtain ⟨o_39, h_39, h⟩ := Option.bind_eq_some_iff.mp h
        refine r_cvV (pc' := 42) (L' := [(4, .int R_18), (0, .ref 118), (1, .ref 120), (2, .int X2), (3, .int X3)]) (Ps := [.int R_18, .int R_36]) (rest := []) hq (z_at.mk 3 rfl rfl) (Or.inl ⟨rfl, rfl⟩) rfl rfl (by decide) (by decide) rfl (Nat.not_lt.mpr (Nat.le_of_ble_eq_true rfl)) rfl rfl (z_cat_le 0 rfl (by decide)) (z_lgl_le 3 rfl (by decide)) (by decide) (H_36.tg rfl) (by omega) (g_se_become_ok rfl hR_18 hR_36 H_36 h_39) rfl rfl ?_
        intro m_39 p_39 e_39 H_39
        subst e_39
        refine r_p hq 2 (pc' := 44) (L' := [(4, .int R_18), (0, .ref 118), (1, .ref 120), (2, .int X2), (3, .int X3)]) (st' := [.int ((1 : Int32)), .ref 120]) rfl ?_
        obtain ⟨o_44, h_44, h⟩ := Option.bind_eq_some_iff.mp h
        refine r_cvI (pc' := 47) (L' := [(4, .int R_18), (0, .ref 118), (1, .ref 120), (2, .int X2), (3, .int X3)]) (Ps := [.int ((1 : Int32))]) (rest := []) hq (z_at.mk 3 rfl rfl) (Or.inl ⟨rfl, rfl⟩) rfl rfl (by decide) (by decide) rfl (Nat.not_lt.mpr (Nat.le_of_ble_eq_true rfl)) rfl rfl (z_cat_le 0 rfl (by decide)) (z_lgl_le 2 rfl (by decide)) (by decide) (H_39.tg rfl) (by omega) (g_ta_another_ok (rfl : (1 : Int32).toInt = 1) H_39 h_44) rfl rfl ?_
        intro R_44 m_44 p_44 e_44 hR_44 H_44
        subst e_44
        refine r_p hq 3 (pc' := 4) (L' := [(0, .ref 118), (1, .ref 120), (2, .int (X2 + (1 : Int32))), (3, .int R_44)]) (st' := []) rfl ?_
        exact ih (tx_iadd hx2 (rfl : (1 : Int32).toInt = 1)) hR_44 H_44 h
def g_se_readParts (σ : zS) : Option (Int × zS) :=
  g_se_readParts_L4 zK 0 1 σ
set_option maxHeartbeats 4000000 in
theorem g_se_readParts_ok {xl : Nat} {xs : Nat → Int32} {σ : zS} {p : Nat} {m : zM} {o : Int × zS} (H : zRep xl xs p m σ) (h : g_se_readParts σ = some o) : zGo xl xs (fun p' => p = p') 6 75 0 (z_can 75 0 (lv_args 0 [.ref 118, .ref 120])) [] m (vI o.1) o.2 := by
  have hq : z_mth 75 = some z_r75 := rfl
  unfold g_se_readParts at h
  show zGo xl xs (fun p' => p = p') 6 75 0 [(0, .ref 118), (1, .ref 120)] [] m (vI o.1) o.2
  refine r_p hq 4 (pc' := 4) (L' := [(0, .ref 118), (1, .ref 120), (2, .int ((0 : Int32))), (3, .int ((1 : Int32)))]) (st' := []) rfl ?_
  exact g_se_readParts_L4_ok zK (rfl : (0 : Int32).toInt = 0) (rfl : (1 : Int32).toInt = 1) H h
def g_wa_copyFrom (a0 : Nat) (a1 : Nat) (σ : zS) : Option (Unit × zS) :=
  let s_12 := zcp σ (a1 + 1) 0 (a0 + 1) 0 6
  let s_27 := zcp s_12 (a1 + 2) 0 (a0 + 2) 0 6
  let s_42 := zcp s_27 (a1 + 3) 0 (a0 + 3) 0 6
  let v_47 := s_42 a1 5
  let s_50 := zu s_42 a0 5 v_47
  some ((), s_50)
set_option maxHeartbeats 4000000 in
theorem g_wa_copyFrom_ok {xl : Nat} {xs : Nat → Int32} {a0 : Nat} (ha0 : zIn [65, 98] a0 = true) {a1 : Nat} (ha1 : zIn [65, 98] a1 = true) {σ : zS} {p : Nat} {m : zM} {o : Unit × zS} (H : zRep xl xs p m σ) (h : g_wa_copyFrom a0 a1 σ = some o) : zGo xl xs (fun p' => p = p') 1 113 0 (z_can 113 0 (lv_args 0 [.ref a0, .ref a1])) [] m vV o.2 := by
  have hq : z_mth 113 = some z_r113 := rfl
  unfold g_wa_copyFrom at h
  show zGo xl xs (fun p' => p = p') 1 113 0 [(0, .ref a0), (1, .ref a1)] [] m vV o.2
  refine r_p hq 1 (pc' := 1) (L' := [(0, .ref a0), (1, .ref a1)]) (st' := [.ref a1]) rfl ?_
  refine r_gR (b := a1 + 1) (pc' := 4) (L' := [(0, .ref a0), (1, .ref a1)]) H hq (z_at.mk 3 rfl rfl) rfl (zIn_all (l := [65, 98]) (p := fun a => zQ a 20 0 (100 + a + 1)) rfl ha1) rfl rfl ?_
  refine r_p hq 2 (pc' := 6) (L' := [(0, .ref a0), (1, .ref a1)]) (st' := [.ref a0, .int ((0 : Int32)), .ref (a1 + 1)]) rfl ?_
  refine r_gR (b := a0 + 1) (pc' := 9) (L' := [(0, .ref a0), (1, .ref a1)]) H hq (z_at.mk 3 rfl rfl) rfl (zIn_all (l := [65, 98]) (p := fun a => zQ a 20 0 (100 + a + 1)) rfl ha0) rfl rfl ?_
  refine r_p hq 2 (pc' := 12) (L' := [(0, .ref a0), (1, .ref a1)]) (st' := [.int ((6 : Int32)), .int ((0 : Int32)), .ref (a0 + 1), .int ((0 : Int32)), .ref (a1 + 1)]) rfl ?_
  refine r_cp (t := 0) (pc' := 15) (L' := [(0, .ref a0), (1, .ref a1)]) H hq (z_at.mk 3 rfl rfl) rfl (by decide) (by decide) (zIn_all (l := [65, 98]) (p := fun a => zAr (a + 1) 0 6) rfl ha1) (zIn_all (l := [65, 98]) (p := fun a => zAr (a + 1) 0 6) rfl ha0) (rfl : (0 : Int32).toInt = 0) (rfl : (0 : Int32).toInt = 0) (rfl : (6 : Int32).toInt = 6) (by decide) rfl rfl ?_
  intro m_12 H_12
  refine r_p hq 1 (pc' := 16) (L' := [(0, .ref a0), (1, .ref a1)]) (st' := [.ref a1]) rfl ?_
  refine r_gR (b := a1 + 2) (pc' := 19) (L' := [(0, .ref a0), (1, .ref a1)]) H_12 hq (z_at.mk 3 rfl rfl) rfl (zIn_all (l := [65, 98]) (p := fun a => zQ a 20 1 (100 + a + 2)) rfl ha1) rfl rfl ?_
  refine r_p hq 2 (pc' := 21) (L' := [(0, .ref a0), (1, .ref a1)]) (st' := [.ref a0, .int ((0 : Int32)), .ref (a1 + 2)]) rfl ?_
  refine r_gR (b := a0 + 2) (pc' := 24) (L' := [(0, .ref a0), (1, .ref a1)]) H_12 hq (z_at.mk 3 rfl rfl) rfl (zIn_all (l := [65, 98]) (p := fun a => zQ a 20 1 (100 + a + 2)) rfl ha0) rfl rfl ?_
  refine r_p hq 2 (pc' := 27) (L' := [(0, .ref a0), (1, .ref a1)]) (st' := [.int ((6 : Int32)), .int ((0 : Int32)), .ref (a0 + 2), .int ((0 : Int32)), .ref (a1 + 2)]) rfl ?_
  refine r_cp (t := 0) (pc' := 30) (L' := [(0, .ref a0), (1, .ref a1)]) H_12 hq (z_at.mk 3 rfl rfl) rfl (by decide) (by decide) (zIn_all (l := [65, 98]) (p := fun a => zAr (a + 2) 0 6) rfl ha1) (zIn_all (l := [65, 98]) (p := fun a => zAr (a + 2) 0 6) rfl ha0) (rfl : (0 : Int32).toInt = 0) (rfl : (0 : Int32).toInt = 0) (rfl : (6 : Int32).toInt = 6) (by decide) rfl rfl ?_
  intro m_27 H_27
  refine r_p hq 1 (pc' := 31) (L' := [(0, .ref a0), (1, .ref a1)]) (st' := [.ref a1]) rfl ?_
  refine r_gR (b := a1 + 3) (pc' := 34) (L' := [(0, .ref a0), (1, .ref a1)]) H_27 hq (z_at.mk 3 rfl rfl) rfl (zIn_all (l := [65, 98]) (p := fun a => zQ a 20 2 (100 + a + 3)) rfl ha1) rfl rfl ?_
  refine r_p hq 2 (pc' := 36) (L' := [(0, .ref a0), (1, .ref a1)]) (st' := [.ref a0, .int ((0 : Int32)), .ref (a1 + 3)]) rfl ?_
  refine r_gR (b := a0 + 3) (pc' := 39) (L' := [(0, .ref a0), (1, .ref a1)]) H_27 hq (z_at.mk 3 rfl rfl) rfl (zIn_all (l := [65, 98]) (p := fun a => zQ a 20 2 (100 + a + 3)) rfl ha0) rfl rfl ?_
  refine r_p hq 2 (pc' := 42) (L' := [(0, .ref a0), (1, .ref a1)]) (st' := [.int ((6 : Int32)), .int ((0 : Int32)), .ref (a0 + 3), .int ((0 : Int32)), .ref (a1 + 3)]) rfl ?_
  refine r_cp (t := 0) (pc' := 45) (L' := [(0, .ref a0), (1, .ref a1)]) H_27 hq (z_at.mk 3 rfl rfl) rfl (by decide) (by decide) (zIn_all (l := [65, 98]) (p := fun a => zAr (a + 3) 0 6) rfl ha1) (zIn_all (l := [65, 98]) (p := fun a => zAr (a + 3) 0 6) rfl ha0) (rfl : (0 : Int32).toInt = 0) (rfl : (0 : Int32).toInt = 0) (rfl : (6 : Int32).toInt = 6) (by decide) rfl rfl ?_
  intro m_42 H_42
  refine r_p hq 2 (pc' := 47) (L' := [(0, .ref a0), (1, .ref a1)]) (st' := [.ref a1, .ref a0]) rfl ?_
  refine r_gI (pc' := 50) (L' := [(0, .ref a0), (1, .ref a1)]) H_42 hq (z_at.mk 3 rfl rfl) rfl (zIn_all (l := [65, 98]) (p := fun a => zQ a 20 5 0) rfl ha1) rfl rfl ?_
  intro V_47 hV_47
  refine r_pI (X := V_47) (pc' := 53) (L' := [(0, .ref a0), (1, .ref a1)]) H_42 hq (z_at.mk 3 rfl rfl) rfl (zIn_all (l := [65, 98]) (p := fun a => zQ a 20 5 0) rfl ha0) hV_47 (by decide) rfl rfl rfl rfl ?_
  intro m_50 H_50
  cases h
  exact r_rv hq (z_at.mk 1 rfl rfl) rfl rfl H_50
def g_so_copyFrom (a0 : Nat) (a1 : Nat) (σ : zS) : Option (Unit × zS) :=
  let s_12 := zcp σ (a1 + 1) 0 (a0 + 1) 0 60
  let s_27 := zcp s_12 (a1 + 2) 0 (a0 + 2) 0 60
  let s_42 := zcp s_27 (a1 + 3) 0 (a0 + 3) 0 60
  let s_57 := zcp s_42 (a1 + 4) 0 (a0 + 4) 0 60
  let s_72 := zcp s_57 (a1 + 5) 0 (a0 + 5) 0 33
  let s_87 := zcp s_72 (a1 + 6) 0 (a0 + 6) 0 33
  let v_92 := s_87 a1 4
  let s_95 := zu s_87 a0 4 v_92
  some ((), s_95)
set_option maxHeartbeats 4000000 in
theorem g_so_copyFrom_ok {xl : Nat} {xs : Nat → Int32} {a0 : Nat} (ha0 : zIn [41, 74] a0 = true) {a1 : Nat} (ha1 : zIn [41, 74] a1 = true) {σ : zS} {p : Nat} {m : zM} {o : Unit × zS} (H : zRep xl xs p m σ) (h : g_so_copyFrom a0 a1 σ = some o) : zGo xl xs (fun p' => p = p') 1 89 0 (z_can 89 0 (lv_args 0 [.ref a0, .ref a1])) [] m vV o.2 := by
  have hq : z_mth 89 = some z_r89 := rfl
  unfold g_so_copyFrom at h
  show zGo xl xs (fun p' => p = p') 1 89 0 [(0, .ref a0), (1, .ref a1)] [] m vV o.2
  refine r_p hq 1 (pc' := 1) (L' := [(0, .ref a0), (1, .ref a1)]) (st' := [.ref a1]) rfl ?_
  refine r_gR (b := a1 + 1) (pc' := 4) (L' := [(0, .ref a0), (1, .ref a1)]) H hq (z_at.mk 3 rfl rfl) rfl (zIn_all (l := [41, 74]) (p := fun a => zQ a 18 0 (100 + a + 1)) rfl ha1) rfl rfl ?_
  refine r_p hq 2 (pc' := 6) (L' := [(0, .ref a0), (1, .ref a1)]) (st' := [.ref a0, .int ((0 : Int32)), .ref (a1 + 1)]) rfl ?_
  refine r_gR (b := a0 + 1) (pc' := 9) (L' := [(0, .ref a0), (1, .ref a1)]) H hq (z_at.mk 3 rfl rfl) rfl (zIn_all (l := [41, 74]) (p := fun a => zQ a 18 0 (100 + a + 1)) rfl ha0) rfl rfl ?_
  refine r_p hq 2 (pc' := 12) (L' := [(0, .ref a0), (1, .ref a1)]) (st' := [.int ((60 : Int32)), .int ((0 : Int32)), .ref (a0 + 1), .int ((0 : Int32)), .ref (a1 + 1)]) rfl ?_
  refine r_cp (t := 0) (pc' := 15) (L' := [(0, .ref a0), (1, .ref a1)]) H hq (z_at.mk 3 rfl rfl) rfl (by decide) (by decide) (zIn_all (l := [41, 74]) (p := fun a => zAr (a + 1) 0 60) rfl ha1) (zIn_all (l := [41, 74]) (p := fun a => zAr (a + 1) 0 60) rfl ha0) (rfl : (0 : Int32).toInt = 0) (rfl : (0 : Int32).toInt = 0) (rfl : (60 : Int32).toInt = 60) (by decide) rfl rfl ?_
  intro m_12 H_12
  refine r_p hq 1 (pc' := 16) (L' := [(0, .ref a0), (1, .ref a1)]) (st' := [.ref a1]) rfl ?_
  refine r_gR (b := a1 + 2) (pc' := 19) (L' := [(0, .ref a0), (1, .ref a1)]) H_12 hq (z_at.mk 3 rfl rfl) rfl (zIn_all (l := [41, 74]) (p := fun a => zQ a 18 1 (100 + a + 2)) rfl ha1) rfl rfl ?_
  refine r_p hq 2 (pc' := 21) (L' := [(0, .ref a0), (1, .ref a1)]) (st' := [.ref a0, .int ((0 : Int32)), .ref (a1 + 2)]) rfl ?_
  refine r_gR (b := a0 + 2) (pc' := 24) (L' := [(0, .ref a0), (1, .ref a1)]) H_12 hq (z_at.mk 3 rfl rfl) rfl (zIn_all (l := [41, 74]) (p := fun a => zQ a 18 1 (100 + a + 2)) rfl ha0) rfl rfl ?_
  refine r_p hq 2 (pc' := 27) (L' := [(0, .ref a0), (1, .ref a1)]) (st' := [.int ((60 : Int32)), .int ((0 : Int32)), .ref (a0 + 2), .int ((0 : Int32)), .ref (a1 + 2)]) rfl ?_
  refine r_cp (t := 0) (pc' := 30) (L' := [(0, .ref a0), (1, .ref a1)]) H_12 hq (z_at.mk 3 rfl rfl) rfl (by decide) (by decide) (zIn_all (l := [41, 74]) (p := fun a => zAr (a + 2) 0 60) rfl ha1) (zIn_all (l := [41, 74]) (p := fun a => zAr (a + 2) 0 60) rfl ha0) (rfl : (0 : Int32).toInt = 0) (rfl : (0 : Int32).toInt = 0) (rfl : (60 : Int32).toInt = 60) (by decide) rfl rfl ?_
  intro m_27 H_27
  refine r_p hq 1 (pc' := 31) (L' := [(0, .ref a0), (1, .ref a1)]) (st' := [.ref a1]) rfl ?_
  refine r_gR (b := a1 + 3) (pc' := 34) (L' := [(0, .ref a0), (1, .ref a1)]) H_27 hq (z_at.mk 3 rfl rfl) rfl (zIn_all (l := [41, 74]) (p := fun a => zQ a 18 2 (100 + a + 3)) rfl ha1) rfl rfl ?_
  refine r_p hq 2 (pc' := 36) (L' := [(0, .ref a0), (1, .ref a1)]) (st' := [.ref a0, .int ((0 : Int32)), .ref (a1 + 3)]) rfl ?_
  refine r_gR (b := a0 + 3) (pc' := 39) (L' := [(0, .ref a0), (1, .ref a1)]) H_27 hq (z_at.mk 3 rfl rfl) rfl (zIn_all (l := [41, 74]) (p := fun a => zQ a 18 2 (100 + a + 3)) rfl ha0) rfl rfl ?_
  refine r_p hq 2 (pc' := 42) (L' := [(0, .ref a0), (1, .ref a1)]) (st' := [.int ((60 : Int32)), .int ((0 : Int32)), .ref (a0 + 3), .int ((0 : Int32)), .ref (a1 + 3)]) rfl ?_
  refine r_cp (t := 1) (pc' := 45) (L' := [(0, .ref a0), (1, .ref a1)]) H_27 hq (z_at.mk 3 rfl rfl) rfl (by decide) (by decide) (zIn_all (l := [41, 74]) (p := fun a => zAr (a + 3) 1 60) rfl ha1) (zIn_all (l := [41, 74]) (p := fun a => zAr (a + 3) 1 60) rfl ha0) (rfl : (0 : Int32).toInt = 0) (rfl : (0 : Int32).toInt = 0) (rfl : (60 : Int32).toInt = 60) (by decide) rfl rfl ?_
  intro m_42 H_42
  refine r_p hq 1 (pc' := 46) (L' := [(0, .ref a0), (1, .ref a1)]) (st' := [.ref a1]) rfl ?_
  refine r_gR (b := a1 + 4) (pc' := 49) (L' := [(0, .ref a0), (1, .ref a1)]) H_42 hq (z_at.mk 3 rfl rfl) rfl (zIn_all (l := [41, 74]) (p := fun a => zQ a 18 3 (100 + a + 4)) rfl ha1) rfl rfl ?_
  refine r_p hq 2 (pc' := 51) (L' := [(0, .ref a0), (1, .ref a1)]) (st' := [.ref a0, .int ((0 : Int32)), .ref (a1 + 4)]) rfl ?_
  refine r_gR (b := a0 + 4) (pc' := 54) (L' := [(0, .ref a0), (1, .ref a1)]) H_42 hq (z_at.mk 3 rfl rfl) rfl (zIn_all (l := [41, 74]) (p := fun a => zQ a 18 3 (100 + a + 4)) rfl ha0) rfl rfl ?_
  refine r_p hq 2 (pc' := 57) (L' := [(0, .ref a0), (1, .ref a1)]) (st' := [.int ((60 : Int32)), .int ((0 : Int32)), .ref (a0 + 4), .int ((0 : Int32)), .ref (a1 + 4)]) rfl ?_
  refine r_cp (t := 0) (pc' := 60) (L' := [(0, .ref a0), (1, .ref a1)]) H_42 hq (z_at.mk 3 rfl rfl) rfl (by decide) (by decide) (zIn_all (l := [41, 74]) (p := fun a => zAr (a + 4) 0 60) rfl ha1) (zIn_all (l := [41, 74]) (p := fun a => zAr (a + 4) 0 60) rfl ha0) (rfl : (0 : Int32).toInt = 0) (rfl : (0 : Int32).toInt = 0) (rfl : (60 : Int32).toInt = 60) (by decide) rfl rfl ?_
  intro m_57 H_57
  refine r_p hq 1 (pc' := 61) (L' := [(0, .ref a0), (1, .ref a1)]) (st' := [.ref a1]) rfl ?_
  refine r_gR (b := a1 + 5) (pc' := 64) (L' := [(0, .ref a0), (1, .ref a1)]) H_57 hq (z_at.mk 3 rfl rfl) rfl (zIn_all (l := [41, 74]) (p := fun a => zQ a 18 5 (100 + a + 5)) rfl ha1) rfl rfl ?_
  refine r_p hq 2 (pc' := 66) (L' := [(0, .ref a0), (1, .ref a1)]) (st' := [.ref a0, .int ((0 : Int32)), .ref (a1 + 5)]) rfl ?_
  refine r_gR (b := a0 + 5) (pc' := 69) (L' := [(0, .ref a0), (1, .ref a1)]) H_57 hq (z_at.mk 3 rfl rfl) rfl (zIn_all (l := [41, 74]) (p := fun a => zQ a 18 5 (100 + a + 5)) rfl ha0) rfl rfl ?_
  refine r_p hq 2 (pc' := 72) (L' := [(0, .ref a0), (1, .ref a1)]) (st' := [.int ((33 : Int32)), .int ((0 : Int32)), .ref (a0 + 5), .int ((0 : Int32)), .ref (a1 + 5)]) rfl ?_
  refine r_cp (t := 1) (pc' := 75) (L' := [(0, .ref a0), (1, .ref a1)]) H_57 hq (z_at.mk 3 rfl rfl) rfl (by decide) (by decide) (zIn_all (l := [41, 74]) (p := fun a => zAr (a + 5) 1 33) rfl ha1) (zIn_all (l := [41, 74]) (p := fun a => zAr (a + 5) 1 33) rfl ha0) (rfl : (0 : Int32).toInt = 0) (rfl : (0 : Int32).toInt = 0) (rfl : (33 : Int32).toInt = 33) (by decide) rfl rfl ?_
  intro m_72 H_72
  refine r_p hq 1 (pc' := 76) (L' := [(0, .ref a0), (1, .ref a1)]) (st' := [.ref a1]) rfl ?_
  refine r_gR (b := a1 + 6) (pc' := 79) (L' := [(0, .ref a0), (1, .ref a1)]) H_72 hq (z_at.mk 3 rfl rfl) rfl (zIn_all (l := [41, 74]) (p := fun a => zQ a 18 6 (100 + a + 6)) rfl ha1) rfl rfl ?_
  refine r_p hq 2 (pc' := 81) (L' := [(0, .ref a0), (1, .ref a1)]) (st' := [.ref a0, .int ((0 : Int32)), .ref (a1 + 6)]) rfl ?_
  refine r_gR (b := a0 + 6) (pc' := 84) (L' := [(0, .ref a0), (1, .ref a1)]) H_72 hq (z_at.mk 3 rfl rfl) rfl (zIn_all (l := [41, 74]) (p := fun a => zQ a 18 6 (100 + a + 6)) rfl ha0) rfl rfl ?_
  refine r_p hq 2 (pc' := 87) (L' := [(0, .ref a0), (1, .ref a1)]) (st' := [.int ((33 : Int32)), .int ((0 : Int32)), .ref (a0 + 6), .int ((0 : Int32)), .ref (a1 + 6)]) rfl ?_
  refine r_cp (t := 1) (pc' := 90) (L' := [(0, .ref a0), (1, .ref a1)]) H_72 hq (z_at.mk 3 rfl rfl) rfl (by decide) (by decide) (zIn_all (l := [41, 74]) (p := fun a => zAr (a + 6) 1 33) rfl ha1) (zIn_all (l := [41, 74]) (p := fun a => zAr (a + 6) 1 33) rfl ha0) (rfl : (0 : Int32).toInt = 0) (rfl : (0 : Int32).toInt = 0) (rfl : (33 : Int32).toInt = 33) (by decide) rfl rfl ?_
  intro m_87 H_87
  refine r_p hq 2 (pc' := 92) (L' := [(0, .ref a0), (1, .ref a1)]) (st' := [.ref a1, .ref a0]) rfl ?_
  refine r_gI (pc' := 95) (L' := [(0, .ref a0), (1, .ref a1)]) H_87 hq (z_at.mk 3 rfl rfl) rfl (zIn_all (l := [41, 74]) (p := fun a => zQ a 18 4 0) rfl ha1) rfl rfl ?_
  intro V_92 hV_92
  refine r_pI (X := V_92) (pc' := 98) (L' := [(0, .ref a0), (1, .ref a1)]) H_87 hq (z_at.mk 3 rfl rfl) rfl (zIn_all (l := [41, 74]) (p := fun a => zQ a 18 4 0) rfl ha0) hV_92 (by decide) rfl rfl rfl rfl ?_
  intro m_95 H_95
  cases h
  exact r_rv hq (z_at.mk 1 rfl rfl) rfl rfl H_95
def g_st_copyFrom (a0 : Nat) (a1 : Nat) (σ : zS) : Option (Unit × zS) :=
  (g_so_copyFrom (a0 + 1) (a1 + 1) σ).bind fun o_8 =>
  (g_ca_copyFrom (a0 + 8) (a1 + 8) o_8.2).bind fun o_19 =>
  (g_fi_copyFrom (a0 + 20) (a1 + 20) o_19.2).bind fun o_30 =>
  (g_bs_copyFrom (a0 + 23) (a1 + 23) o_30.2).bind fun o_41 =>
  (g_wa_copyFrom (a0 + 25) (a1 + 25) o_41.2).bind fun o_52 =>
  some ((), o_52.2)
set_option maxHeartbeats 4000000 in
theorem g_st_copyFrom_ok {xl : Nat} {xs : Nat → Int32} {a0 : Nat} (ha0 : zIn [40, 73] a0 = true) {a1 : Nat} (ha1 : zIn [40, 73] a1 = true) {σ : zS} {p : Nat} {m : zM} {o : Unit × zS} (H : zRep xl xs p m σ) (h : g_st_copyFrom a0 a1 σ = some o) : zGo xl xs (fun p' => p = p') 3 78 0 (z_can 78 0 (lv_args 0 [.ref a0, .ref a1])) [] m vV o.2 := by
  have hq : z_mth 78 = some z_r78 := rfl
  unfold g_st_copyFrom at h
  show zGo xl xs (fun p' => p = p') 3 78 0 [(0, .ref a0), (1, .ref a1)] [] m vV o.2
  refine r_p hq 1 (pc' := 1) (L' := [(0, .ref a0), (1, .ref a1)]) (st' := [.ref a0]) rfl ?_
  refine r_gR (b := a0 + 1) (pc' := 4) (L' := [(0, .ref a0), (1, .ref a1)]) H hq (z_at.mk 3 rfl rfl) rfl (zIn_all (l := [40, 73]) (p := fun a => zQ a 17 0 (100 + a + 1)) rfl ha0) rfl rfl ?_
  refine r_p hq 1 (pc' := 5) (L' := [(0, .ref a0), (1, .ref a1)]) (st' := [.ref a1, .ref (a0 + 1)]) rfl ?_
  refine r_gR (b := a1 + 1) (pc' := 8) (L' := [(0, .ref a0), (1, .ref a1)]) H hq (z_at.mk 3 rfl rfl) rfl (zIn_all (l := [40, 73]) (p := fun a => zQ a 17 0 (100 + a + 1)) rfl ha1) rfl rfl ?_
  obtain ⟨o_8, h_8, h⟩ := Option.bind_eq_some_iff.mp h
  refine r_cvV (pc' := 11) (L' := [(0, .ref a0), (1, .ref a1)]) (Ps := [.ref (a1 + 1)]) (rest := []) hq (z_at.mk 3 rfl rfl) (Or.inl ⟨rfl, rfl⟩) rfl rfl (by decide) (by decide) rfl (Nat.not_lt.mpr (Nat.le_of_ble_eq_true rfl)) rfl rfl (z_cat_le 0 rfl (by decide)) (z_lgl_le 2 rfl (by decide)) (by decide) (H.tg (zIn_all (l := [40, 73]) (p := fun a => zT (a + 1) 18) rfl ha0)) (by omega) (g_so_copyFrom_ok (zIn_all (l := [40, 73]) (p := fun a => zIn [41, 74] (a + 1)) rfl ha0) (zIn_all (l := [40, 73]) (p := fun a => zIn [41, 74] (a + 1)) rfl ha1) H h_8) rfl rfl ?_
  intro m_8 p_8 e_8 H_8
  subst e_8
  refine r_p hq 1 (pc' := 12) (L' := [(0, .ref a0), (1, .ref a1)]) (st' := [.ref a0]) rfl ?_
  refine r_gR (b := a0 + 8) (pc' := 15) (L' := [(0, .ref a0), (1, .ref a1)]) H_8 hq (z_at.mk 3 rfl rfl) rfl (zIn_all (l := [40, 73]) (p := fun a => zQ a 17 1 (100 + a + 8)) rfl ha0) rfl rfl ?_
  refine r_p hq 1 (pc' := 16) (L' := [(0, .ref a0), (1, .ref a1)]) (st' := [.ref a1, .ref (a0 + 8)]) rfl ?_
  refine r_gR (b := a1 + 8) (pc' := 19) (L' := [(0, .ref a0), (1, .ref a1)]) H_8 hq (z_at.mk 3 rfl rfl) rfl (zIn_all (l := [40, 73]) (p := fun a => zQ a 17 1 (100 + a + 8)) rfl ha1) rfl rfl ?_
  obtain ⟨o_19, h_19, h⟩ := Option.bind_eq_some_iff.mp h
  refine r_cvV (pc' := 22) (L' := [(0, .ref a0), (1, .ref a1)]) (Ps := [.ref (a1 + 8)]) (rest := []) hq (z_at.mk 3 rfl rfl) (Or.inl ⟨rfl, rfl⟩) rfl rfl (by decide) (by decide) rfl (Nat.not_lt.mpr (Nat.le_of_ble_eq_true rfl)) rfl rfl (z_cat_le 0 rfl (by decide)) (z_lgl_le 2 rfl (by decide)) (by decide) (H_8.tg (zIn_all (l := [40, 73]) (p := fun a => zT (a + 8) 12) rfl ha0)) (by omega) (g_ca_copyFrom_ok (zIn_all (l := [40, 73]) (p := fun a => zIn [48, 81] (a + 8)) rfl ha0) (zIn_all (l := [40, 73]) (p := fun a => zIn [48, 81] (a + 8)) rfl ha1) H_8 h_19) rfl rfl ?_
  intro m_19 p_19 e_19 H_19
  subst e_19
  refine r_p hq 1 (pc' := 23) (L' := [(0, .ref a0), (1, .ref a1)]) (st' := [.ref a0]) rfl ?_
  refine r_gR (b := a0 + 20) (pc' := 26) (L' := [(0, .ref a0), (1, .ref a1)]) H_19 hq (z_at.mk 3 rfl rfl) rfl (zIn_all (l := [40, 73]) (p := fun a => zQ a 17 2 (100 + a + 20)) rfl ha0) rfl rfl ?_
  refine r_p hq 1 (pc' := 27) (L' := [(0, .ref a0), (1, .ref a1)]) (st' := [.ref a1, .ref (a0 + 20)]) rfl ?_
  refine r_gR (b := a1 + 20) (pc' := 30) (L' := [(0, .ref a0), (1, .ref a1)]) H_19 hq (z_at.mk 3 rfl rfl) rfl (zIn_all (l := [40, 73]) (p := fun a => zQ a 17 2 (100 + a + 20)) rfl ha1) rfl rfl ?_
  obtain ⟨o_30, h_30, h⟩ := Option.bind_eq_some_iff.mp h
  refine r_cvV (pc' := 33) (L' := [(0, .ref a0), (1, .ref a1)]) (Ps := [.ref (a1 + 20)]) (rest := []) hq (z_at.mk 3 rfl rfl) (Or.inl ⟨rfl, rfl⟩) rfl rfl (by decide) (by decide) rfl (Nat.not_lt.mpr (Nat.le_of_ble_eq_true rfl)) rfl rfl (z_cat_le 0 rfl (by decide)) (z_lgl_le 2 rfl (by decide)) (by decide) (H_19.tg (zIn_all (l := [40, 73]) (p := fun a => zT (a + 20) 13) rfl ha0)) (by omega) (g_fi_copyFrom_ok (zIn_all (l := [40, 73]) (p := fun a => zIn [60, 93] (a + 20)) rfl ha0) (zIn_all (l := [40, 73]) (p := fun a => zIn [60, 93] (a + 20)) rfl ha1) H_19 h_30) rfl rfl ?_
  intro m_30 p_30 e_30 H_30
  subst e_30
  refine r_p hq 1 (pc' := 34) (L' := [(0, .ref a0), (1, .ref a1)]) (st' := [.ref a0]) rfl ?_
  refine r_gR (b := a0 + 23) (pc' := 37) (L' := [(0, .ref a0), (1, .ref a1)]) H_30 hq (z_at.mk 3 rfl rfl) rfl (zIn_all (l := [40, 73]) (p := fun a => zQ a 17 3 (100 + a + 23)) rfl ha0) rfl rfl ?_
  refine r_p hq 1 (pc' := 38) (L' := [(0, .ref a0), (1, .ref a1)]) (st' := [.ref a1, .ref (a0 + 23)]) rfl ?_
  refine r_gR (b := a1 + 23) (pc' := 41) (L' := [(0, .ref a0), (1, .ref a1)]) H_30 hq (z_at.mk 3 rfl rfl) rfl (zIn_all (l := [40, 73]) (p := fun a => zQ a 17 3 (100 + a + 23)) rfl ha1) rfl rfl ?_
  obtain ⟨o_41, h_41, h⟩ := Option.bind_eq_some_iff.mp h
  refine r_cvV (pc' := 44) (L' := [(0, .ref a0), (1, .ref a1)]) (Ps := [.ref (a1 + 23)]) (rest := []) hq (z_at.mk 3 rfl rfl) (Or.inl ⟨rfl, rfl⟩) rfl rfl (by decide) (by decide) rfl (Nat.not_lt.mpr (Nat.le_of_ble_eq_true rfl)) rfl rfl (z_cat_le 0 rfl (by decide)) (z_lgl_le 2 rfl (by decide)) (by decide) (H_30.tg (zIn_all (l := [40, 73]) (p := fun a => zT (a + 23) 11) rfl ha0)) (by omega) (g_bs_copyFrom_ok (zIn_all (l := [40, 73]) (p := fun a => zIn [56, 58, 63, 96, 114, 116] (a + 23)) rfl ha0) (zIn_all (l := [40, 73]) (p := fun a => zIn [56, 58, 63, 96, 114, 116] (a + 23)) rfl ha1) H_30 h_41) rfl rfl ?_
  intro m_41 p_41 e_41 H_41
  subst e_41
  refine r_p hq 1 (pc' := 45) (L' := [(0, .ref a0), (1, .ref a1)]) (st' := [.ref a0]) rfl ?_
  refine r_gR (b := a0 + 25) (pc' := 48) (L' := [(0, .ref a0), (1, .ref a1)]) H_41 hq (z_at.mk 3 rfl rfl) rfl (zIn_all (l := [40, 73]) (p := fun a => zQ a 17 4 (100 + a + 25)) rfl ha0) rfl rfl ?_
  refine r_p hq 1 (pc' := 49) (L' := [(0, .ref a0), (1, .ref a1)]) (st' := [.ref a1, .ref (a0 + 25)]) rfl ?_
  refine r_gR (b := a1 + 25) (pc' := 52) (L' := [(0, .ref a0), (1, .ref a1)]) H_41 hq (z_at.mk 3 rfl rfl) rfl (zIn_all (l := [40, 73]) (p := fun a => zQ a 17 4 (100 + a + 25)) rfl ha1) rfl rfl ?_
  obtain ⟨o_52, h_52, h⟩ := Option.bind_eq_some_iff.mp h
  refine r_cvV (pc' := 55) (L' := [(0, .ref a0), (1, .ref a1)]) (Ps := [.ref (a1 + 25)]) (rest := []) hq (z_at.mk 3 rfl rfl) (Or.inl ⟨rfl, rfl⟩) rfl rfl (by decide) (by decide) rfl (Nat.not_lt.mpr (Nat.le_of_ble_eq_true rfl)) rfl rfl (z_cat_le 0 rfl (by decide)) (z_lgl_le 2 rfl (by decide)) (by decide) (H_41.tg (zIn_all (l := [40, 73]) (p := fun a => zT (a + 25) 20) rfl ha0)) (by omega) (g_wa_copyFrom_ok (zIn_all (l := [40, 73]) (p := fun a => zIn [65, 98] (a + 25)) rfl ha0) (zIn_all (l := [40, 73]) (p := fun a => zIn [65, 98] (a + 25)) rfl ha1) H_41 h_52) rfl rfl ?_
  intro m_52 p_52 e_52 H_52
  subst e_52
  cases h
  exact r_rv hq (z_at.mk 1 rfl rfl) rfl rfl H_52
def g_so_isIn (x1 : Int) (σ : zS) : Option (Int × zS) :=
  (g_so_isRow x1 σ).bind fun o_1 =>
  if o_1.1 = 0 then
    some (0, o_1.2)
  else
    let v_13 := o_1.2 46 32
    if lCmp (lAnd (lUshr v_13 x1) 1) 0 = 0 then
      some (0, o_1.2)
    else
      some (1, o_1.2)
set_option maxHeartbeats 4000000 in
theorem g_so_isIn_ok {xl : Nat} {xs : Nat → Int32} {X1 : Int32} {x1 : Int} (hx1 : X1.toInt = x1) {σ : zS} {p : Nat} {m : zM} {o : Int × zS} (H : zRep xl xs p m σ) (h : g_so_isIn x1 σ = some o) : zGo xl xs (fun p' => p = p') 2 81 0 (z_can 81 0 (lv_args 0 [.ref 41, .int X1])) [] m (vI o.1) o.2 := by
  have hq : z_mth 81 = some z_r81 := rfl
  unfold g_so_isIn at h
  show zGo xl xs (fun p' => p = p') 2 81 0 [(0, .ref 41), (1, .int X1)] [] m (vI o.1) o.2
  refine r_p hq 1 (pc' := 1) (L' := [(0, .ref 41), (1, .int X1)]) (st' := [.int X1]) rfl ?_
  obtain ⟨o_1, h_1, h⟩ := Option.bind_eq_some_iff.mp h
  refine r_csI (pc' := 4) (L' := [(0, .ref 41), (1, .int X1)]) (As := [.int X1]) (rest := []) (j := 80) hq (z_at.mk 3 rfl rfl) (Or.inl ⟨rfl, rfl⟩) rfl rfl (by omega) (g_so_isRow_ok hx1 H h_1) rfl rfl ?_
  intro R_1 m_1 p_1 e_1 hR_1 H_1
  subst e_1
  rcases z_ite h with ⟨c_4, h⟩ | ⟨c_4, h⟩
  · refine r_t1 (pc' := 27) (L' := []) hq (z_at.mk 3 rfl rfl) rfl hR_1 c_4 rfl rfl ?_
    refine r_p hq 1 (pc' := 28) (L' := []) (st' := [.int ((0 : Int32))]) rfl ?_
    cases h
    exact r_ri hq (z_at.mk 1 rfl rfl) rfl rfl (rfl : (0 : Int32).toInt = 0) rfl H_1
  · refine r_f1 (pc' := 7) (L' := [(0, .ref 41), (1, .int X1)]) hq (z_at.mk 3 rfl rfl) rfl hR_1 c_4 rfl rfl ?_
    refine r_p hq 1 (pc' := 8) (L' := [(0, .ref 41), (1, .int X1)]) (st' := [.ref 41]) rfl ?_
    refine r_gR (b := 46) (pc' := 11) (L' := [(0, .ref 41), (1, .int X1)]) H_1 hq (z_at.mk 3 rfl rfl) rfl rfl rfl rfl ?_
    refine r_p hq 1 (pc' := 13) (L' := [(0, .ref 41), (1, .int X1)]) (st' := [.int ((32 : Int32)), .ref 46]) rfl ?_
    refine r_la (pc' := 14) (L' := [(0, .ref 41), (1, .int X1)]) H_1 hq (z_at.mk 1 rfl rfl) (show zAr 46 1 33 = true from rfl) (rfl : (32 : Int32).toInt = 32) ⟨by decide, by decide⟩ rfl rfl ?_
    intro V_13 hV_13
    refine r_p hq 6 (pc' := 20) (L' := [(0, .ref 41), (1, .int X1)]) (st' := [.int (lg_cmp (((V_13.toUInt64 >>> (X1.toInt64.toUInt64 &&& Int64.toUInt64 63)).toInt64) &&& ((1 : Int64))) ((0 : Int64)))]) rfl ?_
    rcases z_ite h with ⟨c_20, h⟩ | ⟨c_20, h⟩
    · refine r_t1 (pc' := 27) (L' := []) hq (z_at.mk 3 rfl rfl) rfl (tx_lcmp (tx_land (tx_lushr hV_13 hx1) (rfl : (1 : Int64).toInt = 1)) (rfl : (0 : Int64).toInt = 0)) c_20 rfl rfl ?_
      refine r_p hq 1 (pc' := 28) (L' := []) (st' := [.int ((0 : Int32))]) rfl ?_
      cases h
      exact r_ri hq (z_at.mk 1 rfl rfl) rfl rfl (rfl : (0 : Int32).toInt = 0) rfl H_1
    · refine r_f1 (pc' := 23) (L' := [(0, .ref 41), (1, .int X1)]) hq (z_at.mk 3 rfl rfl) rfl (tx_lcmp (tx_land (tx_lushr hV_13 hx1) (rfl : (1 : Int64).toInt = 1)) (rfl : (0 : Int64).toInt = 0)) c_20 rfl rfl ?_
      refine r_p hq 2 (pc' := 28) (L' := []) (st' := [.int ((1 : Int32))]) rfl ?_
      cases h
      exact r_ri hq (z_at.mk 1 rfl rfl) rfl rfl (rfl : (1 : Int32).toInt = 1) rfl H_1
def g_so_rank (x1 : Int) (σ : zS) : Option (Int × zS) :=
  (g_so_isRow x1 σ).bind fun o_1 =>
  if o_1.1 = 0 then
    some (0, o_1.2)
  else
    if 0 ≤ x1 ∧ x1 < 60 then
    let v_12 := o_1.2 42 x1
    if 0 ≤ x1 ∧ x1 < 60 then
    let v_21 := o_1.2 43 x1
    some (w32 ((w32 ((w32 ((w32 (v_12 * 32)) + v_21)) * 60)) + x1), o_1.2)
    else none
    else none
set_option maxHeartbeats 4000000 in
theorem g_so_rank_ok {xl : Nat} {xs : Nat → Int32} {X1 : Int32} {x1 : Int} (hx1 : X1.toInt = x1) {σ : zS} {p : Nat} {m : zM} {o : Int × zS} (H : zRep xl xs p m σ) (h : g_so_rank x1 σ = some o) : zGo xl xs (fun p' => p = p') 2 85 0 (z_can 85 0 (lv_args 0 [.ref 41, .int X1])) [] m (vI o.1) o.2 := by
  have hq : z_mth 85 = some z_r85 := rfl
  unfold g_so_rank at h
  show zGo xl xs (fun p' => p = p') 2 85 0 [(0, .ref 41), (1, .int X1)] [] m (vI o.1) o.2
  refine r_p hq 1 (pc' := 1) (L' := [(0, .ref 41), (1, .int X1)]) (st' := [.int X1]) rfl ?_
  obtain ⟨o_1, h_1, h⟩ := Option.bind_eq_some_iff.mp h
  refine r_csI (pc' := 4) (L' := [(0, .ref 41), (1, .int X1)]) (As := [.int X1]) (rest := []) (j := 80) hq (z_at.mk 3 rfl rfl) (Or.inl ⟨rfl, rfl⟩) rfl rfl (by omega) (g_so_isRow_ok hx1 H h_1) rfl rfl ?_
  intro R_1 m_1 p_1 e_1 hR_1 H_1
  subst e_1
  rcases z_ite h with ⟨c_4, h⟩ | ⟨c_4, h⟩
  · refine r_t1 (pc' := 31) (L' := [(0, .ref 41), (1, .int X1)]) hq (z_at.mk 3 rfl rfl) rfl hR_1 c_4 rfl rfl ?_
    refine r_p hq 1 (pc' := 32) (L' := []) (st' := [.int ((0 : Int32))]) rfl ?_
    cases h
    exact r_ri hq (z_at.mk 1 rfl rfl) rfl rfl (rfl : (0 : Int32).toInt = 0) rfl H_1
  · refine r_f1 (pc' := 7) (L' := [(0, .ref 41), (1, .int X1)]) hq (z_at.mk 3 rfl rfl) rfl hR_1 c_4 rfl rfl ?_
    refine r_p hq 1 (pc' := 8) (L' := [(0, .ref 41), (1, .int X1)]) (st' := [.ref 41]) rfl ?_
    refine r_gR (b := 42) (pc' := 11) (L' := [(0, .ref 41), (1, .int X1)]) H_1 hq (z_at.mk 3 rfl rfl) rfl rfl rfl rfl ?_
    refine r_p hq 1 (pc' := 12) (L' := [(0, .ref 41), (1, .int X1)]) (st' := [.int X1, .ref 42]) rfl ?_
    obtain ⟨g_12, h⟩ := z_ifo_some h
    refine r_ia (pc' := 13) (L' := [(0, .ref 41), (1, .int X1)]) H_1 hq (z_at.mk 1 rfl rfl) (show zAr 42 0 60 = true from rfl) hx1 g_12 rfl rfl ?_
    intro V_12 hV_12
    refine r_p hq 3 (pc' := 17) (L' := [(0, .ref 41), (1, .int X1)]) (st' := [.ref 41, .int (V_12 * ((32 : Int32)))]) rfl ?_
    refine r_gR (b := 43) (pc' := 20) (L' := [(0, .ref 41), (1, .int X1)]) H_1 hq (z_at.mk 3 rfl rfl) rfl rfl rfl rfl ?_
    refine r_p hq 1 (pc' := 21) (L' := [(0, .ref 41), (1, .int X1)]) (st' := [.int X1, .ref 43, .int (V_12 * ((32 : Int32)))]) rfl ?_
    obtain ⟨g_21, h⟩ := z_ifo_some h
    refine r_ia (pc' := 22) (L' := [(0, .ref 41), (1, .int X1)]) H_1 hq (z_at.mk 1 rfl rfl) (show zAr 43 0 60 = true from rfl) hx1 g_21 rfl rfl ?_
    intro V_21 hV_21
    refine r_p hq 6 (pc' := 32) (L' := []) (st' := [.int ((((V_12 * ((32 : Int32))) + V_21) * ((60 : Int32))) + X1)]) rfl ?_
    cases h
    exact r_ri hq (z_at.mk 1 rfl rfl) rfl rfl (tx_iadd (tx_imul (tx_iadd (tx_imul hV_12 (rfl : (32 : Int32).toInt = 32)) hV_21) (rfl : (60 : Int32).toInt = 60)) hx1) rfl H_1
def g_so_flip_L51 : Nat → Int → Int → zS → Option (Unit × zS)
  | 0, _, _, _ => none
  | n + 1, y2, x4, σ =>
    if 33 ≤ x4 then
      some ((), σ)
    else
      if 0 ≤ x4 ∧ x4 < 33 then
      let v_68 := σ 47 x4
      if 0 ≤ x4 ∧ x4 < 33 then
      let s_71 := zu σ 47 x4 (lXor v_68 y2)
      (g_so_flip_L51 n) y2 (w32 (x4 + 1)) s_71
      else none
      else none
set_option maxHeartbeats 4000000 in
theorem g_so_flip_L51_ok {xl : Nat} {xs : Nat → Int32} : ∀ (n : Nat) {Y2 : Int64} {y2 : Int} {X4 : Int32} {x4 : Int} {σ : zS} {p : Nat} {m : zM} {o : Unit × zS}, Y2.toInt = y2 → X4.toInt = x4 → zRep xl xs p m σ → g_so_flip_L51 n y2 x4 σ = some o → zGo xl xs (fun p' => p = p') 1 86 51 [(0, .ref 41), (2, .long Y2), (4, .int X4)] [] m vV o.2
  | 0, _, _, _, _, _, _, _, _, _, _, _, h => by cases h
  | n + 1, Y2, y2, X4, x4, σ, p, m, o, hy2, hx4, H, h => by
    have hq : z_mth 86 = some z_r86 := rfl
    have ih := fun {Y2 : Int64} {y2 : Int} {X4 : Int32} {x4 : Int} {σ : zS} {p : Nat} {m : zM} {o : Unit × zS} => g_so_flip_L51_ok (xl := xl) (xs := xs) n (Y2 := Y2) (y2 := y2) (X4 := X4) (x4 := x4) (σ := σ) (p := p) (m := m) (o := o)
    unfold g_so_flip_L51 at h
    refine r_p hq 2 (pc' := 54) (L' := [(0, .ref 41), (2, .long Y2), (4, .int X4)]) (st' := [.ref 41, .int X4]) rfl ?_
    refine r_gR (b := 47) (pc' := 57) (L' := [(0, .ref 41), (2, .long Y2), (4, .int X4)]) H hq (z_at.mk 3 rfl rfl) rfl rfl rfl rfl ?_
    refine r_le (pc' := 58) (L' := [(0, .ref 41), (2, .long Y2), (4, .int X4)]) H hq (z_at.mk 1 rfl rfl) (show zAr 47 1 33 = true from rfl) rfl rfl rfl ?_
    intro V_57 hV_57
    rcases z_ite h with ⟨c_58, h⟩ | ⟨c_58, h⟩
    · refine r_t2 (pc' := 78) (L' := [(0, .ref 41), (2, .long Y2), (4, .int X4)]) hq (z_at.mk 3 rfl rfl) rfl hx4 hV_57 c_58 rfl rfl ?_
      cases h
      exact r_rv hq (z_at.mk 1 rfl rfl) rfl rfl H
    · refine r_f2 (pc' := 61) (L' := [(0, .ref 41), (2, .long Y2), (4, .int X4)]) hq (z_at.mk 3 rfl rfl) rfl hx4 hV_57 c_58 rfl rfl ?_
      refine r_p hq 1 (pc' := 62) (L' := [(0, .ref 41), (2, .long Y2), (4, .int X4)]) (st' := [.ref 41]) rfl ?_
      refine r_gR (b := 47) (pc' := 65) (L' := [(0, .ref 41), (2, .long Y2), (4, .int X4)]) H hq (z_at.mk 3 rfl rfl) rfl rfl rfl rfl ?_
      refine r_p hq 2 (pc' := 68) (L' := [(0, .ref 41), (2, .long Y2), (4, .int X4)]) (st' := [.int X4, .ref 47, .int X4, .ref 47]) rfl ?_
      obtain ⟨g_68, h⟩ := z_ifo_some h
      refine r_la (pc' := 69) (L' := [(0, .ref 41), (2, .long Y2), (4, .int X4)]) H hq (z_at.mk 1 rfl rfl) (show zAr 47 1 33 = true from rfl) hx4 g_68 rfl rfl ?_
      intro V_68 hV_68
      refine r_p hq 2 (pc' := 71) (L' := [(0, .ref 41), (2, .long Y2), (4, .int X4)]) (st' := [.long (V_68 ^^^ Y2), .int X4, .ref 47]) rfl ?_
      obtain ⟨g_71, h⟩ := z_ifo_some h
      refine r_ls (pc' := 72) (L' := [(0, .ref 41), (2, .long Y2), (4, .int X4)]) H hq (z_at.mk 1 rfl rfl) (show zAr 47 1 33 = true from rfl) hx4 g_71 (tx_lxor hV_68 hy2) rfl rfl ?_
      intro m_71 H_71
      refine r_p hq 2 (pc' := 51) (L' := [(0, .ref 41), (2, .long Y2), (4, .int (X4 + (1 : Int32)))]) (st' := []) rfl ?_
      exact ih hy2 (tx_iadd hx4 (rfl : (1 : Int32).toInt = 1)) H_71 h
def g_so_flip_L14 : Nat → Int → Int → Int → zS → Option (Unit × zS)
  | 0, _, _, _, _ => none
  | n + 1, x1, y2, x4, σ =>
    if 33 ≤ x4 then
      if 0 ≤ x1 ∧ x1 < 60 then
      let v_46 := σ 43 x1
      g_so_flip_L51 zK y2 (w32 (v_46 + 1)) σ
      else none
    else
      if 0 ≤ x4 ∧ x4 < 33 then
      let v_31 := σ 46 x4
      if 0 ≤ x4 ∧ x4 < 33 then
      let s_34 := zu σ 46 x4 (lXor v_31 y2)
      (g_so_flip_L14 n) x1 y2 (w32 (x4 + 1)) s_34
      else none
      else none
set_option maxHeartbeats 4000000 in
theorem g_so_flip_L14_ok {xl : Nat} {xs : Nat → Int32} : ∀ (n : Nat) {X1 : Int32} {x1 : Int} {Y2 : Int64} {y2 : Int} {X4 : Int32} {x4 : Int} {σ : zS} {p : Nat} {m : zM} {o : Unit × zS}, X1.toInt = x1 → Y2.toInt = y2 → X4.toInt = x4 → zRep xl xs p m σ → g_so_flip_L14 n x1 y2 x4 σ = some o → zGo xl xs (fun p' => p = p') 1 86 14 [(0, .ref 41), (1, .int X1), (2, .long Y2), (4, .int X4)] [] m vV o.2
  | 0, _, _, _, _, _, _, _, _, _, _, _, _, _, _, h => by cases h
  | n + 1, X1, x1, Y2, y2, X4, x4, σ, p, m, o, hx1, hy2, hx4, H, h => by
    have hq : z_mth 86 = some z_r86 := rfl
    have ih := fun {X1 : Int32} {x1 : Int} {Y2 : Int64} {y2 : Int} {X4 : Int32} {x4 : Int} {σ : zS} {p : Nat} {m : zM} {o : Unit × zS} => g_so_flip_L14_ok (xl := xl) (xs := xs) n (X1 := X1) (x1 := x1) (Y2 := Y2) (y2 := y2) (X4 := X4) (x4 := x4) (σ := σ) (p := p) (m := m) (o := o)
    unfold g_so_flip_L14 at h
    refine r_p hq 2 (pc' := 17) (L' := [(0, .ref 41), (1, .int X1), (2, .long Y2), (4, .int X4)]) (st' := [.ref 41, .int X4]) rfl ?_
    refine r_gR (b := 46) (pc' := 20) (L' := [(0, .ref 41), (1, .int X1), (2, .long Y2), (4, .int X4)]) H hq (z_at.mk 3 rfl rfl) rfl rfl rfl rfl ?_
    refine r_le (pc' := 21) (L' := [(0, .ref 41), (1, .int X1), (2, .long Y2), (4, .int X4)]) H hq (z_at.mk 1 rfl rfl) (show zAr 46 1 33 = true from rfl) rfl rfl rfl ?_
    intro V_20 hV_20
    rcases z_ite h with ⟨c_21, h⟩ | ⟨c_21, h⟩
    · refine r_t2 (pc' := 41) (L' := [(0, .ref 41), (1, .int X1), (2, .long Y2), (4, .int X4)]) hq (z_at.mk 3 rfl rfl) rfl hx4 hV_20 c_21 rfl rfl ?_
      refine r_p hq 1 (pc' := 42) (L' := [(0, .ref 41), (1, .int X1), (2, .long Y2), (4, .int X4)]) (st' := [.ref 41]) rfl ?_
      refine r_gR (b := 43) (pc' := 45) (L' := [(0, .ref 41), (1, .int X1), (2, .long Y2), (4, .int X4)]) H hq (z_at.mk 3 rfl rfl) rfl rfl rfl rfl ?_
      refine r_p hq 1 (pc' := 46) (L' := [(0, .ref 41), (1, .int X1), (2, .long Y2), (4, .int X4)]) (st' := [.int X1, .ref 43]) rfl ?_
      obtain ⟨g_46, h⟩ := z_ifo_some h
      refine r_ia (pc' := 47) (L' := [(0, .ref 41), (1, .int X1), (2, .long Y2), (4, .int X4)]) H hq (z_at.mk 1 rfl rfl) (show zAr 43 0 60 = true from rfl) hx1 g_46 rfl rfl ?_
      intro V_46 hV_46
      refine r_p hq 3 (pc' := 51) (L' := [(0, .ref 41), (2, .long Y2), (4, .int (V_46 + ((1 : Int32))))]) (st' := []) rfl ?_
      exact g_so_flip_L51_ok zK hy2 (tx_iadd hV_46 (rfl : (1 : Int32).toInt = 1)) H h
    · refine r_f2 (pc' := 24) (L' := [(0, .ref 41), (1, .int X1), (2, .long Y2), (4, .int X4)]) hq (z_at.mk 3 rfl rfl) rfl hx4 hV_20 c_21 rfl rfl ?_
      refine r_p hq 1 (pc' := 25) (L' := [(0, .ref 41), (1, .int X1), (2, .long Y2), (4, .int X4)]) (st' := [.ref 41]) rfl ?_
      refine r_gR (b := 46) (pc' := 28) (L' := [(0, .ref 41), (1, .int X1), (2, .long Y2), (4, .int X4)]) H hq (z_at.mk 3 rfl rfl) rfl rfl rfl rfl ?_
      refine r_p hq 2 (pc' := 31) (L' := [(0, .ref 41), (1, .int X1), (2, .long Y2), (4, .int X4)]) (st' := [.int X4, .ref 46, .int X4, .ref 46]) rfl ?_
      obtain ⟨g_31, h⟩ := z_ifo_some h
      refine r_la (pc' := 32) (L' := [(0, .ref 41), (1, .int X1), (2, .long Y2), (4, .int X4)]) H hq (z_at.mk 1 rfl rfl) (show zAr 46 1 33 = true from rfl) hx4 g_31 rfl rfl ?_
      intro V_31 hV_31
      refine r_p hq 2 (pc' := 34) (L' := [(0, .ref 41), (1, .int X1), (2, .long Y2), (4, .int X4)]) (st' := [.long (V_31 ^^^ Y2), .int X4, .ref 46]) rfl ?_
      obtain ⟨g_34, h⟩ := z_ifo_some h
      refine r_ls (pc' := 35) (L' := [(0, .ref 41), (1, .int X1), (2, .long Y2), (4, .int X4)]) H hq (z_at.mk 1 rfl rfl) (show zAr 46 1 33 = true from rfl) hx4 g_34 (tx_lxor hV_31 hy2) rfl rfl ?_
      intro m_34 H_34
      refine r_p hq 2 (pc' := 14) (L' := [(0, .ref 41), (1, .int X1), (2, .long Y2), (4, .int (X4 + (1 : Int32)))]) (st' := []) rfl ?_
      exact ih hx1 hy2 (tx_iadd hx4 (rfl : (1 : Int32).toInt = 1)) H_34 h
def g_so_flip (x1 : Int) (σ : zS) : Option (Unit × zS) :=
  if 0 ≤ x1 ∧ x1 < 60 then
  let v_9 := σ 42 x1
  g_so_flip_L14 zK x1 (lShl 1 x1) (w32 (v_9 + 1)) σ
  else none
set_option maxHeartbeats 4000000 in
theorem g_so_flip_ok {xl : Nat} {xs : Nat → Int32} {X1 : Int32} {x1 : Int} (hx1 : X1.toInt = x1) {σ : zS} {p : Nat} {m : zM} {o : Unit × zS} (H : zRep xl xs p m σ) (h : g_so_flip x1 σ = some o) : zGo xl xs (fun p' => p = p') 1 86 0 (z_can 86 0 (lv_args 0 [.ref 41, .int X1])) [] m vV o.2 := by
  have hq : z_mth 86 = some z_r86 := rfl
  unfold g_so_flip at h
  show zGo xl xs (fun p' => p = p') 1 86 0 [(0, .ref 41), (1, .int X1)] [] m vV o.2
  refine r_p hq 5 (pc' := 5) (L' := [(2, .long (((1 : Int64)) <<< (X1.toInt64 &&& 63))), (0, .ref 41), (1, .int X1)]) (st' := [.ref 41]) rfl ?_
  refine r_gR (b := 42) (pc' := 8) (L' := [(2, .long (((1 : Int64)) <<< (X1.toInt64 &&& 63))), (0, .ref 41), (1, .int X1)]) H hq (z_at.mk 3 rfl rfl) rfl rfl rfl rfl ?_
  refine r_p hq 1 (pc' := 9) (L' := [(2, .long (((1 : Int64)) <<< (X1.toInt64 &&& 63))), (0, .ref 41), (1, .int X1)]) (st' := [.int X1, .ref 42]) rfl ?_
  obtain ⟨g_9, h⟩ := z_ifo_some h
  refine r_ia (pc' := 10) (L' := [(2, .long (((1 : Int64)) <<< (X1.toInt64 &&& 63))), (0, .ref 41), (1, .int X1)]) H hq (z_at.mk 1 rfl rfl) (show zAr 42 0 60 = true from rfl) hx1 g_9 rfl rfl ?_
  intro V_9 hV_9
  refine r_p hq 3 (pc' := 14) (L' := [(0, .ref 41), (1, .int X1), (2, .long (((1 : Int64)) <<< (X1.toInt64 &&& 63))), (4, .int (V_9 + ((1 : Int32))))]) (st' := []) rfl ?_
  exact g_so_flip_L14_ok zK hx1 (tx_lshl (rfl : (1 : Int64).toInt = 1) hx1) (tx_iadd hV_9 (rfl : (1 : Int32).toInt = 1)) H h
def g_so_bringIn_L114 (x1 : Int) (x6 : Int) (σ : zS) : Option (Unit × zS) :=
  if 0 ≤ x6 ∧ x6 < 60 then
  let s_121 := zu σ 45 x6 x1
  let v_124 := s_121 41 4
  let s_129 := zu s_121 41 4 (w32 (v_124 + 1))
  some ((), s_129)
  else none
set_option maxHeartbeats 4000000 in
theorem g_so_bringIn_L114_ok {xl : Nat} {xs : Nat → Int32} {X1 : Int32} {x1 : Int} (hx1 : X1.toInt = x1) {X6 : Int32} {x6 : Int} (hx6 : X6.toInt = x6) {σ : zS} {p : Nat} {m : zM} {o : Unit × zS} (H : zRep xl xs p m σ) (h : g_so_bringIn_L114 x1 x6 σ = some o) : zGo xl xs (fun p' => p = p') 3 83 114 [(0, .ref 41), (1, .int X1), (6, .int X6)] [] m vV o.2 := by
  have hq : z_mth 83 = some z_r83 := rfl
  unfold g_so_bringIn_L114 at h
  refine r_p hq 1 (pc' := 115) (L' := [(0, .ref 41), (1, .int X1), (6, .int X6)]) (st' := [.ref 41]) rfl ?_
  refine r_gR (b := 45) (pc' := 118) (L' := [(0, .ref 41), (1, .int X1), (6, .int X6)]) H hq (z_at.mk 3 rfl rfl) rfl rfl rfl rfl ?_
  refine r_p hq 2 (pc' := 121) (L' := [(0, .ref 41), (1, .int X1), (6, .int X6)]) (st' := [.int X1, .int X6, .ref 45]) rfl ?_
  obtain ⟨g_121, h⟩ := z_ifo_some h
  refine r_is (pc' := 122) (L' := [(0, .ref 41), (1, .int X1), (6, .int X6)]) H hq (z_at.mk 1 rfl rfl) (show zAr 45 0 60 = true from rfl) hx6 g_121 hx1 rfl rfl ?_
  intro m_121 H_121
  refine r_p hq 2 (pc' := 124) (L' := [(0, .ref 41), (1, .int X1), (6, .int X6)]) (st' := [.ref 41, .ref 41]) rfl ?_
  refine r_gI (pc' := 127) (L' := [(0, .ref 41), (1, .int X1), (6, .int X6)]) H_121 hq (z_at.mk 3 rfl rfl) rfl rfl rfl rfl ?_
  intro V_124 hV_124
  refine r_p hq 2 (pc' := 129) (L' := [(0, .ref 41), (1, .int X1), (6, .int X6)]) (st' := [.int (V_124 + ((1 : Int32))), .ref 41]) rfl ?_
  refine r_pI (X := V_124 + ((1 : Int32))) (pc' := 132) (L' := [(0, .ref 41), (1, .int X1), (6, .int X6)]) H_121 hq (z_at.mk 3 rfl rfl) rfl rfl (tx_iadd hV_124 (rfl : (1 : Int32).toInt = 1)) (by decide) rfl rfl rfl rfl ?_
  intro m_129 H_129
  cases h
  exact r_rv hq (z_at.mk 1 rfl rfl) rfl rfl H_129
def g_so_bringIn_L66 : Nat → Int → Int → zS → Option (Unit × zS)
  | 0, _, _, _ => none
  | n + 1, x1, x6, σ =>
    if x6 ≤ 0 then
      g_so_bringIn_L114 x1 x6 σ
    else
      if 0 ≤ w32 (x6 - 1) ∧ w32 (x6 - 1) < 60 then
      let v_80 := σ 45 (w32 (x6 - 1))
      (g_so_rank v_80 σ).bind fun o_81 =>
      (g_so_rank x1 o_81.2).bind fun o_86 =>
      if o_81.1 ≤ o_86.1 then
        g_so_bringIn_L114 x1 x6 o_86.2
      else
        if 0 ≤ w32 (x6 - 1) ∧ w32 (x6 - 1) < 60 then
        let v_106 := o_86.2 45 (w32 (x6 - 1))
        if 0 ≤ x6 ∧ x6 < 60 then
        let s_107 := zu o_86.2 45 x6 v_106
        (g_so_bringIn_L66 n) x1 (w32 (x6 - 1)) s_107
        else none
        else none
      else none
set_option maxHeartbeats 4000000 in
theorem g_so_bringIn_L66_ok {xl : Nat} {xs : Nat → Int32} : ∀ (n : Nat) {X1 : Int32} {x1 : Int} {X6 : Int32} {x6 : Int} {σ : zS} {p : Nat} {m : zM} {o : Unit × zS}, X1.toInt = x1 → X6.toInt = x6 → zRep xl xs p m σ → g_so_bringIn_L66 n x1 x6 σ = some o → zGo xl xs (fun p' => p = p') 3 83 66 [(0, .ref 41), (1, .int X1), (6, .int X6)] [] m vV o.2
  | 0, _, _, _, _, _, _, _, _, _, _, _, h => by cases h
  | n + 1, X1, x1, X6, x6, σ, p, m, o, hx1, hx6, H, h => by
    have hq : z_mth 83 = some z_r83 := rfl
    have ih := fun {X1 : Int32} {x1 : Int} {X6 : Int32} {x6 : Int} {σ : zS} {p : Nat} {m : zM} {o : Unit × zS} => g_so_bringIn_L66_ok (xl := xl) (xs := xs) n (X1 := X1) (x1 := x1) (X6 := X6) (x6 := x6) (σ := σ) (p := p) (m := m) (o := o)
    unfold g_so_bringIn_L66 at h
    refine r_p hq 1 (pc' := 68) (L' := [(0, .ref 41), (1, .int X1), (6, .int X6)]) (st' := [.int X6]) rfl ?_
    rcases z_ite h with ⟨c_68, h⟩ | ⟨c_68, h⟩
    · refine r_t1 (pc' := 114) (L' := [(0, .ref 41), (1, .int X1), (6, .int X6)]) hq (z_at.mk 3 rfl rfl) rfl hx6 c_68 rfl rfl ?_
      exact g_so_bringIn_L114_ok hx1 hx6 H h
    · refine r_f1 (pc' := 71) (L' := [(0, .ref 41), (1, .int X1), (6, .int X6)]) hq (z_at.mk 3 rfl rfl) rfl hx6 c_68 rfl rfl ?_
      refine r_p hq 2 (pc' := 73) (L' := [(0, .ref 41), (1, .int X1), (6, .int X6)]) (st' := [.ref 41, .ref 41]) rfl ?_
      refine r_gR (b := 45) (pc' := 76) (L' := [(0, .ref 41), (1, .int X1), (6, .int X6)]) H hq (z_at.mk 3 rfl rfl) rfl rfl rfl rfl ?_
      refine r_p hq 3 (pc' := 80) (L' := [(0, .ref 41), (1, .int X1), (6, .int X6)]) (st' := [.int (X6 - ((1 : Int32))), .ref 45, .ref 41]) rfl ?_
      obtain ⟨g_80, h⟩ := z_ifo_some h
      refine r_ia (pc' := 81) (L' := [(0, .ref 41), (1, .int X1), (6, .int X6)]) H hq (z_at.mk 1 rfl rfl) (show zAr 45 0 60 = true from rfl) (tx_isub hx6 (rfl : (1 : Int32).toInt = 1)) g_80 rfl rfl ?_
      intro V_80 hV_80
      obtain ⟨o_81, h_81, h⟩ := Option.bind_eq_some_iff.mp h
      refine r_cvI (pc' := 84) (L' := [(0, .ref 41), (1, .int X1), (6, .int X6)]) (Ps := [.int V_80]) (rest := []) hq (z_at.mk 3 rfl rfl) (Or.inl ⟨rfl, rfl⟩) rfl rfl (by decide) (by decide) rfl (Nat.not_lt.mpr (Nat.le_of_ble_eq_true rfl)) rfl rfl (z_cat_le 0 rfl (by decide)) (z_lgl_le 2 rfl (by decide)) (by decide) (H.tg rfl) (by omega) (g_so_rank_ok hV_80 H h_81) rfl rfl ?_
      intro R_81 m_81 p_81 e_81 hR_81 H_81
      subst e_81
      refine r_p hq 2 (pc' := 86) (L' := [(0, .ref 41), (1, .int X1), (6, .int X6)]) (st' := [.int X1, .ref 41, .int R_81]) rfl ?_
      obtain ⟨o_86, h_86, h⟩ := Option.bind_eq_some_iff.mp h
      refine r_cvI (pc' := 89) (L' := [(0, .ref 41), (1, .int X1), (6, .int X6)]) (Ps := [.int X1]) (rest := [.int R_81]) hq (z_at.mk 3 rfl rfl) (Or.inl ⟨rfl, rfl⟩) rfl rfl (by decide) (by decide) rfl (Nat.not_lt.mpr (Nat.le_of_ble_eq_true rfl)) rfl rfl (z_cat_le 1 rfl (by decide)) (z_lgl_le 2 rfl (by decide)) (by decide) (H_81.tg rfl) (by omega) (g_so_rank_ok hx1 H_81 h_86) rfl rfl ?_
      intro R_86 m_86 p_86 e_86 hR_86 H_86
      subst e_86
      rcases z_ite h with ⟨c_89, h⟩ | ⟨c_89, h⟩
      · refine r_t2 (pc' := 114) (L' := [(0, .ref 41), (1, .int X1), (6, .int X6)]) hq (z_at.mk 3 rfl rfl) rfl hR_81 hR_86 c_89 rfl rfl ?_
        exact g_so_bringIn_L114_ok hx1 hx6 H_86 h
      · refine r_f2 (pc' := 92) (L' := [(0, .ref 41), (1, .int X1), (6, .int X6)]) hq (z_at.mk 3 rfl rfl) rfl hR_81 hR_86 c_89 rfl rfl ?_
        refine r_p hq 1 (pc' := 93) (L' := [(0, .ref 41), (1, .int X1), (6, .int X6)]) (st' := [.ref 41]) rfl ?_
        refine r_gR (b := 45) (pc' := 96) (L' := [(0, .ref 41), (1, .int X1), (6, .int X6)]) H_86 hq (z_at.mk 3 rfl rfl) rfl rfl rfl rfl ?_
        refine r_p hq 2 (pc' := 99) (L' := [(0, .ref 41), (1, .int X1), (6, .int X6)]) (st' := [.ref 41, .int X6, .ref 45]) rfl ?_
        refine r_gR (b := 45) (pc' := 102) (L' := [(0, .ref 41), (1, .int X1), (6, .int X6)]) H_86 hq (z_at.mk 3 rfl rfl) rfl rfl rfl rfl ?_
        refine r_p hq 3 (pc' := 106) (L' := [(0, .ref 41), (1, .int X1), (6, .int X6)]) (st' := [.int (X6 - ((1 : Int32))), .ref 45, .int X6, .ref 45]) rfl ?_
        obtain ⟨g_106, h⟩ := z_ifo_some h
        refine r_ia (pc' := 107) (L' := [(0, .ref 41), (1, .int X1), (6, .int X6)]) H_86 hq (z_at.mk 1 rfl rfl) (show zAr 45 0 60 = true from rfl) (tx_isub hx6 (rfl : (1 : Int32).toInt = 1)) g_106 rfl rfl ?_
        intro V_106 hV_106
        obtain ⟨g_107, h⟩ := z_ifo_some h
        refine r_is (pc' := 108) (L' := [(0, .ref 41), (1, .int X1), (6, .int X6)]) H_86 hq (z_at.mk 1 rfl rfl) (show zAr 45 0 60 = true from rfl) hx6 g_107 hV_106 rfl rfl ?_
        intro m_107 H_107
        refine r_p hq 2 (pc' := 66) (L' := [(0, .ref 41), (1, .int X1), (6, .int (X6 + (-1 : Int32)))]) (st' := []) rfl ?_
        exact ih hx1 (tx_iaddn hx6 (rfl : (-1 : Int32).toInt = -1)) H_107 h
def g_so_bringIn (x1 : Int) (x2 : Int) (x3 : Int) (y4 : Int) (σ : zS) : Option (Unit × zS) :=
  (g_so_isRow x1 σ).bind fun o_1 =>
  if o_1.1 = 0 then
    some ((), o_1.2)
  else
    (g_so_isIn x1 o_1.2).bind fun o_9 =>
    if o_9.1 ≠ 0 then
      some ((), o_9.2)
    else
      let v_16 := o_9.2 41 4
      if 60 ≤ v_16 then
        some ((), o_9.2)
      else
        (g_b_isPlace x2 x3 o_9.2).bind fun o_26 =>
        if o_26.1 ≠ 0 then
          if 0 ≤ x1 ∧ x1 < 60 then
          let s_39 := zu o_26.2 42 x1 x2
          if 0 ≤ x1 ∧ x1 < 60 then
          let s_46 := zu s_39 43 x1 x3
          if 0 ≤ x1 ∧ x1 < 60 then
          let s_54 := zu s_46 44 x1 y4
          (g_so_flip x1 s_54).bind fun o_57 =>
          let v_61 := o_57.2 41 4
          g_so_bringIn_L66 zK x1 v_61 o_57.2
          else none
          else none
          else none
        else
          some ((), o_26.2)
set_option maxHeartbeats 4000000 in
theorem g_so_bringIn_ok {xl : Nat} {xs : Nat → Int32} {X1 : Int32} {x1 : Int} (hx1 : X1.toInt = x1) {X2 : Int32} {x2 : Int} (hx2 : X2.toInt = x2) {X3 : Int32} {x3 : Int} (hx3 : X3.toInt = x3) {Y4 : Int64} {y4 : Int} (hy4 : Y4.toInt = y4) {σ : zS} {p : Nat} {m : zM} {o : Unit × zS} (H : zRep xl xs p m σ) (h : g_so_bringIn x1 x2 x3 y4 σ = some o) : zGo xl xs (fun p' => p = p') 3 83 0 (z_can 83 0 (lv_args 0 [.ref 41, .int X1, .int X2, .int X3, .long Y4])) [] m vV o.2 := by
  have hq : z_mth 83 = some z_r83 := rfl
  unfold g_so_bringIn at h
  show zGo xl xs (fun p' => p = p') 3 83 0 [(0, .ref 41), (1, .int X1), (2, .int X2), (3, .int X3), (4, .long Y4)] [] m vV o.2
  refine r_p hq 1 (pc' := 1) (L' := [(0, .ref 41), (1, .int X1), (2, .int X2), (3, .int X3), (4, .long Y4)]) (st' := [.int X1]) rfl ?_
  obtain ⟨o_1, h_1, h⟩ := Option.bind_eq_some_iff.mp h
  refine r_csI (pc' := 4) (L' := [(0, .ref 41), (1, .int X1), (2, .int X2), (3, .int X3), (4, .long Y4)]) (As := [.int X1]) (rest := []) (j := 80) hq (z_at.mk 3 rfl rfl) (Or.inl ⟨rfl, rfl⟩) rfl rfl (by omega) (g_so_isRow_ok hx1 H h_1) rfl rfl ?_
  intro R_1 m_1 p_1 e_1 hR_1 H_1
  subst e_1
  rcases z_ite h with ⟨c_4, h⟩ | ⟨c_4, h⟩
  · refine r_t1 (pc' := 32) (L' := []) hq (z_at.mk 3 rfl rfl) rfl hR_1 c_4 rfl rfl ?_
    cases h
    exact r_rv hq (z_at.mk 1 rfl rfl) rfl rfl H_1
  · refine r_f1 (pc' := 7) (L' := [(0, .ref 41), (1, .int X1), (2, .int X2), (3, .int X3), (4, .long Y4)]) hq (z_at.mk 3 rfl rfl) rfl hR_1 c_4 rfl rfl ?_
    refine r_p hq 2 (pc' := 9) (L' := [(0, .ref 41), (1, .int X1), (2, .int X2), (3, .int X3), (4, .long Y4)]) (st' := [.int X1, .ref 41]) rfl ?_
    obtain ⟨o_9, h_9, h⟩ := Option.bind_eq_some_iff.mp h
    refine r_cvI (pc' := 12) (L' := [(0, .ref 41), (1, .int X1), (2, .int X2), (3, .int X3), (4, .long Y4)]) (Ps := [.int X1]) (rest := []) hq (z_at.mk 3 rfl rfl) (Or.inl ⟨rfl, rfl⟩) rfl rfl (by decide) (by decide) rfl (Nat.not_lt.mpr (Nat.le_of_ble_eq_true rfl)) rfl rfl (z_cat_le 0 rfl (by decide)) (z_lgl_le 2 rfl (by decide)) (by decide) (H_1.tg rfl) (by omega) (g_so_isIn_ok hx1 H_1 h_9) rfl rfl ?_
    intro R_9 m_9 p_9 e_9 hR_9 H_9
    subst e_9
    rcases z_ite h with ⟨c_12, h⟩ | ⟨c_12, h⟩
    · refine r_t1 (pc' := 32) (L' := []) hq (z_at.mk 3 rfl rfl) rfl hR_9 c_12 rfl rfl ?_
      cases h
      exact r_rv hq (z_at.mk 1 rfl rfl) rfl rfl H_9
    · refine r_f1 (pc' := 15) (L' := [(0, .ref 41), (1, .int X1), (2, .int X2), (3, .int X3), (4, .long Y4)]) hq (z_at.mk 3 rfl rfl) rfl hR_9 c_12 rfl rfl ?_
      refine r_p hq 1 (pc' := 16) (L' := [(0, .ref 41), (1, .int X1), (2, .int X2), (3, .int X3), (4, .long Y4)]) (st' := [.ref 41]) rfl ?_
      refine r_gI (pc' := 19) (L' := [(0, .ref 41), (1, .int X1), (2, .int X2), (3, .int X3), (4, .long Y4)]) H_9 hq (z_at.mk 3 rfl rfl) rfl rfl rfl rfl ?_
      intro V_16 hV_16
      refine r_p hq 1 (pc' := 21) (L' := [(0, .ref 41), (1, .int X1), (2, .int X2), (3, .int X3), (4, .long Y4)]) (st' := [.int ((60 : Int32)), .int V_16]) rfl ?_
      rcases z_ite h with ⟨c_21, h⟩ | ⟨c_21, h⟩
      · refine r_t2 (pc' := 32) (L' := []) hq (z_at.mk 3 rfl rfl) rfl hV_16 (rfl : (60 : Int32).toInt = 60) c_21 rfl rfl ?_
        cases h
        exact r_rv hq (z_at.mk 1 rfl rfl) rfl rfl H_9
      · refine r_f2 (pc' := 24) (L' := [(0, .ref 41), (1, .int X1), (2, .int X2), (3, .int X3), (4, .long Y4)]) hq (z_at.mk 3 rfl rfl) rfl hV_16 (rfl : (60 : Int32).toInt = 60) c_21 rfl rfl ?_
        refine r_p hq 2 (pc' := 26) (L' := [(0, .ref 41), (1, .int X1), (2, .int X2), (3, .int X3), (4, .long Y4)]) (st' := [.int X3, .int X2]) rfl ?_
        obtain ⟨o_26, h_26, h⟩ := Option.bind_eq_some_iff.mp h
        refine r_csI (pc' := 29) (L' := [(0, .ref 41), (1, .int X1), (2, .int X2), (3, .int X3), (4, .long Y4)]) (As := [.int X2, .int X3]) (rest := []) (j := 0) hq (z_at.mk 3 rfl rfl) (Or.inl ⟨rfl, rfl⟩) rfl rfl (by omega) (g_b_isPlace_ok hx2 hx3 H_9 h_26) rfl rfl ?_
        intro R_26 m_26 p_26 e_26 hR_26 H_26
        subst e_26
        rcases z_ite h with ⟨c_29, h⟩ | ⟨c_29, h⟩
        · refine r_t1 (pc' := 33) (L' := [(0, .ref 41), (1, .int X1), (2, .int X2), (3, .int X3), (4, .long Y4)]) hq (z_at.mk 3 rfl rfl) rfl hR_26 c_29 rfl rfl ?_
          refine r_p hq 1 (pc' := 34) (L' := [(0, .ref 41), (1, .int X1), (2, .int X2), (3, .int X3), (4, .long Y4)]) (st' := [.ref 41]) rfl ?_
          refine r_gR (b := 42) (pc' := 37) (L' := [(0, .ref 41), (1, .int X1), (2, .int X2), (3, .int X3), (4, .long Y4)]) H_26 hq (z_at.mk 3 rfl rfl) rfl rfl rfl rfl ?_
          refine r_p hq 2 (pc' := 39) (L' := [(0, .ref 41), (1, .int X1), (2, .int X2), (3, .int X3), (4, .long Y4)]) (st' := [.int X2, .int X1, .ref 42]) rfl ?_
          obtain ⟨g_39, h⟩ := z_ifo_some h
          refine r_is (pc' := 40) (L' := [(0, .ref 41), (1, .int X1), (2, .int X2), (3, .int X3), (4, .long Y4)]) H_26 hq (z_at.mk 1 rfl rfl) (show zAr 42 0 60 = true from rfl) hx1 g_39 hx2 rfl rfl ?_
          intro m_39 H_39
          refine r_p hq 1 (pc' := 41) (L' := [(0, .ref 41), (1, .int X1), (2, .int X2), (3, .int X3), (4, .long Y4)]) (st' := [.ref 41]) rfl ?_
          refine r_gR (b := 43) (pc' := 44) (L' := [(0, .ref 41), (1, .int X1), (2, .int X2), (3, .int X3), (4, .long Y4)]) H_39 hq (z_at.mk 3 rfl rfl) rfl rfl rfl rfl ?_
          refine r_p hq 2 (pc' := 46) (L' := [(0, .ref 41), (1, .int X1), (2, .int X2), (3, .int X3), (4, .long Y4)]) (st' := [.int X3, .int X1, .ref 43]) rfl ?_
          obtain ⟨g_46, h⟩ := z_ifo_some h
          refine r_is (pc' := 47) (L' := [(0, .ref 41), (1, .int X1), (2, .int X2), (3, .int X3), (4, .long Y4)]) H_39 hq (z_at.mk 1 rfl rfl) (show zAr 43 0 60 = true from rfl) hx1 g_46 hx3 rfl rfl ?_
          intro m_46 H_46
          refine r_p hq 1 (pc' := 48) (L' := [(0, .ref 41), (1, .int X1), (2, .int X2), (3, .int X3), (4, .long Y4)]) (st' := [.ref 41]) rfl ?_
          refine r_gR (b := 44) (pc' := 51) (L' := [(0, .ref 41), (1, .int X1), (2, .int X2), (3, .int X3), (4, .long Y4)]) H_46 hq (z_at.mk 3 rfl rfl) rfl rfl rfl rfl ?_
          refine r_p hq 2 (pc' := 54) (L' := [(0, .ref 41), (1, .int X1), (2, .int X2), (3, .int X3), (4, .long Y4)]) (st' := [.long Y4, .int X1, .ref 44]) rfl ?_
          obtain ⟨g_54, h⟩ := z_ifo_some h
          refine r_ls (pc' := 55) (L' := [(0, .ref 41), (1, .int X1), (2, .int X2), (3, .int X3), (4, .long Y4)]) H_46 hq (z_at.mk 1 rfl rfl) (show zAr 44 1 60 = true from rfl) hx1 g_54 hy4 rfl rfl ?_
          intro m_54 H_54
          refine r_p hq 2 (pc' := 57) (L' := [(0, .ref 41), (1, .int X1), (2, .int X2), (3, .int X3), (4, .long Y4)]) (st' := [.int X1, .ref 41]) rfl ?_
          obtain ⟨o_57, h_57, h⟩ := Option.bind_eq_some_iff.mp h
          refine r_cvV (pc' := 60) (L' := [(0, .ref 41), (1, .int X1), (2, .int X2), (3, .int X3), (4, .long Y4)]) (Ps := [.int X1]) (rest := []) hq (z_at.mk 3 rfl rfl) (Or.inl ⟨rfl, rfl⟩) rfl rfl (by decide) (by decide) rfl (Nat.not_lt.mpr (Nat.le_of_ble_eq_true rfl)) rfl rfl (z_cat_le 0 rfl (by decide)) (z_lgl_le 2 rfl (by decide)) (by decide) (H_54.tg rfl) (by omega) (g_so_flip_ok hx1 H_54 h_57) rfl rfl ?_
          intro m_57 p_57 e_57 H_57
          subst e_57
          refine r_p hq 1 (pc' := 61) (L' := [(0, .ref 41), (1, .int X1), (2, .int X2), (3, .int X3), (4, .long Y4)]) (st' := [.ref 41]) rfl ?_
          refine r_gI (pc' := 64) (L' := [(0, .ref 41), (1, .int X1), (2, .int X2), (3, .int X3), (4, .long Y4)]) H_57 hq (z_at.mk 3 rfl rfl) rfl rfl rfl rfl ?_
          intro V_61 hV_61
          refine r_p hq 1 (pc' := 66) (L' := [(0, .ref 41), (1, .int X1), (6, .int V_61)]) (st' := []) rfl ?_
          exact g_so_bringIn_L66_ok zK hx1 hV_61 H_57 h
        · refine r_f1 (pc' := 32) (L' := []) hq (z_at.mk 3 rfl rfl) rfl hR_26 c_29 rfl rfl ?_
          cases h
          exact r_rv hq (z_at.mk 1 rfl rfl) rfl rfl H_26
def g_so_bringOut_L52 (g19 : Int → Int → Int → zS → Option (Int × zS)) (x1 : Int) (x2 : Int) (x3 : Int) (σ : zS) : Option (Int × zS) :=
  g19 x1 x2 (w32 (x3 + 1)) σ
set_option maxHeartbeats 4000000 in
theorem g_so_bringOut_L52_ok {xl : Nat} {xs : Nat → Int32} {g19 : Int → Int → Int → zS → Option (Int × zS)} (hg19 : ∀ {X1 : Int32} {x1 : Int} {X2 : Int32} {x2 : Int} {X3 : Int32} {x3 : Int} {σ : zS} {p : Nat} {m : zM} {o : Int × zS}, X1.toInt = x1 → X2.toInt = x2 → X3.toInt = x3 → zRep xl xs p m σ → g19 x1 x2 x3 σ = some o → zGo xl xs (fun p' => p = p') 3 84 19 [(0, .ref 41), (1, .int X1), (2, .int X2), (3, .int X3)] [] m (vI o.1) o.2) {X1 : Int32} {x1 : Int} (hx1 : X1.toInt = x1) {X2 : Int32} {x2 : Int} (hx2 : X2.toInt = x2) {X3 : Int32} {x3 : Int} (hx3 : X3.toInt = x3) {σ : zS} {p : Nat} {m : zM} {o : Int × zS} (H : zRep xl xs p m σ) (h : g_so_bringOut_L52 g19 x1 x2 x3 σ = some o) : zGo xl xs (fun p' => p = p') 3 84 52 [(0, .ref 41), (1, .int X1), (2, .int X2), (3, .int X3)] [] m (vI o.1) o.2 := by
  have hq : z_mth 84 = some z_r84 := rfl
  unfold g_so_bringOut_L52 at h
  refine r_p hq 2 (pc' := 19) (L' := [(0, .ref 41), (1, .int X1), (2, .int X2), (3, .int (X3 + (1 : Int32)))]) (st' := []) rfl ?_
  exact hg19 hx1 hx2 (tx_iadd hx3 (rfl : (1 : Int32).toInt = 1)) H h
def g_so_bringOut_L19 : Nat → Int → Int → Int → zS → Option (Int × zS)
  | 0, _, _, _, _ => none
  | n + 1, x1, x2, x3, σ =>
    let v_21 := σ 41 4
    if v_21 ≤ x3 then
      let s_60 := zu σ 41 4 x2
      if 0 ≤ x1 ∧ x1 < 60 then
      let v_68 := s_60 42 x1
      if 0 ≤ x1 ∧ x1 < 60 then
      let v_74 := s_60 42 x1
      if 0 ≤ x1 ∧ x1 < 60 then
      let v_80 := s_60 43 x1
      if 0 ≤ x1 ∧ x1 < 60 then
      let v_86 := s_60 43 x1
      (g_b_of v_68 v_74 v_80 v_86 s_60).bind fun o_87 =>
      some (o_87.1, o_87.2)
      else none
      else none
      else none
      else none
    else
      if 0 ≤ x3 ∧ x3 < 60 then
      let v_32 := σ 45 x3
      if v_32 = x1 then
        g_so_bringOut_L52 ((g_so_bringOut_L19 n)) x1 x2 x3 σ
      else
        if 0 ≤ x3 ∧ x3 < 60 then
        let v_47 := σ 45 x3
        if 0 ≤ x2 ∧ x2 < 60 then
        let s_48 := zu σ 45 x2 v_47
        g_so_bringOut_L52 ((g_so_bringOut_L19 n)) x1 (w32 (x2 + 1)) x3 s_48
        else none
        else none
      else none
set_option maxHeartbeats 4000000 in
theorem g_so_bringOut_L19_ok {xl : Nat} {xs : Nat → Int32} : ∀ (n : Nat) {X1 : Int32} {x1 : Int} {X2 : Int32} {x2 : Int} {X3 : Int32} {x3 : Int} {σ : zS} {p : Nat} {m : zM} {o : Int × zS}, X1.toInt = x1 → X2.toInt = x2 → X3.toInt = x3 → zRep xl xs p m σ → g_so_bringOut_L19 n x1 x2 x3 σ = some o → zGo xl xs (fun p' => p = p') 3 84 19 [(0, .ref 41), (1, .int X1), (2, .int X2), (3, .int X3)] [] m (vI o.1) o.2
  | 0, _, _, _, _, _, _, _, _, _, _, _, _, _, _, h => by cases h
  | n + 1, X1, x1, X2, x2, X3, x3, σ, p, m, o, hx1, hx2, hx3, H, h => by
    have hq : z_mth 84 = some z_r84 := rfl
    have ih := fun {X1 : Int32} {x1 : Int} {X2 : Int32} {x2 : Int} {X3 : Int32} {x3 : Int} {σ : zS} {p : Nat} {m : zM} {o : Int × zS} => g_so_bringOut_L19_ok (xl := xl) (xs := xs) n (X1 := X1) (x1 := x1) (X2 := X2) (x2 := x2) (X3 := X3) (x3 := x3) (σ := σ) (p := p) (m := m) (o := o)
    unfold g_so_bringOut_L19 at h
    refine r_p hq 2 (pc' := 21) (L' := [(0, .ref 41), (1, .int X1), (2, .int X2), (3, .int X3)]) (st' := [.ref 41, .int X3]) rfl ?_
    refine r_gI (pc' := 24) (L' := [(0, .ref 41), (1, .int X1), (2, .int X2), (3, .int X3)]) H hq (z_at.mk 3 rfl rfl) rfl rfl rfl rfl ?_
    intro V_21 hV_21
    rcases z_ite h with ⟨c_24, h⟩ | ⟨c_24, h⟩
    · refine r_t2 (pc' := 58) (L' := [(0, .ref 41), (1, .int X1), (2, .int X2), (3, .int X3)]) hq (z_at.mk 3 rfl rfl) rfl hx3 hV_21 c_24 rfl rfl ?_
      refine r_p hq 2 (pc' := 60) (L' := [(0, .ref 41), (1, .int X1), (2, .int X2), (3, .int X3)]) (st' := [.int X2, .ref 41]) rfl ?_
      refine r_pI (X := X2) (pc' := 63) (L' := [(0, .ref 41), (1, .int X1), (2, .int X2), (3, .int X3)]) H hq (z_at.mk 3 rfl rfl) rfl rfl hx2 (by decide) rfl rfl rfl rfl ?_
      intro m_60 H_60
      refine r_p hq 1 (pc' := 64) (L' := [(0, .ref 41), (1, .int X1), (2, .int X2), (3, .int X3)]) (st' := [.ref 41]) rfl ?_
      refine r_gR (b := 42) (pc' := 67) (L' := [(0, .ref 41), (1, .int X1), (2, .int X2), (3, .int X3)]) H_60 hq (z_at.mk 3 rfl rfl) rfl rfl rfl rfl ?_
      refine r_p hq 1 (pc' := 68) (L' := [(0, .ref 41), (1, .int X1), (2, .int X2), (3, .int X3)]) (st' := [.int X1, .ref 42]) rfl ?_
      obtain ⟨g_68, h⟩ := z_ifo_some h
      refine r_ia (pc' := 69) (L' := [(0, .ref 41), (1, .int X1), (2, .int X2), (3, .int X3)]) H_60 hq (z_at.mk 1 rfl rfl) (show zAr 42 0 60 = true from rfl) hx1 g_68 rfl rfl ?_
      intro V_68 hV_68
      refine r_p hq 1 (pc' := 70) (L' := [(0, .ref 41), (1, .int X1), (2, .int X2), (3, .int X3)]) (st' := [.ref 41, .int V_68]) rfl ?_
      refine r_gR (b := 42) (pc' := 73) (L' := [(0, .ref 41), (1, .int X1), (2, .int X2), (3, .int X3)]) H_60 hq (z_at.mk 3 rfl rfl) rfl rfl rfl rfl ?_
      refine r_p hq 1 (pc' := 74) (L' := [(0, .ref 41), (1, .int X1), (2, .int X2), (3, .int X3)]) (st' := [.int X1, .ref 42, .int V_68]) rfl ?_
      obtain ⟨g_74, h⟩ := z_ifo_some h
      refine r_ia (pc' := 75) (L' := [(0, .ref 41), (1, .int X1), (2, .int X2), (3, .int X3)]) H_60 hq (z_at.mk 1 rfl rfl) (show zAr 42 0 60 = true from rfl) hx1 g_74 rfl rfl ?_
      intro V_74 hV_74
      refine r_p hq 1 (pc' := 76) (L' := [(0, .ref 41), (1, .int X1), (2, .int X2), (3, .int X3)]) (st' := [.ref 41, .int V_74, .int V_68]) rfl ?_
      refine r_gR (b := 43) (pc' := 79) (L' := [(0, .ref 41), (1, .int X1), (2, .int X2), (3, .int X3)]) H_60 hq (z_at.mk 3 rfl rfl) rfl rfl rfl rfl ?_
      refine r_p hq 1 (pc' := 80) (L' := [(0, .ref 41), (1, .int X1), (2, .int X2), (3, .int X3)]) (st' := [.int X1, .ref 43, .int V_74, .int V_68]) rfl ?_
      obtain ⟨g_80, h⟩ := z_ifo_some h
      refine r_ia (pc' := 81) (L' := [(0, .ref 41), (1, .int X1), (2, .int X2), (3, .int X3)]) H_60 hq (z_at.mk 1 rfl rfl) (show zAr 43 0 60 = true from rfl) hx1 g_80 rfl rfl ?_
      intro V_80 hV_80
      refine r_p hq 1 (pc' := 82) (L' := [(0, .ref 41), (1, .int X1), (2, .int X2), (3, .int X3)]) (st' := [.ref 41, .int V_80, .int V_74, .int V_68]) rfl ?_
      refine r_gR (b := 43) (pc' := 85) (L' := [(0, .ref 41), (1, .int X1), (2, .int X2), (3, .int X3)]) H_60 hq (z_at.mk 3 rfl rfl) rfl rfl rfl rfl ?_
      refine r_p hq 1 (pc' := 86) (L' := [(0, .ref 41), (1, .int X1), (2, .int X2), (3, .int X3)]) (st' := [.int X1, .ref 43, .int V_80, .int V_74, .int V_68]) rfl ?_
      obtain ⟨g_86, h⟩ := z_ifo_some h
      refine r_ia (pc' := 87) (L' := [(0, .ref 41), (1, .int X1), (2, .int X2), (3, .int X3)]) H_60 hq (z_at.mk 1 rfl rfl) (show zAr 43 0 60 = true from rfl) hx1 g_86 rfl rfl ?_
      intro V_86 hV_86
      obtain ⟨o_87, h_87, h⟩ := Option.bind_eq_some_iff.mp h
      refine r_csI (pc' := 90) (L' := [(0, .ref 41), (1, .int X1), (2, .int X2), (3, .int X3)]) (As := [.int V_68, .int V_74, .int V_80, .int V_86]) (rest := []) (j := 2) hq (z_at.mk 3 rfl rfl) (Or.inl ⟨rfl, rfl⟩) rfl rfl (by omega) (g_b_of_ok hV_68 hV_74 hV_80 hV_86 H_60 h_87) rfl rfl ?_
      intro R_87 m_87 p_87 e_87 hR_87 H_87
      subst e_87
      cases h
      exact r_ri hq (z_at.mk 1 rfl rfl) rfl rfl hR_87 rfl H_87
    · refine r_f2 (pc' := 27) (L' := [(0, .ref 41), (1, .int X1), (2, .int X2), (3, .int X3)]) hq (z_at.mk 3 rfl rfl) rfl hx3 hV_21 c_24 rfl rfl ?_
      refine r_p hq 1 (pc' := 28) (L' := [(0, .ref 41), (1, .int X1), (2, .int X2), (3, .int X3)]) (st' := [.ref 41]) rfl ?_
      refine r_gR (b := 45) (pc' := 31) (L' := [(0, .ref 41), (1, .int X1), (2, .int X2), (3, .int X3)]) H hq (z_at.mk 3 rfl rfl) rfl rfl rfl rfl ?_
      refine r_p hq 1 (pc' := 32) (L' := [(0, .ref 41), (1, .int X1), (2, .int X2), (3, .int X3)]) (st' := [.int X3, .ref 45]) rfl ?_
      obtain ⟨g_32, h⟩ := z_ifo_some h
      refine r_ia (pc' := 33) (L' := [(0, .ref 41), (1, .int X1), (2, .int X2), (3, .int X3)]) H hq (z_at.mk 1 rfl rfl) (show zAr 45 0 60 = true from rfl) hx3 g_32 rfl rfl ?_
      intro V_32 hV_32
      refine r_p hq 1 (pc' := 34) (L' := [(0, .ref 41), (1, .int X1), (2, .int X2), (3, .int X3)]) (st' := [.int X1, .int V_32]) rfl ?_
      rcases z_ite h with ⟨c_34, h⟩ | ⟨c_34, h⟩
      · refine r_t2 (pc' := 52) (L' := [(0, .ref 41), (1, .int X1), (2, .int X2), (3, .int X3)]) hq (z_at.mk 3 rfl rfl) rfl hV_32 hx1 c_34 rfl rfl ?_
        exact g_so_bringOut_L52_ok ih hx1 hx2 hx3 H h
      · refine r_f2 (pc' := 37) (L' := [(0, .ref 41), (1, .int X1), (2, .int X2), (3, .int X3)]) hq (z_at.mk 3 rfl rfl) rfl hV_32 hx1 c_34 rfl rfl ?_
        refine r_p hq 1 (pc' := 38) (L' := [(0, .ref 41), (1, .int X1), (2, .int X2), (3, .int X3)]) (st' := [.ref 41]) rfl ?_
        refine r_gR (b := 45) (pc' := 41) (L' := [(0, .ref 41), (1, .int X1), (2, .int X2), (3, .int X3)]) H hq (z_at.mk 3 rfl rfl) rfl rfl rfl rfl ?_
        refine r_p hq 2 (pc' := 43) (L' := [(0, .ref 41), (1, .int X1), (2, .int X2), (3, .int X3)]) (st' := [.ref 41, .int X2, .ref 45]) rfl ?_
        refine r_gR (b := 45) (pc' := 46) (L' := [(0, .ref 41), (1, .int X1), (2, .int X2), (3, .int X3)]) H hq (z_at.mk 3 rfl rfl) rfl rfl rfl rfl ?_
        refine r_p hq 1 (pc' := 47) (L' := [(0, .ref 41), (1, .int X1), (2, .int X2), (3, .int X3)]) (st' := [.int X3, .ref 45, .int X2, .ref 45]) rfl ?_
        obtain ⟨g_47, h⟩ := z_ifo_some h
        refine r_ia (pc' := 48) (L' := [(0, .ref 41), (1, .int X1), (2, .int X2), (3, .int X3)]) H hq (z_at.mk 1 rfl rfl) (show zAr 45 0 60 = true from rfl) hx3 g_47 rfl rfl ?_
        intro V_47 hV_47
        obtain ⟨g_48, h⟩ := z_ifo_some h
        refine r_is (pc' := 49) (L' := [(0, .ref 41), (1, .int X1), (2, .int X2), (3, .int X3)]) H hq (z_at.mk 1 rfl rfl) (show zAr 45 0 60 = true from rfl) hx2 g_48 hV_47 rfl rfl ?_
        intro m_48 H_48
        refine r_p hq 1 (pc' := 52) (L' := [(0, .ref 41), (1, .int X1), (2, .int (X2 + (1 : Int32))), (3, .int X3)]) (st' := []) rfl ?_
        exact g_so_bringOut_L52_ok ih hx1 (tx_iadd hx2 (rfl : (1 : Int32).toInt = 1)) hx3 H_48 h
def g_so_bringOut (x1 : Int) (σ : zS) : Option (Int × zS) :=
  (g_so_isIn x1 σ).bind fun o_2 =>
  if o_2.1 ≠ 0 then
    (g_so_flip x1 o_2.2).bind fun o_12 =>
    g_so_bringOut_L19 zK x1 0 0 o_12.2
  else
    some (-1, o_2.2)
set_option maxHeartbeats 4000000 in
theorem g_so_bringOut_ok {xl : Nat} {xs : Nat → Int32} {X1 : Int32} {x1 : Int} (hx1 : X1.toInt = x1) {σ : zS} {p : Nat} {m : zM} {o : Int × zS} (H : zRep xl xs p m σ) (h : g_so_bringOut x1 σ = some o) : zGo xl xs (fun p' => p = p') 3 84 0 (z_can 84 0 (lv_args 0 [.ref 41, .int X1])) [] m (vI o.1) o.2 := by
  have hq : z_mth 84 = some z_r84 := rfl
  unfold g_so_bringOut at h
  show zGo xl xs (fun p' => p = p') 3 84 0 [(0, .ref 41), (1, .int X1)] [] m (vI o.1) o.2
  refine r_p hq 2 (pc' := 2) (L' := [(0, .ref 41), (1, .int X1)]) (st' := [.int X1, .ref 41]) rfl ?_
  obtain ⟨o_2, h_2, h⟩ := Option.bind_eq_some_iff.mp h
  refine r_cvI (pc' := 5) (L' := [(0, .ref 41), (1, .int X1)]) (Ps := [.int X1]) (rest := []) hq (z_at.mk 3 rfl rfl) (Or.inl ⟨rfl, rfl⟩) rfl rfl (by decide) (by decide) rfl (Nat.not_lt.mpr (Nat.le_of_ble_eq_true rfl)) rfl rfl (z_cat_le 0 rfl (by decide)) (z_lgl_le 2 rfl (by decide)) (by decide) (H.tg rfl) (by omega) (g_so_isIn_ok hx1 H h_2) rfl rfl ?_
  intro R_2 m_2 p_2 e_2 hR_2 H_2
  subst e_2
  rcases z_ite h with ⟨c_5, h⟩ | ⟨c_5, h⟩
  · refine r_t1 (pc' := 10) (L' := [(0, .ref 41), (1, .int X1)]) hq (z_at.mk 3 rfl rfl) rfl hR_2 c_5 rfl rfl ?_
    refine r_p hq 2 (pc' := 12) (L' := [(0, .ref 41), (1, .int X1)]) (st' := [.int X1, .ref 41]) rfl ?_
    obtain ⟨o_12, h_12, h⟩ := Option.bind_eq_some_iff.mp h
    refine r_cvV (pc' := 15) (L' := [(0, .ref 41), (1, .int X1)]) (Ps := [.int X1]) (rest := []) hq (z_at.mk 3 rfl rfl) (Or.inl ⟨rfl, rfl⟩) rfl rfl (by decide) (by decide) rfl (Nat.not_lt.mpr (Nat.le_of_ble_eq_true rfl)) rfl rfl (z_cat_le 0 rfl (by decide)) (z_lgl_le 2 rfl (by decide)) (by decide) (H_2.tg rfl) (by omega) (g_so_flip_ok hx1 H_2 h_12) rfl rfl ?_
    intro m_12 p_12 e_12 H_12
    subst e_12
    refine r_p hq 4 (pc' := 19) (L' := [(0, .ref 41), (1, .int X1), (2, .int ((0 : Int32))), (3, .int ((0 : Int32)))]) (st' := []) rfl ?_
    exact g_so_bringOut_L19_ok zK hx1 (rfl : (0 : Int32).toInt = 0) (rfl : (0 : Int32).toInt = 0) H_12 h
  · refine r_f1 (pc' := 8) (L' := [(0, .ref 41), (1, .int X1)]) hq (z_at.mk 3 rfl rfl) rfl hR_2 c_5 rfl rfl ?_
    refine r_p hq 1 (pc' := 9) (L' := [(0, .ref 41), (1, .int X1)]) (st' := [.int ((-1 : Int32))]) rfl ?_
    cases h
    exact r_ri hq (z_at.mk 1 rfl rfl) rfl rfl (rfl : (-1 : Int32).toInt = -1) rfl H_2
def g_ta_append (x1 : Int) (σ : zS) : Option (Int × zS) :=
  let v_1 := σ 120 1
  if v_1 < 160 then
    let v_17 := σ 120 1
    if 0 ≤ v_17 ∧ v_17 < 160 then
    let s_22 := zu σ 121 v_17 (w8 (w8 x1))
    let v_25 := s_22 120 1
    let s_30 := zu s_22 120 1 (w32 (v_25 + 1))
    some (1, s_30)
    else none
  else
    some (0, σ)
set_option maxHeartbeats 4000000 in
theorem g_ta_append_ok {xl : Nat} {xs : Nat → Int32} {X1 : Int32} {x1 : Int} (hx1 : X1.toInt = x1) {σ : zS} {p : Nat} {m : zM} {o : Int × zS} (H : zRep xl xs p m σ) (h : g_ta_append x1 σ = some o) : zGo xl xs (fun p' => p = p') 1 91 0 (z_can 91 0 (lv_args 0 [.ref 120, .int X1])) [] m (vI o.1) o.2 := by
  have hq : z_mth 91 = some z_r91 := rfl
  unfold g_ta_append at h
  show zGo xl xs (fun p' => p = p') 1 91 0 [(0, .ref 120), (1, .int X1)] [] m (vI o.1) o.2
  refine r_p hq 1 (pc' := 1) (L' := [(0, .ref 120), (1, .int X1)]) (st' := [.ref 120]) rfl ?_
  refine r_gI (pc' := 4) (L' := [(0, .ref 120), (1, .int X1)]) H hq (z_at.mk 3 rfl rfl) rfl rfl rfl rfl ?_
  intro V_1 hV_1
  refine r_p hq 1 (pc' := 7) (L' := [(0, .ref 120), (1, .int X1)]) (st' := [.int ((160 : Int32)), .int V_1]) rfl ?_
  rcases z_ite h with ⟨c_7, h⟩ | ⟨c_7, h⟩
  · refine r_t2 (pc' := 12) (L' := [(0, .ref 120), (1, .int X1)]) hq (z_at.mk 3 rfl rfl) rfl hV_1 (rfl : (160 : Int32).toInt = 160) c_7 rfl rfl ?_
    refine r_p hq 1 (pc' := 13) (L' := [(0, .ref 120), (1, .int X1)]) (st' := [.ref 120]) rfl ?_
    refine r_gR (b := 121) (pc' := 16) (L' := [(0, .ref 120), (1, .int X1)]) H hq (z_at.mk 3 rfl rfl) rfl rfl rfl rfl ?_
    refine r_p hq 1 (pc' := 17) (L' := [(0, .ref 120), (1, .int X1)]) (st' := [.ref 120, .ref 121]) rfl ?_
    refine r_gI (pc' := 20) (L' := [(0, .ref 120), (1, .int X1)]) H hq (z_at.mk 3 rfl rfl) rfl rfl rfl rfl ?_
    intro V_17 hV_17
    refine r_p hq 2 (pc' := 22) (L' := [(0, .ref 120), (1, .int X1)]) (st' := [.int X1.toInt8.toInt32, .int V_17, .ref 121]) rfl ?_
    obtain ⟨g_22, h⟩ := z_ifo_some h
    refine r_bs (pc' := 23) (L' := [(0, .ref 120), (1, .int X1)]) H hq (z_at.mk 1 rfl rfl) (show zAr 121 2 160 = true from rfl) hV_17 g_22 (tx_i2b hx1) rfl rfl ?_
    intro m_22 H_22
    refine r_p hq 2 (pc' := 25) (L' := [(0, .ref 120), (1, .int X1)]) (st' := [.ref 120, .ref 120]) rfl ?_
    refine r_gI (pc' := 28) (L' := [(0, .ref 120), (1, .int X1)]) H_22 hq (z_at.mk 3 rfl rfl) rfl rfl rfl rfl ?_
    intro V_25 hV_25
    refine r_p hq 2 (pc' := 30) (L' := [(0, .ref 120), (1, .int X1)]) (st' := [.int (V_25 + ((1 : Int32))), .ref 120]) rfl ?_
    refine r_pI (X := V_25 + ((1 : Int32))) (pc' := 33) (L' := [(0, .ref 120), (1, .int X1)]) H_22 hq (z_at.mk 3 rfl rfl) rfl rfl (tx_iadd hV_25 (rfl : (1 : Int32).toInt = 1)) (by decide) rfl rfl rfl rfl ?_
    intro m_30 H_30
    refine r_p hq 1 (pc' := 34) (L' := [(0, .ref 120), (1, .int X1)]) (st' := [.int ((1 : Int32))]) rfl ?_
    cases h
    exact r_ri hq (z_at.mk 1 rfl rfl) rfl rfl (rfl : (1 : Int32).toInt = 1) rfl H_30
  · refine r_f2 (pc' := 10) (L' := [(0, .ref 120), (1, .int X1)]) hq (z_at.mk 3 rfl rfl) rfl hV_1 (rfl : (160 : Int32).toInt = 160) c_7 rfl rfl ?_
    refine r_p hq 1 (pc' := 11) (L' := [(0, .ref 120), (1, .int X1)]) (st' := [.int ((0 : Int32))]) rfl ?_
    cases h
    exact r_ri hq (z_at.mk 1 rfl rfl) rfl rfl (rfl : (0 : Int32).toInt = 0) rfl H
def g_ta_begin (σ : zS) : Option (Unit × zS) :=
  let s_2 := zu σ 120 2 0
  let s_7 := zu s_2 120 3 (-1)
  some ((), s_7)
set_option maxHeartbeats 4000000 in
theorem g_ta_begin_ok {xl : Nat} {xs : Nat → Int32} {σ : zS} {p : Nat} {m : zM} {o : Unit × zS} (H : zRep xl xs p m σ) (h : g_ta_begin σ = some o) : zGo xl xs (fun p' => p = p') 1 92 0 (z_can 92 0 (lv_args 0 [.ref 120])) [] m vV o.2 := by
  have hq : z_mth 92 = some z_r92 := rfl
  unfold g_ta_begin at h
  show zGo xl xs (fun p' => p = p') 1 92 0 [(0, .ref 120)] [] m vV o.2
  refine r_p hq 2 (pc' := 2) (L' := [(0, .ref 120)]) (st' := [.int ((0 : Int32)), .ref 120]) rfl ?_
  refine r_pI (X := (0 : Int32)) (pc' := 5) (L' := [(0, .ref 120)]) H hq (z_at.mk 3 rfl rfl) rfl rfl (rfl : (0 : Int32).toInt = 0) (by decide) rfl rfl rfl rfl ?_
  intro m_2 H_2
  refine r_p hq 2 (pc' := 7) (L' := [(0, .ref 120)]) (st' := [.int ((-1 : Int32)), .ref 120]) rfl ?_
  refine r_pI (X := (-1 : Int32)) (pc' := 10) (L' := [(0, .ref 120)]) H_2 hq (z_at.mk 3 rfl rfl) rfl rfl (rfl : (-1 : Int32).toInt = -1) (by decide) rfl rfl rfl rfl ?_
  intro m_7 H_7
  cases h
  exact r_rv hq (z_at.mk 1 rfl rfl) rfl rfl H_7
def g_ta_end (x1 : Int) (σ : zS) : Option (Int × zS) :=
  let s_2 := zu σ 120 1 0
  (g_ta_isSound s_2).bind fun o_6 =>
  if o_6.1 = 0 then
    let v_19 := o_6.2 120 3
    some (w32 ((-100) - v_19), o_6.2)
  else
    some (x1, o_6.2)
set_option maxHeartbeats 4000000 in
theorem g_ta_end_ok {xl : Nat} {xs : Nat → Int32} {X1 : Int32} {x1 : Int} (hx1 : X1.toInt = x1) {σ : zS} {p : Nat} {m : zM} {o : Int × zS} (H : zRep xl xs p m σ) (h : g_ta_end x1 σ = some o) : zGo xl xs (fun p' => p = p') 2 94 0 (z_can 94 0 (lv_args 0 [.ref 120, .int X1])) [] m (vI o.1) o.2 := by
  have hq : z_mth 94 = some z_r94 := rfl
  unfold g_ta_end at h
  show zGo xl xs (fun p' => p = p') 2 94 0 [(0, .ref 120), (1, .int X1)] [] m (vI o.1) o.2
  refine r_p hq 2 (pc' := 2) (L' := [(0, .ref 120), (1, .int X1)]) (st' := [.int ((0 : Int32)), .ref 120]) rfl ?_
  refine r_pI (X := (0 : Int32)) (pc' := 5) (L' := [(0, .ref 120), (1, .int X1)]) H hq (z_at.mk 3 rfl rfl) rfl rfl (rfl : (0 : Int32).toInt = 0) (by decide) rfl rfl rfl rfl ?_
  intro m_2 H_2
  refine r_p hq 1 (pc' := 6) (L' := [(0, .ref 120), (1, .int X1)]) (st' := [.ref 120]) rfl ?_
  obtain ⟨o_6, h_6, h⟩ := Option.bind_eq_some_iff.mp h
  refine r_cvI (pc' := 9) (L' := [(0, .ref 120), (1, .int X1)]) (Ps := []) (rest := []) hq (z_at.mk 3 rfl rfl) (Or.inl ⟨rfl, rfl⟩) rfl rfl (by decide) (by decide) rfl (Nat.not_lt.mpr (Nat.le_of_ble_eq_true rfl)) rfl rfl (z_cat_le 0 rfl (by decide)) (z_lgl_le 1 rfl (by decide)) (by decide) (H_2.tg rfl) (by omega) (g_ta_isSound_ok H_2 h_6) rfl rfl ?_
  intro R_6 m_6 p_6 e_6 hR_6 H_6
  subst e_6
  rcases z_ite h with ⟨c_9, h⟩ | ⟨c_9, h⟩
  · refine r_t1 (pc' := 16) (L' := [(0, .ref 120), (1, .int X1)]) hq (z_at.mk 3 rfl rfl) rfl hR_6 c_9 rfl rfl ?_
    refine r_p hq 2 (pc' := 19) (L' := [(0, .ref 120), (1, .int X1)]) (st' := [.ref 120, .int ((-100 : Int32))]) rfl ?_
    refine r_gI (pc' := 22) (L' := [(0, .ref 120), (1, .int X1)]) H_6 hq (z_at.mk 3 rfl rfl) rfl rfl rfl rfl ?_
    intro V_19 hV_19
    refine r_p hq 1 (pc' := 23) (L' := []) (st' := [.int (((-100 : Int32)) - V_19)]) rfl ?_
    cases h
    exact r_ri hq (z_at.mk 1 rfl rfl) rfl rfl (tx_isub (rfl : (-100 : Int32).toInt = -100) hV_19) rfl H_6
  · refine r_f1 (pc' := 12) (L' := [(0, .ref 120), (1, .int X1)]) hq (z_at.mk 3 rfl rfl) rfl hR_6 c_9 rfl rfl ?_
    refine r_p hq 2 (pc' := 23) (L' := []) (st' := [.int X1]) rfl ?_
    cases h
    exact r_ri hq (z_at.mk 1 rfl rfl) rfl rfl hx1 rfl H_6
def g_ta_plainBox (σ : zS) : Option (Int × zS) :=
  (g_ta_number 2 0 31 σ).bind fun o_5 =>
  (g_ta_wants 45 o_5.2).bind fun o_12 =>
  (g_ta_number 2 o_5.1 31 o_12.2).bind fun o_20 =>
  (g_ta_wants 44 o_20.2).bind fun o_27 =>
  (g_ta_number 2 0 31 o_27.2).bind fun o_35 =>
  (g_ta_wants 45 o_35.2).bind fun o_42 =>
  (g_ta_number 2 o_35.1 31 o_42.2).bind fun o_50 =>
  (g_ta_isSound o_50.2).bind fun o_56 =>
  if o_56.1 = 0 then
    some (-1, o_56.2)
  else
    (g_b_of o_5.1 o_20.1 o_35.1 o_50.1 o_56.2).bind fun o_67 =>
    some (o_67.1, o_67.2)
set_option maxHeartbeats 4000000 in
theorem g_ta_plainBox_ok {xl : Nat} {xs : Nat → Int32} {σ : zS} {p : Nat} {m : zM} {o : Int × zS} (H : zRep xl xs p m σ) (h : g_ta_plainBox σ = some o) : zGo xl xs (fun p' => p = p') 3 104 0 (z_can 104 0 (lv_args 0 [.ref 120])) [] m (vI o.1) o.2 := by
  have hq : z_mth 104 = some z_r104 := rfl
  unfold g_ta_plainBox at h
  show zGo xl xs (fun p' => p = p') 3 104 0 [(0, .ref 120)] [] m (vI o.1) o.2
  refine r_p hq 4 (pc' := 5) (L' := [(0, .ref 120)]) (st' := [.int ((31 : Int32)), .int ((0 : Int32)), .int ((2 : Int32)), .ref 120]) rfl ?_
  obtain ⟨o_5, h_5, h⟩ := Option.bind_eq_some_iff.mp h
  refine r_cvI (pc' := 8) (L' := [(0, .ref 120)]) (Ps := [.int ((2 : Int32)), .int ((0 : Int32)), .int ((31 : Int32))]) (rest := []) hq (z_at.mk 3 rfl rfl) (Or.inl ⟨rfl, rfl⟩) rfl rfl (by decide) (by decide) rfl (Nat.not_lt.mpr (Nat.le_of_ble_eq_true rfl)) rfl rfl (z_cat_le 0 rfl (by decide)) (z_lgl_le 4 rfl (by decide)) (by decide) (H.tg rfl) (by omega) (g_ta_number_ok (rfl : (2 : Int32).toInt = 2) (rfl : (0 : Int32).toInt = 0) (rfl : (31 : Int32).toInt = 31) H h_5) rfl rfl ?_
  intro R_5 m_5 p_5 e_5 hR_5 H_5
  subst e_5
  refine r_p hq 3 (pc' := 12) (L' := [(1, .int R_5), (0, .ref 120)]) (st' := [.int ((45 : Int32)), .ref 120]) rfl ?_
  obtain ⟨o_12, h_12, h⟩ := Option.bind_eq_some_iff.mp h
  refine r_cvV (pc' := 15) (L' := [(1, .int R_5), (0, .ref 120)]) (Ps := [.int ((45 : Int32))]) (rest := []) hq (z_at.mk 3 rfl rfl) (Or.inl ⟨rfl, rfl⟩) rfl rfl (by decide) (by decide) rfl (Nat.not_lt.mpr (Nat.le_of_ble_eq_true rfl)) rfl rfl (z_cat_le 0 rfl (by decide)) (z_lgl_le 2 rfl (by decide)) (by decide) (H_5.tg rfl) (by omega) (g_ta_wants_ok (rfl : (45 : Int32).toInt = 45) H_5 h_12) rfl rfl ?_
  intro m_12 p_12 e_12 H_12
  subst e_12
  refine r_p hq 4 (pc' := 20) (L' := [(1, .int R_5), (0, .ref 120)]) (st' := [.int ((31 : Int32)), .int R_5, .int ((2 : Int32)), .ref 120]) rfl ?_
  obtain ⟨o_20, h_20, h⟩ := Option.bind_eq_some_iff.mp h
  refine r_cvI (pc' := 23) (L' := [(1, .int R_5), (0, .ref 120)]) (Ps := [.int ((2 : Int32)), .int R_5, .int ((31 : Int32))]) (rest := []) hq (z_at.mk 3 rfl rfl) (Or.inl ⟨rfl, rfl⟩) rfl rfl (by decide) (by decide) rfl (Nat.not_lt.mpr (Nat.le_of_ble_eq_true rfl)) rfl rfl (z_cat_le 0 rfl (by decide)) (z_lgl_le 4 rfl (by decide)) (by decide) (H_12.tg rfl) (by omega) (g_ta_number_ok (rfl : (2 : Int32).toInt = 2) hR_5 (rfl : (31 : Int32).toInt = 31) H_12 h_20) rfl rfl ?_
  intro R_20 m_20 p_20 e_20 hR_20 H_20
  subst e_20
  refine r_p hq 3 (pc' := 27) (L' := [(2, .int R_20), (1, .int R_5), (0, .ref 120)]) (st' := [.int ((44 : Int32)), .ref 120]) rfl ?_
  obtain ⟨o_27, h_27, h⟩ := Option.bind_eq_some_iff.mp h
  refine r_cvV (pc' := 30) (L' := [(2, .int R_20), (1, .int R_5), (0, .ref 120)]) (Ps := [.int ((44 : Int32))]) (rest := []) hq (z_at.mk 3 rfl rfl) (Or.inl ⟨rfl, rfl⟩) rfl rfl (by decide) (by decide) rfl (Nat.not_lt.mpr (Nat.le_of_ble_eq_true rfl)) rfl rfl (z_cat_le 0 rfl (by decide)) (z_lgl_le 2 rfl (by decide)) (by decide) (H_20.tg rfl) (by omega) (g_ta_wants_ok (rfl : (44 : Int32).toInt = 44) H_20 h_27) rfl rfl ?_
  intro m_27 p_27 e_27 H_27
  subst e_27
  refine r_p hq 4 (pc' := 35) (L' := [(2, .int R_20), (1, .int R_5), (0, .ref 120)]) (st' := [.int ((31 : Int32)), .int ((0 : Int32)), .int ((2 : Int32)), .ref 120]) rfl ?_
  obtain ⟨o_35, h_35, h⟩ := Option.bind_eq_some_iff.mp h
  refine r_cvI (pc' := 38) (L' := [(2, .int R_20), (1, .int R_5), (0, .ref 120)]) (Ps := [.int ((2 : Int32)), .int ((0 : Int32)), .int ((31 : Int32))]) (rest := []) hq (z_at.mk 3 rfl rfl) (Or.inl ⟨rfl, rfl⟩) rfl rfl (by decide) (by decide) rfl (Nat.not_lt.mpr (Nat.le_of_ble_eq_true rfl)) rfl rfl (z_cat_le 0 rfl (by decide)) (z_lgl_le 4 rfl (by decide)) (by decide) (H_27.tg rfl) (by omega) (g_ta_number_ok (rfl : (2 : Int32).toInt = 2) (rfl : (0 : Int32).toInt = 0) (rfl : (31 : Int32).toInt = 31) H_27 h_35) rfl rfl ?_
  intro R_35 m_35 p_35 e_35 hR_35 H_35
  subst e_35
  refine r_p hq 3 (pc' := 42) (L' := [(3, .int R_35), (2, .int R_20), (1, .int R_5), (0, .ref 120)]) (st' := [.int ((45 : Int32)), .ref 120]) rfl ?_
  obtain ⟨o_42, h_42, h⟩ := Option.bind_eq_some_iff.mp h
  refine r_cvV (pc' := 45) (L' := [(3, .int R_35), (2, .int R_20), (1, .int R_5), (0, .ref 120)]) (Ps := [.int ((45 : Int32))]) (rest := []) hq (z_at.mk 3 rfl rfl) (Or.inl ⟨rfl, rfl⟩) rfl rfl (by decide) (by decide) rfl (Nat.not_lt.mpr (Nat.le_of_ble_eq_true rfl)) rfl rfl (z_cat_le 0 rfl (by decide)) (z_lgl_le 2 rfl (by decide)) (by decide) (H_35.tg rfl) (by omega) (g_ta_wants_ok (rfl : (45 : Int32).toInt = 45) H_35 h_42) rfl rfl ?_
  intro m_42 p_42 e_42 H_42
  subst e_42
  refine r_p hq 4 (pc' := 50) (L' := [(3, .int R_35), (2, .int R_20), (1, .int R_5), (0, .ref 120)]) (st' := [.int ((31 : Int32)), .int R_35, .int ((2 : Int32)), .ref 120]) rfl ?_
  obtain ⟨o_50, h_50, h⟩ := Option.bind_eq_some_iff.mp h
  refine r_cvI (pc' := 53) (L' := [(3, .int R_35), (2, .int R_20), (1, .int R_5), (0, .ref 120)]) (Ps := [.int ((2 : Int32)), .int R_35, .int ((31 : Int32))]) (rest := []) hq (z_at.mk 3 rfl rfl) (Or.inl ⟨rfl, rfl⟩) rfl rfl (by decide) (by decide) rfl (Nat.not_lt.mpr (Nat.le_of_ble_eq_true rfl)) rfl rfl (z_cat_le 0 rfl (by decide)) (z_lgl_le 4 rfl (by decide)) (by decide) (H_42.tg rfl) (by omega) (g_ta_number_ok (rfl : (2 : Int32).toInt = 2) hR_35 (rfl : (31 : Int32).toInt = 31) H_42 h_50) rfl rfl ?_
  intro R_50 m_50 p_50 e_50 hR_50 H_50
  subst e_50
  refine r_p hq 2 (pc' := 56) (L' := [(4, .int R_50), (3, .int R_35), (2, .int R_20), (1, .int R_5), (0, .ref 120)]) (st' := [.ref 120]) rfl ?_
  obtain ⟨o_56, h_56, h⟩ := Option.bind_eq_some_iff.mp h
  refine r_cvI (pc' := 59) (L' := [(4, .int R_50), (3, .int R_35), (2, .int R_20), (1, .int R_5), (0, .ref 120)]) (Ps := []) (rest := []) hq (z_at.mk 3 rfl rfl) (Or.inl ⟨rfl, rfl⟩) rfl rfl (by decide) (by decide) rfl (Nat.not_lt.mpr (Nat.le_of_ble_eq_true rfl)) rfl rfl (z_cat_le 0 rfl (by decide)) (z_lgl_le 1 rfl (by decide)) (by decide) (H_50.tg rfl) (by omega) (g_ta_isSound_ok H_50 h_56) rfl rfl ?_
  intro R_56 m_56 p_56 e_56 hR_56 H_56
  subst e_56
  rcases z_ite h with ⟨c_59, h⟩ | ⟨c_59, h⟩
  · refine r_t1 (pc' := 73) (L' := [(4, .int R_50), (3, .int R_35), (2, .int R_20), (1, .int R_5), (0, .ref 120)]) hq (z_at.mk 3 rfl rfl) rfl hR_56 c_59 rfl rfl ?_
    refine r_p hq 1 (pc' := 74) (L' := []) (st' := [.int ((-1 : Int32))]) rfl ?_
    cases h
    exact r_ri hq (z_at.mk 1 rfl rfl) rfl rfl (rfl : (-1 : Int32).toInt = -1) rfl H_56
  · refine r_f1 (pc' := 62) (L' := [(4, .int R_50), (3, .int R_35), (2, .int R_20), (1, .int R_5), (0, .ref 120)]) hq (z_at.mk 3 rfl rfl) rfl hR_56 c_59 rfl rfl ?_
    refine r_p hq 4 (pc' := 67) (L' := [(4, .int R_50), (3, .int R_35), (2, .int R_20), (1, .int R_5), (0, .ref 120)]) (st' := [.int R_50, .int R_35, .int R_20, .int R_5]) rfl ?_
    obtain ⟨o_67, h_67, h⟩ := Option.bind_eq_some_iff.mp h
    refine r_csI (pc' := 70) (L' := [(4, .int R_50), (3, .int R_35), (2, .int R_20), (1, .int R_5), (0, .ref 120)]) (As := [.int R_5, .int R_20, .int R_35, .int R_50]) (rest := []) (j := 2) hq (z_at.mk 3 rfl rfl) (Or.inl ⟨rfl, rfl⟩) rfl rfl (by omega) (g_b_of_ok hR_5 hR_20 hR_35 hR_50 H_56 h_67) rfl rfl ?_
    intro R_67 m_67 p_67 e_67 hR_67 H_67
    subst e_67
    refine r_p hq 1 (pc' := 74) (L' := []) (st' := [.int R_67]) rfl ?_
    cases h
    exact r_ri hq (z_at.mk 1 rfl rfl) rfl rfl hR_67 rfl H_67
def g_wa_has (x1 : Int) (σ : zS) : Option (Int × zS) :=
  if x1 < 0 then
    some (0, σ)
  else
    let v_6 := σ 65 5
    if v_6 ≤ x1 then
      some (0, σ)
    else
      if 6 ≤ x1 then
        some (0, σ)
      else
        some (1, σ)
set_option maxHeartbeats 4000000 in
theorem g_wa_has_ok {xl : Nat} {xs : Nat → Int32} {X1 : Int32} {x1 : Int} (hx1 : X1.toInt = x1) {σ : zS} {p : Nat} {m : zM} {o : Int × zS} (H : zRep xl xs p m σ) (h : g_wa_has x1 σ = some o) : zGo xl xs (fun p' => p = p') 1 108 0 (z_can 108 0 (lv_args 0 [.ref 65, .int X1])) [] m (vI o.1) o.2 := by
  have hq : z_mth 108 = some z_r108 := rfl
  unfold g_wa_has at h
  show zGo xl xs (fun p' => p = p') 1 108 0 [(0, .ref 65), (1, .int X1)] [] m (vI o.1) o.2
  refine r_p hq 1 (pc' := 1) (L' := [(0, .ref 65), (1, .int X1)]) (st' := [.int X1]) rfl ?_
  rcases z_ite h with ⟨c_1, h⟩ | ⟨c_1, h⟩
  · refine r_t1 (pc' := 22) (L' := []) hq (z_at.mk 3 rfl rfl) rfl hx1 c_1 rfl rfl ?_
    refine r_p hq 1 (pc' := 23) (L' := []) (st' := [.int ((0 : Int32))]) rfl ?_
    cases h
    exact r_ri hq (z_at.mk 1 rfl rfl) rfl rfl (rfl : (0 : Int32).toInt = 0) rfl H
  · refine r_f1 (pc' := 4) (L' := [(0, .ref 65), (1, .int X1)]) hq (z_at.mk 3 rfl rfl) rfl hx1 c_1 rfl rfl ?_
    refine r_p hq 2 (pc' := 6) (L' := [(0, .ref 65), (1, .int X1)]) (st' := [.ref 65, .int X1]) rfl ?_
    refine r_gI (pc' := 9) (L' := [(0, .ref 65), (1, .int X1)]) H hq (z_at.mk 3 rfl rfl) rfl rfl rfl rfl ?_
    intro V_6 hV_6
    rcases z_ite h with ⟨c_9, h⟩ | ⟨c_9, h⟩
    · refine r_t2 (pc' := 22) (L' := []) hq (z_at.mk 3 rfl rfl) rfl hx1 hV_6 c_9 rfl rfl ?_
      refine r_p hq 1 (pc' := 23) (L' := []) (st' := [.int ((0 : Int32))]) rfl ?_
      cases h
      exact r_ri hq (z_at.mk 1 rfl rfl) rfl rfl (rfl : (0 : Int32).toInt = 0) rfl H
    · refine r_f2 (pc' := 12) (L' := [(0, .ref 65), (1, .int X1)]) hq (z_at.mk 3 rfl rfl) rfl hx1 hV_6 c_9 rfl rfl ?_
      refine r_p hq 2 (pc' := 15) (L' := [(0, .ref 65), (1, .int X1)]) (st' := [.int ((6 : Int32)), .int X1]) rfl ?_
      rcases z_ite h with ⟨c_15, h⟩ | ⟨c_15, h⟩
      · refine r_t2 (pc' := 22) (L' := []) hq (z_at.mk 3 rfl rfl) rfl hx1 (rfl : (6 : Int32).toInt = 6) c_15 rfl rfl ?_
        refine r_p hq 1 (pc' := 23) (L' := []) (st' := [.int ((0 : Int32))]) rfl ?_
        cases h
        exact r_ri hq (z_at.mk 1 rfl rfl) rfl rfl (rfl : (0 : Int32).toInt = 0) rfl H
      · refine r_f2 (pc' := 18) (L' := [(0, .ref 65), (1, .int X1)]) hq (z_at.mk 3 rfl rfl) rfl hx1 (rfl : (6 : Int32).toInt = 6) c_15 rfl rfl ?_
        refine r_p hq 2 (pc' := 23) (L' := []) (st' := [.int ((1 : Int32))]) rfl ?_
        cases h
        exact r_ri hq (z_at.mk 1 rfl rfl) rfl rfl (rfl : (1 : Int32).toInt = 1) rfl H
def g_wa_add (x1 : Int) (x2 : Int) (σ : zS) : Option (Int × zS) :=
  let v_1 := σ 65 5
  if v_1 < 6 then
    let v_16 := σ 65 5
    if 0 ≤ v_16 ∧ v_16 < 6 then
    let s_20 := zu σ 66 v_16 x1
    let v_26 := s_20 65 5
    if 0 ≤ v_26 ∧ v_26 < 6 then
    let s_30 := zu s_20 67 v_26 x2
    let v_36 := s_30 65 5
    if 0 ≤ v_36 ∧ v_36 < 6 then
    let s_40 := zu s_30 68 v_36 0
    let v_43 := s_40 65 5
    let s_48 := zu s_40 65 5 (w32 (v_43 + 1))
    some (1, s_48)
    else none
    else none
    else none
  else
    some (0, σ)
set_option maxHeartbeats 4000000 in
theorem g_wa_add_ok {xl : Nat} {xs : Nat → Int32} {X1 : Int32} {x1 : Int} (hx1 : X1.toInt = x1) {X2 : Int32} {x2 : Int} (hx2 : X2.toInt = x2) {σ : zS} {p : Nat} {m : zM} {o : Int × zS} (H : zRep xl xs p m σ) (h : g_wa_add x1 x2 σ = some o) : zGo xl xs (fun p' => p = p') 1 109 0 (z_can 109 0 (lv_args 0 [.ref 65, .int X1, .int X2])) [] m (vI o.1) o.2 := by
  have hq : z_mth 109 = some z_r109 := rfl
  unfold g_wa_add at h
  show zGo xl xs (fun p' => p = p') 1 109 0 [(0, .ref 65), (1, .int X1), (2, .int X2)] [] m (vI o.1) o.2
  refine r_p hq 1 (pc' := 1) (L' := [(0, .ref 65), (1, .int X1), (2, .int X2)]) (st' := [.ref 65]) rfl ?_
  refine r_gI (pc' := 4) (L' := [(0, .ref 65), (1, .int X1), (2, .int X2)]) H hq (z_at.mk 3 rfl rfl) rfl rfl rfl rfl ?_
  intro V_1 hV_1
  refine r_p hq 1 (pc' := 6) (L' := [(0, .ref 65), (1, .int X1), (2, .int X2)]) (st' := [.int ((6 : Int32)), .int V_1]) rfl ?_
  rcases z_ite h with ⟨c_6, h⟩ | ⟨c_6, h⟩
  · refine r_t2 (pc' := 11) (L' := [(0, .ref 65), (1, .int X1), (2, .int X2)]) hq (z_at.mk 3 rfl rfl) rfl hV_1 (rfl : (6 : Int32).toInt = 6) c_6 rfl rfl ?_
    refine r_p hq 1 (pc' := 12) (L' := [(0, .ref 65), (1, .int X1), (2, .int X2)]) (st' := [.ref 65]) rfl ?_
    refine r_gR (b := 66) (pc' := 15) (L' := [(0, .ref 65), (1, .int X1), (2, .int X2)]) H hq (z_at.mk 3 rfl rfl) rfl rfl rfl rfl ?_
    refine r_p hq 1 (pc' := 16) (L' := [(0, .ref 65), (1, .int X1), (2, .int X2)]) (st' := [.ref 65, .ref 66]) rfl ?_
    refine r_gI (pc' := 19) (L' := [(0, .ref 65), (1, .int X1), (2, .int X2)]) H hq (z_at.mk 3 rfl rfl) rfl rfl rfl rfl ?_
    intro V_16 hV_16
    refine r_p hq 1 (pc' := 20) (L' := [(0, .ref 65), (1, .int X1), (2, .int X2)]) (st' := [.int X1, .int V_16, .ref 66]) rfl ?_
    obtain ⟨g_20, h⟩ := z_ifo_some h
    refine r_is (pc' := 21) (L' := [(0, .ref 65), (1, .int X1), (2, .int X2)]) H hq (z_at.mk 1 rfl rfl) (show zAr 66 0 6 = true from rfl) hV_16 g_20 hx1 rfl rfl ?_
    intro m_20 H_20
    refine r_p hq 1 (pc' := 22) (L' := [(0, .ref 65), (1, .int X1), (2, .int X2)]) (st' := [.ref 65]) rfl ?_
    refine r_gR (b := 67) (pc' := 25) (L' := [(0, .ref 65), (1, .int X1), (2, .int X2)]) H_20 hq (z_at.mk 3 rfl rfl) rfl rfl rfl rfl ?_
    refine r_p hq 1 (pc' := 26) (L' := [(0, .ref 65), (1, .int X1), (2, .int X2)]) (st' := [.ref 65, .ref 67]) rfl ?_
    refine r_gI (pc' := 29) (L' := [(0, .ref 65), (1, .int X1), (2, .int X2)]) H_20 hq (z_at.mk 3 rfl rfl) rfl rfl rfl rfl ?_
    intro V_26 hV_26
    refine r_p hq 1 (pc' := 30) (L' := [(0, .ref 65), (1, .int X1), (2, .int X2)]) (st' := [.int X2, .int V_26, .ref 67]) rfl ?_
    obtain ⟨g_30, h⟩ := z_ifo_some h
    refine r_is (pc' := 31) (L' := [(0, .ref 65), (1, .int X1), (2, .int X2)]) H_20 hq (z_at.mk 1 rfl rfl) (show zAr 67 0 6 = true from rfl) hV_26 g_30 hx2 rfl rfl ?_
    intro m_30 H_30
    refine r_p hq 1 (pc' := 32) (L' := [(0, .ref 65), (1, .int X1), (2, .int X2)]) (st' := [.ref 65]) rfl ?_
    refine r_gR (b := 68) (pc' := 35) (L' := [(0, .ref 65), (1, .int X1), (2, .int X2)]) H_30 hq (z_at.mk 3 rfl rfl) rfl rfl rfl rfl ?_
    refine r_p hq 1 (pc' := 36) (L' := [(0, .ref 65), (1, .int X1), (2, .int X2)]) (st' := [.ref 65, .ref 68]) rfl ?_
    refine r_gI (pc' := 39) (L' := [(0, .ref 65), (1, .int X1), (2, .int X2)]) H_30 hq (z_at.mk 3 rfl rfl) rfl rfl rfl rfl ?_
    intro V_36 hV_36
    refine r_p hq 1 (pc' := 40) (L' := [(0, .ref 65), (1, .int X1), (2, .int X2)]) (st' := [.int ((0 : Int32)), .int V_36, .ref 68]) rfl ?_
    obtain ⟨g_40, h⟩ := z_ifo_some h
    refine r_is (pc' := 41) (L' := [(0, .ref 65), (1, .int X1), (2, .int X2)]) H_30 hq (z_at.mk 1 rfl rfl) (show zAr 68 0 6 = true from rfl) hV_36 g_40 (rfl : (0 : Int32).toInt = 0) rfl rfl ?_
    intro m_40 H_40
    refine r_p hq 2 (pc' := 43) (L' := [(0, .ref 65), (1, .int X1), (2, .int X2)]) (st' := [.ref 65, .ref 65]) rfl ?_
    refine r_gI (pc' := 46) (L' := [(0, .ref 65), (1, .int X1), (2, .int X2)]) H_40 hq (z_at.mk 3 rfl rfl) rfl rfl rfl rfl ?_
    intro V_43 hV_43
    refine r_p hq 2 (pc' := 48) (L' := [(0, .ref 65), (1, .int X1), (2, .int X2)]) (st' := [.int (V_43 + ((1 : Int32))), .ref 65]) rfl ?_
    refine r_pI (X := V_43 + ((1 : Int32))) (pc' := 51) (L' := [(0, .ref 65), (1, .int X1), (2, .int X2)]) H_40 hq (z_at.mk 3 rfl rfl) rfl rfl (tx_iadd hV_43 (rfl : (1 : Int32).toInt = 1)) (by decide) rfl rfl rfl rfl ?_
    intro m_48 H_48
    refine r_p hq 1 (pc' := 52) (L' := [(0, .ref 65), (1, .int X1), (2, .int X2)]) (st' := [.int ((1 : Int32))]) rfl ?_
    cases h
    exact r_ri hq (z_at.mk 1 rfl rfl) rfl rfl (rfl : (1 : Int32).toInt = 1) rfl H_48
  · refine r_f2 (pc' := 9) (L' := [(0, .ref 65), (1, .int X1), (2, .int X2)]) hq (z_at.mk 3 rfl rfl) rfl hV_1 (rfl : (6 : Int32).toInt = 6) c_6 rfl rfl ?_
    refine r_p hq 1 (pc' := 10) (L' := [(0, .ref 65), (1, .int X1), (2, .int X2)]) (st' := [.int ((0 : Int32))]) rfl ?_
    cases h
    exact r_ri hq (z_at.mk 1 rfl rfl) rfl rfl (rfl : (0 : Int32).toInt = 0) rfl H
