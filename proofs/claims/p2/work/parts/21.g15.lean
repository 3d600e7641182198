/-! THE METHODS over the typed memory, 15 (by wip/zg.py) -/
def g_m_isSpelled (x1 : Int) (σ : zS) : Option (Int × zS) :=
  (g_m_isNumber 2 0 31 σ).bind fun o_5 =>
  if o_5.1 ≠ 0 then
    let v_19 := o_5.2 143 23
    if 0 ≤ x1 ∧ x1 < 48 then
    let s_22 := zu o_5.2 164 x1 v_19
    (g_m_isSign 45 s_22).bind fun o_26 =>
    if o_26.1 = 0 then
      some (0, o_26.2)
    else
      if 0 ≤ x1 ∧ x1 < 48 then
      let v_39 := o_26.2 164 x1
      (g_m_isNumber 2 v_39 31 o_26.2).bind fun o_42 =>
      if o_42.1 ≠ 0 then
        let v_58 := o_42.2 143 23
        if 0 ≤ w32 (x1 + 1) ∧ w32 (x1 + 1) < 48 then
        let s_61 := zu o_42.2 164 (w32 (x1 + 1)) v_58
        (g_m_isSign 44 s_61).bind fun o_65 =>
        if o_65.1 = 0 then
          some (0, o_65.2)
        else
          (g_m_isNumber 2 0 31 o_65.2).bind fun o_76 =>
          if o_76.1 ≠ 0 then
            let v_92 := o_76.2 143 23
            if 0 ≤ w32 (x1 + 2) ∧ w32 (x1 + 2) < 48 then
            let s_95 := zu o_76.2 164 (w32 (x1 + 2)) v_92
            (g_m_isSign 45 s_95).bind fun o_99 =>
            if o_99.1 = 0 then
              some (0, o_99.2)
            else
              if 0 ≤ w32 (x1 + 2) ∧ w32 (x1 + 2) < 48 then
              let v_114 := o_99.2 164 (w32 (x1 + 2))
              (g_m_isNumber 2 v_114 31 o_99.2).bind fun o_117 =>
              if o_117.1 ≠ 0 then
                let v_133 := o_117.2 143 23
                if 0 ≤ w32 (x1 + 3) ∧ w32 (x1 + 3) < 48 then
                let s_136 := zu o_117.2 164 (w32 (x1 + 3)) v_133
                some (1, s_136)
                else none
              else
                some (0, o_117.2)
              else none
            else none
          else
            some (0, o_76.2)
        else none
      else
        some (0, o_42.2)
      else none
    else none
  else
    some (0, o_5.2)
set_option maxHeartbeats 4000000 in
theorem g_m_isSpelled_ok {xl : Nat} {xs : Nat → Int32} {X1 : Int32} {x1 : Int} (hx1 : X1.toInt = x1) {σ : zS} {p : Nat} {m : zM} {o : Int × zS} (H : zRep xl xs p m σ) (h : g_m_isSpelled x1 σ = some o) : zGo xl xs (fun p' => p = p') 4 241 0 (z_can 241 0 (lv_args 0 [.ref 143, .int X1])) [] m (vI o.1) o.2 := by
  have hq : z_mth 241 = some z_r241 := rfl
  unfold g_m_isSpelled at h
  show zGo xl xs (fun p' => p = p') 4 241 0 [(0, .ref 143), (1, .int X1)] [] m (vI o.1) o.2
  refine r_p hq 4 (pc' := 5) (L' := [(0, .ref 143), (1, .int X1)]) (st' := [.int ((31 : Int32)), .int ((0 : Int32)), .int ((2 : Int32)), .ref 143]) rfl ?_
  obtain ⟨o_5, h_5, h⟩ := Option.bind_eq_some_iff.mp h
  refine r_cvI (pc' := 8) (L' := [(0, .ref 143), (1, .int X1)]) (Ps := [.int ((2 : Int32)), .int ((0 : Int32)), .int ((31 : Int32))]) (rest := []) hq (z_at.mk 3 rfl rfl) (Or.inl ⟨rfl, rfl⟩) rfl rfl (by decide) (by decide) rfl (Nat.not_lt.mpr (Nat.le_of_ble_eq_true rfl)) rfl rfl (z_cat_le 0 rfl (by decide)) (z_lgl_le 4 rfl (by decide)) (by decide) (H.tg rfl) (by omega) (g_m_isNumber_ok (rfl : (2 : Int32).toInt = 2) (rfl : (0 : Int32).toInt = 0) (rfl : (31 : Int32).toInt = 31) H h_5) rfl rfl ?_
  intro R_5 m_5 p_5 e_5 hR_5 H_5
  subst e_5
  rcases z_ite h with ⟨c_8, h⟩ | ⟨c_8, h⟩
  · refine r_t1 (pc' := 13) (L' := [(0, .ref 143), (1, .int X1)]) hq (z_at.mk 3 rfl rfl) rfl hR_5 c_8 rfl rfl ?_
    refine r_p hq 1 (pc' := 14) (L' := [(0, .ref 143), (1, .int X1)]) (st' := [.ref 143]) rfl ?_
    refine r_gR (b := 164) (pc' := 17) (L' := [(0, .ref 143), (1, .int X1)]) H_5 hq (z_at.mk 3 rfl rfl) rfl rfl rfl rfl ?_
    refine r_p hq 2 (pc' := 19) (L' := [(0, .ref 143), (1, .int X1)]) (st' := [.ref 143, .int X1, .ref 164]) rfl ?_
    refine r_gI (pc' := 22) (L' := [(0, .ref 143), (1, .int X1)]) H_5 hq (z_at.mk 3 rfl rfl) rfl rfl rfl rfl ?_
    intro V_19 hV_19
    obtain ⟨g_22, h⟩ := z_ifo_some h
    refine r_is (pc' := 23) (L' := [(0, .ref 143), (1, .int X1)]) H_5 hq (z_at.mk 1 rfl rfl) (show zAr 164 0 48 = true from rfl) hx1 g_22 hV_19 rfl rfl ?_
    intro m_22 H_22
    refine r_p hq 2 (pc' := 26) (L' := [(0, .ref 143), (1, .int X1)]) (st' := [.int ((45 : Int32)), .ref 143]) rfl ?_
    obtain ⟨o_26, h_26, h⟩ := Option.bind_eq_some_iff.mp h
    refine r_cvI (pc' := 29) (L' := [(0, .ref 143), (1, .int X1)]) (Ps := [.int ((45 : Int32))]) (rest := []) hq (z_at.mk 3 rfl rfl) (Or.inl ⟨rfl, rfl⟩) rfl rfl (by decide) (by decide) rfl (Nat.not_lt.mpr (Nat.le_of_ble_eq_true rfl)) rfl rfl (z_cat_le 0 rfl (by decide)) (z_lgl_le 2 rfl (by decide)) (by decide) (H_22.tg rfl) (by omega) (g_m_isSign_ok (rfl : (45 : Int32).toInt = 45) H_22 h_26) rfl rfl ?_
    intro R_26 m_26 p_26 e_26 hR_26 H_26
    subst e_26
    rcases z_ite h with ⟨c_29, h⟩ | ⟨c_29, h⟩
    · refine r_t1 (pc' := 48) (L' := []) hq (z_at.mk 3 rfl rfl) rfl hR_26 c_29 rfl rfl ?_
      refine r_p hq 1 (pc' := 49) (L' := []) (st' := [.int ((0 : Int32))]) rfl ?_
      cases h
      exact r_ri hq (z_at.mk 1 rfl rfl) rfl rfl (rfl : (0 : Int32).toInt = 0) rfl H_26
    · refine r_f1 (pc' := 32) (L' := [(0, .ref 143), (1, .int X1)]) hq (z_at.mk 3 rfl rfl) rfl hR_26 c_29 rfl rfl ?_
      refine r_p hq 3 (pc' := 35) (L' := [(0, .ref 143), (1, .int X1)]) (st' := [.ref 143, .int ((2 : Int32)), .ref 143]) rfl ?_
      refine r_gR (b := 164) (pc' := 38) (L' := [(0, .ref 143), (1, .int X1)]) H_26 hq (z_at.mk 3 rfl rfl) rfl rfl rfl rfl ?_
      refine r_p hq 1 (pc' := 39) (L' := [(0, .ref 143), (1, .int X1)]) (st' := [.int X1, .ref 164, .int ((2 : Int32)), .ref 143]) rfl ?_
      obtain ⟨g_39, h⟩ := z_ifo_some h
      refine r_ia (pc' := 40) (L' := [(0, .ref 143), (1, .int X1)]) H_26 hq (z_at.mk 1 rfl rfl) (show zAr 164 0 48 = true from rfl) hx1 g_39 rfl rfl ?_
      intro V_39 hV_39
      refine r_p hq 1 (pc' := 42) (L' := [(0, .ref 143), (1, .int X1)]) (st' := [.int ((31 : Int32)), .int V_39, .int ((2 : Int32)), .ref 143]) rfl ?_
      obtain ⟨o_42, h_42, h⟩ := Option.bind_eq_some_iff.mp h
      refine r_cvI (pc' := 45) (L' := [(0, .ref 143), (1, .int X1)]) (Ps := [.int ((2 : Int32)), .int V_39, .int ((31 : Int32))]) (rest := []) hq (z_at.mk 3 rfl rfl) (Or.inl ⟨rfl, rfl⟩) rfl rfl (by decide) (by decide) rfl (Nat.not_lt.mpr (Nat.le_of_ble_eq_true rfl)) rfl rfl (z_cat_le 0 rfl (by decide)) (z_lgl_le 4 rfl (by decide)) (by decide) (H_26.tg rfl) (by omega) (g_m_isNumber_ok (rfl : (2 : Int32).toInt = 2) hV_39 (rfl : (31 : Int32).toInt = 31) H_26 h_42) rfl rfl ?_
      intro R_42 m_42 p_42 e_42 hR_42 H_42
      subst e_42
      rcases z_ite h with ⟨c_45, h⟩ | ⟨c_45, h⟩
      · refine r_t1 (pc' := 50) (L' := [(0, .ref 143), (1, .int X1)]) hq (z_at.mk 3 rfl rfl) rfl hR_42 c_45 rfl rfl ?_
        refine r_p hq 1 (pc' := 51) (L' := [(0, .ref 143), (1, .int X1)]) (st' := [.ref 143]) rfl ?_
        refine r_gR (b := 164) (pc' := 54) (L' := [(0, .ref 143), (1, .int X1)]) H_42 hq (z_at.mk 3 rfl rfl) rfl rfl rfl rfl ?_
        refine r_p hq 4 (pc' := 58) (L' := [(0, .ref 143), (1, .int X1)]) (st' := [.ref 143, .int (X1 + ((1 : Int32))), .ref 164]) rfl ?_
        refine r_gI (pc' := 61) (L' := [(0, .ref 143), (1, .int X1)]) H_42 hq (z_at.mk 3 rfl rfl) rfl rfl rfl rfl ?_
        intro V_58 hV_58
        obtain ⟨g_61, h⟩ := z_ifo_some h
        refine r_is (pc' := 62) (L' := [(0, .ref 143), (1, .int X1)]) H_42 hq (z_at.mk 1 rfl rfl) (show zAr 164 0 48 = true from rfl) (tx_iadd hx1 (rfl : (1 : Int32).toInt = 1)) g_61 hV_58 rfl rfl ?_
        intro m_61 H_61
        refine r_p hq 2 (pc' := 65) (L' := [(0, .ref 143), (1, .int X1)]) (st' := [.int ((44 : Int32)), .ref 143]) rfl ?_
        obtain ⟨o_65, h_65, h⟩ := Option.bind_eq_some_iff.mp h
        refine r_cvI (pc' := 68) (L' := [(0, .ref 143), (1, .int X1)]) (Ps := [.int ((44 : Int32))]) (rest := []) hq (z_at.mk 3 rfl rfl) (Or.inl ⟨rfl, rfl⟩) rfl rfl (by decide) (by decide) rfl (Nat.not_lt.mpr (Nat.le_of_ble_eq_true rfl)) rfl rfl (z_cat_le 0 rfl (by decide)) (z_lgl_le 2 rfl (by decide)) (by decide) (H_61.tg rfl) (by omega) (g_m_isSign_ok (rfl : (44 : Int32).toInt = 44) H_61 h_65) rfl rfl ?_
        intro R_65 m_65 p_65 e_65 hR_65 H_65
        subst e_65
        rcases z_ite h with ⟨c_68, h⟩ | ⟨c_68, h⟩
        · refine r_t1 (pc' := 82) (L' := []) hq (z_at.mk 3 rfl rfl) rfl hR_65 c_68 rfl rfl ?_
          refine r_p hq 1 (pc' := 83) (L' := []) (st' := [.int ((0 : Int32))]) rfl ?_
          cases h
          exact r_ri hq (z_at.mk 1 rfl rfl) rfl rfl (rfl : (0 : Int32).toInt = 0) rfl H_65
        · refine r_f1 (pc' := 71) (L' := [(0, .ref 143), (1, .int X1)]) hq (z_at.mk 3 rfl rfl) rfl hR_65 c_68 rfl rfl ?_
          refine r_p hq 4 (pc' := 76) (L' := [(0, .ref 143), (1, .int X1)]) (st' := [.int ((31 : Int32)), .int ((0 : Int32)), .int ((2 : Int32)), .ref 143]) rfl ?_
          obtain ⟨o_76, h_76, h⟩ := Option.bind_eq_some_iff.mp h
          refine r_cvI (pc' := 79) (L' := [(0, .ref 143), (1, .int X1)]) (Ps := [.int ((2 : Int32)), .int ((0 : Int32)), .int ((31 : Int32))]) (rest := []) hq (z_at.mk 3 rfl rfl) (Or.inl ⟨rfl, rfl⟩) rfl rfl (by decide) (by decide) rfl (Nat.not_lt.mpr (Nat.le_of_ble_eq_true rfl)) rfl rfl (z_cat_le 0 rfl (by decide)) (z_lgl_le 4 rfl (by decide)) (by decide) (H_65.tg rfl) (by omega) (g_m_isNumber_ok (rfl : (2 : Int32).toInt = 2) (rfl : (0 : Int32).toInt = 0) (rfl : (31 : Int32).toInt = 31) H_65 h_76) rfl rfl ?_
          intro R_76 m_76 p_76 e_76 hR_76 H_76
          subst e_76
          rcases z_ite h with ⟨c_79, h⟩ | ⟨c_79, h⟩
          · refine r_t1 (pc' := 84) (L' := [(0, .ref 143), (1, .int X1)]) hq (z_at.mk 3 rfl rfl) rfl hR_76 c_79 rfl rfl ?_
            refine r_p hq 1 (pc' := 85) (L' := [(0, .ref 143), (1, .int X1)]) (st' := [.ref 143]) rfl ?_
            refine r_gR (b := 164) (pc' := 88) (L' := [(0, .ref 143), (1, .int X1)]) H_76 hq (z_at.mk 3 rfl rfl) rfl rfl rfl rfl ?_
            refine r_p hq 4 (pc' := 92) (L' := [(0, .ref 143), (1, .int X1)]) (st' := [.ref 143, .int (X1 + ((2 : Int32))), .ref 164]) rfl ?_
            refine r_gI (pc' := 95) (L' := [(0, .ref 143), (1, .int X1)]) H_76 hq (z_at.mk 3 rfl rfl) rfl rfl rfl rfl ?_
            intro V_92 hV_92
            obtain ⟨g_95, h⟩ := z_ifo_some h
            refine r_is (pc' := 96) (L' := [(0, .ref 143), (1, .int X1)]) H_76 hq (z_at.mk 1 rfl rfl) (show zAr 164 0 48 = true from rfl) (tx_iadd hx1 (rfl : (2 : Int32).toInt = 2)) g_95 hV_92 rfl rfl ?_
            intro m_95 H_95
            refine r_p hq 2 (pc' := 99) (L' := [(0, .ref 143), (1, .int X1)]) (st' := [.int ((45 : Int32)), .ref 143]) rfl ?_
            obtain ⟨o_99, h_99, h⟩ := Option.bind_eq_some_iff.mp h
            refine r_cvI (pc' := 102) (L' := [(0, .ref 143), (1, .int X1)]) (Ps := [.int ((45 : Int32))]) (rest := []) hq (z_at.mk 3 rfl rfl) (Or.inl ⟨rfl, rfl⟩) rfl rfl (by decide) (by decide) rfl (Nat.not_lt.mpr (Nat.le_of_ble_eq_true rfl)) rfl rfl (z_cat_le 0 rfl (by decide)) (z_lgl_le 2 rfl (by decide)) (by decide) (H_95.tg rfl) (by omega) (g_m_isSign_ok (rfl : (45 : Int32).toInt = 45) H_95 h_99) rfl rfl ?_
            intro R_99 m_99 p_99 e_99 hR_99 H_99
            subst e_99
            rcases z_ite h with ⟨c_102, h⟩ | ⟨c_102, h⟩
            · refine r_t1 (pc' := 123) (L' := []) hq (z_at.mk 3 rfl rfl) rfl hR_99 c_102 rfl rfl ?_
              refine r_p hq 1 (pc' := 124) (L' := []) (st' := [.int ((0 : Int32))]) rfl ?_
              cases h
              exact r_ri hq (z_at.mk 1 rfl rfl) rfl rfl (rfl : (0 : Int32).toInt = 0) rfl H_99
            · refine r_f1 (pc' := 105) (L' := [(0, .ref 143), (1, .int X1)]) hq (z_at.mk 3 rfl rfl) rfl hR_99 c_102 rfl rfl ?_
              refine r_p hq 3 (pc' := 108) (L' := [(0, .ref 143), (1, .int X1)]) (st' := [.ref 143, .int ((2 : Int32)), .ref 143]) rfl ?_
              refine r_gR (b := 164) (pc' := 111) (L' := [(0, .ref 143), (1, .int X1)]) H_99 hq (z_at.mk 3 rfl rfl) rfl rfl rfl rfl ?_
              refine r_p hq 3 (pc' := 114) (L' := [(0, .ref 143), (1, .int X1)]) (st' := [.int (X1 + ((2 : Int32))), .ref 164, .int ((2 : Int32)), .ref 143]) rfl ?_
              obtain ⟨g_114, h⟩ := z_ifo_some h
              refine r_ia (pc' := 115) (L' := [(0, .ref 143), (1, .int X1)]) H_99 hq (z_at.mk 1 rfl rfl) (show zAr 164 0 48 = true from rfl) (tx_iadd hx1 (rfl : (2 : Int32).toInt = 2)) g_114 rfl rfl ?_
              intro V_114 hV_114
              refine r_p hq 1 (pc' := 117) (L' := [(0, .ref 143), (1, .int X1)]) (st' := [.int ((31 : Int32)), .int V_114, .int ((2 : Int32)), .ref 143]) rfl ?_
              obtain ⟨o_117, h_117, h⟩ := Option.bind_eq_some_iff.mp h
              refine r_cvI (pc' := 120) (L' := [(0, .ref 143), (1, .int X1)]) (Ps := [.int ((2 : Int32)), .int V_114, .int ((31 : Int32))]) (rest := []) hq (z_at.mk 3 rfl rfl) (Or.inl ⟨rfl, rfl⟩) rfl rfl (by decide) (by decide) rfl (Nat.not_lt.mpr (Nat.le_of_ble_eq_true rfl)) rfl rfl (z_cat_le 0 rfl (by decide)) (z_lgl_le 4 rfl (by decide)) (by decide) (H_99.tg rfl) (by omega) (g_m_isNumber_ok (rfl : (2 : Int32).toInt = 2) hV_114 (rfl : (31 : Int32).toInt = 31) H_99 h_117) rfl rfl ?_
              intro R_117 m_117 p_117 e_117 hR_117 H_117
              subst e_117
              rcases z_ite h with ⟨c_120, h⟩ | ⟨c_120, h⟩
              · refine r_t1 (pc' := 125) (L' := [(0, .ref 143), (1, .int X1)]) hq (z_at.mk 3 rfl rfl) rfl hR_117 c_120 rfl rfl ?_
                refine r_p hq 1 (pc' := 126) (L' := [(0, .ref 143), (1, .int X1)]) (st' := [.ref 143]) rfl ?_
                refine r_gR (b := 164) (pc' := 129) (L' := [(0, .ref 143), (1, .int X1)]) H_117 hq (z_at.mk 3 rfl rfl) rfl rfl rfl rfl ?_
                refine r_p hq 4 (pc' := 133) (L' := [(0, .ref 143), (1, .int X1)]) (st' := [.ref 143, .int (X1 + ((3 : Int32))), .ref 164]) rfl ?_
                refine r_gI (pc' := 136) (L' := [(0, .ref 143), (1, .int X1)]) H_117 hq (z_at.mk 3 rfl rfl) rfl rfl rfl rfl ?_
                intro V_133 hV_133
                obtain ⟨g_136, h⟩ := z_ifo_some h
                refine r_is (pc' := 137) (L' := [(0, .ref 143), (1, .int X1)]) H_117 hq (z_at.mk 1 rfl rfl) (show zAr 164 0 48 = true from rfl) (tx_iadd hx1 (rfl : (3 : Int32).toInt = 3)) g_136 hV_133 rfl rfl ?_
                intro m_136 H_136
                refine r_p hq 1 (pc' := 138) (L' := [(0, .ref 143), (1, .int X1)]) (st' := [.int ((1 : Int32))]) rfl ?_
                cases h
                exact r_ri hq (z_at.mk 1 rfl rfl) rfl rfl (rfl : (1 : Int32).toInt = 1) rfl H_136
              · refine r_f1 (pc' := 123) (L' := []) hq (z_at.mk 3 rfl rfl) rfl hR_117 c_120 rfl rfl ?_
                refine r_p hq 1 (pc' := 124) (L' := []) (st' := [.int ((0 : Int32))]) rfl ?_
                cases h
                exact r_ri hq (z_at.mk 1 rfl rfl) rfl rfl (rfl : (0 : Int32).toInt = 0) rfl H_117
          · refine r_f1 (pc' := 82) (L' := []) hq (z_at.mk 3 rfl rfl) rfl hR_76 c_79 rfl rfl ?_
            refine r_p hq 1 (pc' := 83) (L' := []) (st' := [.int ((0 : Int32))]) rfl ?_
            cases h
            exact r_ri hq (z_at.mk 1 rfl rfl) rfl rfl (rfl : (0 : Int32).toInt = 0) rfl H_76
      · refine r_f1 (pc' := 48) (L' := []) hq (z_at.mk 3 rfl rfl) rfl hR_42 c_45 rfl rfl ?_
        refine r_p hq 1 (pc' := 49) (L' := []) (st' := [.int ((0 : Int32))]) rfl ?_
        cases h
        exact r_ri hq (z_at.mk 1 rfl rfl) rfl rfl (rfl : (0 : Int32).toInt = 0) rfl H_42
  · refine r_f1 (pc' := 11) (L' := [(0, .ref 143), (1, .int X1)]) hq (z_at.mk 3 rfl rfl) rfl hR_5 c_8 rfl rfl ?_
    refine r_p hq 1 (pc' := 12) (L' := [(0, .ref 143), (1, .int X1)]) (st' := [.int ((0 : Int32))]) rfl ?_
    cases h
    exact r_ri hq (z_at.mk 1 rfl rfl) rfl rfl (rfl : (0 : Int32).toInt = 0) rfl H_5
def g_m_meetsNone_L39 (a1 : Nat) (g5 : Int → Int → Int → zS → Option (Int × zS)) (x2 : Int) (x4 : Int) (xs0 : Int) (xs1 : Int) (σ : zS) : Option (Int × zS) :=
  g5 x2 (iAnd xs1 xs0) (w32 (x4 + 1)) σ
set_option maxHeartbeats 4000000 in
theorem g_m_meetsNone_L39_ok {xl : Nat} {xs : Nat → Int32} {a1 : Nat} (ha1 : zIn [144, 150, 151, 152, 153, 156, 157, 161, 164, 165] a1 = true) {g5 : Int → Int → Int → zS → Option (Int × zS)} (hg5 : ∀ {X2 : Int32} {x2 : Int} {X3 : Int32} {x3 : Int} {X4 : Int32} {x4 : Int} {σ : zS} {p : Nat} {m : zM} {o : Int × zS}, X2.toInt = x2 → X3.toInt = x3 → X4.toInt = x4 → zRep xl xs p m σ → g5 x2 x3 x4 σ = some o → zGo xl xs (fun p' => p = p') 2 242 5 [(0, .ref 143), (1, .ref a1), (2, .int X2), (3, .int X3), (4, .int X4)] [] m (vI o.1) o.2) {X2 : Int32} {x2 : Int} (hx2 : X2.toInt = x2) {X4 : Int32} {x4 : Int} (hx4 : X4.toInt = x4) {Xs0 : Int32} {xs0 : Int} (hxs0 : Xs0.toInt = xs0) {Xs1 : Int32} {xs1 : Int} (hxs1 : Xs1.toInt = xs1) {σ : zS} {p : Nat} {m : zM} {o : Int × zS} (H : zRep xl xs p m σ) (h : g_m_meetsNone_L39 a1 g5 x2 x4 xs0 xs1 σ = some o) : zGo xl xs (fun p' => p = p') 2 242 39 [(0, .ref 143), (1, .ref a1), (2, .int X2), (4, .int X4)] [.int Xs0, .int Xs1] m (vI o.1) o.2 := by
  have hq : z_mth 242 = some z_r242 := rfl
  unfold g_m_meetsNone_L39 at h
  refine r_p hq 4 (pc' := 5) (L' := [(0, .ref 143), (1, .ref a1), (2, .int X2), (3, .int (Xs1 &&& Xs0)), (4, .int (X4 + (1 : Int32)))]) (st' := []) rfl ?_
  exact hg5 hx2 (tx_iand hxs1 hxs0) (tx_iadd hx4 (rfl : (1 : Int32).toInt = 1)) H h
def g_m_meetsNone_L5 (a1 : Nat) : Nat → Int → Int → Int → zS → Option (Int × zS)
  | 0, _, _, _, _ => none
  | n + 1, x2, x3, x4, σ =>
    let v_12 := σ 144 0
    if v_12 ≤ x4 then
      if x3 = 0 ∨ x3 = 1 then some (x3, σ) else none
    else
      (g_m_region_173 x4 σ).bind fun o_25 =>
      (g_m_doMeet a1 144 x2 o_25.1 o_25.2).bind fun o_28 =>
      if o_28.1 ≠ 0 then
        g_m_meetsNone_L39 a1 ((g_m_meetsNone_L5 a1 n)) x2 x4 0 x3 o_28.2
      else
        g_m_meetsNone_L39 a1 ((g_m_meetsNone_L5 a1 n)) x2 x4 1 x3 o_28.2
set_option maxHeartbeats 4000000 in
theorem g_m_meetsNone_L5_ok {xl : Nat} {xs : Nat → Int32} {a1 : Nat} (ha1 : zIn [144, 150, 151, 152, 153, 156, 157, 161, 164, 165] a1 = true) : ∀ (n : Nat) {X2 : Int32} {x2 : Int} {X3 : Int32} {x3 : Int} {X4 : Int32} {x4 : Int} {σ : zS} {p : Nat} {m : zM} {o : Int × zS}, X2.toInt = x2 → X3.toInt = x3 → X4.toInt = x4 → zRep xl xs p m σ → g_m_meetsNone_L5 a1 n x2 x3 x4 σ = some o → zGo xl xs (fun p' => p = p') 2 242 5 [(0, .ref 143), (1, .ref a1), (2, .int X2), (3, .int X3), (4, .int X4)] [] m (vI o.1) o.2
  | 0, _, _, _, _, _, _, _, _, _, _, _, _, _, _, h => by cases h
  | n + 1, X2, x2, X3, x3, X4, x4, σ, p, m, o, hx2, hx3, hx4, H, h => by
    have hq : z_mth 242 = some z_r242 := rfl
    have ih := fun {X2 : Int32} {x2 : Int} {X3 : Int32} {x3 : Int} {X4 : Int32} {x4 : Int} {σ : zS} {p : Nat} {m : zM} {o : Int × zS} => g_m_meetsNone_L5_ok (xl := xl) (xs := xs) ha1 n (X2 := X2) (x2 := x2) (X3 := X3) (x3 := x3) (X4 := X4) (x4 := x4) (σ := σ) (p := p) (m := m) (o := o)
    unfold g_m_meetsNone_L5 at h
    refine r_p hq 2 (pc' := 8) (L' := [(0, .ref 143), (1, .ref a1), (2, .int X2), (3, .int X3), (4, .int X4)]) (st' := [.ref 143, .int X4]) rfl ?_
    refine r_gR (b := 144) (pc' := 11) (L' := [(0, .ref 143), (1, .ref a1), (2, .int X2), (3, .int X3), (4, .int X4)]) H hq (z_at.mk 3 rfl rfl) rfl rfl rfl rfl ?_
    refine r_p hq 1 (pc' := 12) (L' := [(0, .ref 143), (1, .ref a1), (2, .int X2), (3, .int X3), (4, .int X4)]) (st' := [.int ((0 : Int32)), .ref 144, .int X4]) rfl ?_
    refine r_ia (pc' := 13) (L' := [(0, .ref 143), (1, .ref a1), (2, .int X2), (3, .int X3), (4, .int X4)]) H hq (z_at.mk 1 rfl rfl) (show zAr 144 0 2740 = true from rfl) (rfl : (0 : Int32).toInt = 0) ⟨by decide, by decide⟩ rfl rfl ?_
    intro V_12 hV_12
    rcases z_ite h with ⟨c_13, h⟩ | ⟨c_13, h⟩
    · refine r_t2 (pc' := 47) (L' := [(0, .ref 143), (1, .ref a1), (2, .int X2), (3, .int X3), (4, .int X4)]) hq (z_at.mk 3 rfl rfl) rfl hx4 hV_12 c_13 rfl rfl ?_
      refine r_p hq 1 (pc' := 48) (L' := [(0, .ref 143), (1, .ref a1), (2, .int X2), (3, .int X3), (4, .int X4)]) (st' := [.int X3]) rfl ?_
      obtain ⟨g_48, h⟩ := z_if_some h
      cases h
      exact r_ri hq (z_at.mk 1 rfl rfl) rfl (z_rty_bo hx3 g_48) hx3 rfl H
    · refine r_f2 (pc' := 16) (L' := [(0, .ref 143), (1, .ref a1), (2, .int X2), (3, .int X3), (4, .int X4)]) hq (z_at.mk 3 rfl rfl) rfl hx4 hV_12 c_13 rfl rfl ?_
      refine r_p hq 4 (pc' := 20) (L' := [(0, .ref 143), (1, .ref a1), (2, .int X2), (3, .int X3), (4, .int X4)]) (st' := [.ref 143, .int X2, .ref a1, .int X3]) rfl ?_
      refine r_gR (b := 144) (pc' := 23) (L' := [(0, .ref 143), (1, .ref a1), (2, .int X2), (3, .int X3), (4, .int X4)]) H hq (z_at.mk 3 rfl rfl) rfl rfl rfl rfl ?_
      refine r_p hq 1 (pc' := 25) (L' := [(0, .ref 143), (1, .ref a1), (2, .int X2), (3, .int X3), (4, .int X4)]) (st' := [.int X4, .ref 144, .int X2, .ref a1, .int X3]) rfl ?_
      obtain ⟨o_25, h_25, h⟩ := Option.bind_eq_some_iff.mp h
      refine r_csI (pc' := 28) (L' := [(0, .ref 143), (1, .ref a1), (2, .int X2), (3, .int X3), (4, .int X4)]) (As := [.int X4]) (rest := [.ref 144, .int X2, .ref a1, .int X3]) (j := 173) hq (z_at.mk 3 rfl rfl) (Or.inl ⟨rfl, rfl⟩) rfl rfl (by omega) (g_m_region_173_ok hx4 H h_25) rfl rfl ?_
      intro R_25 m_25 p_25 e_25 hR_25 H_25
      subst e_25
      obtain ⟨o_28, h_28, h⟩ := Option.bind_eq_some_iff.mp h
      refine r_csI (pc' := 31) (L' := [(0, .ref 143), (1, .ref a1), (2, .int X2), (3, .int X3), (4, .int X4)]) (As := [.ref a1, .int X2, .ref 144, .int R_25]) (rest := [.int X3]) (j := 169) hq (z_at.mk 3 rfl rfl) (Or.inl ⟨rfl, rfl⟩) rfl rfl (by omega) (g_m_doMeet_ok (zIn_all (l := [144, 150, 151, 152, 153, 156, 157, 161, 164, 165]) (p := fun a => zIn [144, 150, 151, 152, 153, 156, 157, 161, 164, 165] a) rfl ha1) rfl hx2 hR_25 H_25 h_28) rfl rfl ?_
      intro R_28 m_28 p_28 e_28 hR_28 H_28
      subst e_28
      rcases z_ite h with ⟨c_31, h⟩ | ⟨c_31, h⟩
      · refine r_t1 (pc' := 38) (L' := [(0, .ref 143), (1, .ref a1), (2, .int X2), (3, .int X3), (4, .int X4)]) hq (z_at.mk 3 rfl rfl) rfl hR_28 c_31 rfl rfl ?_
        refine r_p hq 1 (pc' := 39) (L' := [(0, .ref 143), (1, .ref a1), (2, .int X2), (4, .int X4)]) (st' := [.int ((0 : Int32)), .int X3]) rfl ?_
        exact g_m_meetsNone_L39_ok ha1 ih hx2 hx4 (rfl : (0 : Int32).toInt = 0) hx3 H_28 h
      · refine r_f1 (pc' := 34) (L' := [(0, .ref 143), (1, .ref a1), (2, .int X2), (3, .int X3), (4, .int X4)]) hq (z_at.mk 3 rfl rfl) rfl hR_28 c_31 rfl rfl ?_
        refine r_p hq 2 (pc' := 39) (L' := [(0, .ref 143), (1, .ref a1), (2, .int X2), (4, .int X4)]) (st' := [.int ((1 : Int32)), .int X3]) rfl ?_
        exact g_m_meetsNone_L39_ok ha1 ih hx2 hx4 (rfl : (1 : Int32).toInt = 1) hx3 H_28 h
def g_m_meetsNone (a1 : Nat) (x2 : Int) (σ : zS) : Option (Int × zS) :=
  g_m_meetsNone_L5 a1 zK x2 1 0 σ
set_option maxHeartbeats 4000000 in
theorem g_m_meetsNone_ok {xl : Nat} {xs : Nat → Int32} {a1 : Nat} (ha1 : zIn [144, 150, 151, 152, 153, 156, 157, 161, 164, 165] a1 = true) {X2 : Int32} {x2 : Int} (hx2 : X2.toInt = x2) {σ : zS} {p : Nat} {m : zM} {o : Int × zS} (H : zRep xl xs p m σ) (h : g_m_meetsNone a1 x2 σ = some o) : zGo xl xs (fun p' => p = p') 2 242 0 (z_can 242 0 (lv_args 0 [.ref 143, .ref a1, .int X2])) [] m (vI o.1) o.2 := by
  have hq : z_mth 242 = some z_r242 := rfl
  unfold g_m_meetsNone at h
  show zGo xl xs (fun p' => p = p') 2 242 0 [(0, .ref 143), (1, .ref a1), (2, .int X2)] [] m (vI o.1) o.2
  refine r_p hq 4 (pc' := 5) (L' := [(0, .ref 143), (1, .ref a1), (2, .int X2), (3, .int ((1 : Int32))), (4, .int ((0 : Int32)))]) (st' := []) rfl ?_
  exact g_m_meetsNone_L5_ok ha1 zK hx2 (rfl : (1 : Int32).toInt = 1) (rfl : (0 : Int32).toInt = 0) H h
def g_m_load_L154 (g99 : Int → Int → Int → zS → Option (Int × zS)) (x1 : Int) (x3 : Int) (x4 : Int) (σ : zS) : Option (Int × zS) :=
  g99 x1 x3 (w32 (x4 + 1)) σ
set_option maxHeartbeats 4000000 in
theorem g_m_load_L154_ok {xl : Nat} {xs : Nat → Int32} {g99 : Int → Int → Int → zS → Option (Int × zS)} (hg99 : ∀ {X1 : Int32} {x1 : Int} {X3 : Int32} {x3 : Int} {X4 : Int32} {x4 : Int} {σ : zS} {p : Nat} {m : zM} {o : Int × zS}, X1.toInt = x1 → X3.toInt = x3 → X4.toInt = x4 → zRep xl xs p m σ → g99 x1 x3 x4 σ = some o → zGo xl xs (fun p' => p = p') 7 243 99 [(0, .ref 143), (1, .int X1), (3, .int X3), (4, .int X4)] [] m (vI o.1) o.2) {X1 : Int32} {x1 : Int} (hx1 : X1.toInt = x1) {X3 : Int32} {x3 : Int} (hx3 : X3.toInt = x3) {X4 : Int32} {x4 : Int} (hx4 : X4.toInt = x4) {σ : zS} {p : Nat} {m : zM} {o : Int × zS} (H : zRep xl xs p m σ) (h : g_m_load_L154 g99 x1 x3 x4 σ = some o) : zGo xl xs (fun p' => p = p') 7 243 154 [(0, .ref 143), (1, .int X1), (3, .int X3), (4, .int X4)] [] m (vI o.1) o.2 := by
  have hq : z_mth 243 = some z_r243 := rfl
  unfold g_m_load_L154 at h
  refine r_p hq 2 (pc' := 99) (L' := [(0, .ref 143), (1, .int X1), (3, .int X3), (4, .int (X4 + (1 : Int32)))]) (st' := []) rfl ?_
  exact hg99 hx1 hx3 (tx_iadd hx4 (rfl : (1 : Int32).toInt = 1)) H h
def g_m_load_L99 : Nat → Int → Int → Int → zS → Option (Int × zS)
  | 0, _, _, _, _ => none
  | n + 1, x1, x3, x4, σ =>
    if x1 ≤ x4 then
      (g_m_trims σ).bind fun o_161 =>
      some (x3, o_161.2)
    else
      (g_m_meetsNone 164 (w32 (4 * x4)) σ).bind fun o_114 =>
      if o_114.1 ≠ 0 then
        (g_m_asks 164 (w32 (4 * x4)) o_114.2).bind fun o_132 =>
        (g_m_adds 164 (w32 (4 * x4)) o_132.2).bind fun o_145 =>
        (g_m_weighs o_145.1 o_145.2).bind fun o_148 =>
        g_m_load_L154 ((g_m_load_L99 n)) x1 (w32 (x3 + 1)) x4 o_148.2
      else
        g_m_load_L154 ((g_m_load_L99 n)) x1 x3 x4 o_114.2
set_option maxHeartbeats 4000000 in
theorem g_m_load_L99_ok {xl : Nat} {xs : Nat → Int32} : ∀ (n : Nat) {X1 : Int32} {x1 : Int} {X3 : Int32} {x3 : Int} {X4 : Int32} {x4 : Int} {σ : zS} {p : Nat} {m : zM} {o : Int × zS}, X1.toInt = x1 → X3.toInt = x3 → X4.toInt = x4 → zRep xl xs p m σ → g_m_load_L99 n x1 x3 x4 σ = some o → zGo xl xs (fun p' => p = p') 7 243 99 [(0, .ref 143), (1, .int X1), (3, .int X3), (4, .int X4)] [] m (vI o.1) o.2
  | 0, _, _, _, _, _, _, _, _, _, _, _, _, _, _, h => by cases h
  | n + 1, X1, x1, X3, x3, X4, x4, σ, p, m, o, hx1, hx3, hx4, H, h => by
    have hq : z_mth 243 = some z_r243 := rfl
    have ih := fun {X1 : Int32} {x1 : Int} {X3 : Int32} {x3 : Int} {X4 : Int32} {x4 : Int} {σ : zS} {p : Nat} {m : zM} {o : Int × zS} => g_m_load_L99_ok (xl := xl) (xs := xs) n (X1 := X1) (x1 := x1) (X3 := X3) (x3 := x3) (X4 := X4) (x4 := x4) (σ := σ) (p := p) (m := m) (o := o)
    unfold g_m_load_L99 at h
    refine r_p hq 2 (pc' := 102) (L' := [(0, .ref 143), (1, .int X1), (3, .int X3), (4, .int X4)]) (st' := [.int X1, .int X4]) rfl ?_
    rcases z_ite h with ⟨c_102, h⟩ | ⟨c_102, h⟩
    · refine r_t2 (pc' := 160) (L' := [(0, .ref 143), (1, .int X1), (3, .int X3), (4, .int X4)]) hq (z_at.mk 3 rfl rfl) rfl hx4 hx1 c_102 rfl rfl ?_
      refine r_p hq 1 (pc' := 161) (L' := [(0, .ref 143), (1, .int X1), (3, .int X3), (4, .int X4)]) (st' := [.ref 143]) rfl ?_
      obtain ⟨o_161, h_161, h⟩ := Option.bind_eq_some_iff.mp h
      refine r_cvV (pc' := 164) (L' := [(0, .ref 143), (1, .int X1), (3, .int X3), (4, .int X4)]) (Ps := []) (rest := []) hq (z_at.mk 3 rfl rfl) (Or.inl ⟨rfl, rfl⟩) rfl rfl (by decide) (by decide) rfl (Nat.not_lt.mpr (Nat.le_of_ble_eq_true rfl)) rfl rfl (z_cat_le 0 rfl (by decide)) (z_lgl_le 1 rfl (by decide)) (by decide) (H.tg rfl) (by omega) (g_m_trims_ok H h_161) rfl rfl ?_
      intro m_161 p_161 e_161 H_161
      subst e_161
      refine r_p hq 1 (pc' := 165) (L' := [(0, .ref 143), (1, .int X1), (3, .int X3), (4, .int X4)]) (st' := [.int X3]) rfl ?_
      cases h
      exact r_ri hq (z_at.mk 1 rfl rfl) rfl rfl hx3 rfl H_161
    · refine r_f2 (pc' := 105) (L' := [(0, .ref 143), (1, .int X1), (3, .int X3), (4, .int X4)]) hq (z_at.mk 3 rfl rfl) rfl hx4 hx1 c_102 rfl rfl ?_
      refine r_p hq 2 (pc' := 107) (L' := [(0, .ref 143), (1, .int X1), (3, .int X3), (4, .int X4)]) (st' := [.ref 143, .ref 143]) rfl ?_
      refine r_gR (b := 164) (pc' := 110) (L' := [(0, .ref 143), (1, .int X1), (3, .int X3), (4, .int X4)]) H hq (z_at.mk 3 rfl rfl) rfl rfl rfl rfl ?_
      refine r_p hq 3 (pc' := 114) (L' := [(0, .ref 143), (1, .int X1), (3, .int X3), (4, .int X4)]) (st' := [.int (((4 : Int32)) * X4), .ref 164, .ref 143]) rfl ?_
      obtain ⟨o_114, h_114, h⟩ := Option.bind_eq_some_iff.mp h
      refine r_cvI (pc' := 117) (L' := [(0, .ref 143), (1, .int X1), (3, .int X3), (4, .int X4)]) (Ps := [.ref 164, .int (((4 : Int32)) * X4)]) (rest := []) hq (z_at.mk 3 rfl rfl) (Or.inl ⟨rfl, rfl⟩) rfl rfl (by decide) (by decide) rfl (Nat.not_lt.mpr (Nat.le_of_ble_eq_true rfl)) rfl rfl (z_cat_le 0 rfl (by decide)) (z_lgl_le 3 rfl (by decide)) (by decide) (H.tg rfl) (by omega) (g_m_meetsNone_ok rfl (tx_imul (rfl : (4 : Int32).toInt = 4) hx4) H h_114) rfl rfl ?_
      intro R_114 m_114 p_114 e_114 hR_114 H_114
      subst e_114
      rcases z_ite h with ⟨c_117, h⟩ | ⟨c_117, h⟩
      · refine r_t1 (pc' := 123) (L' := [(0, .ref 143), (1, .int X1), (3, .int X3), (4, .int X4)]) hq (z_at.mk 3 rfl rfl) rfl hR_114 c_117 rfl rfl ?_
        refine r_p hq 2 (pc' := 125) (L' := [(0, .ref 143), (1, .int X1), (3, .int X3), (4, .int X4)]) (st' := [.ref 143, .ref 143]) rfl ?_
        refine r_gR (b := 164) (pc' := 128) (L' := [(0, .ref 143), (1, .int X1), (3, .int X3), (4, .int X4)]) H_114 hq (z_at.mk 3 rfl rfl) rfl rfl rfl rfl ?_
        refine r_p hq 3 (pc' := 132) (L' := [(0, .ref 143), (1, .int X1), (3, .int X3), (4, .int X4)]) (st' := [.int (((4 : Int32)) * X4), .ref 164, .ref 143]) rfl ?_
        obtain ⟨o_132, h_132, h⟩ := Option.bind_eq_some_iff.mp h
        refine r_cvV (pc' := 135) (L' := [(0, .ref 143), (1, .int X1), (3, .int X3), (4, .int X4)]) (Ps := [.ref 164, .int (((4 : Int32)) * X4)]) (rest := []) hq (z_at.mk 3 rfl rfl) (Or.inl ⟨rfl, rfl⟩) rfl rfl (by decide) (by decide) rfl (Nat.not_lt.mpr (Nat.le_of_ble_eq_true rfl)) rfl rfl (z_cat_le 0 rfl (by decide)) (z_lgl_le 3 rfl (by decide)) (by decide) (H_114.tg rfl) (by omega) (g_m_asks_ok rfl (tx_imul (rfl : (4 : Int32).toInt = 4) hx4) H_114 h_132) rfl rfl ?_
        intro m_132 p_132 e_132 H_132
        subst e_132
        refine r_p hq 3 (pc' := 138) (L' := [(0, .ref 143), (1, .int X1), (3, .int X3), (4, .int X4)]) (st' := [.ref 143, .ref 143, .ref 143]) rfl ?_
        refine r_gR (b := 164) (pc' := 141) (L' := [(0, .ref 143), (1, .int X1), (3, .int X3), (4, .int X4)]) H_132 hq (z_at.mk 3 rfl rfl) rfl rfl rfl rfl ?_
        refine r_p hq 3 (pc' := 145) (L' := [(0, .ref 143), (1, .int X1), (3, .int X3), (4, .int X4)]) (st' := [.int (((4 : Int32)) * X4), .ref 164, .ref 143, .ref 143]) rfl ?_
        obtain ⟨o_145, h_145, h⟩ := Option.bind_eq_some_iff.mp h
        refine r_cvI (pc' := 148) (L' := [(0, .ref 143), (1, .int X1), (3, .int X3), (4, .int X4)]) (Ps := [.ref 164, .int (((4 : Int32)) * X4)]) (rest := [.ref 143]) hq (z_at.mk 3 rfl rfl) (Or.inl ⟨rfl, rfl⟩) rfl rfl (by decide) (by decide) rfl (Nat.not_lt.mpr (Nat.le_of_ble_eq_true rfl)) rfl rfl (z_cat_le 1 rfl (by decide)) (z_lgl_le 3 rfl (by decide)) (by decide) (H_132.tg rfl) (by omega) (g_m_adds_ok rfl (tx_imul (rfl : (4 : Int32).toInt = 4) hx4) H_132 h_145) rfl rfl ?_
        intro R_145 m_145 p_145 e_145 hR_145 H_145
        subst e_145
        obtain ⟨o_148, h_148, h⟩ := Option.bind_eq_some_iff.mp h
        refine r_cvV (pc' := 151) (L' := [(0, .ref 143), (1, .int X1), (3, .int X3), (4, .int X4)]) (Ps := [.int R_145]) (rest := []) hq (z_at.mk 3 rfl rfl) (Or.inl ⟨rfl, rfl⟩) rfl rfl (by decide) (by decide) rfl (Nat.not_lt.mpr (Nat.le_of_ble_eq_true rfl)) rfl rfl (z_cat_le 0 rfl (by decide)) (z_lgl_le 2 rfl (by decide)) (by decide) (H_145.tg rfl) (by omega) (g_m_weighs_ok hR_145 H_145 h_148) rfl rfl ?_
        intro m_148 p_148 e_148 H_148
        subst e_148
        refine r_p hq 1 (pc' := 154) (L' := [(0, .ref 143), (1, .int X1), (3, .int (X3 + (1 : Int32))), (4, .int X4)]) (st' := []) rfl ?_
        exact g_m_load_L154_ok ih hx1 (tx_iadd hx3 (rfl : (1 : Int32).toInt = 1)) hx4 H_148 h
      · refine r_f1 (pc' := 120) (L' := [(0, .ref 143), (1, .int X1), (3, .int X3), (4, .int X4)]) hq (z_at.mk 3 rfl rfl) rfl hR_114 c_117 rfl rfl ?_
        refine r_p hq 1 (pc' := 154) (L' := [(0, .ref 143), (1, .int X1), (3, .int X3), (4, .int X4)]) (st' := []) rfl ?_
        exact g_m_load_L154_ok ih hx1 hx3 hx4 H_114 h
def g_m_load_L70 (g8 : Int → Int → zS → Option (Int × zS)) (x1 : Int) (xs0 : Int) (σ : zS) : Option (Int × zS) :=
  g8 x1 xs0 σ
set_option maxHeartbeats 4000000 in
theorem g_m_load_L70_ok {xl : Nat} {xs : Nat → Int32} {g8 : Int → Int → zS → Option (Int × zS)} (hg8 : ∀ {X1 : Int32} {x1 : Int} {X2 : Int32} {x2 : Int} {σ : zS} {p : Nat} {m : zM} {o : Int × zS}, X1.toInt = x1 → X2.toInt = x2 → zRep xl xs p m σ → g8 x1 x2 σ = some o → zGo xl xs (fun p' => p = p') 7 243 8 [(0, .ref 143), (1, .int X1), (2, .int X2)] [] m (vI o.1) o.2) {X1 : Int32} {x1 : Int} (hx1 : X1.toInt = x1) {Xs0 : Int32} {xs0 : Int} (hxs0 : Xs0.toInt = xs0) {σ : zS} {p : Nat} {m : zM} {o : Int × zS} (H : zRep xl xs p m σ) (h : g_m_load_L70 g8 x1 xs0 σ = some o) : zGo xl xs (fun p' => p = p') 7 243 70 [(0, .ref 143), (1, .int X1)] [.int Xs0] m (vI o.1) o.2 := by
  have hq : z_mth 243 = some z_r243 := rfl
  unfold g_m_load_L70 at h
  refine r_p hq 2 (pc' := 8) (L' := [(0, .ref 143), (1, .int X1), (2, .int Xs0)]) (st' := []) rfl ?_
  exact hg8 hx1 hxs0 H h
def g_m_load_L43 (g8 : Int → Int → zS → Option (Int × zS)) (x1 : Int) (x2 : Int) (σ : zS) : Option (Int × zS) :=
  if x2 = 0 then
    g8 x1 x2 σ
  else
    if 12 ≤ x1 then
      let v_64 := σ 143 21
      (g_m_fails v_64 σ).bind fun o_67 =>
      g_m_load_L70 g8 x1 o_67.1 o_67.2
    else
      (g_m_isSign 59 σ).bind fun o_56 =>
      g_m_load_L70 g8 x1 o_56.1 o_56.2
set_option maxHeartbeats 4000000 in
theorem g_m_load_L43_ok {xl : Nat} {xs : Nat → Int32} {g8 : Int → Int → zS → Option (Int × zS)} (hg8 : ∀ {X1 : Int32} {x1 : Int} {X2 : Int32} {x2 : Int} {σ : zS} {p : Nat} {m : zM} {o : Int × zS}, X1.toInt = x1 → X2.toInt = x2 → zRep xl xs p m σ → g8 x1 x2 σ = some o → zGo xl xs (fun p' => p = p') 7 243 8 [(0, .ref 143), (1, .int X1), (2, .int X2)] [] m (vI o.1) o.2) {X1 : Int32} {x1 : Int} (hx1 : X1.toInt = x1) {X2 : Int32} {x2 : Int} (hx2 : X2.toInt = x2) {σ : zS} {p : Nat} {m : zM} {o : Int × zS} (H : zRep xl xs p m σ) (h : g_m_load_L43 g8 x1 x2 σ = some o) : zGo xl xs (fun p' => p = p') 7 243 43 [(0, .ref 143), (1, .int X1), (2, .int X2)] [] m (vI o.1) o.2 := by
  have hq : z_mth 243 = some z_r243 := rfl
  unfold g_m_load_L43 at h
  refine r_p hq 1 (pc' := 44) (L' := [(0, .ref 143), (1, .int X1), (2, .int X2)]) (st' := [.int X2]) rfl ?_
  rcases z_ite h with ⟨c_44, h⟩ | ⟨c_44, h⟩
  · refine r_t1 (pc' := 8) (L' := [(0, .ref 143), (1, .int X1), (2, .int X2)]) hq (z_at.mk 3 rfl rfl) rfl hx2 c_44 rfl rfl ?_
    exact hg8 hx1 hx2 H h
  · refine r_f1 (pc' := 47) (L' := [(0, .ref 143), (1, .int X1), (2, .int X2)]) hq (z_at.mk 3 rfl rfl) rfl hx2 c_44 rfl rfl ?_
    refine r_p hq 2 (pc' := 50) (L' := [(0, .ref 143), (1, .int X1), (2, .int X2)]) (st' := [.int ((12 : Int32)), .int X1]) rfl ?_
    rcases z_ite h with ⟨c_50, h⟩ | ⟨c_50, h⟩
    · refine r_t2 (pc' := 62) (L' := [(0, .ref 143), (1, .int X1), (2, .int X2)]) hq (z_at.mk 3 rfl rfl) rfl hx1 (rfl : (12 : Int32).toInt = 12) c_50 rfl rfl ?_
      refine r_p hq 2 (pc' := 64) (L' := [(0, .ref 143), (1, .int X1), (2, .int X2)]) (st' := [.ref 143, .ref 143]) rfl ?_
      refine r_gI (pc' := 67) (L' := [(0, .ref 143), (1, .int X1), (2, .int X2)]) H hq (z_at.mk 3 rfl rfl) rfl rfl rfl rfl ?_
      intro V_64 hV_64
      obtain ⟨o_67, h_67, h⟩ := Option.bind_eq_some_iff.mp h
      refine r_cvI (pc' := 70) (L' := [(0, .ref 143), (1, .int X1)]) (Ps := [.int V_64]) (rest := []) hq (z_at.mk 3 rfl rfl) (Or.inl ⟨rfl, rfl⟩) rfl rfl (by decide) (by decide) rfl (Nat.not_lt.mpr (Nat.le_of_ble_eq_true rfl)) rfl rfl (z_cat_le 0 rfl (by decide)) (z_lgl_le 2 rfl (by decide)) (by decide) (H.tg rfl) (by omega) (g_m_fails_ok hV_64 H h_67) rfl rfl ?_
      intro R_67 m_67 p_67 e_67 hR_67 H_67
      subst e_67
      exact g_m_load_L70_ok hg8 hx1 hR_67 H_67 h
    · refine r_f2 (pc' := 53) (L' := [(0, .ref 143), (1, .int X1), (2, .int X2)]) hq (z_at.mk 3 rfl rfl) rfl hx1 (rfl : (12 : Int32).toInt = 12) c_50 rfl rfl ?_
      refine r_p hq 2 (pc' := 56) (L' := [(0, .ref 143), (1, .int X1), (2, .int X2)]) (st' := [.int ((59 : Int32)), .ref 143]) rfl ?_
      obtain ⟨o_56, h_56, h⟩ := Option.bind_eq_some_iff.mp h
      refine r_cvI (pc' := 59) (L' := [(0, .ref 143), (1, .int X1), (2, .int X2)]) (Ps := [.int ((59 : Int32))]) (rest := []) hq (z_at.mk 3 rfl rfl) (Or.inl ⟨rfl, rfl⟩) rfl rfl (by decide) (by decide) rfl (Nat.not_lt.mpr (Nat.le_of_ble_eq_true rfl)) rfl rfl (z_cat_le 0 rfl (by decide)) (z_lgl_le 2 rfl (by decide)) (by decide) (H.tg rfl) (by omega) (g_m_isSign_ok (rfl : (59 : Int32).toInt = 59) H h_56) rfl rfl ?_
      intro R_56 m_56 p_56 e_56 hR_56 H_56
      subst e_56
      refine r_p hq 1 (pc' := 70) (L' := [(0, .ref 143), (1, .int X1)]) (st' := [.int R_56]) rfl ?_
      exact g_m_load_L70_ok hg8 hx1 hR_56 H_56 h
def g_m_load_L8 : Nat → Int → Int → zS → Option (Int × zS)
  | 0, _, _, _ => none
  | n + 1, x1, x2, σ =>
    if x2 = 0 then
      let s_76 := zu σ 143 20 0
      let v_80 := s_76 143 22
      if v_80 < 0 then
        g_m_load_L99 zK x1 0 0 s_76
      else
        let v_89 := s_76 143 22
        some (w32 ((-100) - v_89), s_76)
    else
      (g_m_isSpelled (w32 (4 * x1)) σ).bind fun o_16 =>
      if o_16.1 = 0 then
        g_m_load_L43 ((g_m_load_L8 n)) (w32 (x1 + 1)) o_16.1 o_16.2
      else
        let v_28 := o_16.2 143 21
        let v_32 := o_16.2 143 20
        if v_28 ≠ v_32 then
          g_m_load_L43 ((g_m_load_L8 n)) (w32 (x1 + 1)) o_16.1 o_16.2
        else
          (g_m_load_L8 n) (w32 (x1 + 1)) 0 o_16.2
set_option maxHeartbeats 4000000 in
theorem g_m_load_L8_ok {xl : Nat} {xs : Nat → Int32} : ∀ (n : Nat) {X1 : Int32} {x1 : Int} {X2 : Int32} {x2 : Int} {σ : zS} {p : Nat} {m : zM} {o : Int × zS}, X1.toInt = x1 → X2.toInt = x2 → zRep xl xs p m σ → g_m_load_L8 n x1 x2 σ = some o → zGo xl xs (fun p' => p = p') 7 243 8 [(0, .ref 143), (1, .int X1), (2, .int X2)] [] m (vI o.1) o.2
  | 0, _, _, _, _, _, _, _, _, _, _, _, h => by cases h
  | n + 1, X1, x1, X2, x2, σ, p, m, o, hx1, hx2, H, h => by
    have hq : z_mth 243 = some z_r243 := rfl
    have ih := fun {X1 : Int32} {x1 : Int} {X2 : Int32} {x2 : Int} {σ : zS} {p : Nat} {m : zM} {o : Int × zS} => g_m_load_L8_ok (xl := xl) (xs := xs) n (X1 := X1) (x1 := x1) (X2 := X2) (x2 := x2) (σ := σ) (p := p) (m := m) (o := o)
    unfold g_m_load_L8 at h
    refine r_p hq 1 (pc' := 9) (L' := [(0, .ref 143), (1, .int X1), (2, .int X2)]) (st' := [.int X2]) rfl ?_
    rcases z_ite h with ⟨c_9, h⟩ | ⟨c_9, h⟩
    · refine r_t1 (pc' := 74) (L' := [(0, .ref 143), (1, .int X1), (2, .int X2)]) hq (z_at.mk 3 rfl rfl) rfl hx2 c_9 rfl rfl ?_
      refine r_p hq 2 (pc' := 76) (L' := [(0, .ref 143), (1, .int X1), (2, .int X2)]) (st' := [.int ((0 : Int32)), .ref 143]) rfl ?_
      refine r_pI (X := (0 : Int32)) (pc' := 79) (L' := [(0, .ref 143), (1, .int X1), (2, .int X2)]) H hq (z_at.mk 3 rfl rfl) rfl rfl (rfl : (0 : Int32).toInt = 0) (by decide) rfl rfl rfl rfl ?_
      intro m_76 H_76
      refine r_p hq 1 (pc' := 80) (L' := [(0, .ref 143), (1, .int X1), (2, .int X2)]) (st' := [.ref 143]) rfl ?_
      refine r_gI (pc' := 83) (L' := [(0, .ref 143), (1, .int X1), (2, .int X2)]) H_76 hq (z_at.mk 3 rfl rfl) rfl rfl rfl rfl ?_
      intro V_80 hV_80
      rcases z_ite h with ⟨c_83, h⟩ | ⟨c_83, h⟩
      · refine r_t1 (pc' := 94) (L' := [(0, .ref 143), (1, .int X1), (2, .int X2)]) hq (z_at.mk 3 rfl rfl) rfl hV_80 c_83 rfl rfl ?_
        refine r_p hq 4 (pc' := 99) (L' := [(0, .ref 143), (1, .int X1), (3, .int ((0 : Int32))), (4, .int ((0 : Int32)))]) (st' := []) rfl ?_
        exact g_m_load_L99_ok zK hx1 (rfl : (0 : Int32).toInt = 0) (rfl : (0 : Int32).toInt = 0) H_76 h
      · refine r_f1 (pc' := 86) (L' := [(0, .ref 143), (1, .int X1), (2, .int X2)]) hq (z_at.mk 3 rfl rfl) rfl hV_80 c_83 rfl rfl ?_
        refine r_p hq 2 (pc' := 89) (L' := [(0, .ref 143), (1, .int X1), (2, .int X2)]) (st' := [.ref 143, .int ((-100 : Int32))]) rfl ?_
        refine r_gI (pc' := 92) (L' := [(0, .ref 143), (1, .int X1), (2, .int X2)]) H_76 hq (z_at.mk 3 rfl rfl) rfl rfl rfl rfl ?_
        intro V_89 hV_89
        refine r_p hq 1 (pc' := 93) (L' := [(0, .ref 143), (1, .int X1), (2, .int X2)]) (st' := [.int (((-100 : Int32)) - V_89)]) rfl ?_
        cases h
        exact r_ri hq (z_at.mk 1 rfl rfl) rfl rfl (tx_isub (rfl : (-100 : Int32).toInt = -100) hV_89) rfl H_76
    · refine r_f1 (pc' := 12) (L' := [(0, .ref 143), (1, .int X1), (2, .int X2)]) hq (z_at.mk 3 rfl rfl) rfl hx2 c_9 rfl rfl ?_
      refine r_p hq 4 (pc' := 16) (L' := [(0, .ref 143), (1, .int X1), (2, .int X2)]) (st' := [.int (((4 : Int32)) * X1), .ref 143]) rfl ?_
      obtain ⟨o_16, h_16, h⟩ := Option.bind_eq_some_iff.mp h
      refine r_cvI (pc' := 19) (L' := [(0, .ref 143), (1, .int X1), (2, .int X2)]) (Ps := [.int (((4 : Int32)) * X1)]) (rest := []) hq (z_at.mk 3 rfl rfl) (Or.inl ⟨rfl, rfl⟩) rfl rfl (by decide) (by decide) rfl (Nat.not_lt.mpr (Nat.le_of_ble_eq_true rfl)) rfl rfl (z_cat_le 0 rfl (by decide)) (z_lgl_le 2 rfl (by decide)) (by decide) (H.tg rfl) (by omega) (g_m_isSpelled_ok (tx_imul (rfl : (4 : Int32).toInt = 4) hx1) H h_16) rfl rfl ?_
      intro R_16 m_16 p_16 e_16 hR_16 H_16
      subst e_16
      refine r_p hq 3 (pc' := 24) (L' := [(1, .int (X1 + (1 : Int32))), (2, .int R_16), (0, .ref 143)]) (st' := [.int R_16]) rfl ?_
      rcases z_ite h with ⟨c_24, h⟩ | ⟨c_24, h⟩
      · refine r_t1 (pc' := 43) (L' := [(0, .ref 143), (1, .int (X1 + (1 : Int32))), (2, .int R_16)]) hq (z_at.mk 3 rfl rfl) rfl hR_16 c_24 rfl rfl ?_
        exact g_m_load_L43_ok ih (tx_iadd hx1 (rfl : (1 : Int32).toInt = 1)) hR_16 H_16 h
      · refine r_f1 (pc' := 27) (L' := [(1, .int (X1 + (1 : Int32))), (2, .int R_16), (0, .ref 143)]) hq (z_at.mk 3 rfl rfl) rfl hR_16 c_24 rfl rfl ?_
        refine r_p hq 1 (pc' := 28) (L' := [(1, .int (X1 + (1 : Int32))), (2, .int R_16), (0, .ref 143)]) (st' := [.ref 143]) rfl ?_
        refine r_gI (pc' := 31) (L' := [(1, .int (X1 + (1 : Int32))), (2, .int R_16), (0, .ref 143)]) H_16 hq (z_at.mk 3 rfl rfl) rfl rfl rfl rfl ?_
        intro V_28 hV_28
        refine r_p hq 1 (pc' := 32) (L' := [(1, .int (X1 + (1 : Int32))), (2, .int R_16), (0, .ref 143)]) (st' := [.ref 143, .int V_28]) rfl ?_
        refine r_gI (pc' := 35) (L' := [(1, .int (X1 + (1 : Int32))), (2, .int R_16), (0, .ref 143)]) H_16 hq (z_at.mk 3 rfl rfl) rfl rfl rfl rfl ?_
        intro V_32 hV_32
        rcases z_ite h with ⟨c_35, h⟩ | ⟨c_35, h⟩
        · refine r_t2 (pc' := 43) (L' := [(0, .ref 143), (1, .int (X1 + (1 : Int32))), (2, .int R_16)]) hq (z_at.mk 3 rfl rfl) rfl hV_28 hV_32 c_35 rfl rfl ?_
          exact g_m_load_L43_ok ih (tx_iadd hx1 (rfl : (1 : Int32).toInt = 1)) hR_16 H_16 h
        · refine r_f2 (pc' := 38) (L' := [(1, .int (X1 + (1 : Int32))), (2, .int R_16), (0, .ref 143)]) hq (z_at.mk 3 rfl rfl) rfl hV_28 hV_32 c_35 rfl rfl ?_
          refine r_p hq 3 (pc' := 8) (L' := [(0, .ref 143), (1, .int (X1 + (1 : Int32))), (2, .int ((0 : Int32)))]) (st' := []) rfl ?_
          exact ih (tx_iadd hx1 (rfl : (1 : Int32).toInt = 1)) (rfl : (0 : Int32).toInt = 0) H_16 h
def g_m_load (σ : zS) : Option (Int × zS) :=
  (g_m_begins σ).bind fun o_1 =>
  g_m_load_L8 zK 0 1 o_1.2
set_option maxHeartbeats 4000000 in
theorem g_m_load_ok {xl : Nat} {xs : Nat → Int32} {σ : zS} {p : Nat} {m : zM} {o : Int × zS} (H : zRep xl xs p m σ) (h : g_m_load σ = some o) : zGo xl xs (fun p' => p = p') 7 243 0 (z_can 243 0 (lv_args 0 [.ref 143])) [] m (vI o.1) o.2 := by
  have hq : z_mth 243 = some z_r243 := rfl
  unfold g_m_load at h
  show zGo xl xs (fun p' => p = p') 7 243 0 [(0, .ref 143)] [] m (vI o.1) o.2
  refine r_p hq 1 (pc' := 1) (L' := [(0, .ref 143)]) (st' := [.ref 143]) rfl ?_
  obtain ⟨o_1, h_1, h⟩ := Option.bind_eq_some_iff.mp h
  refine r_cvV (pc' := 4) (L' := [(0, .ref 143)]) (Ps := []) (rest := []) hq (z_at.mk 3 rfl rfl) (Or.inl ⟨rfl, rfl⟩) rfl rfl (by decide) (by decide) rfl (Nat.not_lt.mpr (Nat.le_of_ble_eq_true rfl)) rfl rfl (z_cat_le 0 rfl (by decide)) (z_lgl_le 1 rfl (by decide)) (by decide) (H.tg rfl) (by omega) (g_m_begins_ok H h_1) rfl rfl ?_
  intro m_1 p_1 e_1 H_1
  subst e_1
  refine r_p hq 4 (pc' := 8) (L' := [(0, .ref 143), (1, .int ((0 : Int32))), (2, .int ((1 : Int32)))]) (st' := []) rfl ?_
  exact g_m_load_L8_ok zK (rfl : (0 : Int32).toInt = 0) (rfl : (1 : Int32).toInt = 1) H_1 h
def g_m_query (x1 : Int) (x2 : Int) (x3 : Int) (x4 : Int) (x5 : Int) (σ : zS) : Option (Int × zS) :=
  (g_m_isIn x1 0 6 σ).bind fun o_4 =>
  if o_4.1 = 0 then
    some (-9223372036854775808, o_4.2)
  else
    (g_m_isBox x2 x3 x4 x5 o_4.2).bind fun o_16 =>
    if o_16.1 ≠ 0 then
      (g_m_sets 152 0 x2 x3 x4 x5 o_16.2).bind fun o_37 =>
      (g_m_asked x1 (-1) o_37.2).bind fun o_43 =>
      some (o_43.1, o_43.2)
    else
      some (-9223372036854775808, o_16.2)
set_option maxHeartbeats 4000000 in
theorem g_m_query_ok {xl : Nat} {xs : Nat → Int32} {X1 : Int32} {x1 : Int} (hx1 : X1.toInt = x1) {X2 : Int32} {x2 : Int} (hx2 : X2.toInt = x2) {X3 : Int32} {x3 : Int} (hx3 : X3.toInt = x3) {X4 : Int32} {x4 : Int} (hx4 : X4.toInt = x4) {X5 : Int32} {x5 : Int} (hx5 : X5.toInt = x5) {σ : zS} {p : Nat} {m : zM} {o : Int × zS} (H : zRep xl xs p m σ) (h : g_m_query x1 x2 x3 x4 x5 σ = some o) : zGo xl xs (fun p' => p = p') 507 244 0 (z_can 244 0 (lv_args 0 [.ref 143, .int X1, .int X2, .int X3, .int X4, .int X5])) [] m (vL o.1) o.2 := by
  have hq : z_mth 244 = some z_r244 := rfl
  unfold g_m_query at h
  show zGo xl xs (fun p' => p = p') 507 244 0 [(0, .ref 143), (1, .int X1), (2, .int X2), (3, .int X3), (4, .int X4), (5, .int X5)] [] m (vL o.1) o.2
  refine r_p hq 3 (pc' := 4) (L' := [(0, .ref 143), (1, .int X1), (2, .int X2), (3, .int X3), (4, .int X4), (5, .int X5)]) (st' := [.int ((6 : Int32)), .int ((0 : Int32)), .int X1]) rfl ?_
  obtain ⟨o_4, h_4, h⟩ := Option.bind_eq_some_iff.mp h
  refine r_csI (pc' := 7) (L' := [(0, .ref 143), (1, .int X1), (2, .int X2), (3, .int X3), (4, .int X4), (5, .int X5)]) (As := [.int X1, .int ((0 : Int32)), .int ((6 : Int32))]) (rest := []) (j := 159) hq (z_at.mk 3 rfl rfl) (Or.inl ⟨rfl, rfl⟩) rfl rfl (by omega) (g_m_isIn_ok hx1 (rfl : (0 : Int32).toInt = 0) (rfl : (6 : Int32).toInt = 6) H h_4) rfl rfl ?_
  intro R_4 m_4 p_4 e_4 hR_4 H_4
  subst e_4
  rcases z_ite h with ⟨c_7, h⟩ | ⟨c_7, h⟩
  · refine r_t1 (pc' := 22) (L' := []) hq (z_at.mk 3 rfl rfl) rfl hR_4 c_7 rfl rfl ?_
    refine r_p hq 1 (pc' := 25) (L' := []) (st' := [.long ((-9223372036854775808 : Int64))]) rfl ?_
    cases h
    exact r_rl hq (z_at.mk 1 rfl rfl) rfl (rfl : (-9223372036854775808 : Int64).toInt = -9223372036854775808) rfl H_4
  · refine r_f1 (pc' := 10) (L' := [(0, .ref 143), (1, .int X1), (2, .int X2), (3, .int X3), (4, .int X4), (5, .int X5)]) hq (z_at.mk 3 rfl rfl) rfl hR_4 c_7 rfl rfl ?_
    refine r_p hq 4 (pc' := 16) (L' := [(0, .ref 143), (1, .int X1), (2, .int X2), (3, .int X3), (4, .int X4), (5, .int X5)]) (st' := [.int X5, .int X4, .int X3, .int X2]) rfl ?_
    obtain ⟨o_16, h_16, h⟩ := Option.bind_eq_some_iff.mp h
    refine r_csI (pc' := 19) (L' := [(0, .ref 143), (1, .int X1), (2, .int X2), (3, .int X3), (4, .int X4), (5, .int X5)]) (As := [.int X2, .int X3, .int X4, .int X5]) (rest := []) (j := 164) hq (z_at.mk 3 rfl rfl) (Or.inl ⟨rfl, rfl⟩) rfl rfl (by omega) (g_m_isBox_ok hx2 hx3 hx4 hx5 H_4 h_16) rfl rfl ?_
    intro R_16 m_16 p_16 e_16 hR_16 H_16
    subst e_16
    rcases z_ite h with ⟨c_19, h⟩ | ⟨c_19, h⟩
    · refine r_t1 (pc' := 26) (L' := [(0, .ref 143), (1, .int X1), (2, .int X2), (3, .int X3), (4, .int X4), (5, .int X5)]) hq (z_at.mk 3 rfl rfl) rfl hR_16 c_19 rfl rfl ?_
      refine r_p hq 1 (pc' := 27) (L' := [(0, .ref 143), (1, .int X1), (2, .int X2), (3, .int X3), (4, .int X4), (5, .int X5)]) (st' := [.ref 143]) rfl ?_
      refine r_gR (b := 152) (pc' := 30) (L' := [(0, .ref 143), (1, .int X1), (2, .int X2), (3, .int X3), (4, .int X4), (5, .int X5)]) H_16 hq (z_at.mk 3 rfl rfl) rfl rfl rfl rfl ?_
      refine r_p hq 5 (pc' := 37) (L' := [(0, .ref 143), (1, .int X1), (2, .int X2), (3, .int X3), (4, .int X4), (5, .int X5)]) (st' := [.int X5, .int X4, .int X3, .int X2, .int ((0 : Int32)), .ref 152]) rfl ?_
      obtain ⟨o_37, h_37, h⟩ := Option.bind_eq_some_iff.mp h
      refine r_csV (pc' := 40) (L' := [(0, .ref 143), (1, .int X1), (2, .int X2), (3, .int X3), (4, .int X4), (5, .int X5)]) (As := [.ref 152, .int ((0 : Int32)), .int X2, .int X3, .int X4, .int X5]) (rest := []) (j := 165) hq (z_at.mk 3 rfl rfl) (Or.inl ⟨rfl, rfl⟩) rfl rfl (by omega) (g_m_sets_ok rfl (rfl : (0 : Int32).toInt = 0) hx2 hx3 hx4 hx5 H_16 h_37) rfl rfl ?_
      intro m_37 p_37 e_37 H_37
      subst e_37
      refine r_p hq 3 (pc' := 43) (L' := [(0, .ref 143), (1, .int X1), (2, .int X2), (3, .int X3), (4, .int X4), (5, .int X5)]) (st' := [.int ((-1 : Int32)), .int X1, .ref 143]) rfl ?_
      obtain ⟨o_43, h_43, h⟩ := Option.bind_eq_some_iff.mp h
      refine r_cvL (pc' := 46) (L' := [(0, .ref 143), (1, .int X1), (2, .int X2), (3, .int X3), (4, .int X4), (5, .int X5)]) (Ps := [.int X1, .int ((-1 : Int32))]) (rest := []) hq (z_at.mk 3 rfl rfl) (Or.inl ⟨rfl, rfl⟩) rfl rfl (by decide) (by decide) rfl (Nat.not_lt.mpr (Nat.le_of_ble_eq_true rfl)) rfl rfl (z_cat_le 0 rfl (by decide)) (z_lgl_le 3 rfl (by decide)) (by decide) (H_37.tg rfl) (by omega) (g_m_asked_ok hx1 (rfl : (-1 : Int32).toInt = -1) H_37 h_43) rfl rfl ?_
      intro R_43 m_43 p_43 e_43 hR_43 H_43
      subst e_43
      cases h
      exact r_rl hq (z_at.mk 1 rfl rfl) rfl hR_43 rfl H_43
    · refine r_f1 (pc' := 22) (L' := []) hq (z_at.mk 3 rfl rfl) rfl hR_16 c_19 rfl rfl ?_
      refine r_p hq 1 (pc' := 25) (L' := []) (st' := [.long ((-9223372036854775808 : Int64))]) rfl ?_
      cases h
      exact r_rl hq (z_at.mk 1 rfl rfl) rfl (rfl : (-9223372036854775808 : Int64).toInt = -9223372036854775808) rfl H_16
def g_m_find (x1 : Int) (σ : zS) : Option (Int × zS) :=
  if x1 ≠ -1 then
    let v_23 := σ 144 8
    (g_m_isIn x1 0 (w32 (v_23 - 1)) σ).bind fun o_26 =>
    if o_26.1 = 0 then
      some (-1, o_26.2)
    else
      if 0 ≤ w32 (200 + x1) ∧ w32 (200 + x1) < 2740 then
      let v_41 := o_26.2 144 (w32 (200 + x1))
      some (v_41, o_26.2)
      else none
  else
    let v_11 := σ 144 8
    some (v_11, σ)
set_option maxHeartbeats 4000000 in
theorem g_m_find_ok {xl : Nat} {xs : Nat → Int32} {X1 : Int32} {x1 : Int} (hx1 : X1.toInt = x1) {σ : zS} {p : Nat} {m : zM} {o : Int × zS} (H : zRep xl xs p m σ) (h : g_m_find x1 σ = some o) : zGo xl xs (fun p' => p = p') 2 245 0 (z_can 245 0 (lv_args 0 [.ref 143, .int X1])) [] m (vI o.1) o.2 := by
  have hq : z_mth 245 = some z_r245 := rfl
  unfold g_m_find at h
  show zGo xl xs (fun p' => p = p') 2 245 0 [(0, .ref 143), (1, .int X1)] [] m (vI o.1) o.2
  refine r_p hq 2 (pc' := 2) (L' := [(0, .ref 143), (1, .int X1)]) (st' := [.int ((-1 : Int32)), .int X1]) rfl ?_
  rcases z_ite h with ⟨c_2, h⟩ | ⟨c_2, h⟩
  · refine r_t2 (pc' := 15) (L' := [(0, .ref 143), (1, .int X1)]) hq (z_at.mk 3 rfl rfl) rfl hx1 (rfl : (-1 : Int32).toInt = -1) c_2 rfl rfl ?_
    refine r_p hq 3 (pc' := 18) (L' := [(0, .ref 143), (1, .int X1)]) (st' := [.ref 143, .int ((0 : Int32)), .int X1]) rfl ?_
    refine r_gR (b := 144) (pc' := 21) (L' := [(0, .ref 143), (1, .int X1)]) H hq (z_at.mk 3 rfl rfl) rfl rfl rfl rfl ?_
    refine r_p hq 1 (pc' := 23) (L' := [(0, .ref 143), (1, .int X1)]) (st' := [.int ((8 : Int32)), .ref 144, .int ((0 : Int32)), .int X1]) rfl ?_
    refine r_ia (pc' := 24) (L' := [(0, .ref 143), (1, .int X1)]) H hq (z_at.mk 1 rfl rfl) (show zAr 144 0 2740 = true from rfl) (rfl : (8 : Int32).toInt = 8) ⟨by decide, by decide⟩ rfl rfl ?_
    intro V_23 hV_23
    refine r_p hq 2 (pc' := 26) (L' := [(0, .ref 143), (1, .int X1)]) (st' := [.int (V_23 - ((1 : Int32))), .int ((0 : Int32)), .int X1]) rfl ?_
    obtain ⟨o_26, h_26, h⟩ := Option.bind_eq_some_iff.mp h
    refine r_csI (pc' := 29) (L' := [(0, .ref 143), (1, .int X1)]) (As := [.int X1, .int ((0 : Int32)), .int (V_23 - ((1 : Int32)))]) (rest := []) (j := 159) hq (z_at.mk 3 rfl rfl) (Or.inl ⟨rfl, rfl⟩) rfl rfl (by omega) (g_m_isIn_ok hx1 (rfl : (0 : Int32).toInt = 0) (tx_isub hV_23 (rfl : (1 : Int32).toInt = 1)) H h_26) rfl rfl ?_
    intro R_26 m_26 p_26 e_26 hR_26 H_26
    subst e_26
    rcases z_ite h with ⟨c_29, h⟩ | ⟨c_29, h⟩
    · refine r_t1 (pc' := 45) (L' := [(0, .ref 143), (1, .int X1)]) hq (z_at.mk 3 rfl rfl) rfl hR_26 c_29 rfl rfl ?_
      refine r_p hq 1 (pc' := 46) (L' := []) (st' := [.int ((-1 : Int32))]) rfl ?_
      cases h
      exact r_ri hq (z_at.mk 1 rfl rfl) rfl rfl (rfl : (-1 : Int32).toInt = -1) rfl H_26
    · refine r_f1 (pc' := 32) (L' := [(0, .ref 143), (1, .int X1)]) hq (z_at.mk 3 rfl rfl) rfl hR_26 c_29 rfl rfl ?_
      refine r_p hq 1 (pc' := 33) (L' := [(0, .ref 143), (1, .int X1)]) (st' := [.ref 143]) rfl ?_
      refine r_gR (b := 144) (pc' := 36) (L' := [(0, .ref 143), (1, .int X1)]) H_26 hq (z_at.mk 3 rfl rfl) rfl rfl rfl rfl ?_
      refine r_p hq 3 (pc' := 41) (L' := [(0, .ref 143), (1, .int X1)]) (st' := [.int (((200 : Int32)) + X1), .ref 144]) rfl ?_
      obtain ⟨g_41, h⟩ := z_ifo_some h
      refine r_ia (pc' := 42) (L' := [(0, .ref 143), (1, .int X1)]) H_26 hq (z_at.mk 1 rfl rfl) (show zAr 144 0 2740 = true from rfl) (tx_iadd (rfl : (200 : Int32).toInt = 200) hx1) g_41 rfl rfl ?_
      intro V_41 hV_41
      refine r_p hq 1 (pc' := 46) (L' := []) (st' := [.int V_41]) rfl ?_
      cases h
      exact r_ri hq (z_at.mk 1 rfl rfl) rfl rfl hV_41 rfl H_26
  · refine r_f2 (pc' := 5) (L' := [(0, .ref 143), (1, .int X1)]) hq (z_at.mk 3 rfl rfl) rfl hx1 (rfl : (-1 : Int32).toInt = -1) c_2 rfl rfl ?_
    refine r_p hq 1 (pc' := 6) (L' := [(0, .ref 143), (1, .int X1)]) (st' := [.ref 143]) rfl ?_
    refine r_gR (b := 144) (pc' := 9) (L' := [(0, .ref 143), (1, .int X1)]) H hq (z_at.mk 3 rfl rfl) rfl rfl rfl rfl ?_
    refine r_p hq 1 (pc' := 11) (L' := [(0, .ref 143), (1, .int X1)]) (st' := [.int ((8 : Int32)), .ref 144]) rfl ?_
    refine r_ia (pc' := 12) (L' := [(0, .ref 143), (1, .int X1)]) H hq (z_at.mk 1 rfl rfl) (show zAr 144 0 2740 = true from rfl) (rfl : (8 : Int32).toInt = 8) ⟨by decide, by decide⟩ rfl rfl ?_
    intro V_11 hV_11
    refine r_p hq 1 (pc' := 46) (L' := []) (st' := [.int V_11]) rfl ?_
    cases h
    exact r_ri hq (z_at.mk 1 rfl rfl) rfl rfl hV_11 rfl H
def g_m_probe_L136 (g39 : Int → zS → Option (Int × zS)) (x5 : Int) (σ : zS) : Option (Int × zS) :=
  g39 (w32 (x5 + 1)) σ
set_option maxHeartbeats 4000000 in
theorem g_m_probe_L136_ok {xl : Nat} {xs : Nat → Int32} {g39 : Int → zS → Option (Int × zS)} (hg39 : ∀ {X5 : Int32} {x5 : Int} {σ : zS} {p : Nat} {m : zM} {o : Int × zS}, X5.toInt = x5 → zRep xl xs p m σ → g39 x5 σ = some o → zGo xl xs (fun p' => p = p') 5 246 39 [(0, .ref 143), (5, .int X5)] [] m (vI o.1) o.2) {X5 : Int32} {x5 : Int} (hx5 : X5.toInt = x5) {σ : zS} {p : Nat} {m : zM} {o : Int × zS} (H : zRep xl xs p m σ) (h : g_m_probe_L136 g39 x5 σ = some o) : zGo xl xs (fun p' => p = p') 5 246 136 [(0, .ref 143), (5, .int X5)] [] m (vI o.1) o.2 := by
  have hq : z_mth 246 = some z_r246 := rfl
  unfold g_m_probe_L136 at h
  refine r_p hq 2 (pc' := 39) (L' := [(0, .ref 143), (5, .int (X5 + (1 : Int32)))]) (st' := []) rfl ?_
  exact hg39 (tx_iadd hx5 (rfl : (1 : Int32).toInt = 1)) H h
def g_m_probe_L145 : Nat → Int → zS → Option (Int × zS)
  | 0, _, _ => none
  | n + 1, x5, σ =>
    let v_148 := σ 143 10
    if v_148 ≤ x5 then
      let v_207 := σ 143 32
      some (v_207, σ)
    else
      let v_168 := σ 143 32
      (g_m_copies 150 165 (w32 (4 * x5)) (w32 (5 * v_168)) σ).bind fun o_172 =>
      let v_181 := o_172.2 143 32
      if 0 ≤ w32 ((w32 (5 * v_181)) + 4) ∧ w32 ((w32 (5 * v_181)) + 4) < 3000 then
      let s_189 := zu o_172.2 165 (w32 ((w32 (5 * v_181)) + 4)) (-5)
      let v_192 := s_189 143 32
      let s_197 := zu s_189 143 32 (w32 (v_192 + 1))
      (g_m_probe_L145 n) (w32 (x5 + 1)) s_197
      else none
set_option maxHeartbeats 4000000 in
theorem g_m_probe_L145_ok {xl : Nat} {xs : Nat → Int32} : ∀ (n : Nat) {X5 : Int32} {x5 : Int} {σ : zS} {p : Nat} {m : zM} {o : Int × zS}, X5.toInt = x5 → zRep xl xs p m σ → g_m_probe_L145 n x5 σ = some o → zGo xl xs (fun p' => p = p') 5 246 145 [(0, .ref 143), (5, .int X5)] [] m (vI o.1) o.2
  | 0, _, _, _, _, _, _, _, _, h => by cases h
  | n + 1, X5, x5, σ, p, m, o, hx5, H, h => by
    have hq : z_mth 246 = some z_r246 := rfl
    have ih := fun {X5 : Int32} {x5 : Int} {σ : zS} {p : Nat} {m : zM} {o : Int × zS} => g_m_probe_L145_ok (xl := xl) (xs := xs) n (X5 := X5) (x5 := x5) (σ := σ) (p := p) (m := m) (o := o)
    unfold g_m_probe_L145 at h
    refine r_p hq 2 (pc' := 148) (L' := [(0, .ref 143), (5, .int X5)]) (st' := [.ref 143, .int X5]) rfl ?_
    refine r_gI (pc' := 151) (L' := [(0, .ref 143), (5, .int X5)]) H hq (z_at.mk 3 rfl rfl) rfl rfl rfl rfl ?_
    intro V_148 hV_148
    rcases z_ite h with ⟨c_151, h⟩ | ⟨c_151, h⟩
    · refine r_t2 (pc' := 206) (L' := [(0, .ref 143), (5, .int X5)]) hq (z_at.mk 3 rfl rfl) rfl hx5 hV_148 c_151 rfl rfl ?_
      refine r_p hq 1 (pc' := 207) (L' := [(0, .ref 143), (5, .int X5)]) (st' := [.ref 143]) rfl ?_
      refine r_gI (pc' := 210) (L' := [(0, .ref 143), (5, .int X5)]) H hq (z_at.mk 3 rfl rfl) rfl rfl rfl rfl ?_
      intro V_207 hV_207
      cases h
      exact r_ri hq (z_at.mk 1 rfl rfl) rfl rfl hV_207 rfl H
    · refine r_f2 (pc' := 154) (L' := [(0, .ref 143), (5, .int X5)]) hq (z_at.mk 3 rfl rfl) rfl hx5 hV_148 c_151 rfl rfl ?_
      refine r_p hq 1 (pc' := 155) (L' := [(0, .ref 143), (5, .int X5)]) (st' := [.ref 143]) rfl ?_
      refine r_gR (b := 150) (pc' := 158) (L' := [(0, .ref 143), (5, .int X5)]) H hq (z_at.mk 3 rfl rfl) rfl rfl rfl rfl ?_
      refine r_p hq 4 (pc' := 163) (L' := [(0, .ref 143), (5, .int X5)]) (st' := [.ref 143, .int (((4 : Int32)) * X5), .ref 150]) rfl ?_
      refine r_gR (b := 165) (pc' := 166) (L' := [(0, .ref 143), (5, .int X5)]) H hq (z_at.mk 3 rfl rfl) rfl rfl rfl rfl ?_
      refine r_p hq 2 (pc' := 168) (L' := [(0, .ref 143), (5, .int X5)]) (st' := [.ref 143, .int ((5 : Int32)), .ref 165, .int (((4 : Int32)) * X5), .ref 150]) rfl ?_
      refine r_gI (pc' := 171) (L' := [(0, .ref 143), (5, .int X5)]) H hq (z_at.mk 3 rfl rfl) rfl rfl rfl rfl ?_
      intro V_168 hV_168
      refine r_p hq 1 (pc' := 172) (L' := [(0, .ref 143), (5, .int X5)]) (st' := [.int (((5 : Int32)) * V_168), .ref 165, .int (((4 : Int32)) * X5), .ref 150]) rfl ?_
      obtain ⟨o_172, h_172, h⟩ := Option.bind_eq_some_iff.mp h
      refine r_csV (pc' := 175) (L' := [(0, .ref 143), (5, .int X5)]) (As := [.ref 150, .int (((4 : Int32)) * X5), .ref 165, .int (((5 : Int32)) * V_168)]) (rest := []) (j := 166) hq (z_at.mk 3 rfl rfl) (Or.inl ⟨rfl, rfl⟩) rfl rfl (by omega) (g_m_copies_ok rfl rfl (tx_imul (rfl : (4 : Int32).toInt = 4) hx5) (tx_imul (rfl : (5 : Int32).toInt = 5) hV_168) H h_172) rfl rfl ?_
      intro m_172 p_172 e_172 H_172
      subst e_172
      refine r_p hq 1 (pc' := 176) (L' := [(0, .ref 143), (5, .int X5)]) (st' := [.ref 143]) rfl ?_
      refine r_gR (b := 165) (pc' := 179) (L' := [(0, .ref 143), (5, .int X5)]) H_172 hq (z_at.mk 3 rfl rfl) rfl rfl rfl rfl ?_
      refine r_p hq 2 (pc' := 181) (L' := [(0, .ref 143), (5, .int X5)]) (st' := [.ref 143, .int ((5 : Int32)), .ref 165]) rfl ?_
      refine r_gI (pc' := 184) (L' := [(0, .ref 143), (5, .int X5)]) H_172 hq (z_at.mk 3 rfl rfl) rfl rfl rfl rfl ?_
      intro V_181 hV_181
      refine r_p hq 4 (pc' := 189) (L' := [(0, .ref 143), (5, .int X5)]) (st' := [.int ((-5 : Int32)), .int ((((5 : Int32)) * V_181) + ((4 : Int32))), .ref 165]) rfl ?_
      obtain ⟨g_189, h⟩ := z_ifo_some h
      refine r_is (pc' := 190) (L' := [(0, .ref 143), (5, .int X5)]) H_172 hq (z_at.mk 1 rfl rfl) (show zAr 165 0 3000 = true from rfl) (tx_iadd (tx_imul (rfl : (5 : Int32).toInt = 5) hV_181) (rfl : (4 : Int32).toInt = 4)) g_189 (rfl : (-5 : Int32).toInt = -5) rfl rfl ?_
      intro m_189 H_189
      refine r_p hq 2 (pc' := 192) (L' := [(0, .ref 143), (5, .int X5)]) (st' := [.ref 143, .ref 143]) rfl ?_
      refine r_gI (pc' := 195) (L' := [(0, .ref 143), (5, .int X5)]) H_189 hq (z_at.mk 3 rfl rfl) rfl rfl rfl rfl ?_
      intro V_192 hV_192
      refine r_p hq 2 (pc' := 197) (L' := [(0, .ref 143), (5, .int X5)]) (st' := [.int (V_192 + ((1 : Int32))), .ref 143]) rfl ?_
      refine r_pI (X := V_192 + ((1 : Int32))) (pc' := 200) (L' := [(0, .ref 143), (5, .int X5)]) H_189 hq (z_at.mk 3 rfl rfl) rfl rfl (tx_iadd hV_192 (rfl : (1 : Int32).toInt = 1)) (by decide) rfl rfl rfl rfl ?_
      intro m_197 H_197
      refine r_p hq 2 (pc' := 145) (L' := [(0, .ref 143), (5, .int (X5 + (1 : Int32)))]) (st' := []) rfl ?_
      exact ih (tx_iadd hx5 (rfl : (1 : Int32).toInt = 1)) H_197 h
def g_m_probe_L39 : Nat → Int → zS → Option (Int × zS)
  | 0, _, _ => none
  | n + 1, x5, σ =>
    let v_46 := σ 144 0
    if v_46 ≤ x5 then
      g_m_probe_L145 zK 0 σ
    else
      (g_m_region_173 x5 σ).bind fun o_56 =>
      (g_m_doMeet 144 152 o_56.1 0 o_56.2).bind fun o_64 =>
      if o_64.1 ≠ 0 then
        (g_m_region_173 x5 o_64.2).bind fun o_79 =>
        let v_93 := o_79.2 143 32
        (g_m_commons 144 152 165 o_79.1 0 (w32 (5 * v_93)) o_79.2).bind fun o_97 =>
        let v_106 := o_97.2 143 32
        (g_m_region_173 x5 o_97.2).bind fun o_118 =>
        if 0 ≤ w32 (o_118.1 + 8) ∧ w32 (o_118.1 + 8) < 2740 then
        let v_124 := o_118.2 144 (w32 (o_118.1 + 8))
        if 0 ≤ w32 ((w32 (5 * v_106)) + 4) ∧ w32 ((w32 (5 * v_106)) + 4) < 3000 then
        let s_125 := zu o_118.2 165 (w32 ((w32 (5 * v_106)) + 4)) v_124
        let v_128 := s_125 143 32
        let s_133 := zu s_125 143 32 (w32 (v_128 + 1))
        g_m_probe_L136 ((g_m_probe_L39 n)) x5 s_133
        else none
        else none
      else
        g_m_probe_L136 ((g_m_probe_L39 n)) x5 o_64.2
set_option maxHeartbeats 4000000 in
theorem g_m_probe_L39_ok {xl : Nat} {xs : Nat → Int32} : ∀ (n : Nat) {X5 : Int32} {x5 : Int} {σ : zS} {p : Nat} {m : zM} {o : Int × zS}, X5.toInt = x5 → zRep xl xs p m σ → g_m_probe_L39 n x5 σ = some o → zGo xl xs (fun p' => p = p') 5 246 39 [(0, .ref 143), (5, .int X5)] [] m (vI o.1) o.2
  | 0, _, _, _, _, _, _, _, _, h => by cases h
  | n + 1, X5, x5, σ, p, m, o, hx5, H, h => by
    have hq : z_mth 246 = some z_r246 := rfl
    have ih := fun {X5 : Int32} {x5 : Int} {σ : zS} {p : Nat} {m : zM} {o : Int × zS} => g_m_probe_L39_ok (xl := xl) (xs := xs) n (X5 := X5) (x5 := x5) (σ := σ) (p := p) (m := m) (o := o)
    unfold g_m_probe_L39 at h
    refine r_p hq 2 (pc' := 42) (L' := [(0, .ref 143), (5, .int X5)]) (st' := [.ref 143, .int X5]) rfl ?_
    refine r_gR (b := 144) (pc' := 45) (L' := [(0, .ref 143), (5, .int X5)]) H hq (z_at.mk 3 rfl rfl) rfl rfl rfl rfl ?_
    refine r_p hq 1 (pc' := 46) (L' := [(0, .ref 143), (5, .int X5)]) (st' := [.int ((0 : Int32)), .ref 144, .int X5]) rfl ?_
    refine r_ia (pc' := 47) (L' := [(0, .ref 143), (5, .int X5)]) H hq (z_at.mk 1 rfl rfl) (show zAr 144 0 2740 = true from rfl) (rfl : (0 : Int32).toInt = 0) ⟨by decide, by decide⟩ rfl rfl ?_
    intro V_46 hV_46
    rcases z_ite h with ⟨c_47, h⟩ | ⟨c_47, h⟩
    · refine r_t2 (pc' := 142) (L' := [(0, .ref 143), (5, .int X5)]) hq (z_at.mk 3 rfl rfl) rfl hx5 hV_46 c_47 rfl rfl ?_
      refine r_p hq 2 (pc' := 145) (L' := [(0, .ref 143), (5, .int ((0 : Int32)))]) (st' := []) rfl ?_
      exact g_m_probe_L145_ok zK (rfl : (0 : Int32).toInt = 0) H h
    · refine r_f2 (pc' := 50) (L' := [(0, .ref 143), (5, .int X5)]) hq (z_at.mk 3 rfl rfl) rfl hx5 hV_46 c_47 rfl rfl ?_
      refine r_p hq 1 (pc' := 51) (L' := [(0, .ref 143), (5, .int X5)]) (st' := [.ref 143]) rfl ?_
      refine r_gR (b := 144) (pc' := 54) (L' := [(0, .ref 143), (5, .int X5)]) H hq (z_at.mk 3 rfl rfl) rfl rfl rfl rfl ?_
      refine r_p hq 1 (pc' := 56) (L' := [(0, .ref 143), (5, .int X5)]) (st' := [.int X5, .ref 144]) rfl ?_
      obtain ⟨o_56, h_56, h⟩ := Option.bind_eq_some_iff.mp h
      refine r_csI (pc' := 59) (L' := [(0, .ref 143), (5, .int X5)]) (As := [.int X5]) (rest := [.ref 144]) (j := 173) hq (z_at.mk 3 rfl rfl) (Or.inl ⟨rfl, rfl⟩) rfl rfl (by omega) (g_m_region_173_ok hx5 H h_56) rfl rfl ?_
      intro R_56 m_56 p_56 e_56 hR_56 H_56
      subst e_56
      refine r_p hq 1 (pc' := 60) (L' := [(0, .ref 143), (5, .int X5)]) (st' := [.ref 143, .int R_56, .ref 144]) rfl ?_
      refine r_gR (b := 152) (pc' := 63) (L' := [(0, .ref 143), (5, .int X5)]) H_56 hq (z_at.mk 3 rfl rfl) rfl rfl rfl rfl ?_
      refine r_p hq 1 (pc' := 64) (L' := [(0, .ref 143), (5, .int X5)]) (st' := [.int ((0 : Int32)), .ref 152, .int R_56, .ref 144]) rfl ?_
      obtain ⟨o_64, h_64, h⟩ := Option.bind_eq_some_iff.mp h
      refine r_csI (pc' := 67) (L' := [(0, .ref 143), (5, .int X5)]) (As := [.ref 144, .int R_56, .ref 152, .int ((0 : Int32))]) (rest := []) (j := 169) hq (z_at.mk 3 rfl rfl) (Or.inl ⟨rfl, rfl⟩) rfl rfl (by omega) (g_m_doMeet_ok rfl rfl hR_56 (rfl : (0 : Int32).toInt = 0) H_56 h_64) rfl rfl ?_
      intro R_64 m_64 p_64 e_64 hR_64 H_64
      subst e_64
      rcases z_ite h with ⟨c_67, h⟩ | ⟨c_67, h⟩
      · refine r_t1 (pc' := 73) (L' := [(0, .ref 143), (5, .int X5)]) hq (z_at.mk 3 rfl rfl) rfl hR_64 c_67 rfl rfl ?_
        refine r_p hq 1 (pc' := 74) (L' := [(0, .ref 143), (5, .int X5)]) (st' := [.ref 143]) rfl ?_
        refine r_gR (b := 144) (pc' := 77) (L' := [(0, .ref 143), (5, .int X5)]) H_64 hq (z_at.mk 3 rfl rfl) rfl rfl rfl rfl ?_
        refine r_p hq 1 (pc' := 79) (L' := [(0, .ref 143), (5, .int X5)]) (st' := [.int X5, .ref 144]) rfl ?_
        obtain ⟨o_79, h_79, h⟩ := Option.bind_eq_some_iff.mp h
        refine r_csI (pc' := 82) (L' := [(0, .ref 143), (5, .int X5)]) (As := [.int X5]) (rest := [.ref 144]) (j := 173) hq (z_at.mk 3 rfl rfl) (Or.inl ⟨rfl, rfl⟩) rfl rfl (by omega) (g_m_region_173_ok hx5 H_64 h_79) rfl rfl ?_
        intro R_79 m_79 p_79 e_79 hR_79 H_79
        subst e_79
        refine r_p hq 1 (pc' := 83) (L' := [(0, .ref 143), (5, .int X5)]) (st' := [.ref 143, .int R_79, .ref 144]) rfl ?_
        refine r_gR (b := 152) (pc' := 86) (L' := [(0, .ref 143), (5, .int X5)]) H_79 hq (z_at.mk 3 rfl rfl) rfl rfl rfl rfl ?_
        refine r_p hq 2 (pc' := 88) (L' := [(0, .ref 143), (5, .int X5)]) (st' := [.ref 143, .int ((0 : Int32)), .ref 152, .int R_79, .ref 144]) rfl ?_
        refine r_gR (b := 165) (pc' := 91) (L' := [(0, .ref 143), (5, .int X5)]) H_79 hq (z_at.mk 3 rfl rfl) rfl rfl rfl rfl ?_
        refine r_p hq 2 (pc' := 93) (L' := [(0, .ref 143), (5, .int X5)]) (st' := [.ref 143, .int ((5 : Int32)), .ref 165, .int ((0 : Int32)), .ref 152, .int R_79, .ref 144]) rfl ?_
        refine r_gI (pc' := 96) (L' := [(0, .ref 143), (5, .int X5)]) H_79 hq (z_at.mk 3 rfl rfl) rfl rfl rfl rfl ?_
        intro V_93 hV_93
        refine r_p hq 1 (pc' := 97) (L' := [(0, .ref 143), (5, .int X5)]) (st' := [.int (((5 : Int32)) * V_93), .ref 165, .int ((0 : Int32)), .ref 152, .int R_79, .ref 144]) rfl ?_
        obtain ⟨o_97, h_97, h⟩ := Option.bind_eq_some_iff.mp h
        refine r_csV (pc' := 100) (L' := [(0, .ref 143), (5, .int X5)]) (As := [.ref 144, .int R_79, .ref 152, .int ((0 : Int32)), .ref 165, .int (((5 : Int32)) * V_93)]) (rest := []) (j := 170) hq (z_at.mk 3 rfl rfl) (Or.inl ⟨rfl, rfl⟩) rfl rfl (by omega) (g_m_commons_ok rfl rfl rfl hR_79 (rfl : (0 : Int32).toInt = 0) (tx_imul (rfl : (5 : Int32).toInt = 5) hV_93) H_79 h_97) rfl rfl ?_
        intro m_97 p_97 e_97 H_97
        subst e_97
        refine r_p hq 1 (pc' := 101) (L' := [(0, .ref 143), (5, .int X5)]) (st' := [.ref 143]) rfl ?_
        refine r_gR (b := 165) (pc' := 104) (L' := [(0, .ref 143), (5, .int X5)]) H_97 hq (z_at.mk 3 rfl rfl) rfl rfl rfl rfl ?_
        refine r_p hq 2 (pc' := 106) (L' := [(0, .ref 143), (5, .int X5)]) (st' := [.ref 143, .int ((5 : Int32)), .ref 165]) rfl ?_
        refine r_gI (pc' := 109) (L' := [(0, .ref 143), (5, .int X5)]) H_97 hq (z_at.mk 3 rfl rfl) rfl rfl rfl rfl ?_
        intro V_106 hV_106
        refine r_p hq 4 (pc' := 113) (L' := [(0, .ref 143), (5, .int X5)]) (st' := [.ref 143, .int ((((5 : Int32)) * V_106) + ((4 : Int32))), .ref 165]) rfl ?_
        refine r_gR (b := 144) (pc' := 116) (L' := [(0, .ref 143), (5, .int X5)]) H_97 hq (z_at.mk 3 rfl rfl) rfl rfl rfl rfl ?_
        refine r_p hq 1 (pc' := 118) (L' := [(0, .ref 143), (5, .int X5)]) (st' := [.int X5, .ref 144, .int ((((5 : Int32)) * V_106) + ((4 : Int32))), .ref 165]) rfl ?_
        obtain ⟨o_118, h_118, h⟩ := Option.bind_eq_some_iff.mp h
        refine r_csI (pc' := 121) (L' := [(0, .ref 143), (5, .int X5)]) (As := [.int X5]) (rest := [.ref 144, .int ((((5 : Int32)) * V_106) + ((4 : Int32))), .ref 165]) (j := 173) hq (z_at.mk 3 rfl rfl) (Or.inl ⟨rfl, rfl⟩) rfl rfl (by omega) (g_m_region_173_ok hx5 H_97 h_118) rfl rfl ?_
        intro R_118 m_118 p_118 e_118 hR_118 H_118
        subst e_118
        refine r_p hq 2 (pc' := 124) (L' := [(0, .ref 143), (5, .int X5)]) (st' := [.int (R_118 + ((8 : Int32))), .ref 144, .int ((((5 : Int32)) * V_106) + ((4 : Int32))), .ref 165]) rfl ?_
        obtain ⟨g_124, h⟩ := z_ifo_some h
        refine r_ia (pc' := 125) (L' := [(0, .ref 143), (5, .int X5)]) H_118 hq (z_at.mk 1 rfl rfl) (show zAr 144 0 2740 = true from rfl) (tx_iadd hR_118 (rfl : (8 : Int32).toInt = 8)) g_124 rfl rfl ?_
        intro V_124 hV_124
        obtain ⟨g_125, h⟩ := z_ifo_some h
        refine r_is (pc' := 126) (L' := [(0, .ref 143), (5, .int X5)]) H_118 hq (z_at.mk 1 rfl rfl) (show zAr 165 0 3000 = true from rfl) (tx_iadd (tx_imul (rfl : (5 : Int32).toInt = 5) hV_106) (rfl : (4 : Int32).toInt = 4)) g_125 hV_124 rfl rfl ?_
        intro m_125 H_125
        refine r_p hq 2 (pc' := 128) (L' := [(0, .ref 143), (5, .int X5)]) (st' := [.ref 143, .ref 143]) rfl ?_
        refine r_gI (pc' := 131) (L' := [(0, .ref 143), (5, .int X5)]) H_125 hq (z_at.mk 3 rfl rfl) rfl rfl rfl rfl ?_
        intro V_128 hV_128
        refine r_p hq 2 (pc' := 133) (L' := [(0, .ref 143), (5, .int X5)]) (st' := [.int (V_128 + ((1 : Int32))), .ref 143]) rfl ?_
        refine r_pI (X := V_128 + ((1 : Int32))) (pc' := 136) (L' := [(0, .ref 143), (5, .int X5)]) H_125 hq (z_at.mk 3 rfl rfl) rfl rfl (tx_iadd hV_128 (rfl : (1 : Int32).toInt = 1)) (by decide) rfl rfl rfl rfl ?_
        intro m_133 H_133
        exact g_m_probe_L136_ok ih hx5 H_133 h
      · refine r_f1 (pc' := 70) (L' := [(0, .ref 143), (5, .int X5)]) hq (z_at.mk 3 rfl rfl) rfl hR_64 c_67 rfl rfl ?_
        refine r_p hq 1 (pc' := 136) (L' := [(0, .ref 143), (5, .int X5)]) (st' := []) rfl ?_
        exact g_m_probe_L136_ok ih hx5 H_64 h
def g_m_probe (x1 : Int) (x2 : Int) (x3 : Int) (x4 : Int) (σ : zS) : Option (Int × zS) :=
  (g_m_isBox x1 x2 x3 x4 σ).bind fun o_5 =>
  if o_5.1 ≠ 0 then
    (g_m_sets 152 0 x1 x2 x3 x4 o_5.2).bind fun o_24 =>
    (g_m_misses o_24.2).bind fun o_28 =>
    let s_33 := zu o_28.2 143 32 0
    g_m_probe_L39 zK 0 s_33
  else
    some (-2, o_5.2)
set_option maxHeartbeats 4000000 in
theorem g_m_probe_ok {xl : Nat} {xs : Nat → Int32} {X1 : Int32} {x1 : Int} (hx1 : X1.toInt = x1) {X2 : Int32} {x2 : Int} (hx2 : X2.toInt = x2) {X3 : Int32} {x3 : Int} (hx3 : X3.toInt = x3) {X4 : Int32} {x4 : Int} (hx4 : X4.toInt = x4) {σ : zS} {p : Nat} {m : zM} {o : Int × zS} (H : zRep xl xs p m σ) (h : g_m_probe x1 x2 x3 x4 σ = some o) : zGo xl xs (fun p' => p = p') 5 246 0 (z_can 246 0 (lv_args 0 [.ref 143, .int X1, .int X2, .int X3, .int X4])) [] m (vI o.1) o.2 := by
  have hq : z_mth 246 = some z_r246 := rfl
  unfold g_m_probe at h
  show zGo xl xs (fun p' => p = p') 5 246 0 [(0, .ref 143), (1, .int X1), (2, .int X2), (3, .int X3), (4, .int X4)] [] m (vI o.1) o.2
  refine r_p hq 4 (pc' := 5) (L' := [(0, .ref 143), (1, .int X1), (2, .int X2), (3, .int X3), (4, .int X4)]) (st' := [.int X4, .int X3, .int X2, .int X1]) rfl ?_
  obtain ⟨o_5, h_5, h⟩ := Option.bind_eq_some_iff.mp h
  refine r_csI (pc' := 8) (L' := [(0, .ref 143), (1, .int X1), (2, .int X2), (3, .int X3), (4, .int X4)]) (As := [.int X1, .int X2, .int X3, .int X4]) (rest := []) (j := 164) hq (z_at.mk 3 rfl rfl) (Or.inl ⟨rfl, rfl⟩) rfl rfl (by omega) (g_m_isBox_ok hx1 hx2 hx3 hx4 H h_5) rfl rfl ?_
  intro R_5 m_5 p_5 e_5 hR_5 H_5
  subst e_5
  rcases z_ite h with ⟨c_8, h⟩ | ⟨c_8, h⟩
  · refine r_t1 (pc' := 14) (L' := [(0, .ref 143), (1, .int X1), (2, .int X2), (3, .int X3), (4, .int X4)]) hq (z_at.mk 3 rfl rfl) rfl hR_5 c_8 rfl rfl ?_
    refine r_p hq 1 (pc' := 15) (L' := [(0, .ref 143), (1, .int X1), (2, .int X2), (3, .int X3), (4, .int X4)]) (st' := [.ref 143]) rfl ?_
    refine r_gR (b := 152) (pc' := 18) (L' := [(0, .ref 143), (1, .int X1), (2, .int X2), (3, .int X3), (4, .int X4)]) H_5 hq (z_at.mk 3 rfl rfl) rfl rfl rfl rfl ?_
    refine r_p hq 5 (pc' := 24) (L' := [(0, .ref 143), (1, .int X1), (2, .int X2), (3, .int X3), (4, .int X4)]) (st' := [.int X4, .int X3, .int X2, .int X1, .int ((0 : Int32)), .ref 152]) rfl ?_
    obtain ⟨o_24, h_24, h⟩ := Option.bind_eq_some_iff.mp h
    refine r_csV (pc' := 27) (L' := [(0, .ref 143), (1, .int X1), (2, .int X2), (3, .int X3), (4, .int X4)]) (As := [.ref 152, .int ((0 : Int32)), .int X1, .int X2, .int X3, .int X4]) (rest := []) (j := 165) hq (z_at.mk 3 rfl rfl) (Or.inl ⟨rfl, rfl⟩) rfl rfl (by omega) (g_m_sets_ok rfl (rfl : (0 : Int32).toInt = 0) hx1 hx2 hx3 hx4 H_5 h_24) rfl rfl ?_
    intro m_24 p_24 e_24 H_24
    subst e_24
    refine r_p hq 1 (pc' := 28) (L' := [(0, .ref 143), (1, .int X1), (2, .int X2), (3, .int X3), (4, .int X4)]) (st' := [.ref 143]) rfl ?_
    obtain ⟨o_28, h_28, h⟩ := Option.bind_eq_some_iff.mp h
    refine r_cvV (pc' := 31) (L' := [(0, .ref 143), (1, .int X1), (2, .int X2), (3, .int X3), (4, .int X4)]) (Ps := []) (rest := []) hq (z_at.mk 3 rfl rfl) (Or.inl ⟨rfl, rfl⟩) rfl rfl (by decide) (by decide) rfl (Nat.not_lt.mpr (Nat.le_of_ble_eq_true rfl)) rfl rfl (z_cat_le 0 rfl (by decide)) (z_lgl_le 1 rfl (by decide)) (by decide) (H_24.tg rfl) (by omega) (g_m_misses_ok H_24 h_28) rfl rfl ?_
    intro m_28 p_28 e_28 H_28
    subst e_28
    refine r_p hq 2 (pc' := 33) (L' := [(0, .ref 143), (1, .int X1), (2, .int X2), (3, .int X3), (4, .int X4)]) (st' := [.int ((0 : Int32)), .ref 143]) rfl ?_
    refine r_pI (X := (0 : Int32)) (pc' := 36) (L' := [(0, .ref 143), (1, .int X1), (2, .int X2), (3, .int X3), (4, .int X4)]) H_28 hq (z_at.mk 3 rfl rfl) rfl rfl (rfl : (0 : Int32).toInt = 0) (by decide) rfl rfl rfl rfl ?_
    intro m_33 H_33
    refine r_p hq 2 (pc' := 39) (L' := [(0, .ref 143), (5, .int ((0 : Int32)))]) (st' := []) rfl ?_
    exact g_m_probe_L39_ok zK (rfl : (0 : Int32).toInt = 0) H_33 h
  · refine r_f1 (pc' := 11) (L' := [(0, .ref 143), (1, .int X1), (2, .int X2), (3, .int X3), (4, .int X4)]) hq (z_at.mk 3 rfl rfl) rfl hR_5 c_8 rfl rfl ?_
    refine r_p hq 1 (pc' := 13) (L' := [(0, .ref 143), (1, .int X1), (2, .int X2), (3, .int X3), (4, .int X4)]) (st' := [.int ((-2 : Int32))]) rfl ?_
    cases h
    exact r_ri hq (z_at.mk 1 rfl rfl) rfl rfl (rfl : (-2 : Int32).toInt = -2) rfl H_5
def g_m_piece (x1 : Int) (x2 : Int) (σ : zS) : Option (Int × zS) :=
  let v_3 := σ 143 32
  (g_m_isIn x1 0 (w32 (v_3 - 1)) σ).bind fun o_8 =>
  if o_8.1 = 0 then
    some (-1, o_8.2)
  else
    (g_m_isIn x2 0 4 o_8.2).bind fun o_17 =>
    if o_17.1 = 0 then
      some (-1, o_17.2)
    else
      if 0 ≤ w32 ((w32 (5 * x1)) + x2) ∧ w32 ((w32 (5 * x1)) + x2) < 3000 then
      let v_32 := o_17.2 165 (w32 ((w32 (5 * x1)) + x2))
      some (v_32, o_17.2)
      else none
set_option maxHeartbeats 4000000 in
theorem g_m_piece_ok {xl : Nat} {xs : Nat → Int32} {X1 : Int32} {x1 : Int} (hx1 : X1.toInt = x1) {X2 : Int32} {x2 : Int} (hx2 : X2.toInt = x2) {σ : zS} {p : Nat} {m : zM} {o : Int × zS} (H : zRep xl xs p m σ) (h : g_m_piece x1 x2 σ = some o) : zGo xl xs (fun p' => p = p') 2 247 0 (z_can 247 0 (lv_args 0 [.ref 143, .int X1, .int X2])) [] m (vI o.1) o.2 := by
  have hq : z_mth 247 = some z_r247 := rfl
  unfold g_m_piece at h
  show zGo xl xs (fun p' => p = p') 2 247 0 [(0, .ref 143), (1, .int X1), (2, .int X2)] [] m (vI o.1) o.2
  refine r_p hq 3 (pc' := 3) (L' := [(0, .ref 143), (1, .int X1), (2, .int X2)]) (st' := [.ref 143, .int ((0 : Int32)), .int X1]) rfl ?_
  refine r_gI (pc' := 6) (L' := [(0, .ref 143), (1, .int X1), (2, .int X2)]) H hq (z_at.mk 3 rfl rfl) rfl rfl rfl rfl ?_
  intro V_3 hV_3
  refine r_p hq 2 (pc' := 8) (L' := [(0, .ref 143), (1, .int X1), (2, .int X2)]) (st' := [.int (V_3 - ((1 : Int32))), .int ((0 : Int32)), .int X1]) rfl ?_
  obtain ⟨o_8, h_8, h⟩ := Option.bind_eq_some_iff.mp h
  refine r_csI (pc' := 11) (L' := [(0, .ref 143), (1, .int X1), (2, .int X2)]) (As := [.int X1, .int ((0 : Int32)), .int (V_3 - ((1 : Int32)))]) (rest := []) (j := 159) hq (z_at.mk 3 rfl rfl) (Or.inl ⟨rfl, rfl⟩) rfl rfl (by omega) (g_m_isIn_ok hx1 (rfl : (0 : Int32).toInt = 0) (tx_isub hV_3 (rfl : (1 : Int32).toInt = 1)) H h_8) rfl rfl ?_
  intro R_8 m_8 p_8 e_8 hR_8 H_8
  subst e_8
  rcases z_ite h with ⟨c_11, h⟩ | ⟨c_11, h⟩
  · refine r_t1 (pc' := 36) (L' := []) hq (z_at.mk 3 rfl rfl) rfl hR_8 c_11 rfl rfl ?_
    refine r_p hq 1 (pc' := 37) (L' := []) (st' := [.int ((-1 : Int32))]) rfl ?_
    cases h
    exact r_ri hq (z_at.mk 1 rfl rfl) rfl rfl (rfl : (-1 : Int32).toInt = -1) rfl H_8
  · refine r_f1 (pc' := 14) (L' := [(0, .ref 143), (1, .int X1), (2, .int X2)]) hq (z_at.mk 3 rfl rfl) rfl hR_8 c_11 rfl rfl ?_
    refine r_p hq 3 (pc' := 17) (L' := [(0, .ref 143), (1, .int X1), (2, .int X2)]) (st' := [.int ((4 : Int32)), .int ((0 : Int32)), .int X2]) rfl ?_
    obtain ⟨o_17, h_17, h⟩ := Option.bind_eq_some_iff.mp h
    refine r_csI (pc' := 20) (L' := [(0, .ref 143), (1, .int X1), (2, .int X2)]) (As := [.int X2, .int ((0 : Int32)), .int ((4 : Int32))]) (rest := []) (j := 159) hq (z_at.mk 3 rfl rfl) (Or.inl ⟨rfl, rfl⟩) rfl rfl (by omega) (g_m_isIn_ok hx2 (rfl : (0 : Int32).toInt = 0) (rfl : (4 : Int32).toInt = 4) H_8 h_17) rfl rfl ?_
    intro R_17 m_17 p_17 e_17 hR_17 H_17
    subst e_17
    rcases z_ite h with ⟨c_20, h⟩ | ⟨c_20, h⟩
    · refine r_t1 (pc' := 36) (L' := []) hq (z_at.mk 3 rfl rfl) rfl hR_17 c_20 rfl rfl ?_
      refine r_p hq 1 (pc' := 37) (L' := []) (st' := [.int ((-1 : Int32))]) rfl ?_
      cases h
      exact r_ri hq (z_at.mk 1 rfl rfl) rfl rfl (rfl : (-1 : Int32).toInt = -1) rfl H_17
    · refine r_f1 (pc' := 23) (L' := [(0, .ref 143), (1, .int X1), (2, .int X2)]) hq (z_at.mk 3 rfl rfl) rfl hR_17 c_20 rfl rfl ?_
      refine r_p hq 1 (pc' := 24) (L' := [(0, .ref 143), (1, .int X1), (2, .int X2)]) (st' := [.ref 143]) rfl ?_
      refine r_gR (b := 165) (pc' := 27) (L' := [(0, .ref 143), (1, .int X1), (2, .int X2)]) H_17 hq (z_at.mk 3 rfl rfl) rfl rfl rfl rfl ?_
      refine r_p hq 5 (pc' := 32) (L' := [(0, .ref 143), (1, .int X1), (2, .int X2)]) (st' := [.int ((((5 : Int32)) * X1) + X2), .ref 165]) rfl ?_
      obtain ⟨g_32, h⟩ := z_ifo_some h
      refine r_ia (pc' := 33) (L' := [(0, .ref 143), (1, .int X1), (2, .int X2)]) H_17 hq (z_at.mk 1 rfl rfl) (show zAr 165 0 3000 = true from rfl) (tx_iadd (tx_imul (rfl : (5 : Int32).toInt = 5) hx1) hx2) g_32 rfl rfl ?_
      intro V_32 hV_32
      refine r_p hq 1 (pc' := 37) (L' := []) (st' := [.int V_32]) rfl ?_
      cases h
      exact r_ri hq (z_at.mk 1 rfl rfl) rfl rfl hV_32 rfl H_17
def g_m_region_248 (x1 : Int) (x2 : Int) (σ : zS) : Option (Int × zS) :=
  let v_7 := σ 144 0
  (g_m_isIn x1 0 (w32 (v_7 - 1)) σ).bind fun o_10 =>
  if o_10.1 = 0 then
    some (-1, o_10.2)
  else
    (g_m_isIn x2 0 11 o_10.2).bind fun o_20 =>
    if o_20.1 ≠ 0 then
      (g_m_region_173 x1 o_20.2).bind fun o_29 =>
      if 4 ≤ x2 then
        if x2 ≠ 4 then
          if x2 ≠ 5 then
            if 10 ≤ x2 then
              if x2 ≠ 10 then
                (g_m_cost 144 o_29.1 o_29.2).bind fun o_125 =>
                some (o_125.1, o_125.2)
              else
                (g_m_size x1 o_29.2).bind fun o_113 =>
                some (o_113.1, o_113.2)
            else
              if 0 ≤ w32 ((w32 ((w32 (o_29.1 + 4)) + x2)) - 6) ∧ w32 ((w32 ((w32 (o_29.1 + 4)) + x2)) - 6) < 2740 then
              let v_101 := o_29.2 144 (w32 ((w32 ((w32 (o_29.1 + 4)) + x2)) - 6))
              some (v_101, o_29.2)
              else none
          else
            if 0 ≤ w32 (o_29.1 + 9) ∧ w32 (o_29.1 + 9) < 2740 then
            let v_79 := o_29.2 144 (w32 (o_29.1 + 9))
            some (v_79, o_29.2)
            else none
        else
          if 0 ≤ w32 (o_29.1 + 8) ∧ w32 (o_29.1 + 8) < 2740 then
          let v_62 := o_29.2 144 (w32 (o_29.1 + 8))
          some (v_62, o_29.2)
          else none
      else
        if 0 ≤ w32 (o_29.1 + x2) ∧ w32 (o_29.1 + x2) < 2740 then
        let v_45 := o_29.2 144 (w32 (o_29.1 + x2))
        some (v_45, o_29.2)
        else none
    else
      some (-1, o_20.2)
set_option maxHeartbeats 4000000 in
theorem g_m_region_248_ok {xl : Nat} {xs : Nat → Int32} {X1 : Int32} {x1 : Int} (hx1 : X1.toInt = x1) {X2 : Int32} {x2 : Int} (hx2 : X2.toInt = x2) {σ : zS} {p : Nat} {m : zM} {o : Int × zS} (H : zRep xl xs p m σ) (h : g_m_region_248 x1 x2 σ = some o) : zGo xl xs (fun p' => p = p') 5 248 0 (z_can 248 0 (lv_args 0 [.ref 143, .int X1, .int X2])) [] m (vI o.1) o.2 := by
  have hq : z_mth 248 = some z_r248 := rfl
  unfold g_m_region_248 at h
  show zGo xl xs (fun p' => p = p') 5 248 0 [(0, .ref 143), (1, .int X1), (2, .int X2)] [] m (vI o.1) o.2
  refine r_p hq 3 (pc' := 3) (L' := [(0, .ref 143), (1, .int X1), (2, .int X2)]) (st' := [.ref 143, .int ((0 : Int32)), .int X1]) rfl ?_
  refine r_gR (b := 144) (pc' := 6) (L' := [(0, .ref 143), (1, .int X1), (2, .int X2)]) H hq (z_at.mk 3 rfl rfl) rfl rfl rfl rfl ?_
  refine r_p hq 1 (pc' := 7) (L' := [(0, .ref 143), (1, .int X1), (2, .int X2)]) (st' := [.int ((0 : Int32)), .ref 144, .int ((0 : Int32)), .int X1]) rfl ?_
  refine r_ia (pc' := 8) (L' := [(0, .ref 143), (1, .int X1), (2, .int X2)]) H hq (z_at.mk 1 rfl rfl) (show zAr 144 0 2740 = true from rfl) (rfl : (0 : Int32).toInt = 0) ⟨by decide, by decide⟩ rfl rfl ?_
  intro V_7 hV_7
  refine r_p hq 2 (pc' := 10) (L' := [(0, .ref 143), (1, .int X1), (2, .int X2)]) (st' := [.int (V_7 - ((1 : Int32))), .int ((0 : Int32)), .int X1]) rfl ?_
  obtain ⟨o_10, h_10, h⟩ := Option.bind_eq_some_iff.mp h
  refine r_csI (pc' := 13) (L' := [(0, .ref 143), (1, .int X1), (2, .int X2)]) (As := [.int X1, .int ((0 : Int32)), .int (V_7 - ((1 : Int32)))]) (rest := []) (j := 159) hq (z_at.mk 3 rfl rfl) (Or.inl ⟨rfl, rfl⟩) rfl rfl (by omega) (g_m_isIn_ok hx1 (rfl : (0 : Int32).toInt = 0) (tx_isub hV_7 (rfl : (1 : Int32).toInt = 1)) H h_10) rfl rfl ?_
  intro R_10 m_10 p_10 e_10 hR_10 H_10
  subst e_10
  rcases z_ite h with ⟨c_13, h⟩ | ⟨c_13, h⟩
  · refine r_t1 (pc' := 26) (L' := []) hq (z_at.mk 3 rfl rfl) rfl hR_10 c_13 rfl rfl ?_
    refine r_p hq 1 (pc' := 27) (L' := []) (st' := [.int ((-1 : Int32))]) rfl ?_
    cases h
    exact r_ri hq (z_at.mk 1 rfl rfl) rfl rfl (rfl : (-1 : Int32).toInt = -1) rfl H_10
  · refine r_f1 (pc' := 16) (L' := [(0, .ref 143), (1, .int X1), (2, .int X2)]) hq (z_at.mk 3 rfl rfl) rfl hR_10 c_13 rfl rfl ?_
    refine r_p hq 3 (pc' := 20) (L' := [(0, .ref 143), (1, .int X1), (2, .int X2)]) (st' := [.int ((11 : Int32)), .int ((0 : Int32)), .int X2]) rfl ?_
    obtain ⟨o_20, h_20, h⟩ := Option.bind_eq_some_iff.mp h
    refine r_csI (pc' := 23) (L' := [(0, .ref 143), (1, .int X1), (2, .int X2)]) (As := [.int X2, .int ((0 : Int32)), .int ((11 : Int32))]) (rest := []) (j := 159) hq (z_at.mk 3 rfl rfl) (Or.inl ⟨rfl, rfl⟩) rfl rfl (by omega) (g_m_isIn_ok hx2 (rfl : (0 : Int32).toInt = 0) (rfl : (11 : Int32).toInt = 11) H_10 h_20) rfl rfl ?_
    intro R_20 m_20 p_20 e_20 hR_20 H_20
    subst e_20
    rcases z_ite h with ⟨c_23, h⟩ | ⟨c_23, h⟩
    · refine r_t1 (pc' := 28) (L' := [(0, .ref 143), (1, .int X1), (2, .int X2)]) hq (z_at.mk 3 rfl rfl) rfl hR_20 c_23 rfl rfl ?_
      refine r_p hq 1 (pc' := 29) (L' := [(0, .ref 143), (1, .int X1), (2, .int X2)]) (st' := [.int X1]) rfl ?_
      obtain ⟨o_29, h_29, h⟩ := Option.bind_eq_some_iff.mp h
      refine r_csI (pc' := 32) (L' := [(0, .ref 143), (1, .int X1), (2, .int X2)]) (As := [.int X1]) (rest := []) (j := 173) hq (z_at.mk 3 rfl rfl) (Or.inl ⟨rfl, rfl⟩) rfl rfl (by omega) (g_m_region_173_ok hx1 H_20 h_29) rfl rfl ?_
      intro R_29 m_29 p_29 e_29 hR_29 H_29
      subst e_29
      refine r_p hq 3 (pc' := 35) (L' := [(3, .int R_29), (0, .ref 143), (1, .int X1), (2, .int X2)]) (st' := [.int ((4 : Int32)), .int X2]) rfl ?_
      rcases z_ite h with ⟨c_35, h⟩ | ⟨c_35, h⟩
      · refine r_t2 (pc' := 49) (L' := [(3, .int R_29), (0, .ref 143), (1, .int X1), (2, .int X2)]) hq (z_at.mk 3 rfl rfl) rfl hx2 (rfl : (4 : Int32).toInt = 4) c_35 rfl rfl ?_
        refine r_p hq 2 (pc' := 51) (L' := [(3, .int R_29), (0, .ref 143), (1, .int X1), (2, .int X2)]) (st' := [.int ((4 : Int32)), .int X2]) rfl ?_
        rcases z_ite h with ⟨c_51, h⟩ | ⟨c_51, h⟩
        · refine r_t2 (pc' := 66) (L' := [(3, .int R_29), (0, .ref 143), (1, .int X1), (2, .int X2)]) hq (z_at.mk 3 rfl rfl) rfl hx2 (rfl : (4 : Int32).toInt = 4) c_51 rfl rfl ?_
          refine r_p hq 2 (pc' := 68) (L' := [(3, .int R_29), (0, .ref 143), (1, .int X1), (2, .int X2)]) (st' := [.int ((5 : Int32)), .int X2]) rfl ?_
          rcases z_ite h with ⟨c_68, h⟩ | ⟨c_68, h⟩
          · refine r_t2 (pc' := 83) (L' := [(3, .int R_29), (0, .ref 143), (1, .int X1), (2, .int X2)]) hq (z_at.mk 3 rfl rfl) rfl hx2 (rfl : (5 : Int32).toInt = 5) c_68 rfl rfl ?_
            refine r_p hq 2 (pc' := 86) (L' := [(3, .int R_29), (0, .ref 143), (1, .int X1), (2, .int X2)]) (st' := [.int ((10 : Int32)), .int X2]) rfl ?_
            rcases z_ite h with ⟨c_86, h⟩ | ⟨c_86, h⟩
            · refine r_t2 (pc' := 105) (L' := [(3, .int R_29), (0, .ref 143), (1, .int X1), (2, .int X2)]) hq (z_at.mk 3 rfl rfl) rfl hx2 (rfl : (10 : Int32).toInt = 10) c_86 rfl rfl ?_
              refine r_p hq 2 (pc' := 108) (L' := [(3, .int R_29), (0, .ref 143), (1, .int X1), (2, .int X2)]) (st' := [.int ((10 : Int32)), .int X2]) rfl ?_
              rcases z_ite h with ⟨c_108, h⟩ | ⟨c_108, h⟩
              · refine r_t2 (pc' := 119) (L' := [(3, .int R_29), (0, .ref 143), (1, .int X1), (2, .int X2)]) hq (z_at.mk 3 rfl rfl) rfl hx2 (rfl : (10 : Int32).toInt = 10) c_108 rfl rfl ?_
                refine r_p hq 2 (pc' := 121) (L' := [(3, .int R_29), (0, .ref 143), (1, .int X1), (2, .int X2)]) (st' := [.ref 143, .ref 143]) rfl ?_
                refine r_gR (b := 144) (pc' := 124) (L' := [(3, .int R_29), (0, .ref 143), (1, .int X1), (2, .int X2)]) H_29 hq (z_at.mk 3 rfl rfl) rfl rfl rfl rfl ?_
                refine r_p hq 1 (pc' := 125) (L' := [(3, .int R_29), (0, .ref 143), (1, .int X1), (2, .int X2)]) (st' := [.int R_29, .ref 144, .ref 143]) rfl ?_
                obtain ⟨o_125, h_125, h⟩ := Option.bind_eq_some_iff.mp h
                refine r_cvI (pc' := 128) (L' := []) (Ps := [.ref 144, .int R_29]) (rest := []) hq (z_at.mk 3 rfl rfl) (Or.inl ⟨rfl, rfl⟩) rfl rfl (by decide) (by decide) rfl (Nat.not_lt.mpr (Nat.le_of_ble_eq_true rfl)) rfl rfl (z_cat_le 0 rfl (by decide)) (z_lgl_le 3 rfl (by decide)) (by decide) (H_29.tg rfl) (by omega) (g_m_cost_ok rfl hR_29 H_29 h_125) rfl rfl ?_
                intro R_125 m_125 p_125 e_125 hR_125 H_125
                subst e_125
                cases h
                exact r_ri hq (z_at.mk 1 rfl rfl) rfl rfl hR_125 rfl H_125
              · refine r_f2 (pc' := 111) (L' := [(3, .int R_29), (0, .ref 143), (1, .int X1), (2, .int X2)]) hq (z_at.mk 3 rfl rfl) rfl hx2 (rfl : (10 : Int32).toInt = 10) c_108 rfl rfl ?_
                refine r_p hq 2 (pc' := 113) (L' := [(3, .int R_29), (0, .ref 143), (1, .int X1), (2, .int X2)]) (st' := [.int X1, .ref 143]) rfl ?_
                obtain ⟨o_113, h_113, h⟩ := Option.bind_eq_some_iff.mp h
                refine r_cvI (pc' := 116) (L' := [(3, .int R_29), (0, .ref 143), (1, .int X1), (2, .int X2)]) (Ps := [.int X1]) (rest := []) hq (z_at.mk 3 rfl rfl) (Or.inl ⟨rfl, rfl⟩) rfl rfl (by decide) (by decide) rfl (Nat.not_lt.mpr (Nat.le_of_ble_eq_true rfl)) rfl rfl (z_cat_le 0 rfl (by decide)) (z_lgl_le 2 rfl (by decide)) (by decide) (H_29.tg rfl) (by omega) (g_m_size_ok hx1 H_29 h_113) rfl rfl ?_
                intro R_113 m_113 p_113 e_113 hR_113 H_113
                subst e_113
                refine r_p hq 1 (pc' := 128) (L' := []) (st' := [.int R_113]) rfl ?_
                cases h
                exact r_ri hq (z_at.mk 1 rfl rfl) rfl rfl hR_113 rfl H_113
            · refine r_f2 (pc' := 89) (L' := [(3, .int R_29), (0, .ref 143), (1, .int X1), (2, .int X2)]) hq (z_at.mk 3 rfl rfl) rfl hx2 (rfl : (10 : Int32).toInt = 10) c_86 rfl rfl ?_
              refine r_p hq 1 (pc' := 90) (L' := [(3, .int R_29), (0, .ref 143), (1, .int X1), (2, .int X2)]) (st' := [.ref 143]) rfl ?_
              refine r_gR (b := 144) (pc' := 93) (L' := [(3, .int R_29), (0, .ref 143), (1, .int X1), (2, .int X2)]) H_29 hq (z_at.mk 3 rfl rfl) rfl rfl rfl rfl ?_
              refine r_p hq 7 (pc' := 101) (L' := [(3, .int R_29), (0, .ref 143), (1, .int X1), (2, .int X2)]) (st' := [.int (((R_29 + ((4 : Int32))) + X2) - ((6 : Int32))), .ref 144]) rfl ?_
              obtain ⟨g_101, h⟩ := z_ifo_some h
              refine r_ia (pc' := 102) (L' := [(3, .int R_29), (0, .ref 143), (1, .int X1), (2, .int X2)]) H_29 hq (z_at.mk 1 rfl rfl) (show zAr 144 0 2740 = true from rfl) (tx_isub (tx_iadd (tx_iadd hR_29 (rfl : (4 : Int32).toInt = 4)) hx2) (rfl : (6 : Int32).toInt = 6)) g_101 rfl rfl ?_
              intro V_101 hV_101
              refine r_p hq 1 (pc' := 128) (L' := []) (st' := [.int V_101]) rfl ?_
              cases h
              exact r_ri hq (z_at.mk 1 rfl rfl) rfl rfl hV_101 rfl H_29
          · refine r_f2 (pc' := 71) (L' := [(3, .int R_29), (0, .ref 143), (1, .int X1), (2, .int X2)]) hq (z_at.mk 3 rfl rfl) rfl hx2 (rfl : (5 : Int32).toInt = 5) c_68 rfl rfl ?_
            refine r_p hq 1 (pc' := 72) (L' := [(3, .int R_29), (0, .ref 143), (1, .int X1), (2, .int X2)]) (st' := [.ref 143]) rfl ?_
            refine r_gR (b := 144) (pc' := 75) (L' := [(3, .int R_29), (0, .ref 143), (1, .int X1), (2, .int X2)]) H_29 hq (z_at.mk 3 rfl rfl) rfl rfl rfl rfl ?_
            refine r_p hq 3 (pc' := 79) (L' := [(3, .int R_29), (0, .ref 143), (1, .int X1), (2, .int X2)]) (st' := [.int (R_29 + ((9 : Int32))), .ref 144]) rfl ?_
            obtain ⟨g_79, h⟩ := z_ifo_some h
            refine r_ia (pc' := 80) (L' := [(3, .int R_29), (0, .ref 143), (1, .int X1), (2, .int X2)]) H_29 hq (z_at.mk 1 rfl rfl) (show zAr 144 0 2740 = true from rfl) (tx_iadd hR_29 (rfl : (9 : Int32).toInt = 9)) g_79 rfl rfl ?_
            intro V_79 hV_79
            refine r_p hq 1 (pc' := 128) (L' := []) (st' := [.int V_79]) rfl ?_
            cases h
            exact r_ri hq (z_at.mk 1 rfl rfl) rfl rfl hV_79 rfl H_29
        · refine r_f2 (pc' := 54) (L' := [(3, .int R_29), (0, .ref 143), (1, .int X1), (2, .int X2)]) hq (z_at.mk 3 rfl rfl) rfl hx2 (rfl : (4 : Int32).toInt = 4) c_51 rfl rfl ?_
          refine r_p hq 1 (pc' := 55) (L' := [(3, .int R_29), (0, .ref 143), (1, .int X1), (2, .int X2)]) (st' := [.ref 143]) rfl ?_
          refine r_gR (b := 144) (pc' := 58) (L' := [(3, .int R_29), (0, .ref 143), (1, .int X1), (2, .int X2)]) H_29 hq (z_at.mk 3 rfl rfl) rfl rfl rfl rfl ?_
          refine r_p hq 3 (pc' := 62) (L' := [(3, .int R_29), (0, .ref 143), (1, .int X1), (2, .int X2)]) (st' := [.int (R_29 + ((8 : Int32))), .ref 144]) rfl ?_
          obtain ⟨g_62, h⟩ := z_ifo_some h
          refine r_ia (pc' := 63) (L' := [(3, .int R_29), (0, .ref 143), (1, .int X1), (2, .int X2)]) H_29 hq (z_at.mk 1 rfl rfl) (show zAr 144 0 2740 = true from rfl) (tx_iadd hR_29 (rfl : (8 : Int32).toInt = 8)) g_62 rfl rfl ?_
          intro V_62 hV_62
          refine r_p hq 1 (pc' := 128) (L' := []) (st' := [.int V_62]) rfl ?_
          cases h
          exact r_ri hq (z_at.mk 1 rfl rfl) rfl rfl hV_62 rfl H_29
      · refine r_f2 (pc' := 38) (L' := [(3, .int R_29), (0, .ref 143), (1, .int X1), (2, .int X2)]) hq (z_at.mk 3 rfl rfl) rfl hx2 (rfl : (4 : Int32).toInt = 4) c_35 rfl rfl ?_
        refine r_p hq 1 (pc' := 39) (L' := [(3, .int R_29), (0, .ref 143), (1, .int X1), (2, .int X2)]) (st' := [.ref 143]) rfl ?_
        refine r_gR (b := 144) (pc' := 42) (L' := [(3, .int R_29), (0, .ref 143), (1, .int X1), (2, .int X2)]) H_29 hq (z_at.mk 3 rfl rfl) rfl rfl rfl rfl ?_
        refine r_p hq 3 (pc' := 45) (L' := [(3, .int R_29), (0, .ref 143), (1, .int X1), (2, .int X2)]) (st' := [.int (R_29 + X2), .ref 144]) rfl ?_
        obtain ⟨g_45, h⟩ := z_ifo_some h
        refine r_ia (pc' := 46) (L' := [(3, .int R_29), (0, .ref 143), (1, .int X1), (2, .int X2)]) H_29 hq (z_at.mk 1 rfl rfl) (show zAr 144 0 2740 = true from rfl) (tx_iadd hR_29 hx2) g_45 rfl rfl ?_
        intro V_45 hV_45
        refine r_p hq 1 (pc' := 128) (L' := []) (st' := [.int V_45]) rfl ?_
        cases h
        exact r_ri hq (z_at.mk 1 rfl rfl) rfl rfl hV_45 rfl H_29
    · refine r_f1 (pc' := 26) (L' := []) hq (z_at.mk 3 rfl rfl) rfl hR_20 c_23 rfl rfl ?_
      refine r_p hq 1 (pc' := 27) (L' := []) (st' := [.int ((-1 : Int32))]) rfl ?_
      cases h
      exact r_ri hq (z_at.mk 1 rfl rfl) rfl rfl (rfl : (-1 : Int32).toInt = -1) rfl H_20
def g_m_weight (x1 : Int) (σ : zS) : Option (Int × zS) :=
  let v_7 := σ 144 0
  (g_m_isIn x1 0 (w32 (v_7 - 1)) σ).bind fun o_10 =>
  if o_10.1 = 0 then
    some (-9223372036854775808, o_10.2)
  else
    if 0 ≤ w32 (121 + x1) ∧ w32 (121 + x1) < 361 then
    let v_24 := o_10.2 147 (w32 (121 + x1))
    some (v_24, o_10.2)
    else none
set_option maxHeartbeats 4000000 in
theorem g_m_weight_ok {xl : Nat} {xs : Nat → Int32} {X1 : Int32} {x1 : Int} (hx1 : X1.toInt = x1) {σ : zS} {p : Nat} {m : zM} {o : Int × zS} (H : zRep xl xs p m σ) (h : g_m_weight x1 σ = some o) : zGo xl xs (fun p' => p = p') 2 249 0 (z_can 249 0 (lv_args 0 [.ref 143, .int X1])) [] m (vL o.1) o.2 := by
  have hq : z_mth 249 = some z_r249 := rfl
  unfold g_m_weight at h
  show zGo xl xs (fun p' => p = p') 2 249 0 [(0, .ref 143), (1, .int X1)] [] m (vL o.1) o.2
  refine r_p hq 3 (pc' := 3) (L' := [(0, .ref 143), (1, .int X1)]) (st' := [.ref 143, .int ((0 : Int32)), .int X1]) rfl ?_
  refine r_gR (b := 144) (pc' := 6) (L' := [(0, .ref 143), (1, .int X1)]) H hq (z_at.mk 3 rfl rfl) rfl rfl rfl rfl ?_
  refine r_p hq 1 (pc' := 7) (L' := [(0, .ref 143), (1, .int X1)]) (st' := [.int ((0 : Int32)), .ref 144, .int ((0 : Int32)), .int X1]) rfl ?_
  refine r_ia (pc' := 8) (L' := [(0, .ref 143), (1, .int X1)]) H hq (z_at.mk 1 rfl rfl) (show zAr 144 0 2740 = true from rfl) (rfl : (0 : Int32).toInt = 0) ⟨by decide, by decide⟩ rfl rfl ?_
  intro V_7 hV_7
  refine r_p hq 2 (pc' := 10) (L' := [(0, .ref 143), (1, .int X1)]) (st' := [.int (V_7 - ((1 : Int32))), .int ((0 : Int32)), .int X1]) rfl ?_
  obtain ⟨o_10, h_10, h⟩ := Option.bind_eq_some_iff.mp h
  refine r_csI (pc' := 13) (L' := [(0, .ref 143), (1, .int X1)]) (As := [.int X1, .int ((0 : Int32)), .int (V_7 - ((1 : Int32)))]) (rest := []) (j := 159) hq (z_at.mk 3 rfl rfl) (Or.inl ⟨rfl, rfl⟩) rfl rfl (by omega) (g_m_isIn_ok hx1 (rfl : (0 : Int32).toInt = 0) (tx_isub hV_7 (rfl : (1 : Int32).toInt = 1)) H h_10) rfl rfl ?_
  intro R_10 m_10 p_10 e_10 hR_10 H_10
  subst e_10
  rcases z_ite h with ⟨c_13, h⟩ | ⟨c_13, h⟩
  · refine r_t1 (pc' := 28) (L' := [(0, .ref 143), (1, .int X1)]) hq (z_at.mk 3 rfl rfl) rfl hR_10 c_13 rfl rfl ?_
    refine r_p hq 1 (pc' := 31) (L' := []) (st' := [.long ((-9223372036854775808 : Int64))]) rfl ?_
    cases h
    exact r_rl hq (z_at.mk 1 rfl rfl) rfl (rfl : (-9223372036854775808 : Int64).toInt = -9223372036854775808) rfl H_10
  · refine r_f1 (pc' := 16) (L' := [(0, .ref 143), (1, .int X1)]) hq (z_at.mk 3 rfl rfl) rfl hR_10 c_13 rfl rfl ?_
    refine r_p hq 1 (pc' := 17) (L' := [(0, .ref 143), (1, .int X1)]) (st' := [.ref 143]) rfl ?_
    refine r_gR (b := 147) (pc' := 20) (L' := [(0, .ref 143), (1, .int X1)]) H_10 hq (z_at.mk 3 rfl rfl) rfl rfl rfl rfl ?_
    refine r_p hq 3 (pc' := 24) (L' := [(0, .ref 143), (1, .int X1)]) (st' := [.int (((121 : Int32)) + X1), .ref 147]) rfl ?_
    obtain ⟨g_24, h⟩ := z_ifo_some h
    refine r_la (pc' := 25) (L' := [(0, .ref 143), (1, .int X1)]) H_10 hq (z_at.mk 1 rfl rfl) (show zAr 147 1 361 = true from rfl) (tx_iadd (rfl : (121 : Int32).toInt = 121) hx1) g_24 rfl rfl ?_
    intro V_24 hV_24
    refine r_p hq 1 (pc' := 31) (L' := []) (st' := [.long V_24]) rfl ?_
    cases h
    exact r_rl hq (z_at.mk 1 rfl rfl) rfl hV_24 rfl H_10
def g_m_rows_L4 : Nat → Int → Int → zS → Option (Int × zS)
  | 0, _, _, _ => none
  | n + 1, x1, x2, σ =>
    if 60 ≤ x2 then
      some (x1, σ)
    else
      (g_m_rowAt x2 σ).bind fun o_16 =>
      if 0 ≤ o_16.1 ∧ o_16.1 < 2740 then
      let v_19 := o_16.2 144 o_16.1
      (g_m_rows_L4 n) (w32 (x1 + v_19)) (w32 (x2 + 1)) o_16.2
      else none
set_option maxHeartbeats 4000000 in
theorem g_m_rows_L4_ok {xl : Nat} {xs : Nat → Int32} : ∀ (n : Nat) {X1 : Int32} {x1 : Int} {X2 : Int32} {x2 : Int} {σ : zS} {p : Nat} {m : zM} {o : Int × zS}, X1.toInt = x1 → X2.toInt = x2 → zRep xl xs p m σ → g_m_rows_L4 n x1 x2 σ = some o → zGo xl xs (fun p' => p = p') 2 250 4 [(0, .ref 143), (1, .int X1), (2, .int X2)] [] m (vI o.1) o.2
  | 0, _, _, _, _, _, _, _, _, _, _, _, h => by cases h
  | n + 1, X1, x1, X2, x2, σ, p, m, o, hx1, hx2, H, h => by
    have hq : z_mth 250 = some z_r250 := rfl
    have ih := fun {X1 : Int32} {x1 : Int} {X2 : Int32} {x2 : Int} {σ : zS} {p : Nat} {m : zM} {o : Int × zS} => g_m_rows_L4_ok (xl := xl) (xs := xs) n (X1 := X1) (x1 := x1) (X2 := X2) (x2 := x2) (σ := σ) (p := p) (m := m) (o := o)
    unfold g_m_rows_L4 at h
    refine r_p hq 2 (pc' := 7) (L' := [(0, .ref 143), (1, .int X1), (2, .int X2)]) (st' := [.int ((60 : Int32)), .int X2]) rfl ?_
    rcases z_ite h with ⟨c_7, h⟩ | ⟨c_7, h⟩
    · refine r_t2 (pc' := 28) (L' := [(0, .ref 143), (1, .int X1), (2, .int X2)]) hq (z_at.mk 3 rfl rfl) rfl hx2 (rfl : (60 : Int32).toInt = 60) c_7 rfl rfl ?_
      refine r_p hq 1 (pc' := 29) (L' := [(0, .ref 143), (1, .int X1), (2, .int X2)]) (st' := [.int X1]) rfl ?_
      cases h
      exact r_ri hq (z_at.mk 1 rfl rfl) rfl rfl hx1 rfl H
    · refine r_f2 (pc' := 10) (L' := [(0, .ref 143), (1, .int X1), (2, .int X2)]) hq (z_at.mk 3 rfl rfl) rfl hx2 (rfl : (60 : Int32).toInt = 60) c_7 rfl rfl ?_
      refine r_p hq 2 (pc' := 12) (L' := [(0, .ref 143), (1, .int X1), (2, .int X2)]) (st' := [.ref 143, .int X1]) rfl ?_
      refine r_gR (b := 144) (pc' := 15) (L' := [(0, .ref 143), (1, .int X1), (2, .int X2)]) H hq (z_at.mk 3 rfl rfl) rfl rfl rfl rfl ?_
      refine r_p hq 1 (pc' := 16) (L' := [(0, .ref 143), (1, .int X1), (2, .int X2)]) (st' := [.int X2, .ref 144, .int X1]) rfl ?_
      obtain ⟨o_16, h_16, h⟩ := Option.bind_eq_some_iff.mp h
      refine r_csI (pc' := 19) (L' := [(0, .ref 143), (1, .int X1), (2, .int X2)]) (As := [.int X2]) (rest := [.ref 144, .int X1]) (j := 174) hq (z_at.mk 3 rfl rfl) (Or.inl ⟨rfl, rfl⟩) rfl rfl (by omega) (g_m_rowAt_ok hx2 H h_16) rfl rfl ?_
      intro R_16 m_16 p_16 e_16 hR_16 H_16
      subst e_16
      obtain ⟨g_19, h⟩ := z_ifo_some h
      refine r_ia (pc' := 20) (L' := [(0, .ref 143), (1, .int X1), (2, .int X2)]) H_16 hq (z_at.mk 1 rfl rfl) (show zAr 144 0 2740 = true from rfl) hR_16 g_19 rfl rfl ?_
      intro V_19 hV_19
      refine r_p hq 4 (pc' := 4) (L' := [(0, .ref 143), (1, .int (X1 + V_19)), (2, .int (X2 + (1 : Int32)))]) (st' := []) rfl ?_
      exact ih (tx_iadd hx1 hV_19) (tx_iadd hx2 (rfl : (1 : Int32).toInt = 1)) H_16 h
def g_m_rows (σ : zS) : Option (Int × zS) :=
  g_m_rows_L4 zK 0 0 σ
set_option maxHeartbeats 4000000 in
theorem g_m_rows_ok {xl : Nat} {xs : Nat → Int32} {σ : zS} {p : Nat} {m : zM} {o : Int × zS} (H : zRep xl xs p m σ) (h : g_m_rows σ = some o) : zGo xl xs (fun p' => p = p') 2 250 0 (z_can 250 0 (lv_args 0 [.ref 143])) [] m (vI o.1) o.2 := by
  have hq : z_mth 250 = some z_r250 := rfl
  unfold g_m_rows at h
  show zGo xl xs (fun p' => p = p') 2 250 0 [(0, .ref 143)] [] m (vI o.1) o.2
  refine r_p hq 4 (pc' := 4) (L' := [(0, .ref 143), (1, .int ((0 : Int32))), (2, .int ((0 : Int32)))]) (st' := []) rfl ?_
  exact g_m_rows_L4_ok zK (rfl : (0 : Int32).toInt = 0) (rfl : (0 : Int32).toInt = 0) H h
def g_m_told (x1 : Int) (σ : zS) : Option (Int × zS) :=
  if x1 ≠ 0 then
    if x1 ≠ 1 then
      (g_m_isIn x1 2 7 σ).bind fun o_31 =>
      if o_31.1 = 0 then
        if x1 ≠ 8 then
          if x1 ≠ 9 then
            if x1 ≠ 10 then
              some (-9223372036854775808, o_31.2)
            else
              let v_87 := o_31.2 143 29
              some (v_87, o_31.2)
          else
            (g_m_rows o_31.2).bind fun o_73 =>
            some (o_73.1, o_73.2)
        else
          let v_62 := o_31.2 147 0
          some (v_62, o_31.2)
      else
        if 0 ≤ w32 ((w32 (2 + x1)) - 2) ∧ w32 ((w32 (2 + x1)) - 2) < 2740 then
        let v_46 := o_31.2 144 (w32 ((w32 (2 + x1)) - 2))
        some (v_46, o_31.2)
        else none
    else
      (g_m_sizes σ).bind fun o_20 =>
      some (o_20.1, o_20.2)
  else
    let v_9 := σ 144 0
    some (v_9, σ)
set_option maxHeartbeats 4000000 in
theorem g_m_told_ok {xl : Nat} {xs : Nat → Int32} {X1 : Int32} {x1 : Int} (hx1 : X1.toInt = x1) {σ : zS} {p : Nat} {m : zM} {o : Int × zS} (H : zRep xl xs p m σ) (h : g_m_told x1 σ = some o) : zGo xl xs (fun p' => p = p') 6 251 0 (z_can 251 0 (lv_args 0 [.ref 143, .int X1])) [] m (vL o.1) o.2 := by
  have hq : z_mth 251 = some z_r251 := rfl
  unfold g_m_told at h
  show zGo xl xs (fun p' => p = p') 6 251 0 [(0, .ref 143), (1, .int X1)] [] m (vL o.1) o.2
  refine r_p hq 1 (pc' := 1) (L' := [(0, .ref 143), (1, .int X1)]) (st' := [.int X1]) rfl ?_
  rcases z_ite h with ⟨c_1, h⟩ | ⟨c_1, h⟩
  · refine r_t1 (pc' := 14) (L' := [(0, .ref 143), (1, .int X1)]) hq (z_at.mk 3 rfl rfl) rfl hx1 c_1 rfl rfl ?_
    refine r_p hq 2 (pc' := 16) (L' := [(0, .ref 143), (1, .int X1)]) (st' := [.int ((1 : Int32)), .int X1]) rfl ?_
    rcases z_ite h with ⟨c_16, h⟩ | ⟨c_16, h⟩
    · refine r_t2 (pc' := 27) (L' := [(0, .ref 143), (1, .int X1)]) hq (z_at.mk 3 rfl rfl) rfl hx1 (rfl : (1 : Int32).toInt = 1) c_16 rfl rfl ?_
      refine r_p hq 3 (pc' := 31) (L' := [(0, .ref 143), (1, .int X1)]) (st' := [.int ((7 : Int32)), .int ((2 : Int32)), .int X1]) rfl ?_
      obtain ⟨o_31, h_31, h⟩ := Option.bind_eq_some_iff.mp h
      refine r_csI (pc' := 34) (L' := [(0, .ref 143), (1, .int X1)]) (As := [.int X1, .int ((2 : Int32)), .int ((7 : Int32))]) (rest := []) (j := 159) hq (z_at.mk 3 rfl rfl) (Or.inl ⟨rfl, rfl⟩) rfl rfl (by omega) (g_m_isIn_ok hx1 (rfl : (2 : Int32).toInt = 2) (rfl : (7 : Int32).toInt = 7) H h_31) rfl rfl ?_
      intro R_31 m_31 p_31 e_31 hR_31 H_31
      subst e_31
      rcases z_ite h with ⟨c_34, h⟩ | ⟨c_34, h⟩
      · refine r_t1 (pc' := 51) (L' := [(0, .ref 143), (1, .int X1)]) hq (z_at.mk 3 rfl rfl) rfl hR_31 c_34 rfl rfl ?_
        refine r_p hq 2 (pc' := 54) (L' := [(0, .ref 143), (1, .int X1)]) (st' := [.int ((8 : Int32)), .int X1]) rfl ?_
        rcases z_ite h with ⟨c_54, h⟩ | ⟨c_54, h⟩
        · refine r_t2 (pc' := 66) (L' := [(0, .ref 143), (1, .int X1)]) hq (z_at.mk 3 rfl rfl) rfl hx1 (rfl : (8 : Int32).toInt = 8) c_54 rfl rfl ?_
          refine r_p hq 2 (pc' := 69) (L' := [(0, .ref 143), (1, .int X1)]) (st' := [.int ((9 : Int32)), .int X1]) rfl ?_
          rcases z_ite h with ⟨c_69, h⟩ | ⟨c_69, h⟩
          · refine r_t2 (pc' := 80) (L' := [(0, .ref 143), (1, .int X1)]) hq (z_at.mk 3 rfl rfl) rfl hx1 (rfl : (9 : Int32).toInt = 9) c_69 rfl rfl ?_
            refine r_p hq 2 (pc' := 83) (L' := [(0, .ref 143), (1, .int X1)]) (st' := [.int ((10 : Int32)), .int X1]) rfl ?_
            rcases z_ite h with ⟨c_83, h⟩ | ⟨c_83, h⟩
            · refine r_t2 (pc' := 94) (L' := [(0, .ref 143), (1, .int X1)]) hq (z_at.mk 3 rfl rfl) rfl hx1 (rfl : (10 : Int32).toInt = 10) c_83 rfl rfl ?_
              refine r_p hq 1 (pc' := 97) (L' := []) (st' := [.long ((-9223372036854775808 : Int64))]) rfl ?_
              cases h
              exact r_rl hq (z_at.mk 1 rfl rfl) rfl (rfl : (-9223372036854775808 : Int64).toInt = -9223372036854775808) rfl H_31
            · refine r_f2 (pc' := 86) (L' := [(0, .ref 143), (1, .int X1)]) hq (z_at.mk 3 rfl rfl) rfl hx1 (rfl : (10 : Int32).toInt = 10) c_83 rfl rfl ?_
              refine r_p hq 1 (pc' := 87) (L' := [(0, .ref 143), (1, .int X1)]) (st' := [.ref 143]) rfl ?_
              refine r_gI (pc' := 90) (L' := [(0, .ref 143), (1, .int X1)]) H_31 hq (z_at.mk 3 rfl rfl) rfl rfl rfl rfl ?_
              intro V_87 hV_87
              refine r_p hq 2 (pc' := 97) (L' := []) (st' := [.long V_87.toInt64]) rfl ?_
              cases h
              exact r_rl hq (z_at.mk 1 rfl rfl) rfl (tx_i2l hV_87) rfl H_31
          · refine r_f2 (pc' := 72) (L' := [(0, .ref 143), (1, .int X1)]) hq (z_at.mk 3 rfl rfl) rfl hx1 (rfl : (9 : Int32).toInt = 9) c_69 rfl rfl ?_
            refine r_p hq 1 (pc' := 73) (L' := [(0, .ref 143), (1, .int X1)]) (st' := [.ref 143]) rfl ?_
            obtain ⟨o_73, h_73, h⟩ := Option.bind_eq_some_iff.mp h
            refine r_cvI (pc' := 76) (L' := [(0, .ref 143), (1, .int X1)]) (Ps := []) (rest := []) hq (z_at.mk 3 rfl rfl) (Or.inl ⟨rfl, rfl⟩) rfl rfl (by decide) (by decide) rfl (Nat.not_lt.mpr (Nat.le_of_ble_eq_true rfl)) rfl rfl (z_cat_le 0 rfl (by decide)) (z_lgl_le 1 rfl (by decide)) (by decide) (H_31.tg rfl) (by omega) (g_m_rows_ok H_31 h_73) rfl rfl ?_
            intro R_73 m_73 p_73 e_73 hR_73 H_73
            subst e_73
            refine r_p hq 2 (pc' := 97) (L' := []) (st' := [.long R_73.toInt64]) rfl ?_
            cases h
            exact r_rl hq (z_at.mk 1 rfl rfl) rfl (tx_i2l hR_73) rfl H_73
        · refine r_f2 (pc' := 57) (L' := [(0, .ref 143), (1, .int X1)]) hq (z_at.mk 3 rfl rfl) rfl hx1 (rfl : (8 : Int32).toInt = 8) c_54 rfl rfl ?_
          refine r_p hq 1 (pc' := 58) (L' := [(0, .ref 143), (1, .int X1)]) (st' := [.ref 143]) rfl ?_
          refine r_gR (b := 147) (pc' := 61) (L' := [(0, .ref 143), (1, .int X1)]) H_31 hq (z_at.mk 3 rfl rfl) rfl rfl rfl rfl ?_
          refine r_p hq 1 (pc' := 62) (L' := [(0, .ref 143), (1, .int X1)]) (st' := [.int ((0 : Int32)), .ref 147]) rfl ?_
          refine r_la (pc' := 63) (L' := [(0, .ref 143), (1, .int X1)]) H_31 hq (z_at.mk 1 rfl rfl) (show zAr 147 1 361 = true from rfl) (rfl : (0 : Int32).toInt = 0) ⟨by decide, by decide⟩ rfl rfl ?_
          intro V_62 hV_62
          refine r_p hq 1 (pc' := 97) (L' := []) (st' := [.long V_62]) rfl ?_
          cases h
          exact r_rl hq (z_at.mk 1 rfl rfl) rfl hV_62 rfl H_31
      · refine r_f1 (pc' := 37) (L' := [(0, .ref 143), (1, .int X1)]) hq (z_at.mk 3 rfl rfl) rfl hR_31 c_34 rfl rfl ?_
        refine r_p hq 1 (pc' := 38) (L' := [(0, .ref 143), (1, .int X1)]) (st' := [.ref 143]) rfl ?_
        refine r_gR (b := 144) (pc' := 41) (L' := [(0, .ref 143), (1, .int X1)]) H_31 hq (z_at.mk 3 rfl rfl) rfl rfl rfl rfl ?_
        refine r_p hq 5 (pc' := 46) (L' := [(0, .ref 143), (1, .int X1)]) (st' := [.int ((((2 : Int32)) + X1) - ((2 : Int32))), .ref 144]) rfl ?_
        obtain ⟨g_46, h⟩ := z_ifo_some h
        refine r_ia (pc' := 47) (L' := [(0, .ref 143), (1, .int X1)]) H_31 hq (z_at.mk 1 rfl rfl) (show zAr 144 0 2740 = true from rfl) (tx_isub (tx_iadd (rfl : (2 : Int32).toInt = 2) hx1) (rfl : (2 : Int32).toInt = 2)) g_46 rfl rfl ?_
        intro V_46 hV_46
        refine r_p hq 2 (pc' := 97) (L' := []) (st' := [.long V_46.toInt64]) rfl ?_
        cases h
        exact r_rl hq (z_at.mk 1 rfl rfl) rfl (tx_i2l hV_46) rfl H_31
    · refine r_f2 (pc' := 19) (L' := [(0, .ref 143), (1, .int X1)]) hq (z_at.mk 3 rfl rfl) rfl hx1 (rfl : (1 : Int32).toInt = 1) c_16 rfl rfl ?_
      refine r_p hq 1 (pc' := 20) (L' := [(0, .ref 143), (1, .int X1)]) (st' := [.ref 143]) rfl ?_
      obtain ⟨o_20, h_20, h⟩ := Option.bind_eq_some_iff.mp h
      refine r_cvI (pc' := 23) (L' := [(0, .ref 143), (1, .int X1)]) (Ps := []) (rest := []) hq (z_at.mk 3 rfl rfl) (Or.inl ⟨rfl, rfl⟩) rfl rfl (by decide) (by decide) rfl (Nat.not_lt.mpr (Nat.le_of_ble_eq_true rfl)) rfl rfl (z_cat_le 0 rfl (by decide)) (z_lgl_le 1 rfl (by decide)) (by decide) (H.tg rfl) (by omega) (g_m_sizes_ok H h_20) rfl rfl ?_
      intro R_20 m_20 p_20 e_20 hR_20 H_20
      subst e_20
      refine r_p hq 2 (pc' := 97) (L' := []) (st' := [.long R_20.toInt64]) rfl ?_
      cases h
      exact r_rl hq (z_at.mk 1 rfl rfl) rfl (tx_i2l hR_20) rfl H_20
  · refine r_f1 (pc' := 4) (L' := [(0, .ref 143), (1, .int X1)]) hq (z_at.mk 3 rfl rfl) rfl hx1 c_1 rfl rfl ?_
    refine r_p hq 1 (pc' := 5) (L' := [(0, .ref 143), (1, .int X1)]) (st' := [.ref 143]) rfl ?_
    refine r_gR (b := 144) (pc' := 8) (L' := [(0, .ref 143), (1, .int X1)]) H hq (z_at.mk 3 rfl rfl) rfl rfl rfl rfl ?_
    refine r_p hq 1 (pc' := 9) (L' := [(0, .ref 143), (1, .int X1)]) (st' := [.int ((0 : Int32)), .ref 144]) rfl ?_
    refine r_ia (pc' := 10) (L' := [(0, .ref 143), (1, .int X1)]) H hq (z_at.mk 1 rfl rfl) (show zAr 144 0 2740 = true from rfl) (rfl : (0 : Int32).toInt = 0) ⟨by decide, by decide⟩ rfl rfl ?_
    intro V_9 hV_9
    refine r_p hq 2 (pc' := 97) (L' := []) (st' := [.long V_9.toInt64]) rfl ?_
    cases h
    exact r_rl hq (z_at.mk 1 rfl rfl) rfl (tx_i2l hV_9) rfl H
def g_m_flush (σ : zS) : Option (Int × zS) :=
  let v_5 := σ 144 0
  let s_13 := zu σ 144 0 0
  some (v_5, s_13)
set_option maxHeartbeats 4000000 in
theorem g_m_flush_ok {xl : Nat} {xs : Nat → Int32} {σ : zS} {p : Nat} {m : zM} {o : Int × zS} (H : zRep xl xs p m σ) (h : g_m_flush σ = some o) : zGo xl xs (fun p' => p = p') 1 252 0 (z_can 252 0 (lv_args 0 [.ref 143])) [] m (vI o.1) o.2 := by
  have hq : z_mth 252 = some z_r252 := rfl
  unfold g_m_flush at h
  show zGo xl xs (fun p' => p = p') 1 252 0 [(0, .ref 143)] [] m (vI o.1) o.2
  refine r_p hq 1 (pc' := 1) (L' := [(0, .ref 143)]) (st' := [.ref 143]) rfl ?_
  refine r_gR (b := 144) (pc' := 4) (L' := [(0, .ref 143)]) H hq (z_at.mk 3 rfl rfl) rfl rfl rfl rfl ?_
  refine r_p hq 1 (pc' := 5) (L' := [(0, .ref 143)]) (st' := [.int ((0 : Int32)), .ref 144]) rfl ?_
  refine r_ia (pc' := 6) (L' := [(0, .ref 143)]) H hq (z_at.mk 1 rfl rfl) (show zAr 144 0 2740 = true from rfl) (rfl : (0 : Int32).toInt = 0) ⟨by decide, by decide⟩ rfl rfl ?_
  intro V_5 hV_5
  refine r_p hq 2 (pc' := 8) (L' := [(1, .int V_5), (0, .ref 143)]) (st' := [.ref 143]) rfl ?_
  refine r_gR (b := 144) (pc' := 11) (L' := [(1, .int V_5), (0, .ref 143)]) H hq (z_at.mk 3 rfl rfl) rfl rfl rfl rfl ?_
  refine r_p hq 2 (pc' := 13) (L' := [(1, .int V_5), (0, .ref 143)]) (st' := [.int ((0 : Int32)), .int ((0 : Int32)), .ref 144]) rfl ?_
  refine r_is (pc' := 14) (L' := [(1, .int V_5), (0, .ref 143)]) H hq (z_at.mk 1 rfl rfl) (show zAr 144 0 2740 = true from rfl) (rfl : (0 : Int32).toInt = 0) ⟨by decide, by decide⟩ (rfl : (0 : Int32).toInt = 0) rfl rfl ?_
  intro m_13 H_13
  refine r_p hq 1 (pc' := 15) (L' := [(1, .int V_5), (0, .ref 143)]) (st' := [.int V_5]) rfl ?_
  cases h
  exact r_ri hq (z_at.mk 1 rfl rfl) rfl rfl hV_5 rfl H_13
def g_m_keep_L107 (g36 : Int → Int → Int → Int → Int → Int → Int → zS → Option (Int × zS)) (x1 : Int) (x2 : Int) (y3 : Int) (x5 : Int) (x6 : Int) (y7 : Int) (x9 : Int) (σ : zS) : Option (Int × zS) :=
  g36 x1 x2 y3 x5 x6 y7 (w32 (x9 + 1)) σ
set_option maxHeartbeats 4000000 in
theorem g_m_keep_L107_ok {xl : Nat} {xs : Nat → Int32} {g36 : Int → Int → Int → Int → Int → Int → Int → zS → Option (Int × zS)} (hg36 : ∀ {X1 : Int32} {x1 : Int} {X2 : Int32} {x2 : Int} {Y3 : Int64} {y3 : Int} {X5 : Int32} {x5 : Int} {X6 : Int32} {x6 : Int} {Y7 : Int64} {y7 : Int} {X9 : Int32} {x9 : Int} {σ : zS} {p : Nat} {m : zM} {o : Int × zS}, X1.toInt = x1 → X2.toInt = x2 → Y3.toInt = y3 → X5.toInt = x5 → X6.toInt = x6 → Y7.toInt = y7 → X9.toInt = x9 → zRep xl xs p m σ → g36 x1 x2 y3 x5 x6 y7 x9 σ = some o → zGo xl xs (fun p' => p = p') 5 253 36 [(0, .ref 143), (1, .int X1), (2, .int X2), (3, .long Y3), (5, .int X5), (6, .int X6), (7, .long Y7), (9, .int X9)] [] m (vI o.1) o.2) {X1 : Int32} {x1 : Int} (hx1 : X1.toInt = x1) {X2 : Int32} {x2 : Int} (hx2 : X2.toInt = x2) {Y3 : Int64} {y3 : Int} (hy3 : Y3.toInt = y3) {X5 : Int32} {x5 : Int} (hx5 : X5.toInt = x5) {X6 : Int32} {x6 : Int} (hx6 : X6.toInt = x6) {Y7 : Int64} {y7 : Int} (hy7 : Y7.toInt = y7) {X9 : Int32} {x9 : Int} (hx9 : X9.toInt = x9) {σ : zS} {p : Nat} {m : zM} {o : Int × zS} (H : zRep xl xs p m σ) (h : g_m_keep_L107 g36 x1 x2 y3 x5 x6 y7 x9 σ = some o) : zGo xl xs (fun p' => p = p') 5 253 107 [(0, .ref 143), (1, .int X1), (2, .int X2), (3, .long Y3), (5, .int X5), (6, .int X6), (7, .long Y7), (9, .int X9)] [] m (vI o.1) o.2 := by
  have hq : z_mth 253 = some z_r253 := rfl
  unfold g_m_keep_L107 at h
  refine r_p hq 2 (pc' := 36) (L' := [(0, .ref 143), (1, .int X1), (2, .int X2), (3, .long Y3), (5, .int X5), (6, .int X6), (7, .long Y7), (9, .int (X9 + (1 : Int32)))]) (st' := []) rfl ?_
  exact hg36 hx1 hx2 hy3 hx5 hx6 hy7 (tx_iadd hx9 (rfl : (1 : Int32).toInt = 1)) H h
def g_m_keep_L135 (g14 : Int → Int → Int → Int → zS → Option (Int × zS)) (x1 : Int) (x2 : Int) (y3 : Int) (x5 : Int) (σ : zS) : Option (Int × zS) :=
  g14 x1 x2 y3 (w32 (x5 + 1)) σ
set_option maxHeartbeats 4000000 in
theorem g_m_keep_L135_ok {xl : Nat} {xs : Nat → Int32} {g14 : Int → Int → Int → Int → zS → Option (Int × zS)} (hg14 : ∀ {X1 : Int32} {x1 : Int} {X2 : Int32} {x2 : Int} {Y3 : Int64} {y3 : Int} {X5 : Int32} {x5 : Int} {σ : zS} {p : Nat} {m : zM} {o : Int × zS}, X1.toInt = x1 → X2.toInt = x2 → Y3.toInt = y3 → X5.toInt = x5 → zRep xl xs p m σ → g14 x1 x2 y3 x5 σ = some o → zGo xl xs (fun p' => p = p') 5 253 14 [(0, .ref 143), (1, .int X1), (2, .int X2), (3, .long Y3), (5, .int X5)] [] m (vI o.1) o.2) {X1 : Int32} {x1 : Int} (hx1 : X1.toInt = x1) {X2 : Int32} {x2 : Int} (hx2 : X2.toInt = x2) {Y3 : Int64} {y3 : Int} (hy3 : Y3.toInt = y3) {X5 : Int32} {x5 : Int} (hx5 : X5.toInt = x5) {σ : zS} {p : Nat} {m : zM} {o : Int × zS} (H : zRep xl xs p m σ) (h : g_m_keep_L135 g14 x1 x2 y3 x5 σ = some o) : zGo xl xs (fun p' => p = p') 5 253 135 [(0, .ref 143), (1, .int X1), (2, .int X2), (3, .long Y3), (5, .int X5)] [] m (vI o.1) o.2 := by
  have hq : z_mth 253 = some z_r253 := rfl
  unfold g_m_keep_L135 at h
  refine r_p hq 2 (pc' := 14) (L' := [(0, .ref 143), (1, .int X1), (2, .int X2), (3, .long Y3), (5, .int (X5 + (1 : Int32)))]) (st' := []) rfl ?_
  exact hg14 hx1 hx2 hy3 (tx_iadd hx5 (rfl : (1 : Int32).toInt = 1)) H h
def g_m_keep_L36 (g14 : Int → Int → Int → Int → zS → Option (Int × zS)) : Nat → Int → Int → Int → Int → Int → Int → Int → zS → Option (Int × zS)
  | 0, _, _, _, _, _, _, _, _ => none
  | n + 1, x1, x2, y3, x5, x6, y7, x9, σ =>
    let v_43 := σ 144 0
    if v_43 ≤ x9 then
      if x1 < x6 then
        g_m_keep_L135 g14 x1 x2 y3 x5 σ
      else
        if 0 < lCmp y7 y3 then
          g_m_keep_L135 g14 x1 x5 y7 x5 σ
        else
          g_m_keep_L135 g14 x1 x2 y3 x5 σ
    else
      if iAnd (iShr x5 x9) 1 ≠ 0 then
        (g_m_size x9 σ).bind fun o_65 =>
        (g_m_region_173 x9 o_65.2).bind fun o_80 =>
        (g_m_cost 144 o_80.1 o_80.2).bind fun o_83 =>
        (g_m_region_173 x9 o_83.2).bind fun o_94 =>
        if 0 ≤ w32 (o_94.1 + 9) ∧ w32 (o_94.1 + 9) < 2740 then
        let v_100 := o_94.2 144 (w32 (o_94.1 + 9))
        g_m_keep_L107 ((g_m_keep_L36 g14 n)) x1 x2 y3 x5 (w32 (x6 + o_65.1)) (w64 (y7 + (w64 (o_83.1 * (w32 (1 + v_100)))))) x9 o_94.2
        else none
      else
        g_m_keep_L107 ((g_m_keep_L36 g14 n)) x1 x2 y3 x5 x6 y7 x9 σ
set_option maxHeartbeats 4000000 in
theorem g_m_keep_L36_ok {xl : Nat} {xs : Nat → Int32} {g14 : Int → Int → Int → Int → zS → Option (Int × zS)} (hg14 : ∀ {X1 : Int32} {x1 : Int} {X2 : Int32} {x2 : Int} {Y3 : Int64} {y3 : Int} {X5 : Int32} {x5 : Int} {σ : zS} {p : Nat} {m : zM} {o : Int × zS}, X1.toInt = x1 → X2.toInt = x2 → Y3.toInt = y3 → X5.toInt = x5 → zRep xl xs p m σ → g14 x1 x2 y3 x5 σ = some o → zGo xl xs (fun p' => p = p') 5 253 14 [(0, .ref 143), (1, .int X1), (2, .int X2), (3, .long Y3), (5, .int X5)] [] m (vI o.1) o.2) : ∀ (n : Nat) {X1 : Int32} {x1 : Int} {X2 : Int32} {x2 : Int} {Y3 : Int64} {y3 : Int} {X5 : Int32} {x5 : Int} {X6 : Int32} {x6 : Int} {Y7 : Int64} {y7 : Int} {X9 : Int32} {x9 : Int} {σ : zS} {p : Nat} {m : zM} {o : Int × zS}, X1.toInt = x1 → X2.toInt = x2 → Y3.toInt = y3 → X5.toInt = x5 → X6.toInt = x6 → Y7.toInt = y7 → X9.toInt = x9 → zRep xl xs p m σ → g_m_keep_L36 g14 n x1 x2 y3 x5 x6 y7 x9 σ = some o → zGo xl xs (fun p' => p = p') 5 253 36 [(0, .ref 143), (1, .int X1), (2, .int X2), (3, .long Y3), (5, .int X5), (6, .int X6), (7, .long Y7), (9, .int X9)] [] m (vI o.1) o.2
  | 0, _, _, _, _, _, _, _, _, _, _, _, _, _, _, _, _, _, _, _, _, _, _, _, _, _, _, h => by cases h
  | n + 1, X1, x1, X2, x2, Y3, y3, X5, x5, X6, x6, Y7, y7, X9, x9, σ, p, m, o, hx1, hx2, hy3, hx5, hx6, hy7, hx9, H, h => by
    have hq : z_mth 253 = some z_r253 := rfl
    have ih := fun {X1 : Int32} {x1 : Int} {X2 : Int32} {x2 : Int} {Y3 : Int64} {y3 : Int} {X5 : Int32} {x5 : Int} {X6 : Int32} {x6 : Int} {Y7 : Int64} {y7 : Int} {X9 : Int32} {x9 : Int} {σ : zS} {p : Nat} {m : zM} {o : Int × zS} => g_m_keep_L36_ok (xl := xl) (xs := xs) hg14 n (X1 := X1) (x1 := x1) (X2 := X2) (x2 := x2) (Y3 := Y3) (y3 := y3) (X5 := X5) (x5 := x5) (X6 := X6) (x6 := x6) (Y7 := Y7) (y7 := y7) (X9 := X9) (x9 := x9) (σ := σ) (p := p) (m := m) (o := o)
    unfold g_m_keep_L36 at h
    refine r_p hq 2 (pc' := 39) (L' := [(0, .ref 143), (1, .int X1), (2, .int X2), (3, .long Y3), (5, .int X5), (6, .int X6), (7, .long Y7), (9, .int X9)]) (st' := [.ref 143, .int X9]) rfl ?_
    refine r_gR (b := 144) (pc' := 42) (L' := [(0, .ref 143), (1, .int X1), (2, .int X2), (3, .long Y3), (5, .int X5), (6, .int X6), (7, .long Y7), (9, .int X9)]) H hq (z_at.mk 3 rfl rfl) rfl rfl rfl rfl ?_
    refine r_p hq 1 (pc' := 43) (L' := [(0, .ref 143), (1, .int X1), (2, .int X2), (3, .long Y3), (5, .int X5), (6, .int X6), (7, .long Y7), (9, .int X9)]) (st' := [.int ((0 : Int32)), .ref 144, .int X9]) rfl ?_
    refine r_ia (pc' := 44) (L' := [(0, .ref 143), (1, .int X1), (2, .int X2), (3, .long Y3), (5, .int X5), (6, .int X6), (7, .long Y7), (9, .int X9)]) H hq (z_at.mk 1 rfl rfl) (show zAr 144 0 2740 = true from rfl) (rfl : (0 : Int32).toInt = 0) ⟨by decide, by decide⟩ rfl rfl ?_
    intro V_43 hV_43
    rcases z_ite h with ⟨c_44, h⟩ | ⟨c_44, h⟩
    · refine r_t2 (pc' := 113) (L' := [(0, .ref 143), (1, .int X1), (2, .int X2), (3, .long Y3), (5, .int X5), (6, .int X6), (7, .long Y7), (9, .int X9)]) hq (z_at.mk 3 rfl rfl) rfl hx9 hV_43 c_44 rfl rfl ?_
      refine r_p hq 2 (pc' := 116) (L' := [(0, .ref 143), (1, .int X1), (2, .int X2), (3, .long Y3), (5, .int X5), (6, .int X6), (7, .long Y7), (9, .int X9)]) (st' := [.int X1, .int X6]) rfl ?_
      rcases z_ite h with ⟨c_116, h⟩ | ⟨c_116, h⟩
      · refine r_t2 (pc' := 135) (L' := [(0, .ref 143), (1, .int X1), (2, .int X2), (3, .long Y3), (5, .int X5)]) hq (z_at.mk 3 rfl rfl) rfl hx6 hx1 c_116 rfl rfl ?_
        exact g_m_keep_L135_ok hg14 hx1 hx2 hy3 hx5 H h
      · refine r_f2 (pc' := 119) (L' := [(0, .ref 143), (1, .int X1), (2, .int X2), (3, .long Y3), (5, .int X5), (6, .int X6), (7, .long Y7), (9, .int X9)]) hq (z_at.mk 3 rfl rfl) rfl hx6 hx1 c_116 rfl rfl ?_
        refine r_p hq 3 (pc' := 123) (L' := [(0, .ref 143), (1, .int X1), (2, .int X2), (3, .long Y3), (5, .int X5), (6, .int X6), (7, .long Y7), (9, .int X9)]) (st' := [.int (lg_cmp Y7 Y3)]) rfl ?_
        rcases z_ite h with ⟨c_123, h⟩ | ⟨c_123, h⟩
        · refine r_t1 (pc' := 129) (L' := [(0, .ref 143), (1, .int X1), (2, .int X2), (3, .long Y3), (5, .int X5), (6, .int X6), (7, .long Y7), (9, .int X9)]) hq (z_at.mk 3 rfl rfl) rfl (tx_lcmp hy7 hy3) c_123 rfl rfl ?_
          refine r_p hq 4 (pc' := 135) (L' := [(0, .ref 143), (1, .int X1), (2, .int X5), (3, .long Y7), (5, .int X5)]) (st' := []) rfl ?_
          exact g_m_keep_L135_ok hg14 hx1 hx5 hy7 hx5 H h
        · refine r_f1 (pc' := 126) (L' := [(0, .ref 143), (1, .int X1), (2, .int X2), (3, .long Y3), (5, .int X5), (6, .int X6), (7, .long Y7), (9, .int X9)]) hq (z_at.mk 3 rfl rfl) rfl (tx_lcmp hy7 hy3) c_123 rfl rfl ?_
          refine r_p hq 1 (pc' := 135) (L' := [(0, .ref 143), (1, .int X1), (2, .int X2), (3, .long Y3), (5, .int X5)]) (st' := []) rfl ?_
          exact g_m_keep_L135_ok hg14 hx1 hx2 hy3 hx5 H h
    · refine r_f2 (pc' := 47) (L' := [(0, .ref 143), (1, .int X1), (2, .int X2), (3, .long Y3), (5, .int X5), (6, .int X6), (7, .long Y7), (9, .int X9)]) hq (z_at.mk 3 rfl rfl) rfl hx9 hV_43 c_44 rfl rfl ?_
      refine r_p hq 5 (pc' := 54) (L' := [(0, .ref 143), (1, .int X1), (2, .int X2), (3, .long Y3), (5, .int X5), (6, .int X6), (7, .long Y7), (9, .int X9)]) (st' := [.int ((X5 >>> (X9 &&& 31)) &&& ((1 : Int32)))]) rfl ?_
      rcases z_ite h with ⟨c_54, h⟩ | ⟨c_54, h⟩
      · refine r_t1 (pc' := 60) (L' := [(0, .ref 143), (1, .int X1), (2, .int X2), (3, .long Y3), (5, .int X5), (6, .int X6), (7, .long Y7), (9, .int X9)]) hq (z_at.mk 3 rfl rfl) rfl (tx_iand (tx_ishr hx5 hx9) (rfl : (1 : Int32).toInt = 1)) c_54 rfl rfl ?_
        refine r_p hq 3 (pc' := 65) (L' := [(0, .ref 143), (1, .int X1), (2, .int X2), (3, .long Y3), (5, .int X5), (6, .int X6), (7, .long Y7), (9, .int X9)]) (st' := [.int X9, .ref 143, .int X6]) rfl ?_
        obtain ⟨o_65, h_65, h⟩ := Option.bind_eq_some_iff.mp h
        refine r_cvI (pc' := 68) (L' := [(0, .ref 143), (1, .int X1), (2, .int X2), (3, .long Y3), (5, .int X5), (6, .int X6), (7, .long Y7), (9, .int X9)]) (Ps := [.int X9]) (rest := [.int X6]) hq (z_at.mk 3 rfl rfl) (Or.inl ⟨rfl, rfl⟩) rfl rfl (by decide) (by decide) rfl (Nat.not_lt.mpr (Nat.le_of_ble_eq_true rfl)) rfl rfl (z_cat_le 1 rfl (by decide)) (z_lgl_le 2 rfl (by decide)) (by decide) (H.tg rfl) (by omega) (g_m_size_ok hx9 H h_65) rfl rfl ?_
        intro R_65 m_65 p_65 e_65 hR_65 H_65
        subst e_65
        refine r_p hq 5 (pc' := 75) (L' := [(6, .int (X6 + R_65)), (0, .ref 143), (1, .int X1), (2, .int X2), (3, .long Y3), (5, .int X5), (7, .long Y7), (9, .int X9)]) (st' := [.ref 143, .ref 143, .long Y7]) rfl ?_
        refine r_gR (b := 144) (pc' := 78) (L' := [(6, .int (X6 + R_65)), (0, .ref 143), (1, .int X1), (2, .int X2), (3, .long Y3), (5, .int X5), (7, .long Y7), (9, .int X9)]) H_65 hq (z_at.mk 3 rfl rfl) rfl rfl rfl rfl ?_
        refine r_p hq 1 (pc' := 80) (L' := [(6, .int (X6 + R_65)), (0, .ref 143), (1, .int X1), (2, .int X2), (3, .long Y3), (5, .int X5), (7, .long Y7), (9, .int X9)]) (st' := [.int X9, .ref 144, .ref 143, .long Y7]) rfl ?_
        obtain ⟨o_80, h_80, h⟩ := Option.bind_eq_some_iff.mp h
        refine r_csI (pc' := 83) (L' := [(6, .int (X6 + R_65)), (0, .ref 143), (1, .int X1), (2, .int X2), (3, .long Y3), (5, .int X5), (7, .long Y7), (9, .int X9)]) (As := [.int X9]) (rest := [.ref 144, .ref 143, .long Y7]) (j := 173) hq (z_at.mk 3 rfl rfl) (Or.inl ⟨rfl, rfl⟩) rfl rfl (by omega) (g_m_region_173_ok hx9 H_65 h_80) rfl rfl ?_
        intro R_80 m_80 p_80 e_80 hR_80 H_80
        subst e_80
        obtain ⟨o_83, h_83, h⟩ := Option.bind_eq_some_iff.mp h
        refine r_cvI (pc' := 86) (L' := [(6, .int (X6 + R_65)), (0, .ref 143), (1, .int X1), (2, .int X2), (3, .long Y3), (5, .int X5), (7, .long Y7), (9, .int X9)]) (Ps := [.ref 144, .int R_80]) (rest := [.long Y7]) hq (z_at.mk 3 rfl rfl) (Or.inl ⟨rfl, rfl⟩) rfl rfl (by decide) (by decide) rfl (Nat.not_lt.mpr (Nat.le_of_ble_eq_true rfl)) rfl rfl (z_cat_le 2 rfl (by decide)) (z_lgl_le 3 rfl (by decide)) (by decide) (H_80.tg rfl) (by omega) (g_m_cost_ok rfl hR_80 H_80 h_83) rfl rfl ?_
        intro R_83 m_83 p_83 e_83 hR_83 H_83
        subst e_83
        refine r_p hq 3 (pc' := 89) (L' := [(6, .int (X6 + R_65)), (0, .ref 143), (1, .int X1), (2, .int X2), (3, .long Y3), (5, .int X5), (7, .long Y7), (9, .int X9)]) (st' := [.ref 143, .int ((1 : Int32)), .long R_83.toInt64, .long Y7]) rfl ?_
        refine r_gR (b := 144) (pc' := 92) (L' := [(6, .int (X6 + R_65)), (0, .ref 143), (1, .int X1), (2, .int X2), (3, .long Y3), (5, .int X5), (7, .long Y7), (9, .int X9)]) H_83 hq (z_at.mk 3 rfl rfl) rfl rfl rfl rfl ?_
        refine r_p hq 1 (pc' := 94) (L' := [(6, .int (X6 + R_65)), (0, .ref 143), (1, .int X1), (2, .int X2), (3, .long Y3), (5, .int X5), (7, .long Y7), (9, .int X9)]) (st' := [.int X9, .ref 144, .int ((1 : Int32)), .long R_83.toInt64, .long Y7]) rfl ?_
        obtain ⟨o_94, h_94, h⟩ := Option.bind_eq_some_iff.mp h
        refine r_csI (pc' := 97) (L' := [(6, .int (X6 + R_65)), (0, .ref 143), (1, .int X1), (2, .int X2), (3, .long Y3), (5, .int X5), (7, .long Y7), (9, .int X9)]) (As := [.int X9]) (rest := [.ref 144, .int ((1 : Int32)), .long R_83.toInt64, .long Y7]) (j := 173) hq (z_at.mk 3 rfl rfl) (Or.inl ⟨rfl, rfl⟩) rfl rfl (by omega) (g_m_region_173_ok hx9 H_83 h_94) rfl rfl ?_
        intro R_94 m_94 p_94 e_94 hR_94 H_94
        subst e_94
        refine r_p hq 2 (pc' := 100) (L' := [(6, .int (X6 + R_65)), (0, .ref 143), (1, .int X1), (2, .int X2), (3, .long Y3), (5, .int X5), (7, .long Y7), (9, .int X9)]) (st' := [.int (R_94 + ((9 : Int32))), .ref 144, .int ((1 : Int32)), .long R_83.toInt64, .long Y7]) rfl ?_
        obtain ⟨g_100, h⟩ := z_ifo_some h
        refine r_ia (pc' := 101) (L' := [(6, .int (X6 + R_65)), (0, .ref 143), (1, .int X1), (2, .int X2), (3, .long Y3), (5, .int X5), (7, .long Y7), (9, .int X9)]) H_94 hq (z_at.mk 1 rfl rfl) (show zAr 144 0 2740 = true from rfl) (tx_iadd hR_94 (rfl : (9 : Int32).toInt = 9)) g_100 rfl rfl ?_
        intro V_100 hV_100
        refine r_p hq 5 (pc' := 107) (L' := [(0, .ref 143), (1, .int X1), (2, .int X2), (3, .long Y3), (5, .int X5), (6, .int (X6 + R_65)), (7, .long (Y7 + (R_83.toInt64 * ((((1 : Int32)) + V_100).toInt64)))), (9, .int X9)]) (st' := []) rfl ?_
        exact g_m_keep_L107_ok ih hx1 hx2 hy3 hx5 (tx_iadd hx6 hR_65) (tx_ladd hy7 (tx_lmul (tx_i2l hR_83) (tx_i2l (tx_iadd (rfl : (1 : Int32).toInt = 1) hV_100)))) hx9 H_94 h
      · refine r_f1 (pc' := 57) (L' := [(0, .ref 143), (1, .int X1), (2, .int X2), (3, .long Y3), (5, .int X5), (6, .int X6), (7, .long Y7), (9, .int X9)]) hq (z_at.mk 3 rfl rfl) rfl (tx_iand (tx_ishr hx5 hx9) (rfl : (1 : Int32).toInt = 1)) c_54 rfl rfl ?_
        refine r_p hq 1 (pc' := 107) (L' := [(0, .ref 143), (1, .int X1), (2, .int X2), (3, .long Y3), (5, .int X5), (6, .int X6), (7, .long Y7), (9, .int X9)]) (st' := []) rfl ?_
        exact g_m_keep_L107_ok ih hx1 hx2 hy3 hx5 hx6 hy7 hx9 H h
def g_m_keep_L14 : Nat → Int → Int → Int → Int → zS → Option (Int × zS)
  | 0, _, _, _, _, _ => none
  | n + 1, x1, x2, y3, x5, σ =>
    let v_22 := σ 144 0
    if iShl 1 v_22 ≤ x5 then
      some (x2, σ)
    else
      g_m_keep_L36 ((g_m_keep_L14 n)) zK x1 x2 y3 x5 0 0 0 σ
set_option maxHeartbeats 4000000 in
theorem g_m_keep_L14_ok {xl : Nat} {xs : Nat → Int32} : ∀ (n : Nat) {X1 : Int32} {x1 : Int} {X2 : Int32} {x2 : Int} {Y3 : Int64} {y3 : Int} {X5 : Int32} {x5 : Int} {σ : zS} {p : Nat} {m : zM} {o : Int × zS}, X1.toInt = x1 → X2.toInt = x2 → Y3.toInt = y3 → X5.toInt = x5 → zRep xl xs p m σ → g_m_keep_L14 n x1 x2 y3 x5 σ = some o → zGo xl xs (fun p' => p = p') 5 253 14 [(0, .ref 143), (1, .int X1), (2, .int X2), (3, .long Y3), (5, .int X5)] [] m (vI o.1) o.2
  | 0, _, _, _, _, _, _, _, _, _, _, _, _, _, _, _, _, _, h => by cases h
  | n + 1, X1, x1, X2, x2, Y3, y3, X5, x5, σ, p, m, o, hx1, hx2, hy3, hx5, H, h => by
    have hq : z_mth 253 = some z_r253 := rfl
    have ih := fun {X1 : Int32} {x1 : Int} {X2 : Int32} {x2 : Int} {Y3 : Int64} {y3 : Int} {X5 : Int32} {x5 : Int} {σ : zS} {p : Nat} {m : zM} {o : Int × zS} => g_m_keep_L14_ok (xl := xl) (xs := xs) n (X1 := X1) (x1 := x1) (X2 := X2) (x2 := x2) (Y3 := Y3) (y3 := y3) (X5 := X5) (x5 := x5) (σ := σ) (p := p) (m := m) (o := o)
    unfold g_m_keep_L14 at h
    refine r_p hq 3 (pc' := 18) (L' := [(0, .ref 143), (1, .int X1), (2, .int X2), (3, .long Y3), (5, .int X5)]) (st' := [.ref 143, .int ((1 : Int32)), .int X5]) rfl ?_
    refine r_gR (b := 144) (pc' := 21) (L' := [(0, .ref 143), (1, .int X1), (2, .int X2), (3, .long Y3), (5, .int X5)]) H hq (z_at.mk 3 rfl rfl) rfl rfl rfl rfl ?_
    refine r_p hq 1 (pc' := 22) (L' := [(0, .ref 143), (1, .int X1), (2, .int X2), (3, .long Y3), (5, .int X5)]) (st' := [.int ((0 : Int32)), .ref 144, .int ((1 : Int32)), .int X5]) rfl ?_
    refine r_ia (pc' := 23) (L' := [(0, .ref 143), (1, .int X1), (2, .int X2), (3, .long Y3), (5, .int X5)]) H hq (z_at.mk 1 rfl rfl) (show zAr 144 0 2740 = true from rfl) (rfl : (0 : Int32).toInt = 0) ⟨by decide, by decide⟩ rfl rfl ?_
    intro V_22 hV_22
    refine r_p hq 1 (pc' := 24) (L' := [(0, .ref 143), (1, .int X1), (2, .int X2), (3, .long Y3), (5, .int X5)]) (st' := [.int (((1 : Int32)) <<< (V_22 &&& 31)), .int X5]) rfl ?_
    rcases z_ite h with ⟨c_24, h⟩ | ⟨c_24, h⟩
    · refine r_t2 (pc' := 141) (L' := [(0, .ref 143), (1, .int X1), (2, .int X2), (3, .long Y3), (5, .int X5)]) hq (z_at.mk 3 rfl rfl) rfl hx5 (tx_ishl (rfl : (1 : Int32).toInt = 1) hV_22) c_24 rfl rfl ?_
      refine r_p hq 1 (pc' := 142) (L' := [(0, .ref 143), (1, .int X1), (2, .int X2), (3, .long Y3), (5, .int X5)]) (st' := [.int X2]) rfl ?_
      cases h
      exact r_ri hq (z_at.mk 1 rfl rfl) rfl rfl hx2 rfl H
    · refine r_f2 (pc' := 27) (L' := [(0, .ref 143), (1, .int X1), (2, .int X2), (3, .long Y3), (5, .int X5)]) hq (z_at.mk 3 rfl rfl) rfl hx5 (tx_ishl (rfl : (1 : Int32).toInt = 1) hV_22) c_24 rfl rfl ?_
      refine r_p hq 6 (pc' := 36) (L' := [(0, .ref 143), (1, .int X1), (2, .int X2), (3, .long Y3), (5, .int X5), (6, .int ((0 : Int32))), (7, .long ((0 : Int64))), (9, .int ((0 : Int32)))]) (st' := []) rfl ?_
      exact g_m_keep_L36_ok ih zK hx1 hx2 hy3 hx5 (rfl : (0 : Int32).toInt = 0) (rfl : (0 : Int64).toInt = 0) (rfl : (0 : Int32).toInt = 0) H h
def g_m_keep (x1 : Int) (σ : zS) : Option (Int × zS) :=
  if 0 ≤ x1 then
    g_m_keep_L14 zK x1 0 0 1 σ
  else
    some (-2, σ)
set_option maxHeartbeats 4000000 in
theorem g_m_keep_ok {xl : Nat} {xs : Nat → Int32} {X1 : Int32} {x1 : Int} (hx1 : X1.toInt = x1) {σ : zS} {p : Nat} {m : zM} {o : Int × zS} (H : zRep xl xs p m σ) (h : g_m_keep x1 σ = some o) : zGo xl xs (fun p' => p = p') 5 253 0 (z_can 253 0 (lv_args 0 [.ref 143, .int X1])) [] m (vI o.1) o.2 := by
  have hq : z_mth 253 = some z_r253 := rfl
  unfold g_m_keep at h
  show zGo xl xs (fun p' => p = p') 5 253 0 [(0, .ref 143), (1, .int X1)] [] m (vI o.1) o.2
  refine r_p hq 1 (pc' := 1) (L' := [(0, .ref 143), (1, .int X1)]) (st' := [.int X1]) rfl ?_
  rcases z_ite h with ⟨c_1, h⟩ | ⟨c_1, h⟩
  · refine r_t1 (pc' := 7) (L' := [(0, .ref 143), (1, .int X1)]) hq (z_at.mk 3 rfl rfl) rfl hx1 c_1 rfl rfl ?_
    refine r_p hq 6 (pc' := 14) (L' := [(0, .ref 143), (1, .int X1), (2, .int ((0 : Int32))), (3, .long ((0 : Int64))), (5, .int ((1 : Int32)))]) (st' := []) rfl ?_
    exact g_m_keep_L14_ok zK hx1 (rfl : (0 : Int32).toInt = 0) (rfl : (0 : Int64).toInt = 0) (rfl : (1 : Int32).toInt = 1) H h
  · refine r_f1 (pc' := 4) (L' := [(0, .ref 143), (1, .int X1)]) hq (z_at.mk 3 rfl rfl) rfl hx1 c_1 rfl rfl ?_
    refine r_p hq 1 (pc' := 6) (L' := [(0, .ref 143), (1, .int X1)]) (st' := [.int ((-2 : Int32))]) rfl ?_
    cases h
    exact r_ri hq (z_at.mk 1 rfl rfl) rfl rfl (rfl : (-2 : Int32).toInt = -2) rfl H
