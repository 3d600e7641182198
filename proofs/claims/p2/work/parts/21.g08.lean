/-! THE METHODS over the typed memory, 8 (by wip/zg.py) -/
def g_c_piece (x1 : Int) (x2 : Int) (σ : zS) : Option (Int × zS) :=
  if x1 < 0 then
    some (-1, σ)
  else
    let v_9 := σ 131 1
    if v_9 ≤ x1 then
      some (-1, σ)
    else
      if x2 < 0 then
        some (-1, σ)
      else
        if x2 ≤ 4 then
          if 4 ≤ x2 then
            if 0 ≤ x1 ∧ x1 < 181 then
            let v_51 := σ 133 x1
            some (v_51, σ)
            else none
          else
            (g_bs_at 131 x1 σ).bind fun o_36 =>
            (g_b_side o_36.1 x2 o_36.2).bind fun o_40 =>
            some (o_40.1, o_40.2)
        else
          some (-1, σ)
set_option maxHeartbeats 4000000 in
theorem g_c_piece_ok {xl : Nat} {xs : Nat → Int32} {X1 : Int32} {x1 : Int} (hx1 : X1.toInt = x1) {X2 : Int32} {x2 : Int} (hx2 : X2.toInt = x2) {σ : zS} {p : Nat} {m : zM} {o : Int × zS} (H : zRep xl xs p m σ) (h : g_c_piece x1 x2 σ = some o) : zGo xl xs (fun p' => p = p') 2 137 0 (z_can 137 0 (lv_args 0 [.ref 39, .int X1, .int X2])) [] m (vI o.1) o.2 := by
  have hq : z_mth 137 = some z_r137 := rfl
  unfold g_c_piece at h
  show zGo xl xs (fun p' => p = p') 2 137 0 [(0, .ref 39), (1, .int X1), (2, .int X2)] [] m (vI o.1) o.2
  refine r_p hq 1 (pc' := 1) (L' := [(0, .ref 39), (1, .int X1), (2, .int X2)]) (st' := [.int X1]) rfl ?_
  rcases z_ite h with ⟨c_1, h⟩ | ⟨c_1, h⟩
  · refine r_t1 (pc' := 24) (L' := []) hq (z_at.mk 3 rfl rfl) rfl hx1 c_1 rfl rfl ?_
    refine r_p hq 1 (pc' := 25) (L' := []) (st' := [.int ((-1 : Int32))]) rfl ?_
    cases h
    exact r_ri hq (z_at.mk 1 rfl rfl) rfl rfl (rfl : (-1 : Int32).toInt = -1) rfl H
  · refine r_f1 (pc' := 4) (L' := [(0, .ref 39), (1, .int X1), (2, .int X2)]) hq (z_at.mk 3 rfl rfl) rfl hx1 c_1 rfl rfl ?_
    refine r_p hq 2 (pc' := 6) (L' := [(0, .ref 39), (1, .int X1), (2, .int X2)]) (st' := [.ref 39, .int X1]) rfl ?_
    refine r_gR (b := 131) (pc' := 9) (L' := [(0, .ref 39), (1, .int X1), (2, .int X2)]) H hq (z_at.mk 3 rfl rfl) rfl rfl rfl rfl ?_
    refine r_gI (pc' := 12) (L' := [(0, .ref 39), (1, .int X1), (2, .int X2)]) H hq (z_at.mk 3 rfl rfl) rfl rfl rfl rfl ?_
    intro V_9 hV_9
    rcases z_ite h with ⟨c_12, h⟩ | ⟨c_12, h⟩
    · refine r_t2 (pc' := 24) (L' := []) hq (z_at.mk 3 rfl rfl) rfl hx1 hV_9 c_12 rfl rfl ?_
      refine r_p hq 1 (pc' := 25) (L' := []) (st' := [.int ((-1 : Int32))]) rfl ?_
      cases h
      exact r_ri hq (z_at.mk 1 rfl rfl) rfl rfl (rfl : (-1 : Int32).toInt = -1) rfl H
    · refine r_f2 (pc' := 15) (L' := [(0, .ref 39), (1, .int X1), (2, .int X2)]) hq (z_at.mk 3 rfl rfl) rfl hx1 hV_9 c_12 rfl rfl ?_
      refine r_p hq 1 (pc' := 16) (L' := [(0, .ref 39), (1, .int X1), (2, .int X2)]) (st' := [.int X2]) rfl ?_
      rcases z_ite h with ⟨c_16, h⟩ | ⟨c_16, h⟩
      · refine r_t1 (pc' := 24) (L' := []) hq (z_at.mk 3 rfl rfl) rfl hx2 c_16 rfl rfl ?_
        refine r_p hq 1 (pc' := 25) (L' := []) (st' := [.int ((-1 : Int32))]) rfl ?_
        cases h
        exact r_ri hq (z_at.mk 1 rfl rfl) rfl rfl (rfl : (-1 : Int32).toInt = -1) rfl H
      · refine r_f1 (pc' := 19) (L' := [(0, .ref 39), (1, .int X1), (2, .int X2)]) hq (z_at.mk 3 rfl rfl) rfl hx2 c_16 rfl rfl ?_
        refine r_p hq 2 (pc' := 21) (L' := [(0, .ref 39), (1, .int X1), (2, .int X2)]) (st' := [.int ((4 : Int32)), .int X2]) rfl ?_
        rcases z_ite h with ⟨c_21, h⟩ | ⟨c_21, h⟩
        · refine r_t2 (pc' := 26) (L' := [(0, .ref 39), (1, .int X1), (2, .int X2)]) hq (z_at.mk 3 rfl rfl) rfl hx2 (rfl : (4 : Int32).toInt = 4) c_21 rfl rfl ?_
          refine r_p hq 2 (pc' := 28) (L' := [(0, .ref 39), (1, .int X1), (2, .int X2)]) (st' := [.int ((4 : Int32)), .int X2]) rfl ?_
          rcases z_ite h with ⟨c_28, h⟩ | ⟨c_28, h⟩
          · refine r_t2 (pc' := 46) (L' := [(0, .ref 39), (1, .int X1), (2, .int X2)]) hq (z_at.mk 3 rfl rfl) rfl hx2 (rfl : (4 : Int32).toInt = 4) c_28 rfl rfl ?_
            refine r_p hq 1 (pc' := 47) (L' := [(0, .ref 39), (1, .int X1), (2, .int X2)]) (st' := [.ref 39]) rfl ?_
            refine r_gR (b := 133) (pc' := 50) (L' := [(0, .ref 39), (1, .int X1), (2, .int X2)]) H hq (z_at.mk 3 rfl rfl) rfl rfl rfl rfl ?_
            refine r_p hq 1 (pc' := 51) (L' := [(0, .ref 39), (1, .int X1), (2, .int X2)]) (st' := [.int X1, .ref 133]) rfl ?_
            obtain ⟨g_51, h⟩ := z_ifo_some h
            refine r_ia (pc' := 52) (L' := []) H hq (z_at.mk 1 rfl rfl) (show zAr 133 0 181 = true from rfl) hx1 g_51 rfl rfl ?_
            intro V_51 hV_51
            cases h
            exact r_ri hq (z_at.mk 1 rfl rfl) rfl rfl hV_51 rfl H
          · refine r_f2 (pc' := 31) (L' := [(0, .ref 39), (1, .int X1), (2, .int X2)]) hq (z_at.mk 3 rfl rfl) rfl hx2 (rfl : (4 : Int32).toInt = 4) c_28 rfl rfl ?_
            refine r_p hq 1 (pc' := 32) (L' := [(0, .ref 39), (1, .int X1), (2, .int X2)]) (st' := [.ref 39]) rfl ?_
            refine r_gR (b := 131) (pc' := 35) (L' := [(0, .ref 39), (1, .int X1), (2, .int X2)]) H hq (z_at.mk 3 rfl rfl) rfl rfl rfl rfl ?_
            refine r_p hq 1 (pc' := 36) (L' := [(0, .ref 39), (1, .int X1), (2, .int X2)]) (st' := [.int X1, .ref 131]) rfl ?_
            obtain ⟨o_36, h_36, h⟩ := Option.bind_eq_some_iff.mp h
            refine r_cvI (pc' := 39) (L' := [(0, .ref 39), (1, .int X1), (2, .int X2)]) (Ps := [.int X1]) (rest := []) hq (z_at.mk 3 rfl rfl) (Or.inl ⟨rfl, rfl⟩) rfl rfl (by decide) (by decide) rfl (Nat.not_lt.mpr (Nat.le_of_ble_eq_true rfl)) rfl rfl (z_cat_le 0 rfl (by decide)) (z_lgl_le 2 rfl (by decide)) (by decide) (H.tg rfl) (by omega) (g_bs_at_ok rfl hx1 H h_36) rfl rfl ?_
            intro R_36 m_36 p_36 e_36 hR_36 H_36
            subst e_36
            refine r_p hq 1 (pc' := 40) (L' := [(0, .ref 39), (1, .int X1), (2, .int X2)]) (st' := [.int X2, .int R_36]) rfl ?_
            obtain ⟨o_40, h_40, h⟩ := Option.bind_eq_some_iff.mp h
            refine r_csI (pc' := 43) (L' := [(0, .ref 39), (1, .int X1), (2, .int X2)]) (As := [.int R_36, .int X2]) (rest := []) (j := 3) hq (z_at.mk 3 rfl rfl) (Or.inl ⟨rfl, rfl⟩) rfl rfl (by omega) (g_b_side_ok hR_36 hx2 H_36 h_40) rfl rfl ?_
            intro R_40 m_40 p_40 e_40 hR_40 H_40
            subst e_40
            refine r_p hq 1 (pc' := 52) (L' := []) (st' := [.int R_40]) rfl ?_
            cases h
            exact r_ri hq (z_at.mk 1 rfl rfl) rfl rfl hR_40 rfl H_40
        · refine r_f2 (pc' := 24) (L' := []) hq (z_at.mk 3 rfl rfl) rfl hx2 (rfl : (4 : Int32).toInt = 4) c_21 rfl rfl ?_
          refine r_p hq 1 (pc' := 25) (L' := []) (st' := [.int ((-1 : Int32))]) rfl ?_
          cases h
          exact r_ri hq (z_at.mk 1 rfl rfl) rfl rfl (rfl : (-1 : Int32).toInt = -1) rfl H
def g_c_region (x1 : Int) (x2 : Int) (σ : zS) : Option (Int × zS) :=
  if x1 < 0 then
    some (-1, σ)
  else
    let v_14 := σ 48 2
    if v_14 ≤ x1 then
      some (-1, σ)
    else
      if x2 < 0 then
        some (-1, σ)
      else
        if x2 ≤ 11 then
          if 4 ≤ x2 then
            if x2 ≠ 4 then
              if x2 ≠ 5 then
                if 10 ≤ x2 then
                  if x2 ≠ 10 then
                    if 0 ≤ x1 ∧ x1 < 181 then
                    let v_132 := σ 52 x1
                    (g_ca_costOf 48 v_132 σ).bind fun o_133 =>
                    some (o_133.1, o_133.2)
                    else none
                  else
                    if 0 ≤ x1 ∧ x1 < 181 then
                    let v_119 := σ 52 x1
                    (g_ca_sizeOf 48 v_119 σ).bind fun o_120 =>
                    some (o_120.1, o_120.2)
                    else none
                else
                  if 0 ≤ x1 ∧ x1 < 181 then
                  let v_83 := σ 54 x1
                  if v_83 ≠ -1 then
                    if 0 ≤ x1 ∧ x1 < 181 then
                    let v_98 := σ 54 x1
                    (g_b_side v_98 (w32 (x2 - 6)) σ).bind fun o_103 =>
                    some (o_103.1, o_103.2)
                    else none
                  else
                    some (-5, σ)
                  else none
              else
                if 0 ≤ x1 ∧ x1 < 181 then
                let v_70 := σ 53 x1
                some (v_70, σ)
                else none
            else
              if 0 ≤ x1 ∧ x1 < 181 then
              let v_58 := σ 51 x1
              some (v_58, σ)
              else none
          else
            if 0 ≤ x1 ∧ x1 < 181 then
            let v_42 := σ 52 x1
            (g_b_side v_42 x2 σ).bind fun o_44 =>
            some (o_44.1, o_44.2)
            else none
        else
          some (-1, σ)
set_option maxHeartbeats 4000000 in
theorem g_c_region_ok {xl : Nat} {xs : Nat → Int32} {X1 : Int32} {x1 : Int} (hx1 : X1.toInt = x1) {X2 : Int32} {x2 : Int} (hx2 : X2.toInt = x2) {σ : zS} {p : Nat} {m : zM} {o : Int × zS} (H : zRep xl xs p m σ) (h : g_c_region x1 x2 σ = some o) : zGo xl xs (fun p' => p = p') 4 138 0 (z_can 138 0 (lv_args 0 [.ref 39, .int X1, .int X2])) [] m (vI o.1) o.2 := by
  have hq : z_mth 138 = some z_r138 := rfl
  unfold g_c_region at h
  show zGo xl xs (fun p' => p = p') 4 138 0 [(0, .ref 39), (1, .int X1), (2, .int X2)] [] m (vI o.1) o.2
  refine r_p hq 1 (pc' := 1) (L' := [(0, .ref 39), (1, .int X1), (2, .int X2)]) (st' := [.ref 39]) rfl ?_
  refine r_gR (b := 40) (pc' := 4) (L' := [(0, .ref 39), (1, .int X1), (2, .int X2)]) H hq (z_at.mk 3 rfl rfl) rfl rfl rfl rfl ?_
  refine r_gR (b := 48) (pc' := 7) (L' := [(0, .ref 39), (1, .int X1), (2, .int X2)]) H hq (z_at.mk 3 rfl rfl) rfl rfl rfl rfl ?_
  refine r_p hq 2 (pc' := 9) (L' := [(3, .ref 48), (0, .ref 39), (1, .int X1), (2, .int X2)]) (st' := [.int X1]) rfl ?_
  rcases z_ite h with ⟨c_9, h⟩ | ⟨c_9, h⟩
  · refine r_t1 (pc' := 30) (L' := []) hq (z_at.mk 3 rfl rfl) rfl hx1 c_9 rfl rfl ?_
    refine r_p hq 1 (pc' := 31) (L' := []) (st' := [.int ((-1 : Int32))]) rfl ?_
    cases h
    exact r_ri hq (z_at.mk 1 rfl rfl) rfl rfl (rfl : (-1 : Int32).toInt = -1) rfl H
  · refine r_f1 (pc' := 12) (L' := [(3, .ref 48), (0, .ref 39), (1, .int X1), (2, .int X2)]) hq (z_at.mk 3 rfl rfl) rfl hx1 c_9 rfl rfl ?_
    refine r_p hq 2 (pc' := 14) (L' := [(3, .ref 48), (0, .ref 39), (1, .int X1), (2, .int X2)]) (st' := [.ref 48, .int X1]) rfl ?_
    refine r_gI (pc' := 17) (L' := [(3, .ref 48), (0, .ref 39), (1, .int X1), (2, .int X2)]) H hq (z_at.mk 3 rfl rfl) rfl rfl rfl rfl ?_
    intro V_14 hV_14
    rcases z_ite h with ⟨c_17, h⟩ | ⟨c_17, h⟩
    · refine r_t2 (pc' := 30) (L' := []) hq (z_at.mk 3 rfl rfl) rfl hx1 hV_14 c_17 rfl rfl ?_
      refine r_p hq 1 (pc' := 31) (L' := []) (st' := [.int ((-1 : Int32))]) rfl ?_
      cases h
      exact r_ri hq (z_at.mk 1 rfl rfl) rfl rfl (rfl : (-1 : Int32).toInt = -1) rfl H
    · refine r_f2 (pc' := 20) (L' := [(3, .ref 48), (0, .ref 39), (1, .int X1), (2, .int X2)]) hq (z_at.mk 3 rfl rfl) rfl hx1 hV_14 c_17 rfl rfl ?_
      refine r_p hq 1 (pc' := 21) (L' := [(3, .ref 48), (0, .ref 39), (1, .int X1), (2, .int X2)]) (st' := [.int X2]) rfl ?_
      rcases z_ite h with ⟨c_21, h⟩ | ⟨c_21, h⟩
      · refine r_t1 (pc' := 30) (L' := []) hq (z_at.mk 3 rfl rfl) rfl hx2 c_21 rfl rfl ?_
        refine r_p hq 1 (pc' := 31) (L' := []) (st' := [.int ((-1 : Int32))]) rfl ?_
        cases h
        exact r_ri hq (z_at.mk 1 rfl rfl) rfl rfl (rfl : (-1 : Int32).toInt = -1) rfl H
      · refine r_f1 (pc' := 24) (L' := [(3, .ref 48), (0, .ref 39), (1, .int X1), (2, .int X2)]) hq (z_at.mk 3 rfl rfl) rfl hx2 c_21 rfl rfl ?_
        refine r_p hq 2 (pc' := 27) (L' := [(3, .ref 48), (0, .ref 39), (1, .int X1), (2, .int X2)]) (st' := [.int ((11 : Int32)), .int X2]) rfl ?_
        rcases z_ite h with ⟨c_27, h⟩ | ⟨c_27, h⟩
        · refine r_t2 (pc' := 32) (L' := [(3, .ref 48), (0, .ref 39), (1, .int X1), (2, .int X2)]) hq (z_at.mk 3 rfl rfl) rfl hx2 (rfl : (11 : Int32).toInt = 11) c_27 rfl rfl ?_
          refine r_p hq 2 (pc' := 34) (L' := [(3, .ref 48), (0, .ref 39), (1, .int X1), (2, .int X2)]) (st' := [.int ((4 : Int32)), .int X2]) rfl ?_
          rcases z_ite h with ⟨c_34, h⟩ | ⟨c_34, h⟩
          · refine r_t2 (pc' := 48) (L' := [(3, .ref 48), (0, .ref 39), (1, .int X1), (2, .int X2)]) hq (z_at.mk 3 rfl rfl) rfl hx2 (rfl : (4 : Int32).toInt = 4) c_34 rfl rfl ?_
            refine r_p hq 2 (pc' := 50) (L' := [(3, .ref 48), (0, .ref 39), (1, .int X1), (2, .int X2)]) (st' := [.int ((4 : Int32)), .int X2]) rfl ?_
            rcases z_ite h with ⟨c_50, h⟩ | ⟨c_50, h⟩
            · refine r_t2 (pc' := 60) (L' := [(3, .ref 48), (0, .ref 39), (1, .int X1), (2, .int X2)]) hq (z_at.mk 3 rfl rfl) rfl hx2 (rfl : (4 : Int32).toInt = 4) c_50 rfl rfl ?_
              refine r_p hq 2 (pc' := 62) (L' := [(3, .ref 48), (0, .ref 39), (1, .int X1), (2, .int X2)]) (st' := [.int ((5 : Int32)), .int X2]) rfl ?_
              rcases z_ite h with ⟨c_62, h⟩ | ⟨c_62, h⟩
              · refine r_t2 (pc' := 72) (L' := [(3, .ref 48), (0, .ref 39), (1, .int X1), (2, .int X2)]) hq (z_at.mk 3 rfl rfl) rfl hx2 (rfl : (5 : Int32).toInt = 5) c_62 rfl rfl ?_
                refine r_p hq 2 (pc' := 75) (L' := [(3, .ref 48), (0, .ref 39), (1, .int X1), (2, .int X2)]) (st' := [.int ((10 : Int32)), .int X2]) rfl ?_
                rcases z_ite h with ⟨c_75, h⟩ | ⟨c_75, h⟩
                · refine r_t2 (pc' := 107) (L' := [(3, .ref 48), (0, .ref 39), (1, .int X1), (2, .int X2)]) hq (z_at.mk 3 rfl rfl) rfl hx2 (rfl : (10 : Int32).toInt = 10) c_75 rfl rfl ?_
                  refine r_p hq 2 (pc' := 110) (L' := [(3, .ref 48), (0, .ref 39), (1, .int X1), (2, .int X2)]) (st' := [.int ((10 : Int32)), .int X2]) rfl ?_
                  rcases z_ite h with ⟨c_110, h⟩ | ⟨c_110, h⟩
                  · refine r_t2 (pc' := 126) (L' := [(3, .ref 48), (0, .ref 39), (1, .int X1), (2, .int X2)]) hq (z_at.mk 3 rfl rfl) rfl hx2 (rfl : (10 : Int32).toInt = 10) c_110 rfl rfl ?_
                    refine r_p hq 2 (pc' := 128) (L' := [(3, .ref 48), (0, .ref 39), (1, .int X1), (2, .int X2)]) (st' := [.ref 48, .ref 48]) rfl ?_
                    refine r_gR (b := 52) (pc' := 131) (L' := [(3, .ref 48), (0, .ref 39), (1, .int X1), (2, .int X2)]) H hq (z_at.mk 3 rfl rfl) rfl rfl rfl rfl ?_
                    refine r_p hq 1 (pc' := 132) (L' := [(3, .ref 48), (0, .ref 39), (1, .int X1), (2, .int X2)]) (st' := [.int X1, .ref 52, .ref 48]) rfl ?_
                    obtain ⟨g_132, h⟩ := z_ifo_some h
                    refine r_ia (pc' := 133) (L' := [(3, .ref 48), (0, .ref 39), (1, .int X1), (2, .int X2)]) H hq (z_at.mk 1 rfl rfl) (show zAr 52 0 181 = true from rfl) hx1 g_132 rfl rfl ?_
                    intro V_132 hV_132
                    obtain ⟨o_133, h_133, h⟩ := Option.bind_eq_some_iff.mp h
                    refine r_cvI (pc' := 136) (L' := []) (Ps := [.int V_132]) (rest := []) hq (z_at.mk 3 rfl rfl) (Or.inl ⟨rfl, rfl⟩) rfl rfl (by decide) (by decide) rfl (Nat.not_lt.mpr (Nat.le_of_ble_eq_true rfl)) rfl rfl (z_cat_le 0 rfl (by decide)) (z_lgl_le 2 rfl (by decide)) (by decide) (H.tg rfl) (by omega) (g_ca_costOf_ok rfl hV_132 H h_133) rfl rfl ?_
                    intro R_133 m_133 p_133 e_133 hR_133 H_133
                    subst e_133
                    cases h
                    exact r_ri hq (z_at.mk 1 rfl rfl) rfl rfl hR_133 rfl H_133
                  · refine r_f2 (pc' := 113) (L' := [(3, .ref 48), (0, .ref 39), (1, .int X1), (2, .int X2)]) hq (z_at.mk 3 rfl rfl) rfl hx2 (rfl : (10 : Int32).toInt = 10) c_110 rfl rfl ?_
                    refine r_p hq 2 (pc' := 115) (L' := [(3, .ref 48), (0, .ref 39), (1, .int X1), (2, .int X2)]) (st' := [.ref 48, .ref 48]) rfl ?_
                    refine r_gR (b := 52) (pc' := 118) (L' := [(3, .ref 48), (0, .ref 39), (1, .int X1), (2, .int X2)]) H hq (z_at.mk 3 rfl rfl) rfl rfl rfl rfl ?_
                    refine r_p hq 1 (pc' := 119) (L' := [(3, .ref 48), (0, .ref 39), (1, .int X1), (2, .int X2)]) (st' := [.int X1, .ref 52, .ref 48]) rfl ?_
                    obtain ⟨g_119, h⟩ := z_ifo_some h
                    refine r_ia (pc' := 120) (L' := [(3, .ref 48), (0, .ref 39), (1, .int X1), (2, .int X2)]) H hq (z_at.mk 1 rfl rfl) (show zAr 52 0 181 = true from rfl) hx1 g_119 rfl rfl ?_
                    intro V_119 hV_119
                    obtain ⟨o_120, h_120, h⟩ := Option.bind_eq_some_iff.mp h
                    refine r_cvI (pc' := 123) (L' := [(3, .ref 48), (0, .ref 39), (1, .int X1), (2, .int X2)]) (Ps := [.int V_119]) (rest := []) hq (z_at.mk 3 rfl rfl) (Or.inl ⟨rfl, rfl⟩) rfl rfl (by decide) (by decide) rfl (Nat.not_lt.mpr (Nat.le_of_ble_eq_true rfl)) rfl rfl (z_cat_le 0 rfl (by decide)) (z_lgl_le 2 rfl (by decide)) (by decide) (H.tg rfl) (by omega) (g_ca_sizeOf_ok rfl hV_119 H h_120) rfl rfl ?_
                    intro R_120 m_120 p_120 e_120 hR_120 H_120
                    subst e_120
                    refine r_p hq 1 (pc' := 136) (L' := []) (st' := [.int R_120]) rfl ?_
                    cases h
                    exact r_ri hq (z_at.mk 1 rfl rfl) rfl rfl hR_120 rfl H_120
                · refine r_f2 (pc' := 78) (L' := [(3, .ref 48), (0, .ref 39), (1, .int X1), (2, .int X2)]) hq (z_at.mk 3 rfl rfl) rfl hx2 (rfl : (10 : Int32).toInt = 10) c_75 rfl rfl ?_
                  refine r_p hq 1 (pc' := 79) (L' := [(3, .ref 48), (0, .ref 39), (1, .int X1), (2, .int X2)]) (st' := [.ref 48]) rfl ?_
                  refine r_gR (b := 54) (pc' := 82) (L' := [(3, .ref 48), (0, .ref 39), (1, .int X1), (2, .int X2)]) H hq (z_at.mk 3 rfl rfl) rfl rfl rfl rfl ?_
                  refine r_p hq 1 (pc' := 83) (L' := [(3, .ref 48), (0, .ref 39), (1, .int X1), (2, .int X2)]) (st' := [.int X1, .ref 54]) rfl ?_
                  obtain ⟨g_83, h⟩ := z_ifo_some h
                  refine r_ia (pc' := 84) (L' := [(3, .ref 48), (0, .ref 39), (1, .int X1), (2, .int X2)]) H hq (z_at.mk 1 rfl rfl) (show zAr 54 0 181 = true from rfl) hx1 g_83 rfl rfl ?_
                  intro V_83 hV_83
                  refine r_p hq 1 (pc' := 85) (L' := [(3, .ref 48), (0, .ref 39), (1, .int X1), (2, .int X2)]) (st' := [.int ((-1 : Int32)), .int V_83]) rfl ?_
                  rcases z_ite h with ⟨c_85, h⟩ | ⟨c_85, h⟩
                  · refine r_t2 (pc' := 93) (L' := [(3, .ref 48), (0, .ref 39), (1, .int X1), (2, .int X2)]) hq (z_at.mk 3 rfl rfl) rfl hV_83 (rfl : (-1 : Int32).toInt = -1) c_85 rfl rfl ?_
                    refine r_p hq 1 (pc' := 94) (L' := [(3, .ref 48), (0, .ref 39), (1, .int X1), (2, .int X2)]) (st' := [.ref 48]) rfl ?_
                    refine r_gR (b := 54) (pc' := 97) (L' := [(3, .ref 48), (0, .ref 39), (1, .int X1), (2, .int X2)]) H hq (z_at.mk 3 rfl rfl) rfl rfl rfl rfl ?_
                    refine r_p hq 1 (pc' := 98) (L' := [(3, .ref 48), (0, .ref 39), (1, .int X1), (2, .int X2)]) (st' := [.int X1, .ref 54]) rfl ?_
                    obtain ⟨g_98, h⟩ := z_ifo_some h
                    refine r_ia (pc' := 99) (L' := [(3, .ref 48), (0, .ref 39), (1, .int X1), (2, .int X2)]) H hq (z_at.mk 1 rfl rfl) (show zAr 54 0 181 = true from rfl) hx1 g_98 rfl rfl ?_
                    intro V_98 hV_98
                    refine r_p hq 3 (pc' := 103) (L' := [(3, .ref 48), (0, .ref 39), (1, .int X1), (2, .int X2)]) (st' := [.int (X2 - ((6 : Int32))), .int V_98]) rfl ?_
                    obtain ⟨o_103, h_103, h⟩ := Option.bind_eq_some_iff.mp h
                    refine r_csI (pc' := 106) (L' := []) (As := [.int V_98, .int (X2 - ((6 : Int32)))]) (rest := []) (j := 3) hq (z_at.mk 3 rfl rfl) (Or.inl ⟨rfl, rfl⟩) rfl rfl (by omega) (g_b_side_ok hV_98 (tx_isub hx2 (rfl : (6 : Int32).toInt = 6)) H h_103) rfl rfl ?_
                    intro R_103 m_103 p_103 e_103 hR_103 H_103
                    subst e_103
                    cases h
                    exact r_ri hq (z_at.mk 1 rfl rfl) rfl rfl hR_103 rfl H_103
                  · refine r_f2 (pc' := 88) (L' := [(3, .ref 48), (0, .ref 39), (1, .int X1), (2, .int X2)]) hq (z_at.mk 3 rfl rfl) rfl hV_83 (rfl : (-1 : Int32).toInt = -1) c_85 rfl rfl ?_
                    refine r_p hq 2 (pc' := 106) (L' := []) (st' := [.int ((-5 : Int32))]) rfl ?_
                    cases h
                    exact r_ri hq (z_at.mk 1 rfl rfl) rfl rfl (rfl : (-5 : Int32).toInt = -5) rfl H
              · refine r_f2 (pc' := 65) (L' := [(3, .ref 48), (0, .ref 39), (1, .int X1), (2, .int X2)]) hq (z_at.mk 3 rfl rfl) rfl hx2 (rfl : (5 : Int32).toInt = 5) c_62 rfl rfl ?_
                refine r_p hq 1 (pc' := 66) (L' := [(3, .ref 48), (0, .ref 39), (1, .int X1), (2, .int X2)]) (st' := [.ref 48]) rfl ?_
                refine r_gR (b := 53) (pc' := 69) (L' := [(3, .ref 48), (0, .ref 39), (1, .int X1), (2, .int X2)]) H hq (z_at.mk 3 rfl rfl) rfl rfl rfl rfl ?_
                refine r_p hq 1 (pc' := 70) (L' := [(3, .ref 48), (0, .ref 39), (1, .int X1), (2, .int X2)]) (st' := [.int X1, .ref 53]) rfl ?_
                obtain ⟨g_70, h⟩ := z_ifo_some h
                refine r_ia (pc' := 71) (L' := [(3, .ref 48), (0, .ref 39), (1, .int X1), (2, .int X2)]) H hq (z_at.mk 1 rfl rfl) (show zAr 53 0 181 = true from rfl) hx1 g_70 rfl rfl ?_
                intro V_70 hV_70
                cases h
                exact r_ri hq (z_at.mk 1 rfl rfl) rfl rfl hV_70 rfl H
            · refine r_f2 (pc' := 53) (L' := [(3, .ref 48), (0, .ref 39), (1, .int X1), (2, .int X2)]) hq (z_at.mk 3 rfl rfl) rfl hx2 (rfl : (4 : Int32).toInt = 4) c_50 rfl rfl ?_
              refine r_p hq 1 (pc' := 54) (L' := [(3, .ref 48), (0, .ref 39), (1, .int X1), (2, .int X2)]) (st' := [.ref 48]) rfl ?_
              refine r_gR (b := 51) (pc' := 57) (L' := [(3, .ref 48), (0, .ref 39), (1, .int X1), (2, .int X2)]) H hq (z_at.mk 3 rfl rfl) rfl rfl rfl rfl ?_
              refine r_p hq 1 (pc' := 58) (L' := [(3, .ref 48), (0, .ref 39), (1, .int X1), (2, .int X2)]) (st' := [.int X1, .ref 51]) rfl ?_
              obtain ⟨g_58, h⟩ := z_ifo_some h
              refine r_ia (pc' := 59) (L' := [(3, .ref 48), (0, .ref 39), (1, .int X1), (2, .int X2)]) H hq (z_at.mk 1 rfl rfl) (show zAr 51 0 181 = true from rfl) hx1 g_58 rfl rfl ?_
              intro V_58 hV_58
              cases h
              exact r_ri hq (z_at.mk 1 rfl rfl) rfl rfl hV_58 rfl H
          · refine r_f2 (pc' := 37) (L' := [(3, .ref 48), (0, .ref 39), (1, .int X1), (2, .int X2)]) hq (z_at.mk 3 rfl rfl) rfl hx2 (rfl : (4 : Int32).toInt = 4) c_34 rfl rfl ?_
            refine r_p hq 1 (pc' := 38) (L' := [(3, .ref 48), (0, .ref 39), (1, .int X1), (2, .int X2)]) (st' := [.ref 48]) rfl ?_
            refine r_gR (b := 52) (pc' := 41) (L' := [(3, .ref 48), (0, .ref 39), (1, .int X1), (2, .int X2)]) H hq (z_at.mk 3 rfl rfl) rfl rfl rfl rfl ?_
            refine r_p hq 1 (pc' := 42) (L' := [(3, .ref 48), (0, .ref 39), (1, .int X1), (2, .int X2)]) (st' := [.int X1, .ref 52]) rfl ?_
            obtain ⟨g_42, h⟩ := z_ifo_some h
            refine r_ia (pc' := 43) (L' := [(3, .ref 48), (0, .ref 39), (1, .int X1), (2, .int X2)]) H hq (z_at.mk 1 rfl rfl) (show zAr 52 0 181 = true from rfl) hx1 g_42 rfl rfl ?_
            intro V_42 hV_42
            refine r_p hq 1 (pc' := 44) (L' := [(3, .ref 48), (0, .ref 39), (1, .int X1), (2, .int X2)]) (st' := [.int X2, .int V_42]) rfl ?_
            obtain ⟨o_44, h_44, h⟩ := Option.bind_eq_some_iff.mp h
            refine r_csI (pc' := 47) (L' := [(3, .ref 48), (0, .ref 39), (1, .int X1), (2, .int X2)]) (As := [.int V_42, .int X2]) (rest := []) (j := 3) hq (z_at.mk 3 rfl rfl) (Or.inl ⟨rfl, rfl⟩) rfl rfl (by omega) (g_b_side_ok hV_42 hx2 H h_44) rfl rfl ?_
            intro R_44 m_44 p_44 e_44 hR_44 H_44
            subst e_44
            cases h
            exact r_ri hq (z_at.mk 1 rfl rfl) rfl rfl hR_44 rfl H_44
        · refine r_f2 (pc' := 30) (L' := []) hq (z_at.mk 3 rfl rfl) rfl hx2 (rfl : (11 : Int32).toInt = 11) c_27 rfl rfl ?_
          refine r_p hq 1 (pc' := 31) (L' := []) (st' := [.int ((-1 : Int32))]) rfl ?_
          cases h
          exact r_ri hq (z_at.mk 1 rfl rfl) rfl rfl (rfl : (-1 : Int32).toInt = -1) rfl H
def g_c_weight (x1 : Int) (σ : zS) : Option (Int × zS) :=
  if x1 < 0 then
    some (-9223372036854775808, σ)
  else
    let v_12 := σ 48 2
    if v_12 ≤ x1 then
      some (-9223372036854775808, σ)
    else
      if 0 ≤ x1 ∧ x1 < 181 then
      let v_29 := σ 55 x1
      some (v_29, σ)
      else none
set_option maxHeartbeats 4000000 in
theorem g_c_weight_ok {xl : Nat} {xs : Nat → Int32} {X1 : Int32} {x1 : Int} (hx1 : X1.toInt = x1) {σ : zS} {p : Nat} {m : zM} {o : Int × zS} (H : zRep xl xs p m σ) (h : g_c_weight x1 σ = some o) : zGo xl xs (fun p' => p = p') 1 139 0 (z_can 139 0 (lv_args 0 [.ref 39, .int X1])) [] m (vL o.1) o.2 := by
  have hq : z_mth 139 = some z_r139 := rfl
  unfold g_c_weight at h
  show zGo xl xs (fun p' => p = p') 1 139 0 [(0, .ref 39), (1, .int X1)] [] m (vL o.1) o.2
  refine r_p hq 1 (pc' := 1) (L' := [(0, .ref 39), (1, .int X1)]) (st' := [.int X1]) rfl ?_
  rcases z_ite h with ⟨c_1, h⟩ | ⟨c_1, h⟩
  · refine r_t1 (pc' := 33) (L' := []) hq (z_at.mk 3 rfl rfl) rfl hx1 c_1 rfl rfl ?_
    refine r_p hq 1 (pc' := 36) (L' := []) (st' := [.long ((-9223372036854775808 : Int64))]) rfl ?_
    cases h
    exact r_rl hq (z_at.mk 1 rfl rfl) rfl (rfl : (-9223372036854775808 : Int64).toInt = -9223372036854775808) rfl H
  · refine r_f1 (pc' := 4) (L' := [(0, .ref 39), (1, .int X1)]) hq (z_at.mk 3 rfl rfl) rfl hx1 c_1 rfl rfl ?_
    refine r_p hq 2 (pc' := 6) (L' := [(0, .ref 39), (1, .int X1)]) (st' := [.ref 39, .int X1]) rfl ?_
    refine r_gR (b := 40) (pc' := 9) (L' := [(0, .ref 39), (1, .int X1)]) H hq (z_at.mk 3 rfl rfl) rfl rfl rfl rfl ?_
    refine r_gR (b := 48) (pc' := 12) (L' := [(0, .ref 39), (1, .int X1)]) H hq (z_at.mk 3 rfl rfl) rfl rfl rfl rfl ?_
    refine r_gI (pc' := 15) (L' := [(0, .ref 39), (1, .int X1)]) H hq (z_at.mk 3 rfl rfl) rfl rfl rfl rfl ?_
    intro V_12 hV_12
    rcases z_ite h with ⟨c_15, h⟩ | ⟨c_15, h⟩
    · refine r_t2 (pc' := 33) (L' := []) hq (z_at.mk 3 rfl rfl) rfl hx1 hV_12 c_15 rfl rfl ?_
      refine r_p hq 1 (pc' := 36) (L' := []) (st' := [.long ((-9223372036854775808 : Int64))]) rfl ?_
      cases h
      exact r_rl hq (z_at.mk 1 rfl rfl) rfl (rfl : (-9223372036854775808 : Int64).toInt = -9223372036854775808) rfl H
    · refine r_f2 (pc' := 18) (L' := [(0, .ref 39), (1, .int X1)]) hq (z_at.mk 3 rfl rfl) rfl hx1 hV_12 c_15 rfl rfl ?_
      refine r_p hq 1 (pc' := 19) (L' := [(0, .ref 39), (1, .int X1)]) (st' := [.ref 39]) rfl ?_
      refine r_gR (b := 40) (pc' := 22) (L' := [(0, .ref 39), (1, .int X1)]) H hq (z_at.mk 3 rfl rfl) rfl rfl rfl rfl ?_
      refine r_gR (b := 48) (pc' := 25) (L' := [(0, .ref 39), (1, .int X1)]) H hq (z_at.mk 3 rfl rfl) rfl rfl rfl rfl ?_
      refine r_gR (b := 55) (pc' := 28) (L' := [(0, .ref 39), (1, .int X1)]) H hq (z_at.mk 3 rfl rfl) rfl rfl rfl rfl ?_
      refine r_p hq 1 (pc' := 29) (L' := [(0, .ref 39), (1, .int X1)]) (st' := [.int X1, .ref 55]) rfl ?_
      obtain ⟨g_29, h⟩ := z_ifo_some h
      refine r_la (pc' := 30) (L' := [(0, .ref 39), (1, .int X1)]) H hq (z_at.mk 1 rfl rfl) (show zAr 55 1 181 = true from rfl) hx1 g_29 rfl rfl ?_
      intro V_29 hV_29
      refine r_p hq 1 (pc' := 36) (L' := []) (st' := [.long V_29]) rfl ?_
      cases h
      exact r_rl hq (z_at.mk 1 rfl rfl) rfl hV_29 rfl H
def g_c_told (x1 : Int) (σ : zS) : Option (Int × zS) :=
  if x1 = 0 then
    let v_67 := σ 48 2
    some (v_67, σ)
  else
  if x1 = 1 then
    (g_ca_sizes 48 σ).bind fun o_79 =>
    some (o_79.1, o_79.2)
  else
  if x1 = 2 then
    let v_91 := σ 48 10
    some (v_91, σ)
  else
  if x1 = 3 then
    let v_103 := σ 48 11
    some (v_103, σ)
  else
  if x1 = 4 then
    let v_115 := σ 48 12
    some (v_115, σ)
  else
  if x1 = 5 then
    let v_127 := σ 48 13
    some (v_127, σ)
  else
  if x1 = 6 then
    let v_139 := σ 48 14
    some (v_139, σ)
  else
  if x1 = 7 then
    let v_151 := σ 48 15
    some (v_151, σ)
  else
  if x1 = 8 then
    let v_163 := σ 48 9
    some (v_163, σ)
  else
  if x1 = 9 then
    let v_174 := σ 41 4
    some (v_174, σ)
  else
  if x1 = 10 then
    (g_jStringBuilder_length σ).bind fun o_183 =>
    some (o_183.1, o_183.2)
  else
  some (-9223372036854775808, σ)
set_option maxHeartbeats 4000000 in
theorem g_c_told_ok {xl : Nat} {xs : Nat → Int32} {X1 : Int32} {x1 : Int} (hx1 : X1.toInt = x1) {σ : zS} {p : Nat} {m : zM} {o : Int × zS} (H : zRep xl xs p m σ) (h : g_c_told x1 σ = some o) : zGo xl xs (fun p' => p = p') 4 140 0 (z_can 140 0 (lv_args 0 [.ref 39, .int X1])) [] m (vL o.1) o.2 := by
  have hq : z_mth 140 = some z_r140 := rfl
  unfold g_c_told at h
  show zGo xl xs (fun p' => p = p') 4 140 0 [(0, .ref 39), (1, .int X1)] [] m (vL o.1) o.2
  refine r_p hq 1 (pc' := 1) (L' := [(0, .ref 39), (1, .int X1)]) (st' := [.int X1]) rfl ?_
  rcases z_ite h with ⟨c_1_0, h⟩ | ⟨c_1_0, h⟩
  · refine r_sw (off := 59) (pc' := 60) (L' := [(0, .ref 39), (1, .int X1)]) hq (z_at.mk 59 rfl rfl) (z_off_v (hx1.trans c_1_0) rfl) rfl rfl rfl ?_
    refine r_p hq 1 (pc' := 61) (L' := [(0, .ref 39), (1, .int X1)]) (st' := [.ref 39]) rfl ?_
    refine r_gR (b := 40) (pc' := 64) (L' := [(0, .ref 39), (1, .int X1)]) H hq (z_at.mk 3 rfl rfl) rfl rfl rfl rfl ?_
    refine r_gR (b := 48) (pc' := 67) (L' := [(0, .ref 39), (1, .int X1)]) H hq (z_at.mk 3 rfl rfl) rfl rfl rfl rfl ?_
    refine r_gI (pc' := 70) (L' := [(0, .ref 39), (1, .int X1)]) H hq (z_at.mk 3 rfl rfl) rfl rfl rfl rfl ?_
    intro V_67 hV_67
    refine r_p hq 1 (pc' := 71) (L' := [(0, .ref 39), (1, .int X1)]) (st' := [.long V_67.toInt64]) rfl ?_
    cases h
    exact r_rl hq (z_at.mk 1 rfl rfl) rfl (tx_i2l hV_67) rfl H
  rcases z_ite h with ⟨c_1_1, h⟩ | ⟨c_1_1, h⟩
  · refine r_sw (off := 71) (pc' := 72) (L' := [(0, .ref 39), (1, .int X1)]) hq (z_at.mk 59 rfl rfl) (z_off_v (hx1.trans c_1_1) rfl) rfl rfl rfl ?_
    refine r_p hq 1 (pc' := 73) (L' := [(0, .ref 39), (1, .int X1)]) (st' := [.ref 39]) rfl ?_
    refine r_gR (b := 40) (pc' := 76) (L' := [(0, .ref 39), (1, .int X1)]) H hq (z_at.mk 3 rfl rfl) rfl rfl rfl rfl ?_
    refine r_gR (b := 48) (pc' := 79) (L' := [(0, .ref 39), (1, .int X1)]) H hq (z_at.mk 3 rfl rfl) rfl rfl rfl rfl ?_
    obtain ⟨o_79, h_79, h⟩ := Option.bind_eq_some_iff.mp h
    refine r_cvI (pc' := 82) (L' := [(0, .ref 39), (1, .int X1)]) (Ps := []) (rest := []) hq (z_at.mk 3 rfl rfl) (Or.inl ⟨rfl, rfl⟩) rfl rfl (by decide) (by decide) rfl (Nat.not_lt.mpr (Nat.le_of_ble_eq_true rfl)) rfl rfl (z_cat_le 0 rfl (by decide)) (z_lgl_le 1 rfl (by decide)) (by decide) (H.tg rfl) (by omega) (g_ca_sizes_ok rfl H h_79) rfl rfl ?_
    intro R_79 m_79 p_79 e_79 hR_79 H_79
    subst e_79
    refine r_p hq 1 (pc' := 83) (L' := [(0, .ref 39), (1, .int X1)]) (st' := [.long R_79.toInt64]) rfl ?_
    cases h
    exact r_rl hq (z_at.mk 1 rfl rfl) rfl (tx_i2l hR_79) rfl H_79
  rcases z_ite h with ⟨c_1_2, h⟩ | ⟨c_1_2, h⟩
  · refine r_sw (off := 83) (pc' := 84) (L' := [(0, .ref 39), (1, .int X1)]) hq (z_at.mk 59 rfl rfl) (z_off_v (hx1.trans c_1_2) rfl) rfl rfl rfl ?_
    refine r_p hq 1 (pc' := 85) (L' := [(0, .ref 39), (1, .int X1)]) (st' := [.ref 39]) rfl ?_
    refine r_gR (b := 40) (pc' := 88) (L' := [(0, .ref 39), (1, .int X1)]) H hq (z_at.mk 3 rfl rfl) rfl rfl rfl rfl ?_
    refine r_gR (b := 48) (pc' := 91) (L' := [(0, .ref 39), (1, .int X1)]) H hq (z_at.mk 3 rfl rfl) rfl rfl rfl rfl ?_
    refine r_gI (pc' := 94) (L' := [(0, .ref 39), (1, .int X1)]) H hq (z_at.mk 3 rfl rfl) rfl rfl rfl rfl ?_
    intro V_91 hV_91
    refine r_p hq 1 (pc' := 95) (L' := [(0, .ref 39), (1, .int X1)]) (st' := [.long V_91.toInt64]) rfl ?_
    cases h
    exact r_rl hq (z_at.mk 1 rfl rfl) rfl (tx_i2l hV_91) rfl H
  rcases z_ite h with ⟨c_1_3, h⟩ | ⟨c_1_3, h⟩
  · refine r_sw (off := 95) (pc' := 96) (L' := [(0, .ref 39), (1, .int X1)]) hq (z_at.mk 59 rfl rfl) (z_off_v (hx1.trans c_1_3) rfl) rfl rfl rfl ?_
    refine r_p hq 1 (pc' := 97) (L' := [(0, .ref 39), (1, .int X1)]) (st' := [.ref 39]) rfl ?_
    refine r_gR (b := 40) (pc' := 100) (L' := [(0, .ref 39), (1, .int X1)]) H hq (z_at.mk 3 rfl rfl) rfl rfl rfl rfl ?_
    refine r_gR (b := 48) (pc' := 103) (L' := [(0, .ref 39), (1, .int X1)]) H hq (z_at.mk 3 rfl rfl) rfl rfl rfl rfl ?_
    refine r_gI (pc' := 106) (L' := [(0, .ref 39), (1, .int X1)]) H hq (z_at.mk 3 rfl rfl) rfl rfl rfl rfl ?_
    intro V_103 hV_103
    refine r_p hq 1 (pc' := 107) (L' := [(0, .ref 39), (1, .int X1)]) (st' := [.long V_103.toInt64]) rfl ?_
    cases h
    exact r_rl hq (z_at.mk 1 rfl rfl) rfl (tx_i2l hV_103) rfl H
  rcases z_ite h with ⟨c_1_4, h⟩ | ⟨c_1_4, h⟩
  · refine r_sw (off := 107) (pc' := 108) (L' := [(0, .ref 39), (1, .int X1)]) hq (z_at.mk 59 rfl rfl) (z_off_v (hx1.trans c_1_4) rfl) rfl rfl rfl ?_
    refine r_p hq 1 (pc' := 109) (L' := [(0, .ref 39), (1, .int X1)]) (st' := [.ref 39]) rfl ?_
    refine r_gR (b := 40) (pc' := 112) (L' := [(0, .ref 39), (1, .int X1)]) H hq (z_at.mk 3 rfl rfl) rfl rfl rfl rfl ?_
    refine r_gR (b := 48) (pc' := 115) (L' := [(0, .ref 39), (1, .int X1)]) H hq (z_at.mk 3 rfl rfl) rfl rfl rfl rfl ?_
    refine r_gI (pc' := 118) (L' := [(0, .ref 39), (1, .int X1)]) H hq (z_at.mk 3 rfl rfl) rfl rfl rfl rfl ?_
    intro V_115 hV_115
    refine r_p hq 1 (pc' := 119) (L' := [(0, .ref 39), (1, .int X1)]) (st' := [.long V_115.toInt64]) rfl ?_
    cases h
    exact r_rl hq (z_at.mk 1 rfl rfl) rfl (tx_i2l hV_115) rfl H
  rcases z_ite h with ⟨c_1_5, h⟩ | ⟨c_1_5, h⟩
  · refine r_sw (off := 119) (pc' := 120) (L' := [(0, .ref 39), (1, .int X1)]) hq (z_at.mk 59 rfl rfl) (z_off_v (hx1.trans c_1_5) rfl) rfl rfl rfl ?_
    refine r_p hq 1 (pc' := 121) (L' := [(0, .ref 39), (1, .int X1)]) (st' := [.ref 39]) rfl ?_
    refine r_gR (b := 40) (pc' := 124) (L' := [(0, .ref 39), (1, .int X1)]) H hq (z_at.mk 3 rfl rfl) rfl rfl rfl rfl ?_
    refine r_gR (b := 48) (pc' := 127) (L' := [(0, .ref 39), (1, .int X1)]) H hq (z_at.mk 3 rfl rfl) rfl rfl rfl rfl ?_
    refine r_gI (pc' := 130) (L' := [(0, .ref 39), (1, .int X1)]) H hq (z_at.mk 3 rfl rfl) rfl rfl rfl rfl ?_
    intro V_127 hV_127
    refine r_p hq 1 (pc' := 131) (L' := [(0, .ref 39), (1, .int X1)]) (st' := [.long V_127.toInt64]) rfl ?_
    cases h
    exact r_rl hq (z_at.mk 1 rfl rfl) rfl (tx_i2l hV_127) rfl H
  rcases z_ite h with ⟨c_1_6, h⟩ | ⟨c_1_6, h⟩
  · refine r_sw (off := 131) (pc' := 132) (L' := [(0, .ref 39), (1, .int X1)]) hq (z_at.mk 59 rfl rfl) (z_off_v (hx1.trans c_1_6) rfl) rfl rfl rfl ?_
    refine r_p hq 1 (pc' := 133) (L' := [(0, .ref 39), (1, .int X1)]) (st' := [.ref 39]) rfl ?_
    refine r_gR (b := 40) (pc' := 136) (L' := [(0, .ref 39), (1, .int X1)]) H hq (z_at.mk 3 rfl rfl) rfl rfl rfl rfl ?_
    refine r_gR (b := 48) (pc' := 139) (L' := [(0, .ref 39), (1, .int X1)]) H hq (z_at.mk 3 rfl rfl) rfl rfl rfl rfl ?_
    refine r_gI (pc' := 142) (L' := [(0, .ref 39), (1, .int X1)]) H hq (z_at.mk 3 rfl rfl) rfl rfl rfl rfl ?_
    intro V_139 hV_139
    refine r_p hq 1 (pc' := 143) (L' := [(0, .ref 39), (1, .int X1)]) (st' := [.long V_139.toInt64]) rfl ?_
    cases h
    exact r_rl hq (z_at.mk 1 rfl rfl) rfl (tx_i2l hV_139) rfl H
  rcases z_ite h with ⟨c_1_7, h⟩ | ⟨c_1_7, h⟩
  · refine r_sw (off := 143) (pc' := 144) (L' := [(0, .ref 39), (1, .int X1)]) hq (z_at.mk 59 rfl rfl) (z_off_v (hx1.trans c_1_7) rfl) rfl rfl rfl ?_
    refine r_p hq 1 (pc' := 145) (L' := [(0, .ref 39), (1, .int X1)]) (st' := [.ref 39]) rfl ?_
    refine r_gR (b := 40) (pc' := 148) (L' := [(0, .ref 39), (1, .int X1)]) H hq (z_at.mk 3 rfl rfl) rfl rfl rfl rfl ?_
    refine r_gR (b := 48) (pc' := 151) (L' := [(0, .ref 39), (1, .int X1)]) H hq (z_at.mk 3 rfl rfl) rfl rfl rfl rfl ?_
    refine r_gI (pc' := 154) (L' := [(0, .ref 39), (1, .int X1)]) H hq (z_at.mk 3 rfl rfl) rfl rfl rfl rfl ?_
    intro V_151 hV_151
    refine r_p hq 1 (pc' := 155) (L' := [(0, .ref 39), (1, .int X1)]) (st' := [.long V_151.toInt64]) rfl ?_
    cases h
    exact r_rl hq (z_at.mk 1 rfl rfl) rfl (tx_i2l hV_151) rfl H
  rcases z_ite h with ⟨c_1_8, h⟩ | ⟨c_1_8, h⟩
  · refine r_sw (off := 155) (pc' := 156) (L' := [(0, .ref 39), (1, .int X1)]) hq (z_at.mk 59 rfl rfl) (z_off_v (hx1.trans c_1_8) rfl) rfl rfl rfl ?_
    refine r_p hq 1 (pc' := 157) (L' := [(0, .ref 39), (1, .int X1)]) (st' := [.ref 39]) rfl ?_
    refine r_gR (b := 40) (pc' := 160) (L' := [(0, .ref 39), (1, .int X1)]) H hq (z_at.mk 3 rfl rfl) rfl rfl rfl rfl ?_
    refine r_gR (b := 48) (pc' := 163) (L' := [(0, .ref 39), (1, .int X1)]) H hq (z_at.mk 3 rfl rfl) rfl rfl rfl rfl ?_
    refine r_gL (pc' := 166) (L' := [(0, .ref 39), (1, .int X1)]) H hq (z_at.mk 3 rfl rfl) rfl rfl rfl rfl ?_
    intro V_163 hV_163
    cases h
    exact r_rl hq (z_at.mk 1 rfl rfl) rfl hV_163 rfl H
  rcases z_ite h with ⟨c_1_9, h⟩ | ⟨c_1_9, h⟩
  · refine r_sw (off := 166) (pc' := 167) (L' := [(0, .ref 39), (1, .int X1)]) hq (z_at.mk 59 rfl rfl) (z_off_v (hx1.trans c_1_9) rfl) rfl rfl rfl ?_
    refine r_p hq 1 (pc' := 168) (L' := [(0, .ref 39), (1, .int X1)]) (st' := [.ref 39]) rfl ?_
    refine r_gR (b := 40) (pc' := 171) (L' := [(0, .ref 39), (1, .int X1)]) H hq (z_at.mk 3 rfl rfl) rfl rfl rfl rfl ?_
    refine r_gR (b := 41) (pc' := 174) (L' := [(0, .ref 39), (1, .int X1)]) H hq (z_at.mk 3 rfl rfl) rfl rfl rfl rfl ?_
    refine r_gI (pc' := 177) (L' := [(0, .ref 39), (1, .int X1)]) H hq (z_at.mk 3 rfl rfl) rfl rfl rfl rfl ?_
    intro V_174 hV_174
    refine r_p hq 1 (pc' := 178) (L' := [(0, .ref 39), (1, .int X1)]) (st' := [.long V_174.toInt64]) rfl ?_
    cases h
    exact r_rl hq (z_at.mk 1 rfl rfl) rfl (tx_i2l hV_174) rfl H
  rcases z_ite h with ⟨c_1_10, h⟩ | ⟨c_1_10, h⟩
  · refine r_sw (off := 178) (pc' := 179) (L' := [(0, .ref 39), (1, .int X1)]) hq (z_at.mk 59 rfl rfl) (z_off_v (hx1.trans c_1_10) rfl) rfl rfl rfl ?_
    refine r_p hq 1 (pc' := 180) (L' := [(0, .ref 39), (1, .int X1)]) (st' := [.ref 39]) rfl ?_
    refine r_gR (b := 129) (pc' := 183) (L' := [(0, .ref 39), (1, .int X1)]) H hq (z_at.mk 3 rfl rfl) rfl rfl rfl rfl ?_
    obtain ⟨o_183, h_183, h⟩ := Option.bind_eq_some_iff.mp h
    refine r_cvI (pc' := 186) (L' := [(0, .ref 39), (1, .int X1)]) (Ps := []) (rest := []) hq (z_at.mk 3 rfl rfl) (Or.inl ⟨rfl, rfl⟩) rfl rfl (by decide) (by decide) rfl (Nat.not_lt.mpr (Nat.le_of_ble_eq_true rfl)) rfl rfl (z_cat_le 0 rfl (by decide)) (z_lgl_le 1 rfl (by decide)) (by decide) (H.tg rfl) (by omega) (g_jStringBuilder_length_ok H h_183) rfl rfl ?_
    intro R_183 m_183 p_183 e_183 hR_183 H_183
    subst e_183
    refine r_p hq 1 (pc' := 187) (L' := [(0, .ref 39), (1, .int X1)]) (st' := [.long R_183.toInt64]) rfl ?_
    cases h
    exact r_rl hq (z_at.mk 1 rfl rfl) rfl (tx_i2l hR_183) rfl H_183
  have hx_1 : X1.toInt = x1 := hx1
  refine r_sw (off := 187) (pc' := 188) (L' := [(0, .ref 39), (1, .int X1)]) hq (z_at.mk 59 rfl rfl) (z_off_out (by omega)) rfl rfl rfl ?_
  refine r_p hq 1 (pc' := 191) (L' := [(0, .ref 39), (1, .int X1)]) (st' := [.long ((-9223372036854775808 : Int64))]) rfl ?_
  cases h
  exact r_rl hq (z_at.mk 1 rfl rfl) rfl (rfl : (-9223372036854775808 : Int64).toInt = -9223372036854775808) rfl H
def g_c_flush (σ : zS) : Option (Int × zS) :=
  let v_7 := σ 48 2
  let s_19 := zu σ 48 2 0
  some (v_7, s_19)
set_option maxHeartbeats 4000000 in
theorem g_c_flush_ok {xl : Nat} {xs : Nat → Int32} {σ : zS} {p : Nat} {m : zM} {o : Int × zS} (H : zRep xl xs p m σ) (h : g_c_flush σ = some o) : zGo xl xs (fun p' => p = p') 1 141 0 (z_can 141 0 (lv_args 0 [.ref 39])) [] m (vI o.1) o.2 := by
  have hq : z_mth 141 = some z_r141 := rfl
  unfold g_c_flush at h
  show zGo xl xs (fun p' => p = p') 1 141 0 [(0, .ref 39)] [] m (vI o.1) o.2
  refine r_p hq 1 (pc' := 1) (L' := [(0, .ref 39)]) (st' := [.ref 39]) rfl ?_
  refine r_gR (b := 40) (pc' := 4) (L' := [(0, .ref 39)]) H hq (z_at.mk 3 rfl rfl) rfl rfl rfl rfl ?_
  refine r_gR (b := 48) (pc' := 7) (L' := [(0, .ref 39)]) H hq (z_at.mk 3 rfl rfl) rfl rfl rfl rfl ?_
  refine r_gI (pc' := 10) (L' := [(0, .ref 39)]) H hq (z_at.mk 3 rfl rfl) rfl rfl rfl rfl ?_
  intro V_7 hV_7
  refine r_p hq 2 (pc' := 12) (L' := [(1, .int V_7), (0, .ref 39)]) (st' := [.ref 39]) rfl ?_
  refine r_gR (b := 40) (pc' := 15) (L' := [(1, .int V_7), (0, .ref 39)]) H hq (z_at.mk 3 rfl rfl) rfl rfl rfl rfl ?_
  refine r_gR (b := 48) (pc' := 18) (L' := [(1, .int V_7), (0, .ref 39)]) H hq (z_at.mk 3 rfl rfl) rfl rfl rfl rfl ?_
  refine r_p hq 1 (pc' := 19) (L' := [(1, .int V_7), (0, .ref 39)]) (st' := [.int ((0 : Int32)), .ref 48]) rfl ?_
  refine r_pI (X := (0 : Int32)) (pc' := 22) (L' := [(1, .int V_7), (0, .ref 39)]) H hq (z_at.mk 3 rfl rfl) rfl rfl (rfl : (0 : Int32).toInt = 0) (by decide) rfl rfl rfl rfl ?_
  intro m_19 H_19
  refine r_p hq 1 (pc' := 23) (L' := [(1, .int V_7), (0, .ref 39)]) (st' := [.int V_7]) rfl ?_
  cases h
  exact r_ri hq (z_at.mk 1 rfl rfl) rfl rfl hV_7 rfl H_19
def g_c_keep (x1 : Int) (σ : zS) : Option (Int × zS) :=
  if 0 ≤ x1 then
    (g_ca_bestSet 48 x1 σ).bind fun o_17 =>
    some (o_17.1, o_17.2)
  else
    some (-2, σ)
set_option maxHeartbeats 4000000 in
theorem g_c_keep_ok {xl : Nat} {xs : Nat → Int32} {X1 : Int32} {x1 : Int} (hx1 : X1.toInt = x1) {σ : zS} {p : Nat} {m : zM} {o : Int × zS} (H : zRep xl xs p m σ) (h : g_c_keep x1 σ = some o) : zGo xl xs (fun p' => p = p') 4 142 0 (z_can 142 0 (lv_args 0 [.ref 39, .int X1])) [] m (vI o.1) o.2 := by
  have hq : z_mth 142 = some z_r142 := rfl
  unfold g_c_keep at h
  show zGo xl xs (fun p' => p = p') 4 142 0 [(0, .ref 39), (1, .int X1)] [] m (vI o.1) o.2
  refine r_p hq 1 (pc' := 1) (L' := [(0, .ref 39), (1, .int X1)]) (st' := [.int X1]) rfl ?_
  rcases z_ite h with ⟨c_1, h⟩ | ⟨c_1, h⟩
  · refine r_t1 (pc' := 9) (L' := [(0, .ref 39), (1, .int X1)]) hq (z_at.mk 3 rfl rfl) rfl hx1 c_1 rfl rfl ?_
    refine r_p hq 1 (pc' := 10) (L' := [(0, .ref 39), (1, .int X1)]) (st' := [.ref 39]) rfl ?_
    refine r_gR (b := 40) (pc' := 13) (L' := [(0, .ref 39), (1, .int X1)]) H hq (z_at.mk 3 rfl rfl) rfl rfl rfl rfl ?_
    refine r_gR (b := 48) (pc' := 16) (L' := [(0, .ref 39), (1, .int X1)]) H hq (z_at.mk 3 rfl rfl) rfl rfl rfl rfl ?_
    refine r_p hq 1 (pc' := 17) (L' := [(0, .ref 39), (1, .int X1)]) (st' := [.int X1, .ref 48]) rfl ?_
    obtain ⟨o_17, h_17, h⟩ := Option.bind_eq_some_iff.mp h
    refine r_cvI (pc' := 20) (L' := []) (Ps := [.int X1]) (rest := []) hq (z_at.mk 3 rfl rfl) (Or.inl ⟨rfl, rfl⟩) rfl rfl (by decide) (by decide) rfl (Nat.not_lt.mpr (Nat.le_of_ble_eq_true rfl)) rfl rfl (z_cat_le 0 rfl (by decide)) (z_lgl_le 2 rfl (by decide)) (by decide) (H.tg rfl) (by omega) (g_ca_bestSet_ok rfl hx1 H h_17) rfl rfl ?_
    intro R_17 m_17 p_17 e_17 hR_17 H_17
    subst e_17
    cases h
    exact r_ri hq (z_at.mk 1 rfl rfl) rfl rfl hR_17 rfl H_17
  · refine r_f1 (pc' := 4) (L' := [(0, .ref 39), (1, .int X1)]) hq (z_at.mk 3 rfl rfl) rfl hx1 c_1 rfl rfl ?_
    refine r_p hq 2 (pc' := 20) (L' := []) (st' := [.int ((-2 : Int32))]) rfl ?_
    cases h
    exact r_ri hq (z_at.mk 1 rfl rfl) rfl rfl (rfl : (-2 : Int32).toInt = -2) rfl H
def g_c_trace (x1 : Int) (x2 : Int) (x3 : Int) (x4 : Int) (σ : zS) : Option (Int × zS) :=
  if x1 ≠ -1 then
    (g_b_isBox x1 x2 x3 x4 σ).bind fun o_23 =>
    if o_23.1 ≠ 0 then
      (g_b_of x1 x2 x3 x4 o_23.2).bind fun o_44 =>
      (g_bs_add 63 o_44.1 o_44.2).bind fun o_47 =>
      if o_47.1 = 0 then
        some (-4, o_47.2)
      else
        let v_60 := o_47.2 63 1
        some (v_60, o_47.2)
    else
      some (-2, o_23.2)
  else
    let s_13 := zu σ 63 1 0
    some (0, s_13)
set_option maxHeartbeats 4000000 in
theorem g_c_trace_ok {xl : Nat} {xs : Nat → Int32} {X1 : Int32} {x1 : Int} (hx1 : X1.toInt = x1) {X2 : Int32} {x2 : Int} (hx2 : X2.toInt = x2) {X3 : Int32} {x3 : Int} (hx3 : X3.toInt = x3) {X4 : Int32} {x4 : Int} (hx4 : X4.toInt = x4) {σ : zS} {p : Nat} {m : zM} {o : Int × zS} (H : zRep xl xs p m σ) (h : g_c_trace x1 x2 x3 x4 σ = some o) : zGo xl xs (fun p' => p = p') 3 143 0 (z_can 143 0 (lv_args 0 [.ref 39, .int X1, .int X2, .int X3, .int X4])) [] m (vI o.1) o.2 := by
  have hq : z_mth 143 = some z_r143 := rfl
  unfold g_c_trace at h
  show zGo xl xs (fun p' => p = p') 3 143 0 [(0, .ref 39), (1, .int X1), (2, .int X2), (3, .int X3), (4, .int X4)] [] m (vI o.1) o.2
  refine r_p hq 2 (pc' := 2) (L' := [(0, .ref 39), (1, .int X1), (2, .int X2), (3, .int X3), (4, .int X4)]) (st' := [.int ((-1 : Int32)), .int X1]) rfl ?_
  rcases z_ite h with ⟨c_2, h⟩ | ⟨c_2, h⟩
  · refine r_t2 (pc' := 18) (L' := [(0, .ref 39), (1, .int X1), (2, .int X2), (3, .int X3), (4, .int X4)]) hq (z_at.mk 3 rfl rfl) rfl hx1 (rfl : (-1 : Int32).toInt = -1) c_2 rfl rfl ?_
    refine r_p hq 4 (pc' := 23) (L' := [(0, .ref 39), (1, .int X1), (2, .int X2), (3, .int X3), (4, .int X4)]) (st' := [.int X4, .int X3, .int X2, .int X1]) rfl ?_
    obtain ⟨o_23, h_23, h⟩ := Option.bind_eq_some_iff.mp h
    refine r_csI (pc' := 26) (L' := [(0, .ref 39), (1, .int X1), (2, .int X2), (3, .int X3), (4, .int X4)]) (As := [.int X1, .int X2, .int X3, .int X4]) (rest := []) (j := 1) hq (z_at.mk 3 rfl rfl) (Or.inl ⟨rfl, rfl⟩) rfl rfl (by omega) (g_b_isBox_ok hx1 hx2 hx3 hx4 H h_23) rfl rfl ?_
    intro R_23 m_23 p_23 e_23 hR_23 H_23
    subst e_23
    rcases z_ite h with ⟨c_26, h⟩ | ⟨c_26, h⟩
    · refine r_t1 (pc' := 32) (L' := [(0, .ref 39), (1, .int X1), (2, .int X2), (3, .int X3), (4, .int X4)]) hq (z_at.mk 3 rfl rfl) rfl hR_23 c_26 rfl rfl ?_
      refine r_p hq 1 (pc' := 33) (L' := [(0, .ref 39), (1, .int X1), (2, .int X2), (3, .int X3), (4, .int X4)]) (st' := [.ref 39]) rfl ?_
      refine r_gR (b := 40) (pc' := 36) (L' := [(0, .ref 39), (1, .int X1), (2, .int X2), (3, .int X3), (4, .int X4)]) H_23 hq (z_at.mk 3 rfl rfl) rfl rfl rfl rfl ?_
      refine r_gR (b := 63) (pc' := 39) (L' := [(0, .ref 39), (1, .int X1), (2, .int X2), (3, .int X3), (4, .int X4)]) H_23 hq (z_at.mk 3 rfl rfl) rfl rfl rfl rfl ?_
      refine r_p hq 4 (pc' := 44) (L' := [(0, .ref 39), (1, .int X1), (2, .int X2), (3, .int X3), (4, .int X4)]) (st' := [.int X4, .int X3, .int X2, .int X1, .ref 63]) rfl ?_
      obtain ⟨o_44, h_44, h⟩ := Option.bind_eq_some_iff.mp h
      refine r_csI (pc' := 47) (L' := [(0, .ref 39), (1, .int X1), (2, .int X2), (3, .int X3), (4, .int X4)]) (As := [.int X1, .int X2, .int X3, .int X4]) (rest := [.ref 63]) (j := 2) hq (z_at.mk 3 rfl rfl) (Or.inl ⟨rfl, rfl⟩) rfl rfl (by omega) (g_b_of_ok hx1 hx2 hx3 hx4 H_23 h_44) rfl rfl ?_
      intro R_44 m_44 p_44 e_44 hR_44 H_44
      subst e_44
      obtain ⟨o_47, h_47, h⟩ := Option.bind_eq_some_iff.mp h
      refine r_cvI (pc' := 50) (L' := [(0, .ref 39), (1, .int X1), (2, .int X2), (3, .int X3), (4, .int X4)]) (Ps := [.int R_44]) (rest := []) hq (z_at.mk 3 rfl rfl) (Or.inl ⟨rfl, rfl⟩) rfl rfl (by decide) (by decide) rfl (Nat.not_lt.mpr (Nat.le_of_ble_eq_true rfl)) rfl rfl (z_cat_le 0 rfl (by decide)) (z_lgl_le 2 rfl (by decide)) (by decide) (H_44.tg rfl) (by omega) (g_bs_add_ok rfl hR_44 H_44 h_47) rfl rfl ?_
      intro R_47 m_47 p_47 e_47 hR_47 H_47
      subst e_47
      rcases z_ite h with ⟨c_50, h⟩ | ⟨c_50, h⟩
      · refine r_t1 (pc' := 66) (L' := [(0, .ref 39), (1, .int X1), (2, .int X2), (3, .int X3), (4, .int X4)]) hq (z_at.mk 3 rfl rfl) rfl hR_47 c_50 rfl rfl ?_
        refine r_p hq 1 (pc' := 68) (L' := []) (st' := [.int ((-4 : Int32))]) rfl ?_
        cases h
        exact r_ri hq (z_at.mk 1 rfl rfl) rfl rfl (rfl : (-4 : Int32).toInt = -4) rfl H_47
      · refine r_f1 (pc' := 53) (L' := [(0, .ref 39), (1, .int X1), (2, .int X2), (3, .int X3), (4, .int X4)]) hq (z_at.mk 3 rfl rfl) rfl hR_47 c_50 rfl rfl ?_
        refine r_p hq 1 (pc' := 54) (L' := [(0, .ref 39), (1, .int X1), (2, .int X2), (3, .int X3), (4, .int X4)]) (st' := [.ref 39]) rfl ?_
        refine r_gR (b := 40) (pc' := 57) (L' := [(0, .ref 39), (1, .int X1), (2, .int X2), (3, .int X3), (4, .int X4)]) H_47 hq (z_at.mk 3 rfl rfl) rfl rfl rfl rfl ?_
        refine r_gR (b := 63) (pc' := 60) (L' := [(0, .ref 39), (1, .int X1), (2, .int X2), (3, .int X3), (4, .int X4)]) H_47 hq (z_at.mk 3 rfl rfl) rfl rfl rfl rfl ?_
        refine r_gI (pc' := 63) (L' := [(0, .ref 39), (1, .int X1), (2, .int X2), (3, .int X3), (4, .int X4)]) H_47 hq (z_at.mk 3 rfl rfl) rfl rfl rfl rfl ?_
        intro V_60 hV_60
        refine r_p hq 1 (pc' := 68) (L' := []) (st' := [.int V_60]) rfl ?_
        cases h
        exact r_ri hq (z_at.mk 1 rfl rfl) rfl rfl hV_60 rfl H_47
    · refine r_f1 (pc' := 29) (L' := [(0, .ref 39), (1, .int X1), (2, .int X2), (3, .int X3), (4, .int X4)]) hq (z_at.mk 3 rfl rfl) rfl hR_23 c_26 rfl rfl ?_
      refine r_p hq 1 (pc' := 31) (L' := [(0, .ref 39), (1, .int X1), (2, .int X2), (3, .int X3), (4, .int X4)]) (st' := [.int ((-2 : Int32))]) rfl ?_
      cases h
      exact r_ri hq (z_at.mk 1 rfl rfl) rfl rfl (rfl : (-2 : Int32).toInt = -2) rfl H_23
  · refine r_f2 (pc' := 5) (L' := [(0, .ref 39), (1, .int X1), (2, .int X2), (3, .int X3), (4, .int X4)]) hq (z_at.mk 3 rfl rfl) rfl hx1 (rfl : (-1 : Int32).toInt = -1) c_2 rfl rfl ?_
    refine r_p hq 1 (pc' := 6) (L' := [(0, .ref 39), (1, .int X1), (2, .int X2), (3, .int X3), (4, .int X4)]) (st' := [.ref 39]) rfl ?_
    refine r_gR (b := 40) (pc' := 9) (L' := [(0, .ref 39), (1, .int X1), (2, .int X2), (3, .int X3), (4, .int X4)]) H hq (z_at.mk 3 rfl rfl) rfl rfl rfl rfl ?_
    refine r_gR (b := 63) (pc' := 12) (L' := [(0, .ref 39), (1, .int X1), (2, .int X2), (3, .int X3), (4, .int X4)]) H hq (z_at.mk 3 rfl rfl) rfl rfl rfl rfl ?_
    refine r_p hq 1 (pc' := 13) (L' := [(0, .ref 39), (1, .int X1), (2, .int X2), (3, .int X3), (4, .int X4)]) (st' := [.int ((0 : Int32)), .ref 63]) rfl ?_
    refine r_pI (X := (0 : Int32)) (pc' := 16) (L' := [(0, .ref 39), (1, .int X1), (2, .int X2), (3, .int X3), (4, .int X4)]) H hq (z_at.mk 3 rfl rfl) rfl rfl (rfl : (0 : Int32).toInt = 0) (by decide) rfl rfl rfl rfl ?_
    intro m_13 H_13
    refine r_p hq 1 (pc' := 17) (L' := [(0, .ref 39), (1, .int X1), (2, .int X2), (3, .int X3), (4, .int X4)]) (st' := [.int ((0 : Int32))]) rfl ?_
    cases h
    exact r_ri hq (z_at.mk 1 rfl rfl) rfl rfl (rfl : (0 : Int32).toInt = 0) rfl H_13
def g_c_doAgain_L41 : Nat → Int → zS → Option (Unit × zS)
  | 0, _, _ => none
  | n + 1, x2, σ =>
    let v_49 := σ 63 1
    if v_49 ≤ x2 then
      some ((), σ)
    else
      (g_bs_at 63 x2 σ).bind fun o_67 =>
      (g_ca_serve 106 o_67.1 o_67.2).bind fun o_70 =>
      (g_c_doAgain_L41 n) (w32 (x2 + 1)) o_70.2
set_option maxHeartbeats 4000000 in
theorem g_c_doAgain_L41_ok {xl : Nat} {xs : Nat → Int32} : ∀ (n : Nat) {X2 : Int32} {x2 : Int} {σ : zS} {p : Nat} {m : zM} {o : Unit × zS}, X2.toInt = x2 → zRep xl xs p m σ → g_c_doAgain_L41 n x2 σ = some o → zGo xl xs (fun p' => p = p') 7 145 41 [(0, .ref 39), (2, .int X2)] [] m vV o.2
  | 0, _, _, _, _, _, _, _, _, h => by cases h
  | n + 1, X2, x2, σ, p, m, o, hx2, H, h => by
    have hq : z_mth 145 = some z_r145 := rfl
    have ih := fun {X2 : Int32} {x2 : Int} {σ : zS} {p : Nat} {m : zM} {o : Unit × zS} => g_c_doAgain_L41_ok (xl := xl) (xs := xs) n (X2 := X2) (x2 := x2) (σ := σ) (p := p) (m := m) (o := o)
    unfold g_c_doAgain_L41 at h
    refine r_p hq 2 (pc' := 43) (L' := [(0, .ref 39), (2, .int X2)]) (st' := [.ref 39, .int X2]) rfl ?_
    refine r_gR (b := 40) (pc' := 46) (L' := [(0, .ref 39), (2, .int X2)]) H hq (z_at.mk 3 rfl rfl) rfl rfl rfl rfl ?_
    refine r_gR (b := 63) (pc' := 49) (L' := [(0, .ref 39), (2, .int X2)]) H hq (z_at.mk 3 rfl rfl) rfl rfl rfl rfl ?_
    refine r_gI (pc' := 52) (L' := [(0, .ref 39), (2, .int X2)]) H hq (z_at.mk 3 rfl rfl) rfl rfl rfl rfl ?_
    intro V_49 hV_49
    rcases z_ite h with ⟨c_52, h⟩ | ⟨c_52, h⟩
    · refine r_t2 (pc' := 79) (L' := [(0, .ref 39), (2, .int X2)]) hq (z_at.mk 3 rfl rfl) rfl hx2 hV_49 c_52 rfl rfl ?_
      cases h
      exact r_rv hq (z_at.mk 1 rfl rfl) rfl rfl H
    · refine r_f2 (pc' := 55) (L' := [(0, .ref 39), (2, .int X2)]) hq (z_at.mk 3 rfl rfl) rfl hx2 hV_49 c_52 rfl rfl ?_
      refine r_p hq 1 (pc' := 56) (L' := [(0, .ref 39), (2, .int X2)]) (st' := [.ref 39]) rfl ?_
      refine r_gR (b := 106) (pc' := 59) (L' := [(0, .ref 39), (2, .int X2)]) H hq (z_at.mk 3 rfl rfl) rfl rfl rfl rfl ?_
      refine r_p hq 1 (pc' := 60) (L' := [(0, .ref 39), (2, .int X2)]) (st' := [.ref 39, .ref 106]) rfl ?_
      refine r_gR (b := 40) (pc' := 63) (L' := [(0, .ref 39), (2, .int X2)]) H hq (z_at.mk 3 rfl rfl) rfl rfl rfl rfl ?_
      refine r_gR (b := 63) (pc' := 66) (L' := [(0, .ref 39), (2, .int X2)]) H hq (z_at.mk 3 rfl rfl) rfl rfl rfl rfl ?_
      refine r_p hq 1 (pc' := 67) (L' := [(0, .ref 39), (2, .int X2)]) (st' := [.int X2, .ref 63, .ref 106]) rfl ?_
      obtain ⟨o_67, h_67, h⟩ := Option.bind_eq_some_iff.mp h
      refine r_cvI (pc' := 70) (L' := [(0, .ref 39), (2, .int X2)]) (Ps := [.int X2]) (rest := [.ref 106]) hq (z_at.mk 3 rfl rfl) (Or.inl ⟨rfl, rfl⟩) rfl rfl (by decide) (by decide) rfl (Nat.not_lt.mpr (Nat.le_of_ble_eq_true rfl)) rfl rfl (z_cat_le 1 rfl (by decide)) (z_lgl_le 2 rfl (by decide)) (by decide) (H.tg rfl) (by omega) (g_bs_at_ok rfl hx2 H h_67) rfl rfl ?_
      intro R_67 m_67 p_67 e_67 hR_67 H_67
      subst e_67
      obtain ⟨o_70, h_70, h⟩ := Option.bind_eq_some_iff.mp h
      refine r_cvV (pc' := 73) (L' := [(0, .ref 39), (2, .int X2)]) (Ps := [.int R_67]) (rest := []) hq (z_at.mk 3 rfl rfl) (Or.inl ⟨rfl, rfl⟩) rfl rfl (by decide) (by decide) rfl (Nat.not_lt.mpr (Nat.le_of_ble_eq_true rfl)) rfl rfl (z_cat_le 0 rfl (by decide)) (z_lgl_le 2 rfl (by decide)) (by decide) (H_67.tg rfl) (by omega) (g_ca_serve_ok rfl hR_67 H_67 h_70) rfl rfl ?_
      intro m_70 p_70 e_70 H_70
      subst e_70
      refine r_p hq 2 (pc' := 41) (L' := [(0, .ref 39), (2, .int (X2 + (1 : Int32)))]) (st' := []) rfl ?_
      exact ih (tx_iadd hx2 (rfl : (1 : Int32).toInt = 1)) H_70 h
def g_c_doAgain (x1 : Int) (σ : zS) : Option (Unit × zS) :=
  (g_ca_forgetAll 106 σ).bind fun o_4 =>
  (g_se_copyFrom 107 49 o_4.2).bind fun o_24 =>
  (g_se_become 107 1 x1 o_24.2).bind fun o_36 =>
  g_c_doAgain_L41 zK 0 o_36.2
set_option maxHeartbeats 4000000 in
theorem g_c_doAgain_ok {xl : Nat} {xs : Nat → Int32} {X1 : Int32} {x1 : Int} (hx1 : X1.toInt = x1) {σ : zS} {p : Nat} {m : zM} {o : Unit × zS} (H : zRep xl xs p m σ) (h : g_c_doAgain x1 σ = some o) : zGo xl xs (fun p' => p = p') 7 145 0 (z_can 145 0 (lv_args 0 [.ref 39, .int X1])) [] m vV o.2 := by
  have hq : z_mth 145 = some z_r145 := rfl
  unfold g_c_doAgain at h
  show zGo xl xs (fun p' => p = p') 7 145 0 [(0, .ref 39), (1, .int X1)] [] m vV o.2
  refine r_p hq 1 (pc' := 1) (L' := [(0, .ref 39), (1, .int X1)]) (st' := [.ref 39]) rfl ?_
  refine r_gR (b := 106) (pc' := 4) (L' := [(0, .ref 39), (1, .int X1)]) H hq (z_at.mk 3 rfl rfl) rfl rfl rfl rfl ?_
  obtain ⟨o_4, h_4, h⟩ := Option.bind_eq_some_iff.mp h
  refine r_cvV (pc' := 7) (L' := [(0, .ref 39), (1, .int X1)]) (Ps := []) (rest := []) hq (z_at.mk 3 rfl rfl) (Or.inl ⟨rfl, rfl⟩) rfl rfl (by decide) (by decide) rfl (Nat.not_lt.mpr (Nat.le_of_ble_eq_true rfl)) rfl rfl (z_cat_le 0 rfl (by decide)) (z_lgl_le 1 rfl (by decide)) (by decide) (H.tg rfl) (by omega) (g_ca_forgetAll_ok rfl H h_4) rfl rfl ?_
  intro m_4 p_4 e_4 H_4
  subst e_4
  refine r_p hq 1 (pc' := 8) (L' := [(0, .ref 39), (1, .int X1)]) (st' := [.ref 39]) rfl ?_
  refine r_gR (b := 106) (pc' := 11) (L' := [(0, .ref 39), (1, .int X1)]) H_4 hq (z_at.mk 3 rfl rfl) rfl rfl rfl rfl ?_
  refine r_gR (b := 107) (pc' := 14) (L' := [(0, .ref 39), (1, .int X1)]) H_4 hq (z_at.mk 3 rfl rfl) rfl rfl rfl rfl ?_
  refine r_p hq 1 (pc' := 15) (L' := [(0, .ref 39), (1, .int X1)]) (st' := [.ref 39, .ref 107]) rfl ?_
  refine r_gR (b := 40) (pc' := 18) (L' := [(0, .ref 39), (1, .int X1)]) H_4 hq (z_at.mk 3 rfl rfl) rfl rfl rfl rfl ?_
  refine r_gR (b := 48) (pc' := 21) (L' := [(0, .ref 39), (1, .int X1)]) H_4 hq (z_at.mk 3 rfl rfl) rfl rfl rfl rfl ?_
  refine r_gR (b := 49) (pc' := 24) (L' := [(0, .ref 39), (1, .int X1)]) H_4 hq (z_at.mk 3 rfl rfl) rfl rfl rfl rfl ?_
  obtain ⟨o_24, h_24, h⟩ := Option.bind_eq_some_iff.mp h
  refine r_cvV (pc' := 27) (L' := [(0, .ref 39), (1, .int X1)]) (Ps := [.ref 49]) (rest := []) hq (z_at.mk 3 rfl rfl) (Or.inl ⟨rfl, rfl⟩) rfl rfl (by decide) (by decide) rfl (Nat.not_lt.mpr (Nat.le_of_ble_eq_true rfl)) rfl rfl (z_cat_le 0 rfl (by decide)) (z_lgl_le 2 rfl (by decide)) (by decide) (H_4.tg rfl) (by omega) (g_se_copyFrom_ok rfl rfl H_4 h_24) rfl rfl ?_
  intro m_24 p_24 e_24 H_24
  subst e_24
  refine r_p hq 1 (pc' := 28) (L' := [(0, .ref 39), (1, .int X1)]) (st' := [.ref 39]) rfl ?_
  refine r_gR (b := 106) (pc' := 31) (L' := [(0, .ref 39), (1, .int X1)]) H_24 hq (z_at.mk 3 rfl rfl) rfl rfl rfl rfl ?_
  refine r_gR (b := 107) (pc' := 34) (L' := [(0, .ref 39), (1, .int X1)]) H_24 hq (z_at.mk 3 rfl rfl) rfl rfl rfl rfl ?_
  refine r_p hq 2 (pc' := 36) (L' := [(0, .ref 39), (1, .int X1)]) (st' := [.int X1, .int ((1 : Int32)), .ref 107]) rfl ?_
  obtain ⟨o_36, h_36, h⟩ := Option.bind_eq_some_iff.mp h
  refine r_cvV (pc' := 39) (L' := [(0, .ref 39), (1, .int X1)]) (Ps := [.int ((1 : Int32)), .int X1]) (rest := []) hq (z_at.mk 3 rfl rfl) (Or.inl ⟨rfl, rfl⟩) rfl rfl (by decide) (by decide) rfl (Nat.not_lt.mpr (Nat.le_of_ble_eq_true rfl)) rfl rfl (z_cat_le 0 rfl (by decide)) (z_lgl_le 3 rfl (by decide)) (by decide) (H_24.tg rfl) (by omega) (g_se_become_ok rfl (rfl : (1 : Int32).toInt = 1) hx1 H_24 h_36) rfl rfl ?_
  intro m_36 p_36 e_36 H_36
  subst e_36
  refine r_p hq 2 (pc' := 41) (L' := [(0, .ref 39), (2, .int ((0 : Int32)))]) (st' := []) rfl ?_
  exact g_c_doAgain_L41_ok zK (rfl : (0 : Int32).toInt = 0) H_36 h
def g_c_again (x1 : Int) (x2 : Int) (σ : zS) : Option (Int × zS) :=
  if x2 < 0 then
    some (-1, σ)
  else
    if x2 ≤ 5 then
      if x1 < 1 then
        some (-2, σ)
      else
        if x1 ≤ 99 then
          (g_c_doAgain x1 σ).bind fun o_27 =>
          if x2 = 0 then
            let v_68 := o_27.2 106 11
            some (v_68, o_27.2)
          else
          if x2 = 1 then
            let v_76 := o_27.2 106 10
            some (v_76, o_27.2)
          else
          if x2 = 2 then
            let v_84 := o_27.2 106 12
            some (v_84, o_27.2)
          else
          if x2 = 3 then
            let v_92 := o_27.2 106 13
            some (v_92, o_27.2)
          else
          if x2 = 4 then
            let v_100 := o_27.2 106 14
            some (v_100, o_27.2)
          else
          let v_108 := o_27.2 106 2
          some (v_108, o_27.2)
        else
          some (-2, σ)
    else
      some (-1, σ)
set_option maxHeartbeats 4000000 in
theorem g_c_again_ok {xl : Nat} {xs : Nat → Int32} {X1 : Int32} {x1 : Int} (hx1 : X1.toInt = x1) {X2 : Int32} {x2 : Int} (hx2 : X2.toInt = x2) {σ : zS} {p : Nat} {m : zM} {o : Int × zS} (H : zRep xl xs p m σ) (h : g_c_again x1 x2 σ = some o) : zGo xl xs (fun p' => p = p') 8 144 0 (z_can 144 0 (lv_args 0 [.ref 39, .int X1, .int X2])) [] m (vI o.1) o.2 := by
  have hq : z_mth 144 = some z_r144 := rfl
  unfold g_c_again at h
  show zGo xl xs (fun p' => p = p') 8 144 0 [(0, .ref 39), (1, .int X1), (2, .int X2)] [] m (vI o.1) o.2
  refine r_p hq 1 (pc' := 1) (L' := [(0, .ref 39), (1, .int X1), (2, .int X2)]) (st' := [.int X2]) rfl ?_
  rcases z_ite h with ⟨c_1, h⟩ | ⟨c_1, h⟩
  · refine r_t1 (pc' := 9) (L' := []) hq (z_at.mk 3 rfl rfl) rfl hx2 c_1 rfl rfl ?_
    refine r_p hq 1 (pc' := 10) (L' := []) (st' := [.int ((-1 : Int32))]) rfl ?_
    cases h
    exact r_ri hq (z_at.mk 1 rfl rfl) rfl rfl (rfl : (-1 : Int32).toInt = -1) rfl H
  · refine r_f1 (pc' := 4) (L' := [(0, .ref 39), (1, .int X1), (2, .int X2)]) hq (z_at.mk 3 rfl rfl) rfl hx2 c_1 rfl rfl ?_
    refine r_p hq 2 (pc' := 6) (L' := [(0, .ref 39), (1, .int X1), (2, .int X2)]) (st' := [.int ((5 : Int32)), .int X2]) rfl ?_
    rcases z_ite h with ⟨c_6, h⟩ | ⟨c_6, h⟩
    · refine r_t2 (pc' := 11) (L' := [(0, .ref 39), (1, .int X1), (2, .int X2)]) hq (z_at.mk 3 rfl rfl) rfl hx2 (rfl : (5 : Int32).toInt = 5) c_6 rfl rfl ?_
      refine r_p hq 2 (pc' := 13) (L' := [(0, .ref 39), (1, .int X1), (2, .int X2)]) (st' := [.int ((1 : Int32)), .int X1]) rfl ?_
      rcases z_ite h with ⟨c_13, h⟩ | ⟨c_13, h⟩
      · refine r_t2 (pc' := 22) (L' := []) hq (z_at.mk 3 rfl rfl) rfl hx1 (rfl : (1 : Int32).toInt = 1) c_13 rfl rfl ?_
        refine r_p hq 1 (pc' := 24) (L' := []) (st' := [.int ((-2 : Int32))]) rfl ?_
        cases h
        exact r_ri hq (z_at.mk 1 rfl rfl) rfl rfl (rfl : (-2 : Int32).toInt = -2) rfl H
      · refine r_f2 (pc' := 16) (L' := [(0, .ref 39), (1, .int X1), (2, .int X2)]) hq (z_at.mk 3 rfl rfl) rfl hx1 (rfl : (1 : Int32).toInt = 1) c_13 rfl rfl ?_
        refine r_p hq 2 (pc' := 19) (L' := [(0, .ref 39), (1, .int X1), (2, .int X2)]) (st' := [.int ((99 : Int32)), .int X1]) rfl ?_
        rcases z_ite h with ⟨c_19, h⟩ | ⟨c_19, h⟩
        · refine r_t2 (pc' := 25) (L' := [(0, .ref 39), (1, .int X1), (2, .int X2)]) hq (z_at.mk 3 rfl rfl) rfl hx1 (rfl : (99 : Int32).toInt = 99) c_19 rfl rfl ?_
          refine r_p hq 2 (pc' := 27) (L' := [(0, .ref 39), (1, .int X1), (2, .int X2)]) (st' := [.int X1, .ref 39]) rfl ?_
          obtain ⟨o_27, h_27, h⟩ := Option.bind_eq_some_iff.mp h
          refine r_cvV (pc' := 30) (L' := [(0, .ref 39), (1, .int X1), (2, .int X2)]) (Ps := [.int X1]) (rest := []) hq (z_at.mk 3 rfl rfl) (Or.inl ⟨rfl, rfl⟩) rfl rfl (by decide) (by decide) rfl (Nat.not_lt.mpr (Nat.le_of_ble_eq_true rfl)) rfl rfl (z_cat_le 0 rfl (by decide)) (z_lgl_le 2 rfl (by decide)) (by decide) (H.tg rfl) (by omega) (g_c_doAgain_ok hx1 H h_27) rfl rfl ?_
          intro m_27 p_27 e_27 H_27
          subst e_27
          refine r_p hq 1 (pc' := 31) (L' := [(0, .ref 39), (1, .int X1), (2, .int X2)]) (st' := [.int X2]) rfl ?_
          rcases z_ite h with ⟨c_31_0, h⟩ | ⟨c_31_0, h⟩
          · refine r_sw (off := 33) (pc' := 64) (L' := [(0, .ref 39), (1, .int X1), (2, .int X2)]) hq (z_at.mk 33 rfl rfl) (z_off_v (hx2.trans c_31_0) rfl) rfl rfl rfl ?_
            refine r_p hq 1 (pc' := 65) (L' := [(0, .ref 39), (1, .int X1), (2, .int X2)]) (st' := [.ref 39]) rfl ?_
            refine r_gR (b := 106) (pc' := 68) (L' := [(0, .ref 39), (1, .int X1), (2, .int X2)]) H_27 hq (z_at.mk 3 rfl rfl) rfl rfl rfl rfl ?_
            refine r_gI (pc' := 71) (L' := [(0, .ref 39), (1, .int X1), (2, .int X2)]) H_27 hq (z_at.mk 3 rfl rfl) rfl rfl rfl rfl ?_
            intro V_68 hV_68
            cases h
            exact r_ri hq (z_at.mk 1 rfl rfl) rfl rfl hV_68 rfl H_27
          rcases z_ite h with ⟨c_31_1, h⟩ | ⟨c_31_1, h⟩
          · refine r_sw (off := 41) (pc' := 72) (L' := [(0, .ref 39), (1, .int X1), (2, .int X2)]) hq (z_at.mk 33 rfl rfl) (z_off_v (hx2.trans c_31_1) rfl) rfl rfl rfl ?_
            refine r_p hq 1 (pc' := 73) (L' := [(0, .ref 39), (1, .int X1), (2, .int X2)]) (st' := [.ref 39]) rfl ?_
            refine r_gR (b := 106) (pc' := 76) (L' := [(0, .ref 39), (1, .int X1), (2, .int X2)]) H_27 hq (z_at.mk 3 rfl rfl) rfl rfl rfl rfl ?_
            refine r_gI (pc' := 79) (L' := [(0, .ref 39), (1, .int X1), (2, .int X2)]) H_27 hq (z_at.mk 3 rfl rfl) rfl rfl rfl rfl ?_
            intro V_76 hV_76
            cases h
            exact r_ri hq (z_at.mk 1 rfl rfl) rfl rfl hV_76 rfl H_27
          rcases z_ite h with ⟨c_31_2, h⟩ | ⟨c_31_2, h⟩
          · refine r_sw (off := 49) (pc' := 80) (L' := [(0, .ref 39), (1, .int X1), (2, .int X2)]) hq (z_at.mk 33 rfl rfl) (z_off_v (hx2.trans c_31_2) rfl) rfl rfl rfl ?_
            refine r_p hq 1 (pc' := 81) (L' := [(0, .ref 39), (1, .int X1), (2, .int X2)]) (st' := [.ref 39]) rfl ?_
            refine r_gR (b := 106) (pc' := 84) (L' := [(0, .ref 39), (1, .int X1), (2, .int X2)]) H_27 hq (z_at.mk 3 rfl rfl) rfl rfl rfl rfl ?_
            refine r_gI (pc' := 87) (L' := [(0, .ref 39), (1, .int X1), (2, .int X2)]) H_27 hq (z_at.mk 3 rfl rfl) rfl rfl rfl rfl ?_
            intro V_84 hV_84
            cases h
            exact r_ri hq (z_at.mk 1 rfl rfl) rfl rfl hV_84 rfl H_27
          rcases z_ite h with ⟨c_31_3, h⟩ | ⟨c_31_3, h⟩
          · refine r_sw (off := 57) (pc' := 88) (L' := [(0, .ref 39), (1, .int X1), (2, .int X2)]) hq (z_at.mk 33 rfl rfl) (z_off_v (hx2.trans c_31_3) rfl) rfl rfl rfl ?_
            refine r_p hq 1 (pc' := 89) (L' := [(0, .ref 39), (1, .int X1), (2, .int X2)]) (st' := [.ref 39]) rfl ?_
            refine r_gR (b := 106) (pc' := 92) (L' := [(0, .ref 39), (1, .int X1), (2, .int X2)]) H_27 hq (z_at.mk 3 rfl rfl) rfl rfl rfl rfl ?_
            refine r_gI (pc' := 95) (L' := [(0, .ref 39), (1, .int X1), (2, .int X2)]) H_27 hq (z_at.mk 3 rfl rfl) rfl rfl rfl rfl ?_
            intro V_92 hV_92
            cases h
            exact r_ri hq (z_at.mk 1 rfl rfl) rfl rfl hV_92 rfl H_27
          rcases z_ite h with ⟨c_31_4, h⟩ | ⟨c_31_4, h⟩
          · refine r_sw (off := 65) (pc' := 96) (L' := [(0, .ref 39), (1, .int X1), (2, .int X2)]) hq (z_at.mk 33 rfl rfl) (z_off_v (hx2.trans c_31_4) rfl) rfl rfl rfl ?_
            refine r_p hq 1 (pc' := 97) (L' := [(0, .ref 39), (1, .int X1), (2, .int X2)]) (st' := [.ref 39]) rfl ?_
            refine r_gR (b := 106) (pc' := 100) (L' := [(0, .ref 39), (1, .int X1), (2, .int X2)]) H_27 hq (z_at.mk 3 rfl rfl) rfl rfl rfl rfl ?_
            refine r_gI (pc' := 103) (L' := [(0, .ref 39), (1, .int X1), (2, .int X2)]) H_27 hq (z_at.mk 3 rfl rfl) rfl rfl rfl rfl ?_
            intro V_100 hV_100
            cases h
            exact r_ri hq (z_at.mk 1 rfl rfl) rfl rfl hV_100 rfl H_27
          have hx_31 : X2.toInt = x2 := hx2
          refine r_sw (off := 73) (pc' := 104) (L' := [(0, .ref 39), (1, .int X1), (2, .int X2)]) hq (z_at.mk 33 rfl rfl) (z_off_out (by omega)) rfl rfl rfl ?_
          refine r_p hq 1 (pc' := 105) (L' := [(0, .ref 39), (1, .int X1), (2, .int X2)]) (st' := [.ref 39]) rfl ?_
          refine r_gR (b := 106) (pc' := 108) (L' := [(0, .ref 39), (1, .int X1), (2, .int X2)]) H_27 hq (z_at.mk 3 rfl rfl) rfl rfl rfl rfl ?_
          refine r_gI (pc' := 111) (L' := [(0, .ref 39), (1, .int X1), (2, .int X2)]) H_27 hq (z_at.mk 3 rfl rfl) rfl rfl rfl rfl ?_
          intro V_108 hV_108
          cases h
          exact r_ri hq (z_at.mk 1 rfl rfl) rfl rfl hV_108 rfl H_27
        · refine r_f2 (pc' := 22) (L' := []) hq (z_at.mk 3 rfl rfl) rfl hx1 (rfl : (99 : Int32).toInt = 99) c_19 rfl rfl ?_
          refine r_p hq 1 (pc' := 24) (L' := []) (st' := [.int ((-2 : Int32))]) rfl ?_
          cases h
          exact r_ri hq (z_at.mk 1 rfl rfl) rfl rfl (rfl : (-2 : Int32).toInt = -2) rfl H
    · refine r_f2 (pc' := 9) (L' := []) hq (z_at.mk 3 rfl rfl) rfl hx2 (rfl : (5 : Int32).toInt = 5) c_6 rfl rfl ?_
      refine r_p hq 1 (pc' := 10) (L' := []) (st' := [.int ((-1 : Int32))]) rfl ?_
      cases h
      exact r_ri hq (z_at.mk 1 rfl rfl) rfl rfl (rfl : (-1 : Int32).toInt = -1) rfl H
def g_c_least_L2 : Nat → Int → Int → zS → Option (Int × zS)
  | 0, _, _, _ => none
  | n + 1, x1, x2, σ =>
    if 99 < x2 then
      some (-5, σ)
    else
      (g_c_doAgain x2 σ).bind fun o_10 =>
      let v_17 := o_10.2 106 11
      if x1 < v_17 then
        (g_c_least_L2 n) x1 (w32 (x2 + 1)) o_10.2
      else
        some (x2, o_10.2)
set_option maxHeartbeats 4000000 in
theorem g_c_least_L2_ok {xl : Nat} {xs : Nat → Int32} : ∀ (n : Nat) {X1 : Int32} {x1 : Int} {X2 : Int32} {x2 : Int} {σ : zS} {p : Nat} {m : zM} {o : Int × zS}, X1.toInt = x1 → X2.toInt = x2 → zRep xl xs p m σ → g_c_least_L2 n x1 x2 σ = some o → zGo xl xs (fun p' => p = p') 8 146 2 [(0, .ref 39), (1, .int X1), (2, .int X2)] [] m (vI o.1) o.2
  | 0, _, _, _, _, _, _, _, _, _, _, _, h => by cases h
  | n + 1, X1, x1, X2, x2, σ, p, m, o, hx1, hx2, H, h => by
    have hq : z_mth 146 = some z_r146 := rfl
    have ih := fun {X1 : Int32} {x1 : Int} {X2 : Int32} {x2 : Int} {σ : zS} {p : Nat} {m : zM} {o : Int × zS} => g_c_least_L2_ok (xl := xl) (xs := xs) n (X1 := X1) (x1 := x1) (X2 := X2) (x2 := x2) (σ := σ) (p := p) (m := m) (o := o)
    unfold g_c_least_L2 at h
    refine r_p hq 2 (pc' := 5) (L' := [(0, .ref 39), (1, .int X1), (2, .int X2)]) (st' := [.int ((99 : Int32)), .int X2]) rfl ?_
    rcases z_ite h with ⟨c_5, h⟩ | ⟨c_5, h⟩
    · refine r_t2 (pc' := 32) (L' := [(0, .ref 39), (1, .int X1), (2, .int X2)]) hq (z_at.mk 3 rfl rfl) rfl hx2 (rfl : (99 : Int32).toInt = 99) c_5 rfl rfl ?_
      refine r_p hq 1 (pc' := 34) (L' := [(0, .ref 39), (1, .int X1), (2, .int X2)]) (st' := [.int ((-5 : Int32))]) rfl ?_
      cases h
      exact r_ri hq (z_at.mk 1 rfl rfl) rfl rfl (rfl : (-5 : Int32).toInt = -5) rfl H
    · refine r_f2 (pc' := 8) (L' := [(0, .ref 39), (1, .int X1), (2, .int X2)]) hq (z_at.mk 3 rfl rfl) rfl hx2 (rfl : (99 : Int32).toInt = 99) c_5 rfl rfl ?_
      refine r_p hq 2 (pc' := 10) (L' := [(0, .ref 39), (1, .int X1), (2, .int X2)]) (st' := [.int X2, .ref 39]) rfl ?_
      obtain ⟨o_10, h_10, h⟩ := Option.bind_eq_some_iff.mp h
      refine r_cvV (pc' := 13) (L' := [(0, .ref 39), (1, .int X1), (2, .int X2)]) (Ps := [.int X2]) (rest := []) hq (z_at.mk 3 rfl rfl) (Or.inl ⟨rfl, rfl⟩) rfl rfl (by decide) (by decide) rfl (Nat.not_lt.mpr (Nat.le_of_ble_eq_true rfl)) rfl rfl (z_cat_le 0 rfl (by decide)) (z_lgl_le 2 rfl (by decide)) (by decide) (H.tg rfl) (by omega) (g_c_doAgain_ok hx2 H h_10) rfl rfl ?_
      intro m_10 p_10 e_10 H_10
      subst e_10
      refine r_p hq 1 (pc' := 14) (L' := [(0, .ref 39), (1, .int X1), (2, .int X2)]) (st' := [.ref 39]) rfl ?_
      refine r_gR (b := 106) (pc' := 17) (L' := [(0, .ref 39), (1, .int X1), (2, .int X2)]) H_10 hq (z_at.mk 3 rfl rfl) rfl rfl rfl rfl ?_
      refine r_gI (pc' := 20) (L' := [(0, .ref 39), (1, .int X1), (2, .int X2)]) H_10 hq (z_at.mk 3 rfl rfl) rfl rfl rfl rfl ?_
      intro V_17 hV_17
      refine r_p hq 1 (pc' := 21) (L' := [(0, .ref 39), (1, .int X1), (2, .int X2)]) (st' := [.int X1, .int V_17]) rfl ?_
      rcases z_ite h with ⟨c_21, h⟩ | ⟨c_21, h⟩
      · refine r_t2 (pc' := 26) (L' := [(0, .ref 39), (1, .int X1), (2, .int X2)]) hq (z_at.mk 3 rfl rfl) rfl hV_17 hx1 c_21 rfl rfl ?_
        refine r_p hq 2 (pc' := 2) (L' := [(0, .ref 39), (1, .int X1), (2, .int (X2 + (1 : Int32)))]) (st' := []) rfl ?_
        exact ih hx1 (tx_iadd hx2 (rfl : (1 : Int32).toInt = 1)) H_10 h
      · refine r_f2 (pc' := 24) (L' := [(0, .ref 39), (1, .int X1), (2, .int X2)]) hq (z_at.mk 3 rfl rfl) rfl hV_17 hx1 c_21 rfl rfl ?_
        refine r_p hq 1 (pc' := 25) (L' := [(0, .ref 39), (1, .int X1), (2, .int X2)]) (st' := [.int X2]) rfl ?_
        cases h
        exact r_ri hq (z_at.mk 1 rfl rfl) rfl rfl hx2 rfl H_10
def g_c_least (x1 : Int) (σ : zS) : Option (Int × zS) :=
  g_c_least_L2 zK x1 1 σ
set_option maxHeartbeats 4000000 in
theorem g_c_least_ok {xl : Nat} {xs : Nat → Int32} {X1 : Int32} {x1 : Int} (hx1 : X1.toInt = x1) {σ : zS} {p : Nat} {m : zM} {o : Int × zS} (H : zRep xl xs p m σ) (h : g_c_least x1 σ = some o) : zGo xl xs (fun p' => p = p') 8 146 0 (z_can 146 0 (lv_args 0 [.ref 39, .int X1])) [] m (vI o.1) o.2 := by
  have hq : z_mth 146 = some z_r146 := rfl
  unfold g_c_least at h
  show zGo xl xs (fun p' => p = p') 8 146 0 [(0, .ref 39), (1, .int X1)] [] m (vI o.1) o.2
  refine r_p hq 2 (pc' := 2) (L' := [(0, .ref 39), (1, .int X1), (2, .int ((1 : Int32)))]) (st' := []) rfl ?_
  exact g_c_least_L2_ok zK hx1 (rfl : (1 : Int32).toInt = 1) H h
def g_c_watch (x1 : Int) (x2 : Int) (x3 : Int) (x4 : Int) (x5 : Int) (σ : zS) : Option (Int × zS) :=
  (g_fi_isMeasure x1 σ).bind fun o_1 =>
  if o_1.1 ≠ 0 then
    (g_b_isBox x2 x3 x4 x5 o_1.2).bind fun o_15 =>
    if o_15.1 ≠ 0 then
      (g_b_of x2 x3 x4 x5 o_15.2).bind fun o_38 =>
      (g_wa_add x1 o_38.1 o_38.2).bind fun o_41 =>
      if o_41.1 = 0 then
        some (-4, o_41.2)
      else
        let v_54 := o_41.2 65 5
        some (w32 (v_54 - 1), o_41.2)
    else
      some (-2, o_15.2)
  else
    some (-1, o_1.2)
set_option maxHeartbeats 4000000 in
theorem g_c_watch_ok {xl : Nat} {xs : Nat → Int32} {X1 : Int32} {x1 : Int} (hx1 : X1.toInt = x1) {X2 : Int32} {x2 : Int} (hx2 : X2.toInt = x2) {X3 : Int32} {x3 : Int} (hx3 : X3.toInt = x3) {X4 : Int32} {x4 : Int} (hx4 : X4.toInt = x4) {X5 : Int32} {x5 : Int} (hx5 : X5.toInt = x5) {σ : zS} {p : Nat} {m : zM} {o : Int × zS} (H : zRep xl xs p m σ) (h : g_c_watch x1 x2 x3 x4 x5 σ = some o) : zGo xl xs (fun p' => p = p') 3 147 0 (z_can 147 0 (lv_args 0 [.ref 39, .int X1, .int X2, .int X3, .int X4, .int X5])) [] m (vI o.1) o.2 := by
  have hq : z_mth 147 = some z_r147 := rfl
  unfold g_c_watch at h
  show zGo xl xs (fun p' => p = p') 3 147 0 [(0, .ref 39), (1, .int X1), (2, .int X2), (3, .int X3), (4, .int X4), (5, .int X5)] [] m (vI o.1) o.2
  refine r_p hq 1 (pc' := 1) (L' := [(0, .ref 39), (1, .int X1), (2, .int X2), (3, .int X3), (4, .int X4), (5, .int X5)]) (st' := [.int X1]) rfl ?_
  obtain ⟨o_1, h_1, h⟩ := Option.bind_eq_some_iff.mp h
  refine r_csI (pc' := 4) (L' := [(0, .ref 39), (1, .int X1), (2, .int X2), (3, .int X3), (4, .int X4), (5, .int X5)]) (As := [.int X1]) (rest := []) (j := 46) hq (z_at.mk 3 rfl rfl) (Or.inl ⟨rfl, rfl⟩) rfl rfl (by omega) (g_fi_isMeasure_ok hx1 H h_1) rfl rfl ?_
  intro R_1 m_1 p_1 e_1 hR_1 H_1
  subst e_1
  rcases z_ite h with ⟨c_4, h⟩ | ⟨c_4, h⟩
  · refine r_t1 (pc' := 9) (L' := [(0, .ref 39), (1, .int X1), (2, .int X2), (3, .int X3), (4, .int X4), (5, .int X5)]) hq (z_at.mk 3 rfl rfl) rfl hR_1 c_4 rfl rfl ?_
    refine r_p hq 4 (pc' := 15) (L' := [(0, .ref 39), (1, .int X1), (2, .int X2), (3, .int X3), (4, .int X4), (5, .int X5)]) (st' := [.int X5, .int X4, .int X3, .int X2]) rfl ?_
    obtain ⟨o_15, h_15, h⟩ := Option.bind_eq_some_iff.mp h
    refine r_csI (pc' := 18) (L' := [(0, .ref 39), (1, .int X1), (2, .int X2), (3, .int X3), (4, .int X4), (5, .int X5)]) (As := [.int X2, .int X3, .int X4, .int X5]) (rest := []) (j := 1) hq (z_at.mk 3 rfl rfl) (Or.inl ⟨rfl, rfl⟩) rfl rfl (by omega) (g_b_isBox_ok hx2 hx3 hx4 hx5 H_1 h_15) rfl rfl ?_
    intro R_15 m_15 p_15 e_15 hR_15 H_15
    subst e_15
    rcases z_ite h with ⟨c_18, h⟩ | ⟨c_18, h⟩
    · refine r_t1 (pc' := 24) (L' := [(0, .ref 39), (1, .int X1), (2, .int X2), (3, .int X3), (4, .int X4), (5, .int X5)]) hq (z_at.mk 3 rfl rfl) rfl hR_15 c_18 rfl rfl ?_
      refine r_p hq 1 (pc' := 25) (L' := [(0, .ref 39), (1, .int X1), (2, .int X2), (3, .int X3), (4, .int X4), (5, .int X5)]) (st' := [.ref 39]) rfl ?_
      refine r_gR (b := 40) (pc' := 28) (L' := [(0, .ref 39), (1, .int X1), (2, .int X2), (3, .int X3), (4, .int X4), (5, .int X5)]) H_15 hq (z_at.mk 3 rfl rfl) rfl rfl rfl rfl ?_
      refine r_gR (b := 65) (pc' := 31) (L' := [(0, .ref 39), (1, .int X1), (2, .int X2), (3, .int X3), (4, .int X4), (5, .int X5)]) H_15 hq (z_at.mk 3 rfl rfl) rfl rfl rfl rfl ?_
      refine r_p hq 5 (pc' := 38) (L' := [(0, .ref 39), (1, .int X1), (2, .int X2), (3, .int X3), (4, .int X4), (5, .int X5)]) (st' := [.int X5, .int X4, .int X3, .int X2, .int X1, .ref 65]) rfl ?_
      obtain ⟨o_38, h_38, h⟩ := Option.bind_eq_some_iff.mp h
      refine r_csI (pc' := 41) (L' := [(0, .ref 39), (1, .int X1), (2, .int X2), (3, .int X3), (4, .int X4), (5, .int X5)]) (As := [.int X2, .int X3, .int X4, .int X5]) (rest := [.int X1, .ref 65]) (j := 2) hq (z_at.mk 3 rfl rfl) (Or.inl ⟨rfl, rfl⟩) rfl rfl (by omega) (g_b_of_ok hx2 hx3 hx4 hx5 H_15 h_38) rfl rfl ?_
      intro R_38 m_38 p_38 e_38 hR_38 H_38
      subst e_38
      obtain ⟨o_41, h_41, h⟩ := Option.bind_eq_some_iff.mp h
      refine r_cvI (pc' := 44) (L' := [(0, .ref 39), (1, .int X1), (2, .int X2), (3, .int X3), (4, .int X4), (5, .int X5)]) (Ps := [.int X1, .int R_38]) (rest := []) hq (z_at.mk 3 rfl rfl) (Or.inl ⟨rfl, rfl⟩) rfl rfl (by decide) (by decide) rfl (Nat.not_lt.mpr (Nat.le_of_ble_eq_true rfl)) rfl rfl (z_cat_le 0 rfl (by decide)) (z_lgl_le 3 rfl (by decide)) (by decide) (H_38.tg rfl) (by omega) (g_wa_add_ok hx1 hR_38 H_38 h_41) rfl rfl ?_
      intro R_41 m_41 p_41 e_41 hR_41 H_41
      subst e_41
      rcases z_ite h with ⟨c_44, h⟩ | ⟨c_44, h⟩
      · refine r_t1 (pc' := 62) (L' := [(0, .ref 39), (1, .int X1), (2, .int X2), (3, .int X3), (4, .int X4), (5, .int X5)]) hq (z_at.mk 3 rfl rfl) rfl hR_41 c_44 rfl rfl ?_
        refine r_p hq 1 (pc' := 64) (L' := []) (st' := [.int ((-4 : Int32))]) rfl ?_
        cases h
        exact r_ri hq (z_at.mk 1 rfl rfl) rfl rfl (rfl : (-4 : Int32).toInt = -4) rfl H_41
      · refine r_f1 (pc' := 47) (L' := [(0, .ref 39), (1, .int X1), (2, .int X2), (3, .int X3), (4, .int X4), (5, .int X5)]) hq (z_at.mk 3 rfl rfl) rfl hR_41 c_44 rfl rfl ?_
        refine r_p hq 1 (pc' := 48) (L' := [(0, .ref 39), (1, .int X1), (2, .int X2), (3, .int X3), (4, .int X4), (5, .int X5)]) (st' := [.ref 39]) rfl ?_
        refine r_gR (b := 40) (pc' := 51) (L' := [(0, .ref 39), (1, .int X1), (2, .int X2), (3, .int X3), (4, .int X4), (5, .int X5)]) H_41 hq (z_at.mk 3 rfl rfl) rfl rfl rfl rfl ?_
        refine r_gR (b := 65) (pc' := 54) (L' := [(0, .ref 39), (1, .int X1), (2, .int X2), (3, .int X3), (4, .int X4), (5, .int X5)]) H_41 hq (z_at.mk 3 rfl rfl) rfl rfl rfl rfl ?_
        refine r_gI (pc' := 57) (L' := [(0, .ref 39), (1, .int X1), (2, .int X2), (3, .int X3), (4, .int X4), (5, .int X5)]) H_41 hq (z_at.mk 3 rfl rfl) rfl rfl rfl rfl ?_
        intro V_54 hV_54
        refine r_p hq 3 (pc' := 64) (L' := []) (st' := [.int (V_54 - ((1 : Int32)))]) rfl ?_
        cases h
        exact r_ri hq (z_at.mk 1 rfl rfl) rfl rfl (tx_isub hV_54 (rfl : (1 : Int32).toInt = 1)) rfl H_41
    · refine r_f1 (pc' := 21) (L' := [(0, .ref 39), (1, .int X1), (2, .int X2), (3, .int X3), (4, .int X4), (5, .int X5)]) hq (z_at.mk 3 rfl rfl) rfl hR_15 c_18 rfl rfl ?_
      refine r_p hq 1 (pc' := 23) (L' := [(0, .ref 39), (1, .int X1), (2, .int X2), (3, .int X3), (4, .int X4), (5, .int X5)]) (st' := [.int ((-2 : Int32))]) rfl ?_
      cases h
      exact r_ri hq (z_at.mk 1 rfl rfl) rfl rfl (rfl : (-2 : Int32).toInt = -2) rfl H_15
  · refine r_f1 (pc' := 7) (L' := [(0, .ref 39), (1, .int X1), (2, .int X2), (3, .int X3), (4, .int X4), (5, .int X5)]) hq (z_at.mk 3 rfl rfl) rfl hR_1 c_4 rfl rfl ?_
    refine r_p hq 1 (pc' := 8) (L' := [(0, .ref 39), (1, .int X1), (2, .int X2), (3, .int X3), (4, .int X4), (5, .int X5)]) (st' := [.int ((-1 : Int32))]) rfl ?_
    cases h
    exact r_ri hq (z_at.mk 1 rfl rfl) rfl rfl (rfl : (-1 : Int32).toInt = -1) rfl H_1
def g_c_value (x1 : Int) (σ : zS) : Option (Int × zS) :=
  (g_wa_has x1 σ).bind fun o_8 =>
  if o_8.1 = 0 then
    some (-9223372036854775808, o_8.2)
  else
    (g_wa_valueOf x1 o_8.2).bind fun o_29 =>
    some (o_29.1, o_29.2)
set_option maxHeartbeats 4000000 in
theorem g_c_value_ok {xl : Nat} {xs : Nat → Int32} {X1 : Int32} {x1 : Int} (hx1 : X1.toInt = x1) {σ : zS} {p : Nat} {m : zM} {o : Int × zS} (H : zRep xl xs p m σ) (h : g_c_value x1 σ = some o) : zGo xl xs (fun p' => p = p') 6 148 0 (z_can 148 0 (lv_args 0 [.ref 39, .int X1])) [] m (vL o.1) o.2 := by
  have hq : z_mth 148 = some z_r148 := rfl
  unfold g_c_value at h
  show zGo xl xs (fun p' => p = p') 6 148 0 [(0, .ref 39), (1, .int X1)] [] m (vL o.1) o.2
  refine r_p hq 1 (pc' := 1) (L' := [(0, .ref 39), (1, .int X1)]) (st' := [.ref 39]) rfl ?_
  refine r_gR (b := 40) (pc' := 4) (L' := [(0, .ref 39), (1, .int X1)]) H hq (z_at.mk 3 rfl rfl) rfl rfl rfl rfl ?_
  refine r_gR (b := 65) (pc' := 7) (L' := [(0, .ref 39), (1, .int X1)]) H hq (z_at.mk 3 rfl rfl) rfl rfl rfl rfl ?_
  refine r_p hq 1 (pc' := 8) (L' := [(0, .ref 39), (1, .int X1)]) (st' := [.int X1, .ref 65]) rfl ?_
  obtain ⟨o_8, h_8, h⟩ := Option.bind_eq_some_iff.mp h
  refine r_cvI (pc' := 11) (L' := [(0, .ref 39), (1, .int X1)]) (Ps := [.int X1]) (rest := []) hq (z_at.mk 3 rfl rfl) (Or.inl ⟨rfl, rfl⟩) rfl rfl (by decide) (by decide) rfl (Nat.not_lt.mpr (Nat.le_of_ble_eq_true rfl)) rfl rfl (z_cat_le 0 rfl (by decide)) (z_lgl_le 2 rfl (by decide)) (by decide) (H.tg rfl) (by omega) (g_wa_has_ok hx1 H h_8) rfl rfl ?_
  intro R_8 m_8 p_8 e_8 hR_8 H_8
  subst e_8
  rcases z_ite h with ⟨c_11, h⟩ | ⟨c_11, h⟩
  · refine r_t1 (pc' := 35) (L' := [(0, .ref 39), (1, .int X1)]) hq (z_at.mk 3 rfl rfl) rfl hR_8 c_11 rfl rfl ?_
    refine r_p hq 1 (pc' := 38) (L' := []) (st' := [.long ((-9223372036854775808 : Int64))]) rfl ?_
    cases h
    exact r_rl hq (z_at.mk 1 rfl rfl) rfl (rfl : (-9223372036854775808 : Int64).toInt = -9223372036854775808) rfl H_8
  · refine r_f1 (pc' := 14) (L' := [(0, .ref 39), (1, .int X1)]) hq (z_at.mk 3 rfl rfl) rfl hR_8 c_11 rfl rfl ?_
    refine r_p hq 1 (pc' := 15) (L' := [(0, .ref 39), (1, .int X1)]) (st' := [.ref 39]) rfl ?_
    refine r_gR (b := 40) (pc' := 18) (L' := [(0, .ref 39), (1, .int X1)]) H_8 hq (z_at.mk 3 rfl rfl) rfl rfl rfl rfl ?_
    refine r_gR (b := 65) (pc' := 21) (L' := [(0, .ref 39), (1, .int X1)]) H_8 hq (z_at.mk 3 rfl rfl) rfl rfl rfl rfl ?_
    refine r_p hq 2 (pc' := 23) (L' := [(0, .ref 39), (1, .int X1)]) (st' := [.ref 39, .int X1, .ref 65]) rfl ?_
    refine r_gR (b := 40) (pc' := 26) (L' := [(0, .ref 39), (1, .int X1)]) H_8 hq (z_at.mk 3 rfl rfl) rfl rfl rfl rfl ?_
    refine r_gR (b := 41) (pc' := 29) (L' := [(0, .ref 39), (1, .int X1)]) H_8 hq (z_at.mk 3 rfl rfl) rfl rfl rfl rfl ?_
    obtain ⟨o_29, h_29, h⟩ := Option.bind_eq_some_iff.mp h
    refine r_cvL (pc' := 32) (L' := [(0, .ref 39), (1, .int X1)]) (Ps := [.int X1, .ref 41]) (rest := []) hq (z_at.mk 3 rfl rfl) (Or.inl ⟨rfl, rfl⟩) rfl rfl (by decide) (by decide) rfl (Nat.not_lt.mpr (Nat.le_of_ble_eq_true rfl)) rfl rfl (z_cat_le 0 rfl (by decide)) (z_lgl_le 3 rfl (by decide)) (by decide) (H_8.tg rfl) (by omega) (g_wa_valueOf_ok hx1 H_8 h_29) rfl rfl ?_
    intro R_29 m_29 p_29 e_29 hR_29 H_29
    subst e_29
    refine r_p hq 1 (pc' := 38) (L' := []) (st' := [.long R_29]) rfl ?_
    cases h
    exact r_rl hq (z_at.mk 1 rfl rfl) rfl hR_29 rfl H_29
def g_c_changes (x1 : Int) (σ : zS) : Option (Int × zS) :=
  (g_wa_has x1 σ).bind fun o_8 =>
  if o_8.1 = 0 then
    some (-1, o_8.2)
  else
    if 0 ≤ x1 ∧ x1 < 6 then
    let v_25 := o_8.2 68 x1
    some (v_25, o_8.2)
    else none
set_option maxHeartbeats 4000000 in
theorem g_c_changes_ok {xl : Nat} {xs : Nat → Int32} {X1 : Int32} {x1 : Int} (hx1 : X1.toInt = x1) {σ : zS} {p : Nat} {m : zM} {o : Int × zS} (H : zRep xl xs p m σ) (h : g_c_changes x1 σ = some o) : zGo xl xs (fun p' => p = p') 2 149 0 (z_can 149 0 (lv_args 0 [.ref 39, .int X1])) [] m (vI o.1) o.2 := by
  have hq : z_mth 149 = some z_r149 := rfl
  unfold g_c_changes at h
  show zGo xl xs (fun p' => p = p') 2 149 0 [(0, .ref 39), (1, .int X1)] [] m (vI o.1) o.2
  refine r_p hq 1 (pc' := 1) (L' := [(0, .ref 39), (1, .int X1)]) (st' := [.ref 39]) rfl ?_
  refine r_gR (b := 40) (pc' := 4) (L' := [(0, .ref 39), (1, .int X1)]) H hq (z_at.mk 3 rfl rfl) rfl rfl rfl rfl ?_
  refine r_gR (b := 65) (pc' := 7) (L' := [(0, .ref 39), (1, .int X1)]) H hq (z_at.mk 3 rfl rfl) rfl rfl rfl rfl ?_
  refine r_p hq 1 (pc' := 8) (L' := [(0, .ref 39), (1, .int X1)]) (st' := [.int X1, .ref 65]) rfl ?_
  obtain ⟨o_8, h_8, h⟩ := Option.bind_eq_some_iff.mp h
  refine r_cvI (pc' := 11) (L' := [(0, .ref 39), (1, .int X1)]) (Ps := [.int X1]) (rest := []) hq (z_at.mk 3 rfl rfl) (Or.inl ⟨rfl, rfl⟩) rfl rfl (by decide) (by decide) rfl (Nat.not_lt.mpr (Nat.le_of_ble_eq_true rfl)) rfl rfl (z_cat_le 0 rfl (by decide)) (z_lgl_le 2 rfl (by decide)) (by decide) (H.tg rfl) (by omega) (g_wa_has_ok hx1 H h_8) rfl rfl ?_
  intro R_8 m_8 p_8 e_8 hR_8 H_8
  subst e_8
  rcases z_ite h with ⟨c_11, h⟩ | ⟨c_11, h⟩
  · refine r_t1 (pc' := 29) (L' := [(0, .ref 39), (1, .int X1)]) hq (z_at.mk 3 rfl rfl) rfl hR_8 c_11 rfl rfl ?_
    refine r_p hq 1 (pc' := 30) (L' := []) (st' := [.int ((-1 : Int32))]) rfl ?_
    cases h
    exact r_ri hq (z_at.mk 1 rfl rfl) rfl rfl (rfl : (-1 : Int32).toInt = -1) rfl H_8
  · refine r_f1 (pc' := 14) (L' := [(0, .ref 39), (1, .int X1)]) hq (z_at.mk 3 rfl rfl) rfl hR_8 c_11 rfl rfl ?_
    refine r_p hq 1 (pc' := 15) (L' := [(0, .ref 39), (1, .int X1)]) (st' := [.ref 39]) rfl ?_
    refine r_gR (b := 40) (pc' := 18) (L' := [(0, .ref 39), (1, .int X1)]) H_8 hq (z_at.mk 3 rfl rfl) rfl rfl rfl rfl ?_
    refine r_gR (b := 65) (pc' := 21) (L' := [(0, .ref 39), (1, .int X1)]) H_8 hq (z_at.mk 3 rfl rfl) rfl rfl rfl rfl ?_
    refine r_gR (b := 68) (pc' := 24) (L' := [(0, .ref 39), (1, .int X1)]) H_8 hq (z_at.mk 3 rfl rfl) rfl rfl rfl rfl ?_
    refine r_p hq 1 (pc' := 25) (L' := [(0, .ref 39), (1, .int X1)]) (st' := [.int X1, .ref 68]) rfl ?_
    obtain ⟨g_25, h⟩ := z_ifo_some h
    refine r_ia (pc' := 26) (L' := [(0, .ref 39), (1, .int X1)]) H_8 hq (z_at.mk 1 rfl rfl) (show zAr 68 0 6 = true from rfl) hx1 g_25 rfl rfl ?_
    intro V_25 hV_25
    refine r_p hq 1 (pc' := 30) (L' := []) (st' := [.int V_25]) rfl ?_
    cases h
    exact r_ri hq (z_at.mk 1 rfl rfl) rfl rfl hV_25 rfl H_8
def g_c_list (x1 : Int) (x2 : Int) (σ : zS) : Option (Int × zS) :=
  (g_li_isList x1 σ).bind fun o_1 =>
  if o_1.1 ≠ 0 then
    if x2 ≤ 60 then
      if 0 ≤ x2 then
        (g_li_make x1 x2 o_1.2).bind fun o_31 =>
        some (1, o_31.2)
      else
        some (-14, o_1.2)
    else
      some (-2, o_1.2)
  else
    some (-1, o_1.2)
set_option maxHeartbeats 4000000 in
theorem g_c_list_ok {xl : Nat} {xs : Nat → Int32} {X1 : Int32} {x1 : Int} (hx1 : X1.toInt = x1) {X2 : Int32} {x2 : Int} (hx2 : X2.toInt = x2) {σ : zS} {p : Nat} {m : zM} {o : Int × zS} (H : zRep xl xs p m σ) (h : g_c_list x1 x2 σ = some o) : zGo xl xs (fun p' => p = p') 3 150 0 (z_can 150 0 (lv_args 0 [.ref 39, .int X1, .int X2])) [] m (vI o.1) o.2 := by
  have hq : z_mth 150 = some z_r150 := rfl
  unfold g_c_list at h
  show zGo xl xs (fun p' => p = p') 3 150 0 [(0, .ref 39), (1, .int X1), (2, .int X2)] [] m (vI o.1) o.2
  refine r_p hq 1 (pc' := 1) (L' := [(0, .ref 39), (1, .int X1), (2, .int X2)]) (st' := [.int X1]) rfl ?_
  obtain ⟨o_1, h_1, h⟩ := Option.bind_eq_some_iff.mp h
  refine r_csI (pc' := 4) (L' := [(0, .ref 39), (1, .int X1), (2, .int X2)]) (As := [.int X1]) (rest := []) (j := 58) hq (z_at.mk 3 rfl rfl) (Or.inl ⟨rfl, rfl⟩) rfl rfl (by omega) (g_li_isList_ok hx1 H h_1) rfl rfl ?_
  intro R_1 m_1 p_1 e_1 hR_1 H_1
  subst e_1
  rcases z_ite h with ⟨c_4, h⟩ | ⟨c_4, h⟩
  · refine r_t1 (pc' := 9) (L' := [(0, .ref 39), (1, .int X1), (2, .int X2)]) hq (z_at.mk 3 rfl rfl) rfl hR_1 c_4 rfl rfl ?_
    refine r_p hq 2 (pc' := 12) (L' := [(0, .ref 39), (1, .int X1), (2, .int X2)]) (st' := [.int ((60 : Int32)), .int X2]) rfl ?_
    rcases z_ite h with ⟨c_12, h⟩ | ⟨c_12, h⟩
    · refine r_t2 (pc' := 18) (L' := [(0, .ref 39), (1, .int X1), (2, .int X2)]) hq (z_at.mk 3 rfl rfl) rfl hx2 (rfl : (60 : Int32).toInt = 60) c_12 rfl rfl ?_
      refine r_p hq 1 (pc' := 19) (L' := [(0, .ref 39), (1, .int X1), (2, .int X2)]) (st' := [.int X2]) rfl ?_
      rcases z_ite h with ⟨c_19, h⟩ | ⟨c_19, h⟩
      · refine r_t1 (pc' := 25) (L' := [(0, .ref 39), (1, .int X1), (2, .int X2)]) hq (z_at.mk 3 rfl rfl) rfl hx2 c_19 rfl rfl ?_
        refine r_p hq 1 (pc' := 26) (L' := [(0, .ref 39), (1, .int X1), (2, .int X2)]) (st' := [.ref 39]) rfl ?_
        refine r_gR (b := 134) (pc' := 29) (L' := [(0, .ref 39), (1, .int X1), (2, .int X2)]) H_1 hq (z_at.mk 3 rfl rfl) rfl rfl rfl rfl ?_
        refine r_p hq 2 (pc' := 31) (L' := [(0, .ref 39), (1, .int X1), (2, .int X2)]) (st' := [.int X2, .int X1, .ref 134]) rfl ?_
        obtain ⟨o_31, h_31, h⟩ := Option.bind_eq_some_iff.mp h
        refine r_cvV (pc' := 34) (L' := [(0, .ref 39), (1, .int X1), (2, .int X2)]) (Ps := [.int X1, .int X2]) (rest := []) hq (z_at.mk 3 rfl rfl) (Or.inl ⟨rfl, rfl⟩) rfl rfl (by decide) (by decide) rfl (Nat.not_lt.mpr (Nat.le_of_ble_eq_true rfl)) rfl rfl (z_cat_le 0 rfl (by decide)) (z_lgl_le 3 rfl (by decide)) (by decide) (H_1.tg rfl) (by omega) (g_li_make_ok hx1 hx2 H_1 h_31) rfl rfl ?_
        intro m_31 p_31 e_31 H_31
        subst e_31
        refine r_p hq 1 (pc' := 35) (L' := [(0, .ref 39), (1, .int X1), (2, .int X2)]) (st' := [.int ((1 : Int32))]) rfl ?_
        cases h
        exact r_ri hq (z_at.mk 1 rfl rfl) rfl rfl (rfl : (1 : Int32).toInt = 1) rfl H_31
      · refine r_f1 (pc' := 22) (L' := [(0, .ref 39), (1, .int X1), (2, .int X2)]) hq (z_at.mk 3 rfl rfl) rfl hx2 c_19 rfl rfl ?_
        refine r_p hq 1 (pc' := 24) (L' := [(0, .ref 39), (1, .int X1), (2, .int X2)]) (st' := [.int ((-14 : Int32))]) rfl ?_
        cases h
        exact r_ri hq (z_at.mk 1 rfl rfl) rfl rfl (rfl : (-14 : Int32).toInt = -14) rfl H_1
    · refine r_f2 (pc' := 15) (L' := [(0, .ref 39), (1, .int X1), (2, .int X2)]) hq (z_at.mk 3 rfl rfl) rfl hx2 (rfl : (60 : Int32).toInt = 60) c_12 rfl rfl ?_
      refine r_p hq 1 (pc' := 17) (L' := [(0, .ref 39), (1, .int X1), (2, .int X2)]) (st' := [.int ((-2 : Int32))]) rfl ?_
      cases h
      exact r_ri hq (z_at.mk 1 rfl rfl) rfl rfl (rfl : (-2 : Int32).toInt = -2) rfl H_1
  · refine r_f1 (pc' := 7) (L' := [(0, .ref 39), (1, .int X1), (2, .int X2)]) hq (z_at.mk 3 rfl rfl) rfl hR_1 c_4 rfl rfl ?_
    refine r_p hq 1 (pc' := 8) (L' := [(0, .ref 39), (1, .int X1), (2, .int X2)]) (st' := [.int ((-1 : Int32))]) rfl ?_
    cases h
    exact r_ri hq (z_at.mk 1 rfl rfl) rfl rfl (rfl : (-1 : Int32).toInt = -1) rfl H_1
def g_c_set (x1 : Int) (x2 : Int) (y3 : Int) (σ : zS) : Option (Int × zS) :=
  (g_li_refusal x1 σ).bind fun o_5 =>
  if o_5.1 = 0 then
    (g_li_hasPlace x1 x2 o_5.2).bind fun o_24 =>
    if o_24.1 ≠ 0 then
      if 0 ≤ x1 ∧ x1 < 6 then
      let A_41 := 136 + (x1).toNat
      if 0 ≤ x2 ∧ x2 < 60 then
      let s_44 := zu o_24.2 A_41 x2 y3
      some (1, s_44)
      else none
      else none
    else
      some (-13, o_24.2)
  else
    some (o_5.1, o_5.2)
set_option maxHeartbeats 4000000 in
theorem g_c_set_ok {xl : Nat} {xs : Nat → Int32} {X1 : Int32} {x1 : Int} (hx1 : X1.toInt = x1) {X2 : Int32} {x2 : Int} (hx2 : X2.toInt = x2) {Y3 : Int64} {y3 : Int} (hy3 : Y3.toInt = y3) {σ : zS} {p : Nat} {m : zM} {o : Int × zS} (H : zRep xl xs p m σ) (h : g_c_set x1 x2 y3 σ = some o) : zGo xl xs (fun p' => p = p') 3 151 0 (z_can 151 0 (lv_args 0 [.ref 39, .int X1, .int X2, .long Y3])) [] m (vI o.1) o.2 := by
  have hq : z_mth 151 = some z_r151 := rfl
  unfold g_c_set at h
  show zGo xl xs (fun p' => p = p') 3 151 0 [(0, .ref 39), (1, .int X1), (2, .int X2), (3, .long Y3)] [] m (vI o.1) o.2
  refine r_p hq 1 (pc' := 1) (L' := [(0, .ref 39), (1, .int X1), (2, .int X2), (3, .long Y3)]) (st' := [.ref 39]) rfl ?_
  refine r_gR (b := 134) (pc' := 4) (L' := [(0, .ref 39), (1, .int X1), (2, .int X2), (3, .long Y3)]) H hq (z_at.mk 3 rfl rfl) rfl rfl rfl rfl ?_
  refine r_p hq 1 (pc' := 5) (L' := [(0, .ref 39), (1, .int X1), (2, .int X2), (3, .long Y3)]) (st' := [.int X1, .ref 134]) rfl ?_
  obtain ⟨o_5, h_5, h⟩ := Option.bind_eq_some_iff.mp h
  refine r_cvI (pc' := 8) (L' := [(0, .ref 39), (1, .int X1), (2, .int X2), (3, .long Y3)]) (Ps := [.int X1]) (rest := []) hq (z_at.mk 3 rfl rfl) (Or.inl ⟨rfl, rfl⟩) rfl rfl (by decide) (by decide) rfl (Nat.not_lt.mpr (Nat.le_of_ble_eq_true rfl)) rfl rfl (z_cat_le 0 rfl (by decide)) (z_lgl_le 2 rfl (by decide)) (by decide) (H.tg rfl) (by omega) (g_li_refusal_ok hx1 H h_5) rfl rfl ?_
  intro R_5 m_5 p_5 e_5 hR_5 H_5
  subst e_5
  refine r_p hq 2 (pc' := 12) (L' := [(5, .int R_5), (0, .ref 39), (1, .int X1), (2, .int X2), (3, .long Y3)]) (st' := [.int R_5]) rfl ?_
  rcases z_ite h with ⟨c_12, h⟩ | ⟨c_12, h⟩
  · refine r_t1 (pc' := 18) (L' := [(5, .int R_5), (0, .ref 39), (1, .int X1), (2, .int X2), (3, .long Y3)]) hq (z_at.mk 3 rfl rfl) rfl hR_5 c_12 rfl rfl ?_
    refine r_p hq 1 (pc' := 19) (L' := [(5, .int R_5), (0, .ref 39), (1, .int X1), (2, .int X2), (3, .long Y3)]) (st' := [.ref 39]) rfl ?_
    refine r_gR (b := 134) (pc' := 22) (L' := [(5, .int R_5), (0, .ref 39), (1, .int X1), (2, .int X2), (3, .long Y3)]) H_5 hq (z_at.mk 3 rfl rfl) rfl rfl rfl rfl ?_
    refine r_p hq 2 (pc' := 24) (L' := [(5, .int R_5), (0, .ref 39), (1, .int X1), (2, .int X2), (3, .long Y3)]) (st' := [.int X2, .int X1, .ref 134]) rfl ?_
    obtain ⟨o_24, h_24, h⟩ := Option.bind_eq_some_iff.mp h
    refine r_cvI (pc' := 27) (L' := [(5, .int R_5), (0, .ref 39), (1, .int X1), (2, .int X2), (3, .long Y3)]) (Ps := [.int X1, .int X2]) (rest := []) hq (z_at.mk 3 rfl rfl) (Or.inl ⟨rfl, rfl⟩) rfl rfl (by decide) (by decide) rfl (Nat.not_lt.mpr (Nat.le_of_ble_eq_true rfl)) rfl rfl (z_cat_le 0 rfl (by decide)) (z_lgl_le 3 rfl (by decide)) (by decide) (H_5.tg rfl) (by omega) (g_li_hasPlace_ok hx1 hx2 H_5 h_24) rfl rfl ?_
    intro R_24 m_24 p_24 e_24 hR_24 H_24
    subst e_24
    rcases z_ite h with ⟨c_27, h⟩ | ⟨c_27, h⟩
    · refine r_t1 (pc' := 33) (L' := [(5, .int R_5), (0, .ref 39), (1, .int X1), (2, .int X2), (3, .long Y3)]) hq (z_at.mk 3 rfl rfl) rfl hR_24 c_27 rfl rfl ?_
      refine r_p hq 1 (pc' := 34) (L' := [(5, .int R_5), (0, .ref 39), (1, .int X1), (2, .int X2), (3, .long Y3)]) (st' := [.ref 39]) rfl ?_
      refine r_gR (b := 134) (pc' := 37) (L' := [(5, .int R_5), (0, .ref 39), (1, .int X1), (2, .int X2), (3, .long Y3)]) H_24 hq (z_at.mk 3 rfl rfl) rfl rfl rfl rfl ?_
      refine r_gR (b := 135) (pc' := 40) (L' := [(5, .int R_5), (0, .ref 39), (1, .int X1), (2, .int X2), (3, .long Y3)]) H_24 hq (z_at.mk 3 rfl rfl) rfl rfl rfl rfl ?_
      refine r_p hq 1 (pc' := 41) (L' := [(5, .int R_5), (0, .ref 39), (1, .int X1), (2, .int X2), (3, .long Y3)]) (st' := [.int X1, .ref 135]) rfl ?_
      obtain ⟨g_41, h⟩ := z_ifo_some h
      refine r_aa (pc' := 42) (L' := [(5, .int R_5), (0, .ref 39), (1, .int X1), (2, .int X2), (3, .long Y3)]) H_24 hq (z_at.mk 1 rfl rfl) hx1 g_41 rfl rfl ?_
      intro A_41 hE_41 hA_41
      rw [← hE_41] at h
      refine r_p hq 2 (pc' := 44) (L' := [(5, .int R_5), (0, .ref 39), (1, .int X1), (2, .int X2), (3, .long Y3)]) (st' := [.long Y3, .int X2, .ref A_41]) rfl ?_
      obtain ⟨g_44, h⟩ := z_ifo_some h
      refine r_ls (pc' := 45) (L' := [(5, .int R_5), (0, .ref 39), (1, .int X1), (2, .int X2), (3, .long Y3)]) H_24 hq (z_at.mk 1 rfl rfl) (zIn_all (l := [136, 137, 138, 139, 140, 141]) (p := fun a => zAr a 1 60) rfl hA_41) hx2 g_44 hy3 rfl rfl ?_
      intro m_44 H_44
      refine r_p hq 1 (pc' := 46) (L' := [(5, .int R_5), (0, .ref 39), (1, .int X1), (2, .int X2), (3, .long Y3)]) (st' := [.int ((1 : Int32))]) rfl ?_
      cases h
      exact r_ri hq (z_at.mk 1 rfl rfl) rfl rfl (rfl : (1 : Int32).toInt = 1) rfl H_44
    · refine r_f1 (pc' := 30) (L' := [(5, .int R_5), (0, .ref 39), (1, .int X1), (2, .int X2), (3, .long Y3)]) hq (z_at.mk 3 rfl rfl) rfl hR_24 c_27 rfl rfl ?_
      refine r_p hq 1 (pc' := 32) (L' := [(5, .int R_5), (0, .ref 39), (1, .int X1), (2, .int X2), (3, .long Y3)]) (st' := [.int ((-13 : Int32))]) rfl ?_
      cases h
      exact r_ri hq (z_at.mk 1 rfl rfl) rfl rfl (rfl : (-13 : Int32).toInt = -13) rfl H_24
  · refine r_f1 (pc' := 15) (L' := [(5, .int R_5), (0, .ref 39), (1, .int X1), (2, .int X2), (3, .long Y3)]) hq (z_at.mk 3 rfl rfl) rfl hR_5 c_12 rfl rfl ?_
    refine r_p hq 1 (pc' := 17) (L' := [(5, .int R_5), (0, .ref 39), (1, .int X1), (2, .int X2), (3, .long Y3)]) (st' := [.int R_5]) rfl ?_
    cases h
    exact r_ri hq (z_at.mk 1 rfl rfl) rfl rfl hR_5 rfl H_5
def g_c_get (x1 : Int) (x2 : Int) (σ : zS) : Option (Int × zS) :=
  (g_li_hasPlace x1 x2 σ).bind fun o_6 =>
  if o_6.1 = 0 then
    some (-9223372036854775808, o_6.2)
  else
    if 0 ≤ x1 ∧ x1 < 6 then
    let A_20 := 136 + (x1).toNat
    if 0 ≤ x2 ∧ x2 < 60 then
    let v_22 := o_6.2 A_20 x2
    some (v_22, o_6.2)
    else none
    else none
set_option maxHeartbeats 4000000 in
theorem g_c_get_ok {xl : Nat} {xs : Nat → Int32} {X1 : Int32} {x1 : Int} (hx1 : X1.toInt = x1) {X2 : Int32} {x2 : Int} (hx2 : X2.toInt = x2) {σ : zS} {p : Nat} {m : zM} {o : Int × zS} (H : zRep xl xs p m σ) (h : g_c_get x1 x2 σ = some o) : zGo xl xs (fun p' => p = p') 3 152 0 (z_can 152 0 (lv_args 0 [.ref 39, .int X1, .int X2])) [] m (vL o.1) o.2 := by
  have hq : z_mth 152 = some z_r152 := rfl
  unfold g_c_get at h
  show zGo xl xs (fun p' => p = p') 3 152 0 [(0, .ref 39), (1, .int X1), (2, .int X2)] [] m (vL o.1) o.2
  refine r_p hq 1 (pc' := 1) (L' := [(0, .ref 39), (1, .int X1), (2, .int X2)]) (st' := [.ref 39]) rfl ?_
  refine r_gR (b := 134) (pc' := 4) (L' := [(0, .ref 39), (1, .int X1), (2, .int X2)]) H hq (z_at.mk 3 rfl rfl) rfl rfl rfl rfl ?_
  refine r_p hq 2 (pc' := 6) (L' := [(0, .ref 39), (1, .int X1), (2, .int X2)]) (st' := [.int X2, .int X1, .ref 134]) rfl ?_
  obtain ⟨o_6, h_6, h⟩ := Option.bind_eq_some_iff.mp h
  refine r_cvI (pc' := 9) (L' := [(0, .ref 39), (1, .int X1), (2, .int X2)]) (Ps := [.int X1, .int X2]) (rest := []) hq (z_at.mk 3 rfl rfl) (Or.inl ⟨rfl, rfl⟩) rfl rfl (by decide) (by decide) rfl (Nat.not_lt.mpr (Nat.le_of_ble_eq_true rfl)) rfl rfl (z_cat_le 0 rfl (by decide)) (z_lgl_le 3 rfl (by decide)) (by decide) (H.tg rfl) (by omega) (g_li_hasPlace_ok hx1 hx2 H h_6) rfl rfl ?_
  intro R_6 m_6 p_6 e_6 hR_6 H_6
  subst e_6
  rcases z_ite h with ⟨c_9, h⟩ | ⟨c_9, h⟩
  · refine r_t1 (pc' := 26) (L' := [(0, .ref 39), (1, .int X1), (2, .int X2)]) hq (z_at.mk 3 rfl rfl) rfl hR_6 c_9 rfl rfl ?_
    refine r_p hq 1 (pc' := 29) (L' := []) (st' := [.long ((-9223372036854775808 : Int64))]) rfl ?_
    cases h
    exact r_rl hq (z_at.mk 1 rfl rfl) rfl (rfl : (-9223372036854775808 : Int64).toInt = -9223372036854775808) rfl H_6
  · refine r_f1 (pc' := 12) (L' := [(0, .ref 39), (1, .int X1), (2, .int X2)]) hq (z_at.mk 3 rfl rfl) rfl hR_6 c_9 rfl rfl ?_
    refine r_p hq 1 (pc' := 13) (L' := [(0, .ref 39), (1, .int X1), (2, .int X2)]) (st' := [.ref 39]) rfl ?_
    refine r_gR (b := 134) (pc' := 16) (L' := [(0, .ref 39), (1, .int X1), (2, .int X2)]) H_6 hq (z_at.mk 3 rfl rfl) rfl rfl rfl rfl ?_
    refine r_gR (b := 135) (pc' := 19) (L' := [(0, .ref 39), (1, .int X1), (2, .int X2)]) H_6 hq (z_at.mk 3 rfl rfl) rfl rfl rfl rfl ?_
    refine r_p hq 1 (pc' := 20) (L' := [(0, .ref 39), (1, .int X1), (2, .int X2)]) (st' := [.int X1, .ref 135]) rfl ?_
    obtain ⟨g_20, h⟩ := z_ifo_some h
    refine r_aa (pc' := 21) (L' := [(0, .ref 39), (1, .int X1), (2, .int X2)]) H_6 hq (z_at.mk 1 rfl rfl) hx1 g_20 rfl rfl ?_
    intro A_20 hE_20 hA_20
    rw [← hE_20] at h
    refine r_p hq 1 (pc' := 22) (L' := [(0, .ref 39), (1, .int X1), (2, .int X2)]) (st' := [.int X2, .ref A_20]) rfl ?_
    obtain ⟨g_22, h⟩ := z_ifo_some h
    refine r_la (pc' := 23) (L' := [(0, .ref 39), (1, .int X1), (2, .int X2)]) H_6 hq (z_at.mk 1 rfl rfl) (zIn_all (l := [136, 137, 138, 139, 140, 141]) (p := fun a => zAr a 1 60) rfl hA_20) hx2 g_22 rfl rfl ?_
    intro V_22 hV_22
    refine r_p hq 1 (pc' := 29) (L' := []) (st' := [.long V_22]) rfl ?_
    cases h
    exact r_rl hq (z_at.mk 1 rfl rfl) rfl hV_22 rfl H_6
def g_c_move (x1 : Int) (x2 : Int) (x3 : Int) (x4 : Int) (x5 : Int) (σ : zS) : Option (Int × zS) :=
  (g_li_isList x1 σ).bind fun o_1 =>
  if o_1.1 = 0 then
    some (-1, o_1.2)
  else
    (g_li_isList x3 o_1.2).bind fun o_8 =>
    if o_8.1 ≠ 0 then
      (g_li_refusal x1 o_8.2).bind fun o_21 =>
      if o_21.1 ≠ 0 then
        some (-11, o_21.2)
      else
        (g_li_refusal x3 o_21.2).bind fun o_32 =>
        if o_32.1 = 0 then
          (g_li_hasSpan x1 x2 x5 o_32.2).bind fun o_49 =>
          if o_49.1 = 0 then
            some (-13, o_49.2)
          else
            (g_li_hasSpan x3 x4 x5 o_49.2).bind fun o_64 =>
            if o_64.1 ≠ 0 then
              if 0 ≤ x1 ∧ x1 < 6 then
              let A_81 := 136 + (x1).toNat
              if 0 ≤ x3 ∧ x3 < 6 then
              let A_91 := 136 + (x3).toNat
              if (0 : Int) ≤ x2 ∧ (0 : Int) ≤ x4 ∧ (0 : Int) ≤ x5 ∧ x2 + x5 ≤ 60 ∧ x4 + x5 ≤ 60 then
              let s_96 := zcp o_64.2 A_81 x2 A_91 x4 x5
              some (x5, s_96)
              else none
              else none
              else none
            else
              some (-13, o_64.2)
        else
          some (-11, o_32.2)
    else
      some (-1, o_8.2)
set_option maxHeartbeats 4000000 in
theorem g_c_move_ok {xl : Nat} {xs : Nat → Int32} {X1 : Int32} {x1 : Int} (hx1 : X1.toInt = x1) {X2 : Int32} {x2 : Int} (hx2 : X2.toInt = x2) {X3 : Int32} {x3 : Int} (hx3 : X3.toInt = x3) {X4 : Int32} {x4 : Int} (hx4 : X4.toInt = x4) {X5 : Int32} {x5 : Int} (hx5 : X5.toInt = x5) {σ : zS} {p : Nat} {m : zM} {o : Int × zS} (H : zRep xl xs p m σ) (h : g_c_move x1 x2 x3 x4 x5 σ = some o) : zGo xl xs (fun p' => p = p') 3 153 0 (z_can 153 0 (lv_args 0 [.ref 39, .int X1, .int X2, .int X3, .int X4, .int X5])) [] m (vI o.1) o.2 := by
  have hq : z_mth 153 = some z_r153 := rfl
  unfold g_c_move at h
  show zGo xl xs (fun p' => p = p') 3 153 0 [(0, .ref 39), (1, .int X1), (2, .int X2), (3, .int X3), (4, .int X4), (5, .int X5)] [] m (vI o.1) o.2
  refine r_p hq 1 (pc' := 1) (L' := [(0, .ref 39), (1, .int X1), (2, .int X2), (3, .int X3), (4, .int X4), (5, .int X5)]) (st' := [.int X1]) rfl ?_
  obtain ⟨o_1, h_1, h⟩ := Option.bind_eq_some_iff.mp h
  refine r_csI (pc' := 4) (L' := [(0, .ref 39), (1, .int X1), (2, .int X2), (3, .int X3), (4, .int X4), (5, .int X5)]) (As := [.int X1]) (rest := []) (j := 58) hq (z_at.mk 3 rfl rfl) (Or.inl ⟨rfl, rfl⟩) rfl rfl (by omega) (g_li_isList_ok hx1 H h_1) rfl rfl ?_
  intro R_1 m_1 p_1 e_1 hR_1 H_1
  subst e_1
  rcases z_ite h with ⟨c_4, h⟩ | ⟨c_4, h⟩
  · refine r_t1 (pc' := 14) (L' := []) hq (z_at.mk 3 rfl rfl) rfl hR_1 c_4 rfl rfl ?_
    refine r_p hq 1 (pc' := 15) (L' := []) (st' := [.int ((-1 : Int32))]) rfl ?_
    cases h
    exact r_ri hq (z_at.mk 1 rfl rfl) rfl rfl (rfl : (-1 : Int32).toInt = -1) rfl H_1
  · refine r_f1 (pc' := 7) (L' := [(0, .ref 39), (1, .int X1), (2, .int X2), (3, .int X3), (4, .int X4), (5, .int X5)]) hq (z_at.mk 3 rfl rfl) rfl hR_1 c_4 rfl rfl ?_
    refine r_p hq 1 (pc' := 8) (L' := [(0, .ref 39), (1, .int X1), (2, .int X2), (3, .int X3), (4, .int X4), (5, .int X5)]) (st' := [.int X3]) rfl ?_
    obtain ⟨o_8, h_8, h⟩ := Option.bind_eq_some_iff.mp h
    refine r_csI (pc' := 11) (L' := [(0, .ref 39), (1, .int X1), (2, .int X2), (3, .int X3), (4, .int X4), (5, .int X5)]) (As := [.int X3]) (rest := []) (j := 58) hq (z_at.mk 3 rfl rfl) (Or.inl ⟨rfl, rfl⟩) rfl rfl (by omega) (g_li_isList_ok hx3 H_1 h_8) rfl rfl ?_
    intro R_8 m_8 p_8 e_8 hR_8 H_8
    subst e_8
    rcases z_ite h with ⟨c_11, h⟩ | ⟨c_11, h⟩
    · refine r_t1 (pc' := 16) (L' := [(0, .ref 39), (1, .int X1), (2, .int X2), (3, .int X3), (4, .int X4), (5, .int X5)]) hq (z_at.mk 3 rfl rfl) rfl hR_8 c_11 rfl rfl ?_
      refine r_p hq 1 (pc' := 17) (L' := [(0, .ref 39), (1, .int X1), (2, .int X2), (3, .int X3), (4, .int X4), (5, .int X5)]) (st' := [.ref 39]) rfl ?_
      refine r_gR (b := 134) (pc' := 20) (L' := [(0, .ref 39), (1, .int X1), (2, .int X2), (3, .int X3), (4, .int X4), (5, .int X5)]) H_8 hq (z_at.mk 3 rfl rfl) rfl rfl rfl rfl ?_
      refine r_p hq 1 (pc' := 21) (L' := [(0, .ref 39), (1, .int X1), (2, .int X2), (3, .int X3), (4, .int X4), (5, .int X5)]) (st' := [.int X1, .ref 134]) rfl ?_
      obtain ⟨o_21, h_21, h⟩ := Option.bind_eq_some_iff.mp h
      refine r_cvI (pc' := 24) (L' := [(0, .ref 39), (1, .int X1), (2, .int X2), (3, .int X3), (4, .int X4), (5, .int X5)]) (Ps := [.int X1]) (rest := []) hq (z_at.mk 3 rfl rfl) (Or.inl ⟨rfl, rfl⟩) rfl rfl (by decide) (by decide) rfl (Nat.not_lt.mpr (Nat.le_of_ble_eq_true rfl)) rfl rfl (z_cat_le 0 rfl (by decide)) (z_lgl_le 2 rfl (by decide)) (by decide) (H_8.tg rfl) (by omega) (g_li_refusal_ok hx1 H_8 h_21) rfl rfl ?_
      intro R_21 m_21 p_21 e_21 hR_21 H_21
      subst e_21
      rcases z_ite h with ⟨c_24, h⟩ | ⟨c_24, h⟩
      · refine r_t1 (pc' := 38) (L' := []) hq (z_at.mk 3 rfl rfl) rfl hR_21 c_24 rfl rfl ?_
        refine r_p hq 1 (pc' := 40) (L' := []) (st' := [.int ((-11 : Int32))]) rfl ?_
        cases h
        exact r_ri hq (z_at.mk 1 rfl rfl) rfl rfl (rfl : (-11 : Int32).toInt = -11) rfl H_21
      · refine r_f1 (pc' := 27) (L' := [(0, .ref 39), (1, .int X1), (2, .int X2), (3, .int X3), (4, .int X4), (5, .int X5)]) hq (z_at.mk 3 rfl rfl) rfl hR_21 c_24 rfl rfl ?_
        refine r_p hq 1 (pc' := 28) (L' := [(0, .ref 39), (1, .int X1), (2, .int X2), (3, .int X3), (4, .int X4), (5, .int X5)]) (st' := [.ref 39]) rfl ?_
        refine r_gR (b := 134) (pc' := 31) (L' := [(0, .ref 39), (1, .int X1), (2, .int X2), (3, .int X3), (4, .int X4), (5, .int X5)]) H_21 hq (z_at.mk 3 rfl rfl) rfl rfl rfl rfl ?_
        refine r_p hq 1 (pc' := 32) (L' := [(0, .ref 39), (1, .int X1), (2, .int X2), (3, .int X3), (4, .int X4), (5, .int X5)]) (st' := [.int X3, .ref 134]) rfl ?_
        obtain ⟨o_32, h_32, h⟩ := Option.bind_eq_some_iff.mp h
        refine r_cvI (pc' := 35) (L' := [(0, .ref 39), (1, .int X1), (2, .int X2), (3, .int X3), (4, .int X4), (5, .int X5)]) (Ps := [.int X3]) (rest := []) hq (z_at.mk 3 rfl rfl) (Or.inl ⟨rfl, rfl⟩) rfl rfl (by decide) (by decide) rfl (Nat.not_lt.mpr (Nat.le_of_ble_eq_true rfl)) rfl rfl (z_cat_le 0 rfl (by decide)) (z_lgl_le 2 rfl (by decide)) (by decide) (H_21.tg rfl) (by omega) (g_li_refusal_ok hx3 H_21 h_32) rfl rfl ?_
        intro R_32 m_32 p_32 e_32 hR_32 H_32
        subst e_32
        rcases z_ite h with ⟨c_35, h⟩ | ⟨c_35, h⟩
        · refine r_t1 (pc' := 41) (L' := [(0, .ref 39), (1, .int X1), (2, .int X2), (3, .int X3), (4, .int X4), (5, .int X5)]) hq (z_at.mk 3 rfl rfl) rfl hR_32 c_35 rfl rfl ?_
          refine r_p hq 1 (pc' := 42) (L' := [(0, .ref 39), (1, .int X1), (2, .int X2), (3, .int X3), (4, .int X4), (5, .int X5)]) (st' := [.ref 39]) rfl ?_
          refine r_gR (b := 134) (pc' := 45) (L' := [(0, .ref 39), (1, .int X1), (2, .int X2), (3, .int X3), (4, .int X4), (5, .int X5)]) H_32 hq (z_at.mk 3 rfl rfl) rfl rfl rfl rfl ?_
          refine r_p hq 3 (pc' := 49) (L' := [(0, .ref 39), (1, .int X1), (2, .int X2), (3, .int X3), (4, .int X4), (5, .int X5)]) (st' := [.int X5, .int X2, .int X1, .ref 134]) rfl ?_
          obtain ⟨o_49, h_49, h⟩ := Option.bind_eq_some_iff.mp h
          refine r_cvI (pc' := 52) (L' := [(0, .ref 39), (1, .int X1), (2, .int X2), (3, .int X3), (4, .int X4), (5, .int X5)]) (Ps := [.int X1, .int X2, .int X5]) (rest := []) hq (z_at.mk 3 rfl rfl) (Or.inl ⟨rfl, rfl⟩) rfl rfl (by decide) (by decide) rfl (Nat.not_lt.mpr (Nat.le_of_ble_eq_true rfl)) rfl rfl (z_cat_le 0 rfl (by decide)) (z_lgl_le 4 rfl (by decide)) (by decide) (H_32.tg rfl) (by omega) (g_li_hasSpan_ok hx1 hx2 hx5 H_32 h_49) rfl rfl ?_
          intro R_49 m_49 p_49 e_49 hR_49 H_49
          subst e_49
          rcases z_ite h with ⟨c_52, h⟩ | ⟨c_52, h⟩
          · refine r_t1 (pc' := 70) (L' := []) hq (z_at.mk 3 rfl rfl) rfl hR_49 c_52 rfl rfl ?_
            refine r_p hq 1 (pc' := 72) (L' := []) (st' := [.int ((-13 : Int32))]) rfl ?_
            cases h
            exact r_ri hq (z_at.mk 1 rfl rfl) rfl rfl (rfl : (-13 : Int32).toInt = -13) rfl H_49
          · refine r_f1 (pc' := 55) (L' := [(0, .ref 39), (1, .int X1), (2, .int X2), (3, .int X3), (4, .int X4), (5, .int X5)]) hq (z_at.mk 3 rfl rfl) rfl hR_49 c_52 rfl rfl ?_
            refine r_p hq 1 (pc' := 56) (L' := [(0, .ref 39), (1, .int X1), (2, .int X2), (3, .int X3), (4, .int X4), (5, .int X5)]) (st' := [.ref 39]) rfl ?_
            refine r_gR (b := 134) (pc' := 59) (L' := [(0, .ref 39), (1, .int X1), (2, .int X2), (3, .int X3), (4, .int X4), (5, .int X5)]) H_49 hq (z_at.mk 3 rfl rfl) rfl rfl rfl rfl ?_
            refine r_p hq 3 (pc' := 64) (L' := [(0, .ref 39), (1, .int X1), (2, .int X2), (3, .int X3), (4, .int X4), (5, .int X5)]) (st' := [.int X5, .int X4, .int X3, .ref 134]) rfl ?_
            obtain ⟨o_64, h_64, h⟩ := Option.bind_eq_some_iff.mp h
            refine r_cvI (pc' := 67) (L' := [(0, .ref 39), (1, .int X1), (2, .int X2), (3, .int X3), (4, .int X4), (5, .int X5)]) (Ps := [.int X3, .int X4, .int X5]) (rest := []) hq (z_at.mk 3 rfl rfl) (Or.inl ⟨rfl, rfl⟩) rfl rfl (by decide) (by decide) rfl (Nat.not_lt.mpr (Nat.le_of_ble_eq_true rfl)) rfl rfl (z_cat_le 0 rfl (by decide)) (z_lgl_le 4 rfl (by decide)) (by decide) (H_49.tg rfl) (by omega) (g_li_hasSpan_ok hx3 hx4 hx5 H_49 h_64) rfl rfl ?_
            intro R_64 m_64 p_64 e_64 hR_64 H_64
            subst e_64
            rcases z_ite h with ⟨c_67, h⟩ | ⟨c_67, h⟩
            · refine r_t1 (pc' := 73) (L' := [(0, .ref 39), (1, .int X1), (2, .int X2), (3, .int X3), (4, .int X4), (5, .int X5)]) hq (z_at.mk 3 rfl rfl) rfl hR_64 c_67 rfl rfl ?_
              refine r_p hq 1 (pc' := 74) (L' := [(0, .ref 39), (1, .int X1), (2, .int X2), (3, .int X3), (4, .int X4), (5, .int X5)]) (st' := [.ref 39]) rfl ?_
              refine r_gR (b := 134) (pc' := 77) (L' := [(0, .ref 39), (1, .int X1), (2, .int X2), (3, .int X3), (4, .int X4), (5, .int X5)]) H_64 hq (z_at.mk 3 rfl rfl) rfl rfl rfl rfl ?_
              refine r_gR (b := 135) (pc' := 80) (L' := [(0, .ref 39), (1, .int X1), (2, .int X2), (3, .int X3), (4, .int X4), (5, .int X5)]) H_64 hq (z_at.mk 3 rfl rfl) rfl rfl rfl rfl ?_
              refine r_p hq 1 (pc' := 81) (L' := [(0, .ref 39), (1, .int X1), (2, .int X2), (3, .int X3), (4, .int X4), (5, .int X5)]) (st' := [.int X1, .ref 135]) rfl ?_
              obtain ⟨g_81, h⟩ := z_ifo_some h
              refine r_aa (pc' := 82) (L' := [(0, .ref 39), (1, .int X1), (2, .int X2), (3, .int X3), (4, .int X4), (5, .int X5)]) H_64 hq (z_at.mk 1 rfl rfl) hx1 g_81 rfl rfl ?_
              intro A_81 hE_81 hA_81
              rw [← hE_81] at h
              refine r_p hq 2 (pc' := 84) (L' := [(0, .ref 39), (1, .int X1), (2, .int X2), (3, .int X3), (4, .int X4), (5, .int X5)]) (st' := [.ref 39, .int X2, .ref A_81]) rfl ?_
              refine r_gR (b := 134) (pc' := 87) (L' := [(0, .ref 39), (1, .int X1), (2, .int X2), (3, .int X3), (4, .int X4), (5, .int X5)]) H_64 hq (z_at.mk 3 rfl rfl) rfl rfl rfl rfl ?_
              refine r_gR (b := 135) (pc' := 90) (L' := [(0, .ref 39), (1, .int X1), (2, .int X2), (3, .int X3), (4, .int X4), (5, .int X5)]) H_64 hq (z_at.mk 3 rfl rfl) rfl rfl rfl rfl ?_
              refine r_p hq 1 (pc' := 91) (L' := [(0, .ref 39), (1, .int X1), (2, .int X2), (3, .int X3), (4, .int X4), (5, .int X5)]) (st' := [.int X3, .ref 135, .int X2, .ref A_81]) rfl ?_
              obtain ⟨g_91, h⟩ := z_ifo_some h
              refine r_aa (pc' := 92) (L' := [(0, .ref 39), (1, .int X1), (2, .int X2), (3, .int X3), (4, .int X4), (5, .int X5)]) H_64 hq (z_at.mk 1 rfl rfl) hx3 g_91 rfl rfl ?_
              intro A_91 hE_91 hA_91
              rw [← hE_91] at h
              refine r_p hq 2 (pc' := 96) (L' := [(0, .ref 39), (1, .int X1), (2, .int X2), (3, .int X3), (4, .int X4), (5, .int X5)]) (st' := [.int X5, .int X4, .ref A_91, .int X2, .ref A_81]) rfl ?_
              obtain ⟨g_96, h⟩ := z_ifo_some h
              refine r_cp (t := 1) (pc' := 99) (L' := [(0, .ref 39), (1, .int X1), (2, .int X2), (3, .int X3), (4, .int X4), (5, .int X5)]) H_64 hq (z_at.mk 3 rfl rfl) rfl (by decide) (by decide) (zIn_all (l := [136, 137, 138, 139, 140, 141]) (p := fun a => zAr a 1 60) rfl hA_81) (zIn_all (l := [136, 137, 138, 139, 140, 141]) (p := fun a => zAr a 1 60) rfl hA_91) hx2 hx4 hx5 g_96 rfl rfl ?_
              intro m_96 H_96
              refine r_p hq 1 (pc' := 101) (L' := [(0, .ref 39), (1, .int X1), (2, .int X2), (3, .int X3), (4, .int X4), (5, .int X5)]) (st' := [.int X5]) rfl ?_
              cases h
              exact r_ri hq (z_at.mk 1 rfl rfl) rfl rfl hx5 rfl H_96
            · refine r_f1 (pc' := 70) (L' := []) hq (z_at.mk 3 rfl rfl) rfl hR_64 c_67 rfl rfl ?_
              refine r_p hq 1 (pc' := 72) (L' := []) (st' := [.int ((-13 : Int32))]) rfl ?_
              cases h
              exact r_ri hq (z_at.mk 1 rfl rfl) rfl rfl (rfl : (-13 : Int32).toInt = -13) rfl H_64
        · refine r_f1 (pc' := 38) (L' := []) hq (z_at.mk 3 rfl rfl) rfl hR_32 c_35 rfl rfl ?_
          refine r_p hq 1 (pc' := 40) (L' := []) (st' := [.int ((-11 : Int32))]) rfl ?_
          cases h
          exact r_ri hq (z_at.mk 1 rfl rfl) rfl rfl (rfl : (-11 : Int32).toInt = -11) rfl H_32
    · refine r_f1 (pc' := 14) (L' := []) hq (z_at.mk 3 rfl rfl) rfl hR_8 c_11 rfl rfl ?_
      refine r_p hq 1 (pc' := 15) (L' := []) (st' := [.int ((-1 : Int32))]) rfl ?_
      cases h
      exact r_ri hq (z_at.mk 1 rfl rfl) rfl rfl (rfl : (-1 : Int32).toInt = -1) rfl H_8
