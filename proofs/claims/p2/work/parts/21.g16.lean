/-! THE METHODS over the typed memory, 16 (by wip/zg.py) -/
def g_m_trace (x1 : Int) (x2 : Int) (x3 : Int) (x4 : Int) (σ : zS) : Option (Int × zS) :=
  if x1 ≠ -1 then
    (g_m_isBox x1 x2 x3 x4 σ).bind fun o_20 =>
    if o_20.1 ≠ 0 then
      let v_35 := o_20.2 144 9
      if v_35 ≠ 10 then
        let v_58 := o_20.2 144 9
        (g_m_sets 144 (w32 (260 + (w32 (4 * v_58)))) x1 x2 x3 x4 o_20.2).bind fun o_66 =>
        let v_76 := o_66.2 144 9
        let s_79 := zu o_66.2 144 9 (w32 (v_76 + 1))
        let v_86 := s_79 144 9
        some (v_86, s_79)
      else
        some (-4, o_20.2)
    else
      some (-2, o_20.2)
  else
    let s_12 := zu σ 144 9 0
    some (0, s_12)
set_option maxHeartbeats 4000000 in
theorem g_m_trace_ok {xl : Nat} {xs : Nat → Int32} {X1 : Int32} {x1 : Int} (hx1 : X1.toInt = x1) {X2 : Int32} {x2 : Int} (hx2 : X2.toInt = x2) {X3 : Int32} {x3 : Int} (hx3 : X3.toInt = x3) {X4 : Int32} {x4 : Int} (hx4 : X4.toInt = x4) {σ : zS} {p : Nat} {m : zM} {o : Int × zS} (H : zRep xl xs p m σ) (h : g_m_trace x1 x2 x3 x4 σ = some o) : zGo xl xs (fun p' => p = p') 3 254 0 (z_can 254 0 (lv_args 0 [.ref 143, .int X1, .int X2, .int X3, .int X4])) [] m (vI o.1) o.2 := by
  have hq : z_mth 254 = some z_r254 := rfl
  unfold g_m_trace at h
  show zGo xl xs (fun p' => p = p') 3 254 0 [(0, .ref 143), (1, .int X1), (2, .int X2), (3, .int X3), (4, .int X4)] [] m (vI o.1) o.2
  refine r_p hq 2 (pc' := 2) (L' := [(0, .ref 143), (1, .int X1), (2, .int X2), (3, .int X3), (4, .int X4)]) (st' := [.int ((-1 : Int32)), .int X1]) rfl ?_
  rcases z_ite h with ⟨c_2, h⟩ | ⟨c_2, h⟩
  · refine r_t2 (pc' := 15) (L' := [(0, .ref 143), (1, .int X1), (2, .int X2), (3, .int X3), (4, .int X4)]) hq (z_at.mk 3 rfl rfl) rfl hx1 (rfl : (-1 : Int32).toInt = -1) c_2 rfl rfl ?_
    refine r_p hq 4 (pc' := 20) (L' := [(0, .ref 143), (1, .int X1), (2, .int X2), (3, .int X3), (4, .int X4)]) (st' := [.int X4, .int X3, .int X2, .int X1]) rfl ?_
    obtain ⟨o_20, h_20, h⟩ := Option.bind_eq_some_iff.mp h
    refine r_csI (pc' := 23) (L' := [(0, .ref 143), (1, .int X1), (2, .int X2), (3, .int X3), (4, .int X4)]) (As := [.int X1, .int X2, .int X3, .int X4]) (rest := []) (j := 164) hq (z_at.mk 3 rfl rfl) (Or.inl ⟨rfl, rfl⟩) rfl rfl (by omega) (g_m_isBox_ok hx1 hx2 hx3 hx4 H h_20) rfl rfl ?_
    intro R_20 m_20 p_20 e_20 hR_20 H_20
    subst e_20
    rcases z_ite h with ⟨c_23, h⟩ | ⟨c_23, h⟩
    · refine r_t1 (pc' := 29) (L' := [(0, .ref 143), (1, .int X1), (2, .int X2), (3, .int X3), (4, .int X4)]) hq (z_at.mk 3 rfl rfl) rfl hR_20 c_23 rfl rfl ?_
      refine r_p hq 1 (pc' := 30) (L' := [(0, .ref 143), (1, .int X1), (2, .int X2), (3, .int X3), (4, .int X4)]) (st' := [.ref 143]) rfl ?_
      refine r_gR (b := 144) (pc' := 33) (L' := [(0, .ref 143), (1, .int X1), (2, .int X2), (3, .int X3), (4, .int X4)]) H_20 hq (z_at.mk 3 rfl rfl) rfl rfl rfl rfl ?_
      refine r_p hq 1 (pc' := 35) (L' := [(0, .ref 143), (1, .int X1), (2, .int X2), (3, .int X3), (4, .int X4)]) (st' := [.int ((9 : Int32)), .ref 144]) rfl ?_
      refine r_ia (pc' := 36) (L' := [(0, .ref 143), (1, .int X1), (2, .int X2), (3, .int X3), (4, .int X4)]) H_20 hq (z_at.mk 1 rfl rfl) (show zAr 144 0 2740 = true from rfl) (rfl : (9 : Int32).toInt = 9) ⟨by decide, by decide⟩ rfl rfl ?_
      intro V_35 hV_35
      refine r_p hq 1 (pc' := 38) (L' := [(0, .ref 143), (1, .int X1), (2, .int X2), (3, .int X3), (4, .int X4)]) (st' := [.int ((10 : Int32)), .int V_35]) rfl ?_
      rcases z_ite h with ⟨c_38, h⟩ | ⟨c_38, h⟩
      · refine r_t2 (pc' := 44) (L' := [(0, .ref 143), (1, .int X1), (2, .int X2), (3, .int X3), (4, .int X4)]) hq (z_at.mk 3 rfl rfl) rfl hV_35 (rfl : (10 : Int32).toInt = 10) c_38 rfl rfl ?_
        refine r_p hq 1 (pc' := 45) (L' := [(0, .ref 143), (1, .int X1), (2, .int X2), (3, .int X3), (4, .int X4)]) (st' := [.ref 143]) rfl ?_
        refine r_gR (b := 144) (pc' := 48) (L' := [(0, .ref 143), (1, .int X1), (2, .int X2), (3, .int X3), (4, .int X4)]) H_20 hq (z_at.mk 3 rfl rfl) rfl rfl rfl rfl ?_
        refine r_p hq 3 (pc' := 53) (L' := [(0, .ref 143), (1, .int X1), (2, .int X2), (3, .int X3), (4, .int X4)]) (st' := [.ref 143, .int ((4 : Int32)), .int ((260 : Int32)), .ref 144]) rfl ?_
        refine r_gR (b := 144) (pc' := 56) (L' := [(0, .ref 143), (1, .int X1), (2, .int X2), (3, .int X3), (4, .int X4)]) H_20 hq (z_at.mk 3 rfl rfl) rfl rfl rfl rfl ?_
        refine r_p hq 1 (pc' := 58) (L' := [(0, .ref 143), (1, .int X1), (2, .int X2), (3, .int X3), (4, .int X4)]) (st' := [.int ((9 : Int32)), .ref 144, .int ((4 : Int32)), .int ((260 : Int32)), .ref 144]) rfl ?_
        refine r_ia (pc' := 59) (L' := [(0, .ref 143), (1, .int X1), (2, .int X2), (3, .int X3), (4, .int X4)]) H_20 hq (z_at.mk 1 rfl rfl) (show zAr 144 0 2740 = true from rfl) (rfl : (9 : Int32).toInt = 9) ⟨by decide, by decide⟩ rfl rfl ?_
        intro V_58 hV_58
        refine r_p hq 6 (pc' := 66) (L' := [(0, .ref 143), (1, .int X1), (2, .int X2), (3, .int X3), (4, .int X4)]) (st' := [.int X4, .int X3, .int X2, .int X1, .int (((260 : Int32)) + (((4 : Int32)) * V_58)), .ref 144]) rfl ?_
        obtain ⟨o_66, h_66, h⟩ := Option.bind_eq_some_iff.mp h
        refine r_csV (pc' := 69) (L' := [(0, .ref 143), (1, .int X1), (2, .int X2), (3, .int X3), (4, .int X4)]) (As := [.ref 144, .int (((260 : Int32)) + (((4 : Int32)) * V_58)), .int X1, .int X2, .int X3, .int X4]) (rest := []) (j := 165) hq (z_at.mk 3 rfl rfl) (Or.inl ⟨rfl, rfl⟩) rfl rfl (by omega) (g_m_sets_ok rfl (tx_iadd (rfl : (260 : Int32).toInt = 260) (tx_imul (rfl : (4 : Int32).toInt = 4) hV_58)) hx1 hx2 hx3 hx4 H_20 h_66) rfl rfl ?_
        intro m_66 p_66 e_66 H_66
        subst e_66
        refine r_p hq 1 (pc' := 70) (L' := [(0, .ref 143), (1, .int X1), (2, .int X2), (3, .int X3), (4, .int X4)]) (st' := [.ref 143]) rfl ?_
        refine r_gR (b := 144) (pc' := 73) (L' := [(0, .ref 143), (1, .int X1), (2, .int X2), (3, .int X3), (4, .int X4)]) H_66 hq (z_at.mk 3 rfl rfl) rfl rfl rfl rfl ?_
        refine r_p hq 2 (pc' := 76) (L' := [(0, .ref 143), (1, .int X1), (2, .int X2), (3, .int X3), (4, .int X4)]) (st' := [.int ((9 : Int32)), .ref 144, .int ((9 : Int32)), .ref 144]) rfl ?_
        refine r_ia (pc' := 77) (L' := [(0, .ref 143), (1, .int X1), (2, .int X2), (3, .int X3), (4, .int X4)]) H_66 hq (z_at.mk 1 rfl rfl) (show zAr 144 0 2740 = true from rfl) (rfl : (9 : Int32).toInt = 9) ⟨by decide, by decide⟩ rfl rfl ?_
        intro V_76 hV_76
        refine r_p hq 2 (pc' := 79) (L' := [(0, .ref 143), (1, .int X1), (2, .int X2), (3, .int X3), (4, .int X4)]) (st' := [.int (V_76 + ((1 : Int32))), .int ((9 : Int32)), .ref 144]) rfl ?_
        refine r_is (pc' := 80) (L' := [(0, .ref 143), (1, .int X1), (2, .int X2), (3, .int X3), (4, .int X4)]) H_66 hq (z_at.mk 1 rfl rfl) (show zAr 144 0 2740 = true from rfl) (rfl : (9 : Int32).toInt = 9) ⟨by decide, by decide⟩ (tx_iadd hV_76 (rfl : (1 : Int32).toInt = 1)) rfl rfl ?_
        intro m_79 H_79
        refine r_p hq 1 (pc' := 81) (L' := [(0, .ref 143), (1, .int X1), (2, .int X2), (3, .int X3), (4, .int X4)]) (st' := [.ref 143]) rfl ?_
        refine r_gR (b := 144) (pc' := 84) (L' := [(0, .ref 143), (1, .int X1), (2, .int X2), (3, .int X3), (4, .int X4)]) H_79 hq (z_at.mk 3 rfl rfl) rfl rfl rfl rfl ?_
        refine r_p hq 1 (pc' := 86) (L' := [(0, .ref 143), (1, .int X1), (2, .int X2), (3, .int X3), (4, .int X4)]) (st' := [.int ((9 : Int32)), .ref 144]) rfl ?_
        refine r_ia (pc' := 87) (L' := [(0, .ref 143), (1, .int X1), (2, .int X2), (3, .int X3), (4, .int X4)]) H_79 hq (z_at.mk 1 rfl rfl) (show zAr 144 0 2740 = true from rfl) (rfl : (9 : Int32).toInt = 9) ⟨by decide, by decide⟩ rfl rfl ?_
        intro V_86 hV_86
        cases h
        exact r_ri hq (z_at.mk 1 rfl rfl) rfl rfl hV_86 rfl H_79
      · refine r_f2 (pc' := 41) (L' := [(0, .ref 143), (1, .int X1), (2, .int X2), (3, .int X3), (4, .int X4)]) hq (z_at.mk 3 rfl rfl) rfl hV_35 (rfl : (10 : Int32).toInt = 10) c_38 rfl rfl ?_
        refine r_p hq 1 (pc' := 43) (L' := [(0, .ref 143), (1, .int X1), (2, .int X2), (3, .int X3), (4, .int X4)]) (st' := [.int ((-4 : Int32))]) rfl ?_
        cases h
        exact r_ri hq (z_at.mk 1 rfl rfl) rfl rfl (rfl : (-4 : Int32).toInt = -4) rfl H_20
    · refine r_f1 (pc' := 26) (L' := [(0, .ref 143), (1, .int X1), (2, .int X2), (3, .int X3), (4, .int X4)]) hq (z_at.mk 3 rfl rfl) rfl hR_20 c_23 rfl rfl ?_
      refine r_p hq 1 (pc' := 28) (L' := [(0, .ref 143), (1, .int X1), (2, .int X2), (3, .int X3), (4, .int X4)]) (st' := [.int ((-2 : Int32))]) rfl ?_
      cases h
      exact r_ri hq (z_at.mk 1 rfl rfl) rfl rfl (rfl : (-2 : Int32).toInt = -2) rfl H_20
  · refine r_f2 (pc' := 5) (L' := [(0, .ref 143), (1, .int X1), (2, .int X2), (3, .int X3), (4, .int X4)]) hq (z_at.mk 3 rfl rfl) rfl hx1 (rfl : (-1 : Int32).toInt = -1) c_2 rfl rfl ?_
    refine r_p hq 1 (pc' := 6) (L' := [(0, .ref 143), (1, .int X1), (2, .int X2), (3, .int X3), (4, .int X4)]) (st' := [.ref 143]) rfl ?_
    refine r_gR (b := 144) (pc' := 9) (L' := [(0, .ref 143), (1, .int X1), (2, .int X2), (3, .int X3), (4, .int X4)]) H hq (z_at.mk 3 rfl rfl) rfl rfl rfl rfl ?_
    refine r_p hq 2 (pc' := 12) (L' := [(0, .ref 143), (1, .int X1), (2, .int X2), (3, .int X3), (4, .int X4)]) (st' := [.int ((0 : Int32)), .int ((9 : Int32)), .ref 144]) rfl ?_
    refine r_is (pc' := 13) (L' := [(0, .ref 143), (1, .int X1), (2, .int X2), (3, .int X3), (4, .int X4)]) H hq (z_at.mk 1 rfl rfl) (show zAr 144 0 2740 = true from rfl) (rfl : (9 : Int32).toInt = 9) ⟨by decide, by decide⟩ (rfl : (0 : Int32).toInt = 0) rfl rfl ?_
    intro m_12 H_12
    refine r_p hq 1 (pc' := 14) (L' := [(0, .ref 143), (1, .int X1), (2, .int X2), (3, .int X3), (4, .int X4)]) (st' := [.int ((0 : Int32))]) rfl ?_
    cases h
    exact r_ri hq (z_at.mk 1 rfl rfl) rfl rfl (rfl : (0 : Int32).toInt = 0) rfl H_12
def g_m_done_L148 (xs0 : Int) (σ : zS) : Option (Int × zS) :=
  (g_m_back 146 149 σ).bind fun o_158 =>
  some (xs0, o_158.2)
set_option maxHeartbeats 4000000 in
theorem g_m_done_L148_ok {xl : Nat} {xs : Nat → Int32} {Xs0 : Int32} {xs0 : Int} (hxs0 : Xs0.toInt = xs0) {σ : zS} {p : Nat} {m : zM} {o : Int × zS} (H : zRep xl xs p m σ) (h : g_m_done_L148 xs0 σ = some o) : zGo xl xs (fun p' => p = p') 8 255 148 [(0, .ref 143)] [.int Xs0] m (vI o.1) o.2 := by
  have hq : z_mth 255 = some z_r255 := rfl
  unfold g_m_done_L148 at h
  refine r_p hq 3 (pc' := 151) (L' := [(3, .int Xs0), (0, .ref 143)]) (st' := [.ref 143, .ref 143]) rfl ?_
  refine r_gR (b := 146) (pc' := 154) (L' := [(3, .int Xs0), (0, .ref 143)]) H hq (z_at.mk 3 rfl rfl) rfl rfl rfl rfl ?_
  refine r_p hq 1 (pc' := 155) (L' := [(3, .int Xs0), (0, .ref 143)]) (st' := [.ref 143, .ref 146, .ref 143]) rfl ?_
  refine r_gR (b := 149) (pc' := 158) (L' := [(3, .int Xs0), (0, .ref 143)]) H hq (z_at.mk 3 rfl rfl) rfl rfl rfl rfl ?_
  obtain ⟨o_158, h_158, h⟩ := Option.bind_eq_some_iff.mp h
  refine r_cvV (pc' := 161) (L' := [(3, .int Xs0), (0, .ref 143)]) (Ps := [.ref 146, .ref 149]) (rest := []) hq (z_at.mk 3 rfl rfl) (Or.inl ⟨rfl, rfl⟩) rfl rfl (by decide) (by decide) rfl (Nat.not_lt.mpr (Nat.le_of_ble_eq_true rfl)) rfl rfl (z_cat_le 0 rfl (by decide)) (z_lgl_le 3 rfl (by decide)) (by decide) (H.tg rfl) (by omega) (g_m_back_ok rfl rfl H h_158) rfl rfl ?_
  intro m_158 p_158 e_158 H_158
  subst e_158
  refine r_p hq 1 (pc' := 162) (L' := [(3, .int Xs0), (0, .ref 143)]) (st' := [.int Xs0]) rfl ?_
  cases h
  exact r_ri hq (z_at.mk 1 rfl rfl) rfl rfl hxs0 rfl H_158
def g_m_done_L57 : Nat → Int → Int → zS → Option (Int × zS)
  | 0, _, _, _ => none
  | n + 1, x2, x3, σ =>
    let v_64 := σ 144 9
    if v_64 ≤ x3 then
      if x2 ≠ 0 then
        if x2 ≠ 1 then
          if 5 ≤ x2 then
            let v_147 := σ 144 0
            g_m_done_L148 v_147 σ
          else
            if 0 ≤ w32 ((w32 (4 + x2)) - 2) ∧ w32 ((w32 (4 + x2)) - 2) < 2740 then
            let v_138 := σ 144 (w32 ((w32 (4 + x2)) - 2))
            g_m_done_L148 v_138 σ
            else none
        else
          let v_120 := σ 144 2
          g_m_done_L148 v_120 σ
      else
        let v_106 := σ 144 3
        g_m_done_L148 v_106 σ
    else
      (g_m_copies 144 152 (w32 (260 + (w32 (4 * x3)))) 0 σ).bind fun o_84 =>
      (g_m_queries o_84.2).bind fun o_88 =>
      (g_m_done_L57 n) x2 (w32 (x3 + 1)) o_88.2
set_option maxHeartbeats 4000000 in
theorem g_m_done_L57_ok {xl : Nat} {xs : Nat → Int32} : ∀ (n : Nat) {X2 : Int32} {x2 : Int} {X3 : Int32} {x3 : Int} {σ : zS} {p : Nat} {m : zM} {o : Int × zS}, X2.toInt = x2 → X3.toInt = x3 → zRep xl xs p m σ → g_m_done_L57 n x2 x3 σ = some o → zGo xl xs (fun p' => p = p') 8 255 57 [(0, .ref 143), (2, .int X2), (3, .int X3)] [] m (vI o.1) o.2
  | 0, _, _, _, _, _, _, _, _, _, _, _, h => by cases h
  | n + 1, X2, x2, X3, x3, σ, p, m, o, hx2, hx3, H, h => by
    have hq : z_mth 255 = some z_r255 := rfl
    have ih := fun {X2 : Int32} {x2 : Int} {X3 : Int32} {x3 : Int} {σ : zS} {p : Nat} {m : zM} {o : Int × zS} => g_m_done_L57_ok (xl := xl) (xs := xs) n (X2 := X2) (x2 := x2) (X3 := X3) (x3 := x3) (σ := σ) (p := p) (m := m) (o := o)
    unfold g_m_done_L57 at h
    refine r_p hq 2 (pc' := 59) (L' := [(0, .ref 143), (2, .int X2), (3, .int X3)]) (st' := [.ref 143, .int X3]) rfl ?_
    refine r_gR (b := 144) (pc' := 62) (L' := [(0, .ref 143), (2, .int X2), (3, .int X3)]) H hq (z_at.mk 3 rfl rfl) rfl rfl rfl rfl ?_
    refine r_p hq 1 (pc' := 64) (L' := [(0, .ref 143), (2, .int X2), (3, .int X3)]) (st' := [.int ((9 : Int32)), .ref 144, .int X3]) rfl ?_
    refine r_ia (pc' := 65) (L' := [(0, .ref 143), (2, .int X2), (3, .int X3)]) H hq (z_at.mk 1 rfl rfl) (show zAr 144 0 2740 = true from rfl) (rfl : (9 : Int32).toInt = 9) ⟨by decide, by decide⟩ rfl rfl ?_
    intro V_64 hV_64
    rcases z_ite h with ⟨c_65, h⟩ | ⟨c_65, h⟩
    · refine r_t2 (pc' := 97) (L' := [(0, .ref 143), (2, .int X2), (3, .int X3)]) hq (z_at.mk 3 rfl rfl) rfl hx3 hV_64 c_65 rfl rfl ?_
      refine r_p hq 1 (pc' := 98) (L' := [(0, .ref 143), (2, .int X2), (3, .int X3)]) (st' := [.int X2]) rfl ?_
      rcases z_ite h with ⟨c_98, h⟩ | ⟨c_98, h⟩
      · refine r_t1 (pc' := 110) (L' := [(0, .ref 143), (2, .int X2), (3, .int X3)]) hq (z_at.mk 3 rfl rfl) rfl hx2 c_98 rfl rfl ?_
        refine r_p hq 2 (pc' := 112) (L' := [(0, .ref 143), (2, .int X2), (3, .int X3)]) (st' := [.int ((1 : Int32)), .int X2]) rfl ?_
        rcases z_ite h with ⟨c_112, h⟩ | ⟨c_112, h⟩
        · refine r_t2 (pc' := 124) (L' := [(0, .ref 143), (2, .int X2), (3, .int X3)]) hq (z_at.mk 3 rfl rfl) rfl hx2 (rfl : (1 : Int32).toInt = 1) c_112 rfl rfl ?_
          refine r_p hq 2 (pc' := 126) (L' := [(0, .ref 143), (2, .int X2), (3, .int X3)]) (st' := [.int ((5 : Int32)), .int X2]) rfl ?_
          rcases z_ite h with ⟨c_126, h⟩ | ⟨c_126, h⟩
          · refine r_t2 (pc' := 142) (L' := [(0, .ref 143), (2, .int X2), (3, .int X3)]) hq (z_at.mk 3 rfl rfl) rfl hx2 (rfl : (5 : Int32).toInt = 5) c_126 rfl rfl ?_
            refine r_p hq 1 (pc' := 143) (L' := [(0, .ref 143), (2, .int X2), (3, .int X3)]) (st' := [.ref 143]) rfl ?_
            refine r_gR (b := 144) (pc' := 146) (L' := [(0, .ref 143), (2, .int X2), (3, .int X3)]) H hq (z_at.mk 3 rfl rfl) rfl rfl rfl rfl ?_
            refine r_p hq 1 (pc' := 147) (L' := [(0, .ref 143), (2, .int X2), (3, .int X3)]) (st' := [.int ((0 : Int32)), .ref 144]) rfl ?_
            refine r_ia (pc' := 148) (L' := [(0, .ref 143)]) H hq (z_at.mk 1 rfl rfl) (show zAr 144 0 2740 = true from rfl) (rfl : (0 : Int32).toInt = 0) ⟨by decide, by decide⟩ rfl rfl ?_
            intro V_147 hV_147
            exact g_m_done_L148_ok hV_147 H h
          · refine r_f2 (pc' := 129) (L' := [(0, .ref 143), (2, .int X2), (3, .int X3)]) hq (z_at.mk 3 rfl rfl) rfl hx2 (rfl : (5 : Int32).toInt = 5) c_126 rfl rfl ?_
            refine r_p hq 1 (pc' := 130) (L' := [(0, .ref 143), (2, .int X2), (3, .int X3)]) (st' := [.ref 143]) rfl ?_
            refine r_gR (b := 144) (pc' := 133) (L' := [(0, .ref 143), (2, .int X2), (3, .int X3)]) H hq (z_at.mk 3 rfl rfl) rfl rfl rfl rfl ?_
            refine r_p hq 5 (pc' := 138) (L' := [(0, .ref 143), (2, .int X2), (3, .int X3)]) (st' := [.int ((((4 : Int32)) + X2) - ((2 : Int32))), .ref 144]) rfl ?_
            obtain ⟨g_138, h⟩ := z_ifo_some h
            refine r_ia (pc' := 139) (L' := [(0, .ref 143), (2, .int X2), (3, .int X3)]) H hq (z_at.mk 1 rfl rfl) (show zAr 144 0 2740 = true from rfl) (tx_isub (tx_iadd (rfl : (4 : Int32).toInt = 4) hx2) (rfl : (2 : Int32).toInt = 2)) g_138 rfl rfl ?_
            intro V_138 hV_138
            refine r_p hq 1 (pc' := 148) (L' := [(0, .ref 143)]) (st' := [.int V_138]) rfl ?_
            exact g_m_done_L148_ok hV_138 H h
        · refine r_f2 (pc' := 115) (L' := [(0, .ref 143), (2, .int X2), (3, .int X3)]) hq (z_at.mk 3 rfl rfl) rfl hx2 (rfl : (1 : Int32).toInt = 1) c_112 rfl rfl ?_
          refine r_p hq 1 (pc' := 116) (L' := [(0, .ref 143), (2, .int X2), (3, .int X3)]) (st' := [.ref 143]) rfl ?_
          refine r_gR (b := 144) (pc' := 119) (L' := [(0, .ref 143), (2, .int X2), (3, .int X3)]) H hq (z_at.mk 3 rfl rfl) rfl rfl rfl rfl ?_
          refine r_p hq 1 (pc' := 120) (L' := [(0, .ref 143), (2, .int X2), (3, .int X3)]) (st' := [.int ((2 : Int32)), .ref 144]) rfl ?_
          refine r_ia (pc' := 121) (L' := [(0, .ref 143), (2, .int X2), (3, .int X3)]) H hq (z_at.mk 1 rfl rfl) (show zAr 144 0 2740 = true from rfl) (rfl : (2 : Int32).toInt = 2) ⟨by decide, by decide⟩ rfl rfl ?_
          intro V_120 hV_120
          refine r_p hq 1 (pc' := 148) (L' := [(0, .ref 143)]) (st' := [.int V_120]) rfl ?_
          exact g_m_done_L148_ok hV_120 H h
      · refine r_f1 (pc' := 101) (L' := [(0, .ref 143), (2, .int X2), (3, .int X3)]) hq (z_at.mk 3 rfl rfl) rfl hx2 c_98 rfl rfl ?_
        refine r_p hq 1 (pc' := 102) (L' := [(0, .ref 143), (2, .int X2), (3, .int X3)]) (st' := [.ref 143]) rfl ?_
        refine r_gR (b := 144) (pc' := 105) (L' := [(0, .ref 143), (2, .int X2), (3, .int X3)]) H hq (z_at.mk 3 rfl rfl) rfl rfl rfl rfl ?_
        refine r_p hq 1 (pc' := 106) (L' := [(0, .ref 143), (2, .int X2), (3, .int X3)]) (st' := [.int ((3 : Int32)), .ref 144]) rfl ?_
        refine r_ia (pc' := 107) (L' := [(0, .ref 143), (2, .int X2), (3, .int X3)]) H hq (z_at.mk 1 rfl rfl) (show zAr 144 0 2740 = true from rfl) (rfl : (3 : Int32).toInt = 3) ⟨by decide, by decide⟩ rfl rfl ?_
        intro V_106 hV_106
        refine r_p hq 1 (pc' := 148) (L' := [(0, .ref 143)]) (st' := [.int V_106]) rfl ?_
        exact g_m_done_L148_ok hV_106 H h
    · refine r_f2 (pc' := 68) (L' := [(0, .ref 143), (2, .int X2), (3, .int X3)]) hq (z_at.mk 3 rfl rfl) rfl hx3 hV_64 c_65 rfl rfl ?_
      refine r_p hq 1 (pc' := 69) (L' := [(0, .ref 143), (2, .int X2), (3, .int X3)]) (st' := [.ref 143]) rfl ?_
      refine r_gR (b := 144) (pc' := 72) (L' := [(0, .ref 143), (2, .int X2), (3, .int X3)]) H hq (z_at.mk 3 rfl rfl) rfl rfl rfl rfl ?_
      refine r_p hq 6 (pc' := 80) (L' := [(0, .ref 143), (2, .int X2), (3, .int X3)]) (st' := [.ref 143, .int (((260 : Int32)) + (((4 : Int32)) * X3)), .ref 144]) rfl ?_
      refine r_gR (b := 152) (pc' := 83) (L' := [(0, .ref 143), (2, .int X2), (3, .int X3)]) H hq (z_at.mk 3 rfl rfl) rfl rfl rfl rfl ?_
      refine r_p hq 1 (pc' := 84) (L' := [(0, .ref 143), (2, .int X2), (3, .int X3)]) (st' := [.int ((0 : Int32)), .ref 152, .int (((260 : Int32)) + (((4 : Int32)) * X3)), .ref 144]) rfl ?_
      obtain ⟨o_84, h_84, h⟩ := Option.bind_eq_some_iff.mp h
      refine r_csV (pc' := 87) (L' := [(0, .ref 143), (2, .int X2), (3, .int X3)]) (As := [.ref 144, .int (((260 : Int32)) + (((4 : Int32)) * X3)), .ref 152, .int ((0 : Int32))]) (rest := []) (j := 166) hq (z_at.mk 3 rfl rfl) (Or.inl ⟨rfl, rfl⟩) rfl rfl (by omega) (g_m_copies_ok rfl rfl (tx_iadd (rfl : (260 : Int32).toInt = 260) (tx_imul (rfl : (4 : Int32).toInt = 4) hx3)) (rfl : (0 : Int32).toInt = 0) H h_84) rfl rfl ?_
      intro m_84 p_84 e_84 H_84
      subst e_84
      refine r_p hq 1 (pc' := 88) (L' := [(0, .ref 143), (2, .int X2), (3, .int X3)]) (st' := [.ref 143]) rfl ?_
      obtain ⟨o_88, h_88, h⟩ := Option.bind_eq_some_iff.mp h
      refine r_cvV (pc' := 91) (L' := [(0, .ref 143), (2, .int X2), (3, .int X3)]) (Ps := []) (rest := []) hq (z_at.mk 3 rfl rfl) (Or.inl ⟨rfl, rfl⟩) rfl rfl (by decide) (by decide) rfl (Nat.not_lt.mpr (Nat.le_of_ble_eq_true rfl)) rfl rfl (z_cat_le 0 rfl (by decide)) (z_lgl_le 1 rfl (by decide)) (by decide) (H_84.tg rfl) (by omega) (g_m_queries_ok H_84 h_88) rfl rfl ?_
      intro m_88 p_88 e_88 H_88
      subst e_88
      refine r_p hq 2 (pc' := 57) (L' := [(0, .ref 143), (2, .int X2), (3, .int (X3 + (1 : Int32)))]) (st' := []) rfl ?_
      exact ih hx2 (tx_iadd hx3 (rfl : (1 : Int32).toInt = 1)) H_88 h
def g_m_done_L28 : Nat → Int → Int → Int → zS → Option (Int × zS)
  | 0, _, _, _, _ => none
  | n + 1, x1, x2, x3, σ =>
    if 7 < x3 then
      let s_54 := zu σ 144 12 x1
      g_m_done_L57 zK x2 0 s_54
    else
      if 0 ≤ x3 ∧ x3 < 2740 then
      let s_40 := zu σ 144 x3 0
      (g_m_done_L28 n) x1 x2 (w32 (x3 + 1)) s_40
      else none
set_option maxHeartbeats 4000000 in
theorem g_m_done_L28_ok {xl : Nat} {xs : Nat → Int32} : ∀ (n : Nat) {X1 : Int32} {x1 : Int} {X2 : Int32} {x2 : Int} {X3 : Int32} {x3 : Int} {σ : zS} {p : Nat} {m : zM} {o : Int × zS}, X1.toInt = x1 → X2.toInt = x2 → X3.toInt = x3 → zRep xl xs p m σ → g_m_done_L28 n x1 x2 x3 σ = some o → zGo xl xs (fun p' => p = p') 8 255 28 [(0, .ref 143), (1, .int X1), (2, .int X2), (3, .int X3)] [] m (vI o.1) o.2
  | 0, _, _, _, _, _, _, _, _, _, _, _, _, _, _, h => by cases h
  | n + 1, X1, x1, X2, x2, X3, x3, σ, p, m, o, hx1, hx2, hx3, H, h => by
    have hq : z_mth 255 = some z_r255 := rfl
    have ih := fun {X1 : Int32} {x1 : Int} {X2 : Int32} {x2 : Int} {X3 : Int32} {x3 : Int} {σ : zS} {p : Nat} {m : zM} {o : Int × zS} => g_m_done_L28_ok (xl := xl) (xs := xs) n (X1 := X1) (x1 := x1) (X2 := X2) (x2 := x2) (X3 := X3) (x3 := x3) (σ := σ) (p := p) (m := m) (o := o)
    unfold g_m_done_L28 at h
    refine r_p hq 2 (pc' := 31) (L' := [(0, .ref 143), (1, .int X1), (2, .int X2), (3, .int X3)]) (st' := [.int ((7 : Int32)), .int X3]) rfl ?_
    rcases z_ite h with ⟨c_31, h⟩ | ⟨c_31, h⟩
    · refine r_t2 (pc' := 47) (L' := [(0, .ref 143), (1, .int X1), (2, .int X2), (3, .int X3)]) hq (z_at.mk 3 rfl rfl) rfl hx3 (rfl : (7 : Int32).toInt = 7) c_31 rfl rfl ?_
      refine r_p hq 1 (pc' := 48) (L' := [(0, .ref 143), (1, .int X1), (2, .int X2), (3, .int X3)]) (st' := [.ref 143]) rfl ?_
      refine r_gR (b := 144) (pc' := 51) (L' := [(0, .ref 143), (1, .int X1), (2, .int X2), (3, .int X3)]) H hq (z_at.mk 3 rfl rfl) rfl rfl rfl rfl ?_
      refine r_p hq 2 (pc' := 54) (L' := [(0, .ref 143), (1, .int X1), (2, .int X2), (3, .int X3)]) (st' := [.int X1, .int ((12 : Int32)), .ref 144]) rfl ?_
      refine r_is (pc' := 55) (L' := [(0, .ref 143), (1, .int X1), (2, .int X2), (3, .int X3)]) H hq (z_at.mk 1 rfl rfl) (show zAr 144 0 2740 = true from rfl) (rfl : (12 : Int32).toInt = 12) ⟨by decide, by decide⟩ hx1 rfl rfl ?_
      intro m_54 H_54
      refine r_p hq 2 (pc' := 57) (L' := [(0, .ref 143), (2, .int X2), (3, .int ((0 : Int32)))]) (st' := []) rfl ?_
      exact g_m_done_L57_ok zK hx2 (rfl : (0 : Int32).toInt = 0) H_54 h
    · refine r_f2 (pc' := 34) (L' := [(0, .ref 143), (1, .int X1), (2, .int X2), (3, .int X3)]) hq (z_at.mk 3 rfl rfl) rfl hx3 (rfl : (7 : Int32).toInt = 7) c_31 rfl rfl ?_
      refine r_p hq 1 (pc' := 35) (L' := [(0, .ref 143), (1, .int X1), (2, .int X2), (3, .int X3)]) (st' := [.ref 143]) rfl ?_
      refine r_gR (b := 144) (pc' := 38) (L' := [(0, .ref 143), (1, .int X1), (2, .int X2), (3, .int X3)]) H hq (z_at.mk 3 rfl rfl) rfl rfl rfl rfl ?_
      refine r_p hq 2 (pc' := 40) (L' := [(0, .ref 143), (1, .int X1), (2, .int X2), (3, .int X3)]) (st' := [.int ((0 : Int32)), .int X3, .ref 144]) rfl ?_
      obtain ⟨g_40, h⟩ := z_ifo_some h
      refine r_is (pc' := 41) (L' := [(0, .ref 143), (1, .int X1), (2, .int X2), (3, .int X3)]) H hq (z_at.mk 1 rfl rfl) (show zAr 144 0 2740 = true from rfl) hx3 g_40 (rfl : (0 : Int32).toInt = 0) rfl rfl ?_
      intro m_40 H_40
      refine r_p hq 2 (pc' := 28) (L' := [(0, .ref 143), (1, .int X1), (2, .int X2), (3, .int (X3 + (1 : Int32)))]) (st' := []) rfl ?_
      exact ih hx1 hx2 (tx_iadd hx3 (rfl : (1 : Int32).toInt = 1)) H_40 h
def g_m_done (x1 : Int) (x2 : Int) (σ : zS) : Option (Int × zS) :=
  (g_m_keeps 146 149 σ).bind fun o_9 =>
  let s_18 := zu o_9.2 144 0 0
  let s_25 := zu s_18 147 0 0
  g_m_done_L28 zK x1 x2 2 s_25
set_option maxHeartbeats 4000000 in
theorem g_m_done_ok {xl : Nat} {xs : Nat → Int32} {X1 : Int32} {x1 : Int} (hx1 : X1.toInt = x1) {X2 : Int32} {x2 : Int} (hx2 : X2.toInt = x2) {σ : zS} {p : Nat} {m : zM} {o : Int × zS} (H : zRep xl xs p m σ) (h : g_m_done x1 x2 σ = some o) : zGo xl xs (fun p' => p = p') 8 255 0 (z_can 255 0 (lv_args 0 [.ref 143, .int X1, .int X2])) [] m (vI o.1) o.2 := by
  have hq : z_mth 255 = some z_r255 := rfl
  unfold g_m_done at h
  show zGo xl xs (fun p' => p = p') 8 255 0 [(0, .ref 143), (1, .int X1), (2, .int X2)] [] m (vI o.1) o.2
  refine r_p hq 2 (pc' := 2) (L' := [(0, .ref 143), (1, .int X1), (2, .int X2)]) (st' := [.ref 143, .ref 143]) rfl ?_
  refine r_gR (b := 146) (pc' := 5) (L' := [(0, .ref 143), (1, .int X1), (2, .int X2)]) H hq (z_at.mk 3 rfl rfl) rfl rfl rfl rfl ?_
  refine r_p hq 1 (pc' := 6) (L' := [(0, .ref 143), (1, .int X1), (2, .int X2)]) (st' := [.ref 143, .ref 146, .ref 143]) rfl ?_
  refine r_gR (b := 149) (pc' := 9) (L' := [(0, .ref 143), (1, .int X1), (2, .int X2)]) H hq (z_at.mk 3 rfl rfl) rfl rfl rfl rfl ?_
  obtain ⟨o_9, h_9, h⟩ := Option.bind_eq_some_iff.mp h
  refine r_cvV (pc' := 12) (L' := [(0, .ref 143), (1, .int X1), (2, .int X2)]) (Ps := [.ref 146, .ref 149]) (rest := []) hq (z_at.mk 3 rfl rfl) (Or.inl ⟨rfl, rfl⟩) rfl rfl (by decide) (by decide) rfl (Nat.not_lt.mpr (Nat.le_of_ble_eq_true rfl)) rfl rfl (z_cat_le 0 rfl (by decide)) (z_lgl_le 3 rfl (by decide)) (by decide) (H.tg rfl) (by omega) (g_m_keeps_ok rfl rfl H h_9) rfl rfl ?_
  intro m_9 p_9 e_9 H_9
  subst e_9
  refine r_p hq 1 (pc' := 13) (L' := [(0, .ref 143), (1, .int X1), (2, .int X2)]) (st' := [.ref 143]) rfl ?_
  refine r_gR (b := 144) (pc' := 16) (L' := [(0, .ref 143), (1, .int X1), (2, .int X2)]) H_9 hq (z_at.mk 3 rfl rfl) rfl rfl rfl rfl ?_
  refine r_p hq 2 (pc' := 18) (L' := [(0, .ref 143), (1, .int X1), (2, .int X2)]) (st' := [.int ((0 : Int32)), .int ((0 : Int32)), .ref 144]) rfl ?_
  refine r_is (pc' := 19) (L' := [(0, .ref 143), (1, .int X1), (2, .int X2)]) H_9 hq (z_at.mk 1 rfl rfl) (show zAr 144 0 2740 = true from rfl) (rfl : (0 : Int32).toInt = 0) ⟨by decide, by decide⟩ (rfl : (0 : Int32).toInt = 0) rfl rfl ?_
  intro m_18 H_18
  refine r_p hq 1 (pc' := 20) (L' := [(0, .ref 143), (1, .int X1), (2, .int X2)]) (st' := [.ref 143]) rfl ?_
  refine r_gR (b := 147) (pc' := 23) (L' := [(0, .ref 143), (1, .int X1), (2, .int X2)]) H_18 hq (z_at.mk 3 rfl rfl) rfl rfl rfl rfl ?_
  refine r_p hq 2 (pc' := 25) (L' := [(0, .ref 143), (1, .int X1), (2, .int X2)]) (st' := [.long ((0 : Int64)), .int ((0 : Int32)), .ref 147]) rfl ?_
  refine r_ls (pc' := 26) (L' := [(0, .ref 143), (1, .int X1), (2, .int X2)]) H_18 hq (z_at.mk 1 rfl rfl) (show zAr 147 1 361 = true from rfl) (rfl : (0 : Int32).toInt = 0) ⟨by decide, by decide⟩ (rfl : (0 : Int64).toInt = 0) rfl rfl ?_
  intro m_25 H_25
  refine r_p hq 2 (pc' := 28) (L' := [(0, .ref 143), (1, .int X1), (2, .int X2), (3, .int ((2 : Int32)))]) (st' := []) rfl ?_
  exact g_m_done_L28_ok zK hx1 hx2 (rfl : (2 : Int32).toInt = 2) H_25 h
def g_m_again (x1 : Int) (x2 : Int) (σ : zS) : Option (Int × zS) :=
  (g_m_isIn x2 0 5 σ).bind fun o_3 =>
  if o_3.1 ≠ 0 then
    (g_m_isIn x1 1 99 o_3.2).bind fun o_17 =>
    if o_17.1 ≠ 0 then
      (g_m_done x1 x2 o_17.2).bind fun o_31 =>
      some (o_31.1, o_31.2)
    else
      some (-2, o_17.2)
  else
    some (-1, o_3.2)
set_option maxHeartbeats 4000000 in
theorem g_m_again_ok {xl : Nat} {xs : Nat → Int32} {X1 : Int32} {x1 : Int} (hx1 : X1.toInt = x1) {X2 : Int32} {x2 : Int} (hx2 : X2.toInt = x2) {σ : zS} {p : Nat} {m : zM} {o : Int × zS} (H : zRep xl xs p m σ) (h : g_m_again x1 x2 σ = some o) : zGo xl xs (fun p' => p = p') 9 256 0 (z_can 256 0 (lv_args 0 [.ref 143, .int X1, .int X2])) [] m (vI o.1) o.2 := by
  have hq : z_mth 256 = some z_r256 := rfl
  unfold g_m_again at h
  show zGo xl xs (fun p' => p = p') 9 256 0 [(0, .ref 143), (1, .int X1), (2, .int X2)] [] m (vI o.1) o.2
  refine r_p hq 3 (pc' := 3) (L' := [(0, .ref 143), (1, .int X1), (2, .int X2)]) (st' := [.int ((5 : Int32)), .int ((0 : Int32)), .int X2]) rfl ?_
  obtain ⟨o_3, h_3, h⟩ := Option.bind_eq_some_iff.mp h
  refine r_csI (pc' := 6) (L' := [(0, .ref 143), (1, .int X1), (2, .int X2)]) (As := [.int X2, .int ((0 : Int32)), .int ((5 : Int32))]) (rest := []) (j := 159) hq (z_at.mk 3 rfl rfl) (Or.inl ⟨rfl, rfl⟩) rfl rfl (by omega) (g_m_isIn_ok hx2 (rfl : (0 : Int32).toInt = 0) (rfl : (5 : Int32).toInt = 5) H h_3) rfl rfl ?_
  intro R_3 m_3 p_3 e_3 hR_3 H_3
  subst e_3
  rcases z_ite h with ⟨c_6, h⟩ | ⟨c_6, h⟩
  · refine r_t1 (pc' := 13) (L' := [(0, .ref 143), (1, .int X1), (2, .int X2)]) hq (z_at.mk 3 rfl rfl) rfl hR_3 c_6 rfl rfl ?_
    refine r_p hq 3 (pc' := 17) (L' := [(0, .ref 143), (1, .int X1), (2, .int X2)]) (st' := [.int ((99 : Int32)), .int ((1 : Int32)), .int X1]) rfl ?_
    obtain ⟨o_17, h_17, h⟩ := Option.bind_eq_some_iff.mp h
    refine r_csI (pc' := 20) (L' := [(0, .ref 143), (1, .int X1), (2, .int X2)]) (As := [.int X1, .int ((1 : Int32)), .int ((99 : Int32))]) (rest := []) (j := 159) hq (z_at.mk 3 rfl rfl) (Or.inl ⟨rfl, rfl⟩) rfl rfl (by omega) (g_m_isIn_ok hx1 (rfl : (1 : Int32).toInt = 1) (rfl : (99 : Int32).toInt = 99) H_3 h_17) rfl rfl ?_
    intro R_17 m_17 p_17 e_17 hR_17 H_17
    subst e_17
    rcases z_ite h with ⟨c_20, h⟩ | ⟨c_20, h⟩
    · refine r_t1 (pc' := 28) (L' := [(0, .ref 143), (1, .int X1), (2, .int X2)]) hq (z_at.mk 3 rfl rfl) rfl hR_17 c_20 rfl rfl ?_
      refine r_p hq 3 (pc' := 31) (L' := [(0, .ref 143), (1, .int X1), (2, .int X2)]) (st' := [.int X2, .int X1, .ref 143]) rfl ?_
      obtain ⟨o_31, h_31, h⟩ := Option.bind_eq_some_iff.mp h
      refine r_cvI (pc' := 34) (L' := []) (Ps := [.int X1, .int X2]) (rest := []) hq (z_at.mk 3 rfl rfl) (Or.inl ⟨rfl, rfl⟩) rfl rfl (by decide) (by decide) rfl (Nat.not_lt.mpr (Nat.le_of_ble_eq_true rfl)) rfl rfl (z_cat_le 0 rfl (by decide)) (z_lgl_le 3 rfl (by decide)) (by decide) (H_17.tg rfl) (by omega) (g_m_done_ok hx1 hx2 H_17 h_31) rfl rfl ?_
      intro R_31 m_31 p_31 e_31 hR_31 H_31
      subst e_31
      cases h
      exact r_ri hq (z_at.mk 1 rfl rfl) rfl rfl hR_31 rfl H_31
    · refine r_f1 (pc' := 23) (L' := [(0, .ref 143), (1, .int X1), (2, .int X2)]) hq (z_at.mk 3 rfl rfl) rfl hR_17 c_20 rfl rfl ?_
      refine r_p hq 2 (pc' := 34) (L' := []) (st' := [.int ((-2 : Int32))]) rfl ?_
      cases h
      exact r_ri hq (z_at.mk 1 rfl rfl) rfl rfl (rfl : (-2 : Int32).toInt = -2) rfl H_17
  · refine r_f1 (pc' := 9) (L' := [(0, .ref 143), (1, .int X1), (2, .int X2)]) hq (z_at.mk 3 rfl rfl) rfl hR_3 c_6 rfl rfl ?_
    refine r_p hq 2 (pc' := 34) (L' := []) (st' := [.int ((-1 : Int32))]) rfl ?_
    cases h
    exact r_ri hq (z_at.mk 1 rfl rfl) rfl rfl (rfl : (-1 : Int32).toInt = -1) rfl H_3
def g_m_least_L2 : Nat → Int → Int → zS → Option (Int × zS)
  | 0, _, _, _ => none
  | n + 1, x1, x2, σ =>
    if 99 < x2 then
      some (-5, σ)
    else
      (g_m_done x2 0 σ).bind fun o_11 =>
      if x1 < o_11.1 then
        (g_m_least_L2 n) x1 (w32 (x2 + 1)) o_11.2
      else
        some (x2, o_11.2)
set_option maxHeartbeats 4000000 in
theorem g_m_least_L2_ok {xl : Nat} {xs : Nat → Int32} : ∀ (n : Nat) {X1 : Int32} {x1 : Int} {X2 : Int32} {x2 : Int} {σ : zS} {p : Nat} {m : zM} {o : Int × zS}, X1.toInt = x1 → X2.toInt = x2 → zRep xl xs p m σ → g_m_least_L2 n x1 x2 σ = some o → zGo xl xs (fun p' => p = p') 9 257 2 [(0, .ref 143), (1, .int X1), (2, .int X2)] [] m (vI o.1) o.2
  | 0, _, _, _, _, _, _, _, _, _, _, _, h => by cases h
  | n + 1, X1, x1, X2, x2, σ, p, m, o, hx1, hx2, H, h => by
    have hq : z_mth 257 = some z_r257 := rfl
    have ih := fun {X1 : Int32} {x1 : Int} {X2 : Int32} {x2 : Int} {σ : zS} {p : Nat} {m : zM} {o : Int × zS} => g_m_least_L2_ok (xl := xl) (xs := xs) n (X1 := X1) (x1 := x1) (X2 := X2) (x2 := x2) (σ := σ) (p := p) (m := m) (o := o)
    unfold g_m_least_L2 at h
    refine r_p hq 2 (pc' := 5) (L' := [(0, .ref 143), (1, .int X1), (2, .int X2)]) (st' := [.int ((99 : Int32)), .int X2]) rfl ?_
    rcases z_ite h with ⟨c_5, h⟩ | ⟨c_5, h⟩
    · refine r_t2 (pc' := 26) (L' := [(0, .ref 143), (1, .int X1), (2, .int X2)]) hq (z_at.mk 3 rfl rfl) rfl hx2 (rfl : (99 : Int32).toInt = 99) c_5 rfl rfl ?_
      refine r_p hq 1 (pc' := 28) (L' := [(0, .ref 143), (1, .int X1), (2, .int X2)]) (st' := [.int ((-5 : Int32))]) rfl ?_
      cases h
      exact r_ri hq (z_at.mk 1 rfl rfl) rfl rfl (rfl : (-5 : Int32).toInt = -5) rfl H
    · refine r_f2 (pc' := 8) (L' := [(0, .ref 143), (1, .int X1), (2, .int X2)]) hq (z_at.mk 3 rfl rfl) rfl hx2 (rfl : (99 : Int32).toInt = 99) c_5 rfl rfl ?_
      refine r_p hq 3 (pc' := 11) (L' := [(0, .ref 143), (1, .int X1), (2, .int X2)]) (st' := [.int ((0 : Int32)), .int X2, .ref 143]) rfl ?_
      obtain ⟨o_11, h_11, h⟩ := Option.bind_eq_some_iff.mp h
      refine r_cvI (pc' := 14) (L' := [(0, .ref 143), (1, .int X1), (2, .int X2)]) (Ps := [.int X2, .int ((0 : Int32))]) (rest := []) hq (z_at.mk 3 rfl rfl) (Or.inl ⟨rfl, rfl⟩) rfl rfl (by decide) (by decide) rfl (Nat.not_lt.mpr (Nat.le_of_ble_eq_true rfl)) rfl rfl (z_cat_le 0 rfl (by decide)) (z_lgl_le 3 rfl (by decide)) (by decide) (H.tg rfl) (by omega) (g_m_done_ok hx2 (rfl : (0 : Int32).toInt = 0) H h_11) rfl rfl ?_
      intro R_11 m_11 p_11 e_11 hR_11 H_11
      subst e_11
      refine r_p hq 1 (pc' := 15) (L' := [(0, .ref 143), (1, .int X1), (2, .int X2)]) (st' := [.int X1, .int R_11]) rfl ?_
      rcases z_ite h with ⟨c_15, h⟩ | ⟨c_15, h⟩
      · refine r_t2 (pc' := 20) (L' := [(0, .ref 143), (1, .int X1), (2, .int X2)]) hq (z_at.mk 3 rfl rfl) rfl hR_11 hx1 c_15 rfl rfl ?_
        refine r_p hq 2 (pc' := 2) (L' := [(0, .ref 143), (1, .int X1), (2, .int (X2 + (1 : Int32)))]) (st' := []) rfl ?_
        exact ih hx1 (tx_iadd hx2 (rfl : (1 : Int32).toInt = 1)) H_11 h
      · refine r_f2 (pc' := 18) (L' := [(0, .ref 143), (1, .int X1), (2, .int X2)]) hq (z_at.mk 3 rfl rfl) rfl hR_11 hx1 c_15 rfl rfl ?_
        refine r_p hq 1 (pc' := 19) (L' := [(0, .ref 143), (1, .int X1), (2, .int X2)]) (st' := [.int X2]) rfl ?_
        cases h
        exact r_ri hq (z_at.mk 1 rfl rfl) rfl rfl hx2 rfl H_11
def g_m_least (x1 : Int) (σ : zS) : Option (Int × zS) :=
  g_m_least_L2 zK x1 1 σ
set_option maxHeartbeats 4000000 in
theorem g_m_least_ok {xl : Nat} {xs : Nat → Int32} {X1 : Int32} {x1 : Int} (hx1 : X1.toInt = x1) {σ : zS} {p : Nat} {m : zM} {o : Int × zS} (H : zRep xl xs p m σ) (h : g_m_least x1 σ = some o) : zGo xl xs (fun p' => p = p') 9 257 0 (z_can 257 0 (lv_args 0 [.ref 143, .int X1])) [] m (vI o.1) o.2 := by
  have hq : z_mth 257 = some z_r257 := rfl
  unfold g_m_least at h
  show zGo xl xs (fun p' => p = p') 9 257 0 [(0, .ref 143), (1, .int X1)] [] m (vI o.1) o.2
  refine r_p hq 2 (pc' := 2) (L' := [(0, .ref 143), (1, .int X1), (2, .int ((1 : Int32)))]) (st' := []) rfl ?_
  exact g_m_least_L2_ok zK hx1 (rfl : (1 : Int32).toInt = 1) H h
def g_m_watch (x1 : Int) (x2 : Int) (x3 : Int) (x4 : Int) (x5 : Int) (σ : zS) : Option (Int × zS) :=
  (g_m_isIn x1 0 6 σ).bind fun o_4 =>
  if o_4.1 ≠ 0 then
    (g_m_isBox x2 x3 x4 x5 o_4.2).bind fun o_18 =>
    if o_18.1 ≠ 0 then
      let v_33 := o_18.2 144 10
      if v_33 ≠ 6 then
        let v_53 := o_18.2 144 10
        if 0 ≤ w32 (300 + (w32 (6 * v_53))) ∧ w32 (300 + (w32 (6 * v_53))) < 2740 then
        let s_65 := zu o_18.2 144 (w32 (300 + (w32 (6 * v_53)))) x1
        (g_m_sets 144 (w32 ((w32 (300 + (w32 (6 * v_53)))) + 1)) x2 x3 x4 x5 s_65).bind fun o_80 =>
        if 0 ≤ w32 ((w32 (300 + (w32 (6 * v_53)))) + 5) ∧ w32 ((w32 (300 + (w32 (6 * v_53)))) + 5) < 2740 then
        let s_92 := zu o_80.2 144 (w32 ((w32 (300 + (w32 (6 * v_53)))) + 5)) 0
        let v_100 := s_92 144 10
        let s_103 := zu s_92 144 10 (w32 (v_100 + 1))
        let v_110 := s_103 144 10
        some (w32 (v_110 - 1), s_103)
        else none
        else none
      else
        some (-4, o_18.2)
    else
      some (-2, o_18.2)
  else
    some (-1, o_4.2)
set_option maxHeartbeats 4000000 in
theorem g_m_watch_ok {xl : Nat} {xs : Nat → Int32} {X1 : Int32} {x1 : Int} (hx1 : X1.toInt = x1) {X2 : Int32} {x2 : Int} (hx2 : X2.toInt = x2) {X3 : Int32} {x3 : Int} (hx3 : X3.toInt = x3) {X4 : Int32} {x4 : Int} (hx4 : X4.toInt = x4) {X5 : Int32} {x5 : Int} (hx5 : X5.toInt = x5) {σ : zS} {p : Nat} {m : zM} {o : Int × zS} (H : zRep xl xs p m σ) (h : g_m_watch x1 x2 x3 x4 x5 σ = some o) : zGo xl xs (fun p' => p = p') 3 258 0 (z_can 258 0 (lv_args 0 [.ref 143, .int X1, .int X2, .int X3, .int X4, .int X5])) [] m (vI o.1) o.2 := by
  have hq : z_mth 258 = some z_r258 := rfl
  unfold g_m_watch at h
  show zGo xl xs (fun p' => p = p') 3 258 0 [(0, .ref 143), (1, .int X1), (2, .int X2), (3, .int X3), (4, .int X4), (5, .int X5)] [] m (vI o.1) o.2
  refine r_p hq 3 (pc' := 4) (L' := [(0, .ref 143), (1, .int X1), (2, .int X2), (3, .int X3), (4, .int X4), (5, .int X5)]) (st' := [.int ((6 : Int32)), .int ((0 : Int32)), .int X1]) rfl ?_
  obtain ⟨o_4, h_4, h⟩ := Option.bind_eq_some_iff.mp h
  refine r_csI (pc' := 7) (L' := [(0, .ref 143), (1, .int X1), (2, .int X2), (3, .int X3), (4, .int X4), (5, .int X5)]) (As := [.int X1, .int ((0 : Int32)), .int ((6 : Int32))]) (rest := []) (j := 159) hq (z_at.mk 3 rfl rfl) (Or.inl ⟨rfl, rfl⟩) rfl rfl (by omega) (g_m_isIn_ok hx1 (rfl : (0 : Int32).toInt = 0) (rfl : (6 : Int32).toInt = 6) H h_4) rfl rfl ?_
  intro R_4 m_4 p_4 e_4 hR_4 H_4
  subst e_4
  rcases z_ite h with ⟨c_7, h⟩ | ⟨c_7, h⟩
  · refine r_t1 (pc' := 12) (L' := [(0, .ref 143), (1, .int X1), (2, .int X2), (3, .int X3), (4, .int X4), (5, .int X5)]) hq (z_at.mk 3 rfl rfl) rfl hR_4 c_7 rfl rfl ?_
    refine r_p hq 4 (pc' := 18) (L' := [(0, .ref 143), (1, .int X1), (2, .int X2), (3, .int X3), (4, .int X4), (5, .int X5)]) (st' := [.int X5, .int X4, .int X3, .int X2]) rfl ?_
    obtain ⟨o_18, h_18, h⟩ := Option.bind_eq_some_iff.mp h
    refine r_csI (pc' := 21) (L' := [(0, .ref 143), (1, .int X1), (2, .int X2), (3, .int X3), (4, .int X4), (5, .int X5)]) (As := [.int X2, .int X3, .int X4, .int X5]) (rest := []) (j := 164) hq (z_at.mk 3 rfl rfl) (Or.inl ⟨rfl, rfl⟩) rfl rfl (by omega) (g_m_isBox_ok hx2 hx3 hx4 hx5 H_4 h_18) rfl rfl ?_
    intro R_18 m_18 p_18 e_18 hR_18 H_18
    subst e_18
    rcases z_ite h with ⟨c_21, h⟩ | ⟨c_21, h⟩
    · refine r_t1 (pc' := 27) (L' := [(0, .ref 143), (1, .int X1), (2, .int X2), (3, .int X3), (4, .int X4), (5, .int X5)]) hq (z_at.mk 3 rfl rfl) rfl hR_18 c_21 rfl rfl ?_
      refine r_p hq 1 (pc' := 28) (L' := [(0, .ref 143), (1, .int X1), (2, .int X2), (3, .int X3), (4, .int X4), (5, .int X5)]) (st' := [.ref 143]) rfl ?_
      refine r_gR (b := 144) (pc' := 31) (L' := [(0, .ref 143), (1, .int X1), (2, .int X2), (3, .int X3), (4, .int X4), (5, .int X5)]) H_18 hq (z_at.mk 3 rfl rfl) rfl rfl rfl rfl ?_
      refine r_p hq 1 (pc' := 33) (L' := [(0, .ref 143), (1, .int X1), (2, .int X2), (3, .int X3), (4, .int X4), (5, .int X5)]) (st' := [.int ((10 : Int32)), .ref 144]) rfl ?_
      refine r_ia (pc' := 34) (L' := [(0, .ref 143), (1, .int X1), (2, .int X2), (3, .int X3), (4, .int X4), (5, .int X5)]) H_18 hq (z_at.mk 1 rfl rfl) (show zAr 144 0 2740 = true from rfl) (rfl : (10 : Int32).toInt = 10) ⟨by decide, by decide⟩ rfl rfl ?_
      intro V_33 hV_33
      refine r_p hq 1 (pc' := 36) (L' := [(0, .ref 143), (1, .int X1), (2, .int X2), (3, .int X3), (4, .int X4), (5, .int X5)]) (st' := [.int ((6 : Int32)), .int V_33]) rfl ?_
      rcases z_ite h with ⟨c_36, h⟩ | ⟨c_36, h⟩
      · refine r_t2 (pc' := 42) (L' := [(0, .ref 143), (1, .int X1), (2, .int X2), (3, .int X3), (4, .int X4), (5, .int X5)]) hq (z_at.mk 3 rfl rfl) rfl hV_33 (rfl : (6 : Int32).toInt = 6) c_36 rfl rfl ?_
        refine r_p hq 3 (pc' := 48) (L' := [(0, .ref 143), (1, .int X1), (2, .int X2), (3, .int X3), (4, .int X4), (5, .int X5)]) (st' := [.ref 143, .int ((6 : Int32)), .int ((300 : Int32))]) rfl ?_
        refine r_gR (b := 144) (pc' := 51) (L' := [(0, .ref 143), (1, .int X1), (2, .int X2), (3, .int X3), (4, .int X4), (5, .int X5)]) H_18 hq (z_at.mk 3 rfl rfl) rfl rfl rfl rfl ?_
        refine r_p hq 1 (pc' := 53) (L' := [(0, .ref 143), (1, .int X1), (2, .int X2), (3, .int X3), (4, .int X4), (5, .int X5)]) (st' := [.int ((10 : Int32)), .ref 144, .int ((6 : Int32)), .int ((300 : Int32))]) rfl ?_
        refine r_ia (pc' := 54) (L' := [(0, .ref 143), (1, .int X1), (2, .int X2), (3, .int X3), (4, .int X4), (5, .int X5)]) H_18 hq (z_at.mk 1 rfl rfl) (show zAr 144 0 2740 = true from rfl) (rfl : (10 : Int32).toInt = 10) ⟨by decide, by decide⟩ rfl rfl ?_
        intro V_53 hV_53
        refine r_p hq 4 (pc' := 59) (L' := [(6, .int (((300 : Int32)) + (((6 : Int32)) * V_53))), (0, .ref 143), (1, .int X1), (2, .int X2), (3, .int X3), (4, .int X4), (5, .int X5)]) (st' := [.ref 143]) rfl ?_
        refine r_gR (b := 144) (pc' := 62) (L' := [(6, .int (((300 : Int32)) + (((6 : Int32)) * V_53))), (0, .ref 143), (1, .int X1), (2, .int X2), (3, .int X3), (4, .int X4), (5, .int X5)]) H_18 hq (z_at.mk 3 rfl rfl) rfl rfl rfl rfl ?_
        refine r_p hq 2 (pc' := 65) (L' := [(6, .int (((300 : Int32)) + (((6 : Int32)) * V_53))), (0, .ref 143), (1, .int X1), (2, .int X2), (3, .int X3), (4, .int X4), (5, .int X5)]) (st' := [.int X1, .int (((300 : Int32)) + (((6 : Int32)) * V_53)), .ref 144]) rfl ?_
        obtain ⟨g_65, h⟩ := z_ifo_some h
        refine r_is (pc' := 66) (L' := [(6, .int (((300 : Int32)) + (((6 : Int32)) * V_53))), (0, .ref 143), (1, .int X1), (2, .int X2), (3, .int X3), (4, .int X4), (5, .int X5)]) H_18 hq (z_at.mk 1 rfl rfl) (show zAr 144 0 2740 = true from rfl) (tx_iadd (rfl : (300 : Int32).toInt = 300) (tx_imul (rfl : (6 : Int32).toInt = 6) hV_53)) g_65 hx1 rfl rfl ?_
        intro m_65 H_65
        refine r_p hq 1 (pc' := 67) (L' := [(6, .int (((300 : Int32)) + (((6 : Int32)) * V_53))), (0, .ref 143), (1, .int X1), (2, .int X2), (3, .int X3), (4, .int X4), (5, .int X5)]) (st' := [.ref 143]) rfl ?_
        refine r_gR (b := 144) (pc' := 70) (L' := [(6, .int (((300 : Int32)) + (((6 : Int32)) * V_53))), (0, .ref 143), (1, .int X1), (2, .int X2), (3, .int X3), (4, .int X4), (5, .int X5)]) H_65 hq (z_at.mk 3 rfl rfl) rfl rfl rfl rfl ?_
        refine r_p hq 7 (pc' := 80) (L' := [(6, .int (((300 : Int32)) + (((6 : Int32)) * V_53))), (0, .ref 143), (1, .int X1), (2, .int X2), (3, .int X3), (4, .int X4), (5, .int X5)]) (st' := [.int X5, .int X4, .int X3, .int X2, .int ((((300 : Int32)) + (((6 : Int32)) * V_53)) + ((1 : Int32))), .ref 144]) rfl ?_
        obtain ⟨o_80, h_80, h⟩ := Option.bind_eq_some_iff.mp h
        refine r_csV (pc' := 83) (L' := [(6, .int (((300 : Int32)) + (((6 : Int32)) * V_53))), (0, .ref 143), (1, .int X1), (2, .int X2), (3, .int X3), (4, .int X4), (5, .int X5)]) (As := [.ref 144, .int ((((300 : Int32)) + (((6 : Int32)) * V_53)) + ((1 : Int32))), .int X2, .int X3, .int X4, .int X5]) (rest := []) (j := 165) hq (z_at.mk 3 rfl rfl) (Or.inl ⟨rfl, rfl⟩) rfl rfl (by omega) (g_m_sets_ok rfl (tx_iadd (tx_iadd (rfl : (300 : Int32).toInt = 300) (tx_imul (rfl : (6 : Int32).toInt = 6) hV_53)) (rfl : (1 : Int32).toInt = 1)) hx2 hx3 hx4 hx5 H_65 h_80) rfl rfl ?_
        intro m_80 p_80 e_80 H_80
        subst e_80
        refine r_p hq 1 (pc' := 84) (L' := [(6, .int (((300 : Int32)) + (((6 : Int32)) * V_53))), (0, .ref 143), (1, .int X1), (2, .int X2), (3, .int X3), (4, .int X4), (5, .int X5)]) (st' := [.ref 143]) rfl ?_
        refine r_gR (b := 144) (pc' := 87) (L' := [(6, .int (((300 : Int32)) + (((6 : Int32)) * V_53))), (0, .ref 143), (1, .int X1), (2, .int X2), (3, .int X3), (4, .int X4), (5, .int X5)]) H_80 hq (z_at.mk 3 rfl rfl) rfl rfl rfl rfl ?_
        refine r_p hq 4 (pc' := 92) (L' := [(6, .int (((300 : Int32)) + (((6 : Int32)) * V_53))), (0, .ref 143), (1, .int X1), (2, .int X2), (3, .int X3), (4, .int X4), (5, .int X5)]) (st' := [.int ((0 : Int32)), .int ((((300 : Int32)) + (((6 : Int32)) * V_53)) + ((5 : Int32))), .ref 144]) rfl ?_
        obtain ⟨g_92, h⟩ := z_ifo_some h
        refine r_is (pc' := 93) (L' := [(6, .int (((300 : Int32)) + (((6 : Int32)) * V_53))), (0, .ref 143), (1, .int X1), (2, .int X2), (3, .int X3), (4, .int X4), (5, .int X5)]) H_80 hq (z_at.mk 1 rfl rfl) (show zAr 144 0 2740 = true from rfl) (tx_iadd (tx_iadd (rfl : (300 : Int32).toInt = 300) (tx_imul (rfl : (6 : Int32).toInt = 6) hV_53)) (rfl : (5 : Int32).toInt = 5)) g_92 (rfl : (0 : Int32).toInt = 0) rfl rfl ?_
        intro m_92 H_92
        refine r_p hq 1 (pc' := 94) (L' := [(6, .int (((300 : Int32)) + (((6 : Int32)) * V_53))), (0, .ref 143), (1, .int X1), (2, .int X2), (3, .int X3), (4, .int X4), (5, .int X5)]) (st' := [.ref 143]) rfl ?_
        refine r_gR (b := 144) (pc' := 97) (L' := [(6, .int (((300 : Int32)) + (((6 : Int32)) * V_53))), (0, .ref 143), (1, .int X1), (2, .int X2), (3, .int X3), (4, .int X4), (5, .int X5)]) H_92 hq (z_at.mk 3 rfl rfl) rfl rfl rfl rfl ?_
        refine r_p hq 2 (pc' := 100) (L' := [(6, .int (((300 : Int32)) + (((6 : Int32)) * V_53))), (0, .ref 143), (1, .int X1), (2, .int X2), (3, .int X3), (4, .int X4), (5, .int X5)]) (st' := [.int ((10 : Int32)), .ref 144, .int ((10 : Int32)), .ref 144]) rfl ?_
        refine r_ia (pc' := 101) (L' := [(6, .int (((300 : Int32)) + (((6 : Int32)) * V_53))), (0, .ref 143), (1, .int X1), (2, .int X2), (3, .int X3), (4, .int X4), (5, .int X5)]) H_92 hq (z_at.mk 1 rfl rfl) (show zAr 144 0 2740 = true from rfl) (rfl : (10 : Int32).toInt = 10) ⟨by decide, by decide⟩ rfl rfl ?_
        intro V_100 hV_100
        refine r_p hq 2 (pc' := 103) (L' := [(6, .int (((300 : Int32)) + (((6 : Int32)) * V_53))), (0, .ref 143), (1, .int X1), (2, .int X2), (3, .int X3), (4, .int X4), (5, .int X5)]) (st' := [.int (V_100 + ((1 : Int32))), .int ((10 : Int32)), .ref 144]) rfl ?_
        refine r_is (pc' := 104) (L' := [(6, .int (((300 : Int32)) + (((6 : Int32)) * V_53))), (0, .ref 143), (1, .int X1), (2, .int X2), (3, .int X3), (4, .int X4), (5, .int X5)]) H_92 hq (z_at.mk 1 rfl rfl) (show zAr 144 0 2740 = true from rfl) (rfl : (10 : Int32).toInt = 10) ⟨by decide, by decide⟩ (tx_iadd hV_100 (rfl : (1 : Int32).toInt = 1)) rfl rfl ?_
        intro m_103 H_103
        refine r_p hq 1 (pc' := 105) (L' := [(6, .int (((300 : Int32)) + (((6 : Int32)) * V_53))), (0, .ref 143), (1, .int X1), (2, .int X2), (3, .int X3), (4, .int X4), (5, .int X5)]) (st' := [.ref 143]) rfl ?_
        refine r_gR (b := 144) (pc' := 108) (L' := [(6, .int (((300 : Int32)) + (((6 : Int32)) * V_53))), (0, .ref 143), (1, .int X1), (2, .int X2), (3, .int X3), (4, .int X4), (5, .int X5)]) H_103 hq (z_at.mk 3 rfl rfl) rfl rfl rfl rfl ?_
        refine r_p hq 1 (pc' := 110) (L' := [(6, .int (((300 : Int32)) + (((6 : Int32)) * V_53))), (0, .ref 143), (1, .int X1), (2, .int X2), (3, .int X3), (4, .int X4), (5, .int X5)]) (st' := [.int ((10 : Int32)), .ref 144]) rfl ?_
        refine r_ia (pc' := 111) (L' := [(6, .int (((300 : Int32)) + (((6 : Int32)) * V_53))), (0, .ref 143), (1, .int X1), (2, .int X2), (3, .int X3), (4, .int X4), (5, .int X5)]) H_103 hq (z_at.mk 1 rfl rfl) (show zAr 144 0 2740 = true from rfl) (rfl : (10 : Int32).toInt = 10) ⟨by decide, by decide⟩ rfl rfl ?_
        intro V_110 hV_110
        refine r_p hq 2 (pc' := 113) (L' := [(6, .int (((300 : Int32)) + (((6 : Int32)) * V_53))), (0, .ref 143), (1, .int X1), (2, .int X2), (3, .int X3), (4, .int X4), (5, .int X5)]) (st' := [.int (V_110 - ((1 : Int32)))]) rfl ?_
        cases h
        exact r_ri hq (z_at.mk 1 rfl rfl) rfl rfl (tx_isub hV_110 (rfl : (1 : Int32).toInt = 1)) rfl H_103
      · refine r_f2 (pc' := 39) (L' := [(0, .ref 143), (1, .int X1), (2, .int X2), (3, .int X3), (4, .int X4), (5, .int X5)]) hq (z_at.mk 3 rfl rfl) rfl hV_33 (rfl : (6 : Int32).toInt = 6) c_36 rfl rfl ?_
        refine r_p hq 1 (pc' := 41) (L' := [(0, .ref 143), (1, .int X1), (2, .int X2), (3, .int X3), (4, .int X4), (5, .int X5)]) (st' := [.int ((-4 : Int32))]) rfl ?_
        cases h
        exact r_ri hq (z_at.mk 1 rfl rfl) rfl rfl (rfl : (-4 : Int32).toInt = -4) rfl H_18
    · refine r_f1 (pc' := 24) (L' := [(0, .ref 143), (1, .int X1), (2, .int X2), (3, .int X3), (4, .int X4), (5, .int X5)]) hq (z_at.mk 3 rfl rfl) rfl hR_18 c_21 rfl rfl ?_
      refine r_p hq 1 (pc' := 26) (L' := [(0, .ref 143), (1, .int X1), (2, .int X2), (3, .int X3), (4, .int X4), (5, .int X5)]) (st' := [.int ((-2 : Int32))]) rfl ?_
      cases h
      exact r_ri hq (z_at.mk 1 rfl rfl) rfl rfl (rfl : (-2 : Int32).toInt = -2) rfl H_18
  · refine r_f1 (pc' := 10) (L' := [(0, .ref 143), (1, .int X1), (2, .int X2), (3, .int X3), (4, .int X4), (5, .int X5)]) hq (z_at.mk 3 rfl rfl) rfl hR_4 c_7 rfl rfl ?_
    refine r_p hq 1 (pc' := 11) (L' := [(0, .ref 143), (1, .int X1), (2, .int X2), (3, .int X3), (4, .int X4), (5, .int X5)]) (st' := [.int ((-1 : Int32))]) rfl ?_
    cases h
    exact r_ri hq (z_at.mk 1 rfl rfl) rfl rfl (rfl : (-1 : Int32).toInt = -1) rfl H_4
def g_m_changes (x1 : Int) (σ : zS) : Option (Int × zS) :=
  (g_m_isWatch x1 σ).bind fun o_2 =>
  if o_2.1 = 0 then
    some (-1, o_2.2)
  else
    if 0 ≤ w32 ((w32 (300 + (w32 (6 * x1)))) + 5) ∧ w32 ((w32 (300 + (w32 (6 * x1)))) + 5) < 2740 then
    let v_22 := o_2.2 144 (w32 ((w32 (300 + (w32 (6 * x1)))) + 5))
    some (v_22, o_2.2)
    else none
set_option maxHeartbeats 4000000 in
theorem g_m_changes_ok {xl : Nat} {xs : Nat → Int32} {X1 : Int32} {x1 : Int} (hx1 : X1.toInt = x1) {σ : zS} {p : Nat} {m : zM} {o : Int × zS} (H : zRep xl xs p m σ) (h : g_m_changes x1 σ = some o) : zGo xl xs (fun p' => p = p') 3 261 0 (z_can 261 0 (lv_args 0 [.ref 143, .int X1])) [] m (vI o.1) o.2 := by
  have hq : z_mth 261 = some z_r261 := rfl
  unfold g_m_changes at h
  show zGo xl xs (fun p' => p = p') 3 261 0 [(0, .ref 143), (1, .int X1)] [] m (vI o.1) o.2
  refine r_p hq 2 (pc' := 2) (L' := [(0, .ref 143), (1, .int X1)]) (st' := [.int X1, .ref 143]) rfl ?_
  obtain ⟨o_2, h_2, h⟩ := Option.bind_eq_some_iff.mp h
  refine r_cvI (pc' := 5) (L' := [(0, .ref 143), (1, .int X1)]) (Ps := [.int X1]) (rest := []) hq (z_at.mk 3 rfl rfl) (Or.inl ⟨rfl, rfl⟩) rfl rfl (by decide) (by decide) rfl (Nat.not_lt.mpr (Nat.le_of_ble_eq_true rfl)) rfl rfl (z_cat_le 0 rfl (by decide)) (z_lgl_le 2 rfl (by decide)) (by decide) (H.tg rfl) (by omega) (g_m_isWatch_ok hx1 H h_2) rfl rfl ?_
  intro R_2 m_2 p_2 e_2 hR_2 H_2
  subst e_2
  rcases z_ite h with ⟨c_5, h⟩ | ⟨c_5, h⟩
  · refine r_t1 (pc' := 26) (L' := [(0, .ref 143), (1, .int X1)]) hq (z_at.mk 3 rfl rfl) rfl hR_2 c_5 rfl rfl ?_
    refine r_p hq 1 (pc' := 27) (L' := []) (st' := [.int ((-1 : Int32))]) rfl ?_
    cases h
    exact r_ri hq (z_at.mk 1 rfl rfl) rfl rfl (rfl : (-1 : Int32).toInt = -1) rfl H_2
  · refine r_f1 (pc' := 8) (L' := [(0, .ref 143), (1, .int X1)]) hq (z_at.mk 3 rfl rfl) rfl hR_2 c_5 rfl rfl ?_
    refine r_p hq 1 (pc' := 9) (L' := [(0, .ref 143), (1, .int X1)]) (st' := [.ref 143]) rfl ?_
    refine r_gR (b := 144) (pc' := 12) (L' := [(0, .ref 143), (1, .int X1)]) H_2 hq (z_at.mk 3 rfl rfl) rfl rfl rfl rfl ?_
    refine r_p hq 7 (pc' := 22) (L' := [(0, .ref 143), (1, .int X1)]) (st' := [.int ((((300 : Int32)) + (((6 : Int32)) * X1)) + ((5 : Int32))), .ref 144]) rfl ?_
    obtain ⟨g_22, h⟩ := z_ifo_some h
    refine r_ia (pc' := 23) (L' := [(0, .ref 143), (1, .int X1)]) H_2 hq (z_at.mk 1 rfl rfl) (show zAr 144 0 2740 = true from rfl) (tx_iadd (tx_iadd (rfl : (300 : Int32).toInt = 300) (tx_imul (rfl : (6 : Int32).toInt = 6) hx1)) (rfl : (5 : Int32).toInt = 5)) g_22 rfl rfl ?_
    intro V_22 hV_22
    refine r_p hq 1 (pc' := 27) (L' := []) (st' := [.int V_22]) rfl ?_
    cases h
    exact r_ri hq (z_at.mk 1 rfl rfl) rfl rfl hV_22 rfl H_2
def g_m_isList (x0 : Int) (σ : zS) : Option (Int × zS) :=
  (g_m_isIn x0 0 5 σ).bind fun o_3 =>
  if o_3.1 = 0 ∨ o_3.1 = 1 then some (o_3.1, o_3.2) else none
set_option maxHeartbeats 4000000 in
theorem g_m_isList_ok {xl : Nat} {xs : Nat → Int32} {X0 : Int32} {x0 : Int} (hx0 : X0.toInt = x0) {σ : zS} {p : Nat} {m : zM} {o : Int × zS} (H : zRep xl xs p m σ) (h : g_m_isList x0 σ = some o) : zGo xl xs (fun p' => p = p') 2 262 0 (z_can 262 0 (lv_args 0 [.int X0])) [] m (vI o.1) o.2 := by
  have hq : z_mth 262 = some z_r262 := rfl
  unfold g_m_isList at h
  show zGo xl xs (fun p' => p = p') 2 262 0 [(0, .int X0)] [] m (vI o.1) o.2
  refine r_p hq 3 (pc' := 3) (L' := [(0, .int X0)]) (st' := [.int ((5 : Int32)), .int ((0 : Int32)), .int X0]) rfl ?_
  obtain ⟨o_3, h_3, h⟩ := Option.bind_eq_some_iff.mp h
  refine r_csI (pc' := 6) (L' := [(0, .int X0)]) (As := [.int X0, .int ((0 : Int32)), .int ((5 : Int32))]) (rest := []) (j := 159) hq (z_at.mk 3 rfl rfl) (Or.inl ⟨rfl, rfl⟩) rfl rfl (by omega) (g_m_isIn_ok hx0 (rfl : (0 : Int32).toInt = 0) (rfl : (5 : Int32).toInt = 5) H h_3) rfl rfl ?_
  intro R_3 m_3 p_3 e_3 hR_3 H_3
  subst e_3
  obtain ⟨g_6, h⟩ := z_if_some h
  cases h
  exact r_ri hq (z_at.mk 1 rfl rfl) rfl (z_rty_bo hR_3 g_6) hR_3 rfl H_3
def g_m_wrong (x1 : Int) (σ : zS) : Option (Int × zS) :=
  (g_m_isList x1 σ).bind fun o_1 =>
  if o_1.1 ≠ 0 then
    if 0 ≤ x1 ∧ x1 < 6 then
    let v_16 := o_1.2 166 x1
    if 0 ≤ v_16 then
      some (0, o_1.2)
    else
      some (-11, o_1.2)
    else none
  else
    some (-1, o_1.2)
set_option maxHeartbeats 4000000 in
theorem g_m_wrong_ok {xl : Nat} {xs : Nat → Int32} {X1 : Int32} {x1 : Int} (hx1 : X1.toInt = x1) {σ : zS} {p : Nat} {m : zM} {o : Int × zS} (H : zRep xl xs p m σ) (h : g_m_wrong x1 σ = some o) : zGo xl xs (fun p' => p = p') 3 263 0 (z_can 263 0 (lv_args 0 [.ref 143, .int X1])) [] m (vI o.1) o.2 := by
  have hq : z_mth 263 = some z_r263 := rfl
  unfold g_m_wrong at h
  show zGo xl xs (fun p' => p = p') 3 263 0 [(0, .ref 143), (1, .int X1)] [] m (vI o.1) o.2
  refine r_p hq 1 (pc' := 1) (L' := [(0, .ref 143), (1, .int X1)]) (st' := [.int X1]) rfl ?_
  obtain ⟨o_1, h_1, h⟩ := Option.bind_eq_some_iff.mp h
  refine r_csI (pc' := 4) (L' := [(0, .ref 143), (1, .int X1)]) (As := [.int X1]) (rest := []) (j := 262) hq (z_at.mk 3 rfl rfl) (Or.inl ⟨rfl, rfl⟩) rfl rfl (by omega) (g_m_isList_ok hx1 H h_1) rfl rfl ?_
  intro R_1 m_1 p_1 e_1 hR_1 H_1
  subst e_1
  rcases z_ite h with ⟨c_4, h⟩ | ⟨c_4, h⟩
  · refine r_t1 (pc' := 11) (L' := [(0, .ref 143), (1, .int X1)]) hq (z_at.mk 3 rfl rfl) rfl hR_1 c_4 rfl rfl ?_
    refine r_p hq 1 (pc' := 12) (L' := [(0, .ref 143), (1, .int X1)]) (st' := [.ref 143]) rfl ?_
    refine r_gR (b := 166) (pc' := 15) (L' := [(0, .ref 143), (1, .int X1)]) H_1 hq (z_at.mk 3 rfl rfl) rfl rfl rfl rfl ?_
    refine r_p hq 1 (pc' := 16) (L' := [(0, .ref 143), (1, .int X1)]) (st' := [.int X1, .ref 166]) rfl ?_
    obtain ⟨g_16, h⟩ := z_ifo_some h
    refine r_ia (pc' := 17) (L' := [(0, .ref 143), (1, .int X1)]) H_1 hq (z_at.mk 1 rfl rfl) (show zAr 166 0 6 = true from rfl) hx1 g_16 rfl rfl ?_
    intro V_16 hV_16
    rcases z_ite h with ⟨c_17, h⟩ | ⟨c_17, h⟩
    · refine r_t1 (pc' := 25) (L' := [(0, .ref 143), (1, .int X1)]) hq (z_at.mk 3 rfl rfl) rfl hV_16 c_17 rfl rfl ?_
      refine r_p hq 1 (pc' := 26) (L' := []) (st' := [.int ((0 : Int32))]) rfl ?_
      cases h
      exact r_ri hq (z_at.mk 1 rfl rfl) rfl rfl (rfl : (0 : Int32).toInt = 0) rfl H_1
    · refine r_f1 (pc' := 20) (L' := [(0, .ref 143), (1, .int X1)]) hq (z_at.mk 3 rfl rfl) rfl hV_16 c_17 rfl rfl ?_
      refine r_p hq 2 (pc' := 26) (L' := []) (st' := [.int ((-11 : Int32))]) rfl ?_
      cases h
      exact r_ri hq (z_at.mk 1 rfl rfl) rfl rfl (rfl : (-11 : Int32).toInt = -11) rfl H_1
  · refine r_f1 (pc' := 7) (L' := [(0, .ref 143), (1, .int X1)]) hq (z_at.mk 3 rfl rfl) rfl hR_1 c_4 rfl rfl ?_
    refine r_p hq 2 (pc' := 26) (L' := []) (st' := [.int ((-1 : Int32))]) rfl ?_
    cases h
    exact r_ri hq (z_at.mk 1 rfl rfl) rfl rfl (rfl : (-1 : Int32).toInt = -1) rfl H_1
def g_m_list_L34 : Nat → Int → Int → zS → Option (Int × zS)
  | 0, _, _, _ => none
  | n + 1, x1, x3, σ =>
    if 60 ≤ x3 then
      some (1, σ)
    else
      if 0 ≤ w32 ((w32 (60 * x1)) + x3) ∧ w32 ((w32 (60 * x1)) + x3) < 360 then
      let s_51 := zu σ 167 (w32 ((w32 (60 * x1)) + x3)) 0
      (g_m_list_L34 n) x1 (w32 (x3 + 1)) s_51
      else none
set_option maxHeartbeats 4000000 in
theorem g_m_list_L34_ok {xl : Nat} {xs : Nat → Int32} : ∀ (n : Nat) {X1 : Int32} {x1 : Int} {X3 : Int32} {x3 : Int} {σ : zS} {p : Nat} {m : zM} {o : Int × zS}, X1.toInt = x1 → X3.toInt = x3 → zRep xl xs p m σ → g_m_list_L34 n x1 x3 σ = some o → zGo xl xs (fun p' => p = p') 3 264 34 [(0, .ref 143), (1, .int X1), (3, .int X3)] [] m (vI o.1) o.2
  | 0, _, _, _, _, _, _, _, _, _, _, _, h => by cases h
  | n + 1, X1, x1, X3, x3, σ, p, m, o, hx1, hx3, H, h => by
    have hq : z_mth 264 = some z_r264 := rfl
    have ih := fun {X1 : Int32} {x1 : Int} {X3 : Int32} {x3 : Int} {σ : zS} {p : Nat} {m : zM} {o : Int × zS} => g_m_list_L34_ok (xl := xl) (xs := xs) n (X1 := X1) (x1 := x1) (X3 := X3) (x3 := x3) (σ := σ) (p := p) (m := m) (o := o)
    unfold g_m_list_L34 at h
    refine r_p hq 2 (pc' := 37) (L' := [(0, .ref 143), (1, .int X1), (3, .int X3)]) (st' := [.int ((60 : Int32)), .int X3]) rfl ?_
    rcases z_ite h with ⟨c_37, h⟩ | ⟨c_37, h⟩
    · refine r_t2 (pc' := 58) (L' := [(0, .ref 143), (1, .int X1), (3, .int X3)]) hq (z_at.mk 3 rfl rfl) rfl hx3 (rfl : (60 : Int32).toInt = 60) c_37 rfl rfl ?_
      refine r_p hq 1 (pc' := 59) (L' := [(0, .ref 143), (1, .int X1), (3, .int X3)]) (st' := [.int ((1 : Int32))]) rfl ?_
      cases h
      exact r_ri hq (z_at.mk 1 rfl rfl) rfl rfl (rfl : (1 : Int32).toInt = 1) rfl H
    · refine r_f2 (pc' := 40) (L' := [(0, .ref 143), (1, .int X1), (3, .int X3)]) hq (z_at.mk 3 rfl rfl) rfl hx3 (rfl : (60 : Int32).toInt = 60) c_37 rfl rfl ?_
      refine r_p hq 1 (pc' := 41) (L' := [(0, .ref 143), (1, .int X1), (3, .int X3)]) (st' := [.ref 143]) rfl ?_
      refine r_gR (b := 167) (pc' := 44) (L' := [(0, .ref 143), (1, .int X1), (3, .int X3)]) H hq (z_at.mk 3 rfl rfl) rfl rfl rfl rfl ?_
      refine r_p hq 6 (pc' := 51) (L' := [(0, .ref 143), (1, .int X1), (3, .int X3)]) (st' := [.long ((0 : Int64)), .int ((((60 : Int32)) * X1) + X3), .ref 167]) rfl ?_
      obtain ⟨g_51, h⟩ := z_ifo_some h
      refine r_ls (pc' := 52) (L' := [(0, .ref 143), (1, .int X1), (3, .int X3)]) H hq (z_at.mk 1 rfl rfl) (show zAr 167 1 360 = true from rfl) (tx_iadd (tx_imul (rfl : (60 : Int32).toInt = 60) hx1) hx3) g_51 (rfl : (0 : Int64).toInt = 0) rfl rfl ?_
      intro m_51 H_51
      refine r_p hq 2 (pc' := 34) (L' := [(0, .ref 143), (1, .int X1), (3, .int (X3 + (1 : Int32)))]) (st' := []) rfl ?_
      exact ih hx1 (tx_iadd hx3 (rfl : (1 : Int32).toInt = 1)) H_51 h
def g_m_list (x1 : Int) (x2 : Int) (σ : zS) : Option (Int × zS) :=
  (g_m_isList x1 σ).bind fun o_1 =>
  if o_1.1 ≠ 0 then
    if x2 ≤ 60 then
      if 0 ≤ x2 then
        if 0 ≤ x1 ∧ x1 < 6 then
        let s_31 := zu o_1.2 166 x1 x2
        g_m_list_L34 zK x1 0 s_31
        else none
      else
        some (-14, o_1.2)
    else
      some (-2, o_1.2)
  else
    some (-1, o_1.2)
set_option maxHeartbeats 4000000 in
theorem g_m_list_ok {xl : Nat} {xs : Nat → Int32} {X1 : Int32} {x1 : Int} (hx1 : X1.toInt = x1) {X2 : Int32} {x2 : Int} (hx2 : X2.toInt = x2) {σ : zS} {p : Nat} {m : zM} {o : Int × zS} (H : zRep xl xs p m σ) (h : g_m_list x1 x2 σ = some o) : zGo xl xs (fun p' => p = p') 3 264 0 (z_can 264 0 (lv_args 0 [.ref 143, .int X1, .int X2])) [] m (vI o.1) o.2 := by
  have hq : z_mth 264 = some z_r264 := rfl
  unfold g_m_list at h
  show zGo xl xs (fun p' => p = p') 3 264 0 [(0, .ref 143), (1, .int X1), (2, .int X2)] [] m (vI o.1) o.2
  refine r_p hq 1 (pc' := 1) (L' := [(0, .ref 143), (1, .int X1), (2, .int X2)]) (st' := [.int X1]) rfl ?_
  obtain ⟨o_1, h_1, h⟩ := Option.bind_eq_some_iff.mp h
  refine r_csI (pc' := 4) (L' := [(0, .ref 143), (1, .int X1), (2, .int X2)]) (As := [.int X1]) (rest := []) (j := 262) hq (z_at.mk 3 rfl rfl) (Or.inl ⟨rfl, rfl⟩) rfl rfl (by omega) (g_m_isList_ok hx1 H h_1) rfl rfl ?_
  intro R_1 m_1 p_1 e_1 hR_1 H_1
  subst e_1
  rcases z_ite h with ⟨c_4, h⟩ | ⟨c_4, h⟩
  · refine r_t1 (pc' := 9) (L' := [(0, .ref 143), (1, .int X1), (2, .int X2)]) hq (z_at.mk 3 rfl rfl) rfl hR_1 c_4 rfl rfl ?_
    refine r_p hq 2 (pc' := 12) (L' := [(0, .ref 143), (1, .int X1), (2, .int X2)]) (st' := [.int ((60 : Int32)), .int X2]) rfl ?_
    rcases z_ite h with ⟨c_12, h⟩ | ⟨c_12, h⟩
    · refine r_t2 (pc' := 18) (L' := [(0, .ref 143), (1, .int X1), (2, .int X2)]) hq (z_at.mk 3 rfl rfl) rfl hx2 (rfl : (60 : Int32).toInt = 60) c_12 rfl rfl ?_
      refine r_p hq 1 (pc' := 19) (L' := [(0, .ref 143), (1, .int X1), (2, .int X2)]) (st' := [.int X2]) rfl ?_
      rcases z_ite h with ⟨c_19, h⟩ | ⟨c_19, h⟩
      · refine r_t1 (pc' := 25) (L' := [(0, .ref 143), (1, .int X1), (2, .int X2)]) hq (z_at.mk 3 rfl rfl) rfl hx2 c_19 rfl rfl ?_
        refine r_p hq 1 (pc' := 26) (L' := [(0, .ref 143), (1, .int X1), (2, .int X2)]) (st' := [.ref 143]) rfl ?_
        refine r_gR (b := 166) (pc' := 29) (L' := [(0, .ref 143), (1, .int X1), (2, .int X2)]) H_1 hq (z_at.mk 3 rfl rfl) rfl rfl rfl rfl ?_
        refine r_p hq 2 (pc' := 31) (L' := [(0, .ref 143), (1, .int X1), (2, .int X2)]) (st' := [.int X2, .int X1, .ref 166]) rfl ?_
        obtain ⟨g_31, h⟩ := z_ifo_some h
        refine r_is (pc' := 32) (L' := [(0, .ref 143), (1, .int X1), (2, .int X2)]) H_1 hq (z_at.mk 1 rfl rfl) (show zAr 166 0 6 = true from rfl) hx1 g_31 hx2 rfl rfl ?_
        intro m_31 H_31
        refine r_p hq 2 (pc' := 34) (L' := [(0, .ref 143), (1, .int X1), (3, .int ((0 : Int32)))]) (st' := []) rfl ?_
        exact g_m_list_L34_ok zK hx1 (rfl : (0 : Int32).toInt = 0) H_31 h
      · refine r_f1 (pc' := 22) (L' := [(0, .ref 143), (1, .int X1), (2, .int X2)]) hq (z_at.mk 3 rfl rfl) rfl hx2 c_19 rfl rfl ?_
        refine r_p hq 1 (pc' := 24) (L' := [(0, .ref 143), (1, .int X1), (2, .int X2)]) (st' := [.int ((-14 : Int32))]) rfl ?_
        cases h
        exact r_ri hq (z_at.mk 1 rfl rfl) rfl rfl (rfl : (-14 : Int32).toInt = -14) rfl H_1
    · refine r_f2 (pc' := 15) (L' := [(0, .ref 143), (1, .int X1), (2, .int X2)]) hq (z_at.mk 3 rfl rfl) rfl hx2 (rfl : (60 : Int32).toInt = 60) c_12 rfl rfl ?_
      refine r_p hq 1 (pc' := 17) (L' := [(0, .ref 143), (1, .int X1), (2, .int X2)]) (st' := [.int ((-2 : Int32))]) rfl ?_
      cases h
      exact r_ri hq (z_at.mk 1 rfl rfl) rfl rfl (rfl : (-2 : Int32).toInt = -2) rfl H_1
  · refine r_f1 (pc' := 7) (L' := [(0, .ref 143), (1, .int X1), (2, .int X2)]) hq (z_at.mk 3 rfl rfl) rfl hR_1 c_4 rfl rfl ?_
    refine r_p hq 1 (pc' := 8) (L' := [(0, .ref 143), (1, .int X1), (2, .int X2)]) (st' := [.int ((-1 : Int32))]) rfl ?_
    cases h
    exact r_ri hq (z_at.mk 1 rfl rfl) rfl rfl (rfl : (-1 : Int32).toInt = -1) rfl H_1
def g_m_set (x1 : Int) (x2 : Int) (y3 : Int) (σ : zS) : Option (Int × zS) :=
  (g_m_wrong x1 σ).bind fun o_2 =>
  if o_2.1 = 0 then
    if 0 ≤ x1 ∧ x1 < 6 then
    let v_22 := o_2.2 166 x1
    (g_m_isIn x2 0 (w32 (v_22 - 1)) o_2.2).bind fun o_25 =>
    if o_25.1 ≠ 0 then
      if 0 ≤ w32 ((w32 (60 * x1)) + x2) ∧ w32 ((w32 (60 * x1)) + x2) < 360 then
      let s_45 := zu o_25.2 167 (w32 ((w32 (60 * x1)) + x2)) y3
      some (1, s_45)
      else none
    else
      some (-13, o_25.2)
    else none
  else
    some (o_2.1, o_2.2)
set_option maxHeartbeats 4000000 in
theorem g_m_set_ok {xl : Nat} {xs : Nat → Int32} {X1 : Int32} {x1 : Int} (hx1 : X1.toInt = x1) {X2 : Int32} {x2 : Int} (hx2 : X2.toInt = x2) {Y3 : Int64} {y3 : Int} (hy3 : Y3.toInt = y3) {σ : zS} {p : Nat} {m : zM} {o : Int × zS} (H : zRep xl xs p m σ) (h : g_m_set x1 x2 y3 σ = some o) : zGo xl xs (fun p' => p = p') 4 265 0 (z_can 265 0 (lv_args 0 [.ref 143, .int X1, .int X2, .long Y3])) [] m (vI o.1) o.2 := by
  have hq : z_mth 265 = some z_r265 := rfl
  unfold g_m_set at h
  show zGo xl xs (fun p' => p = p') 4 265 0 [(0, .ref 143), (1, .int X1), (2, .int X2), (3, .long Y3)] [] m (vI o.1) o.2
  refine r_p hq 2 (pc' := 2) (L' := [(0, .ref 143), (1, .int X1), (2, .int X2), (3, .long Y3)]) (st' := [.int X1, .ref 143]) rfl ?_
  obtain ⟨o_2, h_2, h⟩ := Option.bind_eq_some_iff.mp h
  refine r_cvI (pc' := 5) (L' := [(0, .ref 143), (1, .int X1), (2, .int X2), (3, .long Y3)]) (Ps := [.int X1]) (rest := []) hq (z_at.mk 3 rfl rfl) (Or.inl ⟨rfl, rfl⟩) rfl rfl (by decide) (by decide) rfl (Nat.not_lt.mpr (Nat.le_of_ble_eq_true rfl)) rfl rfl (z_cat_le 0 rfl (by decide)) (z_lgl_le 2 rfl (by decide)) (by decide) (H.tg rfl) (by omega) (g_m_wrong_ok hx1 H h_2) rfl rfl ?_
  intro R_2 m_2 p_2 e_2 hR_2 H_2
  subst e_2
  refine r_p hq 2 (pc' := 9) (L' := [(5, .int R_2), (0, .ref 143), (1, .int X1), (2, .int X2), (3, .long Y3)]) (st' := [.int R_2]) rfl ?_
  rcases z_ite h with ⟨c_9, h⟩ | ⟨c_9, h⟩
  · refine r_t1 (pc' := 15) (L' := [(5, .int R_2), (0, .ref 143), (1, .int X1), (2, .int X2), (3, .long Y3)]) hq (z_at.mk 3 rfl rfl) rfl hR_2 c_9 rfl rfl ?_
    refine r_p hq 3 (pc' := 18) (L' := [(5, .int R_2), (0, .ref 143), (1, .int X1), (2, .int X2), (3, .long Y3)]) (st' := [.ref 143, .int ((0 : Int32)), .int X2]) rfl ?_
    refine r_gR (b := 166) (pc' := 21) (L' := [(5, .int R_2), (0, .ref 143), (1, .int X1), (2, .int X2), (3, .long Y3)]) H_2 hq (z_at.mk 3 rfl rfl) rfl rfl rfl rfl ?_
    refine r_p hq 1 (pc' := 22) (L' := [(5, .int R_2), (0, .ref 143), (1, .int X1), (2, .int X2), (3, .long Y3)]) (st' := [.int X1, .ref 166, .int ((0 : Int32)), .int X2]) rfl ?_
    obtain ⟨g_22, h⟩ := z_ifo_some h
    refine r_ia (pc' := 23) (L' := [(5, .int R_2), (0, .ref 143), (1, .int X1), (2, .int X2), (3, .long Y3)]) H_2 hq (z_at.mk 1 rfl rfl) (show zAr 166 0 6 = true from rfl) hx1 g_22 rfl rfl ?_
    intro V_22 hV_22
    refine r_p hq 2 (pc' := 25) (L' := [(5, .int R_2), (0, .ref 143), (1, .int X1), (2, .int X2), (3, .long Y3)]) (st' := [.int (V_22 - ((1 : Int32))), .int ((0 : Int32)), .int X2]) rfl ?_
    obtain ⟨o_25, h_25, h⟩ := Option.bind_eq_some_iff.mp h
    refine r_csI (pc' := 28) (L' := [(5, .int R_2), (0, .ref 143), (1, .int X1), (2, .int X2), (3, .long Y3)]) (As := [.int X2, .int ((0 : Int32)), .int (V_22 - ((1 : Int32)))]) (rest := []) (j := 159) hq (z_at.mk 3 rfl rfl) (Or.inl ⟨rfl, rfl⟩) rfl rfl (by omega) (g_m_isIn_ok hx2 (rfl : (0 : Int32).toInt = 0) (tx_isub hV_22 (rfl : (1 : Int32).toInt = 1)) H_2 h_25) rfl rfl ?_
    intro R_25 m_25 p_25 e_25 hR_25 H_25
    subst e_25
    rcases z_ite h with ⟨c_28, h⟩ | ⟨c_28, h⟩
    · refine r_t1 (pc' := 34) (L' := [(5, .int R_2), (0, .ref 143), (1, .int X1), (2, .int X2), (3, .long Y3)]) hq (z_at.mk 3 rfl rfl) rfl hR_25 c_28 rfl rfl ?_
      refine r_p hq 1 (pc' := 35) (L' := [(5, .int R_2), (0, .ref 143), (1, .int X1), (2, .int X2), (3, .long Y3)]) (st' := [.ref 143]) rfl ?_
      refine r_gR (b := 167) (pc' := 38) (L' := [(5, .int R_2), (0, .ref 143), (1, .int X1), (2, .int X2), (3, .long Y3)]) H_25 hq (z_at.mk 3 rfl rfl) rfl rfl rfl rfl ?_
      refine r_p hq 6 (pc' := 45) (L' := [(5, .int R_2), (0, .ref 143), (1, .int X1), (2, .int X2), (3, .long Y3)]) (st' := [.long Y3, .int ((((60 : Int32)) * X1) + X2), .ref 167]) rfl ?_
      obtain ⟨g_45, h⟩ := z_ifo_some h
      refine r_ls (pc' := 46) (L' := [(5, .int R_2), (0, .ref 143), (1, .int X1), (2, .int X2), (3, .long Y3)]) H_25 hq (z_at.mk 1 rfl rfl) (show zAr 167 1 360 = true from rfl) (tx_iadd (tx_imul (rfl : (60 : Int32).toInt = 60) hx1) hx2) g_45 hy3 rfl rfl ?_
      intro m_45 H_45
      refine r_p hq 1 (pc' := 47) (L' := [(5, .int R_2), (0, .ref 143), (1, .int X1), (2, .int X2), (3, .long Y3)]) (st' := [.int ((1 : Int32))]) rfl ?_
      cases h
      exact r_ri hq (z_at.mk 1 rfl rfl) rfl rfl (rfl : (1 : Int32).toInt = 1) rfl H_45
    · refine r_f1 (pc' := 31) (L' := [(5, .int R_2), (0, .ref 143), (1, .int X1), (2, .int X2), (3, .long Y3)]) hq (z_at.mk 3 rfl rfl) rfl hR_25 c_28 rfl rfl ?_
      refine r_p hq 1 (pc' := 33) (L' := [(5, .int R_2), (0, .ref 143), (1, .int X1), (2, .int X2), (3, .long Y3)]) (st' := [.int ((-13 : Int32))]) rfl ?_
      cases h
      exact r_ri hq (z_at.mk 1 rfl rfl) rfl rfl (rfl : (-13 : Int32).toInt = -13) rfl H_25
  · refine r_f1 (pc' := 12) (L' := [(5, .int R_2), (0, .ref 143), (1, .int X1), (2, .int X2), (3, .long Y3)]) hq (z_at.mk 3 rfl rfl) rfl hR_2 c_9 rfl rfl ?_
    refine r_p hq 1 (pc' := 14) (L' := [(5, .int R_2), (0, .ref 143), (1, .int X1), (2, .int X2), (3, .long Y3)]) (st' := [.int R_2]) rfl ?_
    cases h
    exact r_ri hq (z_at.mk 1 rfl rfl) rfl rfl hR_2 rfl H_2
def g_m_get (x1 : Int) (x2 : Int) (σ : zS) : Option (Int × zS) :=
  (g_m_wrong x1 σ).bind fun o_2 =>
  if o_2.1 ≠ 0 then
    some (-9223372036854775808, o_2.2)
  else
    if 0 ≤ x1 ∧ x1 < 6 then
    let v_15 := o_2.2 166 x1
    (g_m_isIn x2 0 (w32 (v_15 - 1)) o_2.2).bind fun o_18 =>
    if o_18.1 ≠ 0 then
      if 0 ≤ w32 ((w32 (60 * x1)) + x2) ∧ w32 ((w32 (60 * x1)) + x2) < 360 then
      let v_40 := o_18.2 167 (w32 ((w32 (60 * x1)) + x2))
      some (v_40, o_18.2)
      else none
    else
      some (-9223372036854775808, o_18.2)
    else none
set_option maxHeartbeats 4000000 in
theorem g_m_get_ok {xl : Nat} {xs : Nat → Int32} {X1 : Int32} {x1 : Int} (hx1 : X1.toInt = x1) {X2 : Int32} {x2 : Int} (hx2 : X2.toInt = x2) {σ : zS} {p : Nat} {m : zM} {o : Int × zS} (H : zRep xl xs p m σ) (h : g_m_get x1 x2 σ = some o) : zGo xl xs (fun p' => p = p') 4 266 0 (z_can 266 0 (lv_args 0 [.ref 143, .int X1, .int X2])) [] m (vL o.1) o.2 := by
  have hq : z_mth 266 = some z_r266 := rfl
  unfold g_m_get at h
  show zGo xl xs (fun p' => p = p') 4 266 0 [(0, .ref 143), (1, .int X1), (2, .int X2)] [] m (vL o.1) o.2
  refine r_p hq 2 (pc' := 2) (L' := [(0, .ref 143), (1, .int X1), (2, .int X2)]) (st' := [.int X1, .ref 143]) rfl ?_
  obtain ⟨o_2, h_2, h⟩ := Option.bind_eq_some_iff.mp h
  refine r_cvI (pc' := 5) (L' := [(0, .ref 143), (1, .int X1), (2, .int X2)]) (Ps := [.int X1]) (rest := []) hq (z_at.mk 3 rfl rfl) (Or.inl ⟨rfl, rfl⟩) rfl rfl (by decide) (by decide) rfl (Nat.not_lt.mpr (Nat.le_of_ble_eq_true rfl)) rfl rfl (z_cat_le 0 rfl (by decide)) (z_lgl_le 2 rfl (by decide)) (by decide) (H.tg rfl) (by omega) (g_m_wrong_ok hx1 H h_2) rfl rfl ?_
  intro R_2 m_2 p_2 e_2 hR_2 H_2
  subst e_2
  rcases z_ite h with ⟨c_5, h⟩ | ⟨c_5, h⟩
  · refine r_t1 (pc' := 24) (L' := []) hq (z_at.mk 3 rfl rfl) rfl hR_2 c_5 rfl rfl ?_
    refine r_p hq 2 (pc' := 41) (L' := []) (st' := [.long ((-9223372036854775808 : Int64))]) rfl ?_
    cases h
    exact r_rl hq (z_at.mk 1 rfl rfl) rfl (rfl : (-9223372036854775808 : Int64).toInt = -9223372036854775808) rfl H_2
  · refine r_f1 (pc' := 8) (L' := [(0, .ref 143), (1, .int X1), (2, .int X2)]) hq (z_at.mk 3 rfl rfl) rfl hR_2 c_5 rfl rfl ?_
    refine r_p hq 3 (pc' := 11) (L' := [(0, .ref 143), (1, .int X1), (2, .int X2)]) (st' := [.ref 143, .int ((0 : Int32)), .int X2]) rfl ?_
    refine r_gR (b := 166) (pc' := 14) (L' := [(0, .ref 143), (1, .int X1), (2, .int X2)]) H_2 hq (z_at.mk 3 rfl rfl) rfl rfl rfl rfl ?_
    refine r_p hq 1 (pc' := 15) (L' := [(0, .ref 143), (1, .int X1), (2, .int X2)]) (st' := [.int X1, .ref 166, .int ((0 : Int32)), .int X2]) rfl ?_
    obtain ⟨g_15, h⟩ := z_ifo_some h
    refine r_ia (pc' := 16) (L' := [(0, .ref 143), (1, .int X1), (2, .int X2)]) H_2 hq (z_at.mk 1 rfl rfl) (show zAr 166 0 6 = true from rfl) hx1 g_15 rfl rfl ?_
    intro V_15 hV_15
    refine r_p hq 2 (pc' := 18) (L' := [(0, .ref 143), (1, .int X1), (2, .int X2)]) (st' := [.int (V_15 - ((1 : Int32))), .int ((0 : Int32)), .int X2]) rfl ?_
    obtain ⟨o_18, h_18, h⟩ := Option.bind_eq_some_iff.mp h
    refine r_csI (pc' := 21) (L' := [(0, .ref 143), (1, .int X1), (2, .int X2)]) (As := [.int X2, .int ((0 : Int32)), .int (V_15 - ((1 : Int32)))]) (rest := []) (j := 159) hq (z_at.mk 3 rfl rfl) (Or.inl ⟨rfl, rfl⟩) rfl rfl (by omega) (g_m_isIn_ok hx2 (rfl : (0 : Int32).toInt = 0) (tx_isub hV_15 (rfl : (1 : Int32).toInt = 1)) H_2 h_18) rfl rfl ?_
    intro R_18 m_18 p_18 e_18 hR_18 H_18
    subst e_18
    rcases z_ite h with ⟨c_21, h⟩ | ⟨c_21, h⟩
    · refine r_t1 (pc' := 30) (L' := [(0, .ref 143), (1, .int X1), (2, .int X2)]) hq (z_at.mk 3 rfl rfl) rfl hR_18 c_21 rfl rfl ?_
      refine r_p hq 1 (pc' := 31) (L' := [(0, .ref 143), (1, .int X1), (2, .int X2)]) (st' := [.ref 143]) rfl ?_
      refine r_gR (b := 167) (pc' := 34) (L' := [(0, .ref 143), (1, .int X1), (2, .int X2)]) H_18 hq (z_at.mk 3 rfl rfl) rfl rfl rfl rfl ?_
      refine r_p hq 5 (pc' := 40) (L' := [(0, .ref 143), (1, .int X1), (2, .int X2)]) (st' := [.int ((((60 : Int32)) * X1) + X2), .ref 167]) rfl ?_
      obtain ⟨g_40, h⟩ := z_ifo_some h
      refine r_la (pc' := 41) (L' := []) H_18 hq (z_at.mk 1 rfl rfl) (show zAr 167 1 360 = true from rfl) (tx_iadd (tx_imul (rfl : (60 : Int32).toInt = 60) hx1) hx2) g_40 rfl rfl ?_
      intro V_40 hV_40
      cases h
      exact r_rl hq (z_at.mk 1 rfl rfl) rfl hV_40 rfl H_18
    · refine r_f1 (pc' := 24) (L' := []) hq (z_at.mk 3 rfl rfl) rfl hR_18 c_21 rfl rfl ?_
      refine r_p hq 2 (pc' := 41) (L' := []) (st' := [.long ((-9223372036854775808 : Int64))]) rfl ?_
      cases h
      exact r_rl hq (z_at.mk 1 rfl rfl) rfl (rfl : (-9223372036854775808 : Int64).toInt = -9223372036854775808) rfl H_18
def g_m_move_L109 (g84 : Int → Int → Int → Int → Int → Int → zS → Option (Int × zS)) (x1 : Int) (x2 : Int) (x3 : Int) (x4 : Int) (x5 : Int) (x6 : Int) (xs0 : Int) (σ : zS) : Option (Int × zS) :=
  if 0 ≤ w32 ((w32 ((w32 (60 * x1)) + x2)) + xs0) ∧ w32 ((w32 ((w32 (60 * x1)) + x2)) + xs0) < 360 then
  let v_138 := σ 167 (w32 ((w32 ((w32 (60 * x1)) + x2)) + xs0))
  if 0 ≤ w32 ((w32 ((w32 (60 * x3)) + x4)) + xs0) ∧ w32 ((w32 ((w32 (60 * x3)) + x4)) + xs0) < 360 then
  let s_139 := zu σ 167 (w32 ((w32 ((w32 (60 * x3)) + x4)) + xs0)) v_138
  g84 x1 x2 x3 x4 x5 (w32 (x6 + 1)) s_139
  else none
  else none
set_option maxHeartbeats 4000000 in
theorem g_m_move_L109_ok {xl : Nat} {xs : Nat → Int32} {g84 : Int → Int → Int → Int → Int → Int → zS → Option (Int × zS)} (hg84 : ∀ {X1 : Int32} {x1 : Int} {X2 : Int32} {x2 : Int} {X3 : Int32} {x3 : Int} {X4 : Int32} {x4 : Int} {X5 : Int32} {x5 : Int} {X6 : Int32} {x6 : Int} {σ : zS} {p : Nat} {m : zM} {o : Int × zS}, X1.toInt = x1 → X2.toInt = x2 → X3.toInt = x3 → X4.toInt = x4 → X5.toInt = x5 → X6.toInt = x6 → zRep xl xs p m σ → g84 x1 x2 x3 x4 x5 x6 σ = some o → zGo xl xs (fun p' => p = p') 3 267 84 [(0, .ref 143), (1, .int X1), (2, .int X2), (3, .int X3), (4, .int X4), (5, .int X5), (6, .int X6)] [] m (vI o.1) o.2) {X1 : Int32} {x1 : Int} (hx1 : X1.toInt = x1) {X2 : Int32} {x2 : Int} (hx2 : X2.toInt = x2) {X3 : Int32} {x3 : Int} (hx3 : X3.toInt = x3) {X4 : Int32} {x4 : Int} (hx4 : X4.toInt = x4) {X5 : Int32} {x5 : Int} (hx5 : X5.toInt = x5) {X6 : Int32} {x6 : Int} (hx6 : X6.toInt = x6) {Xs0 : Int32} {xs0 : Int} (hxs0 : Xs0.toInt = xs0) {σ : zS} {p : Nat} {m : zM} {o : Int × zS} (H : zRep xl xs p m σ) (h : g_m_move_L109 g84 x1 x2 x3 x4 x5 x6 xs0 σ = some o) : zGo xl xs (fun p' => p = p') 3 267 109 [(0, .ref 143), (1, .int X1), (2, .int X2), (3, .int X3), (4, .int X4), (5, .int X5), (6, .int X6)] [.int Xs0] m (vI o.1) o.2 := by
  have hq : z_mth 267 = some z_r267 := rfl
  unfold g_m_move_L109 at h
  refine r_p hq 2 (pc' := 112) (L' := [(7, .int Xs0), (0, .ref 143), (1, .int X1), (2, .int X2), (3, .int X3), (4, .int X4), (5, .int X5), (6, .int X6)]) (st' := [.ref 143]) rfl ?_
  refine r_gR (b := 167) (pc' := 115) (L' := [(7, .int Xs0), (0, .ref 143), (1, .int X1), (2, .int X2), (3, .int X3), (4, .int X4), (5, .int X5), (6, .int X6)]) H hq (z_at.mk 3 rfl rfl) rfl rfl rfl rfl ?_
  refine r_p hq 8 (pc' := 126) (L' := [(7, .int Xs0), (0, .ref 143), (1, .int X1), (2, .int X2), (3, .int X3), (4, .int X4), (5, .int X5), (6, .int X6)]) (st' := [.ref 143, .int (((((60 : Int32)) * X3) + X4) + Xs0), .ref 167]) rfl ?_
  refine r_gR (b := 167) (pc' := 129) (L' := [(7, .int Xs0), (0, .ref 143), (1, .int X1), (2, .int X2), (3, .int X3), (4, .int X4), (5, .int X5), (6, .int X6)]) H hq (z_at.mk 3 rfl rfl) rfl rfl rfl rfl ?_
  refine r_p hq 7 (pc' := 138) (L' := [(7, .int Xs0), (0, .ref 143), (1, .int X1), (2, .int X2), (3, .int X3), (4, .int X4), (5, .int X5), (6, .int X6)]) (st' := [.int (((((60 : Int32)) * X1) + X2) + Xs0), .ref 167, .int (((((60 : Int32)) * X3) + X4) + Xs0), .ref 167]) rfl ?_
  obtain ⟨g_138, h⟩ := z_ifo_some h
  refine r_la (pc' := 139) (L' := [(7, .int Xs0), (0, .ref 143), (1, .int X1), (2, .int X2), (3, .int X3), (4, .int X4), (5, .int X5), (6, .int X6)]) H hq (z_at.mk 1 rfl rfl) (show zAr 167 1 360 = true from rfl) (tx_iadd (tx_iadd (tx_imul (rfl : (60 : Int32).toInt = 60) hx1) hx2) hxs0) g_138 rfl rfl ?_
  intro V_138 hV_138
  obtain ⟨g_139, h⟩ := z_ifo_some h
  refine r_ls (pc' := 140) (L' := [(7, .int Xs0), (0, .ref 143), (1, .int X1), (2, .int X2), (3, .int X3), (4, .int X4), (5, .int X5), (6, .int X6)]) H hq (z_at.mk 1 rfl rfl) (show zAr 167 1 360 = true from rfl) (tx_iadd (tx_iadd (tx_imul (rfl : (60 : Int32).toInt = 60) hx3) hx4) hxs0) g_139 hV_138 rfl rfl ?_
  intro m_139 H_139
  refine r_p hq 2 (pc' := 84) (L' := [(0, .ref 143), (1, .int X1), (2, .int X2), (3, .int X3), (4, .int X4), (5, .int X5), (6, .int (X6 + (1 : Int32)))]) (st' := []) rfl ?_
  exact hg84 hx1 hx2 hx3 hx4 hx5 (tx_iadd hx6 (rfl : (1 : Int32).toInt = 1)) H_139 h
def g_m_move_L84 : Nat → Int → Int → Int → Int → Int → Int → zS → Option (Int × zS)
  | 0, _, _, _, _, _, _, _ => none
  | n + 1, x1, x2, x3, x4, x5, x6, σ =>
    if x5 ≤ x6 then
      some (x5, σ)
    else
      if x2 ≤ x4 then
        g_m_move_L109 ((g_m_move_L84 n)) x1 x2 x3 x4 x5 x6 (w32 ((w32 (x5 - 1)) - x6)) σ
      else
        g_m_move_L109 ((g_m_move_L84 n)) x1 x2 x3 x4 x5 x6 x6 σ
set_option maxHeartbeats 4000000 in
theorem g_m_move_L84_ok {xl : Nat} {xs : Nat → Int32} : ∀ (n : Nat) {X1 : Int32} {x1 : Int} {X2 : Int32} {x2 : Int} {X3 : Int32} {x3 : Int} {X4 : Int32} {x4 : Int} {X5 : Int32} {x5 : Int} {X6 : Int32} {x6 : Int} {σ : zS} {p : Nat} {m : zM} {o : Int × zS}, X1.toInt = x1 → X2.toInt = x2 → X3.toInt = x3 → X4.toInt = x4 → X5.toInt = x5 → X6.toInt = x6 → zRep xl xs p m σ → g_m_move_L84 n x1 x2 x3 x4 x5 x6 σ = some o → zGo xl xs (fun p' => p = p') 3 267 84 [(0, .ref 143), (1, .int X1), (2, .int X2), (3, .int X3), (4, .int X4), (5, .int X5), (6, .int X6)] [] m (vI o.1) o.2
  | 0, _, _, _, _, _, _, _, _, _, _, _, _, _, _, _, _, _, _, _, _, _, _, _, h => by cases h
  | n + 1, X1, x1, X2, x2, X3, x3, X4, x4, X5, x5, X6, x6, σ, p, m, o, hx1, hx2, hx3, hx4, hx5, hx6, H, h => by
    have hq : z_mth 267 = some z_r267 := rfl
    have ih := fun {X1 : Int32} {x1 : Int} {X2 : Int32} {x2 : Int} {X3 : Int32} {x3 : Int} {X4 : Int32} {x4 : Int} {X5 : Int32} {x5 : Int} {X6 : Int32} {x6 : Int} {σ : zS} {p : Nat} {m : zM} {o : Int × zS} => g_m_move_L84_ok (xl := xl) (xs := xs) n (X1 := X1) (x1 := x1) (X2 := X2) (x2 := x2) (X3 := X3) (x3 := x3) (X4 := X4) (x4 := x4) (X5 := X5) (x5 := x5) (X6 := X6) (x6 := x6) (σ := σ) (p := p) (m := m) (o := o)
    unfold g_m_move_L84 at h
    refine r_p hq 2 (pc' := 88) (L' := [(0, .ref 143), (1, .int X1), (2, .int X2), (3, .int X3), (4, .int X4), (5, .int X5), (6, .int X6)]) (st' := [.int X5, .int X6]) rfl ?_
    rcases z_ite h with ⟨c_88, h⟩ | ⟨c_88, h⟩
    · refine r_t2 (pc' := 146) (L' := [(0, .ref 143), (1, .int X1), (2, .int X2), (3, .int X3), (4, .int X4), (5, .int X5), (6, .int X6)]) hq (z_at.mk 3 rfl rfl) rfl hx6 hx5 c_88 rfl rfl ?_
      refine r_p hq 1 (pc' := 148) (L' := [(0, .ref 143), (1, .int X1), (2, .int X2), (3, .int X3), (4, .int X4), (5, .int X5), (6, .int X6)]) (st' := [.int X5]) rfl ?_
      cases h
      exact r_ri hq (z_at.mk 1 rfl rfl) rfl rfl hx5 rfl H
    · refine r_f2 (pc' := 91) (L' := [(0, .ref 143), (1, .int X1), (2, .int X2), (3, .int X3), (4, .int X4), (5, .int X5), (6, .int X6)]) hq (z_at.mk 3 rfl rfl) rfl hx6 hx5 c_88 rfl rfl ?_
      refine r_p hq 2 (pc' := 94) (L' := [(0, .ref 143), (1, .int X1), (2, .int X2), (3, .int X3), (4, .int X4), (5, .int X5), (6, .int X6)]) (st' := [.int X4, .int X2]) rfl ?_
      rcases z_ite h with ⟨c_94, h⟩ | ⟨c_94, h⟩
      · refine r_t2 (pc' := 102) (L' := [(0, .ref 143), (1, .int X1), (2, .int X2), (3, .int X3), (4, .int X4), (5, .int X5), (6, .int X6)]) hq (z_at.mk 3 rfl rfl) rfl hx2 hx4 c_94 rfl rfl ?_
        refine r_p hq 5 (pc' := 109) (L' := [(0, .ref 143), (1, .int X1), (2, .int X2), (3, .int X3), (4, .int X4), (5, .int X5), (6, .int X6)]) (st' := [.int ((X5 - ((1 : Int32))) - X6)]) rfl ?_
        exact g_m_move_L109_ok ih hx1 hx2 hx3 hx4 hx5 hx6 (tx_isub (tx_isub hx5 (rfl : (1 : Int32).toInt = 1)) hx6) H h
      · refine r_f2 (pc' := 97) (L' := [(0, .ref 143), (1, .int X1), (2, .int X2), (3, .int X3), (4, .int X4), (5, .int X5), (6, .int X6)]) hq (z_at.mk 3 rfl rfl) rfl hx2 hx4 c_94 rfl rfl ?_
        refine r_p hq 2 (pc' := 109) (L' := [(0, .ref 143), (1, .int X1), (2, .int X2), (3, .int X3), (4, .int X4), (5, .int X5), (6, .int X6)]) (st' := [.int X6]) rfl ?_
        exact g_m_move_L109_ok ih hx1 hx2 hx3 hx4 hx5 hx6 hx6 H h
def g_m_move (x1 : Int) (x2 : Int) (x3 : Int) (x4 : Int) (x5 : Int) (σ : zS) : Option (Int × zS) :=
  (g_m_isList x1 σ).bind fun o_1 =>
  if o_1.1 = 0 then
    some (-1, o_1.2)
  else
    (g_m_isList x3 o_1.2).bind fun o_8 =>
    if o_8.1 ≠ 0 then
      if 0 ≤ x1 ∧ x1 < 6 then
      let v_21 := o_8.2 166 x1
      if v_21 < 0 then
        some (-11, o_8.2)
      else
        if 0 ≤ x3 ∧ x3 < 6 then
        let v_30 := o_8.2 166 x3
        if 0 ≤ v_30 then
          if x5 < 0 then
            some (-13, o_8.2)
          else
            if x2 < 0 then
              some (-13, o_8.2)
            else
              if x4 < 0 then
                some (-13, o_8.2)
              else
                if 0 ≤ x1 ∧ x1 < 6 then
                let v_58 := o_8.2 166 x1
                if w32 (v_58 - x2) < x5 then
                  some (-13, o_8.2)
                else
                  if 0 ≤ x3 ∧ x3 < 6 then
                  let v_71 := o_8.2 166 x3
                  if x5 ≤ w32 (v_71 - x4) then
                    g_m_move_L84 zK x1 x2 x3 x4 x5 0 o_8.2
                  else
                    some (-13, o_8.2)
                  else none
                else none
        else
          some (-11, o_8.2)
        else none
      else none
    else
      some (-1, o_8.2)
set_option maxHeartbeats 4000000 in
theorem g_m_move_ok {xl : Nat} {xs : Nat → Int32} {X1 : Int32} {x1 : Int} (hx1 : X1.toInt = x1) {X2 : Int32} {x2 : Int} (hx2 : X2.toInt = x2) {X3 : Int32} {x3 : Int} (hx3 : X3.toInt = x3) {X4 : Int32} {x4 : Int} (hx4 : X4.toInt = x4) {X5 : Int32} {x5 : Int} (hx5 : X5.toInt = x5) {σ : zS} {p : Nat} {m : zM} {o : Int × zS} (H : zRep xl xs p m σ) (h : g_m_move x1 x2 x3 x4 x5 σ = some o) : zGo xl xs (fun p' => p = p') 3 267 0 (z_can 267 0 (lv_args 0 [.ref 143, .int X1, .int X2, .int X3, .int X4, .int X5])) [] m (vI o.1) o.2 := by
  have hq : z_mth 267 = some z_r267 := rfl
  unfold g_m_move at h
  show zGo xl xs (fun p' => p = p') 3 267 0 [(0, .ref 143), (1, .int X1), (2, .int X2), (3, .int X3), (4, .int X4), (5, .int X5)] [] m (vI o.1) o.2
  refine r_p hq 1 (pc' := 1) (L' := [(0, .ref 143), (1, .int X1), (2, .int X2), (3, .int X3), (4, .int X4), (5, .int X5)]) (st' := [.int X1]) rfl ?_
  obtain ⟨o_1, h_1, h⟩ := Option.bind_eq_some_iff.mp h
  refine r_csI (pc' := 4) (L' := [(0, .ref 143), (1, .int X1), (2, .int X2), (3, .int X3), (4, .int X4), (5, .int X5)]) (As := [.int X1]) (rest := []) (j := 262) hq (z_at.mk 3 rfl rfl) (Or.inl ⟨rfl, rfl⟩) rfl rfl (by omega) (g_m_isList_ok hx1 H h_1) rfl rfl ?_
  intro R_1 m_1 p_1 e_1 hR_1 H_1
  subst e_1
  rcases z_ite h with ⟨c_4, h⟩ | ⟨c_4, h⟩
  · refine r_t1 (pc' := 14) (L' := []) hq (z_at.mk 3 rfl rfl) rfl hR_1 c_4 rfl rfl ?_
    refine r_p hq 1 (pc' := 15) (L' := []) (st' := [.int ((-1 : Int32))]) rfl ?_
    cases h
    exact r_ri hq (z_at.mk 1 rfl rfl) rfl rfl (rfl : (-1 : Int32).toInt = -1) rfl H_1
  · refine r_f1 (pc' := 7) (L' := [(0, .ref 143), (1, .int X1), (2, .int X2), (3, .int X3), (4, .int X4), (5, .int X5)]) hq (z_at.mk 3 rfl rfl) rfl hR_1 c_4 rfl rfl ?_
    refine r_p hq 1 (pc' := 8) (L' := [(0, .ref 143), (1, .int X1), (2, .int X2), (3, .int X3), (4, .int X4), (5, .int X5)]) (st' := [.int X3]) rfl ?_
    obtain ⟨o_8, h_8, h⟩ := Option.bind_eq_some_iff.mp h
    refine r_csI (pc' := 11) (L' := [(0, .ref 143), (1, .int X1), (2, .int X2), (3, .int X3), (4, .int X4), (5, .int X5)]) (As := [.int X3]) (rest := []) (j := 262) hq (z_at.mk 3 rfl rfl) (Or.inl ⟨rfl, rfl⟩) rfl rfl (by omega) (g_m_isList_ok hx3 H_1 h_8) rfl rfl ?_
    intro R_8 m_8 p_8 e_8 hR_8 H_8
    subst e_8
    rcases z_ite h with ⟨c_11, h⟩ | ⟨c_11, h⟩
    · refine r_t1 (pc' := 16) (L' := [(0, .ref 143), (1, .int X1), (2, .int X2), (3, .int X3), (4, .int X4), (5, .int X5)]) hq (z_at.mk 3 rfl rfl) rfl hR_8 c_11 rfl rfl ?_
      refine r_p hq 1 (pc' := 17) (L' := [(0, .ref 143), (1, .int X1), (2, .int X2), (3, .int X3), (4, .int X4), (5, .int X5)]) (st' := [.ref 143]) rfl ?_
      refine r_gR (b := 166) (pc' := 20) (L' := [(0, .ref 143), (1, .int X1), (2, .int X2), (3, .int X3), (4, .int X4), (5, .int X5)]) H_8 hq (z_at.mk 3 rfl rfl) rfl rfl rfl rfl ?_
      refine r_p hq 1 (pc' := 21) (L' := [(0, .ref 143), (1, .int X1), (2, .int X2), (3, .int X3), (4, .int X4), (5, .int X5)]) (st' := [.int X1, .ref 166]) rfl ?_
      obtain ⟨g_21, h⟩ := z_ifo_some h
      refine r_ia (pc' := 22) (L' := [(0, .ref 143), (1, .int X1), (2, .int X2), (3, .int X3), (4, .int X4), (5, .int X5)]) H_8 hq (z_at.mk 1 rfl rfl) (show zAr 166 0 6 = true from rfl) hx1 g_21 rfl rfl ?_
      intro V_21 hV_21
      rcases z_ite h with ⟨c_22, h⟩ | ⟨c_22, h⟩
      · refine r_t1 (pc' := 34) (L' := []) hq (z_at.mk 3 rfl rfl) rfl hV_21 c_22 rfl rfl ?_
        refine r_p hq 1 (pc' := 36) (L' := []) (st' := [.int ((-11 : Int32))]) rfl ?_
        cases h
        exact r_ri hq (z_at.mk 1 rfl rfl) rfl rfl (rfl : (-11 : Int32).toInt = -11) rfl H_8
      · refine r_f1 (pc' := 25) (L' := [(0, .ref 143), (1, .int X1), (2, .int X2), (3, .int X3), (4, .int X4), (5, .int X5)]) hq (z_at.mk 3 rfl rfl) rfl hV_21 c_22 rfl rfl ?_
        refine r_p hq 1 (pc' := 26) (L' := [(0, .ref 143), (1, .int X1), (2, .int X2), (3, .int X3), (4, .int X4), (5, .int X5)]) (st' := [.ref 143]) rfl ?_
        refine r_gR (b := 166) (pc' := 29) (L' := [(0, .ref 143), (1, .int X1), (2, .int X2), (3, .int X3), (4, .int X4), (5, .int X5)]) H_8 hq (z_at.mk 3 rfl rfl) rfl rfl rfl rfl ?_
        refine r_p hq 1 (pc' := 30) (L' := [(0, .ref 143), (1, .int X1), (2, .int X2), (3, .int X3), (4, .int X4), (5, .int X5)]) (st' := [.int X3, .ref 166]) rfl ?_
        obtain ⟨g_30, h⟩ := z_ifo_some h
        refine r_ia (pc' := 31) (L' := [(0, .ref 143), (1, .int X1), (2, .int X2), (3, .int X3), (4, .int X4), (5, .int X5)]) H_8 hq (z_at.mk 1 rfl rfl) (show zAr 166 0 6 = true from rfl) hx3 g_30 rfl rfl ?_
        intro V_30 hV_30
        rcases z_ite h with ⟨c_31, h⟩ | ⟨c_31, h⟩
        · refine r_t1 (pc' := 37) (L' := [(0, .ref 143), (1, .int X1), (2, .int X2), (3, .int X3), (4, .int X4), (5, .int X5)]) hq (z_at.mk 3 rfl rfl) rfl hV_30 c_31 rfl rfl ?_
          refine r_p hq 1 (pc' := 39) (L' := [(0, .ref 143), (1, .int X1), (2, .int X2), (3, .int X3), (4, .int X4), (5, .int X5)]) (st' := [.int X5]) rfl ?_
          rcases z_ite h with ⟨c_39, h⟩ | ⟨c_39, h⟩
          · refine r_t1 (pc' := 78) (L' := []) hq (z_at.mk 3 rfl rfl) rfl hx5 c_39 rfl rfl ?_
            refine r_p hq 1 (pc' := 80) (L' := []) (st' := [.int ((-13 : Int32))]) rfl ?_
            cases h
            exact r_ri hq (z_at.mk 1 rfl rfl) rfl rfl (rfl : (-13 : Int32).toInt = -13) rfl H_8
          · refine r_f1 (pc' := 42) (L' := [(0, .ref 143), (1, .int X1), (2, .int X2), (3, .int X3), (4, .int X4), (5, .int X5)]) hq (z_at.mk 3 rfl rfl) rfl hx5 c_39 rfl rfl ?_
            refine r_p hq 1 (pc' := 43) (L' := [(0, .ref 143), (1, .int X1), (2, .int X2), (3, .int X3), (4, .int X4), (5, .int X5)]) (st' := [.int X2]) rfl ?_
            rcases z_ite h with ⟨c_43, h⟩ | ⟨c_43, h⟩
            · refine r_t1 (pc' := 78) (L' := []) hq (z_at.mk 3 rfl rfl) rfl hx2 c_43 rfl rfl ?_
              refine r_p hq 1 (pc' := 80) (L' := []) (st' := [.int ((-13 : Int32))]) rfl ?_
              cases h
              exact r_ri hq (z_at.mk 1 rfl rfl) rfl rfl (rfl : (-13 : Int32).toInt = -13) rfl H_8
            · refine r_f1 (pc' := 46) (L' := [(0, .ref 143), (1, .int X1), (2, .int X2), (3, .int X3), (4, .int X4), (5, .int X5)]) hq (z_at.mk 3 rfl rfl) rfl hx2 c_43 rfl rfl ?_
              refine r_p hq 1 (pc' := 48) (L' := [(0, .ref 143), (1, .int X1), (2, .int X2), (3, .int X3), (4, .int X4), (5, .int X5)]) (st' := [.int X4]) rfl ?_
              rcases z_ite h with ⟨c_48, h⟩ | ⟨c_48, h⟩
              · refine r_t1 (pc' := 78) (L' := []) hq (z_at.mk 3 rfl rfl) rfl hx4 c_48 rfl rfl ?_
                refine r_p hq 1 (pc' := 80) (L' := []) (st' := [.int ((-13 : Int32))]) rfl ?_
                cases h
                exact r_ri hq (z_at.mk 1 rfl rfl) rfl rfl (rfl : (-13 : Int32).toInt = -13) rfl H_8
              · refine r_f1 (pc' := 51) (L' := [(0, .ref 143), (1, .int X1), (2, .int X2), (3, .int X3), (4, .int X4), (5, .int X5)]) hq (z_at.mk 3 rfl rfl) rfl hx4 c_48 rfl rfl ?_
                refine r_p hq 2 (pc' := 54) (L' := [(0, .ref 143), (1, .int X1), (2, .int X2), (3, .int X3), (4, .int X4), (5, .int X5)]) (st' := [.ref 143, .int X5]) rfl ?_
                refine r_gR (b := 166) (pc' := 57) (L' := [(0, .ref 143), (1, .int X1), (2, .int X2), (3, .int X3), (4, .int X4), (5, .int X5)]) H_8 hq (z_at.mk 3 rfl rfl) rfl rfl rfl rfl ?_
                refine r_p hq 1 (pc' := 58) (L' := [(0, .ref 143), (1, .int X1), (2, .int X2), (3, .int X3), (4, .int X4), (5, .int X5)]) (st' := [.int X1, .ref 166, .int X5]) rfl ?_
                obtain ⟨g_58, h⟩ := z_ifo_some h
                refine r_ia (pc' := 59) (L' := [(0, .ref 143), (1, .int X1), (2, .int X2), (3, .int X3), (4, .int X4), (5, .int X5)]) H_8 hq (z_at.mk 1 rfl rfl) (show zAr 166 0 6 = true from rfl) hx1 g_58 rfl rfl ?_
                intro V_58 hV_58
                refine r_p hq 2 (pc' := 61) (L' := [(0, .ref 143), (1, .int X1), (2, .int X2), (3, .int X3), (4, .int X4), (5, .int X5)]) (st' := [.int (V_58 - X2), .int X5]) rfl ?_
                rcases z_ite h with ⟨c_61, h⟩ | ⟨c_61, h⟩
                · refine r_t2 (pc' := 78) (L' := []) hq (z_at.mk 3 rfl rfl) rfl hx5 (tx_isub hV_58 hx2) c_61 rfl rfl ?_
                  refine r_p hq 1 (pc' := 80) (L' := []) (st' := [.int ((-13 : Int32))]) rfl ?_
                  cases h
                  exact r_ri hq (z_at.mk 1 rfl rfl) rfl rfl (rfl : (-13 : Int32).toInt = -13) rfl H_8
                · refine r_f2 (pc' := 64) (L' := [(0, .ref 143), (1, .int X1), (2, .int X2), (3, .int X3), (4, .int X4), (5, .int X5)]) hq (z_at.mk 3 rfl rfl) rfl hx5 (tx_isub hV_58 hx2) c_61 rfl rfl ?_
                  refine r_p hq 2 (pc' := 67) (L' := [(0, .ref 143), (1, .int X1), (2, .int X2), (3, .int X3), (4, .int X4), (5, .int X5)]) (st' := [.ref 143, .int X5]) rfl ?_
                  refine r_gR (b := 166) (pc' := 70) (L' := [(0, .ref 143), (1, .int X1), (2, .int X2), (3, .int X3), (4, .int X4), (5, .int X5)]) H_8 hq (z_at.mk 3 rfl rfl) rfl rfl rfl rfl ?_
                  refine r_p hq 1 (pc' := 71) (L' := [(0, .ref 143), (1, .int X1), (2, .int X2), (3, .int X3), (4, .int X4), (5, .int X5)]) (st' := [.int X3, .ref 166, .int X5]) rfl ?_
                  obtain ⟨g_71, h⟩ := z_ifo_some h
                  refine r_ia (pc' := 72) (L' := [(0, .ref 143), (1, .int X1), (2, .int X2), (3, .int X3), (4, .int X4), (5, .int X5)]) H_8 hq (z_at.mk 1 rfl rfl) (show zAr 166 0 6 = true from rfl) hx3 g_71 rfl rfl ?_
                  intro V_71 hV_71
                  refine r_p hq 2 (pc' := 75) (L' := [(0, .ref 143), (1, .int X1), (2, .int X2), (3, .int X3), (4, .int X4), (5, .int X5)]) (st' := [.int (V_71 - X4), .int X5]) rfl ?_
                  rcases z_ite h with ⟨c_75, h⟩ | ⟨c_75, h⟩
                  · refine r_t2 (pc' := 81) (L' := [(0, .ref 143), (1, .int X1), (2, .int X2), (3, .int X3), (4, .int X4), (5, .int X5)]) hq (z_at.mk 3 rfl rfl) rfl hx5 (tx_isub hV_71 hx4) c_75 rfl rfl ?_
                    refine r_p hq 2 (pc' := 84) (L' := [(0, .ref 143), (1, .int X1), (2, .int X2), (3, .int X3), (4, .int X4), (5, .int X5), (6, .int ((0 : Int32)))]) (st' := []) rfl ?_
                    exact g_m_move_L84_ok zK hx1 hx2 hx3 hx4 hx5 (rfl : (0 : Int32).toInt = 0) H_8 h
                  · refine r_f2 (pc' := 78) (L' := []) hq (z_at.mk 3 rfl rfl) rfl hx5 (tx_isub hV_71 hx4) c_75 rfl rfl ?_
                    refine r_p hq 1 (pc' := 80) (L' := []) (st' := [.int ((-13 : Int32))]) rfl ?_
                    cases h
                    exact r_ri hq (z_at.mk 1 rfl rfl) rfl rfl (rfl : (-13 : Int32).toInt = -13) rfl H_8
        · refine r_f1 (pc' := 34) (L' := []) hq (z_at.mk 3 rfl rfl) rfl hV_30 c_31 rfl rfl ?_
          refine r_p hq 1 (pc' := 36) (L' := []) (st' := [.int ((-11 : Int32))]) rfl ?_
          cases h
          exact r_ri hq (z_at.mk 1 rfl rfl) rfl rfl (rfl : (-11 : Int32).toInt = -11) rfl H_8
    · refine r_f1 (pc' := 14) (L' := []) hq (z_at.mk 3 rfl rfl) rfl hR_8 c_11 rfl rfl ?_
      refine r_p hq 1 (pc' := 15) (L' := []) (st' := [.int ((-1 : Int32))]) rfl ?_
      cases h
      exact r_ri hq (z_at.mk 1 rfl rfl) rfl rfl (rfl : (-1 : Int32).toInt = -1) rfl H_8
def g_m_lay_L15 : Nat → Int → Int → Int → zS → Option (Int × zS)
  | 0, _, _, _, _ => none
  | n + 1, x1, x2, x4, σ =>
    let v_23 := σ 144 8
    if v_23 ≤ x4 then
      let v_83 := σ 144 8
      some (v_83, σ)
    else
      if x2 < 0 then
        some (-13, σ)
      else
        if 0 ≤ x1 ∧ x1 < 6 then
        let v_38 := σ 166 x1
        if x4 < w32 (v_38 - x2) then
          if 0 ≤ w32 (61 + x4) ∧ w32 (61 + x4) < 361 then
          let v_69 := σ 147 (w32 (61 + x4))
          if 0 ≤ w32 ((w32 ((w32 (60 * x1)) + x2)) + x4) ∧ w32 ((w32 ((w32 (60 * x1)) + x2)) + x4) < 360 then
          let s_70 := zu σ 167 (w32 ((w32 ((w32 (60 * x1)) + x2)) + x4)) v_69
          (g_m_lay_L15 n) x1 x2 (w32 (x4 + 1)) s_70
          else none
          else none
        else
          some (-13, σ)
        else none
set_option maxHeartbeats 4000000 in
theorem g_m_lay_L15_ok {xl : Nat} {xs : Nat → Int32} : ∀ (n : Nat) {X1 : Int32} {x1 : Int} {X2 : Int32} {x2 : Int} {X4 : Int32} {x4 : Int} {σ : zS} {p : Nat} {m : zM} {o : Int × zS}, X1.toInt = x1 → X2.toInt = x2 → X4.toInt = x4 → zRep xl xs p m σ → g_m_lay_L15 n x1 x2 x4 σ = some o → zGo xl xs (fun p' => p = p') 4 268 15 [(0, .ref 143), (1, .int X1), (2, .int X2), (4, .int X4)] [] m (vI o.1) o.2
  | 0, _, _, _, _, _, _, _, _, _, _, _, _, _, _, h => by cases h
  | n + 1, X1, x1, X2, x2, X4, x4, σ, p, m, o, hx1, hx2, hx4, H, h => by
    have hq : z_mth 268 = some z_r268 := rfl
    have ih := fun {X1 : Int32} {x1 : Int} {X2 : Int32} {x2 : Int} {X4 : Int32} {x4 : Int} {σ : zS} {p : Nat} {m : zM} {o : Int × zS} => g_m_lay_L15_ok (xl := xl) (xs := xs) n (X1 := X1) (x1 := x1) (X2 := X2) (x2 := x2) (X4 := X4) (x4 := x4) (σ := σ) (p := p) (m := m) (o := o)
    unfold g_m_lay_L15 at h
    refine r_p hq 2 (pc' := 18) (L' := [(0, .ref 143), (1, .int X1), (2, .int X2), (4, .int X4)]) (st' := [.ref 143, .int X4]) rfl ?_
    refine r_gR (b := 144) (pc' := 21) (L' := [(0, .ref 143), (1, .int X1), (2, .int X2), (4, .int X4)]) H hq (z_at.mk 3 rfl rfl) rfl rfl rfl rfl ?_
    refine r_p hq 1 (pc' := 23) (L' := [(0, .ref 143), (1, .int X1), (2, .int X2), (4, .int X4)]) (st' := [.int ((8 : Int32)), .ref 144, .int X4]) rfl ?_
    refine r_ia (pc' := 24) (L' := [(0, .ref 143), (1, .int X1), (2, .int X2), (4, .int X4)]) H hq (z_at.mk 1 rfl rfl) (show zAr 144 0 2740 = true from rfl) (rfl : (8 : Int32).toInt = 8) ⟨by decide, by decide⟩ rfl rfl ?_
    intro V_23 hV_23
    rcases z_ite h with ⟨c_24, h⟩ | ⟨c_24, h⟩
    · refine r_t2 (pc' := 77) (L' := [(0, .ref 143), (1, .int X1), (2, .int X2), (4, .int X4)]) hq (z_at.mk 3 rfl rfl) rfl hx4 hV_23 c_24 rfl rfl ?_
      refine r_p hq 1 (pc' := 78) (L' := [(0, .ref 143), (1, .int X1), (2, .int X2), (4, .int X4)]) (st' := [.ref 143]) rfl ?_
      refine r_gR (b := 144) (pc' := 81) (L' := [(0, .ref 143), (1, .int X1), (2, .int X2), (4, .int X4)]) H hq (z_at.mk 3 rfl rfl) rfl rfl rfl rfl ?_
      refine r_p hq 1 (pc' := 83) (L' := [(0, .ref 143), (1, .int X1), (2, .int X2), (4, .int X4)]) (st' := [.int ((8 : Int32)), .ref 144]) rfl ?_
      refine r_ia (pc' := 84) (L' := [(0, .ref 143), (1, .int X1), (2, .int X2), (4, .int X4)]) H hq (z_at.mk 1 rfl rfl) (show zAr 144 0 2740 = true from rfl) (rfl : (8 : Int32).toInt = 8) ⟨by decide, by decide⟩ rfl rfl ?_
      intro V_83 hV_83
      cases h
      exact r_ri hq (z_at.mk 1 rfl rfl) rfl rfl hV_83 rfl H
    · refine r_f2 (pc' := 27) (L' := [(0, .ref 143), (1, .int X1), (2, .int X2), (4, .int X4)]) hq (z_at.mk 3 rfl rfl) rfl hx4 hV_23 c_24 rfl rfl ?_
      refine r_p hq 1 (pc' := 28) (L' := [(0, .ref 143), (1, .int X1), (2, .int X2), (4, .int X4)]) (st' := [.int X2]) rfl ?_
      rcases z_ite h with ⟨c_28, h⟩ | ⟨c_28, h⟩
      · refine r_t1 (pc' := 44) (L' := []) hq (z_at.mk 3 rfl rfl) rfl hx2 c_28 rfl rfl ?_
        refine r_p hq 1 (pc' := 46) (L' := []) (st' := [.int ((-13 : Int32))]) rfl ?_
        cases h
        exact r_ri hq (z_at.mk 1 rfl rfl) rfl rfl (rfl : (-13 : Int32).toInt = -13) rfl H
      · refine r_f1 (pc' := 31) (L' := [(0, .ref 143), (1, .int X1), (2, .int X2), (4, .int X4)]) hq (z_at.mk 3 rfl rfl) rfl hx2 c_28 rfl rfl ?_
        refine r_p hq 2 (pc' := 34) (L' := [(0, .ref 143), (1, .int X1), (2, .int X2), (4, .int X4)]) (st' := [.ref 143, .int X4]) rfl ?_
        refine r_gR (b := 166) (pc' := 37) (L' := [(0, .ref 143), (1, .int X1), (2, .int X2), (4, .int X4)]) H hq (z_at.mk 3 rfl rfl) rfl rfl rfl rfl ?_
        refine r_p hq 1 (pc' := 38) (L' := [(0, .ref 143), (1, .int X1), (2, .int X2), (4, .int X4)]) (st' := [.int X1, .ref 166, .int X4]) rfl ?_
        obtain ⟨g_38, h⟩ := z_ifo_some h
        refine r_ia (pc' := 39) (L' := [(0, .ref 143), (1, .int X1), (2, .int X2), (4, .int X4)]) H hq (z_at.mk 1 rfl rfl) (show zAr 166 0 6 = true from rfl) hx1 g_38 rfl rfl ?_
        intro V_38 hV_38
        refine r_p hq 2 (pc' := 41) (L' := [(0, .ref 143), (1, .int X1), (2, .int X2), (4, .int X4)]) (st' := [.int (V_38 - X2), .int X4]) rfl ?_
        rcases z_ite h with ⟨c_41, h⟩ | ⟨c_41, h⟩
        · refine r_t2 (pc' := 47) (L' := [(0, .ref 143), (1, .int X1), (2, .int X2), (4, .int X4)]) hq (z_at.mk 3 rfl rfl) rfl hx4 (tx_isub hV_38 hx2) c_41 rfl rfl ?_
          refine r_p hq 1 (pc' := 48) (L' := [(0, .ref 143), (1, .int X1), (2, .int X2), (4, .int X4)]) (st' := [.ref 143]) rfl ?_
          refine r_gR (b := 167) (pc' := 51) (L' := [(0, .ref 143), (1, .int X1), (2, .int X2), (4, .int X4)]) H hq (z_at.mk 3 rfl rfl) rfl rfl rfl rfl ?_
          refine r_p hq 8 (pc' := 61) (L' := [(0, .ref 143), (1, .int X1), (2, .int X2), (4, .int X4)]) (st' := [.ref 143, .int (((((60 : Int32)) * X1) + X2) + X4), .ref 167]) rfl ?_
          refine r_gR (b := 147) (pc' := 64) (L' := [(0, .ref 143), (1, .int X1), (2, .int X2), (4, .int X4)]) H hq (z_at.mk 3 rfl rfl) rfl rfl rfl rfl ?_
          refine r_p hq 3 (pc' := 69) (L' := [(0, .ref 143), (1, .int X1), (2, .int X2), (4, .int X4)]) (st' := [.int (((61 : Int32)) + X4), .ref 147, .int (((((60 : Int32)) * X1) + X2) + X4), .ref 167]) rfl ?_
          obtain ⟨g_69, h⟩ := z_ifo_some h
          refine r_la (pc' := 70) (L' := [(0, .ref 143), (1, .int X1), (2, .int X2), (4, .int X4)]) H hq (z_at.mk 1 rfl rfl) (show zAr 147 1 361 = true from rfl) (tx_iadd (rfl : (61 : Int32).toInt = 61) hx4) g_69 rfl rfl ?_
          intro V_69 hV_69
          obtain ⟨g_70, h⟩ := z_ifo_some h
          refine r_ls (pc' := 71) (L' := [(0, .ref 143), (1, .int X1), (2, .int X2), (4, .int X4)]) H hq (z_at.mk 1 rfl rfl) (show zAr 167 1 360 = true from rfl) (tx_iadd (tx_iadd (tx_imul (rfl : (60 : Int32).toInt = 60) hx1) hx2) hx4) g_70 hV_69 rfl rfl ?_
          intro m_70 H_70
          refine r_p hq 2 (pc' := 15) (L' := [(0, .ref 143), (1, .int X1), (2, .int X2), (4, .int (X4 + (1 : Int32)))]) (st' := []) rfl ?_
          exact ih hx1 hx2 (tx_iadd hx4 (rfl : (1 : Int32).toInt = 1)) H_70 h
        · refine r_f2 (pc' := 44) (L' := []) hq (z_at.mk 3 rfl rfl) rfl hx4 (tx_isub hV_38 hx2) c_41 rfl rfl ?_
          refine r_p hq 1 (pc' := 46) (L' := []) (st' := [.int ((-13 : Int32))]) rfl ?_
          cases h
          exact r_ri hq (z_at.mk 1 rfl rfl) rfl rfl (rfl : (-13 : Int32).toInt = -13) rfl H
def g_m_lay (x1 : Int) (x2 : Int) (σ : zS) : Option (Int × zS) :=
  (g_m_wrong x1 σ).bind fun o_2 =>
  if o_2.1 = 0 then
    g_m_lay_L15 zK x1 x2 0 o_2.2
  else
    some (o_2.1, o_2.2)
set_option maxHeartbeats 4000000 in
theorem g_m_lay_ok {xl : Nat} {xs : Nat → Int32} {X1 : Int32} {x1 : Int} (hx1 : X1.toInt = x1) {X2 : Int32} {x2 : Int} (hx2 : X2.toInt = x2) {σ : zS} {p : Nat} {m : zM} {o : Int × zS} (H : zRep xl xs p m σ) (h : g_m_lay x1 x2 σ = some o) : zGo xl xs (fun p' => p = p') 4 268 0 (z_can 268 0 (lv_args 0 [.ref 143, .int X1, .int X2])) [] m (vI o.1) o.2 := by
  have hq : z_mth 268 = some z_r268 := rfl
  unfold g_m_lay at h
  show zGo xl xs (fun p' => p = p') 4 268 0 [(0, .ref 143), (1, .int X1), (2, .int X2)] [] m (vI o.1) o.2
  refine r_p hq 2 (pc' := 2) (L' := [(0, .ref 143), (1, .int X1), (2, .int X2)]) (st' := [.int X1, .ref 143]) rfl ?_
  obtain ⟨o_2, h_2, h⟩ := Option.bind_eq_some_iff.mp h
  refine r_cvI (pc' := 5) (L' := [(0, .ref 143), (1, .int X1), (2, .int X2)]) (Ps := [.int X1]) (rest := []) hq (z_at.mk 3 rfl rfl) (Or.inl ⟨rfl, rfl⟩) rfl rfl (by decide) (by decide) rfl (Nat.not_lt.mpr (Nat.le_of_ble_eq_true rfl)) rfl rfl (z_cat_le 0 rfl (by decide)) (z_lgl_le 2 rfl (by decide)) (by decide) (H.tg rfl) (by omega) (g_m_wrong_ok hx1 H h_2) rfl rfl ?_
  intro R_2 m_2 p_2 e_2 hR_2 H_2
  subst e_2
  refine r_p hq 2 (pc' := 7) (L' := [(3, .int R_2), (0, .ref 143), (1, .int X1), (2, .int X2)]) (st' := [.int R_2]) rfl ?_
  rcases z_ite h with ⟨c_7, h⟩ | ⟨c_7, h⟩
  · refine r_t1 (pc' := 12) (L' := [(3, .int R_2), (0, .ref 143), (1, .int X1), (2, .int X2)]) hq (z_at.mk 3 rfl rfl) rfl hR_2 c_7 rfl rfl ?_
    refine r_p hq 2 (pc' := 15) (L' := [(0, .ref 143), (1, .int X1), (2, .int X2), (4, .int ((0 : Int32)))]) (st' := []) rfl ?_
    exact g_m_lay_L15_ok zK hx1 hx2 (rfl : (0 : Int32).toInt = 0) H_2 h
  · refine r_f1 (pc' := 10) (L' := [(3, .int R_2), (0, .ref 143), (1, .int X1), (2, .int X2)]) hq (z_at.mk 3 rfl rfl) rfl hR_2 c_7 rfl rfl ?_
    refine r_p hq 1 (pc' := 11) (L' := [(3, .int R_2), (0, .ref 143), (1, .int X1), (2, .int X2)]) (st' := [.int R_2]) rfl ?_
    cases h
    exact r_ri hq (z_at.mk 1 rfl rfl) rfl rfl hR_2 rfl H_2
def g_m_judge_L15 : Nat → Int → Int → Int → zS → Option (Int × zS)
  | 0, _, _, _, _ => none
  | n + 1, x1, x2, x4, σ =>
    let v_23 := σ 144 8
    if v_23 ≤ x4 then
      some (-5, σ)
    else
      if x2 < 0 then
        some (w32 (100 + x4), σ)
      else
        if 0 ≤ x1 ∧ x1 < 6 then
        let v_38 := σ 166 x1
        if x4 < w32 (v_38 - x2) then
          if 0 ≤ w32 ((w32 ((w32 (60 * x1)) + x2)) + x4) ∧ w32 ((w32 ((w32 (60 * x1)) + x2)) + x4) < 360 then
          let v_63 := σ 167 (w32 ((w32 ((w32 (60 * x1)) + x2)) + x4))
          if 0 ≤ w32 (61 + x4) ∧ w32 (61 + x4) < 361 then
          let v_73 := σ 147 (w32 (61 + x4))
          if lCmp v_63 v_73 = 0 then
            (g_m_judge_L15 n) x1 x2 (w32 (x4 + 1)) σ
          else
            some (x4, σ)
          else none
          else none
        else
          some (w32 (100 + x4), σ)
        else none
set_option maxHeartbeats 4000000 in
theorem g_m_judge_L15_ok {xl : Nat} {xs : Nat → Int32} : ∀ (n : Nat) {X1 : Int32} {x1 : Int} {X2 : Int32} {x2 : Int} {X4 : Int32} {x4 : Int} {σ : zS} {p : Nat} {m : zM} {o : Int × zS}, X1.toInt = x1 → X2.toInt = x2 → X4.toInt = x4 → zRep xl xs p m σ → g_m_judge_L15 n x1 x2 x4 σ = some o → zGo xl xs (fun p' => p = p') 4 269 15 [(0, .ref 143), (1, .int X1), (2, .int X2), (4, .int X4)] [] m (vI o.1) o.2
  | 0, _, _, _, _, _, _, _, _, _, _, _, _, _, _, h => by cases h
  | n + 1, X1, x1, X2, x2, X4, x4, σ, p, m, o, hx1, hx2, hx4, H, h => by
    have hq : z_mth 269 = some z_r269 := rfl
    have ih := fun {X1 : Int32} {x1 : Int} {X2 : Int32} {x2 : Int} {X4 : Int32} {x4 : Int} {σ : zS} {p : Nat} {m : zM} {o : Int × zS} => g_m_judge_L15_ok (xl := xl) (xs := xs) n (X1 := X1) (x1 := x1) (X2 := X2) (x2 := x2) (X4 := X4) (x4 := x4) (σ := σ) (p := p) (m := m) (o := o)
    unfold g_m_judge_L15 at h
    refine r_p hq 2 (pc' := 18) (L' := [(0, .ref 143), (1, .int X1), (2, .int X2), (4, .int X4)]) (st' := [.ref 143, .int X4]) rfl ?_
    refine r_gR (b := 144) (pc' := 21) (L' := [(0, .ref 143), (1, .int X1), (2, .int X2), (4, .int X4)]) H hq (z_at.mk 3 rfl rfl) rfl rfl rfl rfl ?_
    refine r_p hq 1 (pc' := 23) (L' := [(0, .ref 143), (1, .int X1), (2, .int X2), (4, .int X4)]) (st' := [.int ((8 : Int32)), .ref 144, .int X4]) rfl ?_
    refine r_ia (pc' := 24) (L' := [(0, .ref 143), (1, .int X1), (2, .int X2), (4, .int X4)]) H hq (z_at.mk 1 rfl rfl) (show zAr 144 0 2740 = true from rfl) (rfl : (8 : Int32).toInt = 8) ⟨by decide, by decide⟩ rfl rfl ?_
    intro V_23 hV_23
    rcases z_ite h with ⟨c_24, h⟩ | ⟨c_24, h⟩
    · refine r_t2 (pc' := 87) (L' := [(0, .ref 143), (1, .int X1), (2, .int X2), (4, .int X4)]) hq (z_at.mk 3 rfl rfl) rfl hx4 hV_23 c_24 rfl rfl ?_
      refine r_p hq 1 (pc' := 89) (L' := [(0, .ref 143), (1, .int X1), (2, .int X2), (4, .int X4)]) (st' := [.int ((-5 : Int32))]) rfl ?_
      cases h
      exact r_ri hq (z_at.mk 1 rfl rfl) rfl rfl (rfl : (-5 : Int32).toInt = -5) rfl H
    · refine r_f2 (pc' := 27) (L' := [(0, .ref 143), (1, .int X1), (2, .int X2), (4, .int X4)]) hq (z_at.mk 3 rfl rfl) rfl hx4 hV_23 c_24 rfl rfl ?_
      refine r_p hq 1 (pc' := 28) (L' := [(0, .ref 143), (1, .int X1), (2, .int X2), (4, .int X4)]) (st' := [.int X2]) rfl ?_
      rcases z_ite h with ⟨c_28, h⟩ | ⟨c_28, h⟩
      · refine r_t1 (pc' := 44) (L' := [(4, .int X4)]) hq (z_at.mk 3 rfl rfl) rfl hx2 c_28 rfl rfl ?_
        refine r_p hq 3 (pc' := 49) (L' := [(4, .int X4)]) (st' := [.int (((100 : Int32)) + X4)]) rfl ?_
        cases h
        exact r_ri hq (z_at.mk 1 rfl rfl) rfl rfl (tx_iadd (rfl : (100 : Int32).toInt = 100) hx4) rfl H
      · refine r_f1 (pc' := 31) (L' := [(0, .ref 143), (1, .int X1), (2, .int X2), (4, .int X4)]) hq (z_at.mk 3 rfl rfl) rfl hx2 c_28 rfl rfl ?_
        refine r_p hq 2 (pc' := 34) (L' := [(0, .ref 143), (1, .int X1), (2, .int X2), (4, .int X4)]) (st' := [.ref 143, .int X4]) rfl ?_
        refine r_gR (b := 166) (pc' := 37) (L' := [(0, .ref 143), (1, .int X1), (2, .int X2), (4, .int X4)]) H hq (z_at.mk 3 rfl rfl) rfl rfl rfl rfl ?_
        refine r_p hq 1 (pc' := 38) (L' := [(0, .ref 143), (1, .int X1), (2, .int X2), (4, .int X4)]) (st' := [.int X1, .ref 166, .int X4]) rfl ?_
        obtain ⟨g_38, h⟩ := z_ifo_some h
        refine r_ia (pc' := 39) (L' := [(0, .ref 143), (1, .int X1), (2, .int X2), (4, .int X4)]) H hq (z_at.mk 1 rfl rfl) (show zAr 166 0 6 = true from rfl) hx1 g_38 rfl rfl ?_
        intro V_38 hV_38
        refine r_p hq 2 (pc' := 41) (L' := [(0, .ref 143), (1, .int X1), (2, .int X2), (4, .int X4)]) (st' := [.int (V_38 - X2), .int X4]) rfl ?_
        rcases z_ite h with ⟨c_41, h⟩ | ⟨c_41, h⟩
        · refine r_t2 (pc' := 50) (L' := [(0, .ref 143), (1, .int X1), (2, .int X2), (4, .int X4)]) hq (z_at.mk 3 rfl rfl) rfl hx4 (tx_isub hV_38 hx2) c_41 rfl rfl ?_
          refine r_p hq 1 (pc' := 51) (L' := [(0, .ref 143), (1, .int X1), (2, .int X2), (4, .int X4)]) (st' := [.ref 143]) rfl ?_
          refine r_gR (b := 167) (pc' := 54) (L' := [(0, .ref 143), (1, .int X1), (2, .int X2), (4, .int X4)]) H hq (z_at.mk 3 rfl rfl) rfl rfl rfl rfl ?_
          refine r_p hq 7 (pc' := 63) (L' := [(0, .ref 143), (1, .int X1), (2, .int X2), (4, .int X4)]) (st' := [.int (((((60 : Int32)) * X1) + X2) + X4), .ref 167]) rfl ?_
          obtain ⟨g_63, h⟩ := z_ifo_some h
          refine r_la (pc' := 64) (L' := [(0, .ref 143), (1, .int X1), (2, .int X2), (4, .int X4)]) H hq (z_at.mk 1 rfl rfl) (show zAr 167 1 360 = true from rfl) (tx_iadd (tx_iadd (tx_imul (rfl : (60 : Int32).toInt = 60) hx1) hx2) hx4) g_63 rfl rfl ?_
          intro V_63 hV_63
          refine r_p hq 1 (pc' := 65) (L' := [(0, .ref 143), (1, .int X1), (2, .int X2), (4, .int X4)]) (st' := [.ref 143, .long V_63]) rfl ?_
          refine r_gR (b := 147) (pc' := 68) (L' := [(0, .ref 143), (1, .int X1), (2, .int X2), (4, .int X4)]) H hq (z_at.mk 3 rfl rfl) rfl rfl rfl rfl ?_
          refine r_p hq 3 (pc' := 73) (L' := [(0, .ref 143), (1, .int X1), (2, .int X2), (4, .int X4)]) (st' := [.int (((61 : Int32)) + X4), .ref 147, .long V_63]) rfl ?_
          obtain ⟨g_73, h⟩ := z_ifo_some h
          refine r_la (pc' := 74) (L' := [(0, .ref 143), (1, .int X1), (2, .int X2), (4, .int X4)]) H hq (z_at.mk 1 rfl rfl) (show zAr 147 1 361 = true from rfl) (tx_iadd (rfl : (61 : Int32).toInt = 61) hx4) g_73 rfl rfl ?_
          intro V_73 hV_73
          refine r_p hq 1 (pc' := 75) (L' := [(0, .ref 143), (1, .int X1), (2, .int X2), (4, .int X4)]) (st' := [.int (lg_cmp V_63 V_73)]) rfl ?_
          rcases z_ite h with ⟨c_75, h⟩ | ⟨c_75, h⟩
          · refine r_t1 (pc' := 81) (L' := [(0, .ref 143), (1, .int X1), (2, .int X2), (4, .int X4)]) hq (z_at.mk 3 rfl rfl) rfl (tx_lcmp hV_63 hV_73) c_75 rfl rfl ?_
            refine r_p hq 2 (pc' := 15) (L' := [(0, .ref 143), (1, .int X1), (2, .int X2), (4, .int (X4 + (1 : Int32)))]) (st' := []) rfl ?_
            exact ih hx1 hx2 (tx_iadd hx4 (rfl : (1 : Int32).toInt = 1)) H h
          · refine r_f1 (pc' := 78) (L' := [(0, .ref 143), (1, .int X1), (2, .int X2), (4, .int X4)]) hq (z_at.mk 3 rfl rfl) rfl (tx_lcmp hV_63 hV_73) c_75 rfl rfl ?_
            refine r_p hq 1 (pc' := 80) (L' := [(0, .ref 143), (1, .int X1), (2, .int X2), (4, .int X4)]) (st' := [.int X4]) rfl ?_
            cases h
            exact r_ri hq (z_at.mk 1 rfl rfl) rfl rfl hx4 rfl H
        · refine r_f2 (pc' := 44) (L' := [(4, .int X4)]) hq (z_at.mk 3 rfl rfl) rfl hx4 (tx_isub hV_38 hx2) c_41 rfl rfl ?_
          refine r_p hq 3 (pc' := 49) (L' := [(4, .int X4)]) (st' := [.int (((100 : Int32)) + X4)]) rfl ?_
          cases h
          exact r_ri hq (z_at.mk 1 rfl rfl) rfl rfl (tx_iadd (rfl : (100 : Int32).toInt = 100) hx4) rfl H
def g_m_judge (x1 : Int) (x2 : Int) (σ : zS) : Option (Int × zS) :=
  (g_m_wrong x1 σ).bind fun o_2 =>
  if o_2.1 = 0 then
    g_m_judge_L15 zK x1 x2 0 o_2.2
  else
    some (o_2.1, o_2.2)
set_option maxHeartbeats 4000000 in
theorem g_m_judge_ok {xl : Nat} {xs : Nat → Int32} {X1 : Int32} {x1 : Int} (hx1 : X1.toInt = x1) {X2 : Int32} {x2 : Int} (hx2 : X2.toInt = x2) {σ : zS} {p : Nat} {m : zM} {o : Int × zS} (H : zRep xl xs p m σ) (h : g_m_judge x1 x2 σ = some o) : zGo xl xs (fun p' => p = p') 4 269 0 (z_can 269 0 (lv_args 0 [.ref 143, .int X1, .int X2])) [] m (vI o.1) o.2 := by
  have hq : z_mth 269 = some z_r269 := rfl
  unfold g_m_judge at h
  show zGo xl xs (fun p' => p = p') 4 269 0 [(0, .ref 143), (1, .int X1), (2, .int X2)] [] m (vI o.1) o.2
  refine r_p hq 2 (pc' := 2) (L' := [(0, .ref 143), (1, .int X1), (2, .int X2)]) (st' := [.int X1, .ref 143]) rfl ?_
  obtain ⟨o_2, h_2, h⟩ := Option.bind_eq_some_iff.mp h
  refine r_cvI (pc' := 5) (L' := [(0, .ref 143), (1, .int X1), (2, .int X2)]) (Ps := [.int X1]) (rest := []) hq (z_at.mk 3 rfl rfl) (Or.inl ⟨rfl, rfl⟩) rfl rfl (by decide) (by decide) rfl (Nat.not_lt.mpr (Nat.le_of_ble_eq_true rfl)) rfl rfl (z_cat_le 0 rfl (by decide)) (z_lgl_le 2 rfl (by decide)) (by decide) (H.tg rfl) (by omega) (g_m_wrong_ok hx1 H h_2) rfl rfl ?_
  intro R_2 m_2 p_2 e_2 hR_2 H_2
  subst e_2
  refine r_p hq 2 (pc' := 7) (L' := [(3, .int R_2), (0, .ref 143), (1, .int X1), (2, .int X2)]) (st' := [.int R_2]) rfl ?_
  rcases z_ite h with ⟨c_7, h⟩ | ⟨c_7, h⟩
  · refine r_t1 (pc' := 12) (L' := [(3, .int R_2), (0, .ref 143), (1, .int X1), (2, .int X2)]) hq (z_at.mk 3 rfl rfl) rfl hR_2 c_7 rfl rfl ?_
    refine r_p hq 2 (pc' := 15) (L' := [(0, .ref 143), (1, .int X1), (2, .int X2), (4, .int ((0 : Int32)))]) (st' := []) rfl ?_
    exact g_m_judge_L15_ok zK hx1 hx2 (rfl : (0 : Int32).toInt = 0) H_2 h
  · refine r_f1 (pc' := 10) (L' := [(3, .int R_2), (0, .ref 143), (1, .int X1), (2, .int X2)]) hq (z_at.mk 3 rfl rfl) rfl hR_2 c_7 rfl rfl ?_
    refine r_p hq 1 (pc' := 11) (L' := [(3, .int R_2), (0, .ref 143), (1, .int X1), (2, .int X2)]) (st' := [.int R_2]) rfl ?_
    cases h
    exact r_ri hq (z_at.mk 1 rfl rfl) rfl rfl hR_2 rfl H_2
def g_m_image (σ : zS) : Option (Int × zS) :=
  (g_m_keeps 145 148 σ).bind fun o_9 =>
  let s_14 := zu o_9.2 143 6 1
  let v_22 := s_14 144 0
  some (v_22, s_14)
set_option maxHeartbeats 4000000 in
theorem g_m_image_ok {xl : Nat} {xs : Nat → Int32} {σ : zS} {p : Nat} {m : zM} {o : Int × zS} (H : zRep xl xs p m σ) (h : g_m_image σ = some o) : zGo xl xs (fun p' => p = p') 2 270 0 (z_can 270 0 (lv_args 0 [.ref 143])) [] m (vI o.1) o.2 := by
  have hq : z_mth 270 = some z_r270 := rfl
  unfold g_m_image at h
  show zGo xl xs (fun p' => p = p') 2 270 0 [(0, .ref 143)] [] m (vI o.1) o.2
  refine r_p hq 2 (pc' := 2) (L' := [(0, .ref 143)]) (st' := [.ref 143, .ref 143]) rfl ?_
  refine r_gR (b := 145) (pc' := 5) (L' := [(0, .ref 143)]) H hq (z_at.mk 3 rfl rfl) rfl rfl rfl rfl ?_
  refine r_p hq 1 (pc' := 6) (L' := [(0, .ref 143)]) (st' := [.ref 143, .ref 145, .ref 143]) rfl ?_
  refine r_gR (b := 148) (pc' := 9) (L' := [(0, .ref 143)]) H hq (z_at.mk 3 rfl rfl) rfl rfl rfl rfl ?_
  obtain ⟨o_9, h_9, h⟩ := Option.bind_eq_some_iff.mp h
  refine r_cvV (pc' := 12) (L' := [(0, .ref 143)]) (Ps := [.ref 145, .ref 148]) (rest := []) hq (z_at.mk 3 rfl rfl) (Or.inl ⟨rfl, rfl⟩) rfl rfl (by decide) (by decide) rfl (Nat.not_lt.mpr (Nat.le_of_ble_eq_true rfl)) rfl rfl (z_cat_le 0 rfl (by decide)) (z_lgl_le 3 rfl (by decide)) (by decide) (H.tg rfl) (by omega) (g_m_keeps_ok rfl rfl H h_9) rfl rfl ?_
  intro m_9 p_9 e_9 H_9
  subst e_9
  refine r_p hq 2 (pc' := 14) (L' := [(0, .ref 143)]) (st' := [.int ((1 : Int32)), .ref 143]) rfl ?_
  refine r_pI (X := (1 : Int32)) (pc' := 17) (L' := [(0, .ref 143)]) H_9 hq (z_at.mk 3 rfl rfl) rfl rfl (rfl : (1 : Int32).toInt = 1) (by decide) rfl rfl rfl rfl ?_
  intro m_14 H_14
  refine r_p hq 1 (pc' := 18) (L' := [(0, .ref 143)]) (st' := [.ref 143]) rfl ?_
  refine r_gR (b := 144) (pc' := 21) (L' := [(0, .ref 143)]) H_14 hq (z_at.mk 3 rfl rfl) rfl rfl rfl rfl ?_
  refine r_p hq 1 (pc' := 22) (L' := [(0, .ref 143)]) (st' := [.int ((0 : Int32)), .ref 144]) rfl ?_
  refine r_ia (pc' := 23) (L' := [(0, .ref 143)]) H_14 hq (z_at.mk 1 rfl rfl) (show zAr 144 0 2740 = true from rfl) (rfl : (0 : Int32).toInt = 0) ⟨by decide, by decide⟩ rfl rfl ?_
  intro V_22 hV_22
  cases h
  exact r_ri hq (z_at.mk 1 rfl rfl) rfl rfl hV_22 rfl H_14
def g_m_undo (σ : zS) : Option (Int × zS) :=
  let v_1 := σ 143 6
  if v_1 ≠ 0 then
    (g_m_back 145 148 σ).bind fun o_19 =>
    let v_27 := o_19.2 144 0
    some (v_27, o_19.2)
  else
    some (-3, σ)
set_option maxHeartbeats 4000000 in
theorem g_m_undo_ok {xl : Nat} {xs : Nat → Int32} {σ : zS} {p : Nat} {m : zM} {o : Int × zS} (H : zRep xl xs p m σ) (h : g_m_undo σ = some o) : zGo xl xs (fun p' => p = p') 2 271 0 (z_can 271 0 (lv_args 0 [.ref 143])) [] m (vI o.1) o.2 := by
  have hq : z_mth 271 = some z_r271 := rfl
  unfold g_m_undo at h
  show zGo xl xs (fun p' => p = p') 2 271 0 [(0, .ref 143)] [] m (vI o.1) o.2
  refine r_p hq 1 (pc' := 1) (L' := [(0, .ref 143)]) (st' := [.ref 143]) rfl ?_
  refine r_gI (pc' := 4) (L' := [(0, .ref 143)]) H hq (z_at.mk 3 rfl rfl) rfl rfl rfl rfl ?_
  intro V_1 hV_1
  rcases z_ite h with ⟨c_4, h⟩ | ⟨c_4, h⟩
  · refine r_t1 (pc' := 10) (L' := [(0, .ref 143)]) hq (z_at.mk 3 rfl rfl) rfl hV_1 c_4 rfl rfl ?_
    refine r_p hq 2 (pc' := 12) (L' := [(0, .ref 143)]) (st' := [.ref 143, .ref 143]) rfl ?_
    refine r_gR (b := 145) (pc' := 15) (L' := [(0, .ref 143)]) H hq (z_at.mk 3 rfl rfl) rfl rfl rfl rfl ?_
    refine r_p hq 1 (pc' := 16) (L' := [(0, .ref 143)]) (st' := [.ref 143, .ref 145, .ref 143]) rfl ?_
    refine r_gR (b := 148) (pc' := 19) (L' := [(0, .ref 143)]) H hq (z_at.mk 3 rfl rfl) rfl rfl rfl rfl ?_
    obtain ⟨o_19, h_19, h⟩ := Option.bind_eq_some_iff.mp h
    refine r_cvV (pc' := 22) (L' := [(0, .ref 143)]) (Ps := [.ref 145, .ref 148]) (rest := []) hq (z_at.mk 3 rfl rfl) (Or.inl ⟨rfl, rfl⟩) rfl rfl (by decide) (by decide) rfl (Nat.not_lt.mpr (Nat.le_of_ble_eq_true rfl)) rfl rfl (z_cat_le 0 rfl (by decide)) (z_lgl_le 3 rfl (by decide)) (by decide) (H.tg rfl) (by omega) (g_m_back_ok rfl rfl H h_19) rfl rfl ?_
    intro m_19 p_19 e_19 H_19
    subst e_19
    refine r_p hq 1 (pc' := 23) (L' := [(0, .ref 143)]) (st' := [.ref 143]) rfl ?_
    refine r_gR (b := 144) (pc' := 26) (L' := [(0, .ref 143)]) H_19 hq (z_at.mk 3 rfl rfl) rfl rfl rfl rfl ?_
    refine r_p hq 1 (pc' := 27) (L' := [(0, .ref 143)]) (st' := [.int ((0 : Int32)), .ref 144]) rfl ?_
    refine r_ia (pc' := 28) (L' := [(0, .ref 143)]) H_19 hq (z_at.mk 1 rfl rfl) (show zAr 144 0 2740 = true from rfl) (rfl : (0 : Int32).toInt = 0) ⟨by decide, by decide⟩ rfl rfl ?_
    intro V_27 hV_27
    cases h
    exact r_ri hq (z_at.mk 1 rfl rfl) rfl rfl hV_27 rfl H_19
  · refine r_f1 (pc' := 7) (L' := [(0, .ref 143)]) hq (z_at.mk 3 rfl rfl) rfl hV_1 c_4 rfl rfl ?_
    refine r_p hq 1 (pc' := 9) (L' := [(0, .ref 143)]) (st' := [.int ((-3 : Int32))]) rfl ?_
    cases h
    exact r_ri hq (z_at.mk 1 rfl rfl) rfl rfl (rfl : (-3 : Int32).toInt = -3) rfl H
