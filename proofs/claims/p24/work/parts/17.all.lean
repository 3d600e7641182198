section
/-! 21.g16 -/
/-! THE METHODS over the typed memory, 16 (by wip/zg.py) -/
def g_m_trace (x1 : Int) (x2 : Int) (x3 : Int) (x4 : Int) (σ : zS) : Option (Int × zS) :=
  if x1 ≠ -1 then
    (g_m_isBox x1 x2 x3 x4 σ).bind fun o_20 =>
    if o_20.1 ≠ 0 then
      let v_35 := o_20.2 144 9
      if v_35 ≠ 10 then
        let v_58 := o_20.2 144 9
        (g_m_sets 144 (w32 (260 + (w32 (4 * v_58)))) x1 x2 x3 x4 o_20.2).bind fun o_66 =>
        let v_76 := o_66.2 144 9
        let s_79 := zu o_66.2 144 9 (w32 (v_76 + 1))
        let v_86 := s_79 144 9
        some (v_86, s_79)
      else
        some (-4, o_20.2)
    else
      some (-2, o_20.2)
  else
    let s_12 := zu σ 144 9 0
    some (0, s_12)
set_option maxHeartbeats 4000000 in
theorem g_m_trace_ok {xl : Nat} {xs : Nat → Int32} {X1 : Int32} {x1 : Int} (hx1 : X1.toInt = x1) {X2 : Int32} {x2 : Int} (hx2 : X2.toInt = x2) {X3 : Int32} {x3 : Int} (hx3 : X3.toInt = x3) {X4 : Int32} {x4 : Int} (hx4 : X4.toInt = x4) {σ : zS} {p : Nat} {m : zM} {o : Int × zS} (H : zRep xl xs p m σ) (h : g_m_trace x1 x2 x3 x4 σ = some o) : zGo xl xs (fun p' => p = p') 3 254 0 (z_can 254 0 (lv_args 0 [.ref 143, .int X1, .int X2, .int X3, .int X4])) [] m (vI o.1) o.2 := by
  have hq : z_mth 254 = some z_r254 := rfl
  unfold g_m_trace at h
  show zGo xl xs (fun p' => p = p') 3 254 0 [(0, .ref 143), (1, .int X1), (2, .int X2), (3, .int X3), (4, .int X4)] [] m (vI o.1) o.2
  refine r_p hq 2 (pc' := 2) (L' := [(0, .ref 143), (1, .int X1), (2, .int X2), (3, .int X3), (4, .int X4)]) (st' := [.int ((-1 : Int32)), .int X1]) rfl ?_
  rcases z_ite h with ⟨c_2, h⟩ | ⟨c_2, h⟩
  · refine r_t2 (pc' := 15) (L' := [(0, .ref 143), (1, .int X1), (2, .int X2), (3, .int X3), (4, .int X4)]) hq (z_at.mk 3 rfl rfl) rfl hx1 (rfl : (-1 : Int32).toInt = -1) c_2 rfl rfl ?_
    refine r_p hq 4 (pc' := 20) (L' := [(0, .ref 143), (1, .int X1), (2, .int X2), (3, .int X3), (4, .int X4)]) (st' := [.int X4, .int X3, .int X2, .int X1]) rfl ?_
    obtain ⟨o_20, h_20, h⟩ := Option.bind_eq_some_iff.mp h
    refine r_csI (pc' := 23) (L' := [(0, .ref 143), (1, .int X1), (2, .int X2), (3, .int X3), (4, .int X4)]) (As := [.int X1, .int X2, .int X3, .int X4]) (rest := []) (j := 164) hq (z_at.mk 3 rfl rfl) (Or.inl ⟨rfl, rfl⟩) rfl rfl (by omega) (g_m_isBox_ok hx1 hx2 hx3 hx4 H h_20) rfl rfl ?_
    intro R_20 m_20 p_20 e_20 hR_20 H_20
    subst e_20
    rcases z_ite h with ⟨c_23, h⟩ | ⟨c_23, h⟩
    · refine r_t1 (pc' := 29) (L' := [(0, .ref 143), (1, .int X1), (2, .int X2), (3, .int X3), (4, .int X4)]) hq (z_at.mk 3 rfl rfl) rfl hR_20 c_23 rfl rfl ?_
      refine r_p hq 1 (pc' := 30) (L' := [(0, .ref 143), (1, .int X1), (2, .int X2), (3, .int X3), (4, .int X4)]) (st' := [.ref 143]) rfl ?_
      refine r_gR (b := 144) (pc' := 33) (L' := [(0, .ref 143), (1, .int X1), (2, .int X2), (3, .int X3), (4, .int X4)]) H_20 hq (z_at.mk 3 rfl rfl) rfl rfl rfl rfl ?_
      refine r_p hq 1 (pc' := 35) (L' := [(0, .ref 143), (1, .int X1), (2, .int X2), (3, .int X3), (4, .int X4)]) (st' := [.int ((9 : Int32)), .ref 144]) rfl ?_
      refine r_ia (pc' := 36) (L' := [(0, .ref 143), (1, .int X1), (2, .int X2), (3, .int X3), (4, .int X4)]) H_20 hq (z_at.mk 1 rfl rfl) (show zAr 144 0 2740 = true from rfl) (rfl : (9 : Int32).toInt = 9) ⟨by decide, by decide⟩ rfl rfl ?_
      intro V_35 hV_35
      refine r_p hq 1 (pc' := 38) (L' := [(0, .ref 143), (1, .int X1), (2, .int X2), (3, .int X3), (4, .int X4)]) (st' := [.int ((10 : Int32)), .int V_35]) rfl ?_
      rcases z_ite h with ⟨c_38, h⟩ | ⟨c_38, h⟩
      · refine r_t2 (pc' := 44) (L' := [(0, .ref 143), (1, .int X1), (2, .int X2), (3, .int X3), (4, .int X4)]) hq (z_at.mk 3 rfl rfl) rfl hV_35 (rfl : (10 : Int32).toInt = 10) c_38 rfl rfl ?_
        refine r_p hq 1 (pc' := 45) (L' := [(0, .ref 143), (1, .int X1), (2, .int X2), (3, .int X3), (4, .int X4)]) (st' := [.ref 143]) rfl ?_
        refine r_gR (b := 144) (pc' := 48) (L' := [(0, .ref 143), (1, .int X1), (2, .int X2), (3, .int X3), (4, .int X4)]) H_20 hq (z_at.mk 3 rfl rfl) rfl rfl rfl rfl ?_
        refine r_p hq 3 (pc' := 53) (L' := [(0, .ref 143), (1, .int X1), (2, .int X2), (3, .int X3), (4, .int X4)]) (st' := [.ref 143, .int ((4 : Int32)), .int ((260 : Int32)), .ref 144]) rfl ?_
        refine r_gR (b := 144) (pc' := 56) (L' := [(0, .ref 143), (1, .int X1), (2, .int X2), (3, .int X3), (4, .int X4)]) H_20 hq (z_at.mk 3 rfl rfl) rfl rfl rfl rfl ?_
        refine r_p hq 1 (pc' := 58) (L' := [(0, .ref 143), (1, .int X1), (2, .int X2), (3, .int X3), (4, .int X4)]) (st' := [.int ((9 : Int32)), .ref 144, .int ((4 : Int32)), .int ((260 : Int32)), .ref 144]) rfl ?_
        refine r_ia (pc' := 59) (L' := [(0, .ref 143), (1, .int X1), (2, .int X2), (3, .int X3), (4, .int X4)]) H_20 hq (z_at.mk 1 rfl rfl) (show zAr 144 0 2740 = true from rfl) (rfl : (9 : Int32).toInt = 9) ⟨by decide, by decide⟩ rfl rfl ?_
        intro V_58 hV_58
        refine r_p hq 6 (pc' := 66) (L' := [(0, .ref 143), (1, .int X1), (2, .int X2), (3, .int X3), (4, .int X4)]) (st' := [.int X4, .int X3, .int X2, .int X1, .int (((260 : Int32)) + (((4 : Int32)) * V_58)), .ref 144]) rfl ?_
        obtain ⟨o_66, h_66, h⟩ := Option.bind_eq_some_iff.mp h
        refine r_csV (pc' := 69) (L' := [(0, .ref 143), (1, .int X1), (2, .int X2), (3, .int X3), (4, .int X4)]) (As := [.ref 144, .int (((260 : Int32)) + (((4 : Int32)) * V_58)), .int X1, .int X2, .int X3, .int X4]) (rest := []) (j := 165) hq (z_at.mk 3 rfl rfl) (Or.inl ⟨rfl, rfl⟩) rfl rfl (by omega) (g_m_sets_ok rfl (tx_iadd (rfl : (260 : Int32).toInt = 260) (tx_imul (rfl : (4 : Int32).toInt = 4) hV_58)) hx1 hx2 hx3 hx4 H_20 h_66) rfl rfl ?_
        intro m_66 p_66 e_66 H_66
        subst e_66
        refine r_p hq 1 (pc' := 70) (L' := [(0, .ref 143), (1, .int X1), (2, .int X2), (3, .int X3), (4, .int X4)]) (st' := [.ref 143]) rfl ?_
        refine r_gR (b := 144) (pc' := 73) (L' := [(0, .ref 143), (1, .int X1), (2, .int X2), (3, .int X3), (4, .int X4)]) H_66 hq (z_at.mk 3 rfl rfl) rfl rfl rfl rfl ?_
        refine r_p hq 2 (pc' := 76) (L' := [(0, .ref 143), (1, .int X1), (2, .int X2), (3, .int X3), (4, .int X4)]) (st' := [.int ((9 : Int32)), .ref 144, .int ((9 : Int32)), .ref 144]) rfl ?_
        refine r_ia (pc' := 77) (L' := [(0, .ref 143), (1, .int X1), (2, .int X2), (3, .int X3), (4, .int X4)]) H_66 hq (z_at.mk 1 rfl rfl) (show zAr 144 0 2740 = true from rfl) (rfl : (9 : Int32).toInt = 9) ⟨by decide, by decide⟩ rfl rfl ?_
        intro V_76 hV_76
        refine r_p hq 2 (pc' := 79) (L' := [(0, .ref 143), (1, .int X1), (2, .int X2), (3, .int X3), (4, .int X4)]) (st' := [.int (V_76 + ((1 : Int32))), .int ((9 : Int32)), .ref 144]) rfl ?_
        refine r_is (pc' := 80) (L' := [(0, .ref 143), (1, .int X1), (2, .int X2), (3, .int X3), (4, .int X4)]) H_66 hq (z_at.mk 1 rfl rfl) (show zAr 144 0 2740 = true from rfl) (rfl : (9 : Int32).toInt = 9) ⟨by decide, by decide⟩ (tx_iadd hV_76 (rfl : (1 : Int32).toInt = 1)) rfl rfl ?_
        intro m_79 H_79
        refine r_p hq 1 (pc' := 81) (L' := [(0, .ref 143), (1, .int X1), (2, .int X2), (3, .int X3), (4, .int X4)]) (st' := [.ref 143]) rfl ?_
        refine r_gR (b := 144) (pc' := 84) (L' := [(0, .ref 143), (1, .int X1), (2, .int X2), (3, .int X3), (4, .int X4)]) H_79 hq (z_at.mk 3 rfl rfl) rfl rfl rfl rfl ?_
        refine r_p hq 1 (pc' := 86) (L' := [(0, .ref 143), (1, .int X1), (2, .int X2), (3, .int X3), (4, .int X4)]) (st' := [.int ((9 : Int32)), .ref 144]) rfl ?_
        refine r_ia (pc' := 87) (L' := [(0, .ref 143), (1, .int X1), (2, .int X2), (3, .int X3), (4, .int X4)]) H_79 hq (z_at.mk 1 rfl rfl) (show zAr 144 0 2740 = true from rfl) (rfl : (9 : Int32).toInt = 9) ⟨by decide, by decide⟩ rfl rfl ?_
        intro V_86 hV_86
        cases h
        exact r_ri hq (z_at.mk 1 rfl rfl) rfl rfl hV_86 rfl H_79
      · refine r_f2 (pc' := 41) (L' := [(0, .ref 143), (1, .int X1), (2, .int X2), (3, .int X3), (4, .int X4)]) hq (z_at.mk 3 rfl rfl) rfl hV_35 (rfl : (10 : Int32).toInt = 10) c_38 rfl rfl ?_
        refine r_p hq 1 (pc' := 43) (L' := [(0, .ref 143), (1, .int X1), (2, .int X2), (3, .int X3), (4, .int X4)]) (st' := [.int ((-4 : Int32))]) rfl ?_
        cases h
        exact r_ri hq (z_at.mk 1 rfl rfl) rfl rfl (rfl : (-4 : Int32).toInt = -4) rfl H_20
    · refine r_f1 (pc' := 26) (L' := [(0, .ref 143), (1, .int X1), (2, .int X2), (3, .int X3), (4, .int X4)]) hq (z_at.mk 3 rfl rfl) rfl hR_20 c_23 rfl rfl ?_
      refine r_p hq 1 (pc' := 28) (L' := [(0, .ref 143), (1, .int X1), (2, .int X2), (3, .int X3), (4, .int X4)]) (st' := [.int ((-2 : Int32))]) rfl ?_
      cases h
      exact r_ri hq (z_at.mk 1 rfl rfl) rfl rfl (rfl : (-2 : Int32).toInt = -2) rfl H_20
  · refine r_f2 (pc' := 5) (L' := [(0, .ref 143), (1, .int X1), (2, .int X2), (3, .int X3), (4, .int X4)]) hq (z_at.mk 3 rfl rfl) rfl hx1 (rfl : (-1 : Int32).toInt = -1) c_2 rfl rfl ?_
    refine r_p hq 1 (pc' := 6) (L' := [(0, .ref 143), (1, .int X1), (2, .int X2), (3, .int X3), (4, .int X4)]) (st' := [.ref 143]) rfl ?_
    refine r_gR (b := 144) (pc' := 9) (L' := [(0, .ref 143), (1, .int X1), (2, .int X2), (3, .int X3), (4, .int X4)]) H hq (z_at.mk 3 rfl rfl) rfl rfl rfl rfl ?_
    refine r_p hq 2 (pc' := 12) (L' := [(0, .ref 143), (1, .int X1), (2, .int X2), (3, .int X3), (4, .int X4)]) (st' := [.int ((0 : Int32)), .int ((9 : Int32)), .ref 144]) rfl ?_
    refine r_is (pc' := 13) (L' := [(0, .ref 143), (1, .int X1), (2, .int X2), (3, .int X3), (4, .int X4)]) H hq (z_at.mk 1 rfl rfl) (show zAr 144 0 2740 = true from rfl) (rfl : (9 : Int32).toInt = 9) ⟨by decide, by decide⟩ (rfl : (0 : Int32).toInt = 0) rfl rfl ?_
    intro m_12 H_12
    refine r_p hq 1 (pc' := 14) (L' := [(0, .ref 143), (1, .int X1), (2, .int X2), (3, .int X3), (4, .int X4)]) (st' := [.int ((0 : Int32))]) rfl ?_
    cases h
    exact r_ri hq (z_at.mk 1 rfl rfl) rfl rfl (rfl : (0 : Int32).toInt = 0) rfl H_12
def g_m_done_L148 (xs0 : Int) (σ : zS) : Option (Int × zS) :=
  (g_m_back 146 149 σ).bind fun o_158 =>
  some (xs0, o_158.2)
set_option maxHeartbeats 4000000 in
theorem g_m_done_L148_ok {xl : Nat} {xs : Nat → Int32} {Xs0 : Int32} {xs0 : Int} (hxs0 : Xs0.toInt = xs0) {σ : zS} {p : Nat} {m : zM} {o : Int × zS} (H : zRep xl xs p m σ) (h : g_m_done_L148 xs0 σ = some o) : zGo xl xs (fun p' => p = p') 8 255 148 [(0, .ref 143)] [.int Xs0] m (vI o.1) o.2 := by
  have hq : z_mth 255 = some z_r255 := rfl
  unfold g_m_done_L148 at h
  refine r_p hq 3 (pc' := 151) (L' := [(3, .int Xs0), (0, .ref 143)]) (st' := [.ref 143, .ref 143]) rfl ?_
  refine r_gR (b := 146) (pc' := 154) (L' := [(3, .int Xs0), (0, .ref 143)]) H hq (z_at.mk 3 rfl rfl) rfl rfl rfl rfl ?_
  refine r_p hq 1 (pc' := 155) (L' := [(3, .int Xs0), (0, .ref 143)]) (st' := [.ref 143, .ref 146, .ref 143]) rfl ?_
  refine r_gR (b := 149) (pc' := 158) (L' := [(3, .int Xs0), (0, .ref 143)]) H hq (z_at.mk 3 rfl rfl) rfl rfl rfl rfl ?_
  obtain ⟨o_158, h_158, h⟩ := Option.bind_eq_some_iff.mp h
  refine r_cvV (pc' := 161) (L' := [(3, .int Xs0), (0, .ref 143)]) (Ps := [.ref 146, .ref 149]) (rest := []) hq (z_at.mk 3 rfl rfl) (Or.inl ⟨rfl, rfl⟩) rfl rfl (by decide) (by decide) rfl (Nat.not_lt.mpr (Nat.le_of_ble_eq_true rfl)) rfl rfl (z_cat_le 0 rfl (by decide)) (z_lgl_le 3 rfl (by decide)) (by decide) (H.tg rfl) (by omega) (g_m_back_ok rfl rfl H h_158) rfl rfl ?_
  intro m_158 p_158 e_158 H_158
  subst e_158
  refine r_p hq 1 (pc' := 162) (L' := [(3, .int Xs0), (0, .ref 143)]) (st' := [.int Xs0]) rfl ?_
  cases h
  exact r_ri hq (z_at.mk 1 rfl rfl) rfl rfl hxs0 rfl H_158
def g_m_done_L57 : Nat → Int → Int → zS → Option (Int × zS)
  | 0, _, _, _ => none
  | n + 1, x2, x3, σ =>
    let v_64 := σ 144 9
    if v_64 ≤ x3 then
      if x2 ≠ 0 then
        if x2 ≠ 1 then
          if 5 ≤ x2 then
            let v_147 := σ 144 0
            g_m_done_L148 v_147 σ
          else
            if 0 ≤ w32 ((w32 (4 + x2)) - 2) ∧ w32 ((w32 (4 + x2)) - 2) < 2740 then
            let v_138 := σ 144 (w32 ((w32 (4 + x2)) - 2))
            g_m_done_L148 v_138 σ
            else none
        else
          let v_120 := σ 144 2
          g_m_done_L148 v_120 σ
      else
        let v_106 := σ 144 3
        g_m_done_L148 v_106 σ
    else
      (g_m_copies 144 152 (w32 (260 + (w32 (4 * x3)))) 0 σ).bind fun o_84 =>
      (g_m_queries o_84.2).bind fun o_88 =>
      (g_m_done_L57 n) x2 (w32 (x3 + 1)) o_88.2
set_option maxHeartbeats 4000000 in
theorem g_m_done_L57_ok {xl : Nat} {xs : Nat → Int32} : ∀ (n : Nat) {X2 : Int32} {x2 : Int} {X3 : Int32} {x3 : Int} {σ : zS} {p : Nat} {m : zM} {o : Int × zS}, X2.toInt = x2 → X3.toInt = x3 → zRep xl xs p m σ → g_m_done_L57 n x2 x3 σ = some o → zGo xl xs (fun p' => p = p') 8 255 57 [(0, .ref 143), (2, .int X2), (3, .int X3)] [] m (vI o.1) o.2
  | 0, _, _, _, _, _, _, _, _, _, _, _, h => by cases h
  | n + 1, X2, x2, X3, x3, σ, p, m, o, hx2, hx3, H, h => by
    have hq : z_mth 255 = some z_r255 := rfl
    have ih := fun {X2 : Int32} {x2 : Int} {X3 : Int32} {x3 : Int} {σ : zS} {p : Nat} {m : zM} {o : Int × zS} => g_m_done_L57_ok (xl := xl) (xs := xs) n (X2 := X2) (x2 := x2) (X3 := X3) (x3 := x3) (σ := σ) (p := p) (m := m) (o := o)
    unfold g_m_done_L57 at h
    refine r_p hq 2 (pc' := 59) (L' := [(0, .ref 143), (2, .int X2), (3, .int X3)]) (st' := [.ref 143, .int X3]) rfl ?_
    refine r_gR (b := 144) (pc' := 62) (L' := [(0, .ref 143), (2, .int X2), (3, .int X3)]) H hq (z_at.mk 3 rfl rfl) rfl rfl rfl rfl ?_
    refine r_p hq 1 (pc' := 64) (L' := [(0, .ref 143), (2, .int X2), (3, .int X3)]) (st' := [.int ((9 : Int32)), .ref 144, .int X3]) rfl ?_
    refine r_ia (pc' := 65) (L' := [(0, .ref 143), (2, .int X2), (3, .int X3)]) H hq (z_at.mk 1 rfl rfl) (show zAr 144 0 2740 = true from rfl) (rfl : (9 : Int32).toInt = 9) ⟨by decide, by decide⟩ rfl rfl ?_
    intro V_64 hV_64
    rcases z_ite h with ⟨c_65, h⟩ | ⟨c_65, h⟩
    · refine r_t2 (pc' := 97) (L' := [(0, .ref 143), (2, .int X2), (3, .int X3)]) hq (z_at.mk 3 rfl rfl) rfl hx3 hV_64 c_65 rfl rfl ?_
      refine r_p hq 1 (pc' := 98) (L' := [(0, .ref 143), (2, .int X2), (3, .int X3)]) (st' := [.int X2]) rfl ?_
      rcases z_ite h with ⟨c_98, h⟩ | ⟨c_98, h⟩
      · refine r_t1 (pc' := 110) (L' := [(0, .ref 143), (2, .int X2), (3, .int X3)]) hq (z_at.mk 3 rfl rfl) rfl hx2 c_98 rfl rfl ?_
        refine r_p hq 2 (pc' := 112) (L' := [(0, .ref 143), (2, .int X2), (3, .int X3)]) (st' := [.int ((1 : Int32)), .int X2]) rfl ?_
        rcases z_ite h with ⟨c_112, h⟩ | ⟨c_112, h⟩
        · refine r_t2 (pc' := 124) (L' := [(0, .ref 143), (2, .int X2), (3, .int X3)]) hq (z_at.mk 3 rfl rfl) rfl hx2 (rfl : (1 : Int32).toInt = 1) c_112 rfl rfl ?_
          refine r_p hq 2 (pc' := 126) (L' := [(0, .ref 143), (2, .int X2), (3, .int X3)]) (st' := [.int ((5 : Int32)), .int X2]) rfl ?_
          rcases z_ite h with ⟨c_126, h⟩ | ⟨c_126, h⟩
          · refine r_t2 (pc' := 142) (L' := [(0, .ref 143), (2, .int X2), (3, .int X3)]) hq (z_at.mk 3 rfl rfl) rfl hx2 (rfl : (5 : Int32).toInt = 5) c_126 rfl rfl ?_
            refine r_p hq 1 (pc' := 143) (L' := [(0, .ref 143), (2, .int X2), (3, .int X3)]) (st' := [.ref 143]) rfl ?_
            refine r_gR (b := 144) (pc' := 146) (L' := [(0, .ref 143), (2, .int X2), (3, .int X3)]) H hq (z_at.mk 3 rfl rfl) rfl rfl rfl rfl ?_
            refine r_p hq 1 (pc' := 147) (L' := [(0, .ref 143), (2, .int X2), (3, .int X3)]) (st' := [.int ((0 : Int32)), .ref 144]) rfl ?_
            refine r_ia (pc' := 148) (L' := [(0, .ref 143)]) H hq (z_at.mk 1 rfl rfl) (show zAr 144 0 2740 = true from rfl) (rfl : (0 : Int32).toInt = 0) ⟨by decide, by decide⟩ rfl rfl ?_
            intro V_147 hV_147
            exact g_m_done_L148_ok hV_147 H h
          · refine r_f2 (pc' := 129) (L' := [(0, .ref 143), (2, .int X2), (3, .int X3)]) hq (z_at.mk 3 rfl rfl) rfl hx2 (rfl : (5 : Int32).toInt = 5) c_126 rfl rfl ?_
            refine r_p hq 1 (pc' := 130) (L' := [(0, .ref 143), (2, .int X2), (3, .int X3)]) (st' := [.ref 143]) rfl ?_
            refine r_gR (b := 144) (pc' := 133) (L' := [(0, .ref 143), (2, .int X2), (3, .int X3)]) H hq (z_at.mk 3 rfl rfl) rfl rfl rfl rfl ?_
            refine r_p hq 5 (pc' := 138) (L' := [(0, .ref 143), (2, .int X2), (3, .int X3)]) (st' := [.int ((((4 : Int32)) + X2) - ((2 : Int32))), .ref 144]) rfl ?_
            obtain ⟨g_138, h⟩ := z_ifo_some h
            refine r_ia (pc' := 139) (L' := [(0, .ref 143), (2, .int X2), (3, .int X3)]) H hq (z_at.mk 1 rfl rfl) (show zAr 144 0 2740 = true from rfl) (tx_isub (tx_iadd (rfl : (4 : Int32).toInt = 4) hx2) (rfl : (2 : Int32).toInt = 2)) g_138 rfl rfl ?_
            intro V_138 hV_138
            refine r_p hq 1 (pc' := 148) (L' := [(0, .ref 143)]) (st' := [.int V_138]) rfl ?_
            exact g_m_done_L148_ok hV_138 H h
        · refine r_f2 (pc' := 115) (L' := [(0, .ref 143), (2, .int X2), (3, .int X3)]) hq (z_at.mk 3 rfl rfl) rfl hx2 (rfl : (1 : Int32).toInt = 1) c_112 rfl rfl ?_
          refine r_p hq 1 (pc' := 116) (L' := [(0, .ref 143), (2, .int X2), (3, .int X3)]) (st' := [.ref 143]) rfl ?_
          refine r_gR (b := 144) (pc' := 119) (L' := [(0, .ref 143), (2, .int X2), (3, .int X3)]) H hq (z_at.mk 3 rfl rfl) rfl rfl rfl rfl ?_
          refine r_p hq 1 (pc' := 120) (L' := [(0, .ref 143), (2, .int X2), (3, .int X3)]) (st' := [.int ((2 : Int32)), .ref 144]) rfl ?_
          refine r_ia (pc' := 121) (L' := [(0, .ref 143), (2, .int X2), (3, .int X3)]) H hq (z_at.mk 1 rfl rfl) (show zAr 144 0 2740 = true from rfl) (rfl : (2 : Int32).toInt = 2) ⟨by decide, by decide⟩ rfl rfl ?_
          intro V_120 hV_120
          refine r_p hq 1 (pc' := 148) (L' := [(0, .ref 143)]) (st' := [.int V_120]) rfl ?_
          exact g_m_done_L148_ok hV_120 H h
      · refine r_f1 (pc' := 101) (L' := [(0, .ref 143), (2, .int X2), (3, .int X3)]) hq (z_at.mk 3 rfl rfl) rfl hx2 c_98 rfl rfl ?_
        refine r_p hq 1 (pc' := 102) (L' := [(0, .ref 143), (2, .int X2), (3, .int X3)]) (st' := [.ref 143]) rfl ?_
        refine r_gR (b := 144) (pc' := 105) (L' := [(0, .ref 143), (2, .int X2), (3, .int X3)]) H hq (z_at.mk 3 rfl rfl) rfl rfl rfl rfl ?_
        refine r_p hq 1 (pc' := 106) (L' := [(0, .ref 143), (2, .int X2), (3, .int X3)]) (st' := [.int ((3 : Int32)), .ref 144]) rfl ?_
        refine r_ia (pc' := 107) (L' := [(0, .ref 143), (2, .int X2), (3, .int X3)]) H hq (z_at.mk 1 rfl rfl) (show zAr 144 0 2740 = true from rfl) (rfl : (3 : Int32).toInt = 3) ⟨by decide, by decide⟩ rfl rfl ?_
        intro V_106 hV_106
        refine r_p hq 1 (pc' := 148) (L' := [(0, .ref 143)]) (st' := [.int V_106]) rfl ?_
        exact g_m_done_L148_ok hV_106 H h
    · refine r_f2 (pc' := 68) (L' := [(0, .ref 143), (2, .int X2), (3, .int X3)]) hq (z_at.mk 3 rfl rfl) rfl hx3 hV_64 c_65 rfl rfl ?_
      refine r_p hq 1 (pc' := 69) (L' := [(0, .ref 143), (2, .int X2), (3, .int X3)]) (st' := [.ref 143]) rfl ?_
      refine r_gR (b := 144) (pc' := 72) (L' := [(0, .ref 143), (2, .int X2), (3, .int X3)]) H hq (z_at.mk 3 rfl rfl) rfl rfl rfl rfl ?_
      refine r_p hq 6 (pc' := 80) (L' := [(0, .ref 143), (2, .int X2), (3, .int X3)]) (st' := [.ref 143, .int (((260 : Int32)) + (((4 : Int32)) * X3)), .ref 144]) rfl ?_
      refine r_gR (b := 152) (pc' := 83) (L' := [(0, .ref 143), (2, .int X2), (3, .int X3)]) H hq (z_at.mk 3 rfl rfl) rfl rfl rfl rfl ?_
      refine r_p hq 1 (pc' := 84) (L' := [(0, .ref 143), (2, .int X2), (3, .int X3)]) (st' := [.int ((0 : Int32)), .ref 152, .int (((260 : Int32)) + (((4 : Int32)) * X3)), .ref 144]) rfl ?_
      obtain ⟨o_84, h_84, h⟩ := Option.bind_eq_some_iff.mp h
      refine r_csV (pc' := 87) (L' := [(0, .ref 143), (2, .int X2), (3, .int X3)]) (As := [.ref 144, .int (((260 : Int32)) + (((4 : Int32)) * X3)), .ref 152, .int ((0 : Int32))]) (rest := []) (j := 166) hq (z_at.mk 3 rfl rfl) (Or.inl ⟨rfl, rfl⟩) rfl rfl (by omega) (g_m_copies_ok rfl rfl (tx_iadd (rfl : (260 : Int32).toInt = 260) (tx_imul (rfl : (4 : Int32).toInt = 4) hx3)) (rfl : (0 : Int32).toInt = 0) H h_84) rfl rfl ?_
      intro m_84 p_84 e_84 H_84
      subst e_84
      refine r_p hq 1 (pc' := 88) (L' := [(0, .ref 143), (2, .int X2), (3, .int X3)]) (st' := [.ref 143]) rfl ?_
      obtain ⟨o_88, h_88, h⟩ := Option.bind_eq_some_iff.mp h
      refine r_cvV (pc' := 91) (L' := [(0, .ref 143), (2, .int X2), (3, .int X3)]) (Ps := []) (rest := []) hq (z_at.mk 3 rfl rfl) (Or.inl ⟨rfl, rfl⟩) rfl rfl (by decide) (by decide) rfl (Nat.not_lt.mpr (Nat.le_of_ble_eq_true rfl)) rfl rfl (z_cat_le 0 rfl (by decide)) (z_lgl_le 1 rfl (by decide)) (by decide) (H_84.tg rfl) (by omega) (g_m_queries_ok H_84 h_88) rfl rfl ?_
      intro m_88 p_88 e_88 H_88
      subst e_88
      refine r_p hq 2 (pc' := 57) (L' := [(0, .ref 143), (2, .int X2), (3, .int (X3 + (1 : Int32)))]) (st' := []) rfl ?_
      exact ih hx2 (tx_iadd hx3 (rfl : (1 : Int32).toInt = 1)) H_88 h
def g_m_done_L28 : Nat → Int → Int → Int → zS → Option (Int × zS)
  | 0, _, _, _, _ => none
  | n + 1, x1, x2, x3, σ =>
    if 7 < x3 then
      let s_54 := zu σ 144 12 x1
      g_m_done_L57 zK x2 0 s_54
    else
      if 0 ≤ x3 ∧ x3 < 2740 then
      let s_40 := zu σ 144 x3 0
      (g_m_done_L28 n) x1 x2 (w32 (x3 + 1)) s_40
      else none
set_option maxHeartbeats 4000000 in
theorem g_m_done_L28_ok {xl : Nat} {xs : Nat → Int32} : ∀ (n : Nat) {X1 : Int32} {x1 : Int} {X2 : Int32} {x2 : Int} {X3 : Int32} {x3 : Int} {σ : zS} {p : Nat} {m : zM} {o : Int × zS}, X1.toInt = x1 → X2.toInt = x2 → X3.toInt = x3 → zRep xl xs p m σ → g_m_done_L28 n x1 x2 x3 σ = some o → zGo xl xs (fun p' => p = p') 8 255 28 [(0, .ref 143), (1, .int X1), (2, .int X2), (3, .int X3)] [] m (vI o.1) o.2
  | 0, _, _, _, _, _, _, _, _, _, _, _, _, _, _, h => by cases h
  | n + 1, X1, x1, X2, x2, X3, x3, σ, p, m, o, hx1, hx2, hx3, H, h => by
    have hq : z_mth 255 = some z_r255 := rfl
    have ih := fun {X1 : Int32} {x1 : Int} {X2 : Int32} {x2 : Int} {X3 : Int32} {x3 : Int} {σ : zS} {p : Nat} {m : zM} {o : Int × zS} => g_m_done_L28_ok (xl := xl) (xs := xs) n (X1 := X1) (x1 := x1) (X2 := X2) (x2 := x2) (X3 := X3) (x3 := x3) (σ := σ) (p := p) (m := m) (o := o)
    unfold g_m_done_L28 at h
    refine r_p hq 2 (pc' := 31) (L' := [(0, .ref 143), (1, .int X1), (2, .int X2), (3, .int X3)]) (st' := [.int ((7 : Int32)), .int X3]) rfl ?_
    rcases z_ite h with ⟨c_31, h⟩ | ⟨c_31, h⟩
    · refine r_t2 (pc' := 47) (L' := [(0, .ref 143), (1, .int X1), (2, .int X2), (3, .int X3)]) hq (z_at.mk 3 rfl rfl) rfl hx3 (rfl : (7 : Int32).toInt = 7) c_31 rfl rfl ?_
      refine r_p hq 1 (pc' := 48) (L' := [(0, .ref 143), (1, .int X1), (2, .int X2), (3, .int X3)]) (st' := [.ref 143]) rfl ?_
      refine r_gR (b := 144) (pc' := 51) (L' := [(0, .ref 143), (1, .int X1), (2, .int X2), (3, .int X3)]) H hq (z_at.mk 3 rfl rfl) rfl rfl rfl rfl ?_
      refine r_p hq 2 (pc' := 54) (L' := [(0, .ref 143), (1, .int X1), (2, .int X2), (3, .int X3)]) (st' := [.int X1, .int ((12 : Int32)), .ref 144]) rfl ?_
      refine r_is (pc' := 55) (L' := [(0, .ref 143), (1, .int X1), (2, .int X2), (3, .int X3)]) H hq (z_at.mk 1 rfl rfl) (show zAr 144 0 2740 = true from rfl) (rfl : (12 : Int32).toInt = 12) ⟨by decide, by decide⟩ hx1 rfl rfl ?_
      intro m_54 H_54
      refine r_p hq 2 (pc' := 57) (L' := [(0, .ref 143), (2, .int X2), (3, .int ((0 : Int32)))]) (st' := []) rfl ?_
      exact g_m_done_L57_ok zK hx2 (rfl : (0 : Int32).toInt = 0) H_54 h
    · refine r_f2 (pc' := 34) (L' := [(0, .ref 143), (1, .int X1), (2, .int X2), (3, .int X3)]) hq (z_at.mk 3 rfl rfl) rfl hx3 (rfl : (7 : Int32).toInt = 7) c_31 rfl rfl ?_
      refine r_p hq 1 (pc' := 35) (L' := [(0, .ref 143), (1, .int X1), (2, .int X2), (3, .int X3)]) (st' := [.ref 143]) rfl ?_
      refine r_gR (b := 144) (pc' := 38) (L' := [(0, .ref 143), (1, .int X1), (2, .int X2), (3, .int X3)]) H hq (z_at.mk 3 rfl rfl) rfl rfl rfl rfl ?_
      refine r_p hq 2 (pc' := 40) (L' := [(0, .ref 143), (1, .int X1), (2, .int X2), (3, .int X3)]) (st' := [.int ((0 : Int32)), .int X3, .ref 144]) rfl ?_
      obtain ⟨g_40, h⟩ := z_ifo_some h
      refine r_is (pc' := 41) (L' := [(0, .ref 143), (1, .int X1), (2, .int X2), (3, .int X3)]) H hq (z_at.mk 1 rfl rfl) (show zAr 144 0 2740 = true from rfl) hx3 g_40 (rfl : (0 : Int32).toInt = 0) rfl rfl ?_
      intro m_40 H_40
      refine r_p hq 2 (pc' := 28) (L' := [(0, .ref 143), (1, .int X1), (2, .int X2), (3, .int (X3 + (1 : Int32)))]) (st' := []) rfl ?_
      exact ih hx1 hx2 (tx_iadd hx3 (rfl : (1 : Int32).toInt = 1)) H_40 h
def g_m_done (x1 : Int) (x2 : Int) (σ : zS) : Option (Int × zS) :=
  (g_m_keeps 146 149 σ).bind fun o_9 =>
  let s_18 := zu o_9.2 144 0 0
  let s_25 := zu s_18 147 0 0
  g_m_done_L28 zK x1 x2 2 s_25
set_option maxHeartbeats 4000000 in
theorem g_m_done_ok {xl : Nat} {xs : Nat → Int32} {X1 : Int32} {x1 : Int} (hx1 : X1.toInt = x1) {X2 : Int32} {x2 : Int} (hx2 : X2.toInt = x2) {σ : zS} {p : Nat} {m : zM} {o : Int × zS} (H : zRep xl xs p m σ) (h : g_m_done x1 x2 σ = some o) : zGo xl xs (fun p' => p = p') 8 255 0 (z_can 255 0 (lv_args 0 [.ref 143, .int X1, .int X2])) [] m (vI o.1) o.2 := by
  have hq : z_mth 255 = some z_r255 := rfl
  unfold g_m_done at h
  show zGo xl xs (fun p' => p = p') 8 255 0 [(0, .ref 143), (1, .int X1), (2, .int X2)] [] m (vI o.1) o.2
  refine r_p hq 2 (pc' := 2) (L' := [(0, .ref 143), (1, .int X1), (2, .int X2)]) (st' := [.ref 143, .ref 143]) rfl ?_
  refine r_gR (b := 146) (pc' := 5) (L' := [(0, .ref 143), (1, .int X1), (2, .int X2)]) H hq (z_at.mk 3 rfl rfl) rfl rfl rfl rfl ?_
  refine r_p hq 1 (pc' := 6) (L' := [(0, .ref 143), (1, .int X1), (2, .int X2)]) (st' := [.ref 143, .ref 146, .ref 143]) rfl ?_
  refine r_gR (b := 149) (pc' := 9) (L' := [(0, .ref 143), (1, .int X1), (2, .int X2)]) H hq (z_at.mk 3 rfl rfl) rfl rfl rfl rfl ?_
  obtain ⟨o_9, h_9, h⟩ := Option.bind_eq_some_iff.mp h
  refine r_cvV (pc' := 12) (L' := [(0, .ref 143), (1, .int X1), (2, .int X2)]) (Ps := [.ref 146, .ref 149]) (rest := []) hq (z_at.mk 3 rfl rfl) (Or.inl ⟨rfl, rfl⟩) rfl rfl (by decide) (by decide) rfl (Nat.not_lt.mpr (Nat.le_of_ble_eq_true rfl)) rfl rfl (z_cat_le 0 rfl (by decide)) (z_lgl_le 3 rfl (by decide)) (by decide) (H.tg rfl) (by omega) (g_m_keeps_ok rfl rfl H h_9) rfl rfl ?_
  intro m_9 p_9 e_9 H_9
  subst e_9
  refine r_p hq 1 (pc' := 13) (L' := [(0, .ref 143), (1, .int X1), (2, .int X2)]) (st' := [.ref 143]) rfl ?_
  refine r_gR (b := 144) (pc' := 16) (L' := [(0, .ref 143), (1, .int X1), (2, .int X2)]) H_9 hq (z_at.mk 3 rfl rfl) rfl rfl rfl rfl ?_
  refine r_p hq 2 (pc' := 18) (L' := [(0, .ref 143), (1, .int X1), (2, .int X2)]) (st' := [.int ((0 : Int32)), .int ((0 : Int32)), .ref 144]) rfl ?_
  refine r_is (pc' := 19) (L' := [(0, .ref 143), (1, .int X1), (2, .int X2)]) H_9 hq (z_at.mk 1 rfl rfl) (show zAr 144 0 2740 = true from rfl) (rfl : (0 : Int32).toInt = 0) ⟨by decide, by decide⟩ (rfl : (0 : Int32).toInt = 0) rfl rfl ?_
  intro m_18 H_18
  refine r_p hq 1 (pc' := 20) (L' := [(0, .ref 143), (1, .int X1), (2, .int X2)]) (st' := [.ref 143]) rfl ?_
  refine r_gR (b := 147) (pc' := 23) (L' := [(0, .ref 143), (1, .int X1), (2, .int X2)]) H_18 hq (z_at.mk 3 rfl rfl) rfl rfl rfl rfl ?_
  refine r_p hq 2 (pc' := 25) (L' := [(0, .ref 143), (1, .int X1), (2, .int X2)]) (st' := [.long ((0 : Int64)), .int ((0 : Int32)), .ref 147]) rfl ?_
  refine r_ls (pc' := 26) (L' := [(0, .ref 143), (1, .int X1), (2, .int X2)]) H_18 hq (z_at.mk 1 rfl rfl) (show zAr 147 1 361 = true from rfl) (rfl : (0 : Int32).toInt = 0) ⟨by decide, by decide⟩ (rfl : (0 : Int64).toInt = 0) rfl rfl ?_
  intro m_25 H_25
  refine r_p hq 2 (pc' := 28) (L' := [(0, .ref 143), (1, .int X1), (2, .int X2), (3, .int ((2 : Int32)))]) (st' := []) rfl ?_
  exact g_m_done_L28_ok zK hx1 hx2 (rfl : (2 : Int32).toInt = 2) H_25 h
def g_m_again (x1 : Int) (x2 : Int) (σ : zS) : Option (Int × zS) :=
  (g_m_isIn x2 0 5 σ).bind fun o_3 =>
  if o_3.1 ≠ 0 then
    (g_m_isIn x1 1 99 o_3.2).bind fun o_17 =>
    if o_17.1 ≠ 0 then
      (g_m_done x1 x2 o_17.2).bind fun o_31 =>
      some (o_31.1, o_31.2)
    else
      some (-2, o_17.2)
  else
    some (-1, o_3.2)
set_option maxHeartbeats 4000000 in
theorem g_m_again_ok {xl : Nat} {xs : Nat → Int32} {X1 : Int32} {x1 : Int} (hx1 : X1.toInt = x1) {X2 : Int32} {x2 : Int} (hx2 : X2.toInt = x2) {σ : zS} {p : Nat} {m : zM} {o : Int × zS} (H : zRep xl xs p m σ) (h : g_m_again x1 x2 σ = some o) : zGo xl xs (fun p' => p = p') 9 256 0 (z_can 256 0 (lv_args 0 [.ref 143, .int X1, .int X2])) [] m (vI o.1) o.2 := by
  have hq : z_mth 256 = some z_r256 := rfl
  unfold g_m_again at h
  show zGo xl xs (fun p' => p = p') 9 256 0 [(0, .ref 143), (1, .int X1), (2, .int X2)] [] m (vI o.1) o.2
  refine r_p hq 3 (pc' := 3) (L' := [(0, .ref 143), (1, .int X1), (2, .int X2)]) (st' := [.int ((5 : Int32)), .int ((0 : Int32)), .int X2]) rfl ?_
  obtain ⟨o_3, h_3, h⟩ := Option.bind_eq_some_iff.mp h
  refine r_csI (pc' := 6) (L' := [(0, .ref 143), (1, .int X1), (2, .int X2)]) (As := [.int X2, .int ((0 : Int32)), .int ((5 : Int32))]) (rest := []) (j := 159) hq (z_at.mk 3 rfl rfl) (Or.inl ⟨rfl, rfl⟩) rfl rfl (by omega) (g_m_isIn_ok hx2 (rfl : (0 : Int32).toInt = 0) (rfl : (5 : Int32).toInt = 5) H h_3) rfl rfl ?_
  intro R_3 m_3 p_3 e_3 hR_3 H_3
  subst e_3
  rcases z_ite h with ⟨c_6, h⟩ | ⟨c_6, h⟩
  · refine r_t1 (pc' := 13) (L' := [(0, .ref 143), (1, .int X1), (2, .int X2)]) hq (z_at.mk 3 rfl rfl) rfl hR_3 c_6 rfl rfl ?_
    refine r_p hq 3 (pc' := 17) (L' := [(0, .ref 143), (1, .int X1), (2, .int X2)]) (st' := [.int ((99 : Int32)), .int ((1 : Int32)), .int X1]) rfl ?_
    obtain ⟨o_17, h_17, h⟩ := Option.bind_eq_some_iff.mp h
    refine r_csI (pc' := 20) (L' := [(0, .ref 143), (1, .int X1), (2, .int X2)]) (As := [.int X1, .int ((1 : Int32)), .int ((99 : Int32))]) (rest := []) (j := 159) hq (z_at.mk 3 rfl rfl) (Or.inl ⟨rfl, rfl⟩) rfl rfl (by omega) (g_m_isIn_ok hx1 (rfl : (1 : Int32).toInt = 1) (rfl : (99 : Int32).toInt = 99) H_3 h_17) rfl rfl ?_
    intro R_17 m_17 p_17 e_17 hR_17 H_17
    subst e_17
    rcases z_ite h with ⟨c_20, h⟩ | ⟨c_20, h⟩
    · refine r_t1 (pc' := 28) (L' := [(0, .ref 143), (1, .int X1), (2, .int X2)]) hq (z_at.mk 3 rfl rfl) rfl hR_17 c_20 rfl rfl ?_
      refine r_p hq 3 (pc' := 31) (L' := [(0, .ref 143), (1, .int X1), (2, .int X2)]) (st' := [.int X2, .int X1, .ref 143]) rfl ?_
      obtain ⟨o_31, h_31, h⟩ := Option.bind_eq_some_iff.mp h
      refine r_cvI (pc' := 34) (L' := []) (Ps := [.int X1, .int X2]) (rest := []) hq (z_at.mk 3 rfl rfl) (Or.inl ⟨rfl, rfl⟩) rfl rfl (by decide) (by decide) rfl (Nat.not_lt.mpr (Nat.le_of_ble_eq_true rfl)) rfl rfl (z_cat_le 0 rfl (by decide)) (z_lgl_le 3 rfl (by decide)) (by decide) (H_17.tg rfl) (by omega) (g_m_done_ok hx1 hx2 H_17 h_31) rfl rfl ?_
      intro R_31 m_31 p_31 e_31 hR_31 H_31
      subst e_31
      cases h
      exact r_ri hq (z_at.mk 1 rfl rfl) rfl rfl hR_31 rfl H_31
    · refine r_f1 (pc' := 23) (L' := [(0, .ref 143), (1, .int X1), (2, .int X2)]) hq (z_at.mk 3 rfl rfl) rfl hR_17 c_20 rfl rfl ?_
      refine r_p hq 2 (pc' := 34) (L' := []) (st' := [.int ((-2 : Int32))]) rfl ?_
      cases h
      exact r_ri hq (z_at.mk 1 rfl rfl) rfl rfl (rfl : (-2 : Int32).toInt = -2) rfl H_17
  · refine r_f1 (pc' := 9) (L' := [(0, .ref 143), (1, .int X1), (2, .int X2)]) hq (z_at.mk 3 rfl rfl) rfl hR_3 c_6 rfl rfl ?_
    refine r_p hq 2 (pc' := 34) (L' := []) (st' := [.int ((-1 : Int32))]) rfl ?_
    cases h
    exact r_ri hq (z_at.mk 1 rfl rfl) rfl rfl (rfl : (-1 : Int32).toInt = -1) rfl H_3
def g_m_least_L2 : Nat → Int → Int → zS → Option (Int × zS)
  | 0, _, _, _ => none
  | n + 1, x1, x2, σ =>
    if 99 < x2 then
      some (-5, σ)
    else
      (g_m_done x2 0 σ).bind fun o_11 =>
      if x1 < o_11.1 then
        (g_m_least_L2 n) x1 (w32 (x2 + 1)) o_11.2
      else
        some (x2, o_11.2)
set_option maxHeartbeats 4000000 in
theorem g_m_least_L2_ok {xl : Nat} {xs : Nat → Int32} : ∀ (n : Nat) {X1 : Int32} {x1 : Int} {X2 : Int32} {x2 : Int} {σ : zS} {p : Nat} {m : zM} {o : Int × zS}, X1.toInt = x1 → X2.toInt = x2 → zRep xl xs p m σ → g_m_least_L2 n x1 x2 σ = some o → zGo xl xs (fun p' => p = p') 9 257 2 [(0, .ref 143), (1, .int X1), (2, .int X2)] [] m (vI o.1) o.2
  | 0, _, _, _, _, _, _, _, _, _, _, _, h => by cases h
  | n + 1, X1, x1, X2, x2, σ, p, m, o, hx1, hx2, H, h => by
    have hq : z_mth 257 = some z_r257 := rfl
    have ih := fun {X1 : Int32} {x1 : Int} {X2 : Int32} {x2 : Int} {σ : zS} {p : Nat} {m : zM} {o : Int × zS} => g_m_least_L2_ok (xl := xl) (xs := xs) n (X1 := X1) (x1 := x1) (X2 := X2) (x2 := x2) (σ := σ) (p := p) (m := m) (o := o)
    unfold g_m_least_L2 at h
    refine r_p hq 2 (pc' := 5) (L' := [(0, .ref 143), (1, .int X1), (2, .int X2)]) (st' := [.int ((99 : Int32)), .int X2]) rfl ?_
    rcases z_ite h with ⟨c_5, h⟩ | ⟨c_5, h⟩
    · refine r_t2 (pc' := 26) (L' := [(0, .ref 143), (1, .int X1), (2, .int X2)]) hq (z_at.mk 3 rfl rfl) rfl hx2 (rfl : (99 : Int32).toInt = 99) c_5 rfl rfl ?_
      refine r_p hq 1 (pc' := 28) (L' := [(0, .ref 143), (1, .int X1), (2, .int X2)]) (st' := [.int ((-5 : Int32))]) rfl ?_
      cases h
      exact r_ri hq (z_at.mk 1 rfl rfl) rfl rfl (rfl : (-5 : Int32).toInt = -5) rfl H
    · refine r_f2 (pc' := 8) (L' := [(0, .ref 143), (1, .int X1), (2, .int X2)]) hq (z_at.mk 3 rfl rfl) rfl hx2 (rfl : (99 : Int32).toInt = 99) c_5 rfl rfl ?_
      refine r_p hq 3 (pc' := 11) (L' := [(0, .ref 143), (1, .int X1), (2, .int X2)]) (st' := [.int ((0 : Int32)), .int X2, .ref 143]) rfl ?_
      obtain ⟨o_11, h_11, h⟩ := Option.bind_eq_some_iff.mp h
      refine r_cvI (pc' := 14) (L' := [(0, .ref 143), (1, .int X1), (2, .int X2)]) (Ps := [.int X2, .int ((0 : Int32))]) (rest := []) hq (z_at.mk 3 rfl rfl) (Or.inl ⟨rfl, rfl⟩) rfl rfl (by decide) (by decide) rfl (Nat.not_lt.mpr (Nat.le_of_ble_eq_true rfl)) rfl rfl (z_cat_le 0 rfl (by decide)) (z_lgl_le 3 rfl (by decide)) (by decide) (H.tg rfl) (by omega) (g_m_done_ok hx2 (rfl : (0 : Int32).toInt = 0) H h_11) rfl rfl ?_
      intro R_11 m_11 p_11 e_11 hR_11 H_11
      subst e_11
      refine r_p hq 1 (pc' := 15) (L' := [(0, .ref 143), (1, .int X1), (2, .int X2)]) (st' := [.int X1, .int R_11]) rfl ?_
      rcases z_ite h with ⟨c_15, h⟩ | ⟨c_15, h⟩
      · refine r_t2 (pc' := 20) (L' := [(0, .ref 143), (1, .int X1), (2, .int X2)]) hq (z_at.mk 3 rfl rfl) rfl hR_11 hx1 c_15 rfl rfl ?_
        refine r_p hq 2 (pc' := 2) (L' := [(0, .ref 143), (1, .int X1), (2, .int (X2 + (1 : Int32)))]) (st' := []) rfl ?_
        exact ih hx1 (tx_iadd hx2 (rfl : (1 : Int32).toInt = 1)) H_11 h
      · refine r_f2 (pc' := 18) (L' := [(0, .ref 143), (1, .int X1), (2, .int X2)]) hq (z_at.mk 3 rfl rfl) rfl hR_11 hx1 c_15 rfl rfl ?_
        refine r_p hq 1 (pc' := 19) (L' := [(0, .ref 143), (1, .int X1), (2, .int X2)]) (st' := [.int X2]) rfl ?_
        cases h
        exact r_ri hq (z_at.mk 1 rfl rfl) rfl rfl hx2 rfl H_11
def g_m_least (x1 : Int) (σ : zS) : Option (Int × zS) :=
  g_m_least_L2 zK x1 1 σ
set_option maxHeartbeats 4000000 in
theorem g_m_least_ok {xl : Nat} {xs : Nat → Int32} {X1 : Int32} {x1 : Int} (hx1 : X1.toInt = x1) {σ : zS} {p : Nat} {m : zM} {o : Int × zS} (H : zRep xl xs p m σ) (h : g_m_least x1 σ = some o) : zGo xl xs (fun p' => p = p') 9 257 0 (z_can 257 0 (lv_args 0 [.ref 143, .int X1])) [] m (vI o.1) o.2 := by
  have hq : z_mth 257 = some z_r257 := rfl
  unfold g_m_least at h
  show zGo xl xs (fun p' => p = p') 9 257 0 [(0, .ref 143), (1, .int X1)] [] m (vI o.1) o.2
  refine r_p hq 2 (pc' := 2) (L' := [(0, .ref 143), (1, .int X1), (2, .int ((1 : Int32)))]) (st' := []) rfl ?_
  exact g_m_least_L2_ok zK hx1 (rfl : (1 : Int32).toInt = 1) H h
def g_m_watch (x1 : Int) (x2 : Int) (x3 : Int) (x4 : Int) (x5 : Int) (σ : zS) : Option (Int × zS) :=
  (g_m_isIn x1 0 6 σ).bind fun o_4 =>
  if o_4.1 ≠ 0 then
    (g_m_isBox x2 x3 x4 x5 o_4.2).bind fun o_18 =>
    if o_18.1 ≠ 0 then
      let v_33 := o_18.2 144 10
      if v_33 ≠ 6 then
        let v_53 := o_18.2 144 10
        if 0 ≤ w32 (300 + (w32 (6 * v_53))) ∧ w32 (300 + (w32 (6 * v_53))) < 2740 then
        let s_65 := zu o_18.2 144 (w32 (300 + (w32 (6 * v_53)))) x1
        (g_m_sets 144 (w32 ((w32 (300 + (w32 (6 * v_53)))) + 1)) x2 x3 x4 x5 s_65).bind fun o_80 =>
        if 0 ≤ w32 ((w32 (300 + (w32 (6 * v_53)))) + 5) ∧ w32 ((w32 (300 + (w32 (6 * v_53)))) + 5) < 2740 then
        let s_92 := zu o_80.2 144 (w32 ((w32 (300 + (w32 (6 * v_53)))) + 5)) 0
        let v_100 := s_92 144 10
        let s_103 := zu s_92 144 10 (w32 (v_100 + 1))
        let v_110 := s_103 144 10
        some (w32 (v_110 - 1), s_103)
        else none
        else none
      else
        some (-4, o_18.2)
    else
      some (-2, o_18.2)
  else
    some (-1, o_4.2)
set_option maxHeartbeats 4000000 in
theorem g_m_watch_ok {xl : Nat} {xs : Nat → Int32} {X1 : Int32} {x1 : Int} (hx1 : X1.toInt = x1) {X2 : Int32} {x2 : Int} (hx2 : X2.toInt = x2) {X3 : Int32} {x3 : Int} (hx3 : X3.toInt = x3) {X4 : Int32} {x4 : Int} (hx4 : X4.toInt = x4) {X5 : Int32} {x5 : Int} (hx5 : X5.toInt = x5) {σ : zS} {p : Nat} {m : zM} {o : Int × zS} (H : zRep xl xs p m σ) (h : g_m_watch x1 x2 x3 x4 x5 σ = some o) : zGo xl xs (fun p' => p = p') 3 258 0 (z_can 258 0 (lv_args 0 [.ref 143, .int X1, .int X2, .int X3, .int X4, .int X5])) [] m (vI o.1) o.2 := by
  have hq : z_mth 258 = some z_r258 := rfl
  unfold g_m_watch at h
  show zGo xl xs (fun p' => p = p') 3 258 0 [(0, .ref 143), (1, .int X1), (2, .int X2), (3, .int X3), (4, .int X4), (5, .int X5)] [] m (vI o.1) o.2
  refine r_p hq 3 (pc' := 4) (L' := [(0, .ref 143), (1, .int X1), (2, .int X2), (3, .int X3), (4, .int X4), (5, .int X5)]) (st' := [.int ((6 : Int32)), .int ((0 : Int32)), .int X1]) rfl ?_
  obtain ⟨o_4, h_4, h⟩ := Option.bind_eq_some_iff.mp h
  refine r_csI (pc' := 7) (L' := [(0, .ref 143), (1, .int X1), (2, .int X2), (3, .int X3), (4, .int X4), (5, .int X5)]) (As := [.int X1, .int ((0 : Int32)), .int ((6 : Int32))]) (rest := []) (j := 159) hq (z_at.mk 3 rfl rfl) (Or.inl ⟨rfl, rfl⟩) rfl rfl (by omega) (g_m_isIn_ok hx1 (rfl : (0 : Int32).toInt = 0) (rfl : (6 : Int32).toInt = 6) H h_4) rfl rfl ?_
  intro R_4 m_4 p_4 e_4 hR_4 H_4
  subst e_4
  rcases z_ite h with ⟨c_7, h⟩ | ⟨c_7, h⟩
  · refine r_t1 (pc' := 12) (L' := [(0, .ref 143), (1, .int X1), (2, .int X2), (3, .int X3), (4, .int X4), (5, .int X5)]) hq (z_at.mk 3 rfl rfl) rfl hR_4 c_7 rfl rfl ?_
    refine r_p hq 4 (pc' := 18) (L' := [(0, .ref 143), (1, .int X1), (2, .int X2), (3, .int X3), (4, .int X4), (5, .int X5)]) (st' := [.int X5, .int X4, .int X3, .int X2]) rfl ?_
    obtain ⟨o_18, h_18, h⟩ := Option.bind_eq_some_iff.mp h
    refine r_csI (pc' := 21) (L' := [(0, .ref 143), (1, .int X1), (2, .int X2), (3, .int X3), (4, .int X4), (5, .int X5)]) (As := [.int X2, .int X3, .int X4, .int X5]) (rest := []) (j := 164) hq (z_at.mk 3 rfl rfl) (Or.inl ⟨rfl, rfl⟩) rfl rfl (by omega) (g_m_isBox_ok hx2 hx3 hx4 hx5 H_4 h_18) rfl rfl ?_
    intro R_18 m_18 p_18 e_18 hR_18 H_18
    subst e_18
    rcases z_ite h with ⟨c_21, h⟩ | ⟨c_21, h⟩
    · refine r_t1 (pc' := 27) (L' := [(0, .ref 143), (1, .int X1), (2, .int X2), (3, .int X3), (4, .int X4), (5, .int X5)]) hq (z_at.mk 3 rfl rfl) rfl hR_18 c_21 rfl rfl ?_
      refine r_p hq 1 (pc' := 28) (L' := [(0, .ref 143), (1, .int X1), (2, .int X2), (3, .int X3), (4, .int X4), (5, .int X5)]) (st' := [.ref 143]) rfl ?_
      refine r_gR (b := 144) (pc' := 31) (L' := [(0, .ref 143), (1, .int X1), (2, .int X2), (3, .int X3), (4, .int X4), (5, .int X5)]) H_18 hq (z_at.mk 3 rfl rfl) rfl rfl rfl rfl ?_
      refine r_p hq 1 (pc' := 33) (L' := [(0, .ref 143), (1, .int X1), (2, .int X2), (3, .int X3), (4, .int X4), (5, .int X5)]) (st' := [.int ((10 : Int32)), .ref 144]) rfl ?_
      refine r_ia (pc' := 34) (L' := [(0, .ref 143), (1, .int X1), (2, .int X2), (3, .int X3), (4, .int X4), (5, .int X5)]) H_18 hq (z_at.mk 1 rfl rfl) (show zAr 144 0 2740 = true from rfl) (rfl : (10 : Int32).toInt = 10) ⟨by decide, by decide⟩ rfl rfl ?_
      intro V_33 hV_33
      refine r_p hq 1 (pc' := 36) (L' := [(0, .ref 143), (1, .int X1), (2, .int X2), (3, .int X3), (4, .int X4), (5, .int X5)]) (st' := [.int ((6 : Int32)), .int V_33]) rfl ?_
      rcases z_ite h with ⟨c_36, h⟩ | ⟨c_36, h⟩
      · refine r_t2 (pc' := 42) (L' := [(0, .ref 143), (1, .int X1), (2, .int X2), (3, .int X3), (4, .int X4), (5, .int X5)]) hq (z_at.mk 3 rfl rfl) rfl hV_33 (rfl : (6 : Int32).toInt = 6) c_36 rfl rfl ?_
        refine r_p hq 3 (pc' := 48) (L' := [(0, .ref 143), (1, .int X1), (2, .int X2), (3, .int X3), (4, .int X4), (5, .int X5)]) (st' := [.ref 143, .int ((6 : Int32)), .int ((300 : Int32))]) rfl ?_
        refine r_gR (b := 144) (pc' := 51) (L' := [(0, .ref 143), (1, .int X1), (2, .int X2), (3, .int X3), (4, .int X4), (5, .int X5)]) H_18 hq (z_at.mk 3 rfl rfl) rfl rfl rfl rfl ?_
        refine r_p hq 1 (pc' := 53) (L' := [(0, .ref 143), (1, .int X1), (2, .int X2), (3, .int X3), (4, .int X4), (5, .int X5)]) (st' := [.int ((10 : Int32)), .ref 144, .int ((6 : Int32)), .int ((300 : Int32))]) rfl ?_
        refine r_ia (pc' := 54) (L' := [(0, .ref 143), (1, .int X1), (2, .int X2), (3, .int X3), (4, .int X4), (5, .int X5)]) H_18 hq (z_at.mk 1 rfl rfl) (show zAr 144 0 2740 = true from rfl) (rfl : (10 : Int32).toInt = 10) ⟨by decide, by decide⟩ rfl rfl ?_
        intro V_53 hV_53
        refine r_p hq 4 (pc' := 59) (L' := [(6, .int (((300 : Int32)) + (((6 : Int32)) * V_53))), (0, .ref 143), (1, .int X1), (2, .int X2), (3, .int X3), (4, .int X4), (5, .int X5)]) (st' := [.ref 143]) rfl ?_
        refine r_gR (b := 144) (pc' := 62) (L' := [(6, .int (((300 : Int32)) + (((6 : Int32)) * V_53))), (0, .ref 143), (1, .int X1), (2, .int X2), (3, .int X3), (4, .int X4), (5, .int X5)]) H_18 hq (z_at.mk 3 rfl rfl) rfl rfl rfl rfl ?_
        refine r_p hq 2 (pc' := 65) (L' := [(6, .int (((300 : Int32)) + (((6 : Int32)) * V_53))), (0, .ref 143), (1, .int X1), (2, .int X2), (3, .int X3), (4, .int X4), (5, .int X5)]) (st' := [.int X1, .int (((300 : Int32)) + (((6 : Int32)) * V_53)), .ref 144]) rfl ?_
        obtain ⟨g_65, h⟩ := z_ifo_some h
        refine r_is (pc' := 66) (L' := [(6, .int (((300 : Int32)) + (((6 : Int32)) * V_53))), (0, .ref 143), (1, .int X1), (2, .int X2), (3, .int X3), (4, .int X4), (5, .int X5)]) H_18 hq (z_at.mk 1 rfl rfl) (show zAr 144 0 2740 = true from rfl) (tx_iadd (rfl : (300 : Int32).toInt = 300) (tx_imul (rfl : (6 : Int32).toInt = 6) hV_53)) g_65 hx1 rfl rfl ?_
        intro m_65 H_65
        refine r_p hq 1 (pc' := 67) (L' := [(6, .int (((300 : Int32)) + (((6 : Int32)) * V_53))), (0, .ref 143), (1, .int X1), (2, .int X2), (3, .int X3), (4, .int X4), (5, .int X5)]) (st' := [.ref 143]) rfl ?_
        refine r_gR (b := 144) (pc' := 70) (L' := [(6, .int (((300 : Int32)) + (((6 : Int32)) * V_53))), (0, .ref 143), (1, .int X1), (2, .int X2), (3, .int X3), (4, .int X4), (5, .int X5)]) H_65 hq (z_at.mk 3 rfl rfl) rfl rfl rfl rfl ?_
        refine r_p hq 7 (pc' := 80) (L' := [(6, .int (((300 : Int32)) + (((6 : Int32)) * V_53))), (0, .ref 143), (1, .int X1), (2, .int X2), (3, .int X3), (4, .int X4), (5, .int X5)]) (st' := [.int X5, .int X4, .int X3, .int X2, .int ((((300 : Int32)) + (((6 : Int32)) * V_53)) + ((1 : Int32))), .ref 144]) rfl ?_
        obtain ⟨o_80, h_80, h⟩ := Option.bind_eq_some_iff.mp h
        refine r_csV (pc' := 83) (L' := [(6, .int (((300 : Int32)) + (((6 : Int32)) * V_53))), (0, .ref 143), (1, .int X1), (2, .int X2), (3, .int X3), (4, .int X4), (5, .int X5)]) (As := [.ref 144, .int ((((300 : Int32)) + (((6 : Int32)) * V_53)) + ((1 : Int32))), .int X2, .int X3, .int X4, .int X5]) (rest := []) (j := 165) hq (z_at.mk 3 rfl rfl) (Or.inl ⟨rfl, rfl⟩) rfl rfl (by omega) (g_m_sets_ok rfl (tx_iadd (tx_iadd (rfl : (300 : Int32).toInt = 300) (tx_imul (rfl : (6 : Int32).toInt = 6) hV_53)) (rfl : (1 : Int32).toInt = 1)) hx2 hx3 hx4 hx5 H_65 h_80) rfl rfl ?_
        intro m_80 p_80 e_80 H_80
        subst e_80
        refine r_p hq 1 (pc' := 84) (L' := [(6, .int (((300 : Int32)) + (((6 : Int32)) * V_53))), (0, .ref 143), (1, .int X1), (2, .int X2), (3, .int X3), (4, .int X4), (5, .int X5)]) (st' := [.ref 143]) rfl ?_
        refine r_gR (b := 144) (pc' := 87) (L' := [(6, .int (((300 : Int32)) + (((6 : Int32)) * V_53))), (0, .ref 143), (1, .int X1), (2, .int X2), (3, .int X3), (4, .int X4), (5, .int X5)]) H_80 hq (z_at.mk 3 rfl rfl) rfl rfl rfl rfl ?_
        refine r_p hq 4 (pc' := 92) (L' := [(6, .int (((300 : Int32)) + (((6 : Int32)) * V_53))), (0, .ref 143), (1, .int X1), (2, .int X2), (3, .int X3), (4, .int X4), (5, .int X5)]) (st' := [.int ((0 : Int32)), .int ((((300 : Int32)) + (((6 : Int32)) * V_53)) + ((5 : Int32))), .ref 144]) rfl ?_
        obtain ⟨g_92, h⟩ := z_ifo_some h
        refine r_is (pc' := 93) (L' := [(6, .int (((300 : Int32)) + (((6 : Int32)) * V_53))), (0, .ref 143), (1, .int X1), (2, .int X2), (3, .int X3), (4, .int X4), (5, .int X5)]) H_80 hq (z_at.mk 1 rfl rfl) (show zAr 144 0 2740 = true from rfl) (tx_iadd (tx_iadd (rfl : (300 : Int32).toInt = 300) (tx_imul (rfl : (6 : Int32).toInt = 6) hV_53)) (rfl : (5 : Int32).toInt = 5)) g_92 (rfl : (0 : Int32).toInt = 0) rfl rfl ?_
        intro m_92 H_92
        refine r_p hq 1 (pc' := 94) (L' := [(6, .int (((300 : Int32)) + (((6 : Int32)) * V_53))), (0, .ref 143), (1, .int X1), (2, .int X2), (3, .int X3), (4, .int X4), (5, .int X5)]) (st' := [.ref 143]) rfl ?_
        refine r_gR (b := 144) (pc' := 97) (L' := [(6, .int (((300 : Int32)) + (((6 : Int32)) * V_53))), (0, .ref 143), (1, .int X1), (2, .int X2), (3, .int X3), (4, .int X4), (5, .int X5)]) H_92 hq (z_at.mk 3 rfl rfl) rfl rfl rfl rfl ?_
        refine r_p hq 2 (pc' := 100) (L' := [(6, .int (((300 : Int32)) + (((6 : Int32)) * V_53))), (0, .ref 143), (1, .int X1), (2, .int X2), (3, .int X3), (4, .int X4), (5, .int X5)]) (st' := [.int ((10 : Int32)), .ref 144, .int ((10 : Int32)), .ref 144]) rfl ?_
        refine r_ia (pc' := 101) (L' := [(6, .int (((300 : Int32)) + (((6 : Int32)) * V_53))), (0, .ref 143), (1, .int X1), (2, .int X2), (3, .int X3), (4, .int X4), (5, .int X5)]) H_92 hq (z_at.mk 1 rfl rfl) (show zAr 144 0 2740 = true from rfl) (rfl : (10 : Int32).toInt = 10) ⟨by decide, by decide⟩ rfl rfl ?_
        intro V_100 hV_100
        refine r_p hq 2 (pc' := 103) (L' := [(6, .int (((300 : Int32)) + (((6 : Int32)) * V_53))), (0, .ref 143), (1, .int X1), (2, .int X2), (3, .int X3), (4, .int X4), (5, .int X5)]) (st' := [.int (V_100 + ((1 : Int32))), .int ((10 : Int32)), .ref 144]) rfl ?_
        refine r_is (pc' := 104) (L' := [(6, .int (((300 : Int32)) + (((6 : Int32)) * V_53))), (0, .ref 143), (1, .int X1), (2, .int X2), (3, .int X3), (4, .int X4), (5, .int X5)]) H_92 hq (z_at.mk 1 rfl rfl) (show zAr 144 0 2740 = true from rfl) (rfl : (10 : Int32).toInt = 10) ⟨by decide, by decide⟩ (tx_iadd hV_100 (rfl : (1 : Int32).toInt = 1)) rfl rfl ?_
        intro m_103 H_103
        refine r_p hq 1 (pc' := 105) (L' := [(6, .int (((300 : Int32)) + (((6 : Int32)) * V_53))), (0, .ref 143), (1, .int X1), (2, .int X2), (3, .int X3), (4, .int X4), (5, .int X5)]) (st' := [.ref 143]) rfl ?_
        refine r_gR (b := 144) (pc' := 108) (L' := [(6, .int (((300 : Int32)) + (((6 : Int32)) * V_53))), (0, .ref 143), (1, .int X1), (2, .int X2), (3, .int X3), (4, .int X4), (5, .int X5)]) H_103 hq (z_at.mk 3 rfl rfl) rfl rfl rfl rfl ?_
        refine r_p hq 1 (pc' := 110) (L' := [(6, .int (((300 : Int32)) + (((6 : Int32)) * V_53))), (0, .ref 143), (1, .int X1), (2, .int X2), (3, .int X3), (4, .int X4), (5, .int X5)]) (st' := [.int ((10 : Int32)), .ref 144]) rfl ?_
        refine r_ia (pc' := 111) (L' := [(6, .int (((300 : Int32)) + (((6 : Int32)) * V_53))), (0, .ref 143), (1, .int X1), (2, .int X2), (3, .int X3), (4, .int X4), (5, .int X5)]) H_103 hq (z_at.mk 1 rfl rfl) (show zAr 144 0 2740 = true from rfl) (rfl : (10 : Int32).toInt = 10) ⟨by decide, by decide⟩ rfl rfl ?_
        intro V_110 hV_110
        refine r_p hq 2 (pc' := 113) (L' := [(6, .int (((300 : Int32)) + (((6 : Int32)) * V_53))), (0, .ref 143), (1, .int X1), (2, .int X2), (3, .int X3), (4, .int X4), (5, .int X5)]) (st' := [.int (V_110 - ((1 : Int32)))]) rfl ?_
        cases h
        exact r_ri hq (z_at.mk 1 rfl rfl) rfl rfl (tx_isub hV_110 (rfl : (1 : Int32).toInt = 1)) rfl H_103
      · refine r_f2 (pc' := 39) (L' := [(0, .ref 143), (1, .int X1), (2, .int X2), (3, .int X3), (4, .int X4), (5, .int X5)]) hq (z_at.mk 3 rfl rfl) rfl hV_33 (rfl : (6 : Int32).toInt = 6) c_36 rfl rfl ?_
        refine r_p hq 1 (pc' := 41) (L' := [(0, .ref 143), (1, .int X1), (2, .int X2), (3, .int X3), (4, .int X4), (5, .int X5)]) (st' := [.int ((-4 : Int32))]) rfl ?_
        cases h
        exact r_ri hq (z_at.mk 1 rfl rfl) rfl rfl (rfl : (-4 : Int32).toInt = -4) rfl H_18
    · refine r_f1 (pc' := 24) (L' := [(0, .ref 143), (1, .int X1), (2, .int X2), (3, .int X3), (4, .int X4), (5, .int X5)]) hq (z_at.mk 3 rfl rfl) rfl hR_18 c_21 rfl rfl ?_
      refine r_p hq 1 (pc' := 26) (L' := [(0, .ref 143), (1, .int X1), (2, .int X2), (3, .int X3), (4, .int X4), (5, .int X5)]) (st' := [.int ((-2 : Int32))]) rfl ?_
      cases h
      exact r_ri hq (z_at.mk 1 rfl rfl) rfl rfl (rfl : (-2 : Int32).toInt = -2) rfl H_18
  · refine r_f1 (pc' := 10) (L' := [(0, .ref 143), (1, .int X1), (2, .int X2), (3, .int X3), (4, .int X4), (5, .int X5)]) hq (z_at.mk 3 rfl rfl) rfl hR_4 c_7 rfl rfl ?_
    refine r_p hq 1 (pc' := 11) (L' := [(0, .ref 143), (1, .int X1), (2, .int X2), (3, .int X3), (4, .int X4), (5, .int X5)]) (st' := [.int ((-1 : Int32))]) rfl ?_
    cases h
    exact r_ri hq (z_at.mk 1 rfl rfl) rfl rfl (rfl : (-1 : Int32).toInt = -1) rfl H_4
def g_m_changes (x1 : Int) (σ : zS) : Option (Int × zS) :=
  (g_m_isWatch x1 σ).bind fun o_2 =>
  if o_2.1 = 0 then
    some (-1, o_2.2)
  else
    if 0 ≤ w32 ((w32 (300 + (w32 (6 * x1)))) + 5) ∧ w32 ((w32 (300 + (w32 (6 * x1)))) + 5) < 2740 then
    let v_22 := o_2.2 144 (w32 ((w32 (300 + (w32 (6 * x1)))) + 5))
    some (v_22, o_2.2)
    else none
set_option maxHeartbeats 4000000 in
theorem g_m_changes_ok {xl : Nat} {xs : Nat → Int32} {X1 : Int32} {x1 : Int} (hx1 : X1.toInt = x1) {σ : zS} {p : Nat} {m : zM} {o : Int × zS} (H : zRep xl xs p m σ) (h : g_m_changes x1 σ = some o) : zGo xl xs (fun p' => p = p') 3 261 0 (z_can 261 0 (lv_args 0 [.ref 143, .int X1])) [] m (vI o.1) o.2 := by
  have hq : z_mth 261 = some z_r261 := rfl
  unfold g_m_changes at h
  show zGo xl xs (fun p' => p = p') 3 261 0 [(0, .ref 143), (1, .int X1)] [] m (vI o.1) o.2
  refine r_p hq 2 (pc' := 2) (L' := [(0, .ref 143), (1, .int X1)]) (st' := [.int X1, .ref 143]) rfl ?_
  obtain ⟨o_2, h_2, h⟩ := Option.bind_eq_some_iff.mp h
  refine r_cvI (pc' := 5) (L' := [(0, .ref 143), (1, .int X1)]) (Ps := [.int X1]) (rest := []) hq (z_at.mk 3 rfl rfl) (Or.inl ⟨rfl, rfl⟩) rfl rfl (by decide) (by decide) rfl (Nat.not_lt.mpr (Nat.le_of_ble_eq_true rfl)) rfl rfl (z_cat_le 0 rfl (by decide)) (z_lgl_le 2 rfl (by decide)) (by decide) (H.tg rfl) (by omega) (g_m_isWatch_ok hx1 H h_2) rfl rfl ?_
  intro R_2 m_2 p_2 e_2 hR_2 H_2
  subst e_2
  rcases z_ite h with ⟨c_5, h⟩ | ⟨c_5, h⟩
  · refine r_t1 (pc' := 26) (L' := [(0, .ref 143), (1, .int X1)]) hq (z_at.mk 3 rfl rfl) rfl hR_2 c_5 rfl rfl ?_
    refine r_p hq 1 (pc' := 27) (L' := []) (st' := [.int ((-1 : Int32))]) rfl ?_
    cases h
    exact r_ri hq (z_at.mk 1 rfl rfl) rfl rfl (rfl : (-1 : Int32).toInt = -1) rfl H_2
  · refine r_f1 (pc' := 8) (L' := [(0, .ref 143), (1, .int X1)]) hq (z_at.mk 3 rfl rfl) rfl hR_2 c_5 rfl rfl ?_
    refine r_p hq 1 (pc' := 9) (L' := [(0, .ref 143), (1, .int X1)]) (st' := [.ref 143]) rfl ?_
    refine r_gR (b := 144) (pc' := 12) (L' := [(0, .ref 143), (1, .int X1)]) H_2 hq (z_at.mk 3 rfl rfl) rfl rfl rfl rfl ?_
    refine r_p hq 7 (pc' := 22) (L' := [(0, .ref 143), (1, .int X1)]) (st' := [.int ((((300 : Int32)) + (((6 : Int32)) * X1)) + ((5 : Int32))), .ref 144]) rfl ?_
    obtain ⟨g_22, h⟩ := z_ifo_some h
    refine r_ia (pc' := 23) (L' := [(0, .ref 143), (1, .int X1)]) H_2 hq (z_at.mk 1 rfl rfl) (show zAr 144 0 2740 = true from rfl) (tx_iadd (tx_iadd (rfl : (300 : Int32).toInt = 300) (tx_imul (rfl : (6 : Int32).toInt = 6) hx1)) (rfl : (5 : Int32).toInt = 5)) g_22 rfl rfl ?_
    intro V_22 hV_22
    refine r_p hq 1 (pc' := 27) (L' := []) (st' := [.int V_22]) rfl ?_
    cases h
    exact r_ri hq (z_at.mk 1 rfl rfl) rfl rfl hV_22 rfl H_2
def g_m_isList (x0 : Int) (σ : zS) : Option (Int × zS) :=
  (g_m_isIn x0 0 5 σ).bind fun o_3 =>
  if o_3.1 = 0 ∨ o_3.1 = 1 then some (o_3.1, o_3.2) else none
set_option maxHeartbeats 4000000 in
theorem g_m_isList_ok {xl : Nat} {xs : Nat → Int32} {X0 : Int32} {x0 : Int} (hx0 : X0.toInt = x0) {σ : zS} {p : Nat} {m : zM} {o : Int × zS} (H : zRep xl xs p m σ) (h : g_m_isList x0 σ = some o) : zGo xl xs (fun p' => p = p') 2 262 0 (z_can 262 0 (lv_args 0 [.int X0])) [] m (vI o.1) o.2 := by
  have hq : z_mth 262 = some z_r262 := rfl
  unfold g_m_isList at h
  show zGo xl xs (fun p' => p = p') 2 262 0 [(0, .int X0)] [] m (vI o.1) o.2
  refine r_p hq 3 (pc' := 3) (L' := [(0, .int X0)]) (st' := [.int ((5 : Int32)), .int ((0 : Int32)), .int X0]) rfl ?_
  obtain ⟨o_3, h_3, h⟩ := Option.bind_eq_some_iff.mp h
  refine r_csI (pc' := 6) (L' := [(0, .int X0)]) (As := [.int X0, .int ((0 : Int32)), .int ((5 : Int32))]) (rest := []) (j := 159) hq (z_at.mk 3 rfl rfl) (Or.inl ⟨rfl, rfl⟩) rfl rfl (by omega) (g_m_isIn_ok hx0 (rfl : (0 : Int32).toInt = 0) (rfl : (5 : Int32).toInt = 5) H h_3) rfl rfl ?_
  intro R_3 m_3 p_3 e_3 hR_3 H_3
  subst e_3
  obtain ⟨g_6, h⟩ := z_if_some h
  cases h
  exact r_ri hq (z_at.mk 1 rfl rfl) rfl (z_rty_bo hR_3 g_6) hR_3 rfl H_3
def g_m_wrong (x1 : Int) (σ : zS) : Option (Int × zS) :=
  (g_m_isList x1 σ).bind fun o_1 =>
  if o_1.1 ≠ 0 then
    if 0 ≤ x1 ∧ x1 < 6 then
    let v_16 := o_1.2 166 x1
    if 0 ≤ v_16 then
      some (0, o_1.2)
    else
      some (-11, o_1.2)
    else none
  else
    some (-1, o_1.2)
set_option maxHeartbeats 4000000 in
theorem g_m_wrong_ok {xl : Nat} {xs : Nat → Int32} {X1 : Int32} {x1 : Int} (hx1 : X1.toInt = x1) {σ : zS} {p : Nat} {m : zM} {o : Int × zS} (H : zRep xl xs p m σ) (h : g_m_wrong x1 σ = some o) : zGo xl xs (fun p' => p = p') 3 263 0 (z_can 263 0 (lv_args 0 [.ref 143, .int X1])) [] m (vI o.1) o.2 := by
  have hq : z_mth 263 = some z_r263 := rfl
  unfold g_m_wrong at h
  show zGo xl xs (fun p' => p = p') 3 263 0 [(0, .ref 143), (1, .int X1)] [] m (vI o.1) o.2
  refine r_p hq 1 (pc' := 1) (L' := [(0, .ref 143), (1, .int X1)]) (st' := [.int X1]) rfl ?_
  obtain ⟨o_1, h_1, h⟩ := Option.bind_eq_some_iff.mp h
  refine r_csI (pc' := 4) (L' := [(0, .ref 143), (1, .int X1)]) (As := [.int X1]) (rest := []) (j := 262) hq (z_at.mk 3 rfl rfl) (Or.inl ⟨rfl, rfl⟩) rfl rfl (by omega) (g_m_isList_ok hx1 H h_1) rfl rfl ?_
  intro R_1 m_1 p_1 e_1 hR_1 H_1
  subst e_1
  rcases z_ite h with ⟨c_4, h⟩ | ⟨c_4, h⟩
  · refine r_t1 (pc' := 11) (L' := [(0, .ref 143), (1, .int X1)]) hq (z_at.mk 3 rfl rfl) rfl hR_1 c_4 rfl rfl ?_
    refine r_p hq 1 (pc' := 12) (L' := [(0, .ref 143), (1, .int X1)]) (st' := [.ref 143]) rfl ?_
    refine r_gR (b := 166) (pc' := 15) (L' := [(0, .ref 143), (1, .int X1)]) H_1 hq (z_at.mk 3 rfl rfl) rfl rfl rfl rfl ?_
    refine r_p hq 1 (pc' := 16) (L' := [(0, .ref 143), (1, .int X1)]) (st' := [.int X1, .ref 166]) rfl ?_
    obtain ⟨g_16, h⟩ := z_ifo_some h
    refine r_ia (pc' := 17) (L' := [(0, .ref 143), (1, .int X1)]) H_1 hq (z_at.mk 1 rfl rfl) (show zAr 166 0 6 = true from rfl) hx1 g_16 rfl rfl ?_
    intro V_16 hV_16
    rcases z_ite h with ⟨c_17, h⟩ | ⟨c_17, h⟩
    · refine r_t1 (pc' := 25) (L' := [(0, .ref 143), (1, .int X1)]) hq (z_at.mk 3 rfl rfl) rfl hV_16 c_17 rfl rfl ?_
      refine r_p hq 1 (pc' := 26) (L' := []) (st' := [.int ((0 : Int32))]) rfl ?_
      cases h
      exact r_ri hq (z_at.mk 1 rfl rfl) rfl rfl (rfl : (0 : Int32).toInt = 0) rfl H_1
    · refine r_f1 (pc' := 20) (L' := [(0, .ref 143), (1, .int X1)]) hq (z_at.mk 3 rfl rfl) rfl hV_16 c_17 rfl rfl ?_
      refine r_p hq 2 (pc' := 26) (L' := []) (st' := [.int ((-11 : Int32))]) rfl ?_
      cases h
      exact r_ri hq (z_at.mk 1 rfl rfl) rfl rfl (rfl : (-11 : Int32).toInt = -11) rfl H_1
  · refine r_f1 (pc' := 7) (L' := [(0, .ref 143), (1, .int X1)]) hq (z_at.mk 3 rfl rfl) rfl hR_1 c_4 rfl rfl ?_
    refine r_p hq 2 (pc' := 26) (L' := []) (st' := [.int ((-1 : Int32))]) rfl ?_
    cases h
    exact r_ri hq (z_at.mk 1 rfl rfl) rfl rfl (rfl : (-1 : Int32).toInt = -1) rfl H_1
def g_m_list_L34 : Nat → Int → Int → zS → Option (Int × zS)
  | 0, _, _, _ => none
  | n + 1, x1, x3, σ =>
    if 60 ≤ x3 then
      some (1, σ)
    else
      if 0 ≤ w32 ((w32 (60 * x1)) + x3) ∧ w32 ((w32 (60 * x1)) + x3) < 360 then
      let s_51 := zu σ 167 (w32 ((w32 (60 * x1)) + x3)) 0
      (g_m_list_L34 n) x1 (w32 (x3 + 1)) s_51
      else none
set_option maxHeartbeats 4000000 in
theorem g_m_list_L34_ok {xl : Nat} {xs : Nat → Int32} : ∀ (n : Nat) {X1 : Int32} {x1 : Int} {X3 : Int32} {x3 : Int} {σ : zS} {p : Nat} {m : zM} {o : Int × zS}, X1.toInt = x1 → X3.toInt = x3 → zRep xl xs p m σ → g_m_list_L34 n x1 x3 σ = some o → zGo xl xs (fun p' => p = p') 3 264 34 [(0, .ref 143), (1, .int X1), (3, .int X3)] [] m (vI o.1) o.2
  | 0, _, _, _, _, _, _, _, _, _, _, _, h => by cases h
  | n + 1, X1, x1, X3, x3, σ, p, m, o, hx1, hx3, H, h => by
    have hq : z_mth 264 = some z_r264 := rfl
    have ih := fun {X1 : Int32} {x1 : Int} {X3 : Int32} {x3 : Int} {σ : zS} {p : Nat} {m : zM} {o : Int × zS} => g_m_list_L34_ok (xl := xl) (xs := xs) n (X1 := X1) (x1 := x1) (X3 := X3) (x3 := x3) (σ := σ) (p := p) (m := m) (o := o)
    unfold g_m_list_L34 at h
    refine r_p hq 2 (pc' := 37) (L' := [(0, .ref 143), (1, .int X1), (3, .int X3)]) (st' := [.int ((60 : Int32)), .int X3]) rfl ?_
    rcases z_ite h with ⟨c_37, h⟩ | ⟨c_37, h⟩
    · refine r_t2 (pc' := 58) (L' := [(0, .ref 143), (1, .int X1), (3, .int X3)]) hq (z_at.mk 3 rfl rfl) rfl hx3 (rfl : (60 : Int32).toInt = 60) c_37 rfl rfl ?_
      refine r_p hq 1 (pc' := 59) (L' := [(0, .ref 143), (1, .int X1), (3, .int X3)]) (st' := [.int ((1 : Int32))]) rfl ?_
      cases h
      exact r_ri hq (z_at.mk 1 rfl rfl) rfl rfl (rfl : (1 : Int32).toInt = 1) rfl H
    · refine r_f2 (pc' := 40) (L' := [(0, .ref 143), (1, .int X1), (3, .int X3)]) hq (z_at.mk 3 rfl rfl) rfl hx3 (rfl : (60 : Int32).toInt = 60) c_37 rfl rfl ?_
      refine r_p hq 1 (pc' := 41) (L' := [(0, .ref 143), (1, .int X1), (3, .int X3)]) (st' := [.ref 143]) rfl ?_
      refine r_gR (b := 167) (pc' := 44) (L' := [(0, .ref 143), (1, .int X1), (3, .int X3)]) H hq (z_at.mk 3 rfl rfl) rfl rfl rfl rfl ?_
      refine r_p hq 6 (pc' := 51) (L' := [(0, .ref 143), (1, .int X1), (3, .int X3)]) (st' := [.long ((0 : Int64)), .int ((((60 : Int32)) * X1) + X3), .ref 167]) rfl ?_
      obtain ⟨g_51, h⟩ := z_ifo_some h
      refine r_ls (pc' := 52) (L' := [(0, .ref 143), (1, .int X1), (3, .int X3)]) H hq (z_at.mk 1 rfl rfl) (show zAr 167 1 360 = true from rfl) (tx_iadd (tx_imul (rfl : (60 : Int32).toInt = 60) hx1) hx3) g_51 (rfl : (0 : Int64).toInt = 0) rfl rfl ?_
      intro m_51 H_51
      refine r_p hq 2 (pc' := 34) (L' := [(0, .ref 143), (1, .int X1), (3, .int (X3 + (1 : Int32)))]) (st' := []) rfl ?_
      exact ih hx1 (tx_iadd hx3 (rfl : (1 : Int32).toInt = 1)) H_51 h
def g_m_list (x1 : Int) (x2 : Int) (σ : zS) : Option (Int × zS) :=
  (g_m_isList x1 σ).bind fun o_1 =>
  if o_1.1 ≠ 0 then
    if x2 ≤ 60 then
      if 0 ≤ x2 then
        if 0 ≤ x1 ∧ x1 < 6 then
        let s_31 := zu o_1.2 166 x1 x2
        g_m_list_L34 zK x1 0 s_31
        else none
      else
        some (-14, o_1.2)
    else
      some (-2, o_1.2)
  else
    some (-1, o_1.2)
set_option maxHeartbeats 4000000 in
theorem g_m_list_ok {xl : Nat} {xs : Nat → Int32} {X1 : Int32} {x1 : Int} (hx1 : X1.toInt = x1) {X2 : Int32} {x2 : Int} (hx2 : X2.toInt = x2) {σ : zS} {p : Nat} {m : zM} {o : Int × zS} (H : zRep xl xs p m σ) (h : g_m_list x1 x2 σ = some o) : zGo xl xs (fun p' => p = p') 3 264 0 (z_can 264 0 (lv_args 0 [.ref 143, .int X1, .int X2])) [] m (vI o.1) o.2 := by
  have hq : z_mth 264 = some z_r264 := rfl
  unfold g_m_list at h
  show zGo xl xs (fun p' => p = p') 3 264 0 [(0, .ref 143), (1, .int X1), (2, .int X2)] [] m (vI o.1) o.2
  refine r_p hq 1 (pc' := 1) (L' := [(0, .ref 143), (1, .int X1), (2, .int X2)]) (st' := [.int X1]) rfl ?_
  obtain ⟨o_1, h_1, h⟩ := Option.bind_eq_some_iff.mp h
  refine r_csI (pc' := 4) (L' := [(0, .ref 143), (1, .int X1), (2, .int X2)]) (As := [.int X1]) (rest := []) (j := 262) hq (z_at.mk 3 rfl rfl) (Or.inl ⟨rfl, rfl⟩) rfl rfl (by omega) (g_m_isList_ok hx1 H h_1) rfl rfl ?_
  intro R_1 m_1 p_1 e_1 hR_1 H_1
  subst e_1
  rcases z_ite h with ⟨c_4, h⟩ | ⟨c_4, h⟩
  · refine r_t1 (pc' := 9) (L' := [(0, .ref 143), (1, .int X1), (2, .int X2)]) hq (z_at.mk 3 rfl rfl) rfl hR_1 c_4 rfl rfl ?_
    refine r_p hq 2 (pc' := 12) (L' := [(0, .ref 143), (1, .int X1), (2, .int X2)]) (st' := [.int ((60 : Int32)), .int X2]) rfl ?_
    rcases z_ite h with ⟨c_12, h⟩ | ⟨c_12, h⟩
    · refine r_t2 (pc' := 18) (L' := [(0, .ref 143), (1, .int X1), (2, .int X2)]) hq (z_at.mk 3 rfl rfl) rfl hx2 (rfl : (60 : Int32).toInt = 60) c_12 rfl rfl ?_
      refine r_p hq 1 (pc' := 19) (L' := [(0, .ref 143), (1, .int X1), (2, .int X2)]) (st' := [.int X2]) rfl ?_
      rcases z_ite h with ⟨c_19, h⟩ | ⟨c_19, h⟩
      · refine r_t1 (pc' := 25) (L' := [(0, .ref 143), (1, .int X1), (2, .int X2)]) hq (z_at.mk 3 rfl rfl) rfl hx2 c_19 rfl rfl ?_
        refine r_p hq 1 (pc' := 26) (L' := [(0, .ref 143), (1, .int X1), (2, .int X2)]) (st' := [.ref 143]) rfl ?_
        refine r_gR (b := 166) (pc' := 29) (L' := [(0, .ref 143), (1, .int X1), (2, .int X2)]) H_1 hq (z_at.mk 3 rfl rfl) rfl rfl rfl rfl ?_
        refine r_p hq 2 (pc' := 31) (L' := [(0, .ref 143), (1, .int X1), (2, .int X2)]) (st' := [.int X2, .int X1, .ref 166]) rfl ?_
        obtain ⟨g_31, h⟩ := z_ifo_some h
        refine r_is (pc' := 32) (L' := [(0, .ref 143), (1, .int X1), (2, .int X2)]) H_1 hq (z_at.mk 1 rfl rfl) (show zAr 166 0 6 = true from rfl) hx1 g_31 hx2 rfl rfl ?_
        intro m_31 H_31
        refine r_p hq 2 (pc' := 34) (L' := [(0, .ref 143), (1, .int X1), (3, .int ((0 : Int32)))]) (st' := []) rfl ?_
        exact g_m_list_L34_ok zK hx1 (rfl : (0 : Int32).toInt = 0) H_31 h
      · refine r_f1 (pc' := 22) (L' := [(0, .ref 143), (1, .int X1), (2, .int X2)]) hq (z_at.mk 3 rfl rfl) rfl hx2 c_19 rfl rfl ?_
        refine r_p hq 1 (pc' := 24) (L' := [(0, .ref 143), (1, .int X1), (2, .int X2)]) (st' := [.int ((-14 : Int32))]) rfl ?_
        cases h
        exact r_ri hq (z_at.mk 1 rfl rfl) rfl rfl (rfl : (-14 : Int32).toInt = -14) rfl H_1
    · refine r_f2 (pc' := 15) (L' := [(0, .ref 143), (1, .int X1), (2, .int X2)]) hq (z_at.mk 3 rfl rfl) rfl hx2 (rfl : (60 : Int32).toInt = 60) c_12 rfl rfl ?_
      refine r_p hq 1 (pc' := 17) (L' := [(0, .ref 143), (1, .int X1), (2, .int X2)]) (st' := [.int ((-2 : Int32))]) rfl ?_
      cases h
      exact r_ri hq (z_at.mk 1 rfl rfl) rfl rfl (rfl : (-2 : Int32).toInt = -2) rfl H_1
  · refine r_f1 (pc' := 7) (L' := [(0, .ref 143), (1, .int X1), (2, .int X2)]) hq (z_at.mk 3 rfl rfl) rfl hR_1 c_4 rfl rfl ?_
    refine r_p hq 1 (pc' := 8) (L' := [(0, .ref 143), (1, .int X1), (2, .int X2)]) (st' := [.int ((-1 : Int32))]) rfl ?_
    cases h
    exact r_ri hq (z_at.mk 1 rfl rfl) rfl rfl (rfl : (-1 : Int32).toInt = -1) rfl H_1
def g_m_set (x1 : Int) (x2 : Int) (y3 : Int) (σ : zS) : Option (Int × zS) :=
  (g_m_wrong x1 σ).bind fun o_2 =>
  if o_2.1 = 0 then
    if 0 ≤ x1 ∧ x1 < 6 then
    let v_22 := o_2.2 166 x1
    (g_m_isIn x2 0 (w32 (v_22 - 1)) o_2.2).bind fun o_25 =>
    if o_25.1 ≠ 0 then
      if 0 ≤ w32 ((w32 (60 * x1)) + x2) ∧ w32 ((w32 (60 * x1)) + x2) < 360 then
      let s_45 := zu o_25.2 167 (w32 ((w32 (60 * x1)) + x2)) y3
      some (1, s_45)
      else none
    else
      some (-13, o_25.2)
    else none
  else
    some (o_2.1, o_2.2)
set_option maxHeartbeats 4000000 in
theorem g_m_set_ok {xl : Nat} {xs : Nat → Int32} {X1 : Int32} {x1 : Int} (hx1 : X1.toInt = x1) {X2 : Int32} {x2 : Int} (hx2 : X2.toInt = x2) {Y3 : Int64} {y3 : Int} (hy3 : Y3.toInt = y3) {σ : zS} {p : Nat} {m : zM} {o : Int × zS} (H : zRep xl xs p m σ) (h : g_m_set x1 x2 y3 σ = some o) : zGo xl xs (fun p' => p = p') 4 265 0 (z_can 265 0 (lv_args 0 [.ref 143, .int X1, .int X2, .long Y3])) [] m (vI o.1) o.2 := by
  have hq : z_mth 265 = some z_r265 := rfl
  unfold g_m_set at h
  show zGo xl xs (fun p' => p = p') 4 265 0 [(0, .ref 143), (1, .int X1), (2, .int X2), (3, .long Y3)] [] m (vI o.1) o.2
  refine r_p hq 2 (pc' := 2) (L' := [(0, .ref 143), (1, .int X1), (2, .int X2), (3, .long Y3)]) (st' := [.int X1, .ref 143]) rfl ?_
  obtain ⟨o_2, h_2, h⟩ := Option.bind_eq_some_iff.mp h
  refine r_cvI (pc' := 5) (L' := [(0, .ref 143), (1, .int X1), (2, .int X2), (3, .long Y3)]) (Ps := [.int X1]) (rest := []) hq (z_at.mk 3 rfl rfl) (Or.inl ⟨rfl, rfl⟩) rfl rfl (by decide) (by decide) rfl (Nat.not_lt.mpr (Nat.le_of_ble_eq_true rfl)) rfl rfl (z_cat_le 0 rfl (by decide)) (z_lgl_le 2 rfl (by decide)) (by decide) (H.tg rfl) (by omega) (g_m_wrong_ok hx1 H h_2) rfl rfl ?_
  intro R_2 m_2 p_2 e_2 hR_2 H_2
  subst e_2
  refine r_p hq 2 (pc' := 9) (L' := [(5, .int R_2), (0, .ref 143), (1, .int X1), (2, .int X2), (3, .long Y3)]) (st' := [.int R_2]) rfl ?_
  rcases z_ite h with ⟨c_9, h⟩ | ⟨c_9, h⟩
  · refine r_t1 (pc' := 15) (L' := [(5, .int R_2), (0, .ref 143), (1, .int X1), (2, .int X2), (3, .long Y3)]) hq (z_at.mk 3 rfl rfl) rfl hR_2 c_9 rfl rfl ?_
    refine r_p hq 3 (pc' := 18) (L' := [(5, .int R_2), (0, .ref 143), (1, .int X1), (2, .int X2), (3, .long Y3)]) (st' := [.ref 143, .int ((0 : Int32)), .int X2]) rfl ?_
    refine r_gR (b := 166) (pc' := 21) (L' := [(5, .int R_2), (0, .ref 143), (1, .int X1), (2, .int X2), (3, .long Y3)]) H_2 hq (z_at.mk 3 rfl rfl) rfl rfl rfl rfl ?_
    refine r_p hq 1 (pc' := 22) (L' := [(5, .int R_2), (0, .ref 143), (1, .int X1), (2, .int X2), (3, .long Y3)]) (st' := [.int X1, .ref 166, .int ((0 : Int32)), .int X2]) rfl ?_
    obtain ⟨g_22, h⟩ := z_ifo_some h
    refine r_ia (pc' := 23) (L' := [(5, .int R_2), (0, .ref 143), (1, .int X1), (2, .int X2), (3, .long Y3)]) H_2 hq (z_at.mk 1 rfl rfl) (show zAr 166 0 6 = true from rfl) hx1 g_22 rfl rfl ?_
    intro V_22 hV_22
    refine r_p hq 2 (pc' := 25) (L' := [(5, .int R_2), (0, .ref 143), (1, .int X1), (2, .int X2), (3, .long Y3)]) (st' := [.int (V_22 - ((1 : Int32))), .int ((0 : Int32)), .int X2]) rfl ?_
    obtain ⟨o_25, h_25, h⟩ := Option.bind_eq_some_iff.mp h
    refine r_csI (pc' := 28) (L' := [(5, .int R_2), (0, .ref 143), (1, .int X1), (2, .int X2), (3, .long Y3)]) (As := [.int X2, .int ((0 : Int32)), .int (V_22 - ((1 : Int32)))]) (rest := []) (j := 159) hq (z_at.mk 3 rfl rfl) (Or.inl ⟨rfl, rfl⟩) rfl rfl (by omega) (g_m_isIn_ok hx2 (rfl : (0 : Int32).toInt = 0) (tx_isub hV_22 (rfl : (1 : Int32).toInt = 1)) H_2 h_25) rfl rfl ?_
    intro R_25 m_25 p_25 e_25 hR_25 H_25
    subst e_25
    rcases z_ite h with ⟨c_28, h⟩ | ⟨c_28, h⟩
    · refine r_t1 (pc' := 34) (L' := [(5, .int R_2), (0, .ref 143), (1, .int X1), (2, .int X2), (3, .long Y3)]) hq (z_at.mk 3 rfl rfl) rfl hR_25 c_28 rfl rfl ?_
      refine r_p hq 1 (pc' := 35) (L' := [(5, .int R_2), (0, .ref 143), (1, .int X1), (2, .int X2), (3, .long Y3)]) (st' := [.ref 143]) rfl ?_
      refine r_gR (b := 167) (pc' := 38) (L' := [(5, .int R_2), (0, .ref 143), (1, .int X1), (2, .int X2), (3, .long Y3)]) H_25 hq (z_at.mk 3 rfl rfl) rfl rfl rfl rfl ?_
      refine r_p hq 6 (pc' := 45) (L' := [(5, .int R_2), (0, .ref 143), (1, .int X1), (2, .int X2), (3, .long Y3)]) (st' := [.long Y3, .int ((((60 : Int32)) * X1) + X2), .ref 167]) rfl ?_
      obtain ⟨g_45, h⟩ := z_ifo_some h
      refine r_ls (pc' := 46) (L' := [(5, .int R_2), (0, .ref 143), (1, .int X1), (2, .int X2), (3, .long Y3)]) H_25 hq (z_at.mk 1 rfl rfl) (show zAr 167 1 360 = true from rfl) (tx_iadd (tx_imul (rfl : (60 : Int32).toInt = 60) hx1) hx2) g_45 hy3 rfl rfl ?_
      intro m_45 H_45
      refine r_p hq 1 (pc' := 47) (L' := [(5, .int R_2), (0, .ref 143), (1, .int X1), (2, .int X2), (3, .long Y3)]) (st' := [.int ((1 : Int32))]) rfl ?_
      cases h
      exact r_ri hq (z_at.mk 1 rfl rfl) rfl rfl (rfl : (1 : Int32).toInt = 1) rfl H_45
    · refine r_f1 (pc' := 31) (L' := [(5, .int R_2), (0, .ref 143), (1, .int X1), (2, .int X2), (3, .long Y3)]) hq (z_at.mk 3 rfl rfl) rfl hR_25 c_28 rfl rfl ?_
      refine r_p hq 1 (pc' := 33) (L' := [(5, .int R_2), (0, .ref 143), (1, .int X1), (2, .int X2), (3, .long Y3)]) (st' := [.int ((-13 : Int32))]) rfl ?_
      cases h
      exact r_ri hq (z_at.mk 1 rfl rfl) rfl rfl (rfl : (-13 : Int32).toInt = -13) rfl H_25
  · refine r_f1 (pc' := 12) (L' := [(5, .int R_2), (0, .ref 143), (1, .int X1), (2, .int X2), (3, .long Y3)]) hq (z_at.mk 3 rfl rfl) rfl hR_2 c_9 rfl rfl ?_
    refine r_p hq 1 (pc' := 14) (L' := [(5, .int R_2), (0, .ref 143), (1, .int X1), (2, .int X2), (3, .long Y3)]) (st' := [.int R_2]) rfl ?_
    cases h
    exact r_ri hq (z_at.mk 1 rfl rfl) rfl rfl hR_2 rfl H_2
def g_m_get (x1 : Int) (x2 : Int) (σ : zS) : Option (Int × zS) :=
  (g_m_wrong x1 σ).bind fun o_2 =>
  if o_2.1 ≠ 0 then
    some (-9223372036854775808, o_2.2)
  else
    if 0 ≤ x1 ∧ x1 < 6 then
    let v_15 := o_2.2 166 x1
    (g_m_isIn x2 0 (w32 (v_15 - 1)) o_2.2).bind fun o_18 =>
    if o_18.1 ≠ 0 then
      if 0 ≤ w32 ((w32 (60 * x1)) + x2) ∧ w32 ((w32 (60 * x1)) + x2) < 360 then
      let v_40 := o_18.2 167 (w32 ((w32 (60 * x1)) + x2))
      some (v_40, o_18.2)
      else none
    else
      some (-9223372036854775808, o_18.2)
    else none
set_option maxHeartbeats 4000000 in
theorem g_m_get_ok {xl : Nat} {xs : Nat → Int32} {X1 : Int32} {x1 : Int} (hx1 : X1.toInt = x1) {X2 : Int32} {x2 : Int} (hx2 : X2.toInt = x2) {σ : zS} {p : Nat} {m : zM} {o : Int × zS} (H : zRep xl xs p m σ) (h : g_m_get x1 x2 σ = some o) : zGo xl xs (fun p' => p = p') 4 266 0 (z_can 266 0 (lv_args 0 [.ref 143, .int X1, .int X2])) [] m (vL o.1) o.2 := by
  have hq : z_mth 266 = some z_r266 := rfl
  unfold g_m_get at h
  show zGo xl xs (fun p' => p = p') 4 266 0 [(0, .ref 143), (1, .int X1), (2, .int X2)] [] m (vL o.1) o.2
  refine r_p hq 2 (pc' := 2) (L' := [(0, .ref 143), (1, .int X1), (2, .int X2)]) (st' := [.int X1, .ref 143]) rfl ?_
  obtain ⟨o_2, h_2, h⟩ := Option.bind_eq_some_iff.mp h
  refine r_cvI (pc' := 5) (L' := [(0, .ref 143), (1, .int X1), (2, .int X2)]) (Ps := [.int X1]) (rest := []) hq (z_at.mk 3 rfl rfl) (Or.inl ⟨rfl, rfl⟩) rfl rfl (by decide) (by decide) rfl (Nat.not_lt.mpr (Nat.le_of_ble_eq_true rfl)) rfl rfl (z_cat_le 0 rfl (by decide)) (z_lgl_le 2 rfl (by decide)) (by decide) (H.tg rfl) (by omega) (g_m_wrong_ok hx1 H h_2) rfl rfl ?_
  intro R_2 m_2 p_2 e_2 hR_2 H_2
  subst e_2
  rcases z_ite h with ⟨c_5, h⟩ | ⟨c_5, h⟩
  · refine r_t1 (pc' := 24) (L' := []) hq (z_at.mk 3 rfl rfl) rfl hR_2 c_5 rfl rfl ?_
    refine r_p hq 2 (pc' := 41) (L' := []) (st' := [.long ((-9223372036854775808 : Int64))]) rfl ?_
    cases h
    exact r_rl hq (z_at.mk 1 rfl rfl) rfl (rfl : (-9223372036854775808 : Int64).toInt = -9223372036854775808) rfl H_2
  · refine r_f1 (pc' := 8) (L' := [(0, .ref 143), (1, .int X1), (2, .int X2)]) hq (z_at.mk 3 rfl rfl) rfl hR_2 c_5 rfl rfl ?_
    refine r_p hq 3 (pc' := 11) (L' := [(0, .ref 143), (1, .int X1), (2, .int X2)]) (st' := [.ref 143, .int ((0 : Int32)), .int X2]) rfl ?_
    refine r_gR (b := 166) (pc' := 14) (L' := [(0, .ref 143), (1, .int X1), (2, .int X2)]) H_2 hq (z_at.mk 3 rfl rfl) rfl rfl rfl rfl ?_
    refine r_p hq 1 (pc' := 15) (L' := [(0, .ref 143), (1, .int X1), (2, .int X2)]) (st' := [.int X1, .ref 166, .int ((0 : Int32)), .int X2]) rfl ?_
    obtain ⟨g_15, h⟩ := z_ifo_some h
    refine r_ia (pc' := 16) (L' := [(0, .ref 143), (1, .int X1), (2, .int X2)]) H_2 hq (z_at.mk 1 rfl rfl) (show zAr 166 0 6 = true from rfl) hx1 g_15 rfl rfl ?_
    intro V_15 hV_15
    refine r_p hq 2 (pc' := 18) (L' := [(0, .ref 143), (1, .int X1), (2, .int X2)]) (st' := [.int (V_15 - ((1 : Int32))), .int ((0 : Int32)), .int X2]) rfl ?_
    obtain ⟨o_18, h_18, h⟩ := Option.bind_eq_some_iff.mp h
    refine r_csI (pc' := 21) (L' := [(0, .ref 143), (1, .int X1), (2, .int X2)]) (As := [.int X2, .int ((0 : Int32)), .int (V_15 - ((1 : Int32)))]) (rest := []) (j := 159) hq (z_at.mk 3 rfl rfl) (Or.inl ⟨rfl, rfl⟩) rfl rfl (by omega) (g_m_isIn_ok hx2 (rfl : (0 : Int32).toInt = 0) (tx_isub hV_15 (rfl : (1 : Int32).toInt = 1)) H_2 h_18) rfl rfl ?_
    intro R_18 m_18 p_18 e_18 hR_18 H_18
    subst e_18
    rcases z_ite h with ⟨c_21, h⟩ | ⟨c_21, h⟩
    · refine r_t1 (pc' := 30) (L' := [(0, .ref 143), (1, .int X1), (2, .int X2)]) hq (z_at.mk 3 rfl rfl) rfl hR_18 c_21 rfl rfl ?_
      refine r_p hq 1 (pc' := 31) (L' := [(0, .ref 143), (1, .int X1), (2, .int X2)]) (st' := [.ref 143]) rfl ?_
      refine r_gR (b := 167) (pc' := 34) (L' := [(0, .ref 143), (1, .int X1), (2, .int X2)]) H_18 hq (z_at.mk 3 rfl rfl) rfl rfl rfl rfl ?_
      refine r_p hq 5 (pc' := 40) (L' := [(0, .ref 143), (1, .int X1), (2, .int X2)]) (st' := [.int ((((60 : Int32)) * X1) + X2), .ref 167]) rfl ?_
      obtain ⟨g_40, h⟩ := z_ifo_some h
      refine r_la (pc' := 41) (L' := []) H_18 hq (z_at.mk 1 rfl rfl) (show zAr 167 1 360 = true from rfl) (tx_iadd (tx_imul (rfl : (60 : Int32).toInt = 60) hx1) hx2) g_40 rfl rfl ?_
      intro V_40 hV_40
      cases h
      exact r_rl hq (z_at.mk 1 rfl rfl) rfl hV_40 rfl H_18
    · refine r_f1 (pc' := 24) (L' := []) hq (z_at.mk 3 rfl rfl) rfl hR_18 c_21 rfl rfl ?_
      refine r_p hq 2 (pc' := 41) (L' := []) (st' := [.long ((-9223372036854775808 : Int64))]) rfl ?_
      cases h
      exact r_rl hq (z_at.mk 1 rfl rfl) rfl (rfl : (-9223372036854775808 : Int64).toInt = -9223372036854775808) rfl H_18
def g_m_move_L109 (g84 : Int → Int → Int → Int → Int → Int → zS → Option (Int × zS)) (x1 : Int) (x2 : Int) (x3 : Int) (x4 : Int) (x5 : Int) (x6 : Int) (xs0 : Int) (σ : zS) : Option (Int × zS) :=
  if 0 ≤ w32 ((w32 ((w32 (60 * x1)) + x2)) + xs0) ∧ w32 ((w32 ((w32 (60 * x1)) + x2)) + xs0) < 360 then
  let v_138 := σ 167 (w32 ((w32 ((w32 (60 * x1)) + x2)) + xs0))
  if 0 ≤ w32 ((w32 ((w32 (60 * x3)) + x4)) + xs0) ∧ w32 ((w32 ((w32 (60 * x3)) + x4)) + xs0) < 360 then
  let s_139 := zu σ 167 (w32 ((w32 ((w32 (60 * x3)) + x4)) + xs0)) v_138
  g84 x1 x2 x3 x4 x5 (w32 (x6 + 1)) s_139
  else none
  else none
set_option maxHeartbeats 4000000 in
theorem g_m_move_L109_ok {xl : Nat} {xs : Nat → Int32} {g84 : Int → Int → Int → Int → Int → Int → zS → Option (Int × zS)} (hg84 : ∀ {X1 : Int32} {x1 : Int} {X2 : Int32} {x2 : Int} {X3 : Int32} {x3 : Int} {X4 : Int32} {x4 : Int} {X5 : Int32} {x5 : Int} {X6 : Int32} {x6 : Int} {σ : zS} {p : Nat} {m : zM} {o : Int × zS}, X1.toInt = x1 → X2.toInt = x2 → X3.toInt = x3 → X4.toInt = x4 → X5.toInt = x5 → X6.toInt = x6 → zRep xl xs p m σ → g84 x1 x2 x3 x4 x5 x6 σ = some o → zGo xl xs (fun p' => p = p') 3 267 84 [(0, .ref 143), (1, .int X1), (2, .int X2), (3, .int X3), (4, .int X4), (5, .int X5), (6, .int X6)] [] m (vI o.1) o.2) {X1 : Int32} {x1 : Int} (hx1 : X1.toInt = x1) {X2 : Int32} {x2 : Int} (hx2 : X2.toInt = x2) {X3 : Int32} {x3 : Int} (hx3 : X3.toInt = x3) {X4 : Int32} {x4 : Int} (hx4 : X4.toInt = x4) {X5 : Int32} {x5 : Int} (hx5 : X5.toInt = x5) {X6 : Int32} {x6 : Int} (hx6 : X6.toInt = x6) {Xs0 : Int32} {xs0 : Int} (hxs0 : Xs0.toInt = xs0) {σ : zS} {p : Nat} {m : zM} {o : Int × zS} (H : zRep xl xs p m σ) (h : g_m_move_L109 g84 x1 x2 x3 x4 x5 x6 xs0 σ = some o) : zGo xl xs (fun p' => p = p') 3 267 109 [(0, .ref 143), (1, .int X1), (2, .int X2), (3, .int X3), (4, .int X4), (5, .int X5), (6, .int X6)] [.int Xs0] m (vI o.1) o.2 := by
  have hq : z_mth 267 = some z_r267 := rfl
  unfold g_m_move_L109 at h
  refine r_p hq 2 (pc' := 112) (L' := [(7, .int Xs0), (0, .ref 143), (1, .int X1), (2, .int X2), (3, .int X3), (4, .int X4), (5, .int X5), (6, .int X6)]) (st' := [.ref 143]) rfl ?_
  refine r_gR (b := 167) (pc' := 115) (L' := [(7, .int Xs0), (0, .ref 143), (1, .int X1), (2, .int X2), (3, .int X3), (4, .int X4), (5, .int X5), (6, .int X6)]) H hq (z_at.mk 3 rfl rfl) rfl rfl rfl rfl ?_
  refine r_p hq 8 (pc' := 126) (L' := [(7, .int Xs0), (0, .ref 143), (1, .int X1), (2, .int X2), (3, .int X3), (4, .int X4), (5, .int X5), (6, .int X6)]) (st' := [.ref 143, .int (((((60 : Int32)) * X3) + X4) + Xs0), .ref 167]) rfl ?_
  refine r_gR (b := 167) (pc' := 129) (L' := [(7, .int Xs0), (0, .ref 143), (1, .int X1), (2, .int X2), (3, .int X3), (4, .int X4), (5, .int X5), (6, .int X6)]) H hq (z_at.mk 3 rfl rfl) rfl rfl rfl rfl ?_
  refine r_p hq 7 (pc' := 138) (L' := [(7, .int Xs0), (0, .ref 143), (1, .int X1), (2, .int X2), (3, .int X3), (4, .int X4), (5, .int X5), (6, .int X6)]) (st' := [.int (((((60 : Int32)) * X1) + X2) + Xs0), .ref 167, .int (((((60 : Int32)) * X3) + X4) + Xs0), .ref 167]) rfl ?_
  obtain ⟨g_138, h⟩ := z_ifo_some h
  refine r_la (pc' := 139) (L' := [(7, .int Xs0), (0, .ref 143), (1, .int X1), (2, .int X2), (3, .int X3), (4, .int X4), (5, .int X5), (6, .int X6)]) H hq (z_at.mk 1 rfl rfl) (show zAr 167 1 360 = true from rfl) (tx_iadd (tx_iadd (tx_imul (rfl : (60 : Int32).toInt = 60) hx1) hx2) hxs0) g_138 rfl rfl ?_
  intro V_138 hV_138
  obtain ⟨g_139, h⟩ := z_ifo_some h
  refine r_ls (pc' := 140) (L' := [(7, .int Xs0), (0, .ref 143), (1, .int X1), (2, .int X2), (3, .int X3), (4, .int X4), (5, .int X5), (6, .int X6)]) H hq (z_at.mk 1 rfl rfl) (show zAr 167 1 360 = true from rfl) (tx_iadd (tx_iadd (tx_imul (rfl : (60 : Int32).toInt = 60) hx3) hx4) hxs0) g_139 hV_138 rfl rfl ?_
  intro m_139 H_139
  refine r_p hq 2 (pc' := 84) (L' := [(0, .ref 143), (1, .int X1), (2, .int X2), (3, .int X3), (4, .int X4), (5, .int X5), (6, .int (X6 + (1 : Int32)))]) (st' := []) rfl ?_
  exact hg84 hx1 hx2 hx3 hx4 hx5 (tx_iadd hx6 (rfl : (1 : Int32).toInt = 1)) H_139 h
def g_m_move_L84 : Nat → Int → Int → Int → Int → Int → Int → zS → Option (Int × zS)
  | 0, _, _, _, _, _, _, _ => none
  | n + 1, x1, x2, x3, x4, x5, x6, σ =>
    if x5 ≤ x6 then
      some (x5, σ)
    else
      if x2 ≤ x4 then
        g_m_move_L109 ((g_m_move_L84 n)) x1 x2 x3 x4 x5 x6 (w32 ((w32 (x5 - 1)) - x6)) σ
      else
        g_m_move_L109 ((g_m_move_L84 n)) x1 x2 x3 x4 x5 x6 x6 σ
set_option maxHeartbeats 4000000 in
theorem g_m_move_L84_ok {xl : Nat} {xs : Nat → Int32} : ∀ (n : Nat) {X1 : Int32} {x1 : Int} {X2 : Int32} {x2 : Int} {X3 : Int32} {x3 : Int} {X4 : Int32} {x4 : Int} {X5 : Int32} {x5 : Int} {X6 : Int32} {x6 : Int} {σ : zS} {p : Nat} {m : zM} {o : Int × zS}, X1.toInt = x1 → X2.toInt = x2 → X3.toInt = x3 → X4.toInt = x4 → X5.toInt = x5 → X6.toInt = x6 → zRep xl xs p m σ → g_m_move_L84 n x1 x2 x3 x4 x5 x6 σ = some o → zGo xl xs (fun p' => p = p') 3 267 84 [(0, .ref 143), (1, .int X1), (2, .int X2), (3, .int X3), (4, .int X4), (5, .int X5), (6, .int X6)] [] m (vI o.1) o.2
  | 0, _, _, _, _, _, _, _, _, _, _, _, _, _, _, _, _, _, _, _, _, _, _, _, h => by cases h
  | n + 1, X1, x1, X2, x2, X3, x3, X4, x4, X5, x5, X6, x6, σ, p, m, o, hx1, hx2, hx3, hx4, hx5, hx6, H, h => by
    have hq : z_mth 267 = some z_r267 := rfl
    have ih := fun {X1 : Int32} {x1 : Int} {X2 : Int32} {x2 : Int} {X3 : Int32} {x3 : Int} {X4 : Int32} {x4 : Int} {X5 : Int32} {x5 : Int} {X6 : Int32} {x6 : Int} {σ : zS} {p : Nat} {m : zM} {o : Int × zS} => g_m_move_L84_ok (xl := xl) (xs := xs) n (X1 := X1) (x1 := x1) (X2 := X2) (x2 := x2) (X3 := X3) (x3 := x3) (X4 := X4) (x4 := x4) (X5 := X5) (x5 := x5) (X6 := X6) (x6 := x6) (σ := σ) (p := p) (m := m) (o := o)
    unfold g_m_move_L84 at h
    refine r_p hq 2 (pc' := 88) (L' := [(0, .ref 143), (1, .int X1), (2, .int X2), (3, .int X3), (4, .int X4), (5, .int X5), (6, .int X6)]) (st' := [.int X5, .int X6]) rfl ?_
    rcases z_ite h with ⟨c_88, h⟩ | ⟨c_88, h⟩
    · refine r_t2 (pc' := 146) (L' := [(0, .ref 143), (1, .int X1), (2, .int X2), (3, .int X3), (4, .int X4), (5, .int X5), (6, .int X6)]) hq (z_at.mk 3 rfl rfl) rfl hx6 hx5 c_88 rfl rfl ?_
      refine r_p hq 1 (pc' := 148) (L' := [(0, .ref 143), (1, .int X1), (2, .int X2), (3, .int X3), (4, .int X4), (5, .int X5), (6, .int X6)]) (st' := [.int X5]) rfl ?_
      cases h
      exact r_ri hq (z_at.mk 1 rfl rfl) rfl rfl hx5 rfl H
    · refine r_f2 (pc' := 91) (L' := [(0, .ref 143), (1, .int X1), (2, .int X2), (3, .int X3), (4, .int X4), (5, .int X5), (6, .int X6)]) hq (z_at.mk 3 rfl rfl) rfl hx6 hx5 c_88 rfl rfl ?_
      refine r_p hq 2 (pc' := 94) (L' := [(0, .ref 143), (1, .int X1), (2, .int X2), (3, .int X3), (4, .int X4), (5, .int X5), (6, .int X6)]) (st' := [.int X4, .int X2]) rfl ?_
      rcases z_ite h with ⟨c_94, h⟩ | ⟨c_94, h⟩
      · refine r_t2 (pc' := 102) (L' := [(0, .ref 143), (1, .int X1), (2, .int X2), (3, .int X3), (4, .int X4), (5, .int X5), (6, .int X6)]) hq (z_at.mk 3 rfl rfl) rfl hx2 hx4 c_94 rfl rfl ?_
        refine r_p hq 5 (pc' := 109) (L' := [(0, .ref 143), (1, .int X1), (2, .int X2), (3, .int X3), (4, .int X4), (5, .int X5), (6, .int X6)]) (st' := [.int ((X5 - ((1 : Int32))) - X6)]) rfl ?_
        exact g_m_move_L109_ok ih hx1 hx2 hx3 hx4 hx5 hx6 (tx_isub (tx_isub hx5 (rfl : (1 : Int32).toInt = 1)) hx6) H h
      · refine r_f2 (pc' := 97) (L' := [(0, .ref 143), (1, .int X1), (2, .int X2), (3, .int X3), (4, .int X4), (5, .int X5), (6, .int X6)]) hq (z_at.mk 3 rfl rfl) rfl hx2 hx4 c_94 rfl rfl ?_
        refine r_p hq 2 (pc' := 109) (L' := [(0, .ref 143), (1, .int X1), (2, .int X2), (3, .int X3), (4, .int X4), (5, .int X5), (6, .int X6)]) (st' := [.int X6]) rfl ?_
        exact g_m_move_L109_ok ih hx1 hx2 hx3 hx4 hx5 hx6 hx6 H h
def g_m_move (x1 : Int) (x2 : Int) (x3 : Int) (x4 : Int) (x5 : Int) (σ : zS) : Option (Int × zS) :=
  (g_m_isList x1 σ).bind fun o_1 =>
  if o_1.1 = 0 then
    some (-1, o_1.2)
  else
    (g_m_isList x3 o_1.2).bind fun o_8 =>
    if o_8.1 ≠ 0 then
      if 0 ≤ x1 ∧ x1 < 6 then
      let v_21 := o_8.2 166 x1
      if v_21 < 0 then
        some (-11, o_8.2)
      else
        if 0 ≤ x3 ∧ x3 < 6 then
        let v_30 := o_8.2 166 x3
        if 0 ≤ v_30 then
          if x5 < 0 then
            some (-13, o_8.2)
          else
            if x2 < 0 then
              some (-13, o_8.2)
            else
              if x4 < 0 then
                some (-13, o_8.2)
              else
                if 0 ≤ x1 ∧ x1 < 6 then
                let v_58 := o_8.2 166 x1
                if w32 (v_58 - x2) < x5 then
                  some (-13, o_8.2)
                else
                  if 0 ≤ x3 ∧ x3 < 6 then
                  let v_71 := o_8.2 166 x3
                  if x5 ≤ w32 (v_71 - x4) then
                    g_m_move_L84 zK x1 x2 x3 x4 x5 0 o_8.2
                  else
                    some (-13, o_8.2)
                  else none
                else none
        else
          some (-11, o_8.2)
        else none
      else none
    else
      some (-1, o_8.2)
set_option maxHeartbeats 4000000 in
theorem g_m_move_ok {xl : Nat} {xs : Nat → Int32} {X1 : Int32} {x1 : Int} (hx1 : X1.toInt = x1) {X2 : Int32} {x2 : Int} (hx2 : X2.toInt = x2) {X3 : Int32} {x3 : Int} (hx3 : X3.toInt = x3) {X4 : Int32} {x4 : Int} (hx4 : X4.toInt = x4) {X5 : Int32} {x5 : Int} (hx5 : X5.toInt = x5) {σ : zS} {p : Nat} {m : zM} {o : Int × zS} (H : zRep xl xs p m σ) (h : g_m_move x1 x2 x3 x4 x5 σ = some o) : zGo xl xs (fun p' => p = p') 3 267 0 (z_can 267 0 (lv_args 0 [.ref 143, .int X1, .int X2, .int X3, .int X4, .int X5])) [] m (vI o.1) o.2 := by
  have hq : z_mth 267 = some z_r267 := rfl
  unfold g_m_move at h
  show zGo xl xs (fun p' => p = p') 3 267 0 [(0, .ref 143), (1, .int X1), (2, .int X2), (3, .int X3), (4, .int X4), (5, .int X5)] [] m (vI o.1) o.2
  refine r_p hq 1 (pc' := 1) (L' := [(0, .ref 143), (1, .int X1), (2, .int X2), (3, .int X3), (4, .int X4), (5, .int X5)]) (st' := [.int X1]) rfl ?_
  obtain ⟨o_1, h_1, h⟩ := Option.bind_eq_some_iff.mp h
  refine r_csI (pc' := 4) (L' := [(0, .ref 143), (1, .int X1), (2, .int X2), (3, .int X3), (4, .int X4), (5, .int X5)]) (As := [.int X1]) (rest := []) (j := 262) hq (z_at.mk 3 rfl rfl) (Or.inl ⟨rfl, rfl⟩) rfl rfl (by omega) (g_m_isList_ok hx1 H h_1) rfl rfl ?_
  intro R_1 m_1 p_1 e_1 hR_1 H_1
  subst e_1
  rcases z_ite h with ⟨c_4, h⟩ | ⟨c_4, h⟩
  · refine r_t1 (pc' := 14) (L' := []) hq (z_at.mk 3 rfl rfl) rfl hR_1 c_4 rfl rfl ?_
    refine r_p hq 1 (pc' := 15) (L' := []) (st' := [.int ((-1 : Int32))]) rfl ?_
    cases h
    exact r_ri hq (z_at.mk 1 rfl rfl) rfl rfl (rfl : (-1 : Int32).toInt = -1) rfl H_1
  · refine r_f1 (pc' := 7) (L' := [(0, .ref 143), (1, .int X1), (2, .int X2), (3, .int X3), (4, .int X4), (5, .int X5)]) hq (z_at.mk 3 rfl rfl) rfl hR_1 c_4 rfl rfl ?_
    refine r_p hq 1 (pc' := 8) (L' := [(0, .ref 143), (1, .int X1), (2, .int X2), (3, .int X3), (4, .int X4), (5, .int X5)]) (st' := [.int X3]) rfl ?_
    obtain ⟨o_8, h_8, h⟩ := Option.bind_eq_some_iff.mp h
    refine r_csI (pc' := 11) (L' := [(0, .ref 143), (1, .int X1), (2, .int X2), (3, .int X3), (4, .int X4), (5, .int X5)]) (As := [.int X3]) (rest := []) (j := 262) hq (z_at.mk 3 rfl rfl) (Or.inl ⟨rfl, rfl⟩) rfl rfl (by omega) (g_m_isList_ok hx3 H_1 h_8) rfl rfl ?_
    intro R_8 m_8 p_8 e_8 hR_8 H_8
    subst e_8
    rcases z_ite h with ⟨c_11, h⟩ | ⟨c_11, h⟩
    · refine r_t1 (pc' := 16) (L' := [(0, .ref 143), (1, .int X1), (2, .int X2), (3, .int X3), (4, .int X4), (5, .int X5)]) hq (z_at.mk 3 rfl rfl) rfl hR_8 c_11 rfl rfl ?_
      refine r_p hq 1 (pc' := 17) (L' := [(0, .ref 143), (1, .int X1), (2, .int X2), (3, .int X3), (4, .int X4), (5, .int X5)]) (st' := [.ref 143]) rfl ?_
      refine r_gR (b := 166) (pc' := 20) (L' := [(0, .ref 143), (1, .int X1), (2, .int X2), (3, .int X3), (4, .int X4), (5, .int X5)]) H_8 hq (z_at.mk 3 rfl rfl) rfl rfl rfl rfl ?_
      refine r_p hq 1 (pc' := 21) (L' := [(0, .ref 143), (1, .int X1), (2, .int X2), (3, .int X3), (4, .int X4), (5, .int X5)]) (st' := [.int X1, .ref 166]) rfl ?_
      obtain ⟨g_21, h⟩ := z_ifo_some h
      refine r_ia (pc' := 22) (L' := [(0, .ref 143), (1, .int X1), (2, .int X2), (3, .int X3), (4, .int X4), (5, .int X5)]) H_8 hq (z_at.mk 1 rfl rfl) (show zAr 166 0 6 = true from rfl) hx1 g_21 rfl rfl ?_
      intro V_21 hV_21
      rcases z_ite h with ⟨c_22, h⟩ | ⟨c_22, h⟩
      · refine r_t1 (pc' := 34) (L' := []) hq (z_at.mk 3 rfl rfl) rfl hV_21 c_22 rfl rfl ?_
        refine r_p hq 1 (pc' := 36) (L' := []) (st' := [.int ((-11 : Int32))]) rfl ?_
        cases h
        exact r_ri hq (z_at.mk 1 rfl rfl) rfl rfl (rfl : (-11 : Int32).toInt = -11) rfl H_8
      · refine r_f1 (pc' := 25) (L' := [(0, .ref 143), (1, .int X1), (2, .int X2), (3, .int X3), (4, .int X4), (5, .int X5)]) hq (z_at.mk 3 rfl rfl) rfl hV_21 c_22 rfl rfl ?_
        refine r_p hq 1 (pc' := 26) (L' := [(0, .ref 143), (1, .int X1), (2, .int X2), (3, .int X3), (4, .int X4), (5, .int X5)]) (st' := [.ref 143]) rfl ?_
        refine r_gR (b := 166) (pc' := 29) (L' := [(0, .ref 143), (1, .int X1), (2, .int X2), (3, .int X3), (4, .int X4), (5, .int X5)]) H_8 hq (z_at.mk 3 rfl rfl) rfl rfl rfl rfl ?_
        refine r_p hq 1 (pc' := 30) (L' := [(0, .ref 143), (1, .int X1), (2, .int X2), (3, .int X3), (4, .int X4), (5, .int X5)]) (st' := [.int X3, .ref 166]) rfl ?_
        obtain ⟨g_30, h⟩ := z_ifo_some h
        refine r_ia (pc' := 31) (L' := [(0, .ref 143), (1, .int X1), (2, .int X2), (3, .int X3), (4, .int X4), (5, .int X5)]) H_8 hq (z_at.mk 1 rfl rfl) (show zAr 166 0 6 = true from rfl) hx3 g_30 rfl rfl ?_
        intro V_30 hV_30
        rcases z_ite h with ⟨c_31, h⟩ | ⟨c_31, h⟩
        · refine r_t1 (pc' := 37) (L' := [(0, .ref 143), (1, .int X1), (2, .int X2), (3, .int X3), (4, .int X4), (5, .int X5)]) hq (z_at.mk 3 rfl rfl) rfl hV_30 c_31 rfl rfl ?_
          refine r_p hq 1 (pc' := 39) (L' := [(0, .ref 143), (1, .int X1), (2, .int X2), (3, .int X3), (4, .int X4), (5, .int X5)]) (st' := [.int X5]) rfl ?_
          rcases z_ite h with ⟨c_39, h⟩ | ⟨c_39, h⟩
          · refine r_t1 (pc' := 78) (L' := []) hq (z_at.mk 3 rfl rfl) rfl hx5 c_39 rfl rfl ?_
            refine r_p hq 1 (pc' := 80) (L' := []) (st' := [.int ((-13 : Int32))]) rfl ?_
            cases h
            exact r_ri hq (z_at.mk 1 rfl rfl) rfl rfl (rfl : (-13 : Int32).toInt = -13) rfl H_8
          · refine r_f1 (pc' := 42) (L' := [(0, .ref 143), (1, .int X1), (2, .int X2), (3, .int X3), (4, .int X4), (5, .int X5)]) hq (z_at.mk 3 rfl rfl) rfl hx5 c_39 rfl rfl ?_
            refine r_p hq 1 (pc' := 43) (L' := [(0, .ref 143), (1, .int X1), (2, .int X2), (3, .int X3), (4, .int X4), (5, .int X5)]) (st' := [.int X2]) rfl ?_
            rcases z_ite h with ⟨c_43, h⟩ | ⟨c_43, h⟩
            · refine r_t1 (pc' := 78) (L' := []) hq (z_at.mk 3 rfl rfl) rfl hx2 c_43 rfl rfl ?_
              refine r_p hq 1 (pc' := 80) (L' := []) (st' := [.int ((-13 : Int32))]) rfl ?_
              cases h
              exact r_ri hq (z_at.mk 1 rfl rfl) rfl rfl (rfl : (-13 : Int32).toInt = -13) rfl H_8
            · refine r_f1 (pc' := 46) (L' := [(0, .ref 143), (1, .int X1), (2, .int X2), (3, .int X3), (4, .int X4), (5, .int X5)]) hq (z_at.mk 3 rfl rfl) rfl hx2 c_43 rfl rfl ?_
              refine r_p hq 1 (pc' := 48) (L' := [(0, .ref 143), (1, .int X1), (2, .int X2), (3, .int X3), (4, .int X4), (5, .int X5)]) (st' := [.int X4]) rfl ?_
              rcases z_ite h with ⟨c_48, h⟩ | ⟨c_48, h⟩
              · refine r_t1 (pc' := 78) (L' := []) hq (z_at.mk 3 rfl rfl) rfl hx4 c_48 rfl rfl ?_
                refine r_p hq 1 (pc' := 80) (L' := []) (st' := [.int ((-13 : Int32))]) rfl ?_
                cases h
                exact r_ri hq (z_at.mk 1 rfl rfl) rfl rfl (rfl : (-13 : Int32).toInt = -13) rfl H_8
              · refine r_f1 (pc' := 51) (L' := [(0, .ref 143), (1, .int X1), (2, .int X2), (3, .int X3), (4, .int X4), (5, .int X5)]) hq (z_at.mk 3 rfl rfl) rfl hx4 c_48 rfl rfl ?_
                refine r_p hq 2 (pc' := 54) (L' := [(0, .ref 143), (1, .int X1), (2, .int X2), (3, .int X3), (4, .int X4), (5, .int X5)]) (st' := [.ref 143, .int X5]) rfl ?_
                refine r_gR (b := 166) (pc' := 57) (L' := [(0, .ref 143), (1, .int X1), (2, .int X2), (3, .int X3), (4, .int X4), (5, .int X5)]) H_8 hq (z_at.mk 3 rfl rfl) rfl rfl rfl rfl ?_
                refine r_p hq 1 (pc' := 58) (L' := [(0, .ref 143), (1, .int X1), (2, .int X2), (3, .int X3), (4, .int X4), (5, .int X5)]) (st' := [.int X1, .ref 166, .int X5]) rfl ?_
                obtain ⟨g_58, h⟩ := z_ifo_some h
                refine r_ia (pc' := 59) (L' := [(0, .ref 143), (1, .int X1), (2, .int X2), (3, .int X3), (4, .int X4), (5, .int X5)]) H_8 hq (z_at.mk 1 rfl rfl) (show zAr 166 0 6 = true from rfl) hx1 g_58 rfl rfl ?_
                intro V_58 hV_58
                refine r_p hq 2 (pc' := 61) (L' := [(0, .ref 143), (1, .int X1), (2, .int X2), (3, .int X3), (4, .int X4), (5, .int X5)]) (st' := [.int (V_58 - X2), .int X5]) rfl ?_
                rcases z_ite h with ⟨c_61, h⟩ | ⟨c_61, h⟩
                · refine r_t2 (pc' := 78) (L' := []) hq (z_at.mk 3 rfl rfl) rfl hx5 (tx_isub hV_58 hx2) c_61 rfl rfl ?_
                  refine r_p hq 1 (pc' := 80) (L' := []) (st' := [.int ((-13 : Int32))]) rfl ?_
                  cases h
                  exact r_ri hq (z_at.mk 1 rfl rfl) rfl rfl (rfl : (-13 : Int32).toInt = -13) rfl H_8
                · refine r_f2 (pc' := 64) (L' := [(0, .ref 143), (1, .int X1), (2, .int X2), (3, .int X3), (4, .int X4), (5, .int X5)]) hq (z_at.mk 3 rfl rfl) rfl hx5 (tx_isub hV_58 hx2) c_61 rfl rfl ?_
                  refine r_p hq 2 (pc' := 67) (L' := [(0, .ref 143), (1, .int X1), (2, .int X2), (3, .int X3), (4, .int X4), (5, .int X5)]) (st' := [.ref 143, .int X5]) rfl ?_
                  refine r_gR (b := 166) (pc' := 70) (L' := [(0, .ref 143), (1, .int X1), (2, .int X2), (3, .int X3), (4, .int X4), (5, .int X5)]) H_8 hq (z_at.mk 3 rfl rfl) rfl rfl rfl rfl ?_
                  refine r_p hq 1 (pc' := 71) (L' := [(0, .ref 143), (1, .int X1), (2, .int X2), (3, .int X3), (4, .int X4), (5, .int X5)]) (st' := [.int X3, .ref 166, .int X5]) rfl ?_
                  obtain ⟨g_71, h⟩ := z_ifo_some h
                  refine r_ia (pc' := 72) (L' := [(0, .ref 143), (1, .int X1), (2, .int X2), (3, .int X3), (4, .int X4), (5, .int X5)]) H_8 hq (z_at.mk 1 rfl rfl) (show zAr 166 0 6 = true from rfl) hx3 g_71 rfl rfl ?_
                  intro V_71 hV_71
                  refine r_p hq 2 (pc' := 75) (L' := [(0, .ref 143), (1, .int X1), (2, .int X2), (3, .int X3), (4, .int X4), (5, .int X5)]) (st' := [.int (V_71 - X4), .int X5]) rfl ?_
                  rcases z_ite h with ⟨c_75, h⟩ | ⟨c_75, h⟩
                  · refine r_t2 (pc' := 81) (L' := [(0, .ref 143), (1, .int X1), (2, .int X2), (3, .int X3), (4, .int X4), (5, .int X5)]) hq (z_at.mk 3 rfl rfl) rfl hx5 (tx_isub hV_71 hx4) c_75 rfl rfl ?_
                    refine r_p hq 2 (pc' := 84) (L' := [(0, .ref 143), (1, .int X1), (2, .int X2), (3, .int X3), (4, .int X4), (5, .int X5), (6, .int ((0 : Int32)))]) (st' := []) rfl ?_
                    exact g_m_move_L84_ok zK hx1 hx2 hx3 hx4 hx5 (rfl : (0 : Int32).toInt = 0) H_8 h
                  · refine r_f2 (pc' := 78) (L' := []) hq (z_at.mk 3 rfl rfl) rfl hx5 (tx_isub hV_71 hx4) c_75 rfl rfl ?_
                    refine r_p hq 1 (pc' := 80) (L' := []) (st' := [.int ((-13 : Int32))]) rfl ?_
                    cases h
                    exact r_ri hq (z_at.mk 1 rfl rfl) rfl rfl (rfl : (-13 : Int32).toInt = -13) rfl H_8
        · refine r_f1 (pc' := 34) (L' := []) hq (z_at.mk 3 rfl rfl) rfl hV_30 c_31 rfl rfl ?_
          refine r_p hq 1 (pc' := 36) (L' := []) (st' := [.int ((-11 : Int32))]) rfl ?_
          cases h
          exact r_ri hq (z_at.mk 1 rfl rfl) rfl rfl (rfl : (-11 : Int32).toInt = -11) rfl H_8
    · refine r_f1 (pc' := 14) (L' := []) hq (z_at.mk 3 rfl rfl) rfl hR_8 c_11 rfl rfl ?_
      refine r_p hq 1 (pc' := 15) (L' := []) (st' := [.int ((-1 : Int32))]) rfl ?_
      cases h
      exact r_ri hq (z_at.mk 1 rfl rfl) rfl rfl (rfl : (-1 : Int32).toInt = -1) rfl H_8
def g_m_lay_L15 : Nat → Int → Int → Int → zS → Option (Int × zS)
  | 0, _, _, _, _ => none
  | n + 1, x1, x2, x4, σ =>
    let v_23 := σ 144 8
    if v_23 ≤ x4 then
      let v_83 := σ 144 8
      some (v_83, σ)
    else
      if x2 < 0 then
        some (-13, σ)
      else
        if 0 ≤ x1 ∧ x1 < 6 then
        let v_38 := σ 166 x1
        if x4 < w32 (v_38 - x2) then
          if 0 ≤ w32 (61 + x4) ∧ w32 (61 + x4) < 361 then
          let v_69 := σ 147 (w32 (61 + x4))
          if 0 ≤ w32 ((w32 ((w32 (60 * x1)) + x2)) + x4) ∧ w32 ((w32 ((w32 (60 * x1)) + x2)) + x4) < 360 then
          let s_70 := zu σ 167 (w32 ((w32 ((w32 (60 * x1)) + x2)) + x4)) v_69
          (g_m_lay_L15 n) x1 x2 (w32 (x4 + 1)) s_70
          else none
          else none
        else
          some (-13, σ)
        else none
set_option maxHeartbeats 4000000 in
theorem g_m_lay_L15_ok {xl : Nat} {xs : Nat → Int32} : ∀ (n : Nat) {X1 : Int32} {x1 : Int} {X2 : Int32} {x2 : Int} {X4 : Int32} {x4 : Int} {σ : zS} {p : Nat} {m : zM} {o : Int × zS}, X1.toInt = x1 → X2.toInt = x2 → X4.toInt = x4 → zRep xl xs p m σ → g_m_lay_L15 n x1 x2 x4 σ = some o → zGo xl xs (fun p' => p = p') 4 268 15 [(0, .ref 143), (1, .int X1), (2, .int X2), (4, .int X4)] [] m (vI o.1) o.2
  | 0, _, _, _, _, _, _, _, _, _, _, _, _, _, _, h => by cases h
  | n + 1, X1, x1, X2, x2, X4, x4, σ, p, m, o, hx1, hx2, hx4, H, h => by
    have hq : z_mth 268 = some z_r268 := rfl
    have ih := fun {X1 : Int32} {x1 : Int} {X2 : Int32} {x2 : Int} {X4 : Int32} {x4 : Int} {σ : zS} {p : Nat} {m : zM} {o : Int × zS} => g_m_lay_L15_ok (xl := xl) (xs := xs) n (X1 := X1) (x1 := x1) (X2 := X2) (x2 := x2) (X4 := X4) (x4 := x4) (σ := σ) (p := p) (m := m) (o := o)
    unfold g_m_lay_L15 at h
    refine r_p hq 2 (pc' := 18) (L' := [(0, .ref 143), (1, .int X1), (2, .int X2), (4, .int X4)]) (st' := [.ref 143, .int X4]) rfl ?_
    refine r_gR (b := 144) (pc' := 21) (L' := [(0, .ref 143), (1, .int X1), (2, .int X2), (4, .int X4)]) H hq (z_at.mk 3 rfl rfl) rfl rfl rfl rfl ?_
    refine r_p hq 1 (pc' := 23) (L' := [(0, .ref 143), (1, .int X1), (2, .int X2), (4, .int X4)]) (st' := [.int ((8 : Int32)), .ref 144, .int X4]) rfl ?_
    refine r_ia (pc' := 24) (L' := [(0, .ref 143), (1, .int X1), (2, .int X2), (4, .int X4)]) H hq (z_at.mk 1 rfl rfl) (show zAr 144 0 2740 = true from rfl) (rfl : (8 : Int32).toInt = 8) ⟨by decide, by decide⟩ rfl rfl ?_
    intro V_23 hV_23
    rcases z_ite h with ⟨c_24, h⟩ | ⟨c_24, h⟩
    · refine r_t2 (pc' := 77) (L' := [(0, .ref 143), (1, .int X1), (2, .int X2), (4, .int X4)]) hq (z_at.mk 3 rfl rfl) rfl hx4 hV_23 c_24 rfl rfl ?_
      refine r_p hq 1 (pc' := 78) (L' := [(0, .ref 143), (1, .int X1), (2, .int X2), (4, .int X4)]) (st' := [.ref 143]) rfl ?_
      refine r_gR (b := 144) (pc' := 81) (L' := [(0, .ref 143), (1, .int X1), (2, .int X2), (4, .int X4)]) H hq (z_at.mk 3 rfl rfl) rfl rfl rfl rfl ?_
      refine r_p hq 1 (pc' := 83) (L' := [(0, .ref 143), (1, .int X1), (2, .int X2), (4, .int X4)]) (st' := [.int ((8 : Int32)), .ref 144]) rfl ?_
      refine r_ia (pc' := 84) (L' := [(0, .ref 143), (1, .int X1), (2, .int X2), (4, .int X4)]) H hq (z_at.mk 1 rfl rfl) (show zAr 144 0 2740 = true from rfl) (rfl : (8 : Int32).toInt = 8) ⟨by decide, by decide⟩ rfl rfl ?_
      intro V_83 hV_83
      cases h
      exact r_ri hq (z_at.mk 1 rfl rfl) rfl rfl hV_83 rfl H
    · refine r_f2 (pc' := 27) (L' := [(0, .ref 143), (1, .int X1), (2, .int X2), (4, .int X4)]) hq (z_at.mk 3 rfl rfl) rfl hx4 hV_23 c_24 rfl rfl ?_
      refine r_p hq 1 (pc' := 28) (L' := [(0, .ref 143), (1, .int X1), (2, .int X2), (4, .int X4)]) (st' := [.int X2]) rfl ?_
      rcases z_ite h with ⟨c_28, h⟩ | ⟨c_28, h⟩
      · refine r_t1 (pc' := 44) (L' := []) hq (z_at.mk 3 rfl rfl) rfl hx2 c_28 rfl rfl ?_
        refine r_p hq 1 (pc' := 46) (L' := []) (st' := [.int ((-13 : Int32))]) rfl ?_
        cases h
        exact r_ri hq (z_at.mk 1 rfl rfl) rfl rfl (rfl : (-13 : Int32).toInt = -13) rfl H
      · refine r_f1 (pc' := 31) (L' := [(0, .ref 143), (1, .int X1), (2, .int X2), (4, .int X4)]) hq (z_at.mk 3 rfl rfl) rfl hx2 c_28 rfl rfl ?_
        refine r_p hq 2 (pc' := 34) (L' := [(0, .ref 143), (1, .int X1), (2, .int X2), (4, .int X4)]) (st' := [.ref 143, .int X4]) rfl ?_
        refine r_gR (b := 166) (pc' := 37) (L' := [(0, .ref 143), (1, .int X1), (2, .int X2), (4, .int X4)]) H hq (z_at.mk 3 rfl rfl) rfl rfl rfl rfl ?_
        refine r_p hq 1 (pc' := 38) (L' := [(0, .ref 143), (1, .int X1), (2, .int X2), (4, .int X4)]) (st' := [.int X1, .ref 166, .int X4]) rfl ?_
        obtain ⟨g_38, h⟩ := z_ifo_some h
        refine r_ia (pc' := 39) (L' := [(0, .ref 143), (1, .int X1), (2, .int X2), (4, .int X4)]) H hq (z_at.mk 1 rfl rfl) (show zAr 166 0 6 = true from rfl) hx1 g_38 rfl rfl ?_
        intro V_38 hV_38
        refine r_p hq 2 (pc' := 41) (L' := [(0, .ref 143), (1, .int X1), (2, .int X2), (4, .int X4)]) (st' := [.int (V_38 - X2), .int X4]) rfl ?_
        rcases z_ite h with ⟨c_41, h⟩ | ⟨c_41, h⟩
        · refine r_t2 (pc' := 47) (L' := [(0, .ref 143), (1, .int X1), (2, .int X2), (4, .int X4)]) hq (z_at.mk 3 rfl rfl) rfl hx4 (tx_isub hV_38 hx2) c_41 rfl rfl ?_
          refine r_p hq 1 (pc' := 48) (L' := [(0, .ref 143), (1, .int X1), (2, .int X2), (4, .int X4)]) (st' := [.ref 143]) rfl ?_
          refine r_gR (b := 167) (pc' := 51) (L' := [(0, .ref 143), (1, .int X1), (2, .int X2), (4, .int X4)]) H hq (z_at.mk 3 rfl rfl) rfl rfl rfl rfl ?_
          refine r_p hq 8 (pc' := 61) (L' := [(0, .ref 143), (1, .int X1), (2, .int X2), (4, .int X4)]) (st' := [.ref 143, .int (((((60 : Int32)) * X1) + X2) + X4), .ref 167]) rfl ?_
          refine r_gR (b := 147) (pc' := 64) (L' := [(0, .ref 143), (1, .int X1), (2, .int X2), (4, .int X4)]) H hq (z_at.mk 3 rfl rfl) rfl rfl rfl rfl ?_
          refine r_p hq 3 (pc' := 69) (L' := [(0, .ref 143), (1, .int X1), (2, .int X2), (4, .int X4)]) (st' := [.int (((61 : Int32)) + X4), .ref 147, .int (((((60 : Int32)) * X1) + X2) + X4), .ref 167]) rfl ?_
          obtain ⟨g_69, h⟩ := z_ifo_some h
          refine r_la (pc' := 70) (L' := [(0, .ref 143), (1, .int X1), (2, .int X2), (4, .int X4)]) H hq (z_at.mk 1 rfl rfl) (show zAr 147 1 361 = true from rfl) (tx_iadd (rfl : (61 : Int32).toInt = 61) hx4) g_69 rfl rfl ?_
          intro V_69 hV_69
          obtain ⟨g_70, h⟩ := z_ifo_some h
          refine r_ls (pc' := 71) (L' := [(0, .ref 143), (1, .int X1), (2, .int X2), (4, .int X4)]) H hq (z_at.mk 1 rfl rfl) (show zAr 167 1 360 = true from rfl) (tx_iadd (tx_iadd (tx_imul (rfl : (60 : Int32).toInt = 60) hx1) hx2) hx4) g_70 hV_69 rfl rfl ?_
          intro m_70 H_70
          refine r_p hq 2 (pc' := 15) (L' := [(0, .ref 143), (1, .int X1), (2, .int X2), (4, .int (X4 + (1 : Int32)))]) (st' := []) rfl ?_
          exact ih hx1 hx2 (tx_iadd hx4 (rfl : (1 : Int32).toInt = 1)) H_70 h
        · refine r_f2 (pc' := 44) (L' := []) hq (z_at.mk 3 rfl rfl) rfl hx4 (tx_isub hV_38 hx2) c_41 rfl rfl ?_
          refine r_p hq 1 (pc' := 46) (L' := []) (st' := [.int ((-13 : Int32))]) rfl ?_
          cases h
          exact r_ri hq (z_at.mk 1 rfl rfl) rfl rfl (rfl : (-13 : Int32).toInt = -13) rfl H
def g_m_lay (x1 : Int) (x2 : Int) (σ : zS) : Option (Int × zS) :=
  (g_m_wrong x1 σ).bind fun o_2 =>
  if o_2.1 = 0 then
    g_m_lay_L15 zK x1 x2 0 o_2.2
  else
    some (o_2.1, o_2.2)
set_option maxHeartbeats 4000000 in
theorem g_m_lay_ok {xl : Nat} {xs : Nat → Int32} {X1 : Int32} {x1 : Int} (hx1 : X1.toInt = x1) {X2 : Int32} {x2 : Int} (hx2 : X2.toInt = x2) {σ : zS} {p : Nat} {m : zM} {o : Int × zS} (H : zRep xl xs p m σ) (h : g_m_lay x1 x2 σ = some o) : zGo xl xs (fun p' => p = p') 4 268 0 (z_can 268 0 (lv_args 0 [.ref 143, .int X1, .int X2])) [] m (vI o.1) o.2 := by
  have hq : z_mth 268 = some z_r268 := rfl
  unfold g_m_lay at h
  show zGo xl xs (fun p' => p = p') 4 268 0 [(0, .ref 143), (1, .int X1), (2, .int X2)] [] m (vI o.1) o.2
  refine r_p hq 2 (pc' := 2) (L' := [(0, .ref 143), (1, .int X1), (2, .int X2)]) (st' := [.int X1, .ref 143]) rfl ?_
  obtain ⟨o_2, h_2, h⟩ := Option.bind_eq_some_iff.mp h
  refine r_cvI (pc' := 5) (L' := [(0, .ref 143), (1, .int X1), (2, .int X2)]) (Ps := [.int X1]) (rest := []) hq (z_at.mk 3 rfl rfl) (Or.inl ⟨rfl, rfl⟩) rfl rfl (by decide) (by decide) rfl (Nat.not_lt.mpr (Nat.le_of_ble_eq_true rfl)) rfl rfl (z_cat_le 0 rfl (by decide)) (z_lgl_le 2 rfl (by decide)) (by decide) (H.tg rfl) (by omega) (g_m_wrong_ok hx1 H h_2) rfl rfl ?_
  intro R_2 m_2 p_2 e_2 hR_2 H_2
  subst e_2
  refine r_p hq 2 (pc' := 7) (L' := [(3, .int R_2), (0, .ref 143), (1, .int X1), (2, .int X2)]) (st' := [.int R_2]) rfl ?_
  rcases z_ite h with ⟨c_7, h⟩ | ⟨c_7, h⟩
  · refine r_t1 (pc' := 12) (L' := [(3, .int R_2), (0, .ref 143), (1, .int X1), (2, .int X2)]) hq (z_at.mk 3 rfl rfl) rfl hR_2 c_7 rfl rfl ?_
    refine r_p hq 2 (pc' := 15) (L' := [(0, .ref 143), (1, .int X1), (2, .int X2), (4, .int ((0 : Int32)))]) (st' := []) rfl ?_
    exact g_m_lay_L15_ok zK hx1 hx2 (rfl : (0 : Int32).toInt = 0) H_2 h
  · refine r_f1 (pc' := 10) (L' := [(3, .int R_2), (0, .ref 143), (1, .int X1), (2, .int X2)]) hq (z_at.mk 3 rfl rfl) rfl hR_2 c_7 rfl rfl ?_
    refine r_p hq 1 (pc' := 11) (L' := [(3, .int R_2), (0, .ref 143), (1, .int X1), (2, .int X2)]) (st' := [.int R_2]) rfl ?_
    cases h
    exact r_ri hq (z_at.mk 1 rfl rfl) rfl rfl hR_2 rfl H_2
def g_m_judge_L15 : Nat → Int → Int → Int → zS → Option (Int × zS)
  | 0, _, _, _, _ => none
  | n + 1, x1, x2, x4, σ =>
    let v_23 := σ 144 8
    if v_23 ≤ x4 then
      some (-5, σ)
    else
      if x2 < 0 then
        some (w32 (100 + x4), σ)
      else
        if 0 ≤ x1 ∧ x1 < 6 then
        let v_38 := σ 166 x1
        if x4 < w32 (v_38 - x2) then
          if 0 ≤ w32 ((w32 ((w32 (60 * x1)) + x2)) + x4) ∧ w32 ((w32 ((w32 (60 * x1)) + x2)) + x4) < 360 then
          let v_63 := σ 167 (w32 ((w32 ((w32 (60 * x1)) + x2)) + x4))
          if 0 ≤ w32 (61 + x4) ∧ w32 (61 + x4) < 361 then
          let v_73 := σ 147 (w32 (61 + x4))
          if lCmp v_63 v_73 = 0 then
            (g_m_judge_L15 n) x1 x2 (w32 (x4 + 1)) σ
          else
            some (x4, σ)
          else none
          else none
        else
          some (w32 (100 + x4), σ)
        else none
set_option maxHeartbeats 4000000 in
theorem g_m_judge_L15_ok {xl : Nat} {xs : Nat → Int32} : ∀ (n : Nat) {X1 : Int32} {x1 : Int} {X2 : Int32} {x2 : Int} {X4 : Int32} {x4 : Int} {σ : zS} {p : Nat} {m : zM} {o : Int × zS}, X1.toInt = x1 → X2.toInt = x2 → X4.toInt = x4 → zRep xl xs p m σ → g_m_judge_L15 n x1 x2 x4 σ = some o → zGo xl xs (fun p' => p = p') 4 269 15 [(0, .ref 143), (1, .int X1), (2, .int X2), (4, .int X4)] [] m (vI o.1) o.2
  | 0, _, _, _, _, _, _, _, _, _, _, _, _, _, _, h => by cases h
  | n + 1, X1, x1, X2, x2, X4, x4, σ, p, m, o, hx1, hx2, hx4, H, h => by
    have hq : z_mth 269 = some z_r269 := rfl
    have ih := fun {X1 : Int32} {x1 : Int} {X2 : Int32} {x2 : Int} {X4 : Int32} {x4 : Int} {σ : zS} {p : Nat} {m : zM} {o : Int × zS} => g_m_judge_L15_ok (xl := xl) (xs := xs) n (X1 := X1) (x1 := x1) (X2 := X2) (x2 := x2) (X4 := X4) (x4 := x4) (σ := σ) (p := p) (m := m) (o := o)
    unfold g_m_judge_L15 at h
    refine r_p hq 2 (pc' := 18) (L' := [(0, .ref 143), (1, .int X1), (2, .int X2), (4, .int X4)]) (st' := [.ref 143, .int X4]) rfl ?_
    refine r_gR (b := 144) (pc' := 21) (L' := [(0, .ref 143), (1, .int X1), (2, .int X2), (4, .int X4)]) H hq (z_at.mk 3 rfl rfl) rfl rfl rfl rfl ?_
    refine r_p hq 1 (pc' := 23) (L' := [(0, .ref 143), (1, .int X1), (2, .int X2), (4, .int X4)]) (st' := [.int ((8 : Int32)), .ref 144, .int X4]) rfl ?_
    refine r_ia (pc' := 24) (L' := [(0, .ref 143), (1, .int X1), (2, .int X2), (4, .int X4)]) H hq (z_at.mk 1 rfl rfl) (show zAr 144 0 2740 = true from rfl) (rfl : (8 : Int32).toInt = 8) ⟨by decide, by decide⟩ rfl rfl ?_
    intro V_23 hV_23
    rcases z_ite h with ⟨c_24, h⟩ | ⟨c_24, h⟩
    · refine r_t2 (pc' := 87) (L' := [(0, .ref 143), (1, .int X1), (2, .int X2), (4, .int X4)]) hq (z_at.mk 3 rfl rfl) rfl hx4 hV_23 c_24 rfl rfl ?_
      refine r_p hq 1 (pc' := 89) (L' := [(0, .ref 143), (1, .int X1), (2, .int X2), (4, .int X4)]) (st' := [.int ((-5 : Int32))]) rfl ?_
      cases h
      exact r_ri hq (z_at.mk 1 rfl rfl) rfl rfl (rfl : (-5 : Int32).toInt = -5) rfl H
    · refine r_f2 (pc' := 27) (L' := [(0, .ref 143), (1, .int X1), (2, .int X2), (4, .int X4)]) hq (z_at.mk 3 rfl rfl) rfl hx4 hV_23 c_24 rfl rfl ?_
      refine r_p hq 1 (pc' := 28) (L' := [(0, .ref 143), (1, .int X1), (2, .int X2), (4, .int X4)]) (st' := [.int X2]) rfl ?_
      rcases z_ite h with ⟨c_28, h⟩ | ⟨c_28, h⟩
      · refine r_t1 (pc' := 44) (L' := [(4, .int X4)]) hq (z_at.mk 3 rfl rfl) rfl hx2 c_28 rfl rfl ?_
        refine r_p hq 3 (pc' := 49) (L' := [(4, .int X4)]) (st' := [.int (((100 : Int32)) + X4)]) rfl ?_
        cases h
        exact r_ri hq (z_at.mk 1 rfl rfl) rfl rfl (tx_iadd (rfl : (100 : Int32).toInt = 100) hx4) rfl H
      · refine r_f1 (pc' := 31) (L' := [(0, .ref 143), (1, .int X1), (2, .int X2), (4, .int X4)]) hq (z_at.mk 3 rfl rfl) rfl hx2 c_28 rfl rfl ?_
        refine r_p hq 2 (pc' := 34) (L' := [(0, .ref 143), (1, .int X1), (2, .int X2), (4, .int X4)]) (st' := [.ref 143, .int X4]) rfl ?_
        refine r_gR (b := 166) (pc' := 37) (L' := [(0, .ref 143), (1, .int X1), (2, .int X2), (4, .int X4)]) H hq (z_at.mk 3 rfl rfl) rfl rfl rfl rfl ?_
        refine r_p hq 1 (pc' := 38) (L' := [(0, .ref 143), (1, .int X1), (2, .int X2), (4, .int X4)]) (st' := [.int X1, .ref 166, .int X4]) rfl ?_
        obtain ⟨g_38, h⟩ := z_ifo_some h
        refine r_ia (pc' := 39) (L' := [(0, .ref 143), (1, .int X1), (2, .int X2), (4, .int X4)]) H hq (z_at.mk 1 rfl rfl) (show zAr 166 0 6 = true from rfl) hx1 g_38 rfl rfl ?_
        intro V_38 hV_38
        refine r_p hq 2 (pc' := 41) (L' := [(0, .ref 143), (1, .int X1), (2, .int X2), (4, .int X4)]) (st' := [.int (V_38 - X2), .int X4]) rfl ?_
        rcases z_ite h with ⟨c_41, h⟩ | ⟨c_41, h⟩
        · refine r_t2 (pc' := 50) (L' := [(0, .ref 143), (1, .int X1), (2, .int X2), (4, .int X4)]) hq (z_at.mk 3 rfl rfl) rfl hx4 (tx_isub hV_38 hx2) c_41 rfl rfl ?_
          refine r_p hq 1 (pc' := 51) (L' := [(0, .ref 143), (1, .int X1), (2, .int X2), (4, .int X4)]) (st' := [.ref 143]) rfl ?_
          refine r_gR (b := 167) (pc' := 54) (L' := [(0, .ref 143), (1, .int X1), (2, .int X2), (4, .int X4)]) H hq (z_at.mk 3 rfl rfl) rfl rfl rfl rfl ?_
          refine r_p hq 7 (pc' := 63) (L' := [(0, .ref 143), (1, .int X1), (2, .int X2), (4, .int X4)]) (st' := [.int (((((60 : Int32)) * X1) + X2) + X4), .ref 167]) rfl ?_
          obtain ⟨g_63, h⟩ := z_ifo_some h
          refine r_la (pc' := 64) (L' := [(0, .ref 143), (1, .int X1), (2, .int X2), (4, .int X4)]) H hq (z_at.mk 1 rfl rfl) (show zAr 167 1 360 = true from rfl) (tx_iadd (tx_iadd (tx_imul (rfl : (60 : Int32).toInt = 60) hx1) hx2) hx4) g_63 rfl rfl ?_
          intro V_63 hV_63
          refine r_p hq 1 (pc' := 65) (L' := [(0, .ref 143), (1, .int X1), (2, .int X2), (4, .int X4)]) (st' := [.ref 143, .long V_63]) rfl ?_
          refine r_gR (b := 147) (pc' := 68) (L' := [(0, .ref 143), (1, .int X1), (2, .int X2), (4, .int X4)]) H hq (z_at.mk 3 rfl rfl) rfl rfl rfl rfl ?_
          refine r_p hq 3 (pc' := 73) (L' := [(0, .ref 143), (1, .int X1), (2, .int X2), (4, .int X4)]) (st' := [.int (((61 : Int32)) + X4), .ref 147, .long V_63]) rfl ?_
          obtain ⟨g_73, h⟩ := z_ifo_some h
          refine r_la (pc' := 74) (L' := [(0, .ref 143), (1, .int X1), (2, .int X2), (4, .int X4)]) H hq (z_at.mk 1 rfl rfl) (show zAr 147 1 361 = true from rfl) (tx_iadd (rfl : (61 : Int32).toInt = 61) hx4) g_73 rfl rfl ?_
          intro V_73 hV_73
          refine r_p hq 1 (pc' := 75) (L' := [(0, .ref 143), (1, .int X1), (2, .int X2), (4, .int X4)]) (st' := [.int (lg_cmp V_63 V_73)]) rfl ?_
          rcases z_ite h with ⟨c_75, h⟩ | ⟨c_75, h⟩
          · refine r_t1 (pc' := 81) (L' := [(0, .ref 143), (1, .int X1), (2, .int X2), (4, .int X4)]) hq (z_at.mk 3 rfl rfl) rfl (tx_lcmp hV_63 hV_73) c_75 rfl rfl ?_
            refine r_p hq 2 (pc' := 15) (L' := [(0, .ref 143), (1, .int X1), (2, .int X2), (4, .int (X4 + (1 : Int32)))]) (st' := []) rfl ?_
            exact ih hx1 hx2 (tx_iadd hx4 (rfl : (1 : Int32).toInt = 1)) H h
          · refine r_f1 (pc' := 78) (L' := [(0, .ref 143), (1, .int X1), (2, .int X2), (4, .int X4)]) hq (z_at.mk 3 rfl rfl) rfl (tx_lcmp hV_63 hV_73) c_75 rfl rfl ?_
            refine r_p hq 1 (pc' := 80) (L' := [(0, .ref 143), (1, .int X1), (2, .int X2), (4, .int X4)]) (st' := [.int X4]) rfl ?_
            cases h
            exact r_ri hq (z_at.mk 1 rfl rfl) rfl rfl hx4 rfl H
        · refine r_f2 (pc' := 44) (L' := [(4, .int X4)]) hq (z_at.mk 3 rfl rfl) rfl hx4 (tx_isub hV_38 hx2) c_41 rfl rfl ?_
          refine r_p hq 3 (pc' := 49) (L' := [(4, .int X4)]) (st' := [.int (((100 : Int32)) + X4)]) rfl ?_
          cases h
          exact r_ri hq (z_at.mk 1 rfl rfl) rfl rfl (tx_iadd (rfl : (100 : Int32).toInt = 100) hx4) rfl H
def g_m_judge (x1 : Int) (x2 : Int) (σ : zS) : Option (Int × zS) :=
  (g_m_wrong x1 σ).bind fun o_2 =>
  if o_2.1 = 0 then
    g_m_judge_L15 zK x1 x2 0 o_2.2
  else
    some (o_2.1, o_2.2)
set_option maxHeartbeats 4000000 in
theorem g_m_judge_ok {xl : Nat} {xs : Nat → Int32} {X1 : Int32} {x1 : Int} (hx1 : X1.toInt = x1) {X2 : Int32} {x2 : Int} (hx2 : X2.toInt = x2) {σ : zS} {p : Nat} {m : zM} {o : Int × zS} (H : zRep xl xs p m σ) (h : g_m_judge x1 x2 σ = some o) : zGo xl xs (fun p' => p = p') 4 269 0 (z_can 269 0 (lv_args 0 [.ref 143, .int X1, .int X2])) [] m (vI o.1) o.2 := by
  have hq : z_mth 269 = some z_r269 := rfl
  unfold g_m_judge at h
  show zGo xl xs (fun p' => p = p') 4 269 0 [(0, .ref 143), (1, .int X1), (2, .int X2)] [] m (vI o.1) o.2
  refine r_p hq 2 (pc' := 2) (L' := [(0, .ref 143), (1, .int X1), (2, .int X2)]) (st' := [.int X1, .ref 143]) rfl ?_
  obtain ⟨o_2, h_2, h⟩ := Option.bind_eq_some_iff.mp h
  refine r_cvI (pc' := 5) (L' := [(0, .ref 143), (1, .int X1), (2, .int X2)]) (Ps := [.int X1]) (rest := []) hq (z_at.mk 3 rfl rfl) (Or.inl ⟨rfl, rfl⟩) rfl rfl (by decide) (by decide) rfl (Nat.not_lt.mpr (Nat.le_of_ble_eq_true rfl)) rfl rfl (z_cat_le 0 rfl (by decide)) (z_lgl_le 2 rfl (by decide)) (by decide) (H.tg rfl) (by omega) (g_m_wrong_ok hx1 H h_2) rfl rfl ?_
  intro R_2 m_2 p_2 e_2 hR_2 H_2
  subst e_2
  refine r_p hq 2 (pc' := 7) (L' := [(3, .int R_2), (0, .ref 143), (1, .int X1), (2, .int X2)]) (st' := [.int R_2]) rfl ?_
  rcases z_ite h with ⟨c_7, h⟩ | ⟨c_7, h⟩
  · refine r_t1 (pc' := 12) (L' := [(3, .int R_2), (0, .ref 143), (1, .int X1), (2, .int X2)]) hq (z_at.mk 3 rfl rfl) rfl hR_2 c_7 rfl rfl ?_
    refine r_p hq 2 (pc' := 15) (L' := [(0, .ref 143), (1, .int X1), (2, .int X2), (4, .int ((0 : Int32)))]) (st' := []) rfl ?_
    exact g_m_judge_L15_ok zK hx1 hx2 (rfl : (0 : Int32).toInt = 0) H_2 h
  · refine r_f1 (pc' := 10) (L' := [(3, .int R_2), (0, .ref 143), (1, .int X1), (2, .int X2)]) hq (z_at.mk 3 rfl rfl) rfl hR_2 c_7 rfl rfl ?_
    refine r_p hq 1 (pc' := 11) (L' := [(3, .int R_2), (0, .ref 143), (1, .int X1), (2, .int X2)]) (st' := [.int R_2]) rfl ?_
    cases h
    exact r_ri hq (z_at.mk 1 rfl rfl) rfl rfl hR_2 rfl H_2
def g_m_image (σ : zS) : Option (Int × zS) :=
  (g_m_keeps 145 148 σ).bind fun o_9 =>
  let s_14 := zu o_9.2 143 6 1
  let v_22 := s_14 144 0
  some (v_22, s_14)
set_option maxHeartbeats 4000000 in
theorem g_m_image_ok {xl : Nat} {xs : Nat → Int32} {σ : zS} {p : Nat} {m : zM} {o : Int × zS} (H : zRep xl xs p m σ) (h : g_m_image σ = some o) : zGo xl xs (fun p' => p = p') 2 270 0 (z_can 270 0 (lv_args 0 [.ref 143])) [] m (vI o.1) o.2 := by
  have hq : z_mth 270 = some z_r270 := rfl
  unfold g_m_image at h
  show zGo xl xs (fun p' => p = p') 2 270 0 [(0, .ref 143)] [] m (vI o.1) o.2
  refine r_p hq 2 (pc' := 2) (L' := [(0, .ref 143)]) (st' := [.ref 143, .ref 143]) rfl ?_
  refine r_gR (b := 145) (pc' := 5) (L' := [(0, .ref 143)]) H hq (z_at.mk 3 rfl rfl) rfl rfl rfl rfl ?_
  refine r_p hq 1 (pc' := 6) (L' := [(0, .ref 143)]) (st' := [.ref 143, .ref 145, .ref 143]) rfl ?_
  refine r_gR (b := 148) (pc' := 9) (L' := [(0, .ref 143)]) H hq (z_at.mk 3 rfl rfl) rfl rfl rfl rfl ?_
  obtain ⟨o_9, h_9, h⟩ := Option.bind_eq_some_iff.mp h
  refine r_cvV (pc' := 12) (L' := [(0, .ref 143)]) (Ps := [.ref 145, .ref 148]) (rest := []) hq (z_at.mk 3 rfl rfl) (Or.inl ⟨rfl, rfl⟩) rfl rfl (by decide) (by decide) rfl (Nat.not_lt.mpr (Nat.le_of_ble_eq_true rfl)) rfl rfl (z_cat_le 0 rfl (by decide)) (z_lgl_le 3 rfl (by decide)) (by decide) (H.tg rfl) (by omega) (g_m_keeps_ok rfl rfl H h_9) rfl rfl ?_
  intro m_9 p_9 e_9 H_9
  subst e_9
  refine r_p hq 2 (pc' := 14) (L' := [(0, .ref 143)]) (st' := [.int ((1 : Int32)), .ref 143]) rfl ?_
  refine r_pI (X := (1 : Int32)) (pc' := 17) (L' := [(0, .ref 143)]) H_9 hq (z_at.mk 3 rfl rfl) rfl rfl (rfl : (1 : Int32).toInt = 1) (by decide) rfl rfl rfl rfl ?_
  intro m_14 H_14
  refine r_p hq 1 (pc' := 18) (L' := [(0, .ref 143)]) (st' := [.ref 143]) rfl ?_
  refine r_gR (b := 144) (pc' := 21) (L' := [(0, .ref 143)]) H_14 hq (z_at.mk 3 rfl rfl) rfl rfl rfl rfl ?_
  refine r_p hq 1 (pc' := 22) (L' := [(0, .ref 143)]) (st' := [.int ((0 : Int32)), .ref 144]) rfl ?_
  refine r_ia (pc' := 23) (L' := [(0, .ref 143)]) H_14 hq (z_at.mk 1 rfl rfl) (show zAr 144 0 2740 = true from rfl) (rfl : (0 : Int32).toInt = 0) ⟨by decide, by decide⟩ rfl rfl ?_
  intro V_22 hV_22
  cases h
  exact r_ri hq (z_at.mk 1 rfl rfl) rfl rfl hV_22 rfl H_14
def g_m_undo (σ : zS) : Option (Int × zS) :=
  let v_1 := σ 143 6
  if v_1 ≠ 0 then
    (g_m_back 145 148 σ).bind fun o_19 =>
    let v_27 := o_19.2 144 0
    some (v_27, o_19.2)
  else
    some (-3, σ)
set_option maxHeartbeats 4000000 in
theorem g_m_undo_ok {xl : Nat} {xs : Nat → Int32} {σ : zS} {p : Nat} {m : zM} {o : Int × zS} (H : zRep xl xs p m σ) (h : g_m_undo σ = some o) : zGo xl xs (fun p' => p = p') 2 271 0 (z_can 271 0 (lv_args 0 [.ref 143])) [] m (vI o.1) o.2 := by
  have hq : z_mth 271 = some z_r271 := rfl
  unfold g_m_undo at h
  show zGo xl xs (fun p' => p = p') 2 271 0 [(0, .ref 143)] [] m (vI o.1) o.2
  refine r_p hq 1 (pc' := 1) (L' := [(0, .ref 143)]) (st' := [.ref 143]) rfl ?_
  refine r_gI (pc' := 4) (L' := [(0, .ref 143)]) H hq (z_at.mk 3 rfl rfl) rfl rfl rfl rfl ?_
  intro V_1 hV_1
  rcases z_ite h with ⟨c_4, h⟩ | ⟨c_4, h⟩
  · refine r_t1 (pc' := 10) (L' := [(0, .ref 143)]) hq (z_at.mk 3 rfl rfl) rfl hV_1 c_4 rfl rfl ?_
    refine r_p hq 2 (pc' := 12) (L' := [(0, .ref 143)]) (st' := [.ref 143, .ref 143]) rfl ?_
    refine r_gR (b := 145) (pc' := 15) (L' := [(0, .ref 143)]) H hq (z_at.mk 3 rfl rfl) rfl rfl rfl rfl ?_
    refine r_p hq 1 (pc' := 16) (L' := [(0, .ref 143)]) (st' := [.ref 143, .ref 145, .ref 143]) rfl ?_
    refine r_gR (b := 148) (pc' := 19) (L' := [(0, .ref 143)]) H hq (z_at.mk 3 rfl rfl) rfl rfl rfl rfl ?_
    obtain ⟨o_19, h_19, h⟩ := Option.bind_eq_some_iff.mp h
    refine r_cvV (pc' := 22) (L' := [(0, .ref 143)]) (Ps := [.ref 145, .ref 148]) (rest := []) hq (z_at.mk 3 rfl rfl) (Or.inl ⟨rfl, rfl⟩) rfl rfl (by decide) (by decide) rfl (Nat.not_lt.mpr (Nat.le_of_ble_eq_true rfl)) rfl rfl (z_cat_le 0 rfl (by decide)) (z_lgl_le 3 rfl (by decide)) (by decide) (H.tg rfl) (by omega) (g_m_back_ok rfl rfl H h_19) rfl rfl ?_
    intro m_19 p_19 e_19 H_19
    subst e_19
    refine r_p hq 1 (pc' := 23) (L' := [(0, .ref 143)]) (st' := [.ref 143]) rfl ?_
    refine r_gR (b := 144) (pc' := 26) (L' := [(0, .ref 143)]) H_19 hq (z_at.mk 3 rfl rfl) rfl rfl rfl rfl ?_
    refine r_p hq 1 (pc' := 27) (L' := [(0, .ref 143)]) (st' := [.int ((0 : Int32)), .ref 144]) rfl ?_
    refine r_ia (pc' := 28) (L' := [(0, .ref 143)]) H_19 hq (z_at.mk 1 rfl rfl) (show zAr 144 0 2740 = true from rfl) (rfl : (0 : Int32).toInt = 0) ⟨by decide, by decide⟩ rfl rfl ?_
    intro V_27 hV_27
    cases h
    exact r_ri hq (z_at.mk 1 rfl rfl) rfl rfl hV_27 rfl H_19
  · refine r_f1 (pc' := 7) (L' := [(0, .ref 143)]) hq (z_at.mk 3 rfl rfl) rfl hV_1 c_4 rfl rfl ?_
    refine r_p hq 1 (pc' := 9) (L' := [(0, .ref 143)]) (st' := [.int ((-3 : Int32))]) rfl ?_
    cases h
    exact r_ri hq (z_at.mk 1 rfl rfl) rfl rfl (rfl : (-3 : Int32).toInt = -3) rfl H
end
section
/-! 22.law -/
/-! THE LAW over the typed memory, from its loop on (by wip/zg.py) -/
def g_jRangeAnswersLaw_law_L1367 (xl : Nat) (xs : Nat → Int32) (g18 : Int → zS → Option (Int × zS)) (x3 : Int) (σ : zS) : Option (Int × zS) :=
  g18 (w32 (x3 + 6)) σ
set_option maxHeartbeats 4000000 in
theorem g_jRangeAnswersLaw_law_L1367_ok {xl : Nat} {xs : Nat → Int32} (hxl : xl < 2147483648) {g18 : Int → zS → Option (Int × zS)} (hg18 : ∀ {X3 : Int32} {x3 : Int} {σ : zS} {p : Nat} {m : zM} {o : Int × zS}, X3.toInt = x3 → zRep xl xs p m σ → g18 x3 σ = some o → zGo xl xs (fun _ => True) 510 1000 18 [(0, .ref 0), (1, .ref 39), (2, .ref 143), (3, .int X3)] [] m (vI o.1) o.2) {X3 : Int32} {x3 : Int} (hx3 : X3.toInt = x3) {σ : zS} {p : Nat} {m : zM} {o : Int × zS} (H : zRep xl xs p m σ) (h : g_jRangeAnswersLaw_law_L1367 xl xs g18 x3 σ = some o) : zGo xl xs (fun _ => True) 510 1000 1367 [(0, .ref 0), (1, .ref 39), (2, .ref 143), (3, .int X3)] [] m (vI o.1) o.2 := by
  have hq : z_mth 1000 = some z_rL := rfl
  unfold g_jRangeAnswersLaw_law_L1367 at h
  refine r_p hq 2 (pc' := 18) (L' := [(0, .ref 0), (1, .ref 39), (2, .ref 143), (3, .int (X3 + (6 : Int32)))]) (st' := []) rfl ?_
  exact hg18 (tx_iadd hx3 (rfl : (6 : Int32).toInt = 6)) H h
def g_jRangeAnswersLaw_law_L18 (xl : Nat) (xs : Nat → Int32) : Nat → Int → zS → Option (Int × zS)
  | 0, _, _ => none
  | n + 1, x3, σ =>
    if w32 (((xl : Int)) - 6) < x3 then
      some (1, σ)
    else
      if 0 ≤ x3 ∧ x3 < (xl : Int) then
      let v_29 := (xs (x3).toNat).toInt
      if iAnd v_29 63 = 0 then
        if 0 ≤ w32 (x3 + 1) ∧ w32 (x3 + 1) < (xl : Int) then
        let v_201 := (xs (w32 (x3 + 1)).toNat).toInt
        if 0 ≤ w32 (x3 + 2) ∧ w32 (x3 + 2) < (xl : Int) then
        let v_206 := (xs (w32 (x3 + 2)).toNat).toInt
        if 0 ≤ w32 (x3 + 3) ∧ w32 (x3 + 3) < (xl : Int) then
        let v_211 := (xs (w32 (x3 + 3)).toNat).toInt
        if 0 ≤ w32 (x3 + 4) ∧ w32 (x3 + 4) < (xl : Int) then
        let v_216 := (xs (w32 (x3 + 4)).toNat).toInt
        if 0 ≤ w32 (x3 + 5) ∧ w32 (x3 + 5) < (xl : Int) then
        let v_225 := (xs (w32 (x3 + 5)).toNat).toInt
        (g_c_put v_201 v_206 v_211 (lOr (lShl v_216 32) (lAnd v_225 4294967295)) σ).bind fun o_232 =>
        if 0 ≤ w32 (x3 + 1) ∧ w32 (x3 + 1) < (xl : Int) then
        let v_241 := (xs (w32 (x3 + 1)).toNat).toInt
        if 0 ≤ w32 (x3 + 2) ∧ w32 (x3 + 2) < (xl : Int) then
        let v_246 := (xs (w32 (x3 + 2)).toNat).toInt
        if 0 ≤ w32 (x3 + 3) ∧ w32 (x3 + 3) < (xl : Int) then
        let v_251 := (xs (w32 (x3 + 3)).toNat).toInt
        if 0 ≤ w32 (x3 + 4) ∧ w32 (x3 + 4) < (xl : Int) then
        let v_256 := (xs (w32 (x3 + 4)).toNat).toInt
        if 0 ≤ w32 (x3 + 5) ∧ w32 (x3 + 5) < (xl : Int) then
        let v_265 := (xs (w32 (x3 + 5)).toNat).toInt
        (g_m_put v_241 v_246 v_251 (lOr (lShl v_256 32) (lAnd v_265 4294967295)) o_232.2).bind fun o_272 =>
        g_jRangeAnswersLaw_law_L1367 xl xs ((g_jRangeAnswersLaw_law_L18 xl xs n)) x3 o_272.2
        else none
        else none
        else none
        else none
        else none
        else none
        else none
        else none
        else none
        else none
      else
      if iAnd v_29 63 = 1 then
        if 0 ≤ w32 (x3 + 1) ∧ w32 (x3 + 1) < (xl : Int) then
        let v_284 := (xs (w32 (x3 + 1)).toNat).toInt
        (g_c_take v_284 σ).bind fun o_285 =>
        if 0 ≤ w32 (x3 + 1) ∧ w32 (x3 + 1) < (xl : Int) then
        let v_294 := (xs (w32 (x3 + 1)).toNat).toInt
        (g_m_take v_294 o_285.2).bind fun o_295 =>
        g_jRangeAnswersLaw_law_L1367 xl xs ((g_jRangeAnswersLaw_law_L18 xl xs n)) x3 o_295.2
        else none
        else none
      else
      if iAnd v_29 63 = 2 then
        if 0 ≤ w32 (x3 + 1) ∧ w32 (x3 + 1) < (xl : Int) then
        let v_307 := (xs (w32 (x3 + 1)).toNat).toInt
        if 0 ≤ w32 (x3 + 2) ∧ w32 (x3 + 2) < (xl : Int) then
        let v_312 := (xs (w32 (x3 + 2)).toNat).toInt
        (g_c_row v_307 v_312 σ).bind fun o_313 =>
        if 0 ≤ w32 (x3 + 1) ∧ w32 (x3 + 1) < (xl : Int) then
        let v_322 := (xs (w32 (x3 + 1)).toNat).toInt
        if 0 ≤ w32 (x3 + 2) ∧ w32 (x3 + 2) < (xl : Int) then
        let v_327 := (xs (w32 (x3 + 2)).toNat).toInt
        (g_m_row v_322 v_327 o_313.2).bind fun o_328 =>
        g_jRangeAnswersLaw_law_L1367 xl xs ((g_jRangeAnswersLaw_law_L18 xl xs n)) x3 o_328.2
        else none
        else none
        else none
        else none
      else
      if iAnd v_29 63 = 3 then
        if 0 ≤ w32 (x3 + 1) ∧ w32 (x3 + 1) < (xl : Int) then
        let v_340 := (xs (w32 (x3 + 1)).toNat).toInt
        (g_c_worth v_340 σ).bind fun o_341 =>
        if 0 ≤ w32 (x3 + 1) ∧ w32 (x3 + 1) < (xl : Int) then
        let v_350 := (xs (w32 (x3 + 1)).toNat).toInt
        (g_m_worth v_350 o_341.2).bind fun o_351 =>
        g_jRangeAnswersLaw_law_L1367 xl xs ((g_jRangeAnswersLaw_law_L18 xl xs n)) x3 o_351.2
        else none
        else none
      else
      if iAnd v_29 63 = 4 then
        if 0 ≤ w32 (x3 + 1) ∧ w32 (x3 + 1) < (xl : Int) then
        let v_363 := (xs (w32 (x3 + 1)).toNat).toInt
        (g_c_feed v_363 σ).bind fun o_364 =>
        if 0 ≤ w32 (x3 + 1) ∧ w32 (x3 + 1) < (xl : Int) then
        let v_373 := (xs (w32 (x3 + 1)).toNat).toInt
        (g_m_feed v_373 o_364.2).bind fun o_374 =>
        g_jRangeAnswersLaw_law_L1367 xl xs ((g_jRangeAnswersLaw_law_L18 xl xs n)) x3 o_374.2
        else none
        else none
      else
      if iAnd v_29 63 = 5 then
        (g_c_clear σ).bind fun o_382 =>
        (g_m_clear o_382.2).bind fun o_387 =>
        g_jRangeAnswersLaw_law_L1367 xl xs ((g_jRangeAnswersLaw_law_L18 xl xs n)) x3 o_387.2
      else
      if iAnd v_29 63 = 6 then
        (g_c_settings σ).bind fun o_395 =>
        (g_m_settings o_395.2).bind fun o_400 =>
        g_jRangeAnswersLaw_law_L1367 xl xs ((g_jRangeAnswersLaw_law_L18 xl xs n)) x3 o_400.2
      else
      if iAnd v_29 63 = 7 then
        if 0 ≤ w32 (x3 + 1) ∧ w32 (x3 + 1) < (xl : Int) then
        let v_412 := (xs (w32 (x3 + 1)).toNat).toInt
        (g_c_setting v_412 σ).bind fun o_413 =>
        if 0 ≤ w32 (x3 + 1) ∧ w32 (x3 + 1) < (xl : Int) then
        let v_422 := (xs (w32 (x3 + 1)).toNat).toInt
        (g_m_setting v_422 o_413.2).bind fun o_423 =>
        g_jRangeAnswersLaw_law_L1367 xl xs ((g_jRangeAnswersLaw_law_L18 xl xs n)) x3 o_423.2
        else none
        else none
      else
      if iAnd v_29 63 = 8 then
        (g_c_run σ).bind fun o_431 =>
        (g_m_run o_431.2).bind fun o_436 =>
        g_jRangeAnswersLaw_law_L1367 xl xs ((g_jRangeAnswersLaw_law_L18 xl xs n)) x3 o_436.2
      else
      if iAnd v_29 63 = 9 then
        if 0 ≤ w32 (x3 + 1) ∧ w32 (x3 + 1) < (xl : Int) then
        let v_448 := (xs (w32 (x3 + 1)).toNat).toInt
        (g_c_answer v_448 σ).bind fun o_449 =>
        if 0 ≤ w32 (x3 + 1) ∧ w32 (x3 + 1) < (xl : Int) then
        let v_458 := (xs (w32 (x3 + 1)).toNat).toInt
        (g_m_answer v_458 o_449.2).bind fun o_459 =>
        g_jRangeAnswersLaw_law_L1367 xl xs ((g_jRangeAnswersLaw_law_L18 xl xs n)) x3 o_459.2
        else none
        else none
      else
      if iAnd v_29 63 = 10 then
        (g_c_spell σ).bind fun o_467 =>
        (g_m_spell o_467.2).bind fun o_472 =>
        g_jRangeAnswersLaw_law_L1367 xl xs ((g_jRangeAnswersLaw_law_L18 xl xs n)) x3 o_472.2
      else
      if iAnd v_29 63 = 11 then
        (g_c_load σ).bind fun o_480 =>
        (g_m_load o_480.2).bind fun o_485 =>
        g_jRangeAnswersLaw_law_L1367 xl xs ((g_jRangeAnswersLaw_law_L18 xl xs n)) x3 o_485.2
      else
      if iAnd v_29 63 = 12 then
        if 0 ≤ w32 (x3 + 1) ∧ w32 (x3 + 1) < (xl : Int) then
        let v_497 := (xs (w32 (x3 + 1)).toNat).toInt
        if 0 ≤ w32 (x3 + 2) ∧ w32 (x3 + 2) < (xl : Int) then
        let v_502 := (xs (w32 (x3 + 2)).toNat).toInt
        if 0 ≤ w32 (x3 + 3) ∧ w32 (x3 + 3) < (xl : Int) then
        let v_507 := (xs (w32 (x3 + 3)).toNat).toInt
        if 0 ≤ w32 (x3 + 4) ∧ w32 (x3 + 4) < (xl : Int) then
        let v_512 := (xs (w32 (x3 + 4)).toNat).toInt
        (g_c_explain v_497 v_502 v_507 v_512 σ).bind fun o_513 =>
        if 0 ≤ w32 (x3 + 1) ∧ w32 (x3 + 1) < (xl : Int) then
        let v_522 := (xs (w32 (x3 + 1)).toNat).toInt
        if 0 ≤ w32 (x3 + 2) ∧ w32 (x3 + 2) < (xl : Int) then
        let v_527 := (xs (w32 (x3 + 2)).toNat).toInt
        if 0 ≤ w32 (x3 + 3) ∧ w32 (x3 + 3) < (xl : Int) then
        let v_532 := (xs (w32 (x3 + 3)).toNat).toInt
        if 0 ≤ w32 (x3 + 4) ∧ w32 (x3 + 4) < (xl : Int) then
        let v_537 := (xs (w32 (x3 + 4)).toNat).toInt
        (g_m_explain v_522 v_527 v_532 v_537 o_513.2).bind fun o_538 =>
        g_jRangeAnswersLaw_law_L1367 xl xs ((g_jRangeAnswersLaw_law_L18 xl xs n)) x3 o_538.2
        else none
        else none
        else none
        else none
        else none
        else none
        else none
        else none
      else
      if iAnd v_29 63 = 13 then
        if 0 ≤ w32 (x3 + 1) ∧ w32 (x3 + 1) < (xl : Int) then
        let v_550 := (xs (w32 (x3 + 1)).toNat).toInt
        (g_c_paper v_550 σ).bind fun o_551 =>
        if 0 ≤ w32 (x3 + 1) ∧ w32 (x3 + 1) < (xl : Int) then
        let v_560 := (xs (w32 (x3 + 1)).toNat).toInt
        (g_m_paper v_560 o_551.2).bind fun o_561 =>
        g_jRangeAnswersLaw_law_L1367 xl xs ((g_jRangeAnswersLaw_law_L18 xl xs n)) x3 o_561.2
        else none
        else none
      else
      if iAnd v_29 63 = 14 then
        if 0 ≤ w32 (x3 + 1) ∧ w32 (x3 + 1) < (xl : Int) then
        let v_573 := (xs (w32 (x3 + 1)).toNat).toInt
        if 0 ≤ w32 (x3 + 2) ∧ w32 (x3 + 2) < (xl : Int) then
        let v_578 := (xs (w32 (x3 + 2)).toNat).toInt
        if 0 ≤ w32 (x3 + 3) ∧ w32 (x3 + 3) < (xl : Int) then
        let v_583 := (xs (w32 (x3 + 3)).toNat).toInt
        if 0 ≤ w32 (x3 + 4) ∧ w32 (x3 + 4) < (xl : Int) then
        let v_588 := (xs (w32 (x3 + 4)).toNat).toInt
        if 0 ≤ w32 (x3 + 5) ∧ w32 (x3 + 5) < (xl : Int) then
        let v_593 := (xs (w32 (x3 + 5)).toNat).toInt
        (g_c_query v_573 v_578 v_583 v_588 v_593 σ).bind fun o_594 =>
        if 0 ≤ w32 (x3 + 1) ∧ w32 (x3 + 1) < (xl : Int) then
        let v_603 := (xs (w32 (x3 + 1)).toNat).toInt
        if 0 ≤ w32 (x3 + 2) ∧ w32 (x3 + 2) < (xl : Int) then
        let v_608 := (xs (w32 (x3 + 2)).toNat).toInt
        if 0 ≤ w32 (x3 + 3) ∧ w32 (x3 + 3) < (xl : Int) then
        let v_613 := (xs (w32 (x3 + 3)).toNat).toInt
        if 0 ≤ w32 (x3 + 4) ∧ w32 (x3 + 4) < (xl : Int) then
        let v_618 := (xs (w32 (x3 + 4)).toNat).toInt
        if 0 ≤ w32 (x3 + 5) ∧ w32 (x3 + 5) < (xl : Int) then
        let v_623 := (xs (w32 (x3 + 5)).toNat).toInt
        (g_m_query v_603 v_608 v_613 v_618 v_623 o_594.2).bind fun o_624 =>
        g_jRangeAnswersLaw_law_L1367 xl xs ((g_jRangeAnswersLaw_law_L18 xl xs n)) x3 o_624.2
        else none
        else none
        else none
        else none
        else none
        else none
        else none
        else none
        else none
        else none
      else
      if iAnd v_29 63 = 15 then
        if 0 ≤ w32 (x3 + 1) ∧ w32 (x3 + 1) < (xl : Int) then
        let v_636 := (xs (w32 (x3 + 1)).toNat).toInt
        (g_c_find v_636 σ).bind fun o_637 =>
        if 0 ≤ w32 (x3 + 1) ∧ w32 (x3 + 1) < (xl : Int) then
        let v_646 := (xs (w32 (x3 + 1)).toNat).toInt
        (g_m_find v_646 o_637.2).bind fun o_647 =>
        g_jRangeAnswersLaw_law_L1367 xl xs ((g_jRangeAnswersLaw_law_L18 xl xs n)) x3 o_647.2
        else none
        else none
      else
      if iAnd v_29 63 = 16 then
        if 0 ≤ w32 (x3 + 1) ∧ w32 (x3 + 1) < (xl : Int) then
        let v_659 := (xs (w32 (x3 + 1)).toNat).toInt
        if 0 ≤ w32 (x3 + 2) ∧ w32 (x3 + 2) < (xl : Int) then
        let v_664 := (xs (w32 (x3 + 2)).toNat).toInt
        if 0 ≤ w32 (x3 + 3) ∧ w32 (x3 + 3) < (xl : Int) then
        let v_669 := (xs (w32 (x3 + 3)).toNat).toInt
        if 0 ≤ w32 (x3 + 4) ∧ w32 (x3 + 4) < (xl : Int) then
        let v_674 := (xs (w32 (x3 + 4)).toNat).toInt
        (g_c_probe v_659 v_664 v_669 v_674 σ).bind fun o_675 =>
        if 0 ≤ w32 (x3 + 1) ∧ w32 (x3 + 1) < (xl : Int) then
        let v_684 := (xs (w32 (x3 + 1)).toNat).toInt
        if 0 ≤ w32 (x3 + 2) ∧ w32 (x3 + 2) < (xl : Int) then
        let v_689 := (xs (w32 (x3 + 2)).toNat).toInt
        if 0 ≤ w32 (x3 + 3) ∧ w32 (x3 + 3) < (xl : Int) then
        let v_694 := (xs (w32 (x3 + 3)).toNat).toInt
        if 0 ≤ w32 (x3 + 4) ∧ w32 (x3 + 4) < (xl : Int) then
        let v_699 := (xs (w32 (x3 + 4)).toNat).toInt
        (g_m_probe v_684 v_689 v_694 v_699 o_675.2).bind fun o_700 =>
        g_jRangeAnswersLaw_law_L1367 xl xs ((g_jRangeAnswersLaw_law_L18 xl xs n)) x3 o_700.2
        else none
        else none
        else none
        else none
        else none
        else none
        else none
        else none
      else
      if iAnd v_29 63 = 17 then
        if 0 ≤ w32 (x3 + 1) ∧ w32 (x3 + 1) < (xl : Int) then
        let v_712 := (xs (w32 (x3 + 1)).toNat).toInt
        if 0 ≤ w32 (x3 + 2) ∧ w32 (x3 + 2) < (xl : Int) then
        let v_717 := (xs (w32 (x3 + 2)).toNat).toInt
        (g_c_piece v_712 v_717 σ).bind fun o_718 =>
        if 0 ≤ w32 (x3 + 1) ∧ w32 (x3 + 1) < (xl : Int) then
        let v_727 := (xs (w32 (x3 + 1)).toNat).toInt
        if 0 ≤ w32 (x3 + 2) ∧ w32 (x3 + 2) < (xl : Int) then
        let v_732 := (xs (w32 (x3 + 2)).toNat).toInt
        (g_m_piece v_727 v_732 o_718.2).bind fun o_733 =>
        g_jRangeAnswersLaw_law_L1367 xl xs ((g_jRangeAnswersLaw_law_L18 xl xs n)) x3 o_733.2
        else none
        else none
        else none
        else none
      else
      if iAnd v_29 63 = 18 then
        if 0 ≤ w32 (x3 + 1) ∧ w32 (x3 + 1) < (xl : Int) then
        let v_745 := (xs (w32 (x3 + 1)).toNat).toInt
        if 0 ≤ w32 (x3 + 2) ∧ w32 (x3 + 2) < (xl : Int) then
        let v_750 := (xs (w32 (x3 + 2)).toNat).toInt
        (g_c_region v_745 v_750 σ).bind fun o_751 =>
        if 0 ≤ w32 (x3 + 1) ∧ w32 (x3 + 1) < (xl : Int) then
        let v_760 := (xs (w32 (x3 + 1)).toNat).toInt
        if 0 ≤ w32 (x3 + 2) ∧ w32 (x3 + 2) < (xl : Int) then
        let v_765 := (xs (w32 (x3 + 2)).toNat).toInt
        (g_m_region_248 v_760 v_765 o_751.2).bind fun o_766 =>
        g_jRangeAnswersLaw_law_L1367 xl xs ((g_jRangeAnswersLaw_law_L18 xl xs n)) x3 o_766.2
        else none
        else none
        else none
        else none
      else
      if iAnd v_29 63 = 19 then
        if 0 ≤ w32 (x3 + 1) ∧ w32 (x3 + 1) < (xl : Int) then
        let v_778 := (xs (w32 (x3 + 1)).toNat).toInt
        (g_c_weight v_778 σ).bind fun o_779 =>
        if 0 ≤ w32 (x3 + 1) ∧ w32 (x3 + 1) < (xl : Int) then
        let v_788 := (xs (w32 (x3 + 1)).toNat).toInt
        (g_m_weight v_788 o_779.2).bind fun o_789 =>
        g_jRangeAnswersLaw_law_L1367 xl xs ((g_jRangeAnswersLaw_law_L18 xl xs n)) x3 o_789.2
        else none
        else none
      else
      if iAnd v_29 63 = 20 then
        if 0 ≤ w32 (x3 + 1) ∧ w32 (x3 + 1) < (xl : Int) then
        let v_801 := (xs (w32 (x3 + 1)).toNat).toInt
        (g_c_told v_801 σ).bind fun o_802 =>
        if 0 ≤ w32 (x3 + 1) ∧ w32 (x3 + 1) < (xl : Int) then
        let v_811 := (xs (w32 (x3 + 1)).toNat).toInt
        (g_m_told v_811 o_802.2).bind fun o_812 =>
        g_jRangeAnswersLaw_law_L1367 xl xs ((g_jRangeAnswersLaw_law_L18 xl xs n)) x3 o_812.2
        else none
        else none
      else
      if iAnd v_29 63 = 21 then
        (g_c_flush σ).bind fun o_820 =>
        (g_m_flush o_820.2).bind fun o_825 =>
        g_jRangeAnswersLaw_law_L1367 xl xs ((g_jRangeAnswersLaw_law_L18 xl xs n)) x3 o_825.2
      else
      if iAnd v_29 63 = 22 then
        if 0 ≤ w32 (x3 + 1) ∧ w32 (x3 + 1) < (xl : Int) then
        let v_837 := (xs (w32 (x3 + 1)).toNat).toInt
        (g_c_keep v_837 σ).bind fun o_838 =>
        if 0 ≤ w32 (x3 + 1) ∧ w32 (x3 + 1) < (xl : Int) then
        let v_846 := (xs (w32 (x3 + 1)).toNat).toInt
        (g_m_keep v_846 o_838.2).bind fun o_847 =>
        if o_838.1 = o_847.1 then
          g_jRangeAnswersLaw_law_L1367 xl xs ((g_jRangeAnswersLaw_law_L18 xl xs n)) x3 o_847.2
        else
          some (0, o_847.2)
        else none
        else none
      else
      if iAnd v_29 63 = 23 then
        if 0 ≤ w32 (x3 + 1) ∧ w32 (x3 + 1) < (xl : Int) then
        let v_860 := (xs (w32 (x3 + 1)).toNat).toInt
        if 0 ≤ w32 (x3 + 2) ∧ w32 (x3 + 2) < (xl : Int) then
        let v_865 := (xs (w32 (x3 + 2)).toNat).toInt
        if 0 ≤ w32 (x3 + 3) ∧ w32 (x3 + 3) < (xl : Int) then
        let v_870 := (xs (w32 (x3 + 3)).toNat).toInt
        if 0 ≤ w32 (x3 + 4) ∧ w32 (x3 + 4) < (xl : Int) then
        let v_875 := (xs (w32 (x3 + 4)).toNat).toInt
        (g_c_trace v_860 v_865 v_870 v_875 σ).bind fun o_876 =>
        if 0 ≤ w32 (x3 + 1) ∧ w32 (x3 + 1) < (xl : Int) then
        let v_885 := (xs (w32 (x3 + 1)).toNat).toInt
        if 0 ≤ w32 (x3 + 2) ∧ w32 (x3 + 2) < (xl : Int) then
        let v_890 := (xs (w32 (x3 + 2)).toNat).toInt
        if 0 ≤ w32 (x3 + 3) ∧ w32 (x3 + 3) < (xl : Int) then
        let v_895 := (xs (w32 (x3 + 3)).toNat).toInt
        if 0 ≤ w32 (x3 + 4) ∧ w32 (x3 + 4) < (xl : Int) then
        let v_900 := (xs (w32 (x3 + 4)).toNat).toInt
        (g_m_trace v_885 v_890 v_895 v_900 o_876.2).bind fun o_901 =>
        g_jRangeAnswersLaw_law_L1367 xl xs ((g_jRangeAnswersLaw_law_L18 xl xs n)) x3 o_901.2
        else none
        else none
        else none
        else none
        else none
        else none
        else none
        else none
      else
      if iAnd v_29 63 = 24 then
        if 0 ≤ w32 (x3 + 1) ∧ w32 (x3 + 1) < (xl : Int) then
        let v_913 := (xs (w32 (x3 + 1)).toNat).toInt
        if 0 ≤ w32 (x3 + 2) ∧ w32 (x3 + 2) < (xl : Int) then
        let v_918 := (xs (w32 (x3 + 2)).toNat).toInt
        (g_c_again v_913 v_918 σ).bind fun o_919 =>
        if 0 ≤ w32 (x3 + 1) ∧ w32 (x3 + 1) < (xl : Int) then
        let v_928 := (xs (w32 (x3 + 1)).toNat).toInt
        if 0 ≤ w32 (x3 + 2) ∧ w32 (x3 + 2) < (xl : Int) then
        let v_933 := (xs (w32 (x3 + 2)).toNat).toInt
        (g_m_again v_928 v_933 o_919.2).bind fun o_934 =>
        g_jRangeAnswersLaw_law_L1367 xl xs ((g_jRangeAnswersLaw_law_L18 xl xs n)) x3 o_934.2
        else none
        else none
        else none
        else none
      else
      if iAnd v_29 63 = 25 then
        if 0 ≤ w32 (x3 + 1) ∧ w32 (x3 + 1) < (xl : Int) then
        let v_946 := (xs (w32 (x3 + 1)).toNat).toInt
        (g_c_least v_946 σ).bind fun o_947 =>
        if 0 ≤ w32 (x3 + 1) ∧ w32 (x3 + 1) < (xl : Int) then
        let v_956 := (xs (w32 (x3 + 1)).toNat).toInt
        (g_m_least v_956 o_947.2).bind fun o_957 =>
        g_jRangeAnswersLaw_law_L1367 xl xs ((g_jRangeAnswersLaw_law_L18 xl xs n)) x3 o_957.2
        else none
        else none
      else
      if iAnd v_29 63 = 26 then
        if 0 ≤ w32 (x3 + 1) ∧ w32 (x3 + 1) < (xl : Int) then
        let v_969 := (xs (w32 (x3 + 1)).toNat).toInt
        if 0 ≤ w32 (x3 + 2) ∧ w32 (x3 + 2) < (xl : Int) then
        let v_974 := (xs (w32 (x3 + 2)).toNat).toInt
        if 0 ≤ w32 (x3 + 3) ∧ w32 (x3 + 3) < (xl : Int) then
        let v_979 := (xs (w32 (x3 + 3)).toNat).toInt
        if 0 ≤ w32 (x3 + 4) ∧ w32 (x3 + 4) < (xl : Int) then
        let v_984 := (xs (w32 (x3 + 4)).toNat).toInt
        if 0 ≤ w32 (x3 + 5) ∧ w32 (x3 + 5) < (xl : Int) then
        let v_989 := (xs (w32 (x3 + 5)).toNat).toInt
        (g_c_watch v_969 v_974 v_979 v_984 v_989 σ).bind fun o_990 =>
        if 0 ≤ w32 (x3 + 1) ∧ w32 (x3 + 1) < (xl : Int) then
        let v_999 := (xs (w32 (x3 + 1)).toNat).toInt
        if 0 ≤ w32 (x3 + 2) ∧ w32 (x3 + 2) < (xl : Int) then
        let v_1004 := (xs (w32 (x3 + 2)).toNat).toInt
        if 0 ≤ w32 (x3 + 3) ∧ w32 (x3 + 3) < (xl : Int) then
        let v_1009 := (xs (w32 (x3 + 3)).toNat).toInt
        if 0 ≤ w32 (x3 + 4) ∧ w32 (x3 + 4) < (xl : Int) then
        let v_1014 := (xs (w32 (x3 + 4)).toNat).toInt
        if 0 ≤ w32 (x3 + 5) ∧ w32 (x3 + 5) < (xl : Int) then
        let v_1019 := (xs (w32 (x3 + 5)).toNat).toInt
        (g_m_watch v_999 v_1004 v_1009 v_1014 v_1019 o_990.2).bind fun o_1020 =>
        g_jRangeAnswersLaw_law_L1367 xl xs ((g_jRangeAnswersLaw_law_L18 xl xs n)) x3 o_1020.2
        else none
        else none
        else none
        else none
        else none
        else none
        else none
        else none
        else none
        else none
      else
      if iAnd v_29 63 = 27 then
        if 0 ≤ w32 (x3 + 1) ∧ w32 (x3 + 1) < (xl : Int) then
        let v_1032 := (xs (w32 (x3 + 1)).toNat).toInt
        (g_c_value v_1032 σ).bind fun o_1033 =>
        if 0 ≤ w32 (x3 + 1) ∧ w32 (x3 + 1) < (xl : Int) then
        let v_1042 := (xs (w32 (x3 + 1)).toNat).toInt
        (g_m_value v_1042 o_1033.2).bind fun o_1043 =>
        g_jRangeAnswersLaw_law_L1367 xl xs ((g_jRangeAnswersLaw_law_L18 xl xs n)) x3 o_1043.2
        else none
        else none
      else
      if iAnd v_29 63 = 28 then
        if 0 ≤ w32 (x3 + 1) ∧ w32 (x3 + 1) < (xl : Int) then
        let v_1055 := (xs (w32 (x3 + 1)).toNat).toInt
        (g_c_changes v_1055 σ).bind fun o_1056 =>
        if 0 ≤ w32 (x3 + 1) ∧ w32 (x3 + 1) < (xl : Int) then
        let v_1065 := (xs (w32 (x3 + 1)).toNat).toInt
        (g_m_changes v_1065 o_1056.2).bind fun o_1066 =>
        g_jRangeAnswersLaw_law_L1367 xl xs ((g_jRangeAnswersLaw_law_L18 xl xs n)) x3 o_1066.2
        else none
        else none
      else
      if iAnd v_29 63 = 29 then
        if 0 ≤ w32 (x3 + 1) ∧ w32 (x3 + 1) < (xl : Int) then
        let v_1078 := (xs (w32 (x3 + 1)).toNat).toInt
        if 0 ≤ w32 (x3 + 2) ∧ w32 (x3 + 2) < (xl : Int) then
        let v_1083 := (xs (w32 (x3 + 2)).toNat).toInt
        (g_c_list v_1078 v_1083 σ).bind fun o_1084 =>
        if 0 ≤ w32 (x3 + 1) ∧ w32 (x3 + 1) < (xl : Int) then
        let v_1093 := (xs (w32 (x3 + 1)).toNat).toInt
        if 0 ≤ w32 (x3 + 2) ∧ w32 (x3 + 2) < (xl : Int) then
        let v_1098 := (xs (w32 (x3 + 2)).toNat).toInt
        (g_m_list v_1093 v_1098 o_1084.2).bind fun o_1099 =>
        g_jRangeAnswersLaw_law_L1367 xl xs ((g_jRangeAnswersLaw_law_L18 xl xs n)) x3 o_1099.2
        else none
        else none
        else none
        else none
      else
      if iAnd v_29 63 = 30 then
        if 0 ≤ w32 (x3 + 1) ∧ w32 (x3 + 1) < (xl : Int) then
        let v_1111 := (xs (w32 (x3 + 1)).toNat).toInt
        if 0 ≤ w32 (x3 + 2) ∧ w32 (x3 + 2) < (xl : Int) then
        let v_1116 := (xs (w32 (x3 + 2)).toNat).toInt
        if 0 ≤ w32 (x3 + 3) ∧ w32 (x3 + 3) < (xl : Int) then
        let v_1121 := (xs (w32 (x3 + 3)).toNat).toInt
        if 0 ≤ w32 (x3 + 4) ∧ w32 (x3 + 4) < (xl : Int) then
        let v_1130 := (xs (w32 (x3 + 4)).toNat).toInt
        (g_c_set v_1111 v_1116 (lOr (lShl v_1121 32) (lAnd v_1130 4294967295)) σ).bind fun o_1137 =>
        if 0 ≤ w32 (x3 + 1) ∧ w32 (x3 + 1) < (xl : Int) then
        let v_1146 := (xs (w32 (x3 + 1)).toNat).toInt
        if 0 ≤ w32 (x3 + 2) ∧ w32 (x3 + 2) < (xl : Int) then
        let v_1151 := (xs (w32 (x3 + 2)).toNat).toInt
        if 0 ≤ w32 (x3 + 3) ∧ w32 (x3 + 3) < (xl : Int) then
        let v_1156 := (xs (w32 (x3 + 3)).toNat).toInt
        if 0 ≤ w32 (x3 + 4) ∧ w32 (x3 + 4) < (xl : Int) then
        let v_1165 := (xs (w32 (x3 + 4)).toNat).toInt
        (g_m_set v_1146 v_1151 (lOr (lShl v_1156 32) (lAnd v_1165 4294967295)) o_1137.2).bind fun o_1172 =>
        g_jRangeAnswersLaw_law_L1367 xl xs ((g_jRangeAnswersLaw_law_L18 xl xs n)) x3 o_1172.2
        else none
        else none
        else none
        else none
        else none
        else none
        else none
        else none
      else
      if iAnd v_29 63 = 31 then
        if 0 ≤ w32 (x3 + 1) ∧ w32 (x3 + 1) < (xl : Int) then
        let v_1184 := (xs (w32 (x3 + 1)).toNat).toInt
        if 0 ≤ w32 (x3 + 2) ∧ w32 (x3 + 2) < (xl : Int) then
        let v_1189 := (xs (w32 (x3 + 2)).toNat).toInt
        (g_c_get v_1184 v_1189 σ).bind fun o_1190 =>
        if 0 ≤ w32 (x3 + 1) ∧ w32 (x3 + 1) < (xl : Int) then
        let v_1199 := (xs (w32 (x3 + 1)).toNat).toInt
        if 0 ≤ w32 (x3 + 2) ∧ w32 (x3 + 2) < (xl : Int) then
        let v_1204 := (xs (w32 (x3 + 2)).toNat).toInt
        (g_m_get v_1199 v_1204 o_1190.2).bind fun o_1205 =>
        g_jRangeAnswersLaw_law_L1367 xl xs ((g_jRangeAnswersLaw_law_L18 xl xs n)) x3 o_1205.2
        else none
        else none
        else none
        else none
      else
      if iAnd v_29 63 = 32 then
        if 0 ≤ w32 (x3 + 1) ∧ w32 (x3 + 1) < (xl : Int) then
        let v_1217 := (xs (w32 (x3 + 1)).toNat).toInt
        if 0 ≤ w32 (x3 + 2) ∧ w32 (x3 + 2) < (xl : Int) then
        let v_1222 := (xs (w32 (x3 + 2)).toNat).toInt
        if 0 ≤ w32 (x3 + 3) ∧ w32 (x3 + 3) < (xl : Int) then
        let v_1227 := (xs (w32 (x3 + 3)).toNat).toInt
        if 0 ≤ w32 (x3 + 4) ∧ w32 (x3 + 4) < (xl : Int) then
        let v_1232 := (xs (w32 (x3 + 4)).toNat).toInt
        if 0 ≤ w32 (x3 + 5) ∧ w32 (x3 + 5) < (xl : Int) then
        let v_1237 := (xs (w32 (x3 + 5)).toNat).toInt
        (g_c_move v_1217 v_1222 v_1227 v_1232 v_1237 σ).bind fun o_1238 =>
        if 0 ≤ w32 (x3 + 1) ∧ w32 (x3 + 1) < (xl : Int) then
        let v_1247 := (xs (w32 (x3 + 1)).toNat).toInt
        if 0 ≤ w32 (x3 + 2) ∧ w32 (x3 + 2) < (xl : Int) then
        let v_1252 := (xs (w32 (x3 + 2)).toNat).toInt
        if 0 ≤ w32 (x3 + 3) ∧ w32 (x3 + 3) < (xl : Int) then
        let v_1257 := (xs (w32 (x3 + 3)).toNat).toInt
        if 0 ≤ w32 (x3 + 4) ∧ w32 (x3 + 4) < (xl : Int) then
        let v_1262 := (xs (w32 (x3 + 4)).toNat).toInt
        if 0 ≤ w32 (x3 + 5) ∧ w32 (x3 + 5) < (xl : Int) then
        let v_1267 := (xs (w32 (x3 + 5)).toNat).toInt
        (g_m_move v_1247 v_1252 v_1257 v_1262 v_1267 o_1238.2).bind fun o_1268 =>
        g_jRangeAnswersLaw_law_L1367 xl xs ((g_jRangeAnswersLaw_law_L18 xl xs n)) x3 o_1268.2
        else none
        else none
        else none
        else none
        else none
        else none
        else none
        else none
        else none
        else none
      else
      if iAnd v_29 63 = 33 then
        if 0 ≤ w32 (x3 + 1) ∧ w32 (x3 + 1) < (xl : Int) then
        let v_1280 := (xs (w32 (x3 + 1)).toNat).toInt
        if 0 ≤ w32 (x3 + 2) ∧ w32 (x3 + 2) < (xl : Int) then
        let v_1285 := (xs (w32 (x3 + 2)).toNat).toInt
        (g_c_lay v_1280 v_1285 σ).bind fun o_1286 =>
        if 0 ≤ w32 (x3 + 1) ∧ w32 (x3 + 1) < (xl : Int) then
        let v_1295 := (xs (w32 (x3 + 1)).toNat).toInt
        if 0 ≤ w32 (x3 + 2) ∧ w32 (x3 + 2) < (xl : Int) then
        let v_1300 := (xs (w32 (x3 + 2)).toNat).toInt
        (g_m_lay v_1295 v_1300 o_1286.2).bind fun o_1301 =>
        g_jRangeAnswersLaw_law_L1367 xl xs ((g_jRangeAnswersLaw_law_L18 xl xs n)) x3 o_1301.2
        else none
        else none
        else none
        else none
      else
      if iAnd v_29 63 = 34 then
        if 0 ≤ w32 (x3 + 1) ∧ w32 (x3 + 1) < (xl : Int) then
        let v_1313 := (xs (w32 (x3 + 1)).toNat).toInt
        if 0 ≤ w32 (x3 + 2) ∧ w32 (x3 + 2) < (xl : Int) then
        let v_1318 := (xs (w32 (x3 + 2)).toNat).toInt
        (g_c_judge v_1313 v_1318 σ).bind fun o_1319 =>
        if 0 ≤ w32 (x3 + 1) ∧ w32 (x3 + 1) < (xl : Int) then
        let v_1328 := (xs (w32 (x3 + 1)).toNat).toInt
        if 0 ≤ w32 (x3 + 2) ∧ w32 (x3 + 2) < (xl : Int) then
        let v_1333 := (xs (w32 (x3 + 2)).toNat).toInt
        (g_m_judge v_1328 v_1333 o_1319.2).bind fun o_1334 =>
        g_jRangeAnswersLaw_law_L1367 xl xs ((g_jRangeAnswersLaw_law_L18 xl xs n)) x3 o_1334.2
        else none
        else none
        else none
        else none
      else
      if iAnd v_29 63 = 35 then
        (g_c_image σ).bind fun o_1342 =>
        (g_m_image o_1342.2).bind fun o_1347 =>
        g_jRangeAnswersLaw_law_L1367 xl xs ((g_jRangeAnswersLaw_law_L18 xl xs n)) x3 o_1347.2
      else
      if iAnd v_29 63 = 36 then
        (g_c_undo σ).bind fun o_1355 =>
        (g_m_undo o_1355.2).bind fun o_1360 =>
        g_jRangeAnswersLaw_law_L1367 xl xs ((g_jRangeAnswersLaw_law_L18 xl xs n)) x3 o_1360.2
      else
      g_jRangeAnswersLaw_law_L1367 xl xs ((g_jRangeAnswersLaw_law_L18 xl xs n)) x3 σ
      else none
set_option maxHeartbeats 4000000 in
theorem g_jRangeAnswersLaw_law_L18_ok {xl : Nat} {xs : Nat → Int32} (hxl : xl < 2147483648) : ∀ (n : Nat) {X3 : Int32} {x3 : Int} {σ : zS} {p : Nat} {m : zM} {o : Int × zS}, X3.toInt = x3 → zRep xl xs p m σ → g_jRangeAnswersLaw_law_L18 xl xs n x3 σ = some o → zGo xl xs (fun _ => True) 510 1000 18 [(0, .ref 0), (1, .ref 39), (2, .ref 143), (3, .int X3)] [] m (vI o.1) o.2
  | 0, _, _, _, _, _, _, _, _, h => by cases h
  | n + 1, X3, x3, σ, p, m, o, hx3, H, h => by
    have hq : z_mth 1000 = some z_rL := rfl
    have ih := fun {X3 : Int32} {x3 : Int} {σ : zS} {p : Nat} {m : zM} {o : Int × zS} => g_jRangeAnswersLaw_law_L18_ok (xl := xl) (xs := xs) hxl n (X3 := X3) (x3 := x3) (σ := σ) (p := p) (m := m) (o := o)
    unfold g_jRangeAnswersLaw_law_L18 at h
    refine r_p hq 2 (pc' := 20) (L' := [(0, .ref 0), (1, .ref 39), (2, .ref 143), (3, .int X3)]) (st' := [.ref 0, .int X3]) rfl ?_
    refine r_leS (pc' := 21) (L' := [(0, .ref 0), (1, .ref 39), (2, .ref 143), (3, .int X3)]) hxl H hq (z_at.mk 1 rfl rfl) rfl rfl ?_
    intro V_20 hV_20
    refine r_p hq 2 (pc' := 24) (L' := [(0, .ref 0), (1, .ref 39), (2, .ref 143), (3, .int X3)]) (st' := [.int (V_20 - ((6 : Int32))), .int X3]) rfl ?_
    rcases z_ite h with ⟨c_24, h⟩ | ⟨c_24, h⟩
    · refine r_t2 (pc' := 1373) (L' := [(0, .ref 0), (1, .ref 39), (2, .ref 143), (3, .int X3)]) hq (z_at.mk 3 rfl rfl) rfl hx3 (tx_isub hV_20 (rfl : (6 : Int32).toInt = 6)) c_24 rfl rfl ?_
      refine r_p hq 1 (pc' := 1374) (L' := [(0, .ref 0), (1, .ref 39), (2, .ref 143), (3, .int X3)]) (st' := [.int ((1 : Int32))]) rfl ?_
      cases h
      exact r_ri hq (z_at.mk 1 rfl rfl) rfl rfl (rfl : (1 : Int32).toInt = 1) trivial H
    · refine r_f2 (pc' := 27) (L' := [(0, .ref 0), (1, .ref 39), (2, .ref 143), (3, .int X3)]) hq (z_at.mk 3 rfl rfl) rfl hx3 (tx_isub hV_20 (rfl : (6 : Int32).toInt = 6)) c_24 rfl rfl ?_
      refine r_p hq 2 (pc' := 29) (L' := [(0, .ref 0), (1, .ref 39), (2, .ref 143), (3, .int X3)]) (st' := [.int X3, .ref 0]) rfl ?_
      obtain ⟨g_29, h⟩ := z_ifo_some h
      refine r_iaS (pc' := 30) (L' := [(0, .ref 0), (1, .ref 39), (2, .ref 143), (3, .int X3)]) H hq (z_at.mk 1 rfl rfl) hx3 g_29 rfl rfl ?_
      intro V_29 hV_29
      refine r_p hq 2 (pc' := 33) (L' := [(0, .ref 0), (1, .ref 39), (2, .ref 143), (3, .int X3)]) (st' := [.int (V_29 &&& ((63 : Int32)))]) rfl ?_
      rcases z_ite h with ⟨c_33_0, h⟩ | ⟨c_33_0, h⟩
      · refine r_sw (off := 163) (pc' := 196) (L' := [(0, .ref 0), (1, .ref 39), (2, .ref 143), (3, .int X3)]) hq (z_at.mk 163 rfl rfl) (z_off_v ((tx_iand hV_29 (rfl : (63 : Int32).toInt = 63)).trans c_33_0) rfl) rfl rfl rfl ?_
        refine r_p hq 5 (pc' := 201) (L' := [(0, .ref 0), (1, .ref 39), (2, .ref 143), (3, .int X3)]) (st' := [.int (X3 + ((1 : Int32))), .ref 0, .ref 39]) rfl ?_
        obtain ⟨g_201, h⟩ := z_ifo_some h
        refine r_iaS (pc' := 202) (L' := [(0, .ref 0), (1, .ref 39), (2, .ref 143), (3, .int X3)]) H hq (z_at.mk 1 rfl rfl) (tx_iadd hx3 (rfl : (1 : Int32).toInt = 1)) g_201 rfl rfl ?_
        intro V_201 hV_201
        refine r_p hq 4 (pc' := 206) (L' := [(0, .ref 0), (1, .ref 39), (2, .ref 143), (3, .int X3)]) (st' := [.int (X3 + ((2 : Int32))), .ref 0, .int V_201, .ref 39]) rfl ?_
        obtain ⟨g_206, h⟩ := z_ifo_some h
        refine r_iaS (pc' := 207) (L' := [(0, .ref 0), (1, .ref 39), (2, .ref 143), (3, .int X3)]) H hq (z_at.mk 1 rfl rfl) (tx_iadd hx3 (rfl : (2 : Int32).toInt = 2)) g_206 rfl rfl ?_
        intro V_206 hV_206
        refine r_p hq 4 (pc' := 211) (L' := [(0, .ref 0), (1, .ref 39), (2, .ref 143), (3, .int X3)]) (st' := [.int (X3 + ((3 : Int32))), .ref 0, .int V_206, .int V_201, .ref 39]) rfl ?_
        obtain ⟨g_211, h⟩ := z_ifo_some h
        refine r_iaS (pc' := 212) (L' := [(0, .ref 0), (1, .ref 39), (2, .ref 143), (3, .int X3)]) H hq (z_at.mk 1 rfl rfl) (tx_iadd hx3 (rfl : (3 : Int32).toInt = 3)) g_211 rfl rfl ?_
        intro V_211 hV_211
        refine r_p hq 4 (pc' := 216) (L' := [(0, .ref 0), (1, .ref 39), (2, .ref 143), (3, .int X3)]) (st' := [.int (X3 + ((4 : Int32))), .ref 0, .int V_211, .int V_206, .int V_201, .ref 39]) rfl ?_
        obtain ⟨g_216, h⟩ := z_ifo_some h
        refine r_iaS (pc' := 217) (L' := [(0, .ref 0), (1, .ref 39), (2, .ref 143), (3, .int X3)]) H hq (z_at.mk 1 rfl rfl) (tx_iadd hx3 (rfl : (4 : Int32).toInt = 4)) g_216 rfl rfl ?_
        intro V_216 hV_216
        refine r_p hq 7 (pc' := 225) (L' := [(0, .ref 0), (1, .ref 39), (2, .ref 143), (3, .int X3)]) (st' := [.int (X3 + ((5 : Int32))), .ref 0, .long (V_216.toInt64 <<< (((32 : Int32)).toInt64 &&& 63)), .int V_211, .int V_206, .int V_201, .ref 39]) rfl ?_
        obtain ⟨g_225, h⟩ := z_ifo_some h
        refine r_iaS (pc' := 226) (L' := [(0, .ref 0), (1, .ref 39), (2, .ref 143), (3, .int X3)]) H hq (z_at.mk 1 rfl rfl) (tx_iadd hx3 (rfl : (5 : Int32).toInt = 5)) g_225 rfl rfl ?_
        intro V_225 hV_225
        refine r_p hq 4 (pc' := 232) (L' := [(0, .ref 0), (1, .ref 39), (2, .ref 143), (3, .int X3)]) (st' := [.long ((V_216.toInt64 <<< (((32 : Int32)).toInt64 &&& 63)) ||| (V_225.toInt64 &&& ((4294967295 : Int64)))), .int V_211, .int V_206, .int V_201, .ref 39]) rfl ?_
        obtain ⟨o_232, h_232, h⟩ := Option.bind_eq_some_iff.mp h
        refine r_cvI (pc' := 235) (L' := [(0, .ref 0), (1, .ref 39), (2, .ref 143), (3, .int X3)]) (Ps := [.int V_201, .int V_206, .int V_211, .long ((V_216.toInt64 <<< (((32 : Int32)).toInt64 &&& 63)) ||| (V_225.toInt64 &&& ((4294967295 : Int64))))]) (rest := []) hq (z_at.mk 3 rfl rfl) (Or.inl ⟨rfl, rfl⟩) rfl rfl (by decide) (by decide) rfl (Nat.not_lt.mpr (Nat.le_of_ble_eq_true rfl)) rfl rfl (z_cat_le 0 rfl (by decide)) (z_lgl_le 6 rfl (by decide)) (by decide) (H.tg rfl) (by omega) (g_c_put_ok hV_201 hV_206 hV_211 (tx_lor (tx_lshl (tx_i2l hV_216) (rfl : (32 : Int32).toInt = 32)) (tx_land (tx_i2l hV_225) (rfl : (4294967295 : Int64).toInt = 4294967295))) H h_232) rfl rfl ?_
        intro R_232 m_232 p_232 e_232 hR_232 H_232
        subst e_232
        refine r_p hq 6 (pc' := 241) (L' := [(0, .ref 0), (1, .ref 39), (2, .ref 143), (3, .int X3)]) (st' := [.int (X3 + ((1 : Int32))), .ref 0, .ref 143]) rfl ?_
        obtain ⟨g_241, h⟩ := z_ifo_some h
        refine r_iaS (pc' := 242) (L' := [(0, .ref 0), (1, .ref 39), (2, .ref 143), (3, .int X3)]) H_232 hq (z_at.mk 1 rfl rfl) (tx_iadd hx3 (rfl : (1 : Int32).toInt = 1)) g_241 rfl rfl ?_
        intro V_241 hV_241
        refine r_p hq 4 (pc' := 246) (L' := [(0, .ref 0), (1, .ref 39), (2, .ref 143), (3, .int X3)]) (st' := [.int (X3 + ((2 : Int32))), .ref 0, .int V_241, .ref 143]) rfl ?_
        obtain ⟨g_246, h⟩ := z_ifo_some h
        refine r_iaS (pc' := 247) (L' := [(0, .ref 0), (1, .ref 39), (2, .ref 143), (3, .int X3)]) H_232 hq (z_at.mk 1 rfl rfl) (tx_iadd hx3 (rfl : (2 : Int32).toInt = 2)) g_246 rfl rfl ?_
        intro V_246 hV_246
        refine r_p hq 4 (pc' := 251) (L' := [(0, .ref 0), (1, .ref 39), (2, .ref 143), (3, .int X3)]) (st' := [.int (X3 + ((3 : Int32))), .ref 0, .int V_246, .int V_241, .ref 143]) rfl ?_
        obtain ⟨g_251, h⟩ := z_ifo_some h
        refine r_iaS (pc' := 252) (L' := [(0, .ref 0), (1, .ref 39), (2, .ref 143), (3, .int X3)]) H_232 hq (z_at.mk 1 rfl rfl) (tx_iadd hx3 (rfl : (3 : Int32).toInt = 3)) g_251 rfl rfl ?_
        intro V_251 hV_251
        refine r_p hq 4 (pc' := 256) (L' := [(0, .ref 0), (1, .ref 39), (2, .ref 143), (3, .int X3)]) (st' := [.int (X3 + ((4 : Int32))), .ref 0, .int V_251, .int V_246, .int V_241, .ref 143]) rfl ?_
        obtain ⟨g_256, h⟩ := z_ifo_some h
        refine r_iaS (pc' := 257) (L' := [(0, .ref 0), (1, .ref 39), (2, .ref 143), (3, .int X3)]) H_232 hq (z_at.mk 1 rfl rfl) (tx_iadd hx3 (rfl : (4 : Int32).toInt = 4)) g_256 rfl rfl ?_
        intro V_256 hV_256
        refine r_p hq 7 (pc' := 265) (L' := [(0, .ref 0), (1, .ref 39), (2, .ref 143), (3, .int X3)]) (st' := [.int (X3 + ((5 : Int32))), .ref 0, .long (V_256.toInt64 <<< (((32 : Int32)).toInt64 &&& 63)), .int V_251, .int V_246, .int V_241, .ref 143]) rfl ?_
        obtain ⟨g_265, h⟩ := z_ifo_some h
        refine r_iaS (pc' := 266) (L' := [(0, .ref 0), (1, .ref 39), (2, .ref 143), (3, .int X3)]) H_232 hq (z_at.mk 1 rfl rfl) (tx_iadd hx3 (rfl : (5 : Int32).toInt = 5)) g_265 rfl rfl ?_
        intro V_265 hV_265
        refine r_p hq 4 (pc' := 272) (L' := [(0, .ref 0), (1, .ref 39), (2, .ref 143), (3, .int X3)]) (st' := [.long ((V_256.toInt64 <<< (((32 : Int32)).toInt64 &&& 63)) ||| (V_265.toInt64 &&& ((4294967295 : Int64)))), .int V_251, .int V_246, .int V_241, .ref 143]) rfl ?_
        obtain ⟨o_272, h_272, h⟩ := Option.bind_eq_some_iff.mp h
        refine r_cvI (pc' := 275) (L' := [(0, .ref 0), (1, .ref 39), (2, .ref 143), (3, .int X3)]) (Ps := [.int V_241, .int V_246, .int V_251, .long ((V_256.toInt64 <<< (((32 : Int32)).toInt64 &&& 63)) ||| (V_265.toInt64 &&& ((4294967295 : Int64))))]) (rest := []) hq (z_at.mk 3 rfl rfl) (Or.inl ⟨rfl, rfl⟩) rfl rfl (by decide) (by decide) rfl (Nat.not_lt.mpr (Nat.le_of_ble_eq_true rfl)) rfl rfl (z_cat_le 0 rfl (by decide)) (z_lgl_le 6 rfl (by decide)) (by decide) (H_232.tg rfl) (by omega) (g_m_put_ok hV_241 hV_246 hV_251 (tx_lor (tx_lshl (tx_i2l hV_256) (rfl : (32 : Int32).toInt = 32)) (tx_land (tx_i2l hV_265) (rfl : (4294967295 : Int64).toInt = 4294967295))) H_232 h_272) rfl rfl ?_
        intro R_272 m_272 p_272 e_272 hR_272 H_272
        subst e_272
        refine r_p hq 2 (pc' := 1367) (L' := [(0, .ref 0), (1, .ref 39), (2, .ref 143), (3, .int X3)]) (st' := []) rfl ?_
        exact g_jRangeAnswersLaw_law_L1367_ok hxl ih hx3 H_272 h
      rcases z_ite h with ⟨c_33_1, h⟩ | ⟨c_33_1, h⟩
      · refine r_sw (off := 246) (pc' := 279) (L' := [(0, .ref 0), (1, .ref 39), (2, .ref 143), (3, .int X3)]) hq (z_at.mk 163 rfl rfl) (z_off_v ((tx_iand hV_29 (rfl : (63 : Int32).toInt = 63)).trans c_33_1) rfl) rfl rfl rfl ?_
        refine r_p hq 5 (pc' := 284) (L' := [(0, .ref 0), (1, .ref 39), (2, .ref 143), (3, .int X3)]) (st' := [.int (X3 + ((1 : Int32))), .ref 0, .ref 39]) rfl ?_
        obtain ⟨g_284, h⟩ := z_ifo_some h
        refine r_iaS (pc' := 285) (L' := [(0, .ref 0), (1, .ref 39), (2, .ref 143), (3, .int X3)]) H hq (z_at.mk 1 rfl rfl) (tx_iadd hx3 (rfl : (1 : Int32).toInt = 1)) g_284 rfl rfl ?_
        intro V_284 hV_284
        obtain ⟨o_285, h_285, h⟩ := Option.bind_eq_some_iff.mp h
        refine r_cvI (pc' := 288) (L' := [(0, .ref 0), (1, .ref 39), (2, .ref 143), (3, .int X3)]) (Ps := [.int V_284]) (rest := []) hq (z_at.mk 3 rfl rfl) (Or.inl ⟨rfl, rfl⟩) rfl rfl (by decide) (by decide) rfl (Nat.not_lt.mpr (Nat.le_of_ble_eq_true rfl)) rfl rfl (z_cat_le 0 rfl (by decide)) (z_lgl_le 2 rfl (by decide)) (by decide) (H.tg rfl) (by omega) (g_c_take_ok hV_284 H h_285) rfl rfl ?_
        intro R_285 m_285 p_285 e_285 hR_285 H_285
        subst e_285
        refine r_p hq 6 (pc' := 294) (L' := [(0, .ref 0), (1, .ref 39), (2, .ref 143), (3, .int X3)]) (st' := [.int (X3 + ((1 : Int32))), .ref 0, .ref 143]) rfl ?_
        obtain ⟨g_294, h⟩ := z_ifo_some h
        refine r_iaS (pc' := 295) (L' := [(0, .ref 0), (1, .ref 39), (2, .ref 143), (3, .int X3)]) H_285 hq (z_at.mk 1 rfl rfl) (tx_iadd hx3 (rfl : (1 : Int32).toInt = 1)) g_294 rfl rfl ?_
        intro V_294 hV_294
        obtain ⟨o_295, h_295, h⟩ := Option.bind_eq_some_iff.mp h
        refine r_cvI (pc' := 298) (L' := [(0, .ref 0), (1, .ref 39), (2, .ref 143), (3, .int X3)]) (Ps := [.int V_294]) (rest := []) hq (z_at.mk 3 rfl rfl) (Or.inl ⟨rfl, rfl⟩) rfl rfl (by decide) (by decide) rfl (Nat.not_lt.mpr (Nat.le_of_ble_eq_true rfl)) rfl rfl (z_cat_le 0 rfl (by decide)) (z_lgl_le 2 rfl (by decide)) (by decide) (H_285.tg rfl) (by omega) (g_m_take_ok hV_294 H_285 h_295) rfl rfl ?_
        intro R_295 m_295 p_295 e_295 hR_295 H_295
        subst e_295
        refine r_p hq 2 (pc' := 1367) (L' := [(0, .ref 0), (1, .ref 39), (2, .ref 143), (3, .int X3)]) (st' := []) rfl ?_
        exact g_jRangeAnswersLaw_law_L1367_ok hxl ih hx3 H_295 h
      rcases z_ite h with ⟨c_33_2, h⟩ | ⟨c_33_2, h⟩
      · refine r_sw (off := 269) (pc' := 302) (L' := [(0, .ref 0), (1, .ref 39), (2, .ref 143), (3, .int X3)]) hq (z_at.mk 163 rfl rfl) (z_off_v ((tx_iand hV_29 (rfl : (63 : Int32).toInt = 63)).trans c_33_2) rfl) rfl rfl rfl ?_
        refine r_p hq 5 (pc' := 307) (L' := [(0, .ref 0), (1, .ref 39), (2, .ref 143), (3, .int X3)]) (st' := [.int (X3 + ((1 : Int32))), .ref 0, .ref 39]) rfl ?_
        obtain ⟨g_307, h⟩ := z_ifo_some h
        refine r_iaS (pc' := 308) (L' := [(0, .ref 0), (1, .ref 39), (2, .ref 143), (3, .int X3)]) H hq (z_at.mk 1 rfl rfl) (tx_iadd hx3 (rfl : (1 : Int32).toInt = 1)) g_307 rfl rfl ?_
        intro V_307 hV_307
        refine r_p hq 4 (pc' := 312) (L' := [(0, .ref 0), (1, .ref 39), (2, .ref 143), (3, .int X3)]) (st' := [.int (X3 + ((2 : Int32))), .ref 0, .int V_307, .ref 39]) rfl ?_
        obtain ⟨g_312, h⟩ := z_ifo_some h
        refine r_iaS (pc' := 313) (L' := [(0, .ref 0), (1, .ref 39), (2, .ref 143), (3, .int X3)]) H hq (z_at.mk 1 rfl rfl) (tx_iadd hx3 (rfl : (2 : Int32).toInt = 2)) g_312 rfl rfl ?_
        intro V_312 hV_312
        obtain ⟨o_313, h_313, h⟩ := Option.bind_eq_some_iff.mp h
        refine r_cvI (pc' := 316) (L' := [(0, .ref 0), (1, .ref 39), (2, .ref 143), (3, .int X3)]) (Ps := [.int V_307, .int V_312]) (rest := []) hq (z_at.mk 3 rfl rfl) (Or.inl ⟨rfl, rfl⟩) rfl rfl (by decide) (by decide) rfl (Nat.not_lt.mpr (Nat.le_of_ble_eq_true rfl)) rfl rfl (z_cat_le 0 rfl (by decide)) (z_lgl_le 3 rfl (by decide)) (by decide) (H.tg rfl) (by omega) (g_c_row_ok hV_307 hV_312 H h_313) rfl rfl ?_
        intro R_313 m_313 p_313 e_313 hR_313 H_313
        subst e_313
        refine r_p hq 6 (pc' := 322) (L' := [(0, .ref 0), (1, .ref 39), (2, .ref 143), (3, .int X3)]) (st' := [.int (X3 + ((1 : Int32))), .ref 0, .ref 143]) rfl ?_
        obtain ⟨g_322, h⟩ := z_ifo_some h
        refine r_iaS (pc' := 323) (L' := [(0, .ref 0), (1, .ref 39), (2, .ref 143), (3, .int X3)]) H_313 hq (z_at.mk 1 rfl rfl) (tx_iadd hx3 (rfl : (1 : Int32).toInt = 1)) g_322 rfl rfl ?_
        intro V_322 hV_322
        refine r_p hq 4 (pc' := 327) (L' := [(0, .ref 0), (1, .ref 39), (2, .ref 143), (3, .int X3)]) (st' := [.int (X3 + ((2 : Int32))), .ref 0, .int V_322, .ref 143]) rfl ?_
        obtain ⟨g_327, h⟩ := z_ifo_some h
        refine r_iaS (pc' := 328) (L' := [(0, .ref 0), (1, .ref 39), (2, .ref 143), (3, .int X3)]) H_313 hq (z_at.mk 1 rfl rfl) (tx_iadd hx3 (rfl : (2 : Int32).toInt = 2)) g_327 rfl rfl ?_
        intro V_327 hV_327
        obtain ⟨o_328, h_328, h⟩ := Option.bind_eq_some_iff.mp h
        refine r_cvI (pc' := 331) (L' := [(0, .ref 0), (1, .ref 39), (2, .ref 143), (3, .int X3)]) (Ps := [.int V_322, .int V_327]) (rest := []) hq (z_at.mk 3 rfl rfl) (Or.inl ⟨rfl, rfl⟩) rfl rfl (by decide) (by decide) rfl (Nat.not_lt.mpr (Nat.le_of_ble_eq_true rfl)) rfl rfl (z_cat_le 0 rfl (by decide)) (z_lgl_le 3 rfl (by decide)) (by decide) (H_313.tg rfl) (by omega) (g_m_row_ok hV_322 hV_327 H_313 h_328) rfl rfl ?_
        intro R_328 m_328 p_328 e_328 hR_328 H_328
        subst e_328
        refine r_p hq 2 (pc' := 1367) (L' := [(0, .ref 0), (1, .ref 39), (2, .ref 143), (3, .int X3)]) (st' := []) rfl ?_
        exact g_jRangeAnswersLaw_law_L1367_ok hxl ih hx3 H_328 h
      rcases z_ite h with ⟨c_33_3, h⟩ | ⟨c_33_3, h⟩
      · refine r_sw (off := 302) (pc' := 335) (L' := [(0, .ref 0), (1, .ref 39), (2, .ref 143), (3, .int X3)]) hq (z_at.mk 163 rfl rfl) (z_off_v ((tx_iand hV_29 (rfl : (63 : Int32).toInt = 63)).trans c_33_3) rfl) rfl rfl rfl ?_
        refine r_p hq 5 (pc' := 340) (L' := [(0, .ref 0), (1, .ref 39), (2, .ref 143), (3, .int X3)]) (st' := [.int (X3 + ((1 : Int32))), .ref 0, .ref 39]) rfl ?_
        obtain ⟨g_340, h⟩ := z_ifo_some h
        refine r_iaS (pc' := 341) (L' := [(0, .ref 0), (1, .ref 39), (2, .ref 143), (3, .int X3)]) H hq (z_at.mk 1 rfl rfl) (tx_iadd hx3 (rfl : (1 : Int32).toInt = 1)) g_340 rfl rfl ?_
        intro V_340 hV_340
        obtain ⟨o_341, h_341, h⟩ := Option.bind_eq_some_iff.mp h
        refine r_cvL (pc' := 344) (L' := [(0, .ref 0), (1, .ref 39), (2, .ref 143), (3, .int X3)]) (Ps := [.int V_340]) (rest := []) hq (z_at.mk 3 rfl rfl) (Or.inl ⟨rfl, rfl⟩) rfl rfl (by decide) (by decide) rfl (Nat.not_lt.mpr (Nat.le_of_ble_eq_true rfl)) rfl rfl (z_cat_le 0 rfl (by decide)) (z_lgl_le 2 rfl (by decide)) (by decide) (H.tg rfl) (by omega) (g_c_worth_ok hV_340 H h_341) rfl rfl ?_
        intro R_341 m_341 p_341 e_341 hR_341 H_341
        subst e_341
        refine r_p hq 6 (pc' := 350) (L' := [(0, .ref 0), (1, .ref 39), (2, .ref 143), (3, .int X3)]) (st' := [.int (X3 + ((1 : Int32))), .ref 0, .ref 143]) rfl ?_
        obtain ⟨g_350, h⟩ := z_ifo_some h
        refine r_iaS (pc' := 351) (L' := [(0, .ref 0), (1, .ref 39), (2, .ref 143), (3, .int X3)]) H_341 hq (z_at.mk 1 rfl rfl) (tx_iadd hx3 (rfl : (1 : Int32).toInt = 1)) g_350 rfl rfl ?_
        intro V_350 hV_350
        obtain ⟨o_351, h_351, h⟩ := Option.bind_eq_some_iff.mp h
        refine r_cvL (pc' := 354) (L' := [(0, .ref 0), (1, .ref 39), (2, .ref 143), (3, .int X3)]) (Ps := [.int V_350]) (rest := []) hq (z_at.mk 3 rfl rfl) (Or.inl ⟨rfl, rfl⟩) rfl rfl (by decide) (by decide) rfl (Nat.not_lt.mpr (Nat.le_of_ble_eq_true rfl)) rfl rfl (z_cat_le 0 rfl (by decide)) (z_lgl_le 2 rfl (by decide)) (by decide) (H_341.tg rfl) (by omega) (g_m_worth_ok hV_350 H_341 h_351) rfl rfl ?_
        intro R_351 m_351 p_351 e_351 hR_351 H_351
        subst e_351
        refine r_p hq 2 (pc' := 1367) (L' := [(0, .ref 0), (1, .ref 39), (2, .ref 143), (3, .int X3)]) (st' := []) rfl ?_
        exact g_jRangeAnswersLaw_law_L1367_ok hxl ih hx3 H_351 h
      rcases z_ite h with ⟨c_33_4, h⟩ | ⟨c_33_4, h⟩
      · refine r_sw (off := 325) (pc' := 358) (L' := [(0, .ref 0), (1, .ref 39), (2, .ref 143), (3, .int X3)]) hq (z_at.mk 163 rfl rfl) (z_off_v ((tx_iand hV_29 (rfl : (63 : Int32).toInt = 63)).trans c_33_4) rfl) rfl rfl rfl ?_
        refine r_p hq 5 (pc' := 363) (L' := [(0, .ref 0), (1, .ref 39), (2, .ref 143), (3, .int X3)]) (st' := [.int (X3 + ((1 : Int32))), .ref 0, .ref 39]) rfl ?_
        obtain ⟨g_363, h⟩ := z_ifo_some h
        refine r_iaS (pc' := 364) (L' := [(0, .ref 0), (1, .ref 39), (2, .ref 143), (3, .int X3)]) H hq (z_at.mk 1 rfl rfl) (tx_iadd hx3 (rfl : (1 : Int32).toInt = 1)) g_363 rfl rfl ?_
        intro V_363 hV_363
        obtain ⟨o_364, h_364, h⟩ := Option.bind_eq_some_iff.mp h
        refine r_cvI (pc' := 367) (L' := [(0, .ref 0), (1, .ref 39), (2, .ref 143), (3, .int X3)]) (Ps := [.int V_363]) (rest := []) hq (z_at.mk 3 rfl rfl) (Or.inl ⟨rfl, rfl⟩) rfl rfl (by decide) (by decide) rfl (Nat.not_lt.mpr (Nat.le_of_ble_eq_true rfl)) rfl rfl (z_cat_le 0 rfl (by decide)) (z_lgl_le 2 rfl (by decide)) (by decide) (H.tg rfl) (by omega) (g_c_feed_ok hV_363 H h_364) rfl rfl ?_
        intro R_364 m_364 p_364 e_364 hR_364 H_364
        subst e_364
        refine r_p hq 6 (pc' := 373) (L' := [(0, .ref 0), (1, .ref 39), (2, .ref 143), (3, .int X3)]) (st' := [.int (X3 + ((1 : Int32))), .ref 0, .ref 143]) rfl ?_
        obtain ⟨g_373, h⟩ := z_ifo_some h
        refine r_iaS (pc' := 374) (L' := [(0, .ref 0), (1, .ref 39), (2, .ref 143), (3, .int X3)]) H_364 hq (z_at.mk 1 rfl rfl) (tx_iadd hx3 (rfl : (1 : Int32).toInt = 1)) g_373 rfl rfl ?_
        intro V_373 hV_373
        obtain ⟨o_374, h_374, h⟩ := Option.bind_eq_some_iff.mp h
        refine r_cvI (pc' := 377) (L' := [(0, .ref 0), (1, .ref 39), (2, .ref 143), (3, .int X3)]) (Ps := [.int V_373]) (rest := []) hq (z_at.mk 3 rfl rfl) (Or.inl ⟨rfl, rfl⟩) rfl rfl (by decide) (by decide) rfl (Nat.not_lt.mpr (Nat.le_of_ble_eq_true rfl)) rfl rfl (z_cat_le 0 rfl (by decide)) (z_lgl_le 2 rfl (by decide)) (by decide) (H_364.tg rfl) (by omega) (g_m_feed_ok hV_373 H_364 h_374) rfl rfl ?_
        intro R_374 m_374 p_374 e_374 hR_374 H_374
        subst e_374
        refine r_p hq 2 (pc' := 1367) (L' := [(0, .ref 0), (1, .ref 39), (2, .ref 143), (3, .int X3)]) (st' := []) rfl ?_
        exact g_jRangeAnswersLaw_law_L1367_ok hxl ih hx3 H_374 h
      rcases z_ite h with ⟨c_33_5, h⟩ | ⟨c_33_5, h⟩
      · refine r_sw (off := 348) (pc' := 381) (L' := [(0, .ref 0), (1, .ref 39), (2, .ref 143), (3, .int X3)]) hq (z_at.mk 163 rfl rfl) (z_off_v ((tx_iand hV_29 (rfl : (63 : Int32).toInt = 63)).trans c_33_5) rfl) rfl rfl rfl ?_
        refine r_p hq 1 (pc' := 382) (L' := [(0, .ref 0), (1, .ref 39), (2, .ref 143), (3, .int X3)]) (st' := [.ref 39]) rfl ?_
        obtain ⟨o_382, h_382, h⟩ := Option.bind_eq_some_iff.mp h
        refine r_cvI (pc' := 385) (L' := [(0, .ref 0), (1, .ref 39), (2, .ref 143), (3, .int X3)]) (Ps := []) (rest := []) hq (z_at.mk 3 rfl rfl) (Or.inl ⟨rfl, rfl⟩) rfl rfl (by decide) (by decide) rfl (Nat.not_lt.mpr (Nat.le_of_ble_eq_true rfl)) rfl rfl (z_cat_le 0 rfl (by decide)) (z_lgl_le 1 rfl (by decide)) (by decide) (H.tg rfl) (by omega) (g_c_clear_ok H h_382) rfl rfl ?_
        intro R_382 m_382 p_382 e_382 hR_382 H_382
        subst e_382
        refine r_p hq 2 (pc' := 387) (L' := [(0, .ref 0), (1, .ref 39), (2, .ref 143), (3, .int X3)]) (st' := [.ref 143]) rfl ?_
        obtain ⟨o_387, h_387, h⟩ := Option.bind_eq_some_iff.mp h
        refine r_cvI (pc' := 390) (L' := [(0, .ref 0), (1, .ref 39), (2, .ref 143), (3, .int X3)]) (Ps := []) (rest := []) hq (z_at.mk 3 rfl rfl) (Or.inl ⟨rfl, rfl⟩) rfl rfl (by decide) (by decide) rfl (Nat.not_lt.mpr (Nat.le_of_ble_eq_true rfl)) rfl rfl (z_cat_le 0 rfl (by decide)) (z_lgl_le 1 rfl (by decide)) (by decide) (H_382.tg rfl) (by omega) (g_m_clear_ok H_382 h_387) rfl rfl ?_
        intro R_387 m_387 p_387 e_387 hR_387 H_387
        subst e_387
        refine r_p hq 2 (pc' := 1367) (L' := [(0, .ref 0), (1, .ref 39), (2, .ref 143), (3, .int X3)]) (st' := []) rfl ?_
        exact g_jRangeAnswersLaw_law_L1367_ok hxl ih hx3 H_387 h
      rcases z_ite h with ⟨c_33_6, h⟩ | ⟨c_33_6, h⟩
      · refine r_sw (off := 361) (pc' := 394) (L' := [(0, .ref 0), (1, .ref 39), (2, .ref 143), (3, .int X3)]) hq (z_at.mk 163 rfl rfl) (z_off_v ((tx_iand hV_29 (rfl : (63 : Int32).toInt = 63)).trans c_33_6) rfl) rfl rfl rfl ?_
        refine r_p hq 1 (pc' := 395) (L' := [(0, .ref 0), (1, .ref 39), (2, .ref 143), (3, .int X3)]) (st' := [.ref 39]) rfl ?_
        obtain ⟨o_395, h_395, h⟩ := Option.bind_eq_some_iff.mp h
        refine r_cvI (pc' := 398) (L' := [(0, .ref 0), (1, .ref 39), (2, .ref 143), (3, .int X3)]) (Ps := []) (rest := []) hq (z_at.mk 3 rfl rfl) (Or.inl ⟨rfl, rfl⟩) rfl rfl (by decide) (by decide) rfl (Nat.not_lt.mpr (Nat.le_of_ble_eq_true rfl)) rfl rfl (z_cat_le 0 rfl (by decide)) (z_lgl_le 1 rfl (by decide)) (by decide) (H.tg rfl) (by omega) (g_c_settings_ok H h_395) rfl rfl ?_
        intro R_395 m_395 p_395 e_395 hR_395 H_395
        subst e_395
        refine r_p hq 2 (pc' := 400) (L' := [(0, .ref 0), (1, .ref 39), (2, .ref 143), (3, .int X3)]) (st' := [.ref 143]) rfl ?_
        obtain ⟨o_400, h_400, h⟩ := Option.bind_eq_some_iff.mp h
        refine r_cvI (pc' := 403) (L' := [(0, .ref 0), (1, .ref 39), (2, .ref 143), (3, .int X3)]) (Ps := []) (rest := []) hq (z_at.mk 3 rfl rfl) (Or.inl ⟨rfl, rfl⟩) rfl rfl (by decide) (by decide) rfl (Nat.not_lt.mpr (Nat.le_of_ble_eq_true rfl)) rfl rfl (z_cat_le 0 rfl (by decide)) (z_lgl_le 1 rfl (by decide)) (by decide) (H_395.tg rfl) (by omega) (g_m_settings_ok H_395 h_400) rfl rfl ?_
        intro R_400 m_400 p_400 e_400 hR_400 H_400
        subst e_400
        refine r_p hq 2 (pc' := 1367) (L' := [(0, .ref 0), (1, .ref 39), (2, .ref 143), (3, .int X3)]) (st' := []) rfl ?_
        exact g_jRangeAnswersLaw_law_L1367_ok hxl ih hx3 H_400 h
      rcases z_ite h with ⟨c_33_7, h⟩ | ⟨c_33_7, h⟩
      · refine r_sw (off := 374) (pc' := 407) (L' := [(0, .ref 0), (1, .ref 39), (2, .ref 143), (3, .int X3)]) hq (z_at.mk 163 rfl rfl) (z_off_v ((tx_iand hV_29 (rfl : (63 : Int32).toInt = 63)).trans c_33_7) rfl) rfl rfl rfl ?_
        refine r_p hq 5 (pc' := 412) (L' := [(0, .ref 0), (1, .ref 39), (2, .ref 143), (3, .int X3)]) (st' := [.int (X3 + ((1 : Int32))), .ref 0, .ref 39]) rfl ?_
        obtain ⟨g_412, h⟩ := z_ifo_some h
        refine r_iaS (pc' := 413) (L' := [(0, .ref 0), (1, .ref 39), (2, .ref 143), (3, .int X3)]) H hq (z_at.mk 1 rfl rfl) (tx_iadd hx3 (rfl : (1 : Int32).toInt = 1)) g_412 rfl rfl ?_
        intro V_412 hV_412
        obtain ⟨o_413, h_413, h⟩ := Option.bind_eq_some_iff.mp h
        refine r_cvI (pc' := 416) (L' := [(0, .ref 0), (1, .ref 39), (2, .ref 143), (3, .int X3)]) (Ps := [.int V_412]) (rest := []) hq (z_at.mk 3 rfl rfl) (Or.inl ⟨rfl, rfl⟩) rfl rfl (by decide) (by decide) rfl (Nat.not_lt.mpr (Nat.le_of_ble_eq_true rfl)) rfl rfl (z_cat_le 0 rfl (by decide)) (z_lgl_le 2 rfl (by decide)) (by decide) (H.tg rfl) (by omega) (g_c_setting_ok hV_412 H h_413) rfl rfl ?_
        intro R_413 m_413 p_413 e_413 hR_413 H_413
        subst e_413
        refine r_p hq 6 (pc' := 422) (L' := [(0, .ref 0), (1, .ref 39), (2, .ref 143), (3, .int X3)]) (st' := [.int (X3 + ((1 : Int32))), .ref 0, .ref 143]) rfl ?_
        obtain ⟨g_422, h⟩ := z_ifo_some h
        refine r_iaS (pc' := 423) (L' := [(0, .ref 0), (1, .ref 39), (2, .ref 143), (3, .int X3)]) H_413 hq (z_at.mk 1 rfl rfl) (tx_iadd hx3 (rfl : (1 : Int32).toInt = 1)) g_422 rfl rfl ?_
        intro V_422 hV_422
        obtain ⟨o_423, h_423, h⟩ := Option.bind_eq_some_iff.mp h
        refine r_cvI (pc' := 426) (L' := [(0, .ref 0), (1, .ref 39), (2, .ref 143), (3, .int X3)]) (Ps := [.int V_422]) (rest := []) hq (z_at.mk 3 rfl rfl) (Or.inl ⟨rfl, rfl⟩) rfl rfl (by decide) (by decide) rfl (Nat.not_lt.mpr (Nat.le_of_ble_eq_true rfl)) rfl rfl (z_cat_le 0 rfl (by decide)) (z_lgl_le 2 rfl (by decide)) (by decide) (H_413.tg rfl) (by omega) (g_m_setting_ok hV_422 H_413 h_423) rfl rfl ?_
        intro R_423 m_423 p_423 e_423 hR_423 H_423
        subst e_423
        refine r_p hq 2 (pc' := 1367) (L' := [(0, .ref 0), (1, .ref 39), (2, .ref 143), (3, .int X3)]) (st' := []) rfl ?_
        exact g_jRangeAnswersLaw_law_L1367_ok hxl ih hx3 H_423 h
      rcases z_ite h with ⟨c_33_8, h⟩ | ⟨c_33_8, h⟩
      · refine r_sw (off := 397) (pc' := 430) (L' := [(0, .ref 0), (1, .ref 39), (2, .ref 143), (3, .int X3)]) hq (z_at.mk 163 rfl rfl) (z_off_v ((tx_iand hV_29 (rfl : (63 : Int32).toInt = 63)).trans c_33_8) rfl) rfl rfl rfl ?_
        refine r_p hq 1 (pc' := 431) (L' := [(0, .ref 0), (1, .ref 39), (2, .ref 143), (3, .int X3)]) (st' := [.ref 39]) rfl ?_
        obtain ⟨o_431, h_431, h⟩ := Option.bind_eq_some_iff.mp h
        refine r_cvI (pc' := 434) (L' := [(0, .ref 0), (1, .ref 39), (2, .ref 143), (3, .int X3)]) (Ps := []) (rest := []) hq (z_at.mk 3 rfl rfl) (Or.inl ⟨rfl, rfl⟩) rfl rfl (by decide) (by decide) rfl (Nat.not_lt.mpr (Nat.le_of_ble_eq_true rfl)) rfl rfl (z_cat_le 0 rfl (by decide)) (z_lgl_le 1 rfl (by decide)) (by decide) (H.tg rfl) (by omega) (g_c_run_ok H h_431) rfl rfl ?_
        intro R_431 m_431 p_431 e_431 hR_431 H_431
        subst e_431
        refine r_p hq 2 (pc' := 436) (L' := [(0, .ref 0), (1, .ref 39), (2, .ref 143), (3, .int X3)]) (st' := [.ref 143]) rfl ?_
        obtain ⟨o_436, h_436, h⟩ := Option.bind_eq_some_iff.mp h
        refine r_cvI (pc' := 439) (L' := [(0, .ref 0), (1, .ref 39), (2, .ref 143), (3, .int X3)]) (Ps := []) (rest := []) hq (z_at.mk 3 rfl rfl) (Or.inl ⟨rfl, rfl⟩) rfl rfl (by decide) (by decide) rfl (Nat.not_lt.mpr (Nat.le_of_ble_eq_true rfl)) rfl rfl (z_cat_le 0 rfl (by decide)) (z_lgl_le 1 rfl (by decide)) (by decide) (H_431.tg rfl) (by omega) (g_m_run_ok H_431 h_436) rfl rfl ?_
        intro R_436 m_436 p_436 e_436 hR_436 H_436
        subst e_436
        refine r_p hq 2 (pc' := 1367) (L' := [(0, .ref 0), (1, .ref 39), (2, .ref 143), (3, .int X3)]) (st' := []) rfl ?_
        exact g_jRangeAnswersLaw_law_L1367_ok hxl ih hx3 H_436 h
      rcases z_ite h with ⟨c_33_9, h⟩ | ⟨c_33_9, h⟩
      · refine r_sw (off := 410) (pc' := 443) (L' := [(0, .ref 0), (1, .ref 39), (2, .ref 143), (3, .int X3)]) hq (z_at.mk 163 rfl rfl) (z_off_v ((tx_iand hV_29 (rfl : (63 : Int32).toInt = 63)).trans c_33_9) rfl) rfl rfl rfl ?_
        refine r_p hq 5 (pc' := 448) (L' := [(0, .ref 0), (1, .ref 39), (2, .ref 143), (3, .int X3)]) (st' := [.int (X3 + ((1 : Int32))), .ref 0, .ref 39]) rfl ?_
        obtain ⟨g_448, h⟩ := z_ifo_some h
        refine r_iaS (pc' := 449) (L' := [(0, .ref 0), (1, .ref 39), (2, .ref 143), (3, .int X3)]) H hq (z_at.mk 1 rfl rfl) (tx_iadd hx3 (rfl : (1 : Int32).toInt = 1)) g_448 rfl rfl ?_
        intro V_448 hV_448
        obtain ⟨o_449, h_449, h⟩ := Option.bind_eq_some_iff.mp h
        refine r_cvL (pc' := 452) (L' := [(0, .ref 0), (1, .ref 39), (2, .ref 143), (3, .int X3)]) (Ps := [.int V_448]) (rest := []) hq (z_at.mk 3 rfl rfl) (Or.inl ⟨rfl, rfl⟩) rfl rfl (by decide) (by decide) rfl (Nat.not_lt.mpr (Nat.le_of_ble_eq_true rfl)) rfl rfl (z_cat_le 0 rfl (by decide)) (z_lgl_le 2 rfl (by decide)) (by decide) (H.tg rfl) (by omega) (g_c_answer_ok hV_448 H h_449) rfl rfl ?_
        intro R_449 m_449 p_449 e_449 hR_449 H_449
        subst e_449
        refine r_p hq 6 (pc' := 458) (L' := [(0, .ref 0), (1, .ref 39), (2, .ref 143), (3, .int X3)]) (st' := [.int (X3 + ((1 : Int32))), .ref 0, .ref 143]) rfl ?_
        obtain ⟨g_458, h⟩ := z_ifo_some h
        refine r_iaS (pc' := 459) (L' := [(0, .ref 0), (1, .ref 39), (2, .ref 143), (3, .int X3)]) H_449 hq (z_at.mk 1 rfl rfl) (tx_iadd hx3 (rfl : (1 : Int32).toInt = 1)) g_458 rfl rfl ?_
        intro V_458 hV_458
        obtain ⟨o_459, h_459, h⟩ := Option.bind_eq_some_iff.mp h
        refine r_cvL (pc' := 462) (L' := [(0, .ref 0), (1, .ref 39), (2, .ref 143), (3, .int X3)]) (Ps := [.int V_458]) (rest := []) hq (z_at.mk 3 rfl rfl) (Or.inl ⟨rfl, rfl⟩) rfl rfl (by decide) (by decide) rfl (Nat.not_lt.mpr (Nat.le_of_ble_eq_true rfl)) rfl rfl (z_cat_le 0 rfl (by decide)) (z_lgl_le 2 rfl (by decide)) (by decide) (H_449.tg rfl) (by omega) (g_m_answer_ok hV_458 H_449 h_459) rfl rfl ?_
        intro R_459 m_459 p_459 e_459 hR_459 H_459
        subst e_459
        refine r_p hq 2 (pc' := 1367) (L' := [(0, .ref 0), (1, .ref 39), (2, .ref 143), (3, .int X3)]) (st' := []) rfl ?_
        exact g_jRangeAnswersLaw_law_L1367_ok hxl ih hx3 H_459 h
      rcases z_ite h with ⟨c_33_10, h⟩ | ⟨c_33_10, h⟩
      · refine r_sw (off := 433) (pc' := 466) (L' := [(0, .ref 0), (1, .ref 39), (2, .ref 143), (3, .int X3)]) hq (z_at.mk 163 rfl rfl) (z_off_v ((tx_iand hV_29 (rfl : (63 : Int32).toInt = 63)).trans c_33_10) rfl) rfl rfl rfl ?_
        refine r_p hq 1 (pc' := 467) (L' := [(0, .ref 0), (1, .ref 39), (2, .ref 143), (3, .int X3)]) (st' := [.ref 39]) rfl ?_
        obtain ⟨o_467, h_467, h⟩ := Option.bind_eq_some_iff.mp h
        refine r_cvI (pc' := 470) (L' := [(0, .ref 0), (1, .ref 39), (2, .ref 143), (3, .int X3)]) (Ps := []) (rest := []) hq (z_at.mk 3 rfl rfl) (Or.inl ⟨rfl, rfl⟩) rfl rfl (by decide) (by decide) rfl (Nat.not_lt.mpr (Nat.le_of_ble_eq_true rfl)) rfl rfl (z_cat_le 0 rfl (by decide)) (z_lgl_le 1 rfl (by decide)) (by decide) (H.tg rfl) (by omega) (g_c_spell_ok H h_467) rfl rfl ?_
        intro R_467 m_467 p_467 e_467 hR_467 H_467
        refine r_p hq 2 (pc' := 472) (L' := [(0, .ref 0), (1, .ref 39), (2, .ref 143), (3, .int X3)]) (st' := [.ref 143]) rfl ?_
        obtain ⟨o_472, h_472, h⟩ := Option.bind_eq_some_iff.mp h
        refine r_cvI (pc' := 475) (L' := [(0, .ref 0), (1, .ref 39), (2, .ref 143), (3, .int X3)]) (Ps := []) (rest := []) hq (z_at.mk 3 rfl rfl) (Or.inl ⟨rfl, rfl⟩) rfl rfl (by decide) (by decide) rfl (Nat.not_lt.mpr (Nat.le_of_ble_eq_true rfl)) rfl rfl (z_cat_le 0 rfl (by decide)) (z_lgl_le 1 rfl (by decide)) (by decide) (H_467.tg rfl) (by omega) (g_m_spell_ok H_467 h_472) rfl rfl ?_
        intro R_472 m_472 p_472 e_472 hR_472 H_472
        subst e_472
        refine r_p hq 2 (pc' := 1367) (L' := [(0, .ref 0), (1, .ref 39), (2, .ref 143), (3, .int X3)]) (st' := []) rfl ?_
        exact g_jRangeAnswersLaw_law_L1367_ok hxl ih hx3 H_472 h
      rcases z_ite h with ⟨c_33_11, h⟩ | ⟨c_33_11, h⟩
      · refine r_sw (off := 446) (pc' := 479) (L' := [(0, .ref 0), (1, .ref 39), (2, .ref 143), (3, .int X3)]) hq (z_at.mk 163 rfl rfl) (z_off_v ((tx_iand hV_29 (rfl : (63 : Int32).toInt = 63)).trans c_33_11) rfl) rfl rfl rfl ?_
        refine r_p hq 1 (pc' := 480) (L' := [(0, .ref 0), (1, .ref 39), (2, .ref 143), (3, .int X3)]) (st' := [.ref 39]) rfl ?_
        obtain ⟨o_480, h_480, h⟩ := Option.bind_eq_some_iff.mp h
        refine r_cvI (pc' := 483) (L' := [(0, .ref 0), (1, .ref 39), (2, .ref 143), (3, .int X3)]) (Ps := []) (rest := []) hq (z_at.mk 3 rfl rfl) (Or.inl ⟨rfl, rfl⟩) rfl rfl (by decide) (by decide) rfl (Nat.not_lt.mpr (Nat.le_of_ble_eq_true rfl)) rfl rfl (z_cat_le 0 rfl (by decide)) (z_lgl_le 1 rfl (by decide)) (by decide) (H.tg rfl) (by omega) (g_c_load_ok H h_480) rfl rfl ?_
        intro R_480 m_480 p_480 e_480 hR_480 H_480
        subst e_480
        refine r_p hq 2 (pc' := 485) (L' := [(0, .ref 0), (1, .ref 39), (2, .ref 143), (3, .int X3)]) (st' := [.ref 143]) rfl ?_
        obtain ⟨o_485, h_485, h⟩ := Option.bind_eq_some_iff.mp h
        refine r_cvI (pc' := 488) (L' := [(0, .ref 0), (1, .ref 39), (2, .ref 143), (3, .int X3)]) (Ps := []) (rest := []) hq (z_at.mk 3 rfl rfl) (Or.inl ⟨rfl, rfl⟩) rfl rfl (by decide) (by decide) rfl (Nat.not_lt.mpr (Nat.le_of_ble_eq_true rfl)) rfl rfl (z_cat_le 0 rfl (by decide)) (z_lgl_le 1 rfl (by decide)) (by decide) (H_480.tg rfl) (by omega) (g_m_load_ok H_480 h_485) rfl rfl ?_
        intro R_485 m_485 p_485 e_485 hR_485 H_485
        subst e_485
        refine r_p hq 2 (pc' := 1367) (L' := [(0, .ref 0), (1, .ref 39), (2, .ref 143), (3, .int X3)]) (st' := []) rfl ?_
        exact g_jRangeAnswersLaw_law_L1367_ok hxl ih hx3 H_485 h
      rcases z_ite h with ⟨c_33_12, h⟩ | ⟨c_33_12, h⟩
      · refine r_sw (off := 459) (pc' := 492) (L' := [(0, .ref 0), (1, .ref 39), (2, .ref 143), (3, .int X3)]) hq (z_at.mk 163 rfl rfl) (z_off_v ((tx_iand hV_29 (rfl : (63 : Int32).toInt = 63)).trans c_33_12) rfl) rfl rfl rfl ?_
        refine r_p hq 5 (pc' := 497) (L' := [(0, .ref 0), (1, .ref 39), (2, .ref 143), (3, .int X3)]) (st' := [.int (X3 + ((1 : Int32))), .ref 0, .ref 39]) rfl ?_
        obtain ⟨g_497, h⟩ := z_ifo_some h
        refine r_iaS (pc' := 498) (L' := [(0, .ref 0), (1, .ref 39), (2, .ref 143), (3, .int X3)]) H hq (z_at.mk 1 rfl rfl) (tx_iadd hx3 (rfl : (1 : Int32).toInt = 1)) g_497 rfl rfl ?_
        intro V_497 hV_497
        refine r_p hq 4 (pc' := 502) (L' := [(0, .ref 0), (1, .ref 39), (2, .ref 143), (3, .int X3)]) (st' := [.int (X3 + ((2 : Int32))), .ref 0, .int V_497, .ref 39]) rfl ?_
        obtain ⟨g_502, h⟩ := z_ifo_some h
        refine r_iaS (pc' := 503) (L' := [(0, .ref 0), (1, .ref 39), (2, .ref 143), (3, .int X3)]) H hq (z_at.mk 1 rfl rfl) (tx_iadd hx3 (rfl : (2 : Int32).toInt = 2)) g_502 rfl rfl ?_
        intro V_502 hV_502
        refine r_p hq 4 (pc' := 507) (L' := [(0, .ref 0), (1, .ref 39), (2, .ref 143), (3, .int X3)]) (st' := [.int (X3 + ((3 : Int32))), .ref 0, .int V_502, .int V_497, .ref 39]) rfl ?_
        obtain ⟨g_507, h⟩ := z_ifo_some h
        refine r_iaS (pc' := 508) (L' := [(0, .ref 0), (1, .ref 39), (2, .ref 143), (3, .int X3)]) H hq (z_at.mk 1 rfl rfl) (tx_iadd hx3 (rfl : (3 : Int32).toInt = 3)) g_507 rfl rfl ?_
        intro V_507 hV_507
        refine r_p hq 4 (pc' := 512) (L' := [(0, .ref 0), (1, .ref 39), (2, .ref 143), (3, .int X3)]) (st' := [.int (X3 + ((4 : Int32))), .ref 0, .int V_507, .int V_502, .int V_497, .ref 39]) rfl ?_
        obtain ⟨g_512, h⟩ := z_ifo_some h
        refine r_iaS (pc' := 513) (L' := [(0, .ref 0), (1, .ref 39), (2, .ref 143), (3, .int X3)]) H hq (z_at.mk 1 rfl rfl) (tx_iadd hx3 (rfl : (4 : Int32).toInt = 4)) g_512 rfl rfl ?_
        intro V_512 hV_512
        obtain ⟨o_513, h_513, h⟩ := Option.bind_eq_some_iff.mp h
        refine r_cvI (pc' := 516) (L' := [(0, .ref 0), (1, .ref 39), (2, .ref 143), (3, .int X3)]) (Ps := [.int V_497, .int V_502, .int V_507, .int V_512]) (rest := []) hq (z_at.mk 3 rfl rfl) (Or.inl ⟨rfl, rfl⟩) rfl rfl (by decide) (by decide) rfl (Nat.not_lt.mpr (Nat.le_of_ble_eq_true rfl)) rfl rfl (z_cat_le 0 rfl (by decide)) (z_lgl_le 5 rfl (by decide)) (by decide) (H.tg rfl) (by omega) (g_c_explain_ok hV_497 hV_502 hV_507 hV_512 H h_513) rfl rfl ?_
        intro R_513 m_513 p_513 e_513 hR_513 H_513
        refine r_p hq 6 (pc' := 522) (L' := [(0, .ref 0), (1, .ref 39), (2, .ref 143), (3, .int X3)]) (st' := [.int (X3 + ((1 : Int32))), .ref 0, .ref 143]) rfl ?_
        obtain ⟨g_522, h⟩ := z_ifo_some h
        refine r_iaS (pc' := 523) (L' := [(0, .ref 0), (1, .ref 39), (2, .ref 143), (3, .int X3)]) H_513 hq (z_at.mk 1 rfl rfl) (tx_iadd hx3 (rfl : (1 : Int32).toInt = 1)) g_522 rfl rfl ?_
        intro V_522 hV_522
        refine r_p hq 4 (pc' := 527) (L' := [(0, .ref 0), (1, .ref 39), (2, .ref 143), (3, .int X3)]) (st' := [.int (X3 + ((2 : Int32))), .ref 0, .int V_522, .ref 143]) rfl ?_
        obtain ⟨g_527, h⟩ := z_ifo_some h
        refine r_iaS (pc' := 528) (L' := [(0, .ref 0), (1, .ref 39), (2, .ref 143), (3, .int X3)]) H_513 hq (z_at.mk 1 rfl rfl) (tx_iadd hx3 (rfl : (2 : Int32).toInt = 2)) g_527 rfl rfl ?_
        intro V_527 hV_527
        refine r_p hq 4 (pc' := 532) (L' := [(0, .ref 0), (1, .ref 39), (2, .ref 143), (3, .int X3)]) (st' := [.int (X3 + ((3 : Int32))), .ref 0, .int V_527, .int V_522, .ref 143]) rfl ?_
        obtain ⟨g_532, h⟩ := z_ifo_some h
        refine r_iaS (pc' := 533) (L' := [(0, .ref 0), (1, .ref 39), (2, .ref 143), (3, .int X3)]) H_513 hq (z_at.mk 1 rfl rfl) (tx_iadd hx3 (rfl : (3 : Int32).toInt = 3)) g_532 rfl rfl ?_
        intro V_532 hV_532
        refine r_p hq 4 (pc' := 537) (L' := [(0, .ref 0), (1, .ref 39), (2, .ref 143), (3, .int X3)]) (st' := [.int (X3 + ((4 : Int32))), .ref 0, .int V_532, .int V_527, .int V_522, .ref 143]) rfl ?_
        obtain ⟨g_537, h⟩ := z_ifo_some h
        refine r_iaS (pc' := 538) (L' := [(0, .ref 0), (1, .ref 39), (2, .ref 143), (3, .int X3)]) H_513 hq (z_at.mk 1 rfl rfl) (tx_iadd hx3 (rfl : (4 : Int32).toInt = 4)) g_537 rfl rfl ?_
        intro V_537 hV_537
        obtain ⟨o_538, h_538, h⟩ := Option.bind_eq_some_iff.mp h
        refine r_cvI (pc' := 541) (L' := [(0, .ref 0), (1, .ref 39), (2, .ref 143), (3, .int X3)]) (Ps := [.int V_522, .int V_527, .int V_532, .int V_537]) (rest := []) hq (z_at.mk 3 rfl rfl) (Or.inl ⟨rfl, rfl⟩) rfl rfl (by decide) (by decide) rfl (Nat.not_lt.mpr (Nat.le_of_ble_eq_true rfl)) rfl rfl (z_cat_le 0 rfl (by decide)) (z_lgl_le 5 rfl (by decide)) (by decide) (H_513.tg rfl) (by omega) (g_m_explain_ok hV_522 hV_527 hV_532 hV_537 H_513 h_538) rfl rfl ?_
        intro R_538 m_538 p_538 e_538 hR_538 H_538
        subst e_538
        refine r_p hq 2 (pc' := 1367) (L' := [(0, .ref 0), (1, .ref 39), (2, .ref 143), (3, .int X3)]) (st' := []) rfl ?_
        exact g_jRangeAnswersLaw_law_L1367_ok hxl ih hx3 H_538 h
      rcases z_ite h with ⟨c_33_13, h⟩ | ⟨c_33_13, h⟩
      · refine r_sw (off := 512) (pc' := 545) (L' := [(0, .ref 0), (1, .ref 39), (2, .ref 143), (3, .int X3)]) hq (z_at.mk 163 rfl rfl) (z_off_v ((tx_iand hV_29 (rfl : (63 : Int32).toInt = 63)).trans c_33_13) rfl) rfl rfl rfl ?_
        refine r_p hq 5 (pc' := 550) (L' := [(0, .ref 0), (1, .ref 39), (2, .ref 143), (3, .int X3)]) (st' := [.int (X3 + ((1 : Int32))), .ref 0, .ref 39]) rfl ?_
        obtain ⟨g_550, h⟩ := z_ifo_some h
        refine r_iaS (pc' := 551) (L' := [(0, .ref 0), (1, .ref 39), (2, .ref 143), (3, .int X3)]) H hq (z_at.mk 1 rfl rfl) (tx_iadd hx3 (rfl : (1 : Int32).toInt = 1)) g_550 rfl rfl ?_
        intro V_550 hV_550
        obtain ⟨o_551, h_551, h⟩ := Option.bind_eq_some_iff.mp h
        refine r_cvI (pc' := 554) (L' := [(0, .ref 0), (1, .ref 39), (2, .ref 143), (3, .int X3)]) (Ps := [.int V_550]) (rest := []) hq (z_at.mk 3 rfl rfl) (Or.inl ⟨rfl, rfl⟩) rfl rfl (by decide) (by decide) rfl (Nat.not_lt.mpr (Nat.le_of_ble_eq_true rfl)) rfl rfl (z_cat_le 0 rfl (by decide)) (z_lgl_le 2 rfl (by decide)) (by decide) (H.tg rfl) (by omega) (g_c_paper_ok hV_550 H h_551) rfl rfl ?_
        intro R_551 m_551 p_551 e_551 hR_551 H_551
        subst e_551
        refine r_p hq 6 (pc' := 560) (L' := [(0, .ref 0), (1, .ref 39), (2, .ref 143), (3, .int X3)]) (st' := [.int (X3 + ((1 : Int32))), .ref 0, .ref 143]) rfl ?_
        obtain ⟨g_560, h⟩ := z_ifo_some h
        refine r_iaS (pc' := 561) (L' := [(0, .ref 0), (1, .ref 39), (2, .ref 143), (3, .int X3)]) H_551 hq (z_at.mk 1 rfl rfl) (tx_iadd hx3 (rfl : (1 : Int32).toInt = 1)) g_560 rfl rfl ?_
        intro V_560 hV_560
        obtain ⟨o_561, h_561, h⟩ := Option.bind_eq_some_iff.mp h
        refine r_cvI (pc' := 564) (L' := [(0, .ref 0), (1, .ref 39), (2, .ref 143), (3, .int X3)]) (Ps := [.int V_560]) (rest := []) hq (z_at.mk 3 rfl rfl) (Or.inl ⟨rfl, rfl⟩) rfl rfl (by decide) (by decide) rfl (Nat.not_lt.mpr (Nat.le_of_ble_eq_true rfl)) rfl rfl (z_cat_le 0 rfl (by decide)) (z_lgl_le 2 rfl (by decide)) (by decide) (H_551.tg rfl) (by omega) (g_m_paper_ok hV_560 H_551 h_561) rfl rfl ?_
        intro R_561 m_561 p_561 e_561 hR_561 H_561
        subst e_561
        refine r_p hq 2 (pc' := 1367) (L' := [(0, .ref 0), (1, .ref 39), (2, .ref 143), (3, .int X3)]) (st' := []) rfl ?_
        exact g_jRangeAnswersLaw_law_L1367_ok hxl ih hx3 H_561 h
      rcases z_ite h with ⟨c_33_14, h⟩ | ⟨c_33_14, h⟩
      · refine r_sw (off := 535) (pc' := 568) (L' := [(0, .ref 0), (1, .ref 39), (2, .ref 143), (3, .int X3)]) hq (z_at.mk 163 rfl rfl) (z_off_v ((tx_iand hV_29 (rfl : (63 : Int32).toInt = 63)).trans c_33_14) rfl) rfl rfl rfl ?_
        refine r_p hq 5 (pc' := 573) (L' := [(0, .ref 0), (1, .ref 39), (2, .ref 143), (3, .int X3)]) (st' := [.int (X3 + ((1 : Int32))), .ref 0, .ref 39]) rfl ?_
        obtain ⟨g_573, h⟩ := z_ifo_some h
        refine r_iaS (pc' := 574) (L' := [(0, .ref 0), (1, .ref 39), (2, .ref 143), (3, .int X3)]) H hq (z_at.mk 1 rfl rfl) (tx_iadd hx3 (rfl : (1 : Int32).toInt = 1)) g_573 rfl rfl ?_
        intro V_573 hV_573
        refine r_p hq 4 (pc' := 578) (L' := [(0, .ref 0), (1, .ref 39), (2, .ref 143), (3, .int X3)]) (st' := [.int (X3 + ((2 : Int32))), .ref 0, .int V_573, .ref 39]) rfl ?_
        obtain ⟨g_578, h⟩ := z_ifo_some h
        refine r_iaS (pc' := 579) (L' := [(0, .ref 0), (1, .ref 39), (2, .ref 143), (3, .int X3)]) H hq (z_at.mk 1 rfl rfl) (tx_iadd hx3 (rfl : (2 : Int32).toInt = 2)) g_578 rfl rfl ?_
        intro V_578 hV_578
        refine r_p hq 4 (pc' := 583) (L' := [(0, .ref 0), (1, .ref 39), (2, .ref 143), (3, .int X3)]) (st' := [.int (X3 + ((3 : Int32))), .ref 0, .int V_578, .int V_573, .ref 39]) rfl ?_
        obtain ⟨g_583, h⟩ := z_ifo_some h
        refine r_iaS (pc' := 584) (L' := [(0, .ref 0), (1, .ref 39), (2, .ref 143), (3, .int X3)]) H hq (z_at.mk 1 rfl rfl) (tx_iadd hx3 (rfl : (3 : Int32).toInt = 3)) g_583 rfl rfl ?_
        intro V_583 hV_583
        refine r_p hq 4 (pc' := 588) (L' := [(0, .ref 0), (1, .ref 39), (2, .ref 143), (3, .int X3)]) (st' := [.int (X3 + ((4 : Int32))), .ref 0, .int V_583, .int V_578, .int V_573, .ref 39]) rfl ?_
        obtain ⟨g_588, h⟩ := z_ifo_some h
        refine r_iaS (pc' := 589) (L' := [(0, .ref 0), (1, .ref 39), (2, .ref 143), (3, .int X3)]) H hq (z_at.mk 1 rfl rfl) (tx_iadd hx3 (rfl : (4 : Int32).toInt = 4)) g_588 rfl rfl ?_
        intro V_588 hV_588
        refine r_p hq 4 (pc' := 593) (L' := [(0, .ref 0), (1, .ref 39), (2, .ref 143), (3, .int X3)]) (st' := [.int (X3 + ((5 : Int32))), .ref 0, .int V_588, .int V_583, .int V_578, .int V_573, .ref 39]) rfl ?_
        obtain ⟨g_593, h⟩ := z_ifo_some h
        refine r_iaS (pc' := 594) (L' := [(0, .ref 0), (1, .ref 39), (2, .ref 143), (3, .int X3)]) H hq (z_at.mk 1 rfl rfl) (tx_iadd hx3 (rfl : (5 : Int32).toInt = 5)) g_593 rfl rfl ?_
        intro V_593 hV_593
        obtain ⟨o_594, h_594, h⟩ := Option.bind_eq_some_iff.mp h
        refine r_cvL (pc' := 597) (L' := [(0, .ref 0), (1, .ref 39), (2, .ref 143), (3, .int X3)]) (Ps := [.int V_573, .int V_578, .int V_583, .int V_588, .int V_593]) (rest := []) hq (z_at.mk 3 rfl rfl) (Or.inl ⟨rfl, rfl⟩) rfl rfl (by decide) (by decide) rfl (Nat.not_lt.mpr (Nat.le_of_ble_eq_true rfl)) rfl rfl (z_cat_le 0 rfl (by decide)) (z_lgl_le 6 rfl (by decide)) (by decide) (H.tg rfl) (by omega) (g_c_query_ok hV_573 hV_578 hV_583 hV_588 hV_593 H h_594) rfl rfl ?_
        intro R_594 m_594 p_594 e_594 hR_594 H_594
        subst e_594
        refine r_p hq 6 (pc' := 603) (L' := [(0, .ref 0), (1, .ref 39), (2, .ref 143), (3, .int X3)]) (st' := [.int (X3 + ((1 : Int32))), .ref 0, .ref 143]) rfl ?_
        obtain ⟨g_603, h⟩ := z_ifo_some h
        refine r_iaS (pc' := 604) (L' := [(0, .ref 0), (1, .ref 39), (2, .ref 143), (3, .int X3)]) H_594 hq (z_at.mk 1 rfl rfl) (tx_iadd hx3 (rfl : (1 : Int32).toInt = 1)) g_603 rfl rfl ?_
        intro V_603 hV_603
        refine r_p hq 4 (pc' := 608) (L' := [(0, .ref 0), (1, .ref 39), (2, .ref 143), (3, .int X3)]) (st' := [.int (X3 + ((2 : Int32))), .ref 0, .int V_603, .ref 143]) rfl ?_
        obtain ⟨g_608, h⟩ := z_ifo_some h
        refine r_iaS (pc' := 609) (L' := [(0, .ref 0), (1, .ref 39), (2, .ref 143), (3, .int X3)]) H_594 hq (z_at.mk 1 rfl rfl) (tx_iadd hx3 (rfl : (2 : Int32).toInt = 2)) g_608 rfl rfl ?_
        intro V_608 hV_608
        refine r_p hq 4 (pc' := 613) (L' := [(0, .ref 0), (1, .ref 39), (2, .ref 143), (3, .int X3)]) (st' := [.int (X3 + ((3 : Int32))), .ref 0, .int V_608, .int V_603, .ref 143]) rfl ?_
        obtain ⟨g_613, h⟩ := z_ifo_some h
        refine r_iaS (pc' := 614) (L' := [(0, .ref 0), (1, .ref 39), (2, .ref 143), (3, .int X3)]) H_594 hq (z_at.mk 1 rfl rfl) (tx_iadd hx3 (rfl : (3 : Int32).toInt = 3)) g_613 rfl rfl ?_
        intro V_613 hV_613
        refine r_p hq 4 (pc' := 618) (L' := [(0, .ref 0), (1, .ref 39), (2, .ref 143), (3, .int X3)]) (st' := [.int (X3 + ((4 : Int32))), .ref 0, .int V_613, .int V_608, .int V_603, .ref 143]) rfl ?_
        obtain ⟨g_618, h⟩ := z_ifo_some h
        refine r_iaS (pc' := 619) (L' := [(0, .ref 0), (1, .ref 39), (2, .ref 143), (3, .int X3)]) H_594 hq (z_at.mk 1 rfl rfl) (tx_iadd hx3 (rfl : (4 : Int32).toInt = 4)) g_618 rfl rfl ?_
        intro V_618 hV_618
        refine r_p hq 4 (pc' := 623) (L' := [(0, .ref 0), (1, .ref 39), (2, .ref 143), (3, .int X3)]) (st' := [.int (X3 + ((5 : Int32))), .ref 0, .int V_618, .int V_613, .int V_608, .int V_603, .ref 143]) rfl ?_
        obtain ⟨g_623, h⟩ := z_ifo_some h
        refine r_iaS (pc' := 624) (L' := [(0, .ref 0), (1, .ref 39), (2, .ref 143), (3, .int X3)]) H_594 hq (z_at.mk 1 rfl rfl) (tx_iadd hx3 (rfl : (5 : Int32).toInt = 5)) g_623 rfl rfl ?_
        intro V_623 hV_623
        obtain ⟨o_624, h_624, h⟩ := Option.bind_eq_some_iff.mp h
        refine r_cvL (pc' := 627) (L' := [(0, .ref 0), (1, .ref 39), (2, .ref 143), (3, .int X3)]) (Ps := [.int V_603, .int V_608, .int V_613, .int V_618, .int V_623]) (rest := []) hq (z_at.mk 3 rfl rfl) (Or.inl ⟨rfl, rfl⟩) rfl rfl (by decide) (by decide) rfl (Nat.not_lt.mpr (Nat.le_of_ble_eq_true rfl)) rfl rfl (z_cat_le 0 rfl (by decide)) (z_lgl_le 6 rfl (by decide)) (by decide) (H_594.tg rfl) (by omega) (g_m_query_ok hV_603 hV_608 hV_613 hV_618 hV_623 H_594 h_624) rfl rfl ?_
        intro R_624 m_624 p_624 e_624 hR_624 H_624
        subst e_624
        refine r_p hq 2 (pc' := 1367) (L' := [(0, .ref 0), (1, .ref 39), (2, .ref 143), (3, .int X3)]) (st' := []) rfl ?_
        exact g_jRangeAnswersLaw_law_L1367_ok hxl ih hx3 H_624 h
      rcases z_ite h with ⟨c_33_15, h⟩ | ⟨c_33_15, h⟩
      · refine r_sw (off := 598) (pc' := 631) (L' := [(0, .ref 0), (1, .ref 39), (2, .ref 143), (3, .int X3)]) hq (z_at.mk 163 rfl rfl) (z_off_v ((tx_iand hV_29 (rfl : (63 : Int32).toInt = 63)).trans c_33_15) rfl) rfl rfl rfl ?_
        refine r_p hq 5 (pc' := 636) (L' := [(0, .ref 0), (1, .ref 39), (2, .ref 143), (3, .int X3)]) (st' := [.int (X3 + ((1 : Int32))), .ref 0, .ref 39]) rfl ?_
        obtain ⟨g_636, h⟩ := z_ifo_some h
        refine r_iaS (pc' := 637) (L' := [(0, .ref 0), (1, .ref 39), (2, .ref 143), (3, .int X3)]) H hq (z_at.mk 1 rfl rfl) (tx_iadd hx3 (rfl : (1 : Int32).toInt = 1)) g_636 rfl rfl ?_
        intro V_636 hV_636
        obtain ⟨o_637, h_637, h⟩ := Option.bind_eq_some_iff.mp h
        refine r_cvI (pc' := 640) (L' := [(0, .ref 0), (1, .ref 39), (2, .ref 143), (3, .int X3)]) (Ps := [.int V_636]) (rest := []) hq (z_at.mk 3 rfl rfl) (Or.inl ⟨rfl, rfl⟩) rfl rfl (by decide) (by decide) rfl (Nat.not_lt.mpr (Nat.le_of_ble_eq_true rfl)) rfl rfl (z_cat_le 0 rfl (by decide)) (z_lgl_le 2 rfl (by decide)) (by decide) (H.tg rfl) (by omega) (g_c_find_ok hV_636 H h_637) rfl rfl ?_
        intro R_637 m_637 p_637 e_637 hR_637 H_637
        subst e_637
        refine r_p hq 6 (pc' := 646) (L' := [(0, .ref 0), (1, .ref 39), (2, .ref 143), (3, .int X3)]) (st' := [.int (X3 + ((1 : Int32))), .ref 0, .ref 143]) rfl ?_
        obtain ⟨g_646, h⟩ := z_ifo_some h
        refine r_iaS (pc' := 647) (L' := [(0, .ref 0), (1, .ref 39), (2, .ref 143), (3, .int X3)]) H_637 hq (z_at.mk 1 rfl rfl) (tx_iadd hx3 (rfl : (1 : Int32).toInt = 1)) g_646 rfl rfl ?_
        intro V_646 hV_646
        obtain ⟨o_647, h_647, h⟩ := Option.bind_eq_some_iff.mp h
        refine r_cvI (pc' := 650) (L' := [(0, .ref 0), (1, .ref 39), (2, .ref 143), (3, .int X3)]) (Ps := [.int V_646]) (rest := []) hq (z_at.mk 3 rfl rfl) (Or.inl ⟨rfl, rfl⟩) rfl rfl (by decide) (by decide) rfl (Nat.not_lt.mpr (Nat.le_of_ble_eq_true rfl)) rfl rfl (z_cat_le 0 rfl (by decide)) (z_lgl_le 2 rfl (by decide)) (by decide) (H_637.tg rfl) (by omega) (g_m_find_ok hV_646 H_637 h_647) rfl rfl ?_
        intro R_647 m_647 p_647 e_647 hR_647 H_647
        subst e_647
        refine r_p hq 2 (pc' := 1367) (L' := [(0, .ref 0), (1, .ref 39), (2, .ref 143), (3, .int X3)]) (st' := []) rfl ?_
        exact g_jRangeAnswersLaw_law_L1367_ok hxl ih hx3 H_647 h
      rcases z_ite h with ⟨c_33_16, h⟩ | ⟨c_33_16, h⟩
      · refine r_sw (off := 621) (pc' := 654) (L' := [(0, .ref 0), (1, .ref 39), (2, .ref 143), (3, .int X3)]) hq (z_at.mk 163 rfl rfl) (z_off_v ((tx_iand hV_29 (rfl : (63 : Int32).toInt = 63)).trans c_33_16) rfl) rfl rfl rfl ?_
        refine r_p hq 5 (pc' := 659) (L' := [(0, .ref 0), (1, .ref 39), (2, .ref 143), (3, .int X3)]) (st' := [.int (X3 + ((1 : Int32))), .ref 0, .ref 39]) rfl ?_
        obtain ⟨g_659, h⟩ := z_ifo_some h
        refine r_iaS (pc' := 660) (L' := [(0, .ref 0), (1, .ref 39), (2, .ref 143), (3, .int X3)]) H hq (z_at.mk 1 rfl rfl) (tx_iadd hx3 (rfl : (1 : Int32).toInt = 1)) g_659 rfl rfl ?_
        intro V_659 hV_659
        refine r_p hq 4 (pc' := 664) (L' := [(0, .ref 0), (1, .ref 39), (2, .ref 143), (3, .int X3)]) (st' := [.int (X3 + ((2 : Int32))), .ref 0, .int V_659, .ref 39]) rfl ?_
        obtain ⟨g_664, h⟩ := z_ifo_some h
        refine r_iaS (pc' := 665) (L' := [(0, .ref 0), (1, .ref 39), (2, .ref 143), (3, .int X3)]) H hq (z_at.mk 1 rfl rfl) (tx_iadd hx3 (rfl : (2 : Int32).toInt = 2)) g_664 rfl rfl ?_
        intro V_664 hV_664
        refine r_p hq 4 (pc' := 669) (L' := [(0, .ref 0), (1, .ref 39), (2, .ref 143), (3, .int X3)]) (st' := [.int (X3 + ((3 : Int32))), .ref 0, .int V_664, .int V_659, .ref 39]) rfl ?_
        obtain ⟨g_669, h⟩ := z_ifo_some h
        refine r_iaS (pc' := 670) (L' := [(0, .ref 0), (1, .ref 39), (2, .ref 143), (3, .int X3)]) H hq (z_at.mk 1 rfl rfl) (tx_iadd hx3 (rfl : (3 : Int32).toInt = 3)) g_669 rfl rfl ?_
        intro V_669 hV_669
        refine r_p hq 4 (pc' := 674) (L' := [(0, .ref 0), (1, .ref 39), (2, .ref 143), (3, .int X3)]) (st' := [.int (X3 + ((4 : Int32))), .ref 0, .int V_669, .int V_664, .int V_659, .ref 39]) rfl ?_
        obtain ⟨g_674, h⟩ := z_ifo_some h
        refine r_iaS (pc' := 675) (L' := [(0, .ref 0), (1, .ref 39), (2, .ref 143), (3, .int X3)]) H hq (z_at.mk 1 rfl rfl) (tx_iadd hx3 (rfl : (4 : Int32).toInt = 4)) g_674 rfl rfl ?_
        intro V_674 hV_674
        obtain ⟨o_675, h_675, h⟩ := Option.bind_eq_some_iff.mp h
        refine r_cvI (pc' := 678) (L' := [(0, .ref 0), (1, .ref 39), (2, .ref 143), (3, .int X3)]) (Ps := [.int V_659, .int V_664, .int V_669, .int V_674]) (rest := []) hq (z_at.mk 3 rfl rfl) (Or.inl ⟨rfl, rfl⟩) rfl rfl (by decide) (by decide) rfl (Nat.not_lt.mpr (Nat.le_of_ble_eq_true rfl)) rfl rfl (z_cat_le 0 rfl (by decide)) (z_lgl_le 5 rfl (by decide)) (by decide) (H.tg rfl) (by omega) (g_c_probe_ok hV_659 hV_664 hV_669 hV_674 H h_675) rfl rfl ?_
        intro R_675 m_675 p_675 e_675 hR_675 H_675
        subst e_675
        refine r_p hq 6 (pc' := 684) (L' := [(0, .ref 0), (1, .ref 39), (2, .ref 143), (3, .int X3)]) (st' := [.int (X3 + ((1 : Int32))), .ref 0, .ref 143]) rfl ?_
        obtain ⟨g_684, h⟩ := z_ifo_some h
        refine r_iaS (pc' := 685) (L' := [(0, .ref 0), (1, .ref 39), (2, .ref 143), (3, .int X3)]) H_675 hq (z_at.mk 1 rfl rfl) (tx_iadd hx3 (rfl : (1 : Int32).toInt = 1)) g_684 rfl rfl ?_
        intro V_684 hV_684
        refine r_p hq 4 (pc' := 689) (L' := [(0, .ref 0), (1, .ref 39), (2, .ref 143), (3, .int X3)]) (st' := [.int (X3 + ((2 : Int32))), .ref 0, .int V_684, .ref 143]) rfl ?_
        obtain ⟨g_689, h⟩ := z_ifo_some h
        refine r_iaS (pc' := 690) (L' := [(0, .ref 0), (1, .ref 39), (2, .ref 143), (3, .int X3)]) H_675 hq (z_at.mk 1 rfl rfl) (tx_iadd hx3 (rfl : (2 : Int32).toInt = 2)) g_689 rfl rfl ?_
        intro V_689 hV_689
        refine r_p hq 4 (pc' := 694) (L' := [(0, .ref 0), (1, .ref 39), (2, .ref 143), (3, .int X3)]) (st' := [.int (X3 + ((3 : Int32))), .ref 0, .int V_689, .int V_684, .ref 143]) rfl ?_
        obtain ⟨g_694, h⟩ := z_ifo_some h
        refine r_iaS (pc' := 695) (L' := [(0, .ref 0), (1, .ref 39), (2, .ref 143), (3, .int X3)]) H_675 hq (z_at.mk 1 rfl rfl) (tx_iadd hx3 (rfl : (3 : Int32).toInt = 3)) g_694 rfl rfl ?_
        intro V_694 hV_694
        refine r_p hq 4 (pc' := 699) (L' := [(0, .ref 0), (1, .ref 39), (2, .ref 143), (3, .int X3)]) (st' := [.int (X3 + ((4 : Int32))), .ref 0, .int V_694, .int V_689, .int V_684, .ref 143]) rfl ?_
        obtain ⟨g_699, h⟩ := z_ifo_some h
        refine r_iaS (pc' := 700) (L' := [(0, .ref 0), (1, .ref 39), (2, .ref 143), (3, .int X3)]) H_675 hq (z_at.mk 1 rfl rfl) (tx_iadd hx3 (rfl : (4 : Int32).toInt = 4)) g_699 rfl rfl ?_
        intro V_699 hV_699
        obtain ⟨o_700, h_700, h⟩ := Option.bind_eq_some_iff.mp h
        refine r_cvI (pc' := 703) (L' := [(0, .ref 0), (1, .ref 39), (2, .ref 143), (3, .int X3)]) (Ps := [.int V_684, .int V_689, .int V_694, .int V_699]) (rest := []) hq (z_at.mk 3 rfl rfl) (Or.inl ⟨rfl, rfl⟩) rfl rfl (by decide) (by decide) rfl (Nat.not_lt.mpr (Nat.le_of_ble_eq_true rfl)) rfl rfl (z_cat_le 0 rfl (by decide)) (z_lgl_le 5 rfl (by decide)) (by decide) (H_675.tg rfl) (by omega) (g_m_probe_ok hV_684 hV_689 hV_694 hV_699 H_675 h_700) rfl rfl ?_
        intro R_700 m_700 p_700 e_700 hR_700 H_700
        subst e_700
        refine r_p hq 2 (pc' := 1367) (L' := [(0, .ref 0), (1, .ref 39), (2, .ref 143), (3, .int X3)]) (st' := []) rfl ?_
        exact g_jRangeAnswersLaw_law_L1367_ok hxl ih hx3 H_700 h
      rcases z_ite h with ⟨c_33_17, h⟩ | ⟨c_33_17, h⟩
      · refine r_sw (off := 674) (pc' := 707) (L' := [(0, .ref 0), (1, .ref 39), (2, .ref 143), (3, .int X3)]) hq (z_at.mk 163 rfl rfl) (z_off_v ((tx_iand hV_29 (rfl : (63 : Int32).toInt = 63)).trans c_33_17) rfl) rfl rfl rfl ?_
        refine r_p hq 5 (pc' := 712) (L' := [(0, .ref 0), (1, .ref 39), (2, .ref 143), (3, .int X3)]) (st' := [.int (X3 + ((1 : Int32))), .ref 0, .ref 39]) rfl ?_
        obtain ⟨g_712, h⟩ := z_ifo_some h
        refine r_iaS (pc' := 713) (L' := [(0, .ref 0), (1, .ref 39), (2, .ref 143), (3, .int X3)]) H hq (z_at.mk 1 rfl rfl) (tx_iadd hx3 (rfl : (1 : Int32).toInt = 1)) g_712 rfl rfl ?_
        intro V_712 hV_712
        refine r_p hq 4 (pc' := 717) (L' := [(0, .ref 0), (1, .ref 39), (2, .ref 143), (3, .int X3)]) (st' := [.int (X3 + ((2 : Int32))), .ref 0, .int V_712, .ref 39]) rfl ?_
        obtain ⟨g_717, h⟩ := z_ifo_some h
        refine r_iaS (pc' := 718) (L' := [(0, .ref 0), (1, .ref 39), (2, .ref 143), (3, .int X3)]) H hq (z_at.mk 1 rfl rfl) (tx_iadd hx3 (rfl : (2 : Int32).toInt = 2)) g_717 rfl rfl ?_
        intro V_717 hV_717
        obtain ⟨o_718, h_718, h⟩ := Option.bind_eq_some_iff.mp h
        refine r_cvI (pc' := 721) (L' := [(0, .ref 0), (1, .ref 39), (2, .ref 143), (3, .int X3)]) (Ps := [.int V_712, .int V_717]) (rest := []) hq (z_at.mk 3 rfl rfl) (Or.inl ⟨rfl, rfl⟩) rfl rfl (by decide) (by decide) rfl (Nat.not_lt.mpr (Nat.le_of_ble_eq_true rfl)) rfl rfl (z_cat_le 0 rfl (by decide)) (z_lgl_le 3 rfl (by decide)) (by decide) (H.tg rfl) (by omega) (g_c_piece_ok hV_712 hV_717 H h_718) rfl rfl ?_
        intro R_718 m_718 p_718 e_718 hR_718 H_718
        subst e_718
        refine r_p hq 6 (pc' := 727) (L' := [(0, .ref 0), (1, .ref 39), (2, .ref 143), (3, .int X3)]) (st' := [.int (X3 + ((1 : Int32))), .ref 0, .ref 143]) rfl ?_
        obtain ⟨g_727, h⟩ := z_ifo_some h
        refine r_iaS (pc' := 728) (L' := [(0, .ref 0), (1, .ref 39), (2, .ref 143), (3, .int X3)]) H_718 hq (z_at.mk 1 rfl rfl) (tx_iadd hx3 (rfl : (1 : Int32).toInt = 1)) g_727 rfl rfl ?_
        intro V_727 hV_727
        refine r_p hq 4 (pc' := 732) (L' := [(0, .ref 0), (1, .ref 39), (2, .ref 143), (3, .int X3)]) (st' := [.int (X3 + ((2 : Int32))), .ref 0, .int V_727, .ref 143]) rfl ?_
        obtain ⟨g_732, h⟩ := z_ifo_some h
        refine r_iaS (pc' := 733) (L' := [(0, .ref 0), (1, .ref 39), (2, .ref 143), (3, .int X3)]) H_718 hq (z_at.mk 1 rfl rfl) (tx_iadd hx3 (rfl : (2 : Int32).toInt = 2)) g_732 rfl rfl ?_
        intro V_732 hV_732
        obtain ⟨o_733, h_733, h⟩ := Option.bind_eq_some_iff.mp h
        refine r_cvI (pc' := 736) (L' := [(0, .ref 0), (1, .ref 39), (2, .ref 143), (3, .int X3)]) (Ps := [.int V_727, .int V_732]) (rest := []) hq (z_at.mk 3 rfl rfl) (Or.inl ⟨rfl, rfl⟩) rfl rfl (by decide) (by decide) rfl (Nat.not_lt.mpr (Nat.le_of_ble_eq_true rfl)) rfl rfl (z_cat_le 0 rfl (by decide)) (z_lgl_le 3 rfl (by decide)) (by decide) (H_718.tg rfl) (by omega) (g_m_piece_ok hV_727 hV_732 H_718 h_733) rfl rfl ?_
        intro R_733 m_733 p_733 e_733 hR_733 H_733
        subst e_733
        refine r_p hq 2 (pc' := 1367) (L' := [(0, .ref 0), (1, .ref 39), (2, .ref 143), (3, .int X3)]) (st' := []) rfl ?_
        exact g_jRangeAnswersLaw_law_L1367_ok hxl ih hx3 H_733 h
      rcases z_ite h with ⟨c_33_18, h⟩ | ⟨c_33_18, h⟩
      · refine r_sw (off := 707) (pc' := 740) (L' := [(0, .ref 0), (1, .ref 39), (2, .ref 143), (3, .int X3)]) hq (z_at.mk 163 rfl rfl) (z_off_v ((tx_iand hV_29 (rfl : (63 : Int32).toInt = 63)).trans c_33_18) rfl) rfl rfl rfl ?_
        refine r_p hq 5 (pc' := 745) (L' := [(0, .ref 0), (1, .ref 39), (2, .ref 143), (3, .int X3)]) (st' := [.int (X3 + ((1 : Int32))), .ref 0, .ref 39]) rfl ?_
        obtain ⟨g_745, h⟩ := z_ifo_some h
        refine r_iaS (pc' := 746) (L' := [(0, .ref 0), (1, .ref 39), (2, .ref 143), (3, .int X3)]) H hq (z_at.mk 1 rfl rfl) (tx_iadd hx3 (rfl : (1 : Int32).toInt = 1)) g_745 rfl rfl ?_
        intro V_745 hV_745
        refine r_p hq 4 (pc' := 750) (L' := [(0, .ref 0), (1, .ref 39), (2, .ref 143), (3, .int X3)]) (st' := [.int (X3 + ((2 : Int32))), .ref 0, .int V_745, .ref 39]) rfl ?_
        obtain ⟨g_750, h⟩ := z_ifo_some h
        refine r_iaS (pc' := 751) (L' := [(0, .ref 0), (1, .ref 39), (2, .ref 143), (3, .int X3)]) H hq (z_at.mk 1 rfl rfl) (tx_iadd hx3 (rfl : (2 : Int32).toInt = 2)) g_750 rfl rfl ?_
        intro V_750 hV_750
        obtain ⟨o_751, h_751, h⟩ := Option.bind_eq_some_iff.mp h
        refine r_cvI (pc' := 754) (L' := [(0, .ref 0), (1, .ref 39), (2, .ref 143), (3, .int X3)]) (Ps := [.int V_745, .int V_750]) (rest := []) hq (z_at.mk 3 rfl rfl) (Or.inl ⟨rfl, rfl⟩) rfl rfl (by decide) (by decide) rfl (Nat.not_lt.mpr (Nat.le_of_ble_eq_true rfl)) rfl rfl (z_cat_le 0 rfl (by decide)) (z_lgl_le 3 rfl (by decide)) (by decide) (H.tg rfl) (by omega) (g_c_region_ok hV_745 hV_750 H h_751) rfl rfl ?_
        intro R_751 m_751 p_751 e_751 hR_751 H_751
        subst e_751
        refine r_p hq 6 (pc' := 760) (L' := [(0, .ref 0), (1, .ref 39), (2, .ref 143), (3, .int X3)]) (st' := [.int (X3 + ((1 : Int32))), .ref 0, .ref 143]) rfl ?_
        obtain ⟨g_760, h⟩ := z_ifo_some h
        refine r_iaS (pc' := 761) (L' := [(0, .ref 0), (1, .ref 39), (2, .ref 143), (3, .int X3)]) H_751 hq (z_at.mk 1 rfl rfl) (tx_iadd hx3 (rfl : (1 : Int32).toInt = 1)) g_760 rfl rfl ?_
        intro V_760 hV_760
        refine r_p hq 4 (pc' := 765) (L' := [(0, .ref 0), (1, .ref 39), (2, .ref 143), (3, .int X3)]) (st' := [.int (X3 + ((2 : Int32))), .ref 0, .int V_760, .ref 143]) rfl ?_
        obtain ⟨g_765, h⟩ := z_ifo_some h
        refine r_iaS (pc' := 766) (L' := [(0, .ref 0), (1, .ref 39), (2, .ref 143), (3, .int X3)]) H_751 hq (z_at.mk 1 rfl rfl) (tx_iadd hx3 (rfl : (2 : Int32).toInt = 2)) g_765 rfl rfl ?_
        intro V_765 hV_765
        obtain ⟨o_766, h_766, h⟩ := Option.bind_eq_some_iff.mp h
        refine r_cvI (pc' := 769) (L' := [(0, .ref 0), (1, .ref 39), (2, .ref 143), (3, .int X3)]) (Ps := [.int V_760, .int V_765]) (rest := []) hq (z_at.mk 3 rfl rfl) (Or.inl ⟨rfl, rfl⟩) rfl rfl (by decide) (by decide) rfl (Nat.not_lt.mpr (Nat.le_of_ble_eq_true rfl)) rfl rfl (z_cat_le 0 rfl (by decide)) (z_lgl_le 3 rfl (by decide)) (by decide) (H_751.tg rfl) (by omega) (g_m_region_248_ok hV_760 hV_765 H_751 h_766) rfl rfl ?_
        intro R_766 m_766 p_766 e_766 hR_766 H_766
        subst e_766
        refine r_p hq 2 (pc' := 1367) (L' := [(0, .ref 0), (1, .ref 39), (2, .ref 143), (3, .int X3)]) (st' := []) rfl ?_
        exact g_jRangeAnswersLaw_law_L1367_ok hxl ih hx3 H_766 h
      rcases z_ite h with ⟨c_33_19, h⟩ | ⟨c_33_19, h⟩
      · refine r_sw (off := 740) (pc' := 773) (L' := [(0, .ref 0), (1, .ref 39), (2, .ref 143), (3, .int X3)]) hq (z_at.mk 163 rfl rfl) (z_off_v ((tx_iand hV_29 (rfl : (63 : Int32).toInt = 63)).trans c_33_19) rfl) rfl rfl rfl ?_
        refine r_p hq 5 (pc' := 778) (L' := [(0, .ref 0), (1, .ref 39), (2, .ref 143), (3, .int X3)]) (st' := [.int (X3 + ((1 : Int32))), .ref 0, .ref 39]) rfl ?_
        obtain ⟨g_778, h⟩ := z_ifo_some h
        refine r_iaS (pc' := 779) (L' := [(0, .ref 0), (1, .ref 39), (2, .ref 143), (3, .int X3)]) H hq (z_at.mk 1 rfl rfl) (tx_iadd hx3 (rfl : (1 : Int32).toInt = 1)) g_778 rfl rfl ?_
        intro V_778 hV_778
        obtain ⟨o_779, h_779, h⟩ := Option.bind_eq_some_iff.mp h
        refine r_cvL (pc' := 782) (L' := [(0, .ref 0), (1, .ref 39), (2, .ref 143), (3, .int X3)]) (Ps := [.int V_778]) (rest := []) hq (z_at.mk 3 rfl rfl) (Or.inl ⟨rfl, rfl⟩) rfl rfl (by decide) (by decide) rfl (Nat.not_lt.mpr (Nat.le_of_ble_eq_true rfl)) rfl rfl (z_cat_le 0 rfl (by decide)) (z_lgl_le 2 rfl (by decide)) (by decide) (H.tg rfl) (by omega) (g_c_weight_ok hV_778 H h_779) rfl rfl ?_
        intro R_779 m_779 p_779 e_779 hR_779 H_779
        subst e_779
        refine r_p hq 6 (pc' := 788) (L' := [(0, .ref 0), (1, .ref 39), (2, .ref 143), (3, .int X3)]) (st' := [.int (X3 + ((1 : Int32))), .ref 0, .ref 143]) rfl ?_
        obtain ⟨g_788, h⟩ := z_ifo_some h
        refine r_iaS (pc' := 789) (L' := [(0, .ref 0), (1, .ref 39), (2, .ref 143), (3, .int X3)]) H_779 hq (z_at.mk 1 rfl rfl) (tx_iadd hx3 (rfl : (1 : Int32).toInt = 1)) g_788 rfl rfl ?_
        intro V_788 hV_788
        obtain ⟨o_789, h_789, h⟩ := Option.bind_eq_some_iff.mp h
        refine r_cvL (pc' := 792) (L' := [(0, .ref 0), (1, .ref 39), (2, .ref 143), (3, .int X3)]) (Ps := [.int V_788]) (rest := []) hq (z_at.mk 3 rfl rfl) (Or.inl ⟨rfl, rfl⟩) rfl rfl (by decide) (by decide) rfl (Nat.not_lt.mpr (Nat.le_of_ble_eq_true rfl)) rfl rfl (z_cat_le 0 rfl (by decide)) (z_lgl_le 2 rfl (by decide)) (by decide) (H_779.tg rfl) (by omega) (g_m_weight_ok hV_788 H_779 h_789) rfl rfl ?_
        intro R_789 m_789 p_789 e_789 hR_789 H_789
        subst e_789
        refine r_p hq 2 (pc' := 1367) (L' := [(0, .ref 0), (1, .ref 39), (2, .ref 143), (3, .int X3)]) (st' := []) rfl ?_
        exact g_jRangeAnswersLaw_law_L1367_ok hxl ih hx3 H_789 h
      rcases z_ite h with ⟨c_33_20, h⟩ | ⟨c_33_20, h⟩
      · refine r_sw (off := 763) (pc' := 796) (L' := [(0, .ref 0), (1, .ref 39), (2, .ref 143), (3, .int X3)]) hq (z_at.mk 163 rfl rfl) (z_off_v ((tx_iand hV_29 (rfl : (63 : Int32).toInt = 63)).trans c_33_20) rfl) rfl rfl rfl ?_
        refine r_p hq 5 (pc' := 801) (L' := [(0, .ref 0), (1, .ref 39), (2, .ref 143), (3, .int X3)]) (st' := [.int (X3 + ((1 : Int32))), .ref 0, .ref 39]) rfl ?_
        obtain ⟨g_801, h⟩ := z_ifo_some h
        refine r_iaS (pc' := 802) (L' := [(0, .ref 0), (1, .ref 39), (2, .ref 143), (3, .int X3)]) H hq (z_at.mk 1 rfl rfl) (tx_iadd hx3 (rfl : (1 : Int32).toInt = 1)) g_801 rfl rfl ?_
        intro V_801 hV_801
        obtain ⟨o_802, h_802, h⟩ := Option.bind_eq_some_iff.mp h
        refine r_cvL (pc' := 805) (L' := [(0, .ref 0), (1, .ref 39), (2, .ref 143), (3, .int X3)]) (Ps := [.int V_801]) (rest := []) hq (z_at.mk 3 rfl rfl) (Or.inl ⟨rfl, rfl⟩) rfl rfl (by decide) (by decide) rfl (Nat.not_lt.mpr (Nat.le_of_ble_eq_true rfl)) rfl rfl (z_cat_le 0 rfl (by decide)) (z_lgl_le 2 rfl (by decide)) (by decide) (H.tg rfl) (by omega) (g_c_told_ok hV_801 H h_802) rfl rfl ?_
        intro R_802 m_802 p_802 e_802 hR_802 H_802
        subst e_802
        refine r_p hq 6 (pc' := 811) (L' := [(0, .ref 0), (1, .ref 39), (2, .ref 143), (3, .int X3)]) (st' := [.int (X3 + ((1 : Int32))), .ref 0, .ref 143]) rfl ?_
        obtain ⟨g_811, h⟩ := z_ifo_some h
        refine r_iaS (pc' := 812) (L' := [(0, .ref 0), (1, .ref 39), (2, .ref 143), (3, .int X3)]) H_802 hq (z_at.mk 1 rfl rfl) (tx_iadd hx3 (rfl : (1 : Int32).toInt = 1)) g_811 rfl rfl ?_
        intro V_811 hV_811
        obtain ⟨o_812, h_812, h⟩ := Option.bind_eq_some_iff.mp h
        refine r_cvL (pc' := 815) (L' := [(0, .ref 0), (1, .ref 39), (2, .ref 143), (3, .int X3)]) (Ps := [.int V_811]) (rest := []) hq (z_at.mk 3 rfl rfl) (Or.inl ⟨rfl, rfl⟩) rfl rfl (by decide) (by decide) rfl (Nat.not_lt.mpr (Nat.le_of_ble_eq_true rfl)) rfl rfl (z_cat_le 0 rfl (by decide)) (z_lgl_le 2 rfl (by decide)) (by decide) (H_802.tg rfl) (by omega) (g_m_told_ok hV_811 H_802 h_812) rfl rfl ?_
        intro R_812 m_812 p_812 e_812 hR_812 H_812
        subst e_812
        refine r_p hq 2 (pc' := 1367) (L' := [(0, .ref 0), (1, .ref 39), (2, .ref 143), (3, .int X3)]) (st' := []) rfl ?_
        exact g_jRangeAnswersLaw_law_L1367_ok hxl ih hx3 H_812 h
      rcases z_ite h with ⟨c_33_21, h⟩ | ⟨c_33_21, h⟩
      · refine r_sw (off := 786) (pc' := 819) (L' := [(0, .ref 0), (1, .ref 39), (2, .ref 143), (3, .int X3)]) hq (z_at.mk 163 rfl rfl) (z_off_v ((tx_iand hV_29 (rfl : (63 : Int32).toInt = 63)).trans c_33_21) rfl) rfl rfl rfl ?_
        refine r_p hq 1 (pc' := 820) (L' := [(0, .ref 0), (1, .ref 39), (2, .ref 143), (3, .int X3)]) (st' := [.ref 39]) rfl ?_
        obtain ⟨o_820, h_820, h⟩ := Option.bind_eq_some_iff.mp h
        refine r_cvI (pc' := 823) (L' := [(0, .ref 0), (1, .ref 39), (2, .ref 143), (3, .int X3)]) (Ps := []) (rest := []) hq (z_at.mk 3 rfl rfl) (Or.inl ⟨rfl, rfl⟩) rfl rfl (by decide) (by decide) rfl (Nat.not_lt.mpr (Nat.le_of_ble_eq_true rfl)) rfl rfl (z_cat_le 0 rfl (by decide)) (z_lgl_le 1 rfl (by decide)) (by decide) (H.tg rfl) (by omega) (g_c_flush_ok H h_820) rfl rfl ?_
        intro R_820 m_820 p_820 e_820 hR_820 H_820
        subst e_820
        refine r_p hq 2 (pc' := 825) (L' := [(0, .ref 0), (1, .ref 39), (2, .ref 143), (3, .int X3)]) (st' := [.ref 143]) rfl ?_
        obtain ⟨o_825, h_825, h⟩ := Option.bind_eq_some_iff.mp h
        refine r_cvI (pc' := 828) (L' := [(0, .ref 0), (1, .ref 39), (2, .ref 143), (3, .int X3)]) (Ps := []) (rest := []) hq (z_at.mk 3 rfl rfl) (Or.inl ⟨rfl, rfl⟩) rfl rfl (by decide) (by decide) rfl (Nat.not_lt.mpr (Nat.le_of_ble_eq_true rfl)) rfl rfl (z_cat_le 0 rfl (by decide)) (z_lgl_le 1 rfl (by decide)) (by decide) (H_820.tg rfl) (by omega) (g_m_flush_ok H_820 h_825) rfl rfl ?_
        intro R_825 m_825 p_825 e_825 hR_825 H_825
        subst e_825
        refine r_p hq 2 (pc' := 1367) (L' := [(0, .ref 0), (1, .ref 39), (2, .ref 143), (3, .int X3)]) (st' := []) rfl ?_
        exact g_jRangeAnswersLaw_law_L1367_ok hxl ih hx3 H_825 h
      rcases z_ite h with ⟨c_33_22, h⟩ | ⟨c_33_22, h⟩
      · refine r_sw (off := 799) (pc' := 832) (L' := [(0, .ref 0), (1, .ref 39), (2, .ref 143), (3, .int X3)]) hq (z_at.mk 163 rfl rfl) (z_off_v ((tx_iand hV_29 (rfl : (63 : Int32).toInt = 63)).trans c_33_22) rfl) rfl rfl rfl ?_
        refine r_p hq 5 (pc' := 837) (L' := [(0, .ref 0), (1, .ref 39), (2, .ref 143), (3, .int X3)]) (st' := [.int (X3 + ((1 : Int32))), .ref 0, .ref 39]) rfl ?_
        obtain ⟨g_837, h⟩ := z_ifo_some h
        refine r_iaS (pc' := 838) (L' := [(0, .ref 0), (1, .ref 39), (2, .ref 143), (3, .int X3)]) H hq (z_at.mk 1 rfl rfl) (tx_iadd hx3 (rfl : (1 : Int32).toInt = 1)) g_837 rfl rfl ?_
        intro V_837 hV_837
        obtain ⟨o_838, h_838, h⟩ := Option.bind_eq_some_iff.mp h
        refine r_cvI (pc' := 841) (L' := [(0, .ref 0), (1, .ref 39), (2, .ref 143), (3, .int X3)]) (Ps := [.int V_837]) (rest := []) hq (z_at.mk 3 rfl rfl) (Or.inl ⟨rfl, rfl⟩) rfl rfl (by decide) (by decide) rfl (Nat.not_lt.mpr (Nat.le_of_ble_eq_true rfl)) rfl rfl (z_cat_le 0 rfl (by decide)) (z_lgl_le 2 rfl (by decide)) (by decide) (H.tg rfl) (by omega) (g_c_keep_ok hV_837 H h_838) rfl rfl ?_
        intro R_838 m_838 p_838 e_838 hR_838 H_838
        subst e_838
        refine r_p hq 5 (pc' := 846) (L' := [(0, .ref 0), (1, .ref 39), (2, .ref 143), (3, .int X3)]) (st' := [.int (X3 + ((1 : Int32))), .ref 0, .ref 143, .int R_838]) rfl ?_
        obtain ⟨g_846, h⟩ := z_ifo_some h
        refine r_iaS (pc' := 847) (L' := [(0, .ref 0), (1, .ref 39), (2, .ref 143), (3, .int X3)]) H_838 hq (z_at.mk 1 rfl rfl) (tx_iadd hx3 (rfl : (1 : Int32).toInt = 1)) g_846 rfl rfl ?_
        intro V_846 hV_846
        obtain ⟨o_847, h_847, h⟩ := Option.bind_eq_some_iff.mp h
        refine r_cvI (pc' := 850) (L' := [(0, .ref 0), (1, .ref 39), (2, .ref 143), (3, .int X3)]) (Ps := [.int V_846]) (rest := [.int R_838]) hq (z_at.mk 3 rfl rfl) (Or.inl ⟨rfl, rfl⟩) rfl rfl (by decide) (by decide) rfl (Nat.not_lt.mpr (Nat.le_of_ble_eq_true rfl)) rfl rfl (z_cat_le 1 rfl (by decide)) (z_lgl_le 2 rfl (by decide)) (by decide) (H_838.tg rfl) (by omega) (g_m_keep_ok hV_846 H_838 h_847) rfl rfl ?_
        intro R_847 m_847 p_847 e_847 hR_847 H_847
        subst e_847
        rcases z_ite h with ⟨c_850, h⟩ | ⟨c_850, h⟩
        · refine r_t2 (pc' := 1367) (L' := [(0, .ref 0), (1, .ref 39), (2, .ref 143), (3, .int X3)]) hq (z_at.mk 3 rfl rfl) rfl hR_838 hR_847 c_850 rfl rfl ?_
          exact g_jRangeAnswersLaw_law_L1367_ok hxl ih hx3 H_847 h
        · refine r_f2 (pc' := 853) (L' := [(0, .ref 0), (1, .ref 39), (2, .ref 143), (3, .int X3)]) hq (z_at.mk 3 rfl rfl) rfl hR_838 hR_847 c_850 rfl rfl ?_
          refine r_p hq 1 (pc' := 854) (L' := [(0, .ref 0), (1, .ref 39), (2, .ref 143), (3, .int X3)]) (st' := [.int ((0 : Int32))]) rfl ?_
          cases h
          exact r_ri hq (z_at.mk 1 rfl rfl) rfl rfl (rfl : (0 : Int32).toInt = 0) trivial H_847
      rcases z_ite h with ⟨c_33_23, h⟩ | ⟨c_33_23, h⟩
      · refine r_sw (off := 822) (pc' := 855) (L' := [(0, .ref 0), (1, .ref 39), (2, .ref 143), (3, .int X3)]) hq (z_at.mk 163 rfl rfl) (z_off_v ((tx_iand hV_29 (rfl : (63 : Int32).toInt = 63)).trans c_33_23) rfl) rfl rfl rfl ?_
        refine r_p hq 5 (pc' := 860) (L' := [(0, .ref 0), (1, .ref 39), (2, .ref 143), (3, .int X3)]) (st' := [.int (X3 + ((1 : Int32))), .ref 0, .ref 39]) rfl ?_
        obtain ⟨g_860, h⟩ := z_ifo_some h
        refine r_iaS (pc' := 861) (L' := [(0, .ref 0), (1, .ref 39), (2, .ref 143), (3, .int X3)]) H hq (z_at.mk 1 rfl rfl) (tx_iadd hx3 (rfl : (1 : Int32).toInt = 1)) g_860 rfl rfl ?_
        intro V_860 hV_860
        refine r_p hq 4 (pc' := 865) (L' := [(0, .ref 0), (1, .ref 39), (2, .ref 143), (3, .int X3)]) (st' := [.int (X3 + ((2 : Int32))), .ref 0, .int V_860, .ref 39]) rfl ?_
        obtain ⟨g_865, h⟩ := z_ifo_some h
        refine r_iaS (pc' := 866) (L' := [(0, .ref 0), (1, .ref 39), (2, .ref 143), (3, .int X3)]) H hq (z_at.mk 1 rfl rfl) (tx_iadd hx3 (rfl : (2 : Int32).toInt = 2)) g_865 rfl rfl ?_
        intro V_865 hV_865
        refine r_p hq 4 (pc' := 870) (L' := [(0, .ref 0), (1, .ref 39), (2, .ref 143), (3, .int X3)]) (st' := [.int (X3 + ((3 : Int32))), .ref 0, .int V_865, .int V_860, .ref 39]) rfl ?_
        obtain ⟨g_870, h⟩ := z_ifo_some h
        refine r_iaS (pc' := 871) (L' := [(0, .ref 0), (1, .ref 39), (2, .ref 143), (3, .int X3)]) H hq (z_at.mk 1 rfl rfl) (tx_iadd hx3 (rfl : (3 : Int32).toInt = 3)) g_870 rfl rfl ?_
        intro V_870 hV_870
        refine r_p hq 4 (pc' := 875) (L' := [(0, .ref 0), (1, .ref 39), (2, .ref 143), (3, .int X3)]) (st' := [.int (X3 + ((4 : Int32))), .ref 0, .int V_870, .int V_865, .int V_860, .ref 39]) rfl ?_
        obtain ⟨g_875, h⟩ := z_ifo_some h
        refine r_iaS (pc' := 876) (L' := [(0, .ref 0), (1, .ref 39), (2, .ref 143), (3, .int X3)]) H hq (z_at.mk 1 rfl rfl) (tx_iadd hx3 (rfl : (4 : Int32).toInt = 4)) g_875 rfl rfl ?_
        intro V_875 hV_875
        obtain ⟨o_876, h_876, h⟩ := Option.bind_eq_some_iff.mp h
        refine r_cvI (pc' := 879) (L' := [(0, .ref 0), (1, .ref 39), (2, .ref 143), (3, .int X3)]) (Ps := [.int V_860, .int V_865, .int V_870, .int V_875]) (rest := []) hq (z_at.mk 3 rfl rfl) (Or.inl ⟨rfl, rfl⟩) rfl rfl (by decide) (by decide) rfl (Nat.not_lt.mpr (Nat.le_of_ble_eq_true rfl)) rfl rfl (z_cat_le 0 rfl (by decide)) (z_lgl_le 5 rfl (by decide)) (by decide) (H.tg rfl) (by omega) (g_c_trace_ok hV_860 hV_865 hV_870 hV_875 H h_876) rfl rfl ?_
        intro R_876 m_876 p_876 e_876 hR_876 H_876
        subst e_876
        refine r_p hq 6 (pc' := 885) (L' := [(0, .ref 0), (1, .ref 39), (2, .ref 143), (3, .int X3)]) (st' := [.int (X3 + ((1 : Int32))), .ref 0, .ref 143]) rfl ?_
        obtain ⟨g_885, h⟩ := z_ifo_some h
        refine r_iaS (pc' := 886) (L' := [(0, .ref 0), (1, .ref 39), (2, .ref 143), (3, .int X3)]) H_876 hq (z_at.mk 1 rfl rfl) (tx_iadd hx3 (rfl : (1 : Int32).toInt = 1)) g_885 rfl rfl ?_
        intro V_885 hV_885
        refine r_p hq 4 (pc' := 890) (L' := [(0, .ref 0), (1, .ref 39), (2, .ref 143), (3, .int X3)]) (st' := [.int (X3 + ((2 : Int32))), .ref 0, .int V_885, .ref 143]) rfl ?_
        obtain ⟨g_890, h⟩ := z_ifo_some h
        refine r_iaS (pc' := 891) (L' := [(0, .ref 0), (1, .ref 39), (2, .ref 143), (3, .int X3)]) H_876 hq (z_at.mk 1 rfl rfl) (tx_iadd hx3 (rfl : (2 : Int32).toInt = 2)) g_890 rfl rfl ?_
        intro V_890 hV_890
        refine r_p hq 4 (pc' := 895) (L' := [(0, .ref 0), (1, .ref 39), (2, .ref 143), (3, .int X3)]) (st' := [.int (X3 + ((3 : Int32))), .ref 0, .int V_890, .int V_885, .ref 143]) rfl ?_
        obtain ⟨g_895, h⟩ := z_ifo_some h
        refine r_iaS (pc' := 896) (L' := [(0, .ref 0), (1, .ref 39), (2, .ref 143), (3, .int X3)]) H_876 hq (z_at.mk 1 rfl rfl) (tx_iadd hx3 (rfl : (3 : Int32).toInt = 3)) g_895 rfl rfl ?_
        intro V_895 hV_895
        refine r_p hq 4 (pc' := 900) (L' := [(0, .ref 0), (1, .ref 39), (2, .ref 143), (3, .int X3)]) (st' := [.int (X3 + ((4 : Int32))), .ref 0, .int V_895, .int V_890, .int V_885, .ref 143]) rfl ?_
        obtain ⟨g_900, h⟩ := z_ifo_some h
        refine r_iaS (pc' := 901) (L' := [(0, .ref 0), (1, .ref 39), (2, .ref 143), (3, .int X3)]) H_876 hq (z_at.mk 1 rfl rfl) (tx_iadd hx3 (rfl : (4 : Int32).toInt = 4)) g_900 rfl rfl ?_
        intro V_900 hV_900
        obtain ⟨o_901, h_901, h⟩ := Option.bind_eq_some_iff.mp h
        refine r_cvI (pc' := 904) (L' := [(0, .ref 0), (1, .ref 39), (2, .ref 143), (3, .int X3)]) (Ps := [.int V_885, .int V_890, .int V_895, .int V_900]) (rest := []) hq (z_at.mk 3 rfl rfl) (Or.inl ⟨rfl, rfl⟩) rfl rfl (by decide) (by decide) rfl (Nat.not_lt.mpr (Nat.le_of_ble_eq_true rfl)) rfl rfl (z_cat_le 0 rfl (by decide)) (z_lgl_le 5 rfl (by decide)) (by decide) (H_876.tg rfl) (by omega) (g_m_trace_ok hV_885 hV_890 hV_895 hV_900 H_876 h_901) rfl rfl ?_
        intro R_901 m_901 p_901 e_901 hR_901 H_901
        subst e_901
        refine r_p hq 2 (pc' := 1367) (L' := [(0, .ref 0), (1, .ref 39), (2, .ref 143), (3, .int X3)]) (st' := []) rfl ?_
        exact g_jRangeAnswersLaw_law_L1367_ok hxl ih hx3 H_901 h
      rcases z_ite h with ⟨c_33_24, h⟩ | ⟨c_33_24, h⟩
      · refine r_sw (off := 875) (pc' := 908) (L' := [(0, .ref 0), (1, .ref 39), (2, .ref 143), (3, .int X3)]) hq (z_at.mk 163 rfl rfl) (z_off_v ((tx_iand hV_29 (rfl : (63 : Int32).toInt = 63)).trans c_33_24) rfl) rfl rfl rfl ?_
        refine r_p hq 5 (pc' := 913) (L' := [(0, .ref 0), (1, .ref 39), (2, .ref 143), (3, .int X3)]) (st' := [.int (X3 + ((1 : Int32))), .ref 0, .ref 39]) rfl ?_
        obtain ⟨g_913, h⟩ := z_ifo_some h
        refine r_iaS (pc' := 914) (L' := [(0, .ref 0), (1, .ref 39), (2, .ref 143), (3, .int X3)]) H hq (z_at.mk 1 rfl rfl) (tx_iadd hx3 (rfl : (1 : Int32).toInt = 1)) g_913 rfl rfl ?_
        intro V_913 hV_913
        refine r_p hq 4 (pc' := 918) (L' := [(0, .ref 0), (1, .ref 39), (2, .ref 143), (3, .int X3)]) (st' := [.int (X3 + ((2 : Int32))), .ref 0, .int V_913, .ref 39]) rfl ?_
        obtain ⟨g_918, h⟩ := z_ifo_some h
        refine r_iaS (pc' := 919) (L' := [(0, .ref 0), (1, .ref 39), (2, .ref 143), (3, .int X3)]) H hq (z_at.mk 1 rfl rfl) (tx_iadd hx3 (rfl : (2 : Int32).toInt = 2)) g_918 rfl rfl ?_
        intro V_918 hV_918
        obtain ⟨o_919, h_919, h⟩ := Option.bind_eq_some_iff.mp h
        refine r_cvI (pc' := 922) (L' := [(0, .ref 0), (1, .ref 39), (2, .ref 143), (3, .int X3)]) (Ps := [.int V_913, .int V_918]) (rest := []) hq (z_at.mk 3 rfl rfl) (Or.inl ⟨rfl, rfl⟩) rfl rfl (by decide) (by decide) rfl (Nat.not_lt.mpr (Nat.le_of_ble_eq_true rfl)) rfl rfl (z_cat_le 0 rfl (by decide)) (z_lgl_le 3 rfl (by decide)) (by decide) (H.tg rfl) (by omega) (g_c_again_ok hV_913 hV_918 H h_919) rfl rfl ?_
        intro R_919 m_919 p_919 e_919 hR_919 H_919
        subst e_919
        refine r_p hq 6 (pc' := 928) (L' := [(0, .ref 0), (1, .ref 39), (2, .ref 143), (3, .int X3)]) (st' := [.int (X3 + ((1 : Int32))), .ref 0, .ref 143]) rfl ?_
        obtain ⟨g_928, h⟩ := z_ifo_some h
        refine r_iaS (pc' := 929) (L' := [(0, .ref 0), (1, .ref 39), (2, .ref 143), (3, .int X3)]) H_919 hq (z_at.mk 1 rfl rfl) (tx_iadd hx3 (rfl : (1 : Int32).toInt = 1)) g_928 rfl rfl ?_
        intro V_928 hV_928
        refine r_p hq 4 (pc' := 933) (L' := [(0, .ref 0), (1, .ref 39), (2, .ref 143), (3, .int X3)]) (st' := [.int (X3 + ((2 : Int32))), .ref 0, .int V_928, .ref 143]) rfl ?_
        obtain ⟨g_933, h⟩ := z_ifo_some h
        refine r_iaS (pc' := 934) (L' := [(0, .ref 0), (1, .ref 39), (2, .ref 143), (3, .int X3)]) H_919 hq (z_at.mk 1 rfl rfl) (tx_iadd hx3 (rfl : (2 : Int32).toInt = 2)) g_933 rfl rfl ?_
        intro V_933 hV_933
        obtain ⟨o_934, h_934, h⟩ := Option.bind_eq_some_iff.mp h
        refine r_cvI (pc' := 937) (L' := [(0, .ref 0), (1, .ref 39), (2, .ref 143), (3, .int X3)]) (Ps := [.int V_928, .int V_933]) (rest := []) hq (z_at.mk 3 rfl rfl) (Or.inl ⟨rfl, rfl⟩) rfl rfl (by decide) (by decide) rfl (Nat.not_lt.mpr (Nat.le_of_ble_eq_true rfl)) rfl rfl (z_cat_le 0 rfl (by decide)) (z_lgl_le 3 rfl (by decide)) (by decide) (H_919.tg rfl) (by omega) (g_m_again_ok hV_928 hV_933 H_919 h_934) rfl rfl ?_
        intro R_934 m_934 p_934 e_934 hR_934 H_934
        subst e_934
        refine r_p hq 2 (pc' := 1367) (L' := [(0, .ref 0), (1, .ref 39), (2, .ref 143), (3, .int X3)]) (st' := []) rfl ?_
        exact g_jRangeAnswersLaw_law_L1367_ok hxl ih hx3 H_934 h
      rcases z_ite h with ⟨c_33_25, h⟩ | ⟨c_33_25, h⟩
      · refine r_sw (off := 908) (pc' := 941) (L' := [(0, .ref 0), (1, .ref 39), (2, .ref 143), (3, .int X3)]) hq (z_at.mk 163 rfl rfl) (z_off_v ((tx_iand hV_29 (rfl : (63 : Int32).toInt = 63)).trans c_33_25) rfl) rfl rfl rfl ?_
        refine r_p hq 5 (pc' := 946) (L' := [(0, .ref 0), (1, .ref 39), (2, .ref 143), (3, .int X3)]) (st' := [.int (X3 + ((1 : Int32))), .ref 0, .ref 39]) rfl ?_
        obtain ⟨g_946, h⟩ := z_ifo_some h
        refine r_iaS (pc' := 947) (L' := [(0, .ref 0), (1, .ref 39), (2, .ref 143), (3, .int X3)]) H hq (z_at.mk 1 rfl rfl) (tx_iadd hx3 (rfl : (1 : Int32).toInt = 1)) g_946 rfl rfl ?_
        intro V_946 hV_946
        obtain ⟨o_947, h_947, h⟩ := Option.bind_eq_some_iff.mp h
        refine r_cvI (pc' := 950) (L' := [(0, .ref 0), (1, .ref 39), (2, .ref 143), (3, .int X3)]) (Ps := [.int V_946]) (rest := []) hq (z_at.mk 3 rfl rfl) (Or.inl ⟨rfl, rfl⟩) rfl rfl (by decide) (by decide) rfl (Nat.not_lt.mpr (Nat.le_of_ble_eq_true rfl)) rfl rfl (z_cat_le 0 rfl (by decide)) (z_lgl_le 2 rfl (by decide)) (by decide) (H.tg rfl) (by omega) (g_c_least_ok hV_946 H h_947) rfl rfl ?_
        intro R_947 m_947 p_947 e_947 hR_947 H_947
        subst e_947
        refine r_p hq 6 (pc' := 956) (L' := [(0, .ref 0), (1, .ref 39), (2, .ref 143), (3, .int X3)]) (st' := [.int (X3 + ((1 : Int32))), .ref 0, .ref 143]) rfl ?_
        obtain ⟨g_956, h⟩ := z_ifo_some h
        refine r_iaS (pc' := 957) (L' := [(0, .ref 0), (1, .ref 39), (2, .ref 143), (3, .int X3)]) H_947 hq (z_at.mk 1 rfl rfl) (tx_iadd hx3 (rfl : (1 : Int32).toInt = 1)) g_956 rfl rfl ?_
        intro V_956 hV_956
        obtain ⟨o_957, h_957, h⟩ := Option.bind_eq_some_iff.mp h
        refine r_cvI (pc' := 960) (L' := [(0, .ref 0), (1, .ref 39), (2, .ref 143), (3, .int X3)]) (Ps := [.int V_956]) (rest := []) hq (z_at.mk 3 rfl rfl) (Or.inl ⟨rfl, rfl⟩) rfl rfl (by decide) (by decide) rfl (Nat.not_lt.mpr (Nat.le_of_ble_eq_true rfl)) rfl rfl (z_cat_le 0 rfl (by decide)) (z_lgl_le 2 rfl (by decide)) (by decide) (H_947.tg rfl) (by omega) (g_m_least_ok hV_956 H_947 h_957) rfl rfl ?_
        intro R_957 m_957 p_957 e_957 hR_957 H_957
        subst e_957
        refine r_p hq 2 (pc' := 1367) (L' := [(0, .ref 0), (1, .ref 39), (2, .ref 143), (3, .int X3)]) (st' := []) rfl ?_
        exact g_jRangeAnswersLaw_law_L1367_ok hxl ih hx3 H_957 h
      rcases z_ite h with ⟨c_33_26, h⟩ | ⟨c_33_26, h⟩
      · refine r_sw (off := 931) (pc' := 964) (L' := [(0, .ref 0), (1, .ref 39), (2, .ref 143), (3, .int X3)]) hq (z_at.mk 163 rfl rfl) (z_off_v ((tx_iand hV_29 (rfl : (63 : Int32).toInt = 63)).trans c_33_26) rfl) rfl rfl rfl ?_
        refine r_p hq 5 (pc' := 969) (L' := [(0, .ref 0), (1, .ref 39), (2, .ref 143), (3, .int X3)]) (st' := [.int (X3 + ((1 : Int32))), .ref 0, .ref 39]) rfl ?_
        obtain ⟨g_969, h⟩ := z_ifo_some h
        refine r_iaS (pc' := 970) (L' := [(0, .ref 0), (1, .ref 39), (2, .ref 143), (3, .int X3)]) H hq (z_at.mk 1 rfl rfl) (tx_iadd hx3 (rfl : (1 : Int32).toInt = 1)) g_969 rfl rfl ?_
        intro V_969 hV_969
        refine r_p hq 4 (pc' := 974) (L' := [(0, .ref 0), (1, .ref 39), (2, .ref 143), (3, .int X3)]) (st' := [.int (X3 + ((2 : Int32))), .ref 0, .int V_969, .ref 39]) rfl ?_
        obtain ⟨g_974, h⟩ := z_ifo_some h
        refine r_iaS (pc' := 975) (L' := [(0, .ref 0), (1, .ref 39), (2, .ref 143), (3, .int X3)]) H hq (z_at.mk 1 rfl rfl) (tx_iadd hx3 (rfl : (2 : Int32).toInt = 2)) g_974 rfl rfl ?_
        intro V_974 hV_974
        refine r_p hq 4 (pc' := 979) (L' := [(0, .ref 0), (1, .ref 39), (2, .ref 143), (3, .int X3)]) (st' := [.int (X3 + ((3 : Int32))), .ref 0, .int V_974, .int V_969, .ref 39]) rfl ?_
        obtain ⟨g_979, h⟩ := z_ifo_some h
        refine r_iaS (pc' := 980) (L' := [(0, .ref 0), (1, .ref 39), (2, .ref 143), (3, .int X3)]) H hq (z_at.mk 1 rfl rfl) (tx_iadd hx3 (rfl : (3 : Int32).toInt = 3)) g_979 rfl rfl ?_
        intro V_979 hV_979
        refine r_p hq 4 (pc' := 984) (L' := [(0, .ref 0), (1, .ref 39), (2, .ref 143), (3, .int X3)]) (st' := [.int (X3 + ((4 : Int32))), .ref 0, .int V_979, .int V_974, .int V_969, .ref 39]) rfl ?_
        obtain ⟨g_984, h⟩ := z_ifo_some h
        refine r_iaS (pc' := 985) (L' := [(0, .ref 0), (1, .ref 39), (2, .ref 143), (3, .int X3)]) H hq (z_at.mk 1 rfl rfl) (tx_iadd hx3 (rfl : (4 : Int32).toInt = 4)) g_984 rfl rfl ?_
        intro V_984 hV_984
        refine r_p hq 4 (pc' := 989) (L' := [(0, .ref 0), (1, .ref 39), (2, .ref 143), (3, .int X3)]) (st' := [.int (X3 + ((5 : Int32))), .ref 0, .int V_984, .int V_979, .int V_974, .int V_969, .ref 39]) rfl ?_
        obtain ⟨g_989, h⟩ := z_ifo_some h
        refine r_iaS (pc' := 990) (L' := [(0, .ref 0), (1, .ref 39), (2, .ref 143), (3, .int X3)]) H hq (z_at.mk 1 rfl rfl) (tx_iadd hx3 (rfl : (5 : Int32).toInt = 5)) g_989 rfl rfl ?_
        intro V_989 hV_989
        obtain ⟨o_990, h_990, h⟩ := Option.bind_eq_some_iff.mp h
        refine r_cvI (pc' := 993) (L' := [(0, .ref 0), (1, .ref 39), (2, .ref 143), (3, .int X3)]) (Ps := [.int V_969, .int V_974, .int V_979, .int V_984, .int V_989]) (rest := []) hq (z_at.mk 3 rfl rfl) (Or.inl ⟨rfl, rfl⟩) rfl rfl (by decide) (by decide) rfl (Nat.not_lt.mpr (Nat.le_of_ble_eq_true rfl)) rfl rfl (z_cat_le 0 rfl (by decide)) (z_lgl_le 6 rfl (by decide)) (by decide) (H.tg rfl) (by omega) (g_c_watch_ok hV_969 hV_974 hV_979 hV_984 hV_989 H h_990) rfl rfl ?_
        intro R_990 m_990 p_990 e_990 hR_990 H_990
        subst e_990
        refine r_p hq 6 (pc' := 999) (L' := [(0, .ref 0), (1, .ref 39), (2, .ref 143), (3, .int X3)]) (st' := [.int (X3 + ((1 : Int32))), .ref 0, .ref 143]) rfl ?_
        obtain ⟨g_999, h⟩ := z_ifo_some h
        refine r_iaS (pc' := 1000) (L' := [(0, .ref 0), (1, .ref 39), (2, .ref 143), (3, .int X3)]) H_990 hq (z_at.mk 1 rfl rfl) (tx_iadd hx3 (rfl : (1 : Int32).toInt = 1)) g_999 rfl rfl ?_
        intro V_999 hV_999
        refine r_p hq 4 (pc' := 1004) (L' := [(0, .ref 0), (1, .ref 39), (2, .ref 143), (3, .int X3)]) (st' := [.int (X3 + ((2 : Int32))), .ref 0, .int V_999, .ref 143]) rfl ?_
        obtain ⟨g_1004, h⟩ := z_ifo_some h
        refine r_iaS (pc' := 1005) (L' := [(0, .ref 0), (1, .ref 39), (2, .ref 143), (3, .int X3)]) H_990 hq (z_at.mk 1 rfl rfl) (tx_iadd hx3 (rfl : (2 : Int32).toInt = 2)) g_1004 rfl rfl ?_
        intro V_1004 hV_1004
        refine r_p hq 4 (pc' := 1009) (L' := [(0, .ref 0), (1, .ref 39), (2, .ref 143), (3, .int X3)]) (st' := [.int (X3 + ((3 : Int32))), .ref 0, .int V_1004, .int V_999, .ref 143]) rfl ?_
        obtain ⟨g_1009, h⟩ := z_ifo_some h
        refine r_iaS (pc' := 1010) (L' := [(0, .ref 0), (1, .ref 39), (2, .ref 143), (3, .int X3)]) H_990 hq (z_at.mk 1 rfl rfl) (tx_iadd hx3 (rfl : (3 : Int32).toInt = 3)) g_1009 rfl rfl ?_
        intro V_1009 hV_1009
        refine r_p hq 4 (pc' := 1014) (L' := [(0, .ref 0), (1, .ref 39), (2, .ref 143), (3, .int X3)]) (st' := [.int (X3 + ((4 : Int32))), .ref 0, .int V_1009, .int V_1004, .int V_999, .ref 143]) rfl ?_
        obtain ⟨g_1014, h⟩ := z_ifo_some h
        refine r_iaS (pc' := 1015) (L' := [(0, .ref 0), (1, .ref 39), (2, .ref 143), (3, .int X3)]) H_990 hq (z_at.mk 1 rfl rfl) (tx_iadd hx3 (rfl : (4 : Int32).toInt = 4)) g_1014 rfl rfl ?_
        intro V_1014 hV_1014
        refine r_p hq 4 (pc' := 1019) (L' := [(0, .ref 0), (1, .ref 39), (2, .ref 143), (3, .int X3)]) (st' := [.int (X3 + ((5 : Int32))), .ref 0, .int V_1014, .int V_1009, .int V_1004, .int V_999, .ref 143]) rfl ?_
        obtain ⟨g_1019, h⟩ := z_ifo_some h
        refine r_iaS (pc' := 1020) (L' := [(0, .ref 0), (1, .ref 39), (2, .ref 143), (3, .int X3)]) H_990 hq (z_at.mk 1 rfl rfl) (tx_iadd hx3 (rfl : (5 : Int32).toInt = 5)) g_1019 rfl rfl ?_
        intro V_1019 hV_1019
        obtain ⟨o_1020, h_1020, h⟩ := Option.bind_eq_some_iff.mp h
        refine r_cvI (pc' := 1023) (L' := [(0, .ref 0), (1, .ref 39), (2, .ref 143), (3, .int X3)]) (Ps := [.int V_999, .int V_1004, .int V_1009, .int V_1014, .int V_1019]) (rest := []) hq (z_at.mk 3 rfl rfl) (Or.inl ⟨rfl, rfl⟩) rfl rfl (by decide) (by decide) rfl (Nat.not_lt.mpr (Nat.le_of_ble_eq_true rfl)) rfl rfl (z_cat_le 0 rfl (by decide)) (z_lgl_le 6 rfl (by decide)) (by decide) (H_990.tg rfl) (by omega) (g_m_watch_ok hV_999 hV_1004 hV_1009 hV_1014 hV_1019 H_990 h_1020) rfl rfl ?_
        intro R_1020 m_1020 p_1020 e_1020 hR_1020 H_1020
        subst e_1020
        refine r_p hq 2 (pc' := 1367) (L' := [(0, .ref 0), (1, .ref 39), (2, .ref 143), (3, .int X3)]) (st' := []) rfl ?_
        exact g_jRangeAnswersLaw_law_L1367_ok hxl ih hx3 H_1020 h
      rcases z_ite h with ⟨c_33_27, h⟩ | ⟨c_33_27, h⟩
      · refine r_sw (off := 994) (pc' := 1027) (L' := [(0, .ref 0), (1, .ref 39), (2, .ref 143), (3, .int X3)]) hq (z_at.mk 163 rfl rfl) (z_off_v ((tx_iand hV_29 (rfl : (63 : Int32).toInt = 63)).trans c_33_27) rfl) rfl rfl rfl ?_
        refine r_p hq 5 (pc' := 1032) (L' := [(0, .ref 0), (1, .ref 39), (2, .ref 143), (3, .int X3)]) (st' := [.int (X3 + ((1 : Int32))), .ref 0, .ref 39]) rfl ?_
        obtain ⟨g_1032, h⟩ := z_ifo_some h
        refine r_iaS (pc' := 1033) (L' := [(0, .ref 0), (1, .ref 39), (2, .ref 143), (3, .int X3)]) H hq (z_at.mk 1 rfl rfl) (tx_iadd hx3 (rfl : (1 : Int32).toInt = 1)) g_1032 rfl rfl ?_
        intro V_1032 hV_1032
        obtain ⟨o_1033, h_1033, h⟩ := Option.bind_eq_some_iff.mp h
        refine r_cvL (pc' := 1036) (L' := [(0, .ref 0), (1, .ref 39), (2, .ref 143), (3, .int X3)]) (Ps := [.int V_1032]) (rest := []) hq (z_at.mk 3 rfl rfl) (Or.inl ⟨rfl, rfl⟩) rfl rfl (by decide) (by decide) rfl (Nat.not_lt.mpr (Nat.le_of_ble_eq_true rfl)) rfl rfl (z_cat_le 0 rfl (by decide)) (z_lgl_le 2 rfl (by decide)) (by decide) (H.tg rfl) (by omega) (g_c_value_ok hV_1032 H h_1033) rfl rfl ?_
        intro R_1033 m_1033 p_1033 e_1033 hR_1033 H_1033
        subst e_1033
        refine r_p hq 6 (pc' := 1042) (L' := [(0, .ref 0), (1, .ref 39), (2, .ref 143), (3, .int X3)]) (st' := [.int (X3 + ((1 : Int32))), .ref 0, .ref 143]) rfl ?_
        obtain ⟨g_1042, h⟩ := z_ifo_some h
        refine r_iaS (pc' := 1043) (L' := [(0, .ref 0), (1, .ref 39), (2, .ref 143), (3, .int X3)]) H_1033 hq (z_at.mk 1 rfl rfl) (tx_iadd hx3 (rfl : (1 : Int32).toInt = 1)) g_1042 rfl rfl ?_
        intro V_1042 hV_1042
        obtain ⟨o_1043, h_1043, h⟩ := Option.bind_eq_some_iff.mp h
        refine r_cvL (pc' := 1046) (L' := [(0, .ref 0), (1, .ref 39), (2, .ref 143), (3, .int X3)]) (Ps := [.int V_1042]) (rest := []) hq (z_at.mk 3 rfl rfl) (Or.inl ⟨rfl, rfl⟩) rfl rfl (by decide) (by decide) rfl (Nat.not_lt.mpr (Nat.le_of_ble_eq_true rfl)) rfl rfl (z_cat_le 0 rfl (by decide)) (z_lgl_le 2 rfl (by decide)) (by decide) (H_1033.tg rfl) (by omega) (g_m_value_ok hV_1042 H_1033 h_1043) rfl rfl ?_
        intro R_1043 m_1043 p_1043 e_1043 hR_1043 H_1043
        subst e_1043
        refine r_p hq 2 (pc' := 1367) (L' := [(0, .ref 0), (1, .ref 39), (2, .ref 143), (3, .int X3)]) (st' := []) rfl ?_
        exact g_jRangeAnswersLaw_law_L1367_ok hxl ih hx3 H_1043 h
      rcases z_ite h with ⟨c_33_28, h⟩ | ⟨c_33_28, h⟩
      · refine r_sw (off := 1017) (pc' := 1050) (L' := [(0, .ref 0), (1, .ref 39), (2, .ref 143), (3, .int X3)]) hq (z_at.mk 163 rfl rfl) (z_off_v ((tx_iand hV_29 (rfl : (63 : Int32).toInt = 63)).trans c_33_28) rfl) rfl rfl rfl ?_
        refine r_p hq 5 (pc' := 1055) (L' := [(0, .ref 0), (1, .ref 39), (2, .ref 143), (3, .int X3)]) (st' := [.int (X3 + ((1 : Int32))), .ref 0, .ref 39]) rfl ?_
        obtain ⟨g_1055, h⟩ := z_ifo_some h
        refine r_iaS (pc' := 1056) (L' := [(0, .ref 0), (1, .ref 39), (2, .ref 143), (3, .int X3)]) H hq (z_at.mk 1 rfl rfl) (tx_iadd hx3 (rfl : (1 : Int32).toInt = 1)) g_1055 rfl rfl ?_
        intro V_1055 hV_1055
        obtain ⟨o_1056, h_1056, h⟩ := Option.bind_eq_some_iff.mp h
        refine r_cvI (pc' := 1059) (L' := [(0, .ref 0), (1, .ref 39), (2, .ref 143), (3, .int X3)]) (Ps := [.int V_1055]) (rest := []) hq (z_at.mk 3 rfl rfl) (Or.inl ⟨rfl, rfl⟩) rfl rfl (by decide) (by decide) rfl (Nat.not_lt.mpr (Nat.le_of_ble_eq_true rfl)) rfl rfl (z_cat_le 0 rfl (by decide)) (z_lgl_le 2 rfl (by decide)) (by decide) (H.tg rfl) (by omega) (g_c_changes_ok hV_1055 H h_1056) rfl rfl ?_
        intro R_1056 m_1056 p_1056 e_1056 hR_1056 H_1056
        subst e_1056
        refine r_p hq 6 (pc' := 1065) (L' := [(0, .ref 0), (1, .ref 39), (2, .ref 143), (3, .int X3)]) (st' := [.int (X3 + ((1 : Int32))), .ref 0, .ref 143]) rfl ?_
        obtain ⟨g_1065, h⟩ := z_ifo_some h
        refine r_iaS (pc' := 1066) (L' := [(0, .ref 0), (1, .ref 39), (2, .ref 143), (3, .int X3)]) H_1056 hq (z_at.mk 1 rfl rfl) (tx_iadd hx3 (rfl : (1 : Int32).toInt = 1)) g_1065 rfl rfl ?_
        intro V_1065 hV_1065
        obtain ⟨o_1066, h_1066, h⟩ := Option.bind_eq_some_iff.mp h
        refine r_cvI (pc' := 1069) (L' := [(0, .ref 0), (1, .ref 39), (2, .ref 143), (3, .int X3)]) (Ps := [.int V_1065]) (rest := []) hq (z_at.mk 3 rfl rfl) (Or.inl ⟨rfl, rfl⟩) rfl rfl (by decide) (by decide) rfl (Nat.not_lt.mpr (Nat.le_of_ble_eq_true rfl)) rfl rfl (z_cat_le 0 rfl (by decide)) (z_lgl_le 2 rfl (by decide)) (by decide) (H_1056.tg rfl) (by omega) (g_m_changes_ok hV_1065 H_1056 h_1066) rfl rfl ?_
        intro R_1066 m_1066 p_1066 e_1066 hR_1066 H_1066
        subst e_1066
        refine r_p hq 2 (pc' := 1367) (L' := [(0, .ref 0), (1, .ref 39), (2, .ref 143), (3, .int X3)]) (st' := []) rfl ?_
        exact g_jRangeAnswersLaw_law_L1367_ok hxl ih hx3 H_1066 h
      rcases z_ite h with ⟨c_33_29, h⟩ | ⟨c_33_29, h⟩
      · refine r_sw (off := 1040) (pc' := 1073) (L' := [(0, .ref 0), (1, .ref 39), (2, .ref 143), (3, .int X3)]) hq (z_at.mk 163 rfl rfl) (z_off_v ((tx_iand hV_29 (rfl : (63 : Int32).toInt = 63)).trans c_33_29) rfl) rfl rfl rfl ?_
        refine r_p hq 5 (pc' := 1078) (L' := [(0, .ref 0), (1, .ref 39), (2, .ref 143), (3, .int X3)]) (st' := [.int (X3 + ((1 : Int32))), .ref 0, .ref 39]) rfl ?_
        obtain ⟨g_1078, h⟩ := z_ifo_some h
        refine r_iaS (pc' := 1079) (L' := [(0, .ref 0), (1, .ref 39), (2, .ref 143), (3, .int X3)]) H hq (z_at.mk 1 rfl rfl) (tx_iadd hx3 (rfl : (1 : Int32).toInt = 1)) g_1078 rfl rfl ?_
        intro V_1078 hV_1078
        refine r_p hq 4 (pc' := 1083) (L' := [(0, .ref 0), (1, .ref 39), (2, .ref 143), (3, .int X3)]) (st' := [.int (X3 + ((2 : Int32))), .ref 0, .int V_1078, .ref 39]) rfl ?_
        obtain ⟨g_1083, h⟩ := z_ifo_some h
        refine r_iaS (pc' := 1084) (L' := [(0, .ref 0), (1, .ref 39), (2, .ref 143), (3, .int X3)]) H hq (z_at.mk 1 rfl rfl) (tx_iadd hx3 (rfl : (2 : Int32).toInt = 2)) g_1083 rfl rfl ?_
        intro V_1083 hV_1083
        obtain ⟨o_1084, h_1084, h⟩ := Option.bind_eq_some_iff.mp h
        refine r_cvI (pc' := 1087) (L' := [(0, .ref 0), (1, .ref 39), (2, .ref 143), (3, .int X3)]) (Ps := [.int V_1078, .int V_1083]) (rest := []) hq (z_at.mk 3 rfl rfl) (Or.inl ⟨rfl, rfl⟩) rfl rfl (by decide) (by decide) rfl (Nat.not_lt.mpr (Nat.le_of_ble_eq_true rfl)) rfl rfl (z_cat_le 0 rfl (by decide)) (z_lgl_le 3 rfl (by decide)) (by decide) (H.tg rfl) (by omega) (g_c_list_ok hV_1078 hV_1083 H h_1084) rfl rfl ?_
        intro R_1084 m_1084 p_1084 e_1084 hR_1084 H_1084
        subst e_1084
        refine r_p hq 6 (pc' := 1093) (L' := [(0, .ref 0), (1, .ref 39), (2, .ref 143), (3, .int X3)]) (st' := [.int (X3 + ((1 : Int32))), .ref 0, .ref 143]) rfl ?_
        obtain ⟨g_1093, h⟩ := z_ifo_some h
        refine r_iaS (pc' := 1094) (L' := [(0, .ref 0), (1, .ref 39), (2, .ref 143), (3, .int X3)]) H_1084 hq (z_at.mk 1 rfl rfl) (tx_iadd hx3 (rfl : (1 : Int32).toInt = 1)) g_1093 rfl rfl ?_
        intro V_1093 hV_1093
        refine r_p hq 4 (pc' := 1098) (L' := [(0, .ref 0), (1, .ref 39), (2, .ref 143), (3, .int X3)]) (st' := [.int (X3 + ((2 : Int32))), .ref 0, .int V_1093, .ref 143]) rfl ?_
        obtain ⟨g_1098, h⟩ := z_ifo_some h
        refine r_iaS (pc' := 1099) (L' := [(0, .ref 0), (1, .ref 39), (2, .ref 143), (3, .int X3)]) H_1084 hq (z_at.mk 1 rfl rfl) (tx_iadd hx3 (rfl : (2 : Int32).toInt = 2)) g_1098 rfl rfl ?_
        intro V_1098 hV_1098
        obtain ⟨o_1099, h_1099, h⟩ := Option.bind_eq_some_iff.mp h
        refine r_cvI (pc' := 1102) (L' := [(0, .ref 0), (1, .ref 39), (2, .ref 143), (3, .int X3)]) (Ps := [.int V_1093, .int V_1098]) (rest := []) hq (z_at.mk 3 rfl rfl) (Or.inl ⟨rfl, rfl⟩) rfl rfl (by decide) (by decide) rfl (Nat.not_lt.mpr (Nat.le_of_ble_eq_true rfl)) rfl rfl (z_cat_le 0 rfl (by decide)) (z_lgl_le 3 rfl (by decide)) (by decide) (H_1084.tg rfl) (by omega) (g_m_list_ok hV_1093 hV_1098 H_1084 h_1099) rfl rfl ?_
        intro R_1099 m_1099 p_1099 e_1099 hR_1099 H_1099
        subst e_1099
        refine r_p hq 2 (pc' := 1367) (L' := [(0, .ref 0), (1, .ref 39), (2, .ref 143), (3, .int X3)]) (st' := []) rfl ?_
        exact g_jRangeAnswersLaw_law_L1367_ok hxl ih hx3 H_1099 h
      rcases z_ite h with ⟨c_33_30, h⟩ | ⟨c_33_30, h⟩
      · refine r_sw (off := 1073) (pc' := 1106) (L' := [(0, .ref 0), (1, .ref 39), (2, .ref 143), (3, .int X3)]) hq (z_at.mk 163 rfl rfl) (z_off_v ((tx_iand hV_29 (rfl : (63 : Int32).toInt = 63)).trans c_33_30) rfl) rfl rfl rfl ?_
        refine r_p hq 5 (pc' := 1111) (L' := [(0, .ref 0), (1, .ref 39), (2, .ref 143), (3, .int X3)]) (st' := [.int (X3 + ((1 : Int32))), .ref 0, .ref 39]) rfl ?_
        obtain ⟨g_1111, h⟩ := z_ifo_some h
        refine r_iaS (pc' := 1112) (L' := [(0, .ref 0), (1, .ref 39), (2, .ref 143), (3, .int X3)]) H hq (z_at.mk 1 rfl rfl) (tx_iadd hx3 (rfl : (1 : Int32).toInt = 1)) g_1111 rfl rfl ?_
        intro V_1111 hV_1111
        refine r_p hq 4 (pc' := 1116) (L' := [(0, .ref 0), (1, .ref 39), (2, .ref 143), (3, .int X3)]) (st' := [.int (X3 + ((2 : Int32))), .ref 0, .int V_1111, .ref 39]) rfl ?_
        obtain ⟨g_1116, h⟩ := z_ifo_some h
        refine r_iaS (pc' := 1117) (L' := [(0, .ref 0), (1, .ref 39), (2, .ref 143), (3, .int X3)]) H hq (z_at.mk 1 rfl rfl) (tx_iadd hx3 (rfl : (2 : Int32).toInt = 2)) g_1116 rfl rfl ?_
        intro V_1116 hV_1116
        refine r_p hq 4 (pc' := 1121) (L' := [(0, .ref 0), (1, .ref 39), (2, .ref 143), (3, .int X3)]) (st' := [.int (X3 + ((3 : Int32))), .ref 0, .int V_1116, .int V_1111, .ref 39]) rfl ?_
        obtain ⟨g_1121, h⟩ := z_ifo_some h
        refine r_iaS (pc' := 1122) (L' := [(0, .ref 0), (1, .ref 39), (2, .ref 143), (3, .int X3)]) H hq (z_at.mk 1 rfl rfl) (tx_iadd hx3 (rfl : (3 : Int32).toInt = 3)) g_1121 rfl rfl ?_
        intro V_1121 hV_1121
        refine r_p hq 7 (pc' := 1130) (L' := [(0, .ref 0), (1, .ref 39), (2, .ref 143), (3, .int X3)]) (st' := [.int (X3 + ((4 : Int32))), .ref 0, .long (V_1121.toInt64 <<< (((32 : Int32)).toInt64 &&& 63)), .int V_1116, .int V_1111, .ref 39]) rfl ?_
        obtain ⟨g_1130, h⟩ := z_ifo_some h
        refine r_iaS (pc' := 1131) (L' := [(0, .ref 0), (1, .ref 39), (2, .ref 143), (3, .int X3)]) H hq (z_at.mk 1 rfl rfl) (tx_iadd hx3 (rfl : (4 : Int32).toInt = 4)) g_1130 rfl rfl ?_
        intro V_1130 hV_1130
        refine r_p hq 4 (pc' := 1137) (L' := [(0, .ref 0), (1, .ref 39), (2, .ref 143), (3, .int X3)]) (st' := [.long ((V_1121.toInt64 <<< (((32 : Int32)).toInt64 &&& 63)) ||| (V_1130.toInt64 &&& ((4294967295 : Int64)))), .int V_1116, .int V_1111, .ref 39]) rfl ?_
        obtain ⟨o_1137, h_1137, h⟩ := Option.bind_eq_some_iff.mp h
        refine r_cvI (pc' := 1140) (L' := [(0, .ref 0), (1, .ref 39), (2, .ref 143), (3, .int X3)]) (Ps := [.int V_1111, .int V_1116, .long ((V_1121.toInt64 <<< (((32 : Int32)).toInt64 &&& 63)) ||| (V_1130.toInt64 &&& ((4294967295 : Int64))))]) (rest := []) hq (z_at.mk 3 rfl rfl) (Or.inl ⟨rfl, rfl⟩) rfl rfl (by decide) (by decide) rfl (Nat.not_lt.mpr (Nat.le_of_ble_eq_true rfl)) rfl rfl (z_cat_le 0 rfl (by decide)) (z_lgl_le 5 rfl (by decide)) (by decide) (H.tg rfl) (by omega) (g_c_set_ok hV_1111 hV_1116 (tx_lor (tx_lshl (tx_i2l hV_1121) (rfl : (32 : Int32).toInt = 32)) (tx_land (tx_i2l hV_1130) (rfl : (4294967295 : Int64).toInt = 4294967295))) H h_1137) rfl rfl ?_
        intro R_1137 m_1137 p_1137 e_1137 hR_1137 H_1137
        subst e_1137
        refine r_p hq 6 (pc' := 1146) (L' := [(0, .ref 0), (1, .ref 39), (2, .ref 143), (3, .int X3)]) (st' := [.int (X3 + ((1 : Int32))), .ref 0, .ref 143]) rfl ?_
        obtain ⟨g_1146, h⟩ := z_ifo_some h
        refine r_iaS (pc' := 1147) (L' := [(0, .ref 0), (1, .ref 39), (2, .ref 143), (3, .int X3)]) H_1137 hq (z_at.mk 1 rfl rfl) (tx_iadd hx3 (rfl : (1 : Int32).toInt = 1)) g_1146 rfl rfl ?_
        intro V_1146 hV_1146
        refine r_p hq 4 (pc' := 1151) (L' := [(0, .ref 0), (1, .ref 39), (2, .ref 143), (3, .int X3)]) (st' := [.int (X3 + ((2 : Int32))), .ref 0, .int V_1146, .ref 143]) rfl ?_
        obtain ⟨g_1151, h⟩ := z_ifo_some h
        refine r_iaS (pc' := 1152) (L' := [(0, .ref 0), (1, .ref 39), (2, .ref 143), (3, .int X3)]) H_1137 hq (z_at.mk 1 rfl rfl) (tx_iadd hx3 (rfl : (2 : Int32).toInt = 2)) g_1151 rfl rfl ?_
        intro V_1151 hV_1151
        refine r_p hq 4 (pc' := 1156) (L' := [(0, .ref 0), (1, .ref 39), (2, .ref 143), (3, .int X3)]) (st' := [.int (X3 + ((3 : Int32))), .ref 0, .int V_1151, .int V_1146, .ref 143]) rfl ?_
        obtain ⟨g_1156, h⟩ := z_ifo_some h
        refine r_iaS (pc' := 1157) (L' := [(0, .ref 0), (1, .ref 39), (2, .ref 143), (3, .int X3)]) H_1137 hq (z_at.mk 1 rfl rfl) (tx_iadd hx3 (rfl : (3 : Int32).toInt = 3)) g_1156 rfl rfl ?_
        intro V_1156 hV_1156
        refine r_p hq 7 (pc' := 1165) (L' := [(0, .ref 0), (1, .ref 39), (2, .ref 143), (3, .int X3)]) (st' := [.int (X3 + ((4 : Int32))), .ref 0, .long (V_1156.toInt64 <<< (((32 : Int32)).toInt64 &&& 63)), .int V_1151, .int V_1146, .ref 143]) rfl ?_
        obtain ⟨g_1165, h⟩ := z_ifo_some h
        refine r_iaS (pc' := 1166) (L' := [(0, .ref 0), (1, .ref 39), (2, .ref 143), (3, .int X3)]) H_1137 hq (z_at.mk 1 rfl rfl) (tx_iadd hx3 (rfl : (4 : Int32).toInt = 4)) g_1165 rfl rfl ?_
        intro V_1165 hV_1165
        refine r_p hq 4 (pc' := 1172) (L' := [(0, .ref 0), (1, .ref 39), (2, .ref 143), (3, .int X3)]) (st' := [.long ((V_1156.toInt64 <<< (((32 : Int32)).toInt64 &&& 63)) ||| (V_1165.toInt64 &&& ((4294967295 : Int64)))), .int V_1151, .int V_1146, .ref 143]) rfl ?_
        obtain ⟨o_1172, h_1172, h⟩ := Option.bind_eq_some_iff.mp h
        refine r_cvI (pc' := 1175) (L' := [(0, .ref 0), (1, .ref 39), (2, .ref 143), (3, .int X3)]) (Ps := [.int V_1146, .int V_1151, .long ((V_1156.toInt64 <<< (((32 : Int32)).toInt64 &&& 63)) ||| (V_1165.toInt64 &&& ((4294967295 : Int64))))]) (rest := []) hq (z_at.mk 3 rfl rfl) (Or.inl ⟨rfl, rfl⟩) rfl rfl (by decide) (by decide) rfl (Nat.not_lt.mpr (Nat.le_of_ble_eq_true rfl)) rfl rfl (z_cat_le 0 rfl (by decide)) (z_lgl_le 5 rfl (by decide)) (by decide) (H_1137.tg rfl) (by omega) (g_m_set_ok hV_1146 hV_1151 (tx_lor (tx_lshl (tx_i2l hV_1156) (rfl : (32 : Int32).toInt = 32)) (tx_land (tx_i2l hV_1165) (rfl : (4294967295 : Int64).toInt = 4294967295))) H_1137 h_1172) rfl rfl ?_
        intro R_1172 m_1172 p_1172 e_1172 hR_1172 H_1172
        subst e_1172
        refine r_p hq 2 (pc' := 1367) (L' := [(0, .ref 0), (1, .ref 39), (2, .ref 143), (3, .int X3)]) (st' := []) rfl ?_
        exact g_jRangeAnswersLaw_law_L1367_ok hxl ih hx3 H_1172 h
      rcases z_ite h with ⟨c_33_31, h⟩ | ⟨c_33_31, h⟩
      · refine r_sw (off := 1146) (pc' := 1179) (L' := [(0, .ref 0), (1, .ref 39), (2, .ref 143), (3, .int X3)]) hq (z_at.mk 163 rfl rfl) (z_off_v ((tx_iand hV_29 (rfl : (63 : Int32).toInt = 63)).trans c_33_31) rfl) rfl rfl rfl ?_
        refine r_p hq 5 (pc' := 1184) (L' := [(0, .ref 0), (1, .ref 39), (2, .ref 143), (3, .int X3)]) (st' := [.int (X3 + ((1 : Int32))), .ref 0, .ref 39]) rfl ?_
        obtain ⟨g_1184, h⟩ := z_ifo_some h
        refine r_iaS (pc' := 1185) (L' := [(0, .ref 0), (1, .ref 39), (2, .ref 143), (3, .int X3)]) H hq (z_at.mk 1 rfl rfl) (tx_iadd hx3 (rfl : (1 : Int32).toInt = 1)) g_1184 rfl rfl ?_
        intro V_1184 hV_1184
        refine r_p hq 4 (pc' := 1189) (L' := [(0, .ref 0), (1, .ref 39), (2, .ref 143), (3, .int X3)]) (st' := [.int (X3 + ((2 : Int32))), .ref 0, .int V_1184, .ref 39]) rfl ?_
        obtain ⟨g_1189, h⟩ := z_ifo_some h
        refine r_iaS (pc' := 1190) (L' := [(0, .ref 0), (1, .ref 39), (2, .ref 143), (3, .int X3)]) H hq (z_at.mk 1 rfl rfl) (tx_iadd hx3 (rfl : (2 : Int32).toInt = 2)) g_1189 rfl rfl ?_
        intro V_1189 hV_1189
        obtain ⟨o_1190, h_1190, h⟩ := Option.bind_eq_some_iff.mp h
        refine r_cvL (pc' := 1193) (L' := [(0, .ref 0), (1, .ref 39), (2, .ref 143), (3, .int X3)]) (Ps := [.int V_1184, .int V_1189]) (rest := []) hq (z_at.mk 3 rfl rfl) (Or.inl ⟨rfl, rfl⟩) rfl rfl (by decide) (by decide) rfl (Nat.not_lt.mpr (Nat.le_of_ble_eq_true rfl)) rfl rfl (z_cat_le 0 rfl (by decide)) (z_lgl_le 3 rfl (by decide)) (by decide) (H.tg rfl) (by omega) (g_c_get_ok hV_1184 hV_1189 H h_1190) rfl rfl ?_
        intro R_1190 m_1190 p_1190 e_1190 hR_1190 H_1190
        subst e_1190
        refine r_p hq 6 (pc' := 1199) (L' := [(0, .ref 0), (1, .ref 39), (2, .ref 143), (3, .int X3)]) (st' := [.int (X3 + ((1 : Int32))), .ref 0, .ref 143]) rfl ?_
        obtain ⟨g_1199, h⟩ := z_ifo_some h
        refine r_iaS (pc' := 1200) (L' := [(0, .ref 0), (1, .ref 39), (2, .ref 143), (3, .int X3)]) H_1190 hq (z_at.mk 1 rfl rfl) (tx_iadd hx3 (rfl : (1 : Int32).toInt = 1)) g_1199 rfl rfl ?_
        intro V_1199 hV_1199
        refine r_p hq 4 (pc' := 1204) (L' := [(0, .ref 0), (1, .ref 39), (2, .ref 143), (3, .int X3)]) (st' := [.int (X3 + ((2 : Int32))), .ref 0, .int V_1199, .ref 143]) rfl ?_
        obtain ⟨g_1204, h⟩ := z_ifo_some h
        refine r_iaS (pc' := 1205) (L' := [(0, .ref 0), (1, .ref 39), (2, .ref 143), (3, .int X3)]) H_1190 hq (z_at.mk 1 rfl rfl) (tx_iadd hx3 (rfl : (2 : Int32).toInt = 2)) g_1204 rfl rfl ?_
        intro V_1204 hV_1204
        obtain ⟨o_1205, h_1205, h⟩ := Option.bind_eq_some_iff.mp h
        refine r_cvL (pc' := 1208) (L' := [(0, .ref 0), (1, .ref 39), (2, .ref 143), (3, .int X3)]) (Ps := [.int V_1199, .int V_1204]) (rest := []) hq (z_at.mk 3 rfl rfl) (Or.inl ⟨rfl, rfl⟩) rfl rfl (by decide) (by decide) rfl (Nat.not_lt.mpr (Nat.le_of_ble_eq_true rfl)) rfl rfl (z_cat_le 0 rfl (by decide)) (z_lgl_le 3 rfl (by decide)) (by decide) (H_1190.tg rfl) (by omega) (g_m_get_ok hV_1199 hV_1204 H_1190 h_1205) rfl rfl ?_
        intro R_1205 m_1205 p_1205 e_1205 hR_1205 H_1205
        subst e_1205
        refine r_p hq 2 (pc' := 1367) (L' := [(0, .ref 0), (1, .ref 39), (2, .ref 143), (3, .int X3)]) (st' := []) rfl ?_
        exact g_jRangeAnswersLaw_law_L1367_ok hxl ih hx3 H_1205 h
      rcases z_ite h with ⟨c_33_32, h⟩ | ⟨c_33_32, h⟩
      · refine r_sw (off := 1179) (pc' := 1212) (L' := [(0, .ref 0), (1, .ref 39), (2, .ref 143), (3, .int X3)]) hq (z_at.mk 163 rfl rfl) (z_off_v ((tx_iand hV_29 (rfl : (63 : Int32).toInt = 63)).trans c_33_32) rfl) rfl rfl rfl ?_
        refine r_p hq 5 (pc' := 1217) (L' := [(0, .ref 0), (1, .ref 39), (2, .ref 143), (3, .int X3)]) (st' := [.int (X3 + ((1 : Int32))), .ref 0, .ref 39]) rfl ?_
        obtain ⟨g_1217, h⟩ := z_ifo_some h
        refine r_iaS (pc' := 1218) (L' := [(0, .ref 0), (1, .ref 39), (2, .ref 143), (3, .int X3)]) H hq (z_at.mk 1 rfl rfl) (tx_iadd hx3 (rfl : (1 : Int32).toInt = 1)) g_1217 rfl rfl ?_
        intro V_1217 hV_1217
        refine r_p hq 4 (pc' := 1222) (L' := [(0, .ref 0), (1, .ref 39), (2, .ref 143), (3, .int X3)]) (st' := [.int (X3 + ((2 : Int32))), .ref 0, .int V_1217, .ref 39]) rfl ?_
        obtain ⟨g_1222, h⟩ := z_ifo_some h
        refine r_iaS (pc' := 1223) (L' := [(0, .ref 0), (1, .ref 39), (2, .ref 143), (3, .int X3)]) H hq (z_at.mk 1 rfl rfl) (tx_iadd hx3 (rfl : (2 : Int32).toInt = 2)) g_1222 rfl rfl ?_
        intro V_1222 hV_1222
        refine r_p hq 4 (pc' := 1227) (L' := [(0, .ref 0), (1, .ref 39), (2, .ref 143), (3, .int X3)]) (st' := [.int (X3 + ((3 : Int32))), .ref 0, .int V_1222, .int V_1217, .ref 39]) rfl ?_
        obtain ⟨g_1227, h⟩ := z_ifo_some h
        refine r_iaS (pc' := 1228) (L' := [(0, .ref 0), (1, .ref 39), (2, .ref 143), (3, .int X3)]) H hq (z_at.mk 1 rfl rfl) (tx_iadd hx3 (rfl : (3 : Int32).toInt = 3)) g_1227 rfl rfl ?_
        intro V_1227 hV_1227
        refine r_p hq 4 (pc' := 1232) (L' := [(0, .ref 0), (1, .ref 39), (2, .ref 143), (3, .int X3)]) (st' := [.int (X3 + ((4 : Int32))), .ref 0, .int V_1227, .int V_1222, .int V_1217, .ref 39]) rfl ?_
        obtain ⟨g_1232, h⟩ := z_ifo_some h
        refine r_iaS (pc' := 1233) (L' := [(0, .ref 0), (1, .ref 39), (2, .ref 143), (3, .int X3)]) H hq (z_at.mk 1 rfl rfl) (tx_iadd hx3 (rfl : (4 : Int32).toInt = 4)) g_1232 rfl rfl ?_
        intro V_1232 hV_1232
        refine r_p hq 4 (pc' := 1237) (L' := [(0, .ref 0), (1, .ref 39), (2, .ref 143), (3, .int X3)]) (st' := [.int (X3 + ((5 : Int32))), .ref 0, .int V_1232, .int V_1227, .int V_1222, .int V_1217, .ref 39]) rfl ?_
        obtain ⟨g_1237, h⟩ := z_ifo_some h
        refine r_iaS (pc' := 1238) (L' := [(0, .ref 0), (1, .ref 39), (2, .ref 143), (3, .int X3)]) H hq (z_at.mk 1 rfl rfl) (tx_iadd hx3 (rfl : (5 : Int32).toInt = 5)) g_1237 rfl rfl ?_
        intro V_1237 hV_1237
        obtain ⟨o_1238, h_1238, h⟩ := Option.bind_eq_some_iff.mp h
        refine r_cvI (pc' := 1241) (L' := [(0, .ref 0), (1, .ref 39), (2, .ref 143), (3, .int X3)]) (Ps := [.int V_1217, .int V_1222, .int V_1227, .int V_1232, .int V_1237]) (rest := []) hq (z_at.mk 3 rfl rfl) (Or.inl ⟨rfl, rfl⟩) rfl rfl (by decide) (by decide) rfl (Nat.not_lt.mpr (Nat.le_of_ble_eq_true rfl)) rfl rfl (z_cat_le 0 rfl (by decide)) (z_lgl_le 6 rfl (by decide)) (by decide) (H.tg rfl) (by omega) (g_c_move_ok hV_1217 hV_1222 hV_1227 hV_1232 hV_1237 H h_1238) rfl rfl ?_
        intro R_1238 m_1238 p_1238 e_1238 hR_1238 H_1238
        subst e_1238
        refine r_p hq 6 (pc' := 1247) (L' := [(0, .ref 0), (1, .ref 39), (2, .ref 143), (3, .int X3)]) (st' := [.int (X3 + ((1 : Int32))), .ref 0, .ref 143]) rfl ?_
        obtain ⟨g_1247, h⟩ := z_ifo_some h
        refine r_iaS (pc' := 1248) (L' := [(0, .ref 0), (1, .ref 39), (2, .ref 143), (3, .int X3)]) H_1238 hq (z_at.mk 1 rfl rfl) (tx_iadd hx3 (rfl : (1 : Int32).toInt = 1)) g_1247 rfl rfl ?_
        intro V_1247 hV_1247
        refine r_p hq 4 (pc' := 1252) (L' := [(0, .ref 0), (1, .ref 39), (2, .ref 143), (3, .int X3)]) (st' := [.int (X3 + ((2 : Int32))), .ref 0, .int V_1247, .ref 143]) rfl ?_
        obtain ⟨g_1252, h⟩ := z_ifo_some h
        refine r_iaS (pc' := 1253) (L' := [(0, .ref 0), (1, .ref 39), (2, .ref 143), (3, .int X3)]) H_1238 hq (z_at.mk 1 rfl rfl) (tx_iadd hx3 (rfl : (2 : Int32).toInt = 2)) g_1252 rfl rfl ?_
        intro V_1252 hV_1252
        refine r_p hq 4 (pc' := 1257) (L' := [(0, .ref 0), (1, .ref 39), (2, .ref 143), (3, .int X3)]) (st' := [.int (X3 + ((3 : Int32))), .ref 0, .int V_1252, .int V_1247, .ref 143]) rfl ?_
        obtain ⟨g_1257, h⟩ := z_ifo_some h
        refine r_iaS (pc' := 1258) (L' := [(0, .ref 0), (1, .ref 39), (2, .ref 143), (3, .int X3)]) H_1238 hq (z_at.mk 1 rfl rfl) (tx_iadd hx3 (rfl : (3 : Int32).toInt = 3)) g_1257 rfl rfl ?_
        intro V_1257 hV_1257
        refine r_p hq 4 (pc' := 1262) (L' := [(0, .ref 0), (1, .ref 39), (2, .ref 143), (3, .int X3)]) (st' := [.int (X3 + ((4 : Int32))), .ref 0, .int V_1257, .int V_1252, .int V_1247, .ref 143]) rfl ?_
        obtain ⟨g_1262, h⟩ := z_ifo_some h
        refine r_iaS (pc' := 1263) (L' := [(0, .ref 0), (1, .ref 39), (2, .ref 143), (3, .int X3)]) H_1238 hq (z_at.mk 1 rfl rfl) (tx_iadd hx3 (rfl : (4 : Int32).toInt = 4)) g_1262 rfl rfl ?_
        intro V_1262 hV_1262
        refine r_p hq 4 (pc' := 1267) (L' := [(0, .ref 0), (1, .ref 39), (2, .ref 143), (3, .int X3)]) (st' := [.int (X3 + ((5 : Int32))), .ref 0, .int V_1262, .int V_1257, .int V_1252, .int V_1247, .ref 143]) rfl ?_
        obtain ⟨g_1267, h⟩ := z_ifo_some h
        refine r_iaS (pc' := 1268) (L' := [(0, .ref 0), (1, .ref 39), (2, .ref 143), (3, .int X3)]) H_1238 hq (z_at.mk 1 rfl rfl) (tx_iadd hx3 (rfl : (5 : Int32).toInt = 5)) g_1267 rfl rfl ?_
        intro V_1267 hV_1267
        obtain ⟨o_1268, h_1268, h⟩ := Option.bind_eq_some_iff.mp h
        refine r_cvI (pc' := 1271) (L' := [(0, .ref 0), (1, .ref 39), (2, .ref 143), (3, .int X3)]) (Ps := [.int V_1247, .int V_1252, .int V_1257, .int V_1262, .int V_1267]) (rest := []) hq (z_at.mk 3 rfl rfl) (Or.inl ⟨rfl, rfl⟩) rfl rfl (by decide) (by decide) rfl (Nat.not_lt.mpr (Nat.le_of_ble_eq_true rfl)) rfl rfl (z_cat_le 0 rfl (by decide)) (z_lgl_le 6 rfl (by decide)) (by decide) (H_1238.tg rfl) (by omega) (g_m_move_ok hV_1247 hV_1252 hV_1257 hV_1262 hV_1267 H_1238 h_1268) rfl rfl ?_
        intro R_1268 m_1268 p_1268 e_1268 hR_1268 H_1268
        subst e_1268
        refine r_p hq 2 (pc' := 1367) (L' := [(0, .ref 0), (1, .ref 39), (2, .ref 143), (3, .int X3)]) (st' := []) rfl ?_
        exact g_jRangeAnswersLaw_law_L1367_ok hxl ih hx3 H_1268 h
      rcases z_ite h with ⟨c_33_33, h⟩ | ⟨c_33_33, h⟩
      · refine r_sw (off := 1242) (pc' := 1275) (L' := [(0, .ref 0), (1, .ref 39), (2, .ref 143), (3, .int X3)]) hq (z_at.mk 163 rfl rfl) (z_off_v ((tx_iand hV_29 (rfl : (63 : Int32).toInt = 63)).trans c_33_33) rfl) rfl rfl rfl ?_
        refine r_p hq 5 (pc' := 1280) (L' := [(0, .ref 0), (1, .ref 39), (2, .ref 143), (3, .int X3)]) (st' := [.int (X3 + ((1 : Int32))), .ref 0, .ref 39]) rfl ?_
        obtain ⟨g_1280, h⟩ := z_ifo_some h
        refine r_iaS (pc' := 1281) (L' := [(0, .ref 0), (1, .ref 39), (2, .ref 143), (3, .int X3)]) H hq (z_at.mk 1 rfl rfl) (tx_iadd hx3 (rfl : (1 : Int32).toInt = 1)) g_1280 rfl rfl ?_
        intro V_1280 hV_1280
        refine r_p hq 4 (pc' := 1285) (L' := [(0, .ref 0), (1, .ref 39), (2, .ref 143), (3, .int X3)]) (st' := [.int (X3 + ((2 : Int32))), .ref 0, .int V_1280, .ref 39]) rfl ?_
        obtain ⟨g_1285, h⟩ := z_ifo_some h
        refine r_iaS (pc' := 1286) (L' := [(0, .ref 0), (1, .ref 39), (2, .ref 143), (3, .int X3)]) H hq (z_at.mk 1 rfl rfl) (tx_iadd hx3 (rfl : (2 : Int32).toInt = 2)) g_1285 rfl rfl ?_
        intro V_1285 hV_1285
        obtain ⟨o_1286, h_1286, h⟩ := Option.bind_eq_some_iff.mp h
        refine r_cvI (pc' := 1289) (L' := [(0, .ref 0), (1, .ref 39), (2, .ref 143), (3, .int X3)]) (Ps := [.int V_1280, .int V_1285]) (rest := []) hq (z_at.mk 3 rfl rfl) (Or.inl ⟨rfl, rfl⟩) rfl rfl (by decide) (by decide) rfl (Nat.not_lt.mpr (Nat.le_of_ble_eq_true rfl)) rfl rfl (z_cat_le 0 rfl (by decide)) (z_lgl_le 3 rfl (by decide)) (by decide) (H.tg rfl) (by omega) (g_c_lay_ok hV_1280 hV_1285 H h_1286) rfl rfl ?_
        intro R_1286 m_1286 p_1286 e_1286 hR_1286 H_1286
        subst e_1286
        refine r_p hq 6 (pc' := 1295) (L' := [(0, .ref 0), (1, .ref 39), (2, .ref 143), (3, .int X3)]) (st' := [.int (X3 + ((1 : Int32))), .ref 0, .ref 143]) rfl ?_
        obtain ⟨g_1295, h⟩ := z_ifo_some h
        refine r_iaS (pc' := 1296) (L' := [(0, .ref 0), (1, .ref 39), (2, .ref 143), (3, .int X3)]) H_1286 hq (z_at.mk 1 rfl rfl) (tx_iadd hx3 (rfl : (1 : Int32).toInt = 1)) g_1295 rfl rfl ?_
        intro V_1295 hV_1295
        refine r_p hq 4 (pc' := 1300) (L' := [(0, .ref 0), (1, .ref 39), (2, .ref 143), (3, .int X3)]) (st' := [.int (X3 + ((2 : Int32))), .ref 0, .int V_1295, .ref 143]) rfl ?_
        obtain ⟨g_1300, h⟩ := z_ifo_some h
        refine r_iaS (pc' := 1301) (L' := [(0, .ref 0), (1, .ref 39), (2, .ref 143), (3, .int X3)]) H_1286 hq (z_at.mk 1 rfl rfl) (tx_iadd hx3 (rfl : (2 : Int32).toInt = 2)) g_1300 rfl rfl ?_
        intro V_1300 hV_1300
        obtain ⟨o_1301, h_1301, h⟩ := Option.bind_eq_some_iff.mp h
        refine r_cvI (pc' := 1304) (L' := [(0, .ref 0), (1, .ref 39), (2, .ref 143), (3, .int X3)]) (Ps := [.int V_1295, .int V_1300]) (rest := []) hq (z_at.mk 3 rfl rfl) (Or.inl ⟨rfl, rfl⟩) rfl rfl (by decide) (by decide) rfl (Nat.not_lt.mpr (Nat.le_of_ble_eq_true rfl)) rfl rfl (z_cat_le 0 rfl (by decide)) (z_lgl_le 3 rfl (by decide)) (by decide) (H_1286.tg rfl) (by omega) (g_m_lay_ok hV_1295 hV_1300 H_1286 h_1301) rfl rfl ?_
        intro R_1301 m_1301 p_1301 e_1301 hR_1301 H_1301
        subst e_1301
        refine r_p hq 2 (pc' := 1367) (L' := [(0, .ref 0), (1, .ref 39), (2, .ref 143), (3, .int X3)]) (st' := []) rfl ?_
        exact g_jRangeAnswersLaw_law_L1367_ok hxl ih hx3 H_1301 h
      rcases z_ite h with ⟨c_33_34, h⟩ | ⟨c_33_34, h⟩
      · refine r_sw (off := 1275) (pc' := 1308) (L' := [(0, .ref 0), (1, .ref 39), (2, .ref 143), (3, .int X3)]) hq (z_at.mk 163 rfl rfl) (z_off_v ((tx_iand hV_29 (rfl : (63 : Int32).toInt = 63)).trans c_33_34) rfl) rfl rfl rfl ?_
        refine r_p hq 5 (pc' := 1313) (L' := [(0, .ref 0), (1, .ref 39), (2, .ref 143), (3, .int X3)]) (st' := [.int (X3 + ((1 : Int32))), .ref 0, .ref 39]) rfl ?_
        obtain ⟨g_1313, h⟩ := z_ifo_some h
        refine r_iaS (pc' := 1314) (L' := [(0, .ref 0), (1, .ref 39), (2, .ref 143), (3, .int X3)]) H hq (z_at.mk 1 rfl rfl) (tx_iadd hx3 (rfl : (1 : Int32).toInt = 1)) g_1313 rfl rfl ?_
        intro V_1313 hV_1313
        refine r_p hq 4 (pc' := 1318) (L' := [(0, .ref 0), (1, .ref 39), (2, .ref 143), (3, .int X3)]) (st' := [.int (X3 + ((2 : Int32))), .ref 0, .int V_1313, .ref 39]) rfl ?_
        obtain ⟨g_1318, h⟩ := z_ifo_some h
        refine r_iaS (pc' := 1319) (L' := [(0, .ref 0), (1, .ref 39), (2, .ref 143), (3, .int X3)]) H hq (z_at.mk 1 rfl rfl) (tx_iadd hx3 (rfl : (2 : Int32).toInt = 2)) g_1318 rfl rfl ?_
        intro V_1318 hV_1318
        obtain ⟨o_1319, h_1319, h⟩ := Option.bind_eq_some_iff.mp h
        refine r_cvI (pc' := 1322) (L' := [(0, .ref 0), (1, .ref 39), (2, .ref 143), (3, .int X3)]) (Ps := [.int V_1313, .int V_1318]) (rest := []) hq (z_at.mk 3 rfl rfl) (Or.inl ⟨rfl, rfl⟩) rfl rfl (by decide) (by decide) rfl (Nat.not_lt.mpr (Nat.le_of_ble_eq_true rfl)) rfl rfl (z_cat_le 0 rfl (by decide)) (z_lgl_le 3 rfl (by decide)) (by decide) (H.tg rfl) (by omega) (g_c_judge_ok hV_1313 hV_1318 H h_1319) rfl rfl ?_
        intro R_1319 m_1319 p_1319 e_1319 hR_1319 H_1319
        subst e_1319
        refine r_p hq 6 (pc' := 1328) (L' := [(0, .ref 0), (1, .ref 39), (2, .ref 143), (3, .int X3)]) (st' := [.int (X3 + ((1 : Int32))), .ref 0, .ref 143]) rfl ?_
        obtain ⟨g_1328, h⟩ := z_ifo_some h
        refine r_iaS (pc' := 1329) (L' := [(0, .ref 0), (1, .ref 39), (2, .ref 143), (3, .int X3)]) H_1319 hq (z_at.mk 1 rfl rfl) (tx_iadd hx3 (rfl : (1 : Int32).toInt = 1)) g_1328 rfl rfl ?_
        intro V_1328 hV_1328
        refine r_p hq 4 (pc' := 1333) (L' := [(0, .ref 0), (1, .ref 39), (2, .ref 143), (3, .int X3)]) (st' := [.int (X3 + ((2 : Int32))), .ref 0, .int V_1328, .ref 143]) rfl ?_
        obtain ⟨g_1333, h⟩ := z_ifo_some h
        refine r_iaS (pc' := 1334) (L' := [(0, .ref 0), (1, .ref 39), (2, .ref 143), (3, .int X3)]) H_1319 hq (z_at.mk 1 rfl rfl) (tx_iadd hx3 (rfl : (2 : Int32).toInt = 2)) g_1333 rfl rfl ?_
        intro V_1333 hV_1333
        obtain ⟨o_1334, h_1334, h⟩ := Option.bind_eq_some_iff.mp h
        refine r_cvI (pc' := 1337) (L' := [(0, .ref 0), (1, .ref 39), (2, .ref 143), (3, .int X3)]) (Ps := [.int V_1328, .int V_1333]) (rest := []) hq (z_at.mk 3 rfl rfl) (Or.inl ⟨rfl, rfl⟩) rfl rfl (by decide) (by decide) rfl (Nat.not_lt.mpr (Nat.le_of_ble_eq_true rfl)) rfl rfl (z_cat_le 0 rfl (by decide)) (z_lgl_le 3 rfl (by decide)) (by decide) (H_1319.tg rfl) (by omega) (g_m_judge_ok hV_1328 hV_1333 H_1319 h_1334) rfl rfl ?_
        intro R_1334 m_1334 p_1334 e_1334 hR_1334 H_1334
        subst e_1334
        refine r_p hq 2 (pc' := 1367) (L' := [(0, .ref 0), (1, .ref 39), (2, .ref 143), (3, .int X3)]) (st' := []) rfl ?_
        exact g_jRangeAnswersLaw_law_L1367_ok hxl ih hx3 H_1334 h
      rcases z_ite h with ⟨c_33_35, h⟩ | ⟨c_33_35, h⟩
      · refine r_sw (off := 1308) (pc' := 1341) (L' := [(0, .ref 0), (1, .ref 39), (2, .ref 143), (3, .int X3)]) hq (z_at.mk 163 rfl rfl) (z_off_v ((tx_iand hV_29 (rfl : (63 : Int32).toInt = 63)).trans c_33_35) rfl) rfl rfl rfl ?_
        refine r_p hq 1 (pc' := 1342) (L' := [(0, .ref 0), (1, .ref 39), (2, .ref 143), (3, .int X3)]) (st' := [.ref 39]) rfl ?_
        obtain ⟨o_1342, h_1342, h⟩ := Option.bind_eq_some_iff.mp h
        refine r_cvI (pc' := 1345) (L' := [(0, .ref 0), (1, .ref 39), (2, .ref 143), (3, .int X3)]) (Ps := []) (rest := []) hq (z_at.mk 3 rfl rfl) (Or.inl ⟨rfl, rfl⟩) rfl rfl (by decide) (by decide) rfl (Nat.not_lt.mpr (Nat.le_of_ble_eq_true rfl)) rfl rfl (z_cat_le 0 rfl (by decide)) (z_lgl_le 1 rfl (by decide)) (by decide) (H.tg rfl) (by omega) (g_c_image_ok H h_1342) rfl rfl ?_
        intro R_1342 m_1342 p_1342 e_1342 hR_1342 H_1342
        subst e_1342
        refine r_p hq 2 (pc' := 1347) (L' := [(0, .ref 0), (1, .ref 39), (2, .ref 143), (3, .int X3)]) (st' := [.ref 143]) rfl ?_
        obtain ⟨o_1347, h_1347, h⟩ := Option.bind_eq_some_iff.mp h
        refine r_cvI (pc' := 1350) (L' := [(0, .ref 0), (1, .ref 39), (2, .ref 143), (3, .int X3)]) (Ps := []) (rest := []) hq (z_at.mk 3 rfl rfl) (Or.inl ⟨rfl, rfl⟩) rfl rfl (by decide) (by decide) rfl (Nat.not_lt.mpr (Nat.le_of_ble_eq_true rfl)) rfl rfl (z_cat_le 0 rfl (by decide)) (z_lgl_le 1 rfl (by decide)) (by decide) (H_1342.tg rfl) (by omega) (g_m_image_ok H_1342 h_1347) rfl rfl ?_
        intro R_1347 m_1347 p_1347 e_1347 hR_1347 H_1347
        subst e_1347
        refine r_p hq 2 (pc' := 1367) (L' := [(0, .ref 0), (1, .ref 39), (2, .ref 143), (3, .int X3)]) (st' := []) rfl ?_
        exact g_jRangeAnswersLaw_law_L1367_ok hxl ih hx3 H_1347 h
      rcases z_ite h with ⟨c_33_36, h⟩ | ⟨c_33_36, h⟩
      · refine r_sw (off := 1321) (pc' := 1354) (L' := [(0, .ref 0), (1, .ref 39), (2, .ref 143), (3, .int X3)]) hq (z_at.mk 163 rfl rfl) (z_off_v ((tx_iand hV_29 (rfl : (63 : Int32).toInt = 63)).trans c_33_36) rfl) rfl rfl rfl ?_
        refine r_p hq 1 (pc' := 1355) (L' := [(0, .ref 0), (1, .ref 39), (2, .ref 143), (3, .int X3)]) (st' := [.ref 39]) rfl ?_
        obtain ⟨o_1355, h_1355, h⟩ := Option.bind_eq_some_iff.mp h
        refine r_cvI (pc' := 1358) (L' := [(0, .ref 0), (1, .ref 39), (2, .ref 143), (3, .int X3)]) (Ps := []) (rest := []) hq (z_at.mk 3 rfl rfl) (Or.inl ⟨rfl, rfl⟩) rfl rfl (by decide) (by decide) rfl (Nat.not_lt.mpr (Nat.le_of_ble_eq_true rfl)) rfl rfl (z_cat_le 0 rfl (by decide)) (z_lgl_le 1 rfl (by decide)) (by decide) (H.tg rfl) (by omega) (g_c_undo_ok H h_1355) rfl rfl ?_
        intro R_1355 m_1355 p_1355 e_1355 hR_1355 H_1355
        subst e_1355
        refine r_p hq 2 (pc' := 1360) (L' := [(0, .ref 0), (1, .ref 39), (2, .ref 143), (3, .int X3)]) (st' := [.ref 143]) rfl ?_
        obtain ⟨o_1360, h_1360, h⟩ := Option.bind_eq_some_iff.mp h
        refine r_cvI (pc' := 1363) (L' := [(0, .ref 0), (1, .ref 39), (2, .ref 143), (3, .int X3)]) (Ps := []) (rest := []) hq (z_at.mk 3 rfl rfl) (Or.inl ⟨rfl, rfl⟩) rfl rfl (by decide) (by decide) rfl (Nat.not_lt.mpr (Nat.le_of_ble_eq_true rfl)) rfl rfl (z_cat_le 0 rfl (by decide)) (z_lgl_le 1 rfl (by decide)) (by decide) (H_1355.tg rfl) (by omega) (g_m_undo_ok H_1355 h_1360) rfl rfl ?_
        intro R_1360 m_1360 p_1360 e_1360 hR_1360 H_1360
        subst e_1360
        refine r_p hq 2 (pc' := 1367) (L' := [(0, .ref 0), (1, .ref 39), (2, .ref 143), (3, .int X3)]) (st' := []) rfl ?_
        exact g_jRangeAnswersLaw_law_L1367_ok hxl ih hx3 H_1360 h
      have hx_33 := (tx_iand hV_29 (rfl : (63 : Int32).toInt = 63))
      rw [show (63 : Int32).toInt = 63 from rfl] at hx_33
      refine r_sw (off := 1334) (pc' := 1367) (L' := [(0, .ref 0), (1, .ref 39), (2, .ref 143), (3, .int X3)]) hq (z_at.mk 163 rfl rfl) (z_off_out (by omega)) rfl rfl rfl ?_
      exact g_jRangeAnswersLaw_law_L1367_ok hxl ih hx3 H h
end
section
/-! 23.start -/
/-! THE START over the typed memory, and the claim out of the law's run there -/
def s0 : zS := fun a i => if a = 169 ∧ i = 0 then 16 else match w_row w_T0 a with
  | some r => (match w_at r i.toNat with
    | some (.int x) => x.toInt
    | some (.long x) => x.toInt
    | _ => 0)
  | none => 0
def s0k (k : Nat) (v : Value) : Bool := if k = 0 then (match v with
  | .int _ => true
  | _ => false) else if k = 1 then (match v with
  | .long _ => true
  | _ => false) else if k = 9 then true else v == .ref (k - 100)
def s0r (a : Nat) (r : wR) : Bool := r.1 == zTg a && (r.2.1 == zLN a && (if r.1 < 3 then r.2.2.1.all (fun q => s0k (if r.1 = 1 then 1 else 0) q.2) && (match r.2.2.2 with
  | some v => s0k (if r.1 = 1 then 1 else 0) v
  | none => false) else (List.range r.2.1).all (fun i => match w_at r i with
  | some v => s0k (zKd a i) v
  | none => false)))
theorem s0_ok : ∀ a, a < 168 → 39 ≤ a → (match w_row w_T0 a with
  | some r => s0r a r
  | none => false) = true := by decide +kernel
theorem s0k_ok {k a : Nat} {i : Nat} {v : Value} (hk : s0k k v = true) (h : ∃ r, w_row w_T0 a = some r ∧ w_at r i = some v) (ha : a ≠ 169) : zCell k v (s0 a i) := by
  obtain ⟨r, h1, h2⟩ := h
  have e : s0 a i = (match some v with
    | some (.int x) => x.toInt
    | some (.long x) => x.toInt
    | _ => 0) := by
    unfold s0
    rw [if_neg (fun h => ha h.1), h1]
    show (match w_at r (i : Int).toNat with
    | some (.int x) => x.toInt
    | some (.long x) => x.toInt
    | _ => 0) = _
    rw [Int.toNat_natCast, h2]
  rw [e]
  unfold s0k at hk
  unfold zCell
  by_cases k0 : k = 0
  · rw [if_pos k0] at hk ⊢
    cases v <;> first
      | exact ⟨_, rfl, rfl⟩
      | cases hk
  · rw [if_neg k0] at hk ⊢
    by_cases k1 : k = 1
    · rw [if_pos k1] at hk ⊢
      cases v <;> first
        | exact ⟨_, rfl, rfl⟩
        | cases hk
    · rw [if_neg k1] at hk ⊢
      by_cases k9 : k = 9
      · rw [if_pos k9]; trivial
      · rw [if_neg k9] at hk ⊢
        exact eq_of_beq hk
theorem w_at_mem {r : wR} {i : Nat} {v : Value} (h : w_at r i = some v) : (∃ q ∈ r.2.2.1, q.2 = v) ∨ r.2.2.2 = some v := by
  unfold w_at at h
  cases hf : r.2.2.1.find? (fun p => p.1 == i) with
  | none => rw [hf] at h; exact Or.inr h
  | some q => rw [hf] at h; exact Or.inl ⟨q, List.mem_of_find?_eq_some hf, Option.some.inj h⟩
theorem w_at_some {r : wR} {u : Value} (h : r.2.2.2 = some u) (i : Nat) : ∃ v, w_at r i = some v := by
  unfold w_at
  cases hf : r.2.2.1.find? (fun p => p.1 == i) with
  | none => exact ⟨u, h⟩
  | some q => exact ⟨q.2, rfl⟩
theorem s0_cell {a i : Nat} (h1 : a < 168) (h2 : 39 ≤ a) (hi : i < zLN a) : ∃ r v, w_row w_T0 a = some r ∧ r.1 = zTg a ∧ r.2.1 = zLN a ∧ w_at r i = some v ∧ s0k (zKd a i) v = true := by
  have h := s0_ok a h1 h2
  cases hr : w_row w_T0 a with
  | none => rw [hr] at h; cases h
  | some r =>
    rw [hr] at h
    have h : s0r a r = true := h
    unfold s0r at h
    rw [Bool.and_eq_true, Bool.and_eq_true] at h
    obtain ⟨g1, g2, g3⟩ := h
    have g1 : r.1 = zTg a := eq_of_beq g1
    have g2 : r.2.1 = zLN a := eq_of_beq g2
    by_cases ht : r.1 < 3
    · rw [if_pos ht, Bool.and_eq_true] at g3
      obtain ⟨g3, g4⟩ := g3
      have hk : zKd a i = if r.1 = 1 then 1 else 0 := by
        rw [g1] at ht ⊢
        by_cases t1 : zTg a = 1
        · rw [if_pos t1]; exact zKd_l t1 i
        · rw [if_neg t1]; exact zKd_i (t := zTg a) rfl (by omega) i
      cases hd : r.2.2.2 with
      | none => rw [hd] at g4; cases g4
      | some u =>
        rw [hd] at g4
        obtain ⟨v, hv⟩ := w_at_some hd i
        refine ⟨r, v, rfl, g1, g2, hv, ?_⟩
        rw [hk]
        rcases w_at_mem hv with ⟨q, hq, rfl⟩ | hv2
        · exact List.all_eq_true.mp g3 q hq
        · rw [hd] at hv2
          cases hv2
          exact g4
    · rw [if_neg ht] at g3
      have g5 := List.all_eq_true.mp g3 i (List.mem_range.mpr (by omega))
      cases hv : w_at r i with
      | none => rw [hv] at g5; cases g5
      | some v =>
        rw [hv] at g5
        exact ⟨r, v, rfl, g1, g2, hv, g5⟩
theorem zLN_pos : ∀ a, a < 168 → 39 ≤ a → 0 < zLN a := by decide +kernel
theorem s0_rep {xl : Nat} {xs : Nat → Int32} {m : zM} (H : w_ok xl xs 168 63950 w_T0 m) : zRep xl xs 130 m s0 := by
  obtain ⟨H1, H2, H3, H4, H5⟩ := H
  refine ⟨H4, fun a h1 h2 _ => ?_, fun a h1 h2 _ i hi => ?_, 16, ?_, Or.inl rfl, ?_, rfl, fun j hj => ?_, by decide, by omega, by omega, by omega⟩
  · obtain ⟨r, v, g1, g2, g3, -⟩ := s0_cell (i := 0) h2 h1 (zLN_pos a h2 h1)
    rw [(H5 a r g1).2.1, g2, g3]
  · obtain ⟨r, v, g1, g2, g3, g4, g5⟩ := s0_cell h2 h1 hi
    rw [(H5 a r g1).2.2.2 i v (by omega) g4]
    exact s0k_ok g5 ⟨r, g1, g4⟩ (by omega)
  · exact (H5 129 (23, 4, [(1, .int (0 : Int32)), (0, .ref 130), (2, .int (0 : Int32)), (3, .int (0 : Int32))], none) rfl).2.2.2 0 _ (by decide) rfl
  · exact (H5 130 (2, 16, [], some (.int (0 : Int32))) rfl).2.1
  · refine ⟨0, (H5 130 (2, 16, [], some (.int (0 : Int32))) rfl).2.2.2 j _ hj rfl, ?_⟩
    unfold s0
    rw [if_neg (fun h => by omega)]
    rfl
theorem z_fin {N : Nat} (hN : N < 2147483648) (h : ∀ (xl : Nat) (xs : Nat → Int32), xl ≤ N → ∃ σ', g_jRangeAnswersLaw_law_L18 xl xs zK 0 s0 = some (1, σ')) : z_goal N := by
  intro L xs hL
  have hw : z_W 1000 1000 0 [(0, .ref 0)] [] (z_mu0 L xs) (fun v μ' => v = some (.int 1) ∧ μ'.1.length ≤ 600039 ∧ z_slt μ' ≤ 7302250 + z_slt (z_mu0 L xs)) := by
    refine w_ctor (fun m H => ?_)
    obtain ⟨σ', hg⟩ := h L xs hL
    obtain ⟨v, m', p', h1, ⟨R, rfl, hR⟩, -, hrep⟩ := g_jRangeAnswersLaw_law_L18_ok (xs := xs) (show L < 2147483648 by omega) zK (rfl : (0 : Int32).toInt = 0) (s0_rep H) hg
    obtain ⟨cap, k1, k2, k3, k4, k5, k6, k7, k8, k9⟩ := hrep.2.2.2
    refine ⟨_, m', h1.up (by decide), ?_, by omega, by omega⟩
    rw [zi_lit hR (y := 1) rfl]
  obtain ⟨v, μ', ⟨n, hn⟩, rfl, h2, h3⟩ := hw
  exact ⟨n, 1000, μ', Nat.le_refl _, hn, h2, h3⟩
end
section
/-! 30.geo -/
/-! BOXES: what is missing of a box among regions that do not meet has at most 169 boxes -/
abbrev Bx : Type := Int × Int × Int × Int
abbrev bOk (b : Bx) : Prop := 0 ≤ b.1 ∧ b.1 ≤ b.2.1 ∧ b.2.1 ≤ 31 ∧ 0 ≤ b.2.2.1 ∧ b.2.2.1 ≤ b.2.2.2 ∧ b.2.2.2 ≤ 31
abbrev bIn (b : Bx) (x y : Int) : Prop := b.1 ≤ x ∧ x ≤ b.2.1 ∧ b.2.2.1 ≤ y ∧ y ≤ b.2.2.2
abbrev bMt (a b : Bx) : Prop := a.1 ≤ b.2.1 ∧ b.1 ≤ a.2.1 ∧ a.2.2.1 ≤ b.2.2.2 ∧ b.2.2.1 ≤ a.2.2.2
abbrev bSub (a b : Bx) : Prop := b.1 ≤ a.1 ∧ a.2.1 ≤ b.2.1 ∧ b.2.2.1 ≤ a.2.2.1 ∧ a.2.2.2 ≤ b.2.2.2
def zmx (a b : Int) : Int := if a < b then b else a
def zmn (a b : Int) : Int := if a < b then a else b
def bRest (a b : Bx) : List Bx :=
  if bMt a b then
    (if a.2.2.1 < b.2.2.1 then [(a.1, a.2.1, a.2.2.1, b.2.2.1 - 1)] else []) ++
    ((if b.2.2.2 < a.2.2.2 then [(a.1, a.2.1, b.2.2.2 + 1, a.2.2.2)] else []) ++
    ((if a.1 < b.1 then [(a.1, b.1 - 1, zmx a.2.2.1 b.2.2.1, zmn a.2.2.2 b.2.2.2)] else []) ++
    (if b.2.1 < a.2.1 then [(b.2.1 + 1, a.2.1, zmx a.2.2.1 b.2.2.1, zmn a.2.2.2 b.2.2.2)] else [])))
  else [a]
theorem mem_ifl {P : Prop} [Decidable P] {c d : Bx} : c ∈ (if P then [d] else []) ↔ P ∧ c = d := by
  by_cases h : P
  · rw [if_pos h, List.mem_singleton]; exact ⟨fun e => ⟨h, e⟩, fun e => e.2⟩
  · rw [if_neg h]; exact ⟨fun e => absurd e List.not_mem_nil, fun e => absurd e.1 h⟩
theorem bRest_mem {a b c : Bx} (hc : c ∈ bRest a b) : (¬ bMt a b ∧ c = a) ∨ (bMt a b ∧ ((a.2.2.1 < b.2.2.1 ∧ c = (a.1, a.2.1, a.2.2.1, b.2.2.1 - 1)) ∨ (b.2.2.2 < a.2.2.2 ∧ c = (a.1, a.2.1, b.2.2.2 + 1, a.2.2.2)) ∨ (a.1 < b.1 ∧ c = (a.1, b.1 - 1, zmx a.2.2.1 b.2.2.1, zmn a.2.2.2 b.2.2.2)) ∨ (b.2.1 < a.2.1 ∧ c = (b.2.1 + 1, a.2.1, zmx a.2.2.1 b.2.2.1, zmn a.2.2.2 b.2.2.2)))) := by
  unfold bRest at hc
  by_cases h : bMt a b
  · rw [if_pos h] at hc
    simp only [List.mem_append, mem_ifl] at hc
    exact Or.inr ⟨h, hc⟩
  · rw [if_neg h, List.mem_singleton] at hc
    exact Or.inl ⟨h, hc⟩
theorem zmx_le {a b : Int} : a ≤ zmx a b ∧ b ≤ zmx a b ∧ (zmx a b = a ∨ zmx a b = b) := by
  unfold zmx; split <;> omega
theorem zmn_le {a b : Int} : zmn a b ≤ a ∧ zmn a b ≤ b ∧ (zmn a b = a ∨ zmn a b = b) := by
  unfold zmn; split <;> omega
theorem bRest_sub {a b c : Bx} (ha : bOk a) (hb : bOk b) (hc : c ∈ bRest a b) : bOk c ∧ bSub c a := by
  have h1 := @zmx_le a.2.2.1 b.2.2.1
  have h2 := @zmn_le a.2.2.2 b.2.2.2
  rcases bRest_mem hc with ⟨-, rfl⟩ | ⟨hm, ⟨h, rfl⟩ | ⟨h, rfl⟩ | ⟨h, rfl⟩ | ⟨h, rfl⟩⟩
  · exact ⟨ha, by omega, by omega, by omega, by omega⟩
  all_goals
    dsimp only [bOk, bSub]
    refine ⟨⟨?_, ?_, ?_, ?_, ?_, ?_⟩, ?_, ?_, ?_, ?_⟩ <;> omega
theorem bRest_off {a b c : Bx} (hb : bOk b) (hc : c ∈ bRest a b) : ¬ bMt c b := by
  have h1 := @zmx_le a.2.2.1 b.2.2.1
  have h2 := @zmn_le a.2.2.2 b.2.2.2
  rcases bRest_mem hc with ⟨h, rfl⟩ | ⟨hm, ⟨h, rfl⟩ | ⟨h, rfl⟩ | ⟨h, rfl⟩ | ⟨h, rfl⟩⟩
  · exact h
  all_goals
    dsimp only [bMt]
    omega
theorem bMt_sub {a b c d : Bx} (h1 : bSub a c) (h2 : bSub b d) (h : bMt a b) : bMt c d := by
  dsimp only [bSub, bMt] at *
  omega
/-- on each line that both have, a place between them lies in one of the regions -/
def bSep (rs : List Bx) (c d : Bx) : Prop := ∀ y, c.2.2.1 ≤ y → y ≤ c.2.2.2 → d.2.2.1 ≤ y → y ≤ d.2.2.2 → ∃ r ∈ rs, ∃ x, bIn r x y ∧ ((c.2.1 < x ∧ x < d.1) ∨ (d.2.1 < x ∧ x < c.1))
theorem bSep_mono {rs rs' : List Bx} {c d c' d' : Bx} (h : bSep rs c d) (hr : ∀ r ∈ rs, r ∈ rs') (hc : bSub c' c) (hd : bSub d' d) : bSep rs' c' d' := by
  intro y h1 h2 h3 h4
  obtain ⟨r, hr1, x, hx, hcase⟩ := h y (by omega) (by omega) (by omega) (by omega)
  exact ⟨r, hr r hr1, x, hx, by omega⟩
theorem bSep_not {rs : List Bx} {c d : Bx} (hc : bOk c) (hd : bOk d) (h : bSep rs c d) : ¬ bMt c d := by
  intro hm
  have h1 := @zmx_le c.2.2.1 d.2.2.1
  obtain ⟨r, -, x, -, hcase⟩ := h (zmx c.2.2.1 d.2.2.1) (by omega) (by omega) (by omega) (by omega)
  omega
theorem bRest_sep {a b : Bx} (ha : bOk a) (hb : bOk b) (rs : List Bx) (hr : b ∈ rs) : (bRest a b).Pairwise (bSep rs) := by
  have h1 := @zmx_le a.2.2.1 b.2.2.1
  have h2 := @zmn_le a.2.2.2 b.2.2.2
  unfold bRest
  by_cases hm : bMt a b
  · rw [if_pos hm]
    simp only [List.pairwise_append, List.mem_append, mem_ifl]
    have one : ∀ (P : Prop) [Decidable P] (d : Bx), (if P then [d] else []).Pairwise (bSep rs) := by
      intro P _ d
      by_cases h : P
      · rw [if_pos h]; exact List.pairwise_singleton _ _
      · rw [if_neg h]; exact List.Pairwise.nil
    refine ⟨one _ _, ⟨one _ _, ⟨one _ _, one _ _, ?_⟩, ?_⟩, ?_⟩
    · rintro c ⟨-, rfl⟩ d ⟨-, rfl⟩ y k1 k2 k3 k4
      dsimp only at k1 k2 k3 k4
      exact ⟨b, hr, b.1, ⟨by omega, by omega, by omega, by omega⟩, Or.inl ⟨by dsimp only; omega, by dsimp only; omega⟩⟩
    · rintro c ⟨-, rfl⟩ d (⟨-, rfl⟩ | ⟨-, rfl⟩) y k1 k2 k3 k4 <;> (dsimp only at k1 k2 k3 k4; omega)
    · rintro c ⟨-, rfl⟩ d (⟨-, rfl⟩ | ⟨-, rfl⟩ | ⟨-, rfl⟩) y k1 k2 k3 k4 <;> (dsimp only at k1 k2 k3 k4; omega)
  · rw [if_neg hm]; exact List.pairwise_singleton _ _
theorem nd_len : ∀ (M Y : List Int), M.Pairwise (· ≠ ·) → (∀ a ∈ M, a ∈ Y) → M.length ≤ Y.length
  | [], _, _, _ => Nat.zero_le _
  | a :: M, Y, hp, hs => by
    have h1 := hs a List.mem_cons_self
    have hp' := List.pairwise_cons.mp hp
    have h2 : ∀ b ∈ M, b ∈ Y.erase a := fun b hb => (List.mem_erase_of_ne (Ne.symm (hp'.1 b hb))).mpr (hs b (List.mem_cons_of_mem _ hb))
    have h3 := nd_len M (Y.erase a) hp'.2 h2
    rw [List.length_erase_of_mem h1] at h3
    have h4 : 0 < Y.length := List.length_pos_of_mem h1
    show M.length + 1 ≤ _
    omega
theorem pw_false_len {α : Type} : ∀ {l : List α}, l.Pairwise (fun _ _ => False) → l.length ≤ 1
  | [], _ => Nat.zero_le _
  | [_], _ => Nat.le_refl _
  | a :: b :: l, h => by
    have := (List.pairwise_cons.mp h).1 b List.mem_cons_self
    exact this.elim
theorem bRest_len (a b : Bx) : (bRest a b).length ≤ 1 + (if bMt a b then 1 else 0) + (if bMt a b ∧ a.2.2.1 < b.2.2.1 then 1 else 0) + (if bMt a b ∧ b.2.2.2 < a.2.2.2 then 1 else 0) := by
  have one : ∀ (P : Prop) [Decidable P] (d : Bx), (if P then [d] else []).length = if P then 1 else 0 := by
    intro P _ d
    by_cases h : P
    · rw [if_pos h, if_pos h]; rfl
    · rw [if_neg h, if_neg h]; rfl
  unfold bRest
  by_cases hm : bMt a b
  · rw [if_pos hm, if_pos hm]
    simp only [List.length_append, one]
    have e1 : (if bMt a b ∧ a.2.2.1 < b.2.2.1 then (1 : Nat) else 0) = if a.2.2.1 < b.2.2.1 then 1 else 0 := by
      by_cases h : a.2.2.1 < b.2.2.1
      · rw [if_pos h, if_pos ⟨hm, h⟩]
      · rw [if_neg h, if_neg (fun e => h e.2)]
    have e2 : (if bMt a b ∧ b.2.2.2 < a.2.2.2 then (1 : Nat) else 0) = if b.2.2.2 < a.2.2.2 then 1 else 0 := by
      by_cases h : b.2.2.2 < a.2.2.2
      · rw [if_pos h, if_pos ⟨hm, h⟩]
      · rw [if_neg h, if_neg (fun e => h e.2)]
    rw [e1, e2]
    have e3 : (if a.1 < b.1 then (1 : Nat) else 0) ≤ 1 := by split <;> omega
    have e4 : (if b.2.1 < a.2.1 then (1 : Nat) else 0) ≤ 1 := by split <;> omega
    omega
  · rw [if_neg hm]
    simp only [List.length_singleton]
    omega
def bMiss (ps : List Bx) (r : Bx) : List Bx := ps.flatMap (fun p => bRest p r)
theorem bMiss_len (r : Bx) : ∀ ps : List Bx, (bMiss ps r).length ≤ ps.length + (ps.filter (fun p => decide (bMt p r))).length + (ps.filter (fun p => decide (bMt p r ∧ p.2.2.1 < r.2.2.1))).length + (ps.filter (fun p => decide (bMt p r ∧ r.2.2.2 < p.2.2.2))).length
  | [] => Nat.zero_le _
  | p :: ps => by
    have ih := bMiss_len r ps
    have h := bRest_len p r
    unfold bMiss at ih ⊢
    rw [List.flatMap_cons, List.length_append, List.filter_cons, List.filter_cons, List.filter_cons]
    have e : ∀ (P : Prop) [Decidable P] (l : List Bx), (if decide P = true then p :: l else l).length = l.length + if P then 1 else 0 := by
      intro P _ l
      by_cases hP : P
      · rw [if_pos (decide_eq_true hP), if_pos hP]; rfl
      · rw [if_neg (by rw [decide_eq_false hP]; exact Bool.false_ne_true), if_neg hP]; rfl
    rw [e, e, e, List.length_cons]
    omega
/-- what holds of the missing boxes of q behind the regions rs -/
def bInv (q : Bx) (rs ps : List Bx) : Prop := (∀ p ∈ ps, bOk p ∧ bSub p q ∧ (p.2.2.1 = q.2.2.1 ∨ ∃ r ∈ rs, p.2.2.1 = r.2.2.1 ∨ p.2.2.1 = r.2.2.2 + 1) ∧ ∀ r ∈ rs, ¬ bMt p r) ∧ ps.Pairwise (bSep rs)
theorem bInv_0 {q : Bx} (hq : bOk q) : bInv q [] [q] := by
  refine ⟨fun p hp => ?_, List.pairwise_singleton _ _⟩
  rw [List.mem_singleton] at hp
  subst hp
  exact ⟨hq, ⟨Int.le_refl _, Int.le_refl _, Int.le_refl _, Int.le_refl _⟩, Or.inl rfl, fun r hr => absurd hr List.not_mem_nil⟩
theorem bInv_1 {q r : Bx} {rs ps : List Bx} (h : bInv q rs ps) (hr : bOk r) : bInv q (rs ++ [r]) (bMiss ps r) := by
  obtain ⟨h1, h2⟩ := h
  have hmem : r ∈ rs ++ [r] := List.mem_append_right _ (List.mem_singleton.mpr rfl)
  have hold : ∀ s ∈ rs, s ∈ rs ++ [r] := fun s hs => List.mem_append_left _ hs
  refine ⟨fun c hc => ?_, ?_⟩
  · obtain ⟨p, hp, hc⟩ := List.mem_flatMap.mp hc
    obtain ⟨k1, k2, k3, k4⟩ := h1 p hp
    obtain ⟨s1, s2⟩ := bRest_sub k1 hr hc
    refine ⟨s1, ⟨by omega, by omega, by omega, by omega⟩, ?_, fun s hs hm => ?_⟩
    · have z1 := @zmx_le p.2.2.1 r.2.2.1
      have base : (p.2.2.1 = q.2.2.1 ∨ ∃ s ∈ rs ++ [r], p.2.2.1 = s.2.2.1 ∨ p.2.2.1 = s.2.2.2 + 1) := by
        rcases k3 with k3 | ⟨s, hs, k3⟩
        · exact Or.inl k3
        · exact Or.inr ⟨s, hold s hs, k3⟩
      rcases bRest_mem hc with ⟨-, rfl⟩ | ⟨-, ⟨-, rfl⟩ | ⟨-, rfl⟩ | ⟨-, rfl⟩ | ⟨-, rfl⟩⟩
      · exact base
      · exact base
      · exact Or.inr ⟨r, hmem, Or.inr rfl⟩
      · rcases z1.2.2 with e | e
        · dsimp only; rw [e]; exact base
        · exact Or.inr ⟨r, hmem, Or.inl e⟩
      · rcases z1.2.2 with e | e
        · dsimp only; rw [e]; exact base
        · exact Or.inr ⟨r, hmem, Or.inl e⟩
    · rcases List.mem_append.mp hs with hs | hs
      · exact k4 s hs (bMt_sub s2 ⟨Int.le_refl _, Int.le_refl _, Int.le_refl _, Int.le_refl _⟩ hm)
      · rw [List.mem_singleton] at hs
        subst hs
        exact bRest_off hr hc hm
  · unfold bMiss
    rw [List.pairwise_flatMap]
    refine ⟨fun p hp => bRest_sep (h1 p hp).1 hr _ hmem, ?_⟩
    refine List.Pairwise.imp_of_mem ?_ h2
    intro a b ha hb hab c hc d hd
    exact bSep_mono hab hold (bRest_sub (h1 a ha).1 hr hc).2 (bRest_sub (h1 b hb).1 hr hd).2
/-- two of the missing boxes that a further region meets have no line in common where it meets both -/
theorem bSep_line {rs : List Bx} {c d r : Bx} (hs : bSep rs c d) (hr : ∀ s ∈ rs, ¬ bMt s r) (h1 : bMt c r) (h2 : bMt d r) {y : Int} (hy : c.2.2.1 ≤ y ∧ y ≤ c.2.2.2 ∧ d.2.2.1 ≤ y ∧ y ≤ d.2.2.2 ∧ r.2.2.1 ≤ y ∧ y ≤ r.2.2.2) : False := by
  obtain ⟨s, hs1, x, hx, hcase⟩ := hs y hy.1 hy.2.1 hy.2.2.1 hy.2.2.2.1
  refine hr s hs1 ?_
  dsimp only [bMt, bIn] at *
  omega
theorem bMiss_grow {q r : Bx} {rs ps : List Bx} (h : bInv q rs ps) (hr : bOk r) (hd : ∀ s ∈ rs, ¬ bMt s r) : (bMiss ps r).length ≤ ps.length + (2 * rs.length + 1) + 2 := by
  obtain ⟨h1, h2⟩ := h
  have h3 := bMiss_len r ps
  have hA : (ps.filter (fun p => decide (bMt p r ∧ p.2.2.1 < r.2.2.1))).length ≤ 1 := by
    refine pw_false_len (List.Pairwise.imp_of_mem ?_ (h2.filter _))
    intro a b ha hb hab
    rw [List.mem_filter, decide_eq_true_eq] at ha hb
    exact bSep_line hab hd ha.2.1 hb.2.1 (y := r.2.2.1) (by have := ha.2; have := hb.2; dsimp only [bMt] at *; omega)
  have hB : (ps.filter (fun p => decide (bMt p r ∧ r.2.2.2 < p.2.2.2))).length ≤ 1 := by
    refine pw_false_len (List.Pairwise.imp_of_mem ?_ (h2.filter _))
    intro a b ha hb hab
    rw [List.mem_filter, decide_eq_true_eq] at ha hb
    exact bSep_line hab hd ha.2.1 hb.2.1 (y := r.2.2.2) (by have := ha.2; have := hb.2; dsimp only [bMt] at *; omega)
  have hM : (ps.filter (fun p => decide (bMt p r))).length ≤ 2 * rs.length + 1 := by
    have e := nd_len ((ps.filter (fun p => decide (bMt p r))).map (fun p => if p.2.2.1 ≤ r.2.2.1 then q.2.2.1 else p.2.2.1)) (q.2.2.1 :: rs.flatMap (fun s => [s.2.2.1, s.2.2.2 + 1])) ?_ ?_
    · rw [List.length_map, List.length_cons] at e
      have e2 : ∀ l : List Bx, (l.flatMap (fun s => [s.2.2.1, s.2.2.2 + 1])).length = 2 * l.length := by
        intro l
        induction l with
        | nil => rfl
        | cons a l ih =>
          rw [List.flatMap_cons, List.length_append, ih, List.length_cons]
          show 2 + 2 * l.length = 2 * (l.length + 1)
          omega
      rw [e2] at e
      exact e
    · rw [List.pairwise_map]
      refine List.Pairwise.imp_of_mem ?_ (h2.filter _)
      intro a b ha hb hab he
      rw [List.mem_filter, decide_eq_true_eq] at ha hb
      have qa := (h1 a ha.1).2.1
      have qb := (h1 b hb.1).2.1
      have ma := ha.2
      have mb := hb.2
      by_cases ca : a.2.2.1 ≤ r.2.2.1
      · by_cases cb : b.2.2.1 ≤ r.2.2.1
        · exact bSep_line hab hd ha.2 hb.2 (y := r.2.2.1) (by dsimp only [bMt] at *; omega)
        · rw [if_pos ca, if_neg cb] at he
          dsimp only [bSub] at *
          omega
      · by_cases cb : b.2.2.1 ≤ r.2.2.1
        · rw [if_neg ca, if_pos cb] at he
          dsimp only [bSub] at *
          omega
        · rw [if_neg ca, if_neg cb] at he
          exact bSep_line hab hd ha.2 hb.2 (y := a.2.2.1) (by have := (h1 a ha.1).1; have := (h1 b hb.1).1; dsimp only [bMt, bOk] at *; omega)
    · intro v hv
      obtain ⟨p, hp, rfl⟩ := List.mem_map.mp hv
      rw [List.mem_filter] at hp
      by_cases c : p.2.2.1 ≤ r.2.2.1
      · rw [if_pos c]; exact List.mem_cons_self
      · rw [if_neg c]
        rcases (h1 p hp.1).2.2.1 with e | ⟨s, hs, e⟩
        · rw [e]; exact List.mem_cons_self
        · refine List.mem_cons_of_mem _ (List.mem_flatMap.mpr ⟨s, hs, ?_⟩)
          rcases e with e | e
          · rw [e]; exact List.mem_cons_self
          · rw [e]; exact List.mem_cons_of_mem _ List.mem_cons_self
  omega
def bMissAll (q : Bx) (rs : List Bx) : List Bx := rs.foldl bMiss [q]
theorem bMissAll_inv {q : Bx} (hq : bOk q) : ∀ (rs : List Bx), (∀ r ∈ rs, bOk r) → rs.Pairwise (fun a b => ¬ bMt a b) → bInv q rs (bMissAll q rs) ∧ (bMissAll q rs).length ≤ (rs.length + 1) * (rs.length + 1) := by
  intro rs
  suffices H : ∀ (rs done ps : List Bx), bInv q done ps → ps.length ≤ (done.length + 1) * (done.length + 1) → (∀ r ∈ rs, bOk r) → rs.Pairwise (fun a b => ¬ bMt a b) → (∀ s ∈ done, ∀ r ∈ rs, ¬ bMt s r) → bInv q (done ++ rs) (rs.foldl bMiss ps) ∧ (rs.foldl bMiss ps).length ≤ (done.length + rs.length + 1) * (done.length + rs.length + 1) by
    intro h1 h2
    have := H rs [] [q] (bInv_0 hq) (Nat.le_refl 1) h1 h2 (fun s hs => absurd hs List.not_mem_nil)
    rw [List.nil_append, List.length_nil, Nat.zero_add] at this
    exact this
  intro rs
  induction rs with
  | nil =>
    intro done ps h1 h2 _ _ _
    rw [List.append_nil]
    exact ⟨h1, h2⟩
  | cons r rs ih =>
    intro done ps h1 h2 h3 h4 h5
    have h4' := List.pairwise_cons.mp h4
    have hr := h3 r List.mem_cons_self
    have g := bMiss_grow h1 hr (fun s hs => h5 s hs r List.mem_cons_self)
    have := ih (done ++ [r]) (bMiss ps r) (bInv_1 h1 hr) ?_ (fun s hs => h3 s (List.mem_cons_of_mem _ hs)) h4'.2 ?_
    · rw [List.append_assoc, List.singleton_append, List.length_append, List.length_singleton] at this
      rw [List.foldl_cons, List.length_cons]
      rw [show done.length + (rs.length + 1) + 1 = done.length + 1 + rs.length + 1 by omega]
      exact this
    · rw [List.length_append, List.length_singleton]
      have e : (done.length + 1 + 1) * (done.length + 1 + 1) = (done.length + 1) * (done.length + 1) + 2 * done.length + 3 := by
        rw [Nat.add_mul, Nat.mul_add]
        omega
      omega
    · intro s hs t ht
      rcases List.mem_append.mp hs with hs | hs
      · exact h5 s hs t (List.mem_cons_of_mem _ ht)
      · rw [List.mem_singleton] at hs
        subst hs
        exact h4'.1 t ht
theorem bMissAll_169 {q : Bx} (hq : bOk q) {rs : List Bx} (h1 : ∀ r ∈ rs, bOk r) (h2 : rs.Pairwise (fun a b => ¬ bMt a b)) (h3 : rs.length ≤ 12) : (bMissAll q rs).length ≤ 169 := by
  refine Nat.le_trans (bMissAll_inv hq rs h1 h2).2 ?_
  exact Nat.mul_le_mul (show rs.length + 1 ≤ 13 by omega) (show rs.length + 1 ≤ 13 by omega)
end
section
/-! 31.ref1 -/
/-! THE REFERENCE over the typed memory: its small methods -/
theorem w64_id {x : Int} (h1 : -9223372036854775808 ≤ x) (h2 : x < 9223372036854775808) : w64 x = x := by
  unfold w64 Int.bmod
  simp only [Nat.reducePow]
  split <;> omega
theorem w32_bd (x : Int) : -2147483648 ≤ w32 x ∧ w32 x < 2147483648 := by
  unfold w32 Int.bmod
  simp only [Nat.reducePow]
  split <;> omega
theorem zu_e {σ : zS} {a : Nat} {i j v : Int} (h : j = i) : zu σ a i v a j = v := if_pos ⟨rfl, h⟩
theorem zu_a {σ : zS} {a b : Nat} {i j v : Int} (h : b ≠ a) : zu σ a i v b j = σ b j := if_neg (fun e => h e.1)
theorem zu_c {σ : zS} {a b : Nat} {i j v : Int} (h : b ≠ a ∨ j ≠ i) : zu σ a i v b j = σ b j := if_neg (fun e => by omega)
theorem zu_i {σ : zS} {a b : Nat} {i j v : Int} (h : j ≠ i) : zu σ a i v b j = σ b j := if_neg (fun e => h e.2)
def bxA (σ : zS) (a : Nat) (i : Int) : Bx := (σ a i, σ a (i + 1), σ a (i + 2), σ a (i + 3))
/-- a box laid at a place -/
def zb (σ : zS) (a : Nat) (i : Int) (b : Bx) : zS := fun c j => if c = a ∧ i ≤ j ∧ j < i + 4 then (if j = i then b.1 else if j = i + 1 then b.2.1 else if j = i + 2 then b.2.2.1 else b.2.2.2) else σ c j
theorem zb_a {σ : zS} {a c : Nat} {i j : Int} {b : Bx} (h : c ≠ a) : zb σ a i b c j = σ c j := if_neg (fun e => h e.1)
theorem zb_i {σ : zS} {a c : Nat} {i j : Int} {b : Bx} (h : j < i ∨ i + 4 ≤ j) : zb σ a i b c j = σ c j := if_neg (fun e => by omega)
theorem zb_bx {σ : zS} {a : Nat} {i j : Int} {b : Bx} (h : j = i) : bxA (zb σ a i b) a j = b := by
  subst h
  unfold bxA zb
  rw [if_pos ⟨rfl, by omega, by omega⟩, if_pos rfl, if_pos ⟨rfl, by omega, by omega⟩, if_neg (by omega), if_pos rfl, if_pos ⟨rfl, by omega, by omega⟩, if_neg (by omega), if_neg (by omega), if_pos rfl, if_pos ⟨rfl, by omega, by omega⟩, if_neg (by omega), if_neg (by omega), if_neg (by omega)]
theorem zb_bxa {σ : zS} {a c : Nat} {i j : Int} {b : Bx} (h : c ≠ a) : bxA (zb σ a i b) c j = bxA σ c j := by
  unfold bxA
  rw [zb_a h, zb_a h, zb_a h, zb_a h]
theorem zb_bxi {σ : zS} {a c : Nat} {i j : Int} {b : Bx} (h : j + 4 ≤ i ∨ i + 4 ≤ j) : bxA (zb σ a i b) c j = bxA σ c j := by
  unfold bxA
  rw [zb_i (by omega), zb_i (by omega), zb_i (by omega), zb_i (by omega)]
theorem zu_bxa {σ : zS} {a c : Nat} {i j v : Int} (h : c ≠ a) : bxA (zu σ a i v) c j = bxA σ c j := by
  unfold bxA
  rw [zu_a h, zu_a h, zu_a h, zu_a h]
theorem zu_bxi {σ : zS} {a c : Nat} {i j v : Int} (h : i < j ∨ j + 4 ≤ i) : bxA (zu σ a i v) c j = bxA σ c j := by
  unfold bxA
  rw [zu_i (by omega), zu_i (by omega), zu_i (by omega), zu_i (by omega)]
theorem zu_zb {σ : zS} {a : Nat} {i x y z w : Int} : zu (zu (zu (zu σ a i x) a (i + 1) y) a (i + 2) z) a (i + 3) w = zb σ a i (x, y, z, w) := by
  funext c j
  unfold zu zb
  by_cases hc : c = a
  · subst hc
    by_cases h3 : j = i + 3
    · rw [if_pos ⟨rfl, h3⟩, if_pos ⟨rfl, by omega, by omega⟩, if_neg (by omega), if_neg (by omega), if_neg (by omega)]
    · rw [if_neg (fun e => h3 e.2)]
      by_cases h2 : j = i + 2
      · rw [if_pos ⟨rfl, h2⟩, if_pos ⟨rfl, by omega, by omega⟩, if_neg (by omega), if_neg (by omega), if_pos h2]
      · rw [if_neg (fun e => h2 e.2)]
        by_cases h1 : j = i + 1
        · rw [if_pos ⟨rfl, h1⟩, if_pos ⟨rfl, by omega, by omega⟩, if_neg (by omega), if_pos h1]
        · rw [if_neg (fun e => h1 e.2)]
          by_cases h0 : j = i
          · rw [if_pos ⟨rfl, h0⟩, if_pos ⟨rfl, by omega, by omega⟩, if_pos h0]
          · rw [if_neg (fun e => h0 e.2), if_neg (fun e => by omega)]
  · rw [if_neg (fun e => hc e.1), if_neg (fun e => hc e.1), if_neg (fun e => hc e.1), if_neg (fun e => hc e.1), if_neg (fun e => hc e.1)]
theorem s_isIn_t {v a b : Int} {σ : zS} (h1 : a ≤ v) (h2 : v ≤ b) : g_m_isIn v a b σ = some (1, σ) := by
  unfold g_m_isIn
  rw [if_neg (by omega), if_neg (by omega)]
theorem s_isIn_f {v a b : Int} {σ : zS} (h : v < a ∨ b < v) : g_m_isIn v a b σ = some (0, σ) := by
  unfold g_m_isIn
  by_cases h1 : v < a
  · rw [if_pos h1]
  · rw [if_neg h1, if_pos (by omega)]
theorem s_less {x y : Int} {σ : zS} : g_m_less x y σ = some (zmn x y, σ) := by
  unfold g_m_less zmn
  by_cases h : x < y
  · rw [if_neg (by omega), if_pos h]
  · rw [if_pos (by omega), if_neg h]
theorem s_more {x y : Int} {σ : zS} : g_m_more x y σ = some (if y < x then x else y, σ) := by
  unfold g_m_more
  by_cases h : y < x
  · rw [if_neg (by omega), if_pos h]
  · rw [if_pos (by omega), if_neg h]
theorem zmx_c {x y : Int} : (if y < x then x else y) = zmx x y := by
  unfold zmx
  split <;> split <;> omega
theorem s_region {x : Int} {σ : zS} (h1 : -1000 ≤ x) (h2 : x ≤ 1000) : g_m_region_173 x σ = some (340 + 10 * x, σ) := by
  unfold g_m_region_173
  rw [w32_id (x := 10 * x) (by omega) (by omega), w32_id (by omega) (by omega)]
theorem s_rowAt {x : Int} {σ : zS} (h1 : -1000 ≤ x) (h2 : x ≤ 1000) : g_m_rowAt x σ = some (20 + 3 * x, σ) := by
  unfold g_m_rowAt
  rw [w32_id (x := 3 * x) (by omega) (by omega), w32_id (by omega) (by omega)]
theorem s_isBox_t {x0 x1 y0 y1 : Int} {σ : zS} (h : bOk (x0, x1, y0, y1)) : g_m_isBox x0 x1 y0 y1 σ = some (1, σ) := by
  dsimp only [bOk] at h
  unfold g_m_isBox
  rw [s_isIn_t (by omega) (by omega), Option.bind_some, if_neg (show ¬ ((1 : Int) = 0) by decide), s_isIn_t (by omega) (by omega), Option.bind_some, if_neg (show ¬ ((1 : Int) = 0) by decide), s_isIn_t (by omega) (by omega), Option.bind_some, if_neg (show ¬ ((1 : Int) = 0) by decide), s_isIn_t (by omega) (by omega), Option.bind_some, if_neg (show ¬ ((1 : Int) = 0) by decide)]
theorem s_isBox_f {x0 x1 y0 y1 : Int} {σ : zS} (h : ¬ bOk (x0, x1, y0, y1)) : g_m_isBox x0 x1 y0 y1 σ = some (0, σ) := by
  dsimp only [bOk] at h
  unfold g_m_isBox
  by_cases c1 : 0 ≤ x0 ∧ x0 ≤ 31
  · rw [s_isIn_t c1.1 c1.2, Option.bind_some, if_neg (show ¬ ((1 : Int) = 0) by decide)]
    by_cases c2 : x0 ≤ x1 ∧ x1 ≤ 31
    · rw [s_isIn_t c2.1 c2.2, Option.bind_some, if_neg (show ¬ ((1 : Int) = 0) by decide)]
      by_cases c3 : 0 ≤ y0 ∧ y0 ≤ 31
      · rw [s_isIn_t c3.1 c3.2, Option.bind_some, if_neg (show ¬ ((1 : Int) = 0) by decide), s_isIn_f (by omega), Option.bind_some, if_pos rfl]
      · rw [s_isIn_f (by omega), Option.bind_some, if_pos rfl]
    · rw [s_isIn_f (by omega), Option.bind_some, if_pos rfl]
  · rw [s_isIn_f (by omega), Option.bind_some, if_pos rfl]
theorem s_sets {a : Nat} {i x y z w : Int} {σ : zS} (h1 : 0 ≤ i) (h2 : i + 3 < zLI a) (h3 : zLI a ≤ 100000) : g_m_sets a i x y z w σ = some ((), zb σ a i (x, y, z, w)) := by
  unfold g_m_sets
  rw [w32_id (x := i + 1) (by omega) (by omega), w32_id (x := i + 2) (by omega) (by omega), w32_id (x := i + 3) (by omega) (by omega), if_pos (by omega), if_pos (by omega), if_pos (by omega), if_pos (by omega)]
  show some ((), zu (zu (zu (zu σ a i x) a (i + 1) y) a (i + 2) z) a (i + 3) w) = _
  rw [zu_zb]
theorem s_copies {a c : Nat} {i j : Int} {σ : zS} (h1 : 0 ≤ i) (h2 : i + 3 < zLI a) (h3 : zLI a ≤ 100000) (h4 : 0 ≤ j) (h5 : j + 3 < zLI c) (h6 : zLI c ≤ 100000) : g_m_copies a c i j σ = some ((), zb σ c j (bxA σ a i)) := by
  unfold g_m_copies
  rw [w32_id (x := i + 1) (by omega) (by omega), w32_id (x := i + 2) (by omega) (by omega), w32_id (x := i + 3) (by omega) (by omega), if_pos (by omega), if_pos (by omega), if_pos (by omega), if_pos (by omega)]
  show (g_m_sets c j (σ a i) (σ a (i + 1)) (σ a (i + 2)) (σ a (i + 3)) σ).bind _ = _
  rw [s_sets h4 h5 h6]
  rfl
theorem s_doMeet {a c : Nat} {i j : Int} {σ : zS} (h1 : 0 ≤ i) (h2 : i + 3 < zLI a) (h3 : zLI a ≤ 100000) (h4 : 0 ≤ j) (h5 : j + 3 < zLI c) (h6 : zLI c ≤ 100000) : g_m_doMeet a c i j σ = some (if bMt (bxA σ a i) (bxA σ c j) then 1 else 0, σ) := by
  unfold g_m_doMeet
  rw [w32_id (x := i + 1) (by omega) (by omega), w32_id (x := i + 2) (by omega) (by omega), w32_id (x := i + 3) (by omega) (by omega), w32_id (x := j + 1) (by omega) (by omega), w32_id (x := j + 2) (by omega) (by omega), w32_id (x := j + 3) (by omega) (by omega), if_pos (by omega), if_pos (by omega)]
  show (if σ c (j + 1) < σ a i then _ else _) = _
  by_cases c1 : σ c (j + 1) < σ a i
  · rw [if_pos c1, if_neg (fun e => by dsimp only [bMt, bxA] at e; omega)]
  · rw [if_neg c1, if_pos (by omega), if_pos (by omega)]
    show (if σ a (i + 1) < σ c j then _ else _) = _
    by_cases c2 : σ a (i + 1) < σ c j
    · rw [if_pos c2, if_neg (fun e => by dsimp only [bMt, bxA] at e; omega)]
    · rw [if_neg c2, if_pos (by omega), if_pos (by omega)]
      show (if σ c (j + 3) < σ a (i + 2) then _ else _) = _
      by_cases c3 : σ c (j + 3) < σ a (i + 2)
      · rw [if_pos c3, if_neg (fun e => by dsimp only [bMt, bxA] at e; omega)]
      · rw [if_neg c3, if_pos (by omega), if_pos (by omega)]
        show (if σ a (i + 3) < σ c (j + 2) then _ else _) = _
        by_cases c4 : σ a (i + 3) < σ c (j + 2)
        · rw [if_pos c4, if_neg (fun e => by dsimp only [bMt, bxA] at e; omega)]
        · rw [if_neg c4, if_pos (by dsimp only [bMt, bxA]; omega)]
theorem s_has {a : Nat} {i x y : Int} {σ : zS} (h1 : 0 ≤ i) (h2 : i + 3 < zLI a) (h3 : zLI a ≤ 100000) : g_m_has a i x y σ = some (if bIn (bxA σ a i) x y then 1 else 0, σ) := by
  unfold g_m_has
  rw [w32_id (x := i + 1) (by omega) (by omega), w32_id (x := i + 2) (by omega) (by omega), w32_id (x := i + 3) (by omega) (by omega), if_pos (by omega), if_pos (by omega)]
  show (g_m_isIn x (σ a i) (σ a (i + 1)) σ).bind _ = _
  by_cases c1 : σ a i ≤ x ∧ x ≤ σ a (i + 1)
  · rw [s_isIn_t c1.1 c1.2, Option.bind_some, if_neg (show ¬ ((1 : Int) = 0) by decide), if_pos (by omega), if_pos (by omega)]
    show (g_m_isIn y (σ a (i + 2)) (σ a (i + 3)) σ).bind _ = _
    by_cases c2 : σ a (i + 2) ≤ y ∧ y ≤ σ a (i + 3)
    · rw [s_isIn_t c2.1 c2.2, Option.bind_some, if_neg (show ¬ ((1 : Int) = 0) by decide), if_pos (by dsimp only [bIn, bxA]; omega)]
    · rw [s_isIn_f (by omega), Option.bind_some, if_pos rfl, if_neg (fun e => by dsimp only [bIn, bxA] at e; omega)]
  · rw [s_isIn_f (by omega), Option.bind_some, if_pos rfl, if_neg (fun e => by dsimp only [bIn, bxA] at e; omega)]
def bCom (a b : Bx) : Bx := (zmx a.1 b.1, zmn a.2.1 b.2.1, zmx a.2.2.1 b.2.2.1, zmn a.2.2.2 b.2.2.2)
def bAro (a b : Bx) : Bx := if 0 ≤ a.1 then (zmn a.1 b.1, zmx a.2.1 b.2.1, zmn a.2.2.1 b.2.2.1, zmx a.2.2.2 b.2.2.2) else b
theorem s_commons {a c d : Nat} {i j k : Int} {σ : zS} (h1 : 0 ≤ i) (h2 : i + 3 < zLI a) (h3 : zLI a ≤ 100000) (h4 : 0 ≤ j) (h5 : j + 3 < zLI c) (h6 : zLI c ≤ 100000) (h7 : 0 ≤ k) (h8 : k + 3 < zLI d) (h9 : zLI d ≤ 100000) : g_m_commons a c d i j k σ = some ((), zb σ d k (bCom (bxA σ a i) (bxA σ c j))) := by
  unfold g_m_commons
  rw [w32_id (x := i + 1) (by omega) (by omega), w32_id (x := i + 2) (by omega) (by omega), w32_id (x := i + 3) (by omega) (by omega), w32_id (x := j + 1) (by omega) (by omega), w32_id (x := j + 2) (by omega) (by omega), w32_id (x := j + 3) (by omega) (by omega)]
  simp only [s_more, s_less, Option.bind_some, zmx_c]
  rw [if_pos (by omega), if_pos (by omega), if_pos (by omega), if_pos (by omega), if_pos (by omega), if_pos (by omega), if_pos (by omega), if_pos (by omega), s_sets h7 h8 h9]
  rfl
theorem s_arounds {a c : Nat} {i j : Int} {σ : zS} (h1 : 0 ≤ i) (h2 : i + 3 < zLI a) (h3 : zLI a ≤ 100000) (h4 : 0 ≤ j) (h5 : j + 3 < zLI c) (h6 : zLI c ≤ 100000) : g_m_arounds a c i j σ = some ((), zb σ a i (bAro (bxA σ a i) (bxA σ c j))) := by
  unfold g_m_arounds
  rw [w32_id (x := i + 1) (by omega) (by omega), w32_id (x := i + 2) (by omega) (by omega), w32_id (x := i + 3) (by omega) (by omega), w32_id (x := j + 1) (by omega) (by omega), w32_id (x := j + 2) (by omega) (by omega), w32_id (x := j + 3) (by omega) (by omega)]
  simp only [s_more, s_less, Option.bind_some, zmx_c]
  rw [if_pos (by omega)]
  unfold bAro
  show (if 0 ≤ σ a i then _ else _) = some ((), zb σ a i (if 0 ≤ σ a i then _ else _))
  by_cases c0 : 0 ≤ σ a i
  · rw [if_pos c0, if_pos c0, if_pos (by omega), if_pos (by omega), if_pos (by omega), if_pos (by omega), if_pos (by omega), if_pos (by omega), if_pos (by omega), if_pos (by omega), s_sets h1 h2 h3]
    rfl
  · rw [if_neg c0, if_neg c0, s_copies h4 h5 h6 h1 h2 h3]
    rfl
def bArea (b : Bx) : Int := w32 ((w32 ((w32 (b.2.1 - b.1)) + 1)) * (w32 ((w32 (b.2.2.2 - b.2.2.1)) + 1)))
theorem s_area {a : Nat} {i : Int} {σ : zS} (h1 : 0 ≤ i) (h2 : i + 3 < zLI a) (h3 : zLI a ≤ 100000) : g_m_area a i σ = some (bArea (bxA σ a i), σ) := by
  unfold g_m_area
  rw [w32_id (x := i + 1) (by omega) (by omega), w32_id (x := i + 2) (by omega) (by omega), w32_id (x := i + 3) (by omega) (by omega), if_pos (by omega), if_pos (by omega), if_pos (by omega), if_pos (by omega)]
  rfl
end
section
/-! 32.ref2 -/
/-! THE REFERENCE over the typed memory: the rest of a box, what is missing -/
/-- boxes laid one behind the other from a place on -/
def zbs (t : Nat) : zS → Int → List Bx → zS
  | σ, _, [] => σ
  | σ, i, b :: l => zbs t (zb σ t i b) (i + 4) l
theorem zbs_fr {t : Nat} : ∀ (l : List Bx) (σ : zS) (i : Int) (c : Nat) (j : Int), (c ≠ t ∨ j < i ∨ i + 4 * (l.length : Int) ≤ j) → zbs t σ i l c j = σ c j
  | [], _, _, _, _, _ => rfl
  | b :: l, σ, i, c, j, h => by
    rw [List.length_cons] at h
    show zbs t (zb σ t i b) (i + 4) l c j = _
    rw [zbs_fr l _ _ c j (by omega)]
    rcases h with h | h
    · exact zb_a h
    · exact zb_i (by omega)
theorem zbs_bx {t c : Nat} {l : List Bx} {σ : zS} {i j : Int} (h : c ≠ t ∨ j + 4 ≤ i ∨ i + 4 * (l.length : Int) ≤ j) : bxA (zbs t σ i l) c j = bxA σ c j := by
  unfold bxA
  rw [zbs_fr l σ i c j (by omega), zbs_fr l σ i c (j + 1) (by omega), zbs_fr l σ i c (j + 2) (by omega), zbs_fr l σ i c (j + 3) (by omega)]
theorem zbs_app {t : Nat} : ∀ (l l2 : List Bx) (σ : zS) (i : Int), zbs t σ i (l ++ l2) = zbs t (zbs t σ i l) (i + 4 * (l.length : Int)) l2
  | [], l2, σ, i => by
    show zbs t σ i l2 = zbs t σ (i + 4 * ((0 : Nat) : Int)) l2
    rw [show i + 4 * ((0 : Nat) : Int) = i by omega]
  | b :: l, l2, σ, i => by
    show zbs t (zb σ t i b) (i + 4) (l ++ l2) = zbs t (zbs t (zb σ t i b) (i + 4) l) _ l2
    rw [zbs_app l l2, List.length_cons]
    rw [show i + 4 + 4 * (l.length : Int) = i + 4 * ((l.length + 1 : Nat) : Int) by omega]
theorem zbs_get {t : Nat} : ∀ (l : List Bx) (σ : zS) (i : Int) (k : Nat) (h : k < l.length), bxA (zbs t σ i l) t (i + 4 * (k : Int)) = l[k]
  | b :: l, σ, i, 0, _ => by
    show bxA (zbs t (zb σ t i b) (i + 4) l) t (i + 4 * ((0 : Nat) : Int)) = b
    rw [zbs_bx (by omega)]
    exact zb_bx (by omega)
  | b :: l, σ, i, k + 1, h => by
    have h2 : k < l.length := by rw [List.length_cons] at h; omega
    show bxA (zbs t (zb σ t i b) (i + 4) l) t (i + 4 * ((k + 1 : Nat) : Int)) = l[k]
    rw [show i + 4 * ((k + 1 : Nat) : Int) = i + 4 + 4 * (k : Int) by omega]
    exact zbs_get l _ _ k h2
theorem bx1 {σ : zS} {a : Nat} {i : Int} {A : Bx} (h : bxA σ a i = A) : σ a i = A.1 ∧ σ a (i + 1) = A.2.1 ∧ σ a (i + 2) = A.2.2.1 ∧ σ a (i + 3) = A.2.2.2 := by
  subst h
  exact ⟨rfl, rfl, rfl, rfl⟩
theorem s_rests_199 {a c t : Nat} {k0 : Int} {m : Nat} {σ : zS} (hm : m ≤ 1000) : g_m_rests_L199 a c t k0 (k0 + 4 * (m : Int)) σ = some ((m : Int), σ) := by
  unfold g_m_rests_L199
  rw [w32_id (x := k0 + 4 * (m : Int) - k0) (by omega) (by omega), show k0 + 4 * (m : Int) - k0 = 4 * (m : Int) by omega]
  have e : Int.tdiv (4 * (m : Int)) 4 = m := by
    rw [Int.tdiv_eq_ediv_of_nonneg (by omega)]
    omega
  rw [e, w32_id (by omega) (by omega)]
def oneIf (P : Prop) [Decidable P] (b : Bx) : List Bx := if P then [b] else []
theorem oneIf_t {P : Prop} [Decidable P] {b : Bx} (h : P) : oneIf P b = [b] := if_pos h
theorem oneIf_f {P : Prop} [Decidable P] {b : Bx} (h : ¬ P) : oneIf P b = [] := if_neg h
theorem s_rests_160 {a c t : Nat} {i j k0 lo hi : Int} {m : Nat} {σ : zS} {A C : Bx} (hA : bxA σ a i = A) (hC : bxA σ c j = C) (okC : bOk C) (h1 : 0 ≤ i) (h2 : i + 3 < zLI a) (h3 : zLI a ≤ 100000) (h4 : 0 ≤ j) (h5 : j + 3 < zLI c) (h6 : zLI c ≤ 100000) (h7 : 0 ≤ k0) (h8 : k0 + 4 * (m : Int) + 3 < zLI t) (h9 : zLI t ≤ 100000) (hm : m ≤ 3) : g_m_rests_L160 a c t i j k0 (k0 + 4 * (m : Int)) lo hi σ = some (((m + (oneIf (C.2.1 < A.2.1) (C.2.1 + 1, A.2.1, lo, hi)).length : Nat) : Int), zbs t σ (k0 + 4 * (m : Int)) (oneIf (C.2.1 < A.2.1) (C.2.1 + 1, A.2.1, lo, hi))) := by
  obtain ⟨a1, a2, a3, a4⟩ := bx1 hA
  obtain ⟨c1, c2, c3, c4⟩ := bx1 hC
  dsimp only [bOk] at okC
  unfold g_m_rests_L160
  rw [w32_id (x := i + 1) (by omega) (by omega), w32_id (x := j + 1) (by omega) (by omega), if_pos (by omega), if_pos (by omega), a2, c2]
  by_cases h : C.2.1 < A.2.1
  · rw [oneIf_t h]
    show (if A.2.1 ≤ C.2.1 then _ else _) = _
    rw [if_neg (by omega), if_pos (by omega), if_pos (by omega)]
    show (g_m_sets t (k0 + 4 * (m : Int)) (w32 (C.2.1 + 1)) A.2.1 lo hi σ).bind _ = _
    rw [w32_id (x := C.2.1 + 1) (by omega) (by omega), s_sets (by omega) h8 h9, Option.bind_some, w32_id (x := k0 + 4 * (m : Int) + 4) (by omega) (by omega)]
    show g_m_rests_L199 a c t k0 (k0 + 4 * (m : Int) + 4) (zb σ t (k0 + 4 * (m : Int)) (C.2.1 + 1, A.2.1, lo, hi)) = _
    rw [show k0 + 4 * (m : Int) + 4 = k0 + 4 * ((m + 1 : Nat) : Int) by omega, s_rests_199 (by omega)]
    rfl
  · rw [oneIf_f h]
    show (if A.2.1 ≤ C.2.1 then _ else _) = _
    rw [if_pos (by omega), s_rests_199 (by omega)]
    rfl
theorem s_rests_129 {a c t : Nat} {i j k0 lo hi : Int} {m : Nat} {σ : zS} {A C : Bx} (hA : bxA σ a i = A) (hC : bxA σ c j = C) (okC : bOk C) (ta : a ≠ t) (tc : c ≠ t) (h1 : 0 ≤ i) (h2 : i + 3 < zLI a) (h3 : zLI a ≤ 100000) (h4 : 0 ≤ j) (h5 : j + 3 < zLI c) (h6 : zLI c ≤ 100000) (h7 : 0 ≤ k0) (h8 : k0 + 4 * (m : Int) + 7 < zLI t) (h9 : zLI t ≤ 100000) (hm : m ≤ 2) : g_m_rests_L129 a c t i j k0 (k0 + 4 * (m : Int)) lo hi σ = some (((m + (oneIf (A.1 < C.1) (A.1, C.1 - 1, lo, hi) ++ oneIf (C.2.1 < A.2.1) (C.2.1 + 1, A.2.1, lo, hi)).length : Nat) : Int), zbs t σ (k0 + 4 * (m : Int)) (oneIf (A.1 < C.1) (A.1, C.1 - 1, lo, hi) ++ oneIf (C.2.1 < A.2.1) (C.2.1 + 1, A.2.1, lo, hi))) := by
  obtain ⟨a1, a2, a3, a4⟩ := bx1 hA
  obtain ⟨c1, c2, c3, c4⟩ := bx1 hC
  dsimp only [bOk] at okC
  unfold g_m_rests_L129
  rw [if_pos (by omega), if_pos (by omega), a1, c1]
  by_cases h : A.1 < C.1
  · rw [oneIf_t h]
    show (if C.1 ≤ A.1 then _ else _) = _
    rw [if_neg (by omega), if_pos (by omega), if_pos (by omega)]
    show (g_m_sets t (k0 + 4 * (m : Int)) A.1 (w32 (C.1 - 1)) lo hi σ).bind _ = _
    rw [w32_id (x := C.1 - 1) (by omega) (by omega), s_sets (by omega) (by omega) h9, Option.bind_some, w32_id (x := k0 + 4 * (m : Int) + 4) (by omega) (by omega)]
    show g_m_rests_L160 a c t i j k0 (k0 + 4 * (m : Int) + 4) lo hi (zb σ t (k0 + 4 * (m : Int)) (A.1, C.1 - 1, lo, hi)) = _
    rw [show k0 + 4 * (m : Int) + 4 = k0 + 4 * ((m + 1 : Nat) : Int) by omega, s_rests_160 (A := A) (C := C) (by rw [zb_bxa ta]; exact hA) (by rw [zb_bxa tc]; exact hC) okC h1 h2 h3 h4 h5 h6 h7 (by omega) h9 (by omega)]
    rw [List.singleton_append, List.length_cons, Nat.add_right_comm, Nat.add_assoc]
    show _ = some (_, zbs t (zb σ t (k0 + 4 * (m : Int)) (A.1, C.1 - 1, lo, hi)) (k0 + 4 * (m : Int) + 4) _)
    rw [show k0 + 4 * ((m + 1 : Nat) : Int) = k0 + 4 * (m : Int) + 4 by omega]
  · rw [oneIf_f h, List.nil_append]
    show (if C.1 ≤ A.1 then _ else _) = _
    rw [if_pos (by omega), s_rests_160 hA hC okC h1 h2 h3 h4 h5 h6 h7 (by omega) h9 (by omega)]
theorem s_rests_92 {a c t : Nat} {i j k0 lo hi : Int} {m : Nat} {σ : zS} {A C : Bx} (hA : bxA σ a i = A) (hC : bxA σ c j = C) (okC : bOk C) (hhi : -10 ≤ hi ∧ hi ≤ 100) (ta : a ≠ t) (tc : c ≠ t) (h1 : 0 ≤ i) (h2 : i + 3 < zLI a) (h3 : zLI a ≤ 100000) (h4 : 0 ≤ j) (h5 : j + 3 < zLI c) (h6 : zLI c ≤ 100000) (h7 : 0 ≤ k0) (h8 : k0 + 4 * (m : Int) + 11 < zLI t) (h9 : zLI t ≤ 100000) (hm : m ≤ 1) : g_m_rests_L92 a c t i j k0 (k0 + 4 * (m : Int)) lo hi σ = some (((m + (oneIf (hi < A.2.2.2) (A.1, A.2.1, hi + 1, A.2.2.2) ++ (oneIf (A.1 < C.1) (A.1, C.1 - 1, lo, hi) ++ oneIf (C.2.1 < A.2.1) (C.2.1 + 1, A.2.1, lo, hi))).length : Nat) : Int), zbs t σ (k0 + 4 * (m : Int)) (oneIf (hi < A.2.2.2) (A.1, A.2.1, hi + 1, A.2.2.2) ++ (oneIf (A.1 < C.1) (A.1, C.1 - 1, lo, hi) ++ oneIf (C.2.1 < A.2.1) (C.2.1 + 1, A.2.1, lo, hi)))) := by
  obtain ⟨a1, a2, a3, a4⟩ := bx1 hA
  unfold g_m_rests_L92
  rw [w32_id (x := i + 1) (by omega) (by omega), w32_id (x := i + 3) (by omega) (by omega), if_pos (by omega), a4]
  by_cases h : hi < A.2.2.2
  · rw [oneIf_t h]
    show (if A.2.2.2 ≤ hi then _ else _) = _
    rw [if_neg (by omega), if_pos (by omega), if_pos (by omega), if_pos (by omega)]
    rw [a1, a2]
    show (g_m_sets t (k0 + 4 * (m : Int)) A.1 A.2.1 (w32 (hi + 1)) A.2.2.2 σ).bind _ = _
    rw [w32_id (x := hi + 1) (by omega) (by omega), s_sets (by omega) (by omega) h9, Option.bind_some, w32_id (x := k0 + 4 * (m : Int) + 4) (by omega) (by omega)]
    show g_m_rests_L129 a c t i j k0 (k0 + 4 * (m : Int) + 4) lo hi (zb σ t (k0 + 4 * (m : Int)) (A.1, A.2.1, hi + 1, A.2.2.2)) = _
    rw [show k0 + 4 * (m : Int) + 4 = k0 + 4 * ((m + 1 : Nat) : Int) by omega, s_rests_129 (A := A) (C := C) (by rw [zb_bxa ta]; exact hA) (by rw [zb_bxa tc]; exact hC) okC ta tc h1 h2 h3 h4 h5 h6 h7 (by omega) h9 (by omega)]
    rw [List.singleton_append, List.length_cons, Nat.add_right_comm, Nat.add_assoc]
    show _ = some (_, zbs t (zb σ t (k0 + 4 * (m : Int)) (A.1, A.2.1, hi + 1, A.2.2.2)) (k0 + 4 * (m : Int) + 4) _)
    rw [show k0 + 4 * ((m + 1 : Nat) : Int) = k0 + 4 * (m : Int) + 4 by omega]
  · rw [oneIf_f h, List.nil_append]
    show (if A.2.2.2 ≤ hi then _ else _) = _
    rw [if_pos (by omega), s_rests_129 hA hC okC ta tc h1 h2 h3 h4 h5 h6 h7 (by omega) h9 (by omega)]
theorem bRest_one {A C : Bx} (h : bMt A C) : bRest A C = oneIf (A.2.2.1 < zmx A.2.2.1 C.2.2.1) (A.1, A.2.1, A.2.2.1, zmx A.2.2.1 C.2.2.1 - 1) ++ (oneIf (zmn A.2.2.2 C.2.2.2 < A.2.2.2) (A.1, A.2.1, zmn A.2.2.2 C.2.2.2 + 1, A.2.2.2) ++ (oneIf (A.1 < C.1) (A.1, C.1 - 1, zmx A.2.2.1 C.2.2.1, zmn A.2.2.2 C.2.2.2) ++ oneIf (C.2.1 < A.2.1) (C.2.1 + 1, A.2.1, zmx A.2.2.1 C.2.2.1, zmn A.2.2.2 C.2.2.2))) := by
  unfold bRest
  rw [if_pos h]
  have e1 : (if A.2.2.1 < C.2.2.1 then [((A.1, A.2.1, A.2.2.1, C.2.2.1 - 1) : Bx)] else []) = oneIf (A.2.2.1 < zmx A.2.2.1 C.2.2.1) (A.1, A.2.1, A.2.2.1, zmx A.2.2.1 C.2.2.1 - 1) := by
    unfold zmx
    by_cases h : A.2.2.1 < C.2.2.1
    · rw [if_pos h, if_pos h, oneIf_t h]
    · rw [if_neg h, if_neg h, oneIf_f (by omega)]
  have e2 : (if C.2.2.2 < A.2.2.2 then [((A.1, A.2.1, C.2.2.2 + 1, A.2.2.2) : Bx)] else []) = oneIf (zmn A.2.2.2 C.2.2.2 < A.2.2.2) (A.1, A.2.1, zmn A.2.2.2 C.2.2.2 + 1, A.2.2.2) := by
    unfold zmn
    by_cases h : C.2.2.2 < A.2.2.2
    · rw [if_pos h, if_neg (by omega), oneIf_t h]
    · rw [if_neg h]
      by_cases h2 : A.2.2.2 < C.2.2.2
      · rw [if_pos h2, oneIf_f (by omega)]
      · rw [if_neg h2, oneIf_f (by omega)]
  rw [e1, e2]
  rfl
theorem s_rests {a c t : Nat} {i j k0 : Int} {σ : zS} (okA : bOk (bxA σ a i)) (okC : bOk (bxA σ c j)) (ta : a ≠ t) (tc : c ≠ t) (h1 : 0 ≤ i) (h2 : i + 3 < zLI a) (h3 : zLI a ≤ 100000) (h4 : 0 ≤ j) (h5 : j + 3 < zLI c) (h6 : zLI c ≤ 100000) (h7 : 0 ≤ k0) (h8 : k0 + 16 ≤ zLI t) (h9 : zLI t ≤ 100000) : g_m_rests a c t i j k0 σ = some (((bRest (bxA σ a i) (bxA σ c j)).length : Int), zbs t σ k0 (bRest (bxA σ a i) (bxA σ c j))) := by
  generalize hA : bxA σ a i = A at okA ⊢
  generalize hC : bxA σ c j = C at okC ⊢
  obtain ⟨a1, a2, a3, a4⟩ := bx1 hA
  obtain ⟨c1, c2, c3, c4⟩ := bx1 hC
  have oA := okA
  have oC := okC
  dsimp only [bOk] at oA oC
  unfold g_m_rests
  rw [s_doMeet h1 h2 h3 h4 h5 h6, Option.bind_some, hA, hC]
  by_cases hm : bMt A C
  · rw [if_pos hm]
    show (if (1 : Int) ≠ 0 then _ else _) = _
    have z1 := @zmx_le A.2.2.1 C.2.2.1
    have z2 := @zmn_le A.2.2.2 C.2.2.2
    rw [if_pos (by decide), w32_id (x := i + 1) (by omega) (by omega), w32_id (x := i + 2) (by omega) (by omega), w32_id (x := i + 3) (by omega) (by omega), w32_id (x := j + 2) (by omega) (by omega), w32_id (x := j + 3) (by omega) (by omega), if_pos (by omega), if_pos (by omega)]
    simp only [s_more, s_less, Option.bind_some, zmx_c]
    rw [a3, c3, if_pos (by omega), if_pos (by omega), a4, c4, if_pos (by omega)]
    generalize hlo : zmx A.2.2.1 C.2.2.1 = lo at z1
    generalize hhi : zmn A.2.2.2 C.2.2.2 = hi at z2
    rw [bRest_one hm, hlo, hhi]
    by_cases h : A.2.2.1 < lo
    · rw [oneIf_t h, if_neg (by omega), if_pos (by omega), if_pos (by omega), if_pos (by omega), a1, a2, w32_id (x := lo - 1) (by omega) (by omega), s_sets (by omega) (by omega) h9, Option.bind_some, w32_id (x := k0 + 4) (by omega) (by omega)]
      show g_m_rests_L92 a c t i j k0 (k0 + 4) lo hi (zb σ t k0 (A.1, A.2.1, A.2.2.1, lo - 1)) = _
      rw [show k0 + 4 = k0 + 4 * ((1 : Nat) : Int) by omega, s_rests_92 (A := A) (C := C) (by rw [zb_bxa ta]; exact hA) (by rw [zb_bxa tc]; exact hC) okC (by omega) ta tc h1 h2 h3 h4 h5 h6 h7 (by omega) h9 (by omega)]
      rw [List.singleton_append, List.length_cons, Nat.add_comm 1]
      rfl
    · rw [oneIf_f h, List.nil_append, if_pos (by omega)]
      have := s_rests_92 (m := 0) (lo := lo) hA hC okC (show -10 ≤ hi ∧ hi ≤ 100 by omega) ta tc h1 h2 h3 h4 h5 h6 h7 (by omega) h9 (by omega)
      rw [show k0 + 4 * ((0 : Nat) : Int) = k0 by omega, Nat.zero_add] at this
      exact this
  · rw [if_neg hm]
    show (if (0 : Int) ≠ 0 then _ else _) = _
    rw [if_neg (by decide), s_copies h1 h2 h3 h7 (by omega) h9, hA, Option.bind_some]
    have e : bRest A C = [A] := by
      unfold bRest
      rw [if_neg hm]
    rw [e]
    rfl
/-- the boxes from the start of an array on -/
def lstA (σ : zS) (a : Nat) (n : Nat) : List Bx := (List.range n).map (fun k : Nat => bxA σ a (4 * (k : Int)))
/-- the boxes of the reference's regions -/
def rbx (σ : zS) (n : Nat) : List Bx := (List.range n).map (fun k : Nat => bxA σ 144 (340 + 10 * (k : Int)))
theorem lstA_get {σ : zS} {a n k : Nat} (h : k < n) : (lstA σ a n)[k]? = some (bxA σ a (4 * (k : Int))) := by
  unfold lstA
  rw [List.getElem?_map, List.getElem?_range h]
  rfl
theorem rbx_get {σ : zS} {n k : Nat} (h : k < n) : (rbx σ n)[k]? = some (bxA σ 144 (340 + 10 * (k : Int))) := by
  unfold rbx
  rw [List.getElem?_map, List.getElem?_range h]
  rfl
theorem lstA_len {σ : zS} {a n : Nat} : (lstA σ a n).length = n := by unfold lstA; rw [List.length_map, List.length_range]
theorem rbx_len {σ : zS} {n : Nat} : (rbx σ n).length = n := by unfold rbx; rw [List.length_map, List.length_range]
theorem lstA_ext {σ : zS} {a : Nat} {l : List Bx} (h : ∀ (k : Nat) (hk : k < l.length), bxA σ a (4 * (k : Int)) = l[k]) : lstA σ a l.length = l := by
  apply List.ext_getElem?
  intro k
  by_cases hk : k < l.length
  · rw [lstA_get hk, h k hk, List.getElem?_eq_getElem hk]
  · rw [List.getElem?_eq_none (by rw [lstA_len]; omega), List.getElem?_eq_none (by omega)]
end
section
/-! 33.ref3 -/
/-! THE REFERENCE over the typed memory: misses() -/
def cp150 (σ : zS) (j : Int) : zS := fun a b => if a = 150 ∧ 0 ≤ b ∧ b < j then σ 151 b else σ a b
theorem s_mis78 {g : Int → zS → Option (Unit × zS)} {i : Int} {T : Nat} {σ : zS} (hT : T ≤ 300) : ∀ (d n j : Nat), j + d = 4 * T → d < n → g_m_misses_L78 g n i (T : Int) (j : Int) (cp150 σ (j : Int)) = g (w32 (i + 1)) (zu (cp150 σ (4 * (T : Int))) 143 10 (T : Int))
  | _, 0, _, _, h => absurd h (Nat.not_lt_zero _)
  | 0, n + 1, j, h1, _ => by
    unfold g_m_misses_L78
    rw [w32_id (x := 4 * (T : Int)) (by omega) (by omega), if_pos (by omega)]
    rw [show (j : Int) = 4 * (T : Int) by omega]
  | d + 1, n + 1, j, h1, h2 => by
    unfold g_m_misses_L78
    rw [w32_id (x := 4 * (T : Int)) (by omega) (by omega), if_neg (by omega), if_pos (by omega), if_pos (by omega), w32_id (x := (j : Int) + 1) (by omega) (by omega)]
    have ih := s_mis78 (g := g) (i := i) (σ := σ) hT d n (j + 1) (by omega) (by omega)
    rw [show ((j + 1 : Nat) : Int) = (j : Int) + 1 by omega] at ih
    rw [← ih]
    show g_m_misses_L78 g n i (T : Int) ((j : Int) + 1) (zu (cp150 σ (j : Int)) 150 (j : Int) (cp150 σ (j : Int) 151 (j : Int))) = _
    congr 1
    funext a b
    unfold zu cp150
    by_cases ha : a = 150
    · subst ha
      by_cases hb : b = (j : Int)
      · subst hb
        rw [if_pos ⟨rfl, rfl⟩, if_neg (fun e => by omega), if_pos ⟨rfl, by omega, by omega⟩]
      · rw [if_neg (fun e => hb e.2)]
        by_cases hc : 0 ≤ b ∧ b < (j : Int)
        · rw [if_pos ⟨rfl, hc⟩, if_pos ⟨rfl, by omega, by omega⟩]
        · rw [if_neg (fun e => hc e.2), if_neg (fun e => hc ⟨e.2.1, by omega⟩)]
    · rw [if_neg (fun e => ha e.1), if_neg (fun e => ha e.1), if_neg (fun e => ha e.1)]
theorem s_mis34 {g : Int → zS → Option (Unit × zS)} {i : Nat} {σ : zS} {P : List Bx} {R : Bx} (hi : i ≤ 239) (hR : bxA σ 144 (340 + 10 * (i : Int)) = R) (okR : bOk R) (hM : σ 143 10 = (P.length : Int)) (hP : lstA σ 150 P.length = P) (okP : ∀ p ∈ P, bOk p) (hlP : P.length ≤ 300) (hlT : (bMiss P R).length ≤ 300) : ∀ (suf pre : List Bx) (n : Nat), P = pre ++ suf → suf.length < n → g_m_misses_L34 g n (i : Int) ((bMiss pre R).length : Int) (pre.length : Int) (zbs 151 σ 0 (bMiss pre R)) = g_m_misses_L78 g zK (i : Int) ((bMiss P R).length : Int) 0 (zbs 151 σ 0 (bMiss P R))
  | _, _, 0, _, h => absurd h (Nat.not_lt_zero _)
  | [], pre, n + 1, h, _ => by
    rw [List.append_nil] at h
    subst h
    unfold g_m_misses_L34
    show (if zbs 151 σ 0 (bMiss P R) 143 10 ≤ (P.length : Int) then _ else _) = _
    rw [zbs_fr _ _ _ _ _ (Or.inl (by decide)), hM, if_pos (by omega)]
  | p :: suf, pre, n + 1, h, hn => by
    have hlen : P.length = pre.length + (suf.length + 1) := by rw [h, List.length_append, List.length_cons]
    have hp : bxA σ 150 (4 * (pre.length : Int)) = p := by
      have e1 := lstA_get (σ := σ) (a := 150) (n := P.length) (k := pre.length) (by omega)
      rw [hP] at e1
      have e2 : P[pre.length]? = some p := by rw [h, List.getElem?_append_right (Nat.le_refl _), Nat.sub_self]; rfl
      rw [e2] at e1
      exact (Option.some.inj e1).symm
    have okp : bOk p := okP p (by rw [h]; exact List.mem_append_right _ List.mem_cons_self)
    have hb : bMiss (pre ++ [p]) R = bMiss pre R ++ bRest p R := by
      unfold bMiss
      rw [List.flatMap_append, List.flatMap_cons, List.flatMap_nil, List.append_nil]
    have hle : (bMiss pre R).length + (bRest p R).length + (bMiss suf R).length = (bMiss P R).length := by
      rw [h]
      unfold bMiss
      rw [List.flatMap_append, List.flatMap_cons, List.length_append, List.length_append]
      omega
    unfold g_m_misses_L34
    show (if zbs 151 σ 0 (bMiss pre R) 143 10 ≤ (pre.length : Int) then _ else _) = _
    rw [zbs_fr _ _ _ _ _ (Or.inl (by decide)), hM, if_neg (by omega), s_region (by omega) (by omega), Option.bind_some, w32_id (x := 4 * (pre.length : Int)) (by omega) (by omega), w32_id (x := 4 * ((bMiss pre R).length : Int)) (by omega) (by omega)]
    have b1 : bxA (zbs 151 σ 0 (bMiss pre R)) 150 (4 * (pre.length : Int)) = p := by rw [zbs_bx (Or.inl (by decide))]; exact hp
    have b2 : bxA (zbs 151 σ 0 (bMiss pre R)) 144 (340 + 10 * (i : Int)) = R := by rw [zbs_bx (Or.inl (by decide))]; exact hR
    have l150 : zLI 150 = 2400 := rfl
    have l151 : zLI 151 = 2400 := rfl
    have l144 : zLI 144 = 2740 := rfl
    show (g_m_rests 150 144 151 (4 * (pre.length : Int)) (340 + 10 * (i : Int)) (4 * ((bMiss pre R).length : Int)) (zbs 151 σ 0 (bMiss pre R))).bind _ = _
    rw [s_rests (by rw [b1]; exact okp) (by rw [b2]; exact okR) (by decide) (by decide) (by omega) (by omega) (by omega) (by omega) (by omega) (by omega) (by omega) (by omega) (by omega), Option.bind_some, b1, b2]
    rw [w32_id (x := (pre.length : Int) + 1) (by omega) (by omega)]
    show g_m_misses_L34 g n (i : Int) (w32 (((bMiss pre R).length : Int) + ((bRest p R).length : Int))) ((pre.length : Int) + 1) (zbs 151 (zbs 151 σ 0 (bMiss pre R)) (4 * ((bMiss pre R).length : Int)) (bRest p R)) = _
    rw [w32_id (x := ((bMiss pre R).length : Int) + ((bRest p R).length : Int)) (by omega) (by omega)]
    have ih := s_mis34 (g := g) hi hR okR hM hP okP hlP hlT suf (pre ++ [p]) n (by rw [h, List.append_assoc]; rfl) (by rw [List.length_cons] at hn; omega)
    rw [hb, List.length_append, List.length_append, List.length_singleton, zbs_app, Int.zero_add, show (((bMiss pre R).length + (bRest p R).length : Nat) : Int) = ((bMiss pre R).length : Int) + ((bRest p R).length : Int) by omega, show ((pre.length + 1 : Nat) : Int) = (pre.length : Int) + 1 by omega] at ih
    exact ih
/-- all but what misses() writes -/
def frM (σ s : zS) : Prop := ∀ a j, a ≠ 150 → a ≠ 151 → (a ≠ 143 ∨ j ≠ 10) → s a j = σ a j
theorem frM_bx {σ s : zS} (h : frM σ s) {a : Nat} {i : Int} (h1 : a ≠ 150) (h2 : a ≠ 151) (h3 : a ≠ 143) : bxA s a i = bxA σ a i := by
  unfold bxA
  rw [h a _ h1 h2 (Or.inl h3), h a _ h1 h2 (Or.inl h3), h a _ h1 h2 (Or.inl h3), h a _ h1 h2 (Or.inl h3)]
theorem bMissAll_app (q : Bx) (rs : List Bx) (r : Bx) : bMissAll q (rs ++ [r]) = bMiss (bMissAll q rs) r := by
  unfold bMissAll
  rw [List.foldl_append]
  rfl
theorem bMissAll_pre {q : Bx} (hq : bOk q) {rs : List Bx} (h1 : ∀ r ∈ rs, bOk r) (h2 : rs.Pairwise (fun a b => ¬ bMt a b)) (h3 : rs.length ≤ 12) {pre suf : List Bx} (h : rs = pre ++ suf) : bInv q pre (bMissAll q pre) ∧ (bMissAll q pre).length ≤ 169 := by
  have k1 : ∀ r ∈ pre, bOk r := fun r hr => h1 r (by rw [h]; exact List.mem_append_left _ hr)
  have k2 : pre.Pairwise (fun a b => ¬ bMt a b) := by rw [h] at h2; exact (List.pairwise_append.mp h2).1
  have k3 : pre.length ≤ 12 := by rw [h, List.length_append] at h3; omega
  exact ⟨(bMissAll_inv hq pre k1 k2).1, bMissAll_169 hq k1 k2 k3⟩
theorem s_mis20 {q : Bx} {rs : List Bx} {σ : zS} (hq : bOk q) (h1 : ∀ r ∈ rs, bOk r) (h2 : rs.Pairwise (fun a b => ¬ bMt a b)) (h3 : rs.length ≤ 12) (hN : σ 144 0 = (rs.length : Int)) (hr : rbx σ rs.length = rs) : ∀ (suf pre : List Bx) (n : Nat) (s : zS), rs = pre ++ suf → suf.length < n → frM σ s → s 143 10 = ((bMissAll q pre).length : Int) → lstA s 150 (bMissAll q pre).length = bMissAll q pre → ∃ s', g_m_misses_L20 n (pre.length : Int) s = some ((), s') ∧ frM σ s' ∧ s' 143 10 = ((bMissAll q rs).length : Int) ∧ lstA s' 150 (bMissAll q rs).length = bMissAll q rs
  | _, _, 0, _, _, h, _, _, _ => absurd h (Nat.not_lt_zero _)
  | [], pre, n + 1, s, h, _, hf, hm, hl => by
    rw [List.append_nil] at h
    subst h
    refine ⟨s, ?_, hf, hm, hl⟩
    unfold g_m_misses_L20
    show (if s 144 0 ≤ (rs.length : Int) then _ else _) = _
    rw [hf 144 0 (by decide) (by decide) (Or.inl (by decide)), hN, if_pos (by omega)]
  | r :: suf, pre, n + 1, s, h, hn, hf, hm, hl => by
    have hlen : rs.length = pre.length + (suf.length + 1) := by rw [h, List.length_append, List.length_cons]
    have h' : rs = (pre ++ [r]) ++ suf := by rw [h, List.append_assoc]; rfl
    obtain ⟨i1, i2⟩ := bMissAll_pre hq h1 h2 h3 h
    obtain ⟨i3, i4⟩ := bMissAll_pre hq h1 h2 h3 h'
    rw [bMissAll_app] at i3 i4
    have hR : bxA s 144 (340 + 10 * (pre.length : Int)) = r := by
      rw [frM_bx hf (by decide) (by decide) (by decide)]
      have e1 := rbx_get (σ := σ) (n := rs.length) (k := pre.length) (by omega)
      rw [hr] at e1
      have e2 : rs[pre.length]? = some r := by rw [h, List.getElem?_append_right (Nat.le_refl _), Nat.sub_self]; rfl
      rw [e2] at e1
      exact (Option.some.inj e1).symm
    have okr : bOk r := h1 r (by rw [h]; exact List.mem_append_right _ List.mem_cons_self)
    have e34 := s_mis34 (g := g_m_misses_L20 n) (i := pre.length) (σ := s) (P := bMissAll q pre) (R := r) (by omega) hR okr hm hl (fun p hp => (i1.1 p hp).1) (by omega) (by omega) (bMissAll q pre) [] zK rfl (by show _ < 1000000; omega)
    have e78 := s_mis78 (g := g_m_misses_L20 n) (i := (pre.length : Int)) (T := (bMiss (bMissAll q pre) r).length) (σ := zbs 151 s 0 (bMiss (bMissAll q pre) r)) (by omega) (4 * (bMiss (bMissAll q pre) r).length) zK 0 (by omega) (by show _ < 1000000; omega)
    unfold g_m_misses_L20
    show ∃ s', (if s 144 0 ≤ (pre.length : Int) then _ else g_m_misses_L34 (g_m_misses_L20 n) zK (pre.length : Int) 0 0 s) = _ ∧ _
    rw [hf 144 0 (by decide) (by decide) (Or.inl (by decide)), hN, if_neg (by omega)]
    have e0 : g_m_misses_L34 (g_m_misses_L20 n) zK (pre.length : Int) 0 0 s = g_m_misses_L20 n (w32 ((pre.length : Int) + 1)) (zu (cp150 (zbs 151 s 0 (bMiss (bMissAll q pre) r)) (4 * ((bMiss (bMissAll q pre) r).length : Int))) 143 10 ((bMiss (bMissAll q pre) r).length : Int)) := by
      have ec : zbs 151 s 0 (bMiss (bMissAll q pre) r) = cp150 (zbs 151 s 0 (bMiss (bMissAll q pre) r)) ((0 : Nat) : Int) := by
        funext a b
        unfold cp150
        rw [if_neg (fun e => by omega)]
      exact Eq.trans e34 (Eq.trans (congrArg (g_m_misses_L78 (g_m_misses_L20 n) zK (pre.length : Int) ((bMiss (bMissAll q pre) r).length : Int) ((0 : Nat) : Int)) ec) e78)
    rw [e0, w32_id (x := (pre.length : Int) + 1) (by omega) (by omega)]
    generalize hs2 : zu (cp150 (zbs 151 s 0 (bMiss (bMissAll q pre) r)) (4 * ((bMiss (bMissAll q pre) r).length : Int))) 143 10 ((bMiss (bMissAll q pre) r).length : Int) = s2
    have ih := s_mis20 hq h1 h2 h3 hN hr suf (pre ++ [r]) n s2 h' (by rw [List.length_cons] at hn; omega) ?_ ?_ ?_
    · rw [List.length_append, List.length_singleton, show ((pre.length + 1 : Nat) : Int) = (pre.length : Int) + 1 by omega] at ih
      exact ih
    · intro a j ha hb hc
      rw [← hs2, zu_c (by omega)]
      unfold cp150
      rw [if_neg (fun e => ha e.1), zbs_fr _ _ _ _ _ (Or.inl hb)]
      exact hf a j ha hb hc
    · rw [← hs2, zu_e rfl, bMissAll_app]
    · rw [bMissAll_app]
      refine lstA_ext (fun k hk => ?_)
      rw [← hs2, zu_bxa (by decide)]
      have e1 : bxA (cp150 (zbs 151 s 0 (bMiss (bMissAll q pre) r)) (4 * ((bMiss (bMissAll q pre) r).length : Int))) 150 (4 * (k : Int)) = bxA (zbs 151 s 0 (bMiss (bMissAll q pre) r)) 151 (0 + 4 * (k : Int)) := by
        unfold bxA cp150
        rw [if_pos ⟨rfl, by omega, by omega⟩, if_pos ⟨rfl, by omega, by omega⟩, if_pos ⟨rfl, by omega, by omega⟩, if_pos ⟨rfl, by omega, by omega⟩, Int.zero_add]
      rw [e1]
      exact zbs_get _ _ _ k hk
theorem s_misses {σ : zS} {q : Bx} {rs : List Bx} (hq : bOk q) (hbox : bxA σ 152 0 = q) (h1 : ∀ r ∈ rs, bOk r) (h2 : rs.Pairwise (fun a b => ¬ bMt a b)) (h3 : rs.length ≤ 12) (hN : σ 144 0 = (rs.length : Int)) (hr : rbx σ rs.length = rs) : ∃ s', g_m_misses σ = some ((), s') ∧ frM σ s' ∧ s' 143 10 = ((bMissAll q rs).length : Int) ∧ lstA s' 150 (bMissAll q rs).length = bMissAll q rs := by
  have l150 : zLI 150 = 2400 := rfl
  have l152 : zLI 152 = 4 := rfl
  unfold g_m_misses
  rw [s_copies (by omega) (by omega) (by omega) (by omega) (by omega) (by omega), Option.bind_some, hbox]
  refine s_mis20 hq h1 h2 h3 hN hr rs [] zK (zu (zb σ 150 0 q) 143 10 1) rfl (by show _ < 1000000; omega) ?_ ?_ ?_
  · intro a j ha hb hc
    rw [zu_c (by omega), zb_a ha]
  · rw [zu_e rfl]; rfl
  · show lstA _ 150 ([q] : List Bx).length = [q]
    refine lstA_ext (fun k hk => ?_)
    have hk0 : k = 0 := by
      have : k < 1 := hk
      omega
    subst hk0
    rw [zu_bxa (by decide)]
    exact zb_bx rfl
end
section
/-! 34.ref4 -/
/-! THE REFERENCE over the typed memory: rows of a box, weights, a region more, a region less -/
def rowsC (σ : zS) (b : Bx) : Nat → Int
  | 0 => 0
  | n + 1 => rowsC σ b n + (if σ 144 (20 + 3 * (n : Int)) = 1 ∧ bIn b (σ 144 (21 + 3 * (n : Int))) (σ 144 (22 + 3 * (n : Int))) then 1 else 0)
def rowsN (σ : zS) (b : Bx) : Int := rowsC σ b 60
theorem rowsC_bd (σ : zS) (b : Bx) : ∀ n : Nat, 0 ≤ rowsC σ b n ∧ rowsC σ b n ≤ n
  | 0 => ⟨Int.le_refl _, Int.le_refl _⟩
  | n + 1 => by
    have ih := rowsC_bd σ b n
    show 0 ≤ rowsC σ b n + _ ∧ rowsC σ b n + _ ≤ ((n + 1 : Nat) : Int)
    split <;> omega
theorem rowsN_bd (σ : zS) (b : Bx) : 0 ≤ rowsN σ b ∧ rowsN σ b ≤ 60 := rowsC_bd σ b 60
theorem rowsC_fr {σ s : zS} (h : ∀ j : Int, 20 ≤ j → j < 200 → s 144 j = σ 144 j) (b : Bx) : ∀ n : Nat, n ≤ 60 → rowsC s b n = rowsC σ b n
  | 0, _ => rfl
  | n + 1, hn => by
    show rowsC s b n + _ = rowsC σ b n + _
    rw [rowsC_fr h b n (by omega), h _ (by omega) (by omega), h _ (by omega) (by omega), h _ (by omega) (by omega)]
theorem rowsN_fr {σ s : zS} (h : ∀ j : Int, 20 ≤ j → j < 200 → s 144 j = σ 144 j) (b : Bx) : rowsN s b = rowsN σ b := rowsC_fr h b 60 (Nat.le_refl _)
theorem s_rowsIn5 {a : Nat} {i : Int} {σ : zS} {b : Bx} {R : Int} (hR : R = rowsC σ b 60) (hb : bxA σ a i = b) (h1 : 0 ≤ i) (h2 : i + 3 < zLI a) (h3 : zLI a ≤ 100000) : ∀ (d k n : Nat), k + d = 60 → d < n → g_m_rowsIn_L5 a n i (rowsC σ b k) (k : Int) σ = some (R, σ) := by
  intro d
  induction d with
  | zero =>
    intro k n hk hn
    obtain ⟨n, rfl⟩ : ∃ t, n = t + 1 := ⟨n - 1, by omega⟩
    have e : k = 60 := by omega
    unfold g_m_rowsIn_L5
    rw [if_pos (by omega), e, hR]
  | succ d IH =>
    intro k n hk hn
    obtain ⟨n, rfl⟩ : ∃ t, n = t + 1 := ⟨n - 1, by omega⟩
    have ih := IH (k + 1) n (by omega) (by omega)
    have bd := rowsC_bd σ b k
    have ek : ((k + 1 : Nat) : Int) = (k : Int) + 1 := by omega
    have ew : w32 ((k : Int) + 1) = (k : Int) + 1 := w32_id (by omega) (by omega)
    have e0 : w32 (rowsC σ b k + 0) = rowsC σ b k + 0 := w32_id (by omega) (by omega)
    have e1 : w32 (rowsC σ b k + 1) = rowsC σ b k + 1 := w32_id (by omega) (by omega)
    have ex : rowsC σ b (k + 1) = rowsC σ b k + (if σ 144 (20 + 3 * (k : Int)) = 1 ∧ bIn b (σ 144 (21 + 3 * (k : Int))) (σ 144 (22 + 3 * (k : Int))) then 1 else 0) := rfl
    rw [ek, ex] at ih
    clear ex
    unfold g_m_rowsIn_L5
    have hA : w32 (20 + 3 * (k : Int) + 1) = 20 + 3 * (k : Int) + 1 := w32_id (by omega) (by omega)
    have hB : w32 (20 + 3 * (k : Int) + 2) = 20 + 3 * (k : Int) + 2 := w32_id (by omega) (by omega)
    have hC : 0 ≤ 20 + 3 * (k : Int) + 1 ∧ 20 + 3 * (k : Int) + 1 < 2740 := by omega
    have hD : 0 ≤ 20 + 3 * (k : Int) + 2 ∧ 20 + 3 * (k : Int) + 2 < 2740 := by omega
    have hE : g_m_rowAt (k : Int) σ = some (20 + 3 * (k : Int), σ) := s_rowAt (by omega) (by omega)
    have hF : 20 + 3 * (k : Int) + 1 = 21 + 3 * (k : Int) := by omega
    have hG : 20 + 3 * (k : Int) + 2 = 22 + 3 * (k : Int) := by omega
    have hH : 0 ≤ 20 + 3 * (k : Int) ∧ 20 + 3 * (k : Int) < 2740 := by omega
    rw [if_neg (by omega), hE, Option.bind_some, if_pos hH]
    dsimp only
    by_cases c : σ 144 (20 + 3 * (k : Int)) = 1
    · rw [if_neg (fun e => e c), hE, Option.bind_some]
      dsimp only
      rw [hA, if_pos hC, hE, Option.bind_some]
      dsimp only
      rw [hB, if_pos hD, s_has h1 h2 h3, Option.bind_some, hb, hF, hG]
      by_cases c2 : bIn b (σ 144 (21 + 3 * (k : Int))) (σ 144 (22 + 3 * (k : Int)))
      · rw [if_pos ⟨c, c2⟩] at ih
        rw [if_pos c2, if_neg (show ¬ ((1 : Int) = 0) by decide)]
        unfold g_m_rowsIn_L64
        rw [e1, ew]
        exact ih
      · rw [if_neg (fun e => c2 e.2)] at ih
        rw [if_neg c2, if_pos (show (0 : Int) = 0 from rfl)]
        unfold g_m_rowsIn_L63 g_m_rowsIn_L64
        rw [e0, ew]
        exact ih
    · rw [if_neg (fun e => c e.1)] at ih
      rw [if_pos c]
      unfold g_m_rowsIn_L63 g_m_rowsIn_L64
      rw [e0, ew]
      exact ih
theorem s_rowsIn {a : Nat} {i : Int} {σ : zS} (h1 : 0 ≤ i) (h2 : i + 3 < zLI a) (h3 : zLI a ≤ 100000) : g_m_rowsIn a i σ = some (rowsN σ (bxA σ a i), σ) := s_rowsIn5 rfl rfl h1 h2 h3 60 0 zK rfl (by show 60 < 1000000; omega)
theorem l144 : zLI 144 = 2740 := rfl
theorem l147 : zLI 147 = 361 := rfl
theorem s_size {k : Int} {σ : zS} (h1 : 0 ≤ k) (h2 : k ≤ 239) : g_m_size k σ = some (1 + rowsN σ (bxA σ 144 (340 + 10 * k)), σ) := by
  have l := l144
  have bd := rowsN_bd σ (bxA σ 144 (340 + 10 * k))
  unfold g_m_size
  rw [s_region (by omega) (by omega), Option.bind_some]
  show (g_m_rowsIn 144 (340 + 10 * k) σ).bind _ = _
  rw [s_rowsIn (by omega) (by omega) (by omega), Option.bind_some]
  show some (w32 (1 + rowsN σ (bxA σ 144 (340 + 10 * k))), σ) = _
  rw [w32_id (by omega) (by omega)]
def costN (σ : zS) (b : Bx) : Int := w32 (σ 144 11 + rowsN σ b)
theorem s_cost {a : Nat} {i : Int} {σ : zS} (h1 : 0 ≤ i) (h2 : i + 3 < zLI a) (h3 : zLI a ≤ 100000) : g_m_cost a i σ = some (costN σ (bxA σ a i), σ) := by
  unfold g_m_cost
  rw [s_rowsIn h1 h2 h3]
  rfl
def wgt (lev cost hits size : Int) : Int := w64 (lev + (w64 (Int.tdiv (w64 ((w64 (1000 * cost)) * (w32 (1 + hits)))) size)))
theorem s_weighs {k : Int} {σ : zS} (h1 : 0 ≤ k) (h2 : k ≤ 239) : g_m_weighs k σ = some ((), zu σ 147 (121 + k) (wgt (σ 147 0) (costN σ (bxA σ 144 (340 + 10 * k))) (σ 144 (349 + 10 * k)) (1 + rowsN σ (bxA σ 144 (340 + 10 * k))))) := by
  have l := l144
  have bd := rowsN_bd σ (bxA σ 144 (340 + 10 * k))
  unfold g_m_weighs
  rw [s_region (by omega) (by omega)]
  simp only [Option.bind_some]
  rw [s_cost (by omega) (by omega) (by omega)]
  simp only [Option.bind_some]
  rw [s_region (by omega) (by omega)]
  simp only [Option.bind_some]
  rw [w32_id (x := 340 + 10 * k + 9) (by omega) (by omega), if_pos (by omega), s_size h1 h2]
  simp only [Option.bind_some]
  rw [if_neg (by omega), w32_id (x := 121 + k) (by omega) (by omega), if_pos (by omega), show 340 + 10 * k + 9 = 349 + 10 * k by omega]
  rfl
/-- a region more -/
def addsS (σ : zS) (k : Int) (b : Bx) : zS := zu (zu (zu (zu (zb (zb σ 144 (340 + 10 * k) b) 144 (344 + 10 * k) (-5, -5, -5, -5)) 144 (348 + 10 * k) (σ 144 1)) 144 (349 + 10 * k) 0) 144 1 (w32 (σ 144 1 + 1))) 144 0 (w32 (k + 1))
theorem s_adds {a : Nat} {i k : Int} {σ : zS} (hN : σ 144 0 = k) (hk : 0 ≤ k) (hk2 : k ≤ 239) (h1 : 0 ≤ i) (h2 : i + 3 < zLI a) (h3 : zLI a ≤ 100000) : g_m_adds a i σ = some (k, addsS σ k (bxA σ a i)) := by
  have l := l144
  unfold g_m_adds
  simp only [hN]
  rw [s_region (by omega) (by omega)]
  simp only [Option.bind_some]
  rw [s_copies h1 h2 h3 (by omega) (by omega) (by omega)]
  simp only [Option.bind_some]
  rw [s_region (by omega) (by omega)]
  simp only [Option.bind_some]
  rw [w32_id (x := 340 + 10 * k + 4) (by omega) (by omega), s_sets (by omega) (by omega) (by omega)]
  simp only [Option.bind_some]
  rw [s_region (by omega) (by omega)]
  simp only [Option.bind_some]
  rw [w32_id (x := 340 + 10 * k + 8) (by omega) (by omega), if_pos (by omega), s_region (by omega) (by omega)]
  simp only [Option.bind_some]
  rw [w32_id (x := 340 + 10 * k + 9) (by omega) (by omega), if_pos (by omega)]
  have e1 : zb (zb σ 144 (340 + 10 * k) (bxA σ a i)) 144 (340 + 10 * k + 4) (-5, -5, -5, -5) 144 1 = σ 144 1 := by rw [zb_i (by omega), zb_i (by omega)]
  rw [e1, zu_i (by omega), zu_i (by omega), e1, zu_i (by omega), zu_i (by omega), zu_i (by omega)]
  have e2 : zb (zb σ 144 (340 + 10 * k) (bxA σ a i)) 144 (340 + 10 * k + 4) (-5, -5, -5, -5) 144 0 = k := by rw [zb_i (by omega), zb_i (by omega), hN]
  rw [e2]
  unfold addsS
  rw [show 340 + 10 * k + 4 = 344 + 10 * k by omega, show 340 + 10 * k + 8 = 348 + 10 * k by omega, show 340 + 10 * k + 9 = 349 + 10 * k by omega]
/-- the regions from i on come one place forward, up to the k-th; of the k-th, e places -/
def gS2 (σ : zS) (i k e : Int) : zS := fun a j => if a = 144 ∧ 340 + 10 * i ≤ j ∧ j < 330 + 10 * k + e then σ 144 (j + 10) else if a = 147 ∧ 121 + i ≤ j ∧ j < 120 + k then σ 147 (j + 1) else σ a j
theorem gS2_step {σ : zS} {i k e : Int} (h1 : i + 1 ≤ k) (he : 0 ≤ e) (he2 : e < 10) : zu (gS2 σ i k e) 144 (330 + 10 * k + e) (gS2 σ i k e 144 (340 + 10 * k + e)) = gS2 σ i k (e + 1) := by
  funext a j
  unfold zu gS2
  by_cases ha : a = 144
  · subst ha
    by_cases hj : j = 330 + 10 * k + e
    · rw [if_pos ⟨rfl, hj⟩, if_neg (fun e => by omega), if_neg (fun e => by omega), if_pos ⟨rfl, by omega, by omega⟩]
      congr 1
      omega
    · rw [if_neg (fun e => hj e.2)]
      by_cases hc : 340 + 10 * i ≤ j ∧ j < 330 + 10 * k + e
      · rw [if_pos ⟨rfl, hc⟩, if_pos ⟨rfl, by omega, by omega⟩]
      · rw [if_neg (fun e => hc e.2), if_neg (fun e => absurd e.1 (by decide)), if_neg (fun e => hc ⟨e.2.1, by omega⟩)]
  · rw [if_neg (fun e => ha e.1), if_neg (fun e => ha e.1)]
    by_cases h7 : a = 147 ∧ 121 + i ≤ j ∧ j < 120 + k
    · rw [if_pos h7, if_neg (fun e => ha e.1)]
    · rw [if_neg h7, if_neg (fun e => ha e.1)]
theorem gS2_w {σ : zS} {i k : Int} (h1 : i + 1 ≤ k) : zu (gS2 σ i k 10) 147 (120 + k) (gS2 σ i k 10 147 (121 + k)) = gS2 σ i (k + 1) 0 := by
  funext a j
  unfold zu gS2
  by_cases ha : a = 147
  · subst ha
    by_cases hj : j = 120 + k
    · rw [if_pos ⟨rfl, hj⟩, if_neg (fun e => by omega), if_neg (fun e => by omega), if_neg (fun e => by omega), if_pos ⟨rfl, by omega, by omega⟩]
      congr 1
      omega
    · rw [if_neg (fun e => hj e.2), if_neg (fun e => absurd e.1 (by decide))]
      by_cases hc : 121 + i ≤ j ∧ j < 120 + k
      · rw [if_pos ⟨rfl, hc⟩, if_neg (fun e => absurd e.1 (by decide)), if_pos ⟨rfl, by omega, by omega⟩]
      · rw [if_neg (fun e => hc e.2), if_neg (fun e => absurd e.1 (by decide)), if_neg (fun e => hc ⟨e.2.1, by omega⟩)]
  · rw [if_neg (fun e => ha e.1)]
    by_cases h4 : a = 144
    · subst h4
      by_cases hc : 340 + 10 * i ≤ j ∧ j < 330 + 10 * k + 10
      · rw [if_pos ⟨rfl, hc⟩, if_pos ⟨rfl, by omega, by omega⟩]
      · rw [if_neg (fun e => hc e.2), if_neg (fun e => ha e.1), if_neg (fun e => hc ⟨e.2.1, by omega⟩), if_neg (fun e => ha e.1)]
    · rw [if_neg (fun e => h4 e.1), if_neg (fun e => ha e.1), if_neg (fun e => h4 e.1), if_neg (fun e => ha e.1)]
theorem s_goes16 {g : Int → zS → Option (Unit × zS)} {σ : zS} {i k : Int} (hi : 0 ≤ i) (h1 : i + 1 ≤ k) (hk : k ≤ 239) : ∀ (d e n : Nat), e + d = 10 → d < n → g_m_goes_L16 g n k (e : Int) (gS2 σ i k (e : Int)) = g (k + 1) (gS2 σ i (k + 1) 0)
  | _, _, 0, _, h => absurd h (Nat.not_lt_zero _)
  | 0, e, n + 1, he, _ => by
    have : e = 10 := by omega
    subst this
    unfold g_m_goes_L16
    rw [if_pos (by omega), w32_id (x := 121 + k) (by omega) (by omega), w32_id (x := 121 + k - 1) (by omega) (by omega), if_pos (by omega), if_pos (by omega), w32_id (x := k + 1) (by omega) (by omega)]
    show g (k + 1) (zu (gS2 σ i k 10) 147 (121 + k - 1) (gS2 σ i k 10 147 (121 + k))) = _
    rw [show 121 + k - 1 = 120 + k by omega, gS2_w h1]
  | d + 1, e, n + 1, he, hn => by
    have ih := s_goes16 (g := g) (σ := σ) hi h1 hk d (e + 1) n (by omega) (by omega)
    unfold g_m_goes_L16
    rw [if_neg (by omega), w32_id (x := k - 1) (by omega) (by omega), s_region (by omega) (by omega)]
    simp only [Option.bind_some]
    rw [s_region (by omega) (by omega)]
    simp only [Option.bind_some]
    rw [w32_id (x := 340 + 10 * k + (e : Int)) (by omega) (by omega), w32_id (x := 340 + 10 * (k - 1) + (e : Int)) (by omega) (by omega), if_pos (by omega), if_pos (by omega), w32_id (x := (e : Int) + 1) (by omega) (by omega), show 340 + 10 * (k - 1) + (e : Int) = 330 + 10 * k + (e : Int) by omega, gS2_step h1 (by omega) (by omega)]
    exact ih
theorem s_goes4 {σ : zS} {i : Int} {N : Nat} (hi : 0 ≤ i) (hN : σ 144 0 = (N : Int)) (hN2 : N ≤ 239) : ∀ (d k n : Nat), k + d = N → i + 1 ≤ (k : Int) → d < n → g_m_goes_L4 n (k : Int) (gS2 σ i (k : Int) 0) = some ((), zu (gS2 σ i (N : Int) 0) 144 0 ((N : Int) - 1))
  | _, _, 0, _, _, h => absurd h (Nat.not_lt_zero _)
  | d, k, n + 1, hk, hik, hn => by
    have e0 : gS2 σ i (k : Int) 0 144 0 = (N : Int) := by
      unfold gS2
      rw [if_neg (fun e => by omega), if_neg (fun e => by omega), hN]
    unfold g_m_goes_L4
    simp only [e0]
    cases d with
    | zero =>
      have : k = N := by omega
      subst this
      rw [if_pos (Int.le_refl _), w32_id (x := (k : Int) - 1) (by omega) (by omega)]
    | succ d =>
      rw [if_neg (by omega)]
      have e := s_goes16 (g := g_m_goes_L4 n) (σ := σ) hi hik (by omega) 10 0 zK rfl (by show 10 < 1000000; omega)
      have ih := s_goes4 hi hN hN2 d (k + 1) n (by omega) (by omega) (by omega)
      rw [show ((k + 1 : Nat) : Int) = (k : Int) + 1 by omega] at ih
      exact e.trans ih
theorem s_goes {σ : zS} {i N : Nat} (hi : i < N) (hN : σ 144 0 = (N : Int)) (hN2 : N ≤ 239) : g_m_goes (i : Int) σ = some ((), zu (gS2 σ (i : Int) (N : Int) 0) 144 0 ((N : Int) - 1)) := by
  unfold g_m_goes
  rw [w32_id (x := (i : Int) + 1) (by omega) (by omega)]
  have e0 : gS2 σ (i : Int) ((i + 1 : Nat) : Int) 0 = σ := by
    funext a j
    unfold gS2
    rw [if_neg (fun e => by omega), if_neg (fun e => by omega)]
  have := s_goes4 (σ := σ) (i := (i : Int)) (by omega) hN hN2 (N - (i + 1)) (i + 1) zK (by omega) (by omega) (by show _ < 1000000; omega)
  rw [e0, show ((i + 1 : Nat) : Int) = (i : Int) + 1 by omega] at this
  exact this
/-- a region: its box, its HOT, its number, its hits, its weight -/
abbrev Rg : Type := Bx × Bx × Int × Int × Int
def rgA (σ : zS) (k : Int) : Rg := (bxA σ 144 (340 + 10 * k), bxA σ 144 (344 + 10 * k), σ 144 (348 + 10 * k), σ 144 (349 + 10 * k), σ 147 (121 + k))
def rgs (σ : zS) (n : Nat) : List Rg := (List.range n).map (fun k : Nat => rgA σ (k : Int))
theorem rgs_get {σ : zS} {n k : Nat} (h : k < n) : (rgs σ n)[k]? = some (rgA σ (k : Int)) := by
  unfold rgs
  rw [List.getElem?_map, List.getElem?_range h]
  rfl
theorem rgs_len {σ : zS} {n : Nat} : (rgs σ n).length = n := by unfold rgs; rw [List.length_map, List.length_range]
theorem rgs_ext {σ : zS} {l : List Rg} {n : Nat} (hn : l.length = n) (h : ∀ (k : Nat) (hk : k < l.length), rgA σ (k : Int) = l[k]) : rgs σ n = l := by
  subst hn
  apply List.ext_getElem?
  intro k
  by_cases hk : k < l.length
  · rw [rgs_get hk, h k hk, List.getElem?_eq_getElem hk]
  · rw [List.getElem?_eq_none (by rw [rgs_len]; omega), List.getElem?_eq_none (by omega)]
theorem rgs_rbx {σ : zS} {n : Nat} : rbx σ n = (rgs σ n).map (fun r => r.1) := by
  unfold rbx rgs
  rw [List.map_map]
  rfl
theorem rgA_gS2 {σ : zS} {i N k : Int} (hi : 0 ≤ i) (hN : N ≤ 239) (hk : 0 ≤ k) (hkN : k < N - 1) : rgA (zu (gS2 σ i N 0) 144 0 (N - 1)) k = if k < i then rgA σ k else rgA σ (k + 1) := by
  by_cases h : k < i
  · rw [if_pos h]
    unfold rgA
    rw [zu_bxi (by omega), zu_bxi (by omega), zu_i (by omega), zu_i (by omega), zu_i (by omega)]
    unfold bxA gS2
    rw [if_neg (fun e => by omega), if_neg (fun e => by omega), if_neg (fun e => by omega), if_neg (fun e => by omega), if_neg (fun e => by omega), if_neg (fun e => by omega), if_neg (fun e => by omega), if_neg (fun e => by omega), if_neg (fun e => by omega), if_neg (fun e => by omega), if_neg (fun e => by omega), if_neg (fun e => by omega), if_neg (fun e => by omega), if_neg (fun e => by omega), if_neg (fun e => by omega), if_neg (fun e => by omega), if_neg (fun e => by omega), if_neg (fun e => by omega), if_neg (fun e => by omega), if_neg (fun e => by omega), if_neg (fun e => by omega), if_neg (fun e => by omega)]
  · rw [if_neg h]
    unfold rgA
    rw [zu_bxi (by omega), zu_bxi (by omega), zu_i (by omega), zu_i (by omega), zu_a (by decide)]
    unfold bxA gS2
    rw [if_pos ⟨rfl, by omega, by omega⟩, if_pos ⟨rfl, by omega, by omega⟩, if_pos ⟨rfl, by omega, by omega⟩, if_pos ⟨rfl, by omega, by omega⟩, if_pos ⟨rfl, by omega, by omega⟩, if_pos ⟨rfl, by omega, by omega⟩, if_pos ⟨rfl, by omega, by omega⟩, if_pos ⟨rfl, by omega, by omega⟩, if_pos ⟨rfl, by omega, by omega⟩, if_pos ⟨rfl, by omega, by omega⟩, if_neg (fun e => by omega), if_pos ⟨rfl, by omega, by omega⟩]
    have e : ∀ (a : Nat) (x y : Int), x = y → σ a x = σ a y := fun a x y h => by rw [h]
    rw [e 144 (340 + 10 * k + 10) (340 + 10 * (k + 1)) (by omega), e 144 (340 + 10 * k + 1 + 10) (340 + 10 * (k + 1) + 1) (by omega), e 144 (340 + 10 * k + 2 + 10) (340 + 10 * (k + 1) + 2) (by omega), e 144 (340 + 10 * k + 3 + 10) (340 + 10 * (k + 1) + 3) (by omega), e 144 (344 + 10 * k + 10) (344 + 10 * (k + 1)) (by omega), e 144 (344 + 10 * k + 1 + 10) (344 + 10 * (k + 1) + 1) (by omega), e 144 (344 + 10 * k + 2 + 10) (344 + 10 * (k + 1) + 2) (by omega), e 144 (344 + 10 * k + 3 + 10) (344 + 10 * (k + 1) + 3) (by omega), e 144 (348 + 10 * k + 10) (348 + 10 * (k + 1)) (by omega), e 144 (349 + 10 * k + 10) (349 + 10 * (k + 1)) (by omega), e 147 (121 + k + 1) (121 + (k + 1)) (by omega)]
theorem rgs_goes {σ : zS} {i N : Nat} (hi : i < N) (hN2 : N ≤ 239) : rgs (zu (gS2 σ (i : Int) (N : Int) 0) 144 0 ((N : Int) - 1)) (N - 1) = (rgs σ N).eraseIdx i := by
  refine rgs_ext (by rw [List.length_eraseIdx, rgs_len, if_pos hi]) (fun k hk => ?_)
  have hk' : k < N - 1 := by rw [List.length_eraseIdx, rgs_len, if_pos hi] at hk; exact hk
  rw [rgA_gS2 (by omega) (by omega) (by omega) (by omega), List.getElem_eraseIdx]
  by_cases h : k < i
  · rw [if_pos (by omega), dif_pos h]
    have := rgs_get (σ := σ) (n := N) (k := k) (by omega)
    rw [List.getElem?_eq_getElem (by rw [rgs_len]; omega)] at this
    exact (Option.some.inj this).symm
  · rw [if_neg (by omega), dif_neg h]
    have := rgs_get (σ := σ) (n := N) (k := k + 1) (by omega)
    rw [List.getElem?_eq_getElem (by rw [rgs_len]; omega)] at this
    rw [show (k : Int) + 1 = ((k + 1 : Nat) : Int) by omega]
    exact (Option.some.inj this).symm
end
section
/-! 35.ref5 -/
/-! THE REFERENCE over the typed memory: merging -/
theorem lCmp_gt {x y : Int} : lCmp x y ≤ 0 ↔ ¬ y < x := by
  unfold lCmp
  split
  · omega
  · split <;> omega
theorem lCmp_lt {x y : Int} : lCmp x y < 0 ↔ x < y := by
  unfold lCmp
  split
  · omega
  · split <;> omega
theorem lCmp_eq {x y : Int} : lCmp x y = 0 ↔ x = y := by
  unfold lCmp
  split
  · omega
  · split <;> omega
abbrev bOne (a b : Bx) : Prop := (a.2.2.1 = b.2.2.1 ∧ a.2.2.2 = b.2.2.2 ∧ (a.2.1 + 1 = b.1 ∨ b.2.1 + 1 = a.1)) ∨ (a.1 = b.1 ∧ a.2.1 = b.2.1 ∧ (a.2.2.2 + 1 = b.2.2.1 ∨ b.2.2.2 + 1 = a.2.2.1))
theorem s_one183 {x : Int} {y : Int} {σ : zS} : g_m_isOneBox_L183 x y σ = some (if x ≠ 0 ∨ y ≠ 0 then 1 else 0, σ) := by
  unfold g_m_isOneBox_L183
  by_cases h : x = 0
  · rw [if_neg (fun e => e h)]
    by_cases h2 : y = 0
    · rw [if_pos h2, if_neg (by omega)]
    · rw [if_neg h2, if_pos (by omega)]
  · rw [if_pos h, if_pos (Or.inl h)]
theorem s_one96 {i j x : Int} {σ : zS} {A B : Bx} (hA : bxA σ 144 i = A) (hB : bxA σ 144 j = B) (okA : bOk A) (okB : bOk B) (h1 : 0 ≤ i) (h2 : i + 3 < 2740) (h3 : 0 ≤ j) (h4 : j + 3 < 2740) : g_m_isOneBox_L96 i j x σ = some (if x ≠ 0 ∨ (A.1 = B.1 ∧ A.2.1 = B.2.1 ∧ (A.2.2.2 + 1 = B.2.2.1 ∨ B.2.2.2 + 1 = A.2.2.1)) then 1 else 0, σ) := by
  obtain ⟨a1, a2, a3, a4⟩ := bx1 hA
  obtain ⟨b1, b2, b3, b4⟩ := bx1 hB
  dsimp only [bOk] at okA okB
  unfold g_m_isOneBox_L96 g_m_isOneBox_L182 g_m_isOneBox_L178
  rw [w32_id (x := i + 1) (by omega) (by omega), w32_id (x := i + 2) (by omega) (by omega), w32_id (x := i + 3) (by omega) (by omega), w32_id (x := j + 1) (by omega) (by omega), w32_id (x := j + 2) (by omega) (by omega), w32_id (x := j + 3) (by omega) (by omega)]
  rw [if_pos (by omega), if_pos (by omega)]
  simp only [a1, a2, a3, a4, b1, b2, b3, b4, s_one183]
  rw [w32_id (x := A.2.2.2 + 1) (by omega) (by omega), w32_id (x := B.2.2.2 + 1) (by omega) (by omega)]
  by_cases c1 : A.1 = B.1
  · rw [if_neg (fun e => e c1), if_pos (by omega), if_pos (by omega)]
    by_cases c2 : A.2.1 = B.2.1
    · rw [if_neg (fun e => e c2), if_pos (by omega), if_pos (by omega)]
      by_cases c3 : A.2.2.2 + 1 = B.2.2.1
      · rw [if_pos c3, if_pos (Or.inr (by decide)), if_pos (Or.inr ⟨c1, c2, Or.inl c3⟩)]
      · rw [if_neg c3, if_pos (by omega), if_pos (by omega)]
        by_cases c4 : B.2.2.2 + 1 = A.2.2.1
        · rw [if_neg (fun e => e c4), if_pos (Or.inr (by decide)), if_pos (Or.inr ⟨c1, c2, Or.inr c4⟩)]
        · rw [if_pos c4]
          by_cases hx : x = 0
          · rw [if_neg (by omega), if_neg (by omega)]
          · rw [if_pos (Or.inl hx), if_pos (Or.inl hx)]
    · rw [if_pos c2]
      by_cases hx : x = 0
      · rw [if_neg (by omega), if_neg (by omega)]
      · rw [if_pos (Or.inl hx), if_pos (Or.inl hx)]
  · rw [if_pos c1]
    by_cases hx : x = 0
    · rw [if_neg (by omega), if_neg (by omega)]
    · rw [if_pos (Or.inl hx), if_pos (Or.inl hx)]
theorem s_isOneBox {i j : Int} {σ : zS} {A B : Bx} (hA : bxA σ 144 (340 + 10 * i) = A) (hB : bxA σ 144 (340 + 10 * j) = B) (okA : bOk A) (okB : bOk B) (h1 : 0 ≤ i) (h2 : i < 240) (h3 : 0 ≤ j) (h4 : j < 240) : g_m_isOneBox i j σ = some (if bOne A B then 1 else 0, σ) := by
  obtain ⟨a1, a2, a3, a4⟩ := bx1 hA
  obtain ⟨b1, b2, b3, b4⟩ := bx1 hB
  have oA := okA
  have oB := okB
  dsimp only [bOk] at oA oB
  unfold g_m_isOneBox g_m_isOneBox_L95 g_m_isOneBox_L91
  rw [s_region (by omega) (by omega)]
  rw [Option.bind_some]
  try dsimp only
  rw [s_region (by omega) (by omega)]
  rw [Option.bind_some]
  try dsimp only
  rw [w32_id (x := 340 + 10 * i + 1) (by omega) (by omega), w32_id (x := 340 + 10 * i + 2) (by omega) (by omega), w32_id (x := 340 + 10 * i + 3) (by omega) (by omega), w32_id (x := 340 + 10 * j + 1) (by omega) (by omega), w32_id (x := 340 + 10 * j + 2) (by omega) (by omega), w32_id (x := 340 + 10 * j + 3) (by omega) (by omega)]
  rw [if_pos (by omega), if_pos (by omega)]
  simp only [a1, a2, a3, a4, b1, b2, b3, b4]
  rw [w32_id (x := A.2.1 + 1) (by omega) (by omega), w32_id (x := B.2.1 + 1) (by omega) (by omega)]
  rw [s_one96 (x := 0) hA hB okA okB (by omega) (by omega) (by omega) (by omega), s_one96 (x := 1) hA hB okA okB (by omega) (by omega) (by omega) (by omega)]
  rw [if_pos (show (1 : Int) ≠ 0 ∨ _ from Or.inl (by decide))]
  have e0 : ¬ (A.2.2.1 = B.2.2.1 ∧ A.2.2.2 = B.2.2.2 ∧ (A.2.1 + 1 = B.1 ∨ B.2.1 + 1 = A.1)) → (if (0 : Int) ≠ 0 ∨ (A.1 = B.1 ∧ A.2.1 = B.2.1 ∧ (A.2.2.2 + 1 = B.2.2.1 ∨ B.2.2.2 + 1 = A.2.2.1)) then (1 : Int) else 0) = if bOne A B then 1 else 0 := by
    intro hn
    by_cases c : A.1 = B.1 ∧ A.2.1 = B.2.1 ∧ (A.2.2.2 + 1 = B.2.2.1 ∨ B.2.2.2 + 1 = A.2.2.1)
    · rw [if_pos (Or.inr c), if_pos (Or.inr c)]
    · rw [if_neg (fun e => e.elim (fun e => e rfl) c), if_neg (fun e => e.elim hn c)]
  by_cases c1 : A.2.2.1 = B.2.2.1
  · rw [if_neg (fun e => e c1), if_pos (by omega), if_pos (by omega)]
    by_cases c2 : A.2.2.2 = B.2.2.2
    · rw [if_neg (fun e => e c2), if_pos (by omega), if_pos (by omega)]
      by_cases c3 : A.2.1 + 1 = B.1
      · rw [if_pos c3, if_pos (show bOne A B from Or.inl ⟨c1, c2, Or.inl c3⟩)]
      · rw [if_neg c3, if_pos (by omega), if_pos (by omega)]
        by_cases c4 : B.2.1 + 1 = A.1
        · rw [if_neg (fun e => e c4), if_pos (show bOne A B from Or.inl ⟨c1, c2, Or.inr c4⟩)]
        · rw [if_pos c4, e0 (by omega)]
    · rw [if_pos c2, e0 (by omega)]
  · rw [if_pos c1, e0 (by omega)]
/-- the state behind the joining of i and j, but for the boxes -/
def jnW (s : zS) (i j : Int) : zS := if s 147 (121 + i) < s 147 (121 + j) then zu s 147 (121 + i) (s 147 (121 + j)) else s
theorem s_joins90 {s : zS} {i j N : Nat} (hN : s 144 0 = (N : Int)) (hi : i < N) (hj : j < N) (hN2 : N ≤ 239) : g_m_joins_L90 (i : Int) (j : Int) s = some ((), zu (zu (gS2 (jnW s (i : Int) (j : Int)) (j : Int) (N : Int) 0) 144 0 ((N : Int) - 1)) 144 6 (w32 (s 144 6 + 1))) := by
  unfold g_m_joins_L90
  rw [w32_id (x := 121 + (j : Int)) (by omega) (by omega), w32_id (x := 121 + (i : Int)) (by omega) (by omega), if_pos (by omega), if_pos (by omega)]
  show (if lCmp (s 147 (121 + (j : Int))) (s 147 (121 + (i : Int))) ≤ 0 then _ else _) = _
  have fin : ∀ t : zS, t 144 0 = (N : Int) → t 144 6 = s 144 6 → g_m_joins_L130 (j : Int) t = some ((), zu (zu (gS2 t (j : Int) (N : Int) 0) 144 0 ((N : Int) - 1)) 144 6 (w32 (s 144 6 + 1))) := by
    intro t h1 h2
    unfold g_m_joins_L130
    rw [s_goes hj h1 hN2]
    rw [Option.bind_some]
    try dsimp only
    have e : zu (gS2 t (j : Int) (N : Int) 0) 144 0 ((N : Int) - 1) 144 6 = s 144 6 := by
      rw [zu_i (by decide)]
      unfold gS2
      rw [if_neg (fun e => by omega), if_neg (fun e => by omega), h2]
    rw [e]
  by_cases c : s 147 (121 + (i : Int)) < s 147 (121 + (j : Int))
  · rw [if_neg (fun e => lCmp_gt.mp e c), if_pos (by omega), if_pos (by omega)]
    unfold jnW
    rw [if_pos c]
    exact fin _ (by rw [zu_a (by decide)]; exact hN) (zu_a (by decide))
  · rw [if_pos (lCmp_gt.mpr c)]
    unfold jnW
    rw [if_neg c]
    exact fin s hN rfl
def jnB (σ : zS) (i j : Int) : zS := zu (zb σ 144 (340 + 10 * i) (bAro (bxA σ 144 (340 + 10 * i)) (bxA σ 144 (340 + 10 * j)))) 144 (349 + 10 * i) (zmn 9999 (w32 (σ 144 (349 + 10 * i) + σ 144 (349 + 10 * j))))
def jnH (σ : zS) (i j : Int) : zS := if σ 144 (344 + 10 * j) < 0 then jnB σ i j else zb (jnB σ i j) 144 (344 + 10 * i) (bAro (bxA σ 144 (344 + 10 * i)) (bxA σ 144 (344 + 10 * j)))
def jnS (σ : zS) (i j N : Int) : zS := zu (zu (gS2 (jnW (jnH σ i j) i j) j N 0) 144 0 (N - 1)) 144 6 (w32 (σ 144 6 + 1))
theorem s_joins {σ : zS} {i j N : Nat} (hN : σ 144 0 = (N : Int)) (hij : i < j) (hj : j < N) (hN2 : N ≤ 239) : g_m_joins (i : Int) (j : Int) σ = some ((), jnS σ (i : Int) (j : Int) (N : Int)) := by
  have l := l144
  unfold g_m_joins
  rw [s_region (by omega) (by omega)]
  rw [Option.bind_some]
  try dsimp only
  rw [s_region (by omega) (by omega)]
  rw [Option.bind_some]
  try dsimp only
  rw [s_arounds (by omega) (by omega) (by omega) (by omega) (by omega) (by omega)]
  rw [Option.bind_some]
  dsimp only
  rw [w32_id (x := 340 + 10 * (i : Int) + 9) (by omega) (by omega), w32_id (x := 340 + 10 * (j : Int) + 9) (by omega) (by omega), w32_id (x := 340 + 10 * (i : Int) + 4) (by omega) (by omega), w32_id (x := 340 + 10 * (j : Int) + 4) (by omega) (by omega), if_pos (by omega), if_pos (by omega), s_less, Option.bind_some]
  dsimp only
  rw [if_pos (by omega), if_pos (by omega)]
  rw [show 340 + 10 * (i : Int) + 9 = 349 + 10 * (i : Int) by omega, show 340 + 10 * (j : Int) + 9 = 349 + 10 * (j : Int) by omega, show 340 + 10 * (i : Int) + 4 = 344 + 10 * (i : Int) by omega, show 340 + 10 * (j : Int) + 4 = 344 + 10 * (j : Int) by omega]
  have e1 : zb σ 144 (340 + 10 * (i : Int)) (bAro (bxA σ 144 (340 + 10 * (i : Int))) (bxA σ 144 (340 + 10 * (j : Int)))) 144 (349 + 10 * (i : Int)) = σ 144 (349 + 10 * (i : Int)) := zb_i (by omega)
  have e2 : zb σ 144 (340 + 10 * (i : Int)) (bAro (bxA σ 144 (340 + 10 * (i : Int))) (bxA σ 144 (340 + 10 * (j : Int)))) 144 (349 + 10 * (j : Int)) = σ 144 (349 + 10 * (j : Int)) := zb_i (by omega)
  rw [e1, e2]
  show (if jnB σ (i : Int) (j : Int) 144 (344 + 10 * (j : Int)) < 0 then g_m_joins_L90 (i : Int) (j : Int) (jnB σ (i : Int) (j : Int)) else (g_m_arounds 144 144 (344 + 10 * (i : Int)) (344 + 10 * (j : Int)) (jnB σ (i : Int) (j : Int))).bind _) = _
  have e3 : jnB σ (i : Int) (j : Int) 144 (344 + 10 * (j : Int)) = σ 144 (344 + 10 * (j : Int)) := by
    unfold jnB
    rw [zu_i (by omega), zb_i (by omega)]
  have e4 : bxA (jnB σ (i : Int) (j : Int)) 144 (344 + 10 * (i : Int)) = bxA σ 144 (344 + 10 * (i : Int)) := by
    unfold jnB
    rw [zu_bxi (by omega), zb_bxi (by omega)]
  have e5 : bxA (jnB σ (i : Int) (j : Int)) 144 (344 + 10 * (j : Int)) = bxA σ 144 (344 + 10 * (j : Int)) := by
    unfold jnB
    rw [zu_bxi (by omega), zb_bxi (by omega)]
  have e6 : jnB σ (i : Int) (j : Int) 144 0 = (N : Int) := by
    unfold jnB
    rw [zu_i (by omega), zb_i (by omega), hN]
  have e7 : jnB σ (i : Int) (j : Int) 144 6 = σ 144 6 := by
    unfold jnB
    rw [zu_i (by omega), zb_i (by omega)]
  rw [e3]
  unfold jnS jnH
  by_cases c : σ 144 (344 + 10 * (j : Int)) < 0
  · rw [if_pos c, if_pos c, s_joins90 e6 (by omega) hj hN2, e7]
  · rw [if_neg c, if_neg c, s_arounds (by omega) (by omega) (by omega) (by omega) (by omega) (by omega)]
    rw [Option.bind_some]
    try dsimp only
    rw [e4, e5, s_joins90 (by rw [zb_i (by omega)]; exact e6) (by omega) hj hN2, zb_i (by omega), e7]
/-- the region that comes of two -/
def mJoin (r s : Rg) : Rg := (bAro r.1 s.1, if s.2.1.1 < 0 then r.2.1 else bAro r.2.1 s.2.1, r.2.2.1, zmn 9999 (w32 (r.2.2.2.1 + s.2.2.2.1)), if r.2.2.2.2 < s.2.2.2.2 then s.2.2.2.2 else r.2.2.2.2)
theorem rgA_jn {σ : zS} {i j k : Int} (hi : 0 ≤ i) (hij : i < j) (hk : 0 ≤ k) : rgA (jnW (jnH σ i j) i j) k = if k = i then mJoin (rgA σ i) (rgA σ j) else rgA σ k := by
  have hH : ∀ a b, (a ≠ 144 ∨ b < 340 + 10 * i ∨ 350 + 10 * i ≤ b) → jnH σ i j a b = σ a b := by
    intro a b h
    unfold jnH jnB
    by_cases c : σ 144 (344 + 10 * j) < 0
    · rw [if_pos c, zu_c (by omega)]
      rcases h with h | h
      · exact zb_a h
      · exact zb_i (by omega)
    · rw [if_neg c]
      rcases h with h | h
      · rw [zb_a h, zu_a h, zb_a h]
      · rw [zb_i (by omega), zu_i (by omega), zb_i (by omega)]
  have hW : ∀ a b, (a ≠ 147 ∨ b ≠ 121 + i) → jnW (jnH σ i j) i j a b = jnH σ i j a b := by
    intro a b h
    unfold jnW
    by_cases c : jnH σ i j 147 (121 + i) < jnH σ i j 147 (121 + j)
    · rw [if_pos c, zu_c h]
    · rw [if_neg c]
  by_cases hki : k = i
  · subst hki
    rw [if_pos rfl]
    have hbx : ∀ x, bxA (jnW (jnH σ k j) k j) 144 x = bxA (jnH σ k j) 144 x := by
      intro x
      unfold bxA
      rw [hW _ _ (Or.inl (by decide)), hW _ _ (Or.inl (by decide)), hW _ _ (Or.inl (by decide)), hW _ _ (Or.inl (by decide))]
    unfold rgA mJoin
    dsimp only
    rw [hbx, hbx, hW _ _ (Or.inl (by decide)), hW _ _ (Or.inl (by decide))]
    have w1 : jnW (jnH σ k j) k j 147 (121 + k) = if σ 147 (121 + k) < σ 147 (121 + j) then σ 147 (121 + j) else σ 147 (121 + k) := by
      unfold jnW
      rw [hH 147 (121 + k) (Or.inl (by decide)), hH 147 (121 + j) (Or.inl (by decide))]
      by_cases c : σ 147 (121 + k) < σ 147 (121 + j)
      · rw [if_pos c, if_pos c, zu_e rfl]
      · rw [if_neg c, if_neg c, hH _ _ (Or.inl (by decide))]
    rw [w1]
    have f1 : (bxA σ 144 (344 + 10 * j)).1 = σ 144 (344 + 10 * j) := rfl
    rw [f1]
    unfold jnH
    by_cases c : σ 144 (344 + 10 * j) < 0
    · rw [if_pos c, if_pos c]
      unfold jnB
      rw [zu_bxi (by omega), zb_bx rfl, zu_bxi (by omega), zb_bxi (by omega), zu_i (by omega), zb_i (by omega), zu_e rfl]
    · rw [if_neg c, if_neg c, zb_bxi (by omega), zb_bx rfl, zb_i (by omega), zb_i (by omega)]
      unfold jnB
      rw [zu_bxi (by omega), zb_bx rfl, zu_i (by omega), zb_i (by omega), zu_e rfl]
  · rw [if_neg hki]
    unfold rgA
    have hb : ∀ x, (x + 4 ≤ 340 + 10 * i ∨ 350 + 10 * i ≤ x) → bxA (jnW (jnH σ i j) i j) 144 x = bxA σ 144 x := by
      intro x hx
      unfold bxA
      rw [hW _ _ (Or.inl (by decide)), hW _ _ (Or.inl (by decide)), hW _ _ (Or.inl (by decide)), hW _ _ (Or.inl (by decide)), hH _ _ (by omega), hH _ _ (by omega), hH _ _ (by omega), hH _ _ (by omega)]
    rw [hb _ (by omega), hb _ (by omega), hW _ _ (Or.inl (by decide)), hW _ _ (Or.inl (by decide)), hW _ _ (Or.inr (by omega)), hH _ _ (by omega), hH _ _ (by omega), hH _ _ (Or.inl (by decide))]
theorem rgA_jnS {σ : zS} {i j N k : Int} (hi : 0 ≤ i) (hij : i < j) (hj : j < N) (hN : N ≤ 239) (hk : 0 ≤ k) (hkN : k < N - 1) : rgA (jnS σ i j N) k = if (if k < j then k else k + 1) = i then mJoin (rgA σ i) (rgA σ j) else rgA σ (if k < j then k else k + 1) := by
  have e : rgA (jnS σ i j N) k = rgA (zu (gS2 (jnW (jnH σ i j) i j) j N 0) 144 0 (N - 1)) k := by
    unfold jnS rgA
    generalize zu (gS2 (jnW (jnH σ i j) i j) j N 0) 144 0 (N - 1) = S
    rw [zu_bxi (j := 340 + 10 * k) (by omega), zu_bxi (j := 344 + 10 * k) (by omega), zu_i (j := 348 + 10 * k) (by omega), zu_i (j := 349 + 10 * k) (by omega), zu_a (by decide)]
  rw [e, rgA_gS2 (by omega) hN hk hkN]
  by_cases h : k < j
  · rw [if_pos h, if_pos h, rgA_jn hi hij hk]
  · rw [if_neg h, if_neg h, rgA_jn hi hij (by omega)]
end
section
/-! 36.ref6 -/
/-! THE REFERENCE over the typed memory: regions that do not meet; merging to its end -/
def rOk (r : Rg) : Prop := bOk r.1 ∧ (r.2.1.1 < 0 ∨ (bOk r.2.1 ∧ bSub r.2.1 r.1))
def RI (σ : zS) (N : Nat) : Prop := (∀ k : Nat, k < N → rOk (rgA σ (k : Int))) ∧ ∀ k1 k2 : Nat, k1 < k2 → k2 < N → ¬ bMt (rgA σ (k1 : Int)).1 (rgA σ (k2 : Int)).1
theorem RI.bx {σ : zS} {N k : Nat} (h : RI σ N) (hk : k < N) : bOk (bxA σ 144 (340 + 10 * (k : Int))) := (h.1 k hk).1
/-- nothing but regions, their number, the counters and LEVEL is another -/
def frR (σ s : zS) : Prop := ∀ a j, (a ≠ 144 ∨ (8 ≤ j ∧ j < 340)) → (a ≠ 147 ∨ (1 ≤ j ∧ j < 121)) → s a j = σ a j
theorem frR.refl (σ : zS) : frR σ σ := fun _ _ _ _ => rfl
theorem frR.trans {σ s t : zS} (h1 : frR σ s) (h2 : frR s t) : frR σ t := fun a j k1 k2 => (h2 a j k1 k2).trans (h1 a j k1 k2)
theorem bMt_comm {a b : Bx} (h : bMt a b) : bMt b a := by
  dsimp only [bMt] at *
  omega
theorem bAro_pos {a b : Bx} (h : 0 ≤ a.1) : bAro a b = (zmn a.1 b.1, zmx a.2.1 b.2.1, zmn a.2.2.1 b.2.2.1, zmx a.2.2.2 b.2.2.2) := if_pos h
theorem bAro_neg {a b : Bx} (h : ¬ 0 ≤ a.1) : bAro a b = b := if_neg h
theorem bAro_ok {a b : Bx} (ha : bOk a) (hb : bOk b) : bOk (bAro a b) ∧ bSub a (bAro a b) ∧ bSub b (bAro a b) := by
  have h1 := @zmn_le a.1 b.1
  have h2 := @zmx_le a.2.1 b.2.1
  have h3 := @zmn_le a.2.2.1 b.2.2.1
  have h4 := @zmx_le a.2.2.2 b.2.2.2
  rw [bAro_pos ha.1]
  dsimp only [bOk, bSub] at *
  refine ⟨⟨?_, ?_, ?_, ?_, ?_, ?_⟩, ⟨?_, ?_, ?_, ?_⟩, ?_, ?_, ?_, ?_⟩ <;> omega
theorem join_mt {a b c : Bx} (ha : bOk a) (hb : bOk b) (hc : bOk c) (h1 : bOne a b) (h : bMt (bAro a b) c) : bMt a c ∨ bMt b c := by
  have k1 := @zmn_le a.1 b.1
  have k2 := @zmx_le a.2.1 b.2.1
  have k3 := @zmn_le a.2.2.1 b.2.2.1
  have k4 := @zmx_le a.2.2.2 b.2.2.2
  rw [bAro_pos ha.1] at h
  dsimp only [bOk, bMt, bOne] at *
  omega
theorem mJoin_ok {r s : Rg} (hr : rOk r) (hs : rOk s) : rOk (mJoin r s) := by
  obtain ⟨u1, u2, u3⟩ := bAro_ok hr.1 hs.1
  refine ⟨u1, ?_⟩
  show (if s.2.1.1 < 0 then r.2.1 else bAro r.2.1 s.2.1).1 < 0 ∨ (bOk (if s.2.1.1 < 0 then r.2.1 else bAro r.2.1 s.2.1) ∧ bSub (if s.2.1.1 < 0 then r.2.1 else bAro r.2.1 s.2.1) (bAro r.1 s.1))
  have tr : ∀ {x y z : Bx}, bSub x y → bSub y z → bSub x z := by
    intro x y z h1 h2
    dsimp only [bSub] at *
    omega
  by_cases c : s.2.1.1 < 0
  · rw [if_pos c]
    rcases hr.2 with h | h
    · exact Or.inl h
    · exact Or.inr ⟨h.1, tr h.2 u2⟩
  · rw [if_neg c]
    rcases hs.2 with h | h
    · exact absurd h c
    · rcases hr.2 with h' | h'
      · rw [bAro_neg (by omega)]
        exact Or.inr ⟨h.1, tr h.2 u3⟩
      · obtain ⟨v1, v2, v3⟩ := bAro_ok h'.1 h.1
        refine Or.inr ⟨v1, ?_⟩
        have t1 := tr h'.2 u2
        have t2 := tr h.2 u3
        have k1 := @zmn_le r.2.1.1 s.2.1.1
        have k2 := @zmx_le r.2.1.2.1 s.2.1.2.1
        have k3 := @zmn_le r.2.1.2.2.1 s.2.1.2.2.1
        have k4 := @zmx_le r.2.1.2.2.2 s.2.1.2.2.2
        rw [bAro_pos h'.1.1]
        dsimp only [bSub] at *
        refine ⟨?_, ?_, ?_, ?_⟩ <;> omega
theorem RI_join {σ : zS} {N i j : Nat} (h : RI σ N) (hij : i < j) (hj : j < N) (hN : N ≤ 239) (h1 : bOne (rgA σ (i : Int)).1 (rgA σ (j : Int)).1) : RI (jnS σ (i : Int) (j : Int) (N : Int)) (N - 1) := by
  have e : ∀ k : Nat, k < N - 1 → rgA (jnS σ (i : Int) (j : Int) (N : Int)) (k : Int) = if (if k < j then k else k + 1) = i then mJoin (rgA σ (i : Int)) (rgA σ (j : Int)) else rgA σ (((if k < j then k else k + 1) : Nat) : Int) := by
    intro k hk
    rw [rgA_jnS (by omega) (by omega) (by omega) (by omega) (by omega) (by omega)]
    by_cases c : k < j
    · rw [if_pos (show (k : Int) < (j : Int) by omega), if_pos c]
      by_cases c2 : k = i
      · rw [if_pos c2, if_pos (show (k : Int) = (i : Int) by omega)]
      · rw [if_neg c2, if_neg (show ¬ (k : Int) = (i : Int) by omega)]
    · rw [if_neg (show ¬ (k : Int) < (j : Int) by omega), if_neg c]
      rw [if_neg (show ¬ k + 1 = i by omega), if_neg (show ¬ (k : Int) + 1 = (i : Int) by omega)]
      rw [show ((k + 1 : Nat) : Int) = (k : Int) + 1 by omega]
  have hne : ∀ a b : Nat, a ≠ b → a < N → b < N → ¬ bMt (rgA σ (a : Int)).1 (rgA σ (b : Int)).1 := by
    intro a b hab ha hb hm
    rcases Nat.lt_or_ge a b with c | c
    · exact h.2 a b c hb hm
    · exact h.2 b a (by omega) ha (bMt_comm hm)
  refine ⟨fun k hk => ?_, fun k1 k2 hk1 hk2 => ?_⟩
  · rw [e k hk]
    generalize hk' : (if k < j then k else k + 1) = k'
    have hb : k' < N := by
      rw [← hk']
      split <;> omega
    by_cases c : k' = i
    · rw [if_pos c]; exact mJoin_ok (h.1 i (by omega)) (h.1 j hj)
    · rw [if_neg c]; exact h.1 k' hb
  · rw [e k1 (by omega), e k2 hk2]
    generalize hq1 : (if k1 < j then k1 else k1 + 1) = p1
    generalize hq2 : (if k2 < j then k2 else k2 + 1) = p2
    have b1 : p1 < N ∧ p1 ≠ j := by
      rw [← hq1]
      split <;> omega
    have b2 : p2 < N ∧ p2 ≠ j := by
      rw [← hq2]
      split <;> omega
    have b3 : p1 < p2 := by
      rw [← hq1, ← hq2]
      split <;> split <;> omega
    have oi := (h.1 i (by omega)).1
    have oj := (h.1 j hj).1
    by_cases c1 : p1 = i
    · rw [if_pos c1, if_neg (by omega)]
      intro hm
      rcases join_mt oi oj (h.1 p2 b2.1).1 h1 hm with hm | hm
      · exact hne i p2 (by omega) (by omega) b2.1 hm
      · exact hne j p2 (by omega) hj b2.1 hm
    · rw [if_neg c1]
      by_cases c2 : p2 = i
      · rw [if_pos c2]
        intro hm
        rcases join_mt oi oj (h.1 p1 b1.1).1 h1 (bMt_comm hm) with hm | hm
        · exact hne i p1 (by omega) (by omega) b1.1 hm
        · exact hne j p1 (by omega) hj b1.1 hm
      · rw [if_neg c2]
        exact hne p1 p2 (by omega) b1.1 b2.1
theorem jnS_fr {σ : zS} {i j N : Nat} (hij : i < j) (hj : j < N) (hN : N ≤ 239) : frR σ (jnS σ (i : Int) (j : Int) (N : Int)) ∧ jnS σ (i : Int) (j : Int) (N : Int) 144 0 = ((N - 1 : Nat) : Int) := by
  have hH : ∀ a b, (a ≠ 144 ∨ b < 340) → jnH σ (i : Int) (j : Int) a b = σ a b := by
    intro a b h
    unfold jnH jnB
    by_cases c : σ 144 (344 + 10 * (j : Int)) < 0
    · rw [if_pos c, zu_c (by omega)]
      rcases h with h | h
      · exact zb_a h
      · exact zb_i (by omega)
    · rw [if_neg c]
      rcases h with h | h
      · rw [zb_a h, zu_a h, zb_a h]
      · rw [zb_i (by omega), zu_i (by omega), zb_i (by omega)]
  have hW : ∀ a b, (a ≠ 147 ∨ b < 121) → jnW (jnH σ (i : Int) (j : Int)) (i : Int) (j : Int) a b = jnH σ (i : Int) (j : Int) a b := by
    intro a b h
    unfold jnW
    by_cases c : jnH σ (i : Int) (j : Int) 147 (121 + (i : Int)) < jnH σ (i : Int) (j : Int) 147 (121 + (j : Int))
    · rw [if_pos c, zu_c (by omega)]
    · rw [if_neg c]
  constructor
  · intro a b h1 h2
    unfold jnS
    rw [zu_c (by omega), zu_c (by omega)]
    unfold gS2
    rw [if_neg (fun e => by omega), if_neg (fun e => by omega), hW a b (by omega), hH a b (by omega)]
  · unfold jnS
    rw [zu_i (by decide), zu_e rfl]
    omega
theorem s_im16 {g : Int → zS → Option (Int × zS)} {σ : zS} {N i : Nat} (hR : RI σ N) (hN : σ 144 0 = (N : Int)) (hN2 : N ≤ 239) (hi : i < N) : ∀ (d j n : Nat), j + d = N → i < j → d < n → (∃ j', j ≤ j' ∧ j' < N ∧ bOne (rgA σ (i : Int)).1 (rgA σ (j' : Int)).1 ∧ (∀ t : Nat, j ≤ t → t < j' → ¬ bOne (rgA σ (i : Int)).1 (rgA σ (t : Int)).1) ∧ g_m_isMerged_L16 g n (i : Int) (j : Int) σ = some (1, jnS σ (i : Int) (j' : Int) (N : Int))) ∨ ((∀ t : Nat, j ≤ t → t < N → ¬ bOne (rgA σ (i : Int)).1 (rgA σ (t : Int)).1) ∧ g_m_isMerged_L16 g n (i : Int) (j : Int) σ = g ((i : Int) + 1) σ)
  | _, _, 0, _, _, h => absurd h (Nat.not_lt_zero _)
  | 0, j, n + 1, hj, _, _ => by
    refine Or.inr ⟨fun t h1 h2 => by omega, ?_⟩
    unfold g_m_isMerged_L16
    simp only [hN]
    rw [if_pos (by omega), w32_id (by omega) (by omega)]
  | d + 1, j, n + 1, hj, hij, hn => by
    have e1 : g_m_isMerged_L16 g (n + 1) (i : Int) (j : Int) σ = if bOne (rgA σ (i : Int)).1 (rgA σ (j : Int)).1 then some (1, jnS σ (i : Int) (j : Int) (N : Int)) else g_m_isMerged_L16 g n (i : Int) ((j + 1 : Nat) : Int) σ := by
      have hone := s_isOneBox (i := (i : Int)) (j := (j : Int)) (σ := σ) rfl rfl (hR.bx hi) (hR.bx (show j < N by omega)) (by omega) (by omega) (by omega) (by omega)
      conv => lhs; unfold g_m_isMerged_L16
      simp only [hN]
      rw [if_neg (by omega), hone]
      rw [Option.bind_some]
      try dsimp only
      by_cases c : bOne (bxA σ 144 (340 + 10 * (i : Int))) (bxA σ 144 (340 + 10 * (j : Int)))
      · rw [if_pos c, if_pos (by decide), if_pos (show bOne (rgA σ (i : Int)).1 (rgA σ (j : Int)).1 from c), s_joins hN hij (by omega) hN2]
        rfl
      · rw [if_neg c, if_neg (by decide), if_neg (show ¬ bOne (rgA σ (i : Int)).1 (rgA σ (j : Int)).1 from c), w32_id (x := (j : Int) + 1) (by omega) (by omega), show ((j + 1 : Nat) : Int) = (j : Int) + 1 by omega]
    rw [e1]
    by_cases c : bOne (rgA σ (i : Int)).1 (rgA σ (j : Int)).1
    · rw [if_pos c]
      exact Or.inl ⟨j, Nat.le_refl _, by omega, c, fun t h1 h2 => by omega, rfl⟩
    · rw [if_neg c]
      rcases s_im16 (g := g) hR hN hN2 hi d (j + 1) n (by omega) (by omega) (by omega) with ⟨j', k1, k2, k3, k4, k5⟩ | ⟨k1, k2⟩
      · refine Or.inl ⟨j', by omega, k2, k3, fun t h1 h2 => ?_, k5⟩
        by_cases ht : t = j
        · subst ht; exact c
        · exact k4 t (by omega) h2
      · refine Or.inr ⟨fun t h1 h2 => ?_, k2⟩
        by_cases ht : t = j
        · subst ht; exact c
        · exact k1 t (by omega) h2
theorem s_im2 {σ : zS} {N : Nat} (hR : RI σ N) (hN : σ 144 0 = (N : Int)) (hN2 : N ≤ 239) : ∀ (d i n : Nat), i + d = N → d < n → (∃ i' j', i ≤ i' ∧ i' < j' ∧ j' < N ∧ bOne (rgA σ (i' : Int)).1 (rgA σ (j' : Int)).1 ∧ (∀ s t : Nat, i ≤ s → s < t → t < N → bOne (rgA σ (s : Int)).1 (rgA σ (t : Int)).1 → i' < s ∨ (i' = s ∧ j' ≤ t)) ∧ g_m_isMerged_L2 n (i : Int) σ = some (1, jnS σ (i' : Int) (j' : Int) (N : Int))) ∨ ((∀ s t : Nat, i ≤ s → s < t → t < N → ¬ bOne (rgA σ (s : Int)).1 (rgA σ (t : Int)).1) ∧ g_m_isMerged_L2 n (i : Int) σ = some (0, σ))
  | _, _, 0, _, h => absurd h (Nat.not_lt_zero _)
  | 0, i, n + 1, hi, _ => by
    refine Or.inr ⟨fun s t h1 h2 h3 => by omega, ?_⟩
    unfold g_m_isMerged_L2
    simp only [hN]
    rw [if_pos (by omega)]
  | d + 1, i, n + 1, hi, hn => by
    have e1 : g_m_isMerged_L2 (n + 1) (i : Int) σ = g_m_isMerged_L16 (g_m_isMerged_L2 n) zK (i : Int) ((i + 1 : Nat) : Int) σ := by
      conv => lhs; unfold g_m_isMerged_L2
      simp only [hN]
      rw [if_neg (by omega), w32_id (x := (i : Int) + 1) (by omega) (by omega), show ((i + 1 : Nat) : Int) = (i : Int) + 1 by omega]
    rw [e1]
    rcases s_im16 (g := g_m_isMerged_L2 n) hR hN hN2 (show i < N by omega) (N - (i + 1)) (i + 1) zK (by omega) (by omega) (by show _ < 1000000; omega) with ⟨j', k1, k2, k3, k4, k5⟩ | ⟨k1, k2⟩
    · refine Or.inl ⟨i, j', Nat.le_refl _, by omega, k2, k3, fun s t h1 h2 h3 h4 => ?_, k5⟩
      by_cases hs : s = i
      · subst hs
        refine Or.inr ⟨rfl, ?_⟩
        rcases Nat.lt_or_ge t j' with c | c
        · exact absurd h4 (k4 t (by omega) c)
        · exact c
      · exact Or.inl (by omega)
    · rw [k2, show (i : Int) + 1 = ((i + 1 : Nat) : Int) by omega]
      rcases s_im2 hR hN hN2 d (i + 1) n (by omega) (by omega) with ⟨i', j', m1, m2, m3, m4, m5, m6⟩ | ⟨m1, m2⟩
      · refine Or.inl ⟨i', j', by omega, m2, m3, m4, fun s t h1 h2 h3 h4 => ?_, m6⟩
        by_cases hs : s = i
        · subst hs; exact absurd h4 (k1 t (by omega) h3)
        · exact m5 s t (by omega) h2 h3 h4
      · refine Or.inr ⟨fun s t h1 h2 h3 => ?_, m2⟩
        by_cases hs : s = i
        · subst hs; exact k1 t (by omega) h3
        · exact m1 s t (by omega) h2 h3
theorem s_isMerged {σ : zS} {N : Nat} (hR : RI σ N) (hN : σ 144 0 = (N : Int)) (hN2 : N ≤ 239) : (∃ i j : Nat, i < j ∧ j < N ∧ bOne (rgA σ (i : Int)).1 (rgA σ (j : Int)).1 ∧ (∀ s t : Nat, s < t → t < N → bOne (rgA σ (s : Int)).1 (rgA σ (t : Int)).1 → i < s ∨ (i = s ∧ j ≤ t)) ∧ g_m_isMerged σ = some (1, jnS σ (i : Int) (j : Int) (N : Int))) ∨ ((∀ s t : Nat, s < t → t < N → ¬ bOne (rgA σ (s : Int)).1 (rgA σ (t : Int)).1) ∧ g_m_isMerged σ = some (0, σ)) := by
  rcases s_im2 hR hN hN2 N 0 zK (by omega) (by show _ < 1000000; omega) with ⟨i', j', m1, m2, m3, m4, m5, m6⟩ | ⟨m1, m2⟩
  · exact Or.inl ⟨i', j', m2, m3, m4, fun s t => m5 s t (Nat.zero_le _), m6⟩
  · exact Or.inr ⟨fun s t => m1 s t (Nat.zero_le _), m2⟩
/-- sizes together -/
def sumC (σ : zS) : Nat → Int
  | 0 => 0
  | n + 1 => sumC σ n + (1 + rowsN σ (rgA σ (n : Int)).1)
theorem sumC_bd (σ : zS) : ∀ n : Nat, 0 ≤ sumC σ n ∧ sumC σ n ≤ 61 * n
  | 0 => ⟨Int.le_refl _, Int.le_refl _⟩
  | n + 1 => by
    have ih := sumC_bd σ n
    have b := rowsN_bd σ (rgA σ (n : Int)).1
    show 0 ≤ sumC σ n + _ ∧ sumC σ n + _ ≤ 61 * ((n + 1 : Nat) : Int)
    omega
theorem s_sizes4 {σ : zS} {N : Nat} (hN : σ 144 0 = (N : Int)) (hN2 : N ≤ 239) : ∀ (d k n : Nat), k + d = N → d < n → g_m_sizes_L4 n (sumC σ k) (k : Int) σ = some (sumC σ N, σ)
  | _, _, 0, _, h => absurd h (Nat.not_lt_zero _)
  | 0, k, n + 1, hk, _ => by
    have : k = N := by omega
    subst this
    unfold g_m_sizes_L4
    simp only [hN]
    rw [if_pos (Int.le_refl _)]
  | d + 1, k, n + 1, hk, hn => by
    have ih := s_sizes4 hN hN2 d (k + 1) n (by omega) (by omega)
    have b1 := sumC_bd σ k
    have b2 := rowsN_bd σ (bxA σ 144 (340 + 10 * (k : Int)))
    unfold g_m_sizes_L4
    simp only [hN]
    rw [if_neg (by omega), s_size (by omega) (by omega)]
    rw [Option.bind_some]
    try dsimp only
    rw [w32_id (x := sumC σ k + (1 + rowsN σ (bxA σ 144 (340 + 10 * (k : Int))))) (by omega) (by omega), w32_id (x := (k : Int) + 1) (by omega) (by omega)]
    rw [show ((k + 1 : Nat) : Int) = (k : Int) + 1 by omega] at ih
    exact ih
theorem s_sizes {σ : zS} {N : Nat} (hN : σ 144 0 = (N : Int)) (hN2 : N ≤ 239) : g_m_sizes σ = some (sumC σ N, σ) := s_sizes4 hN hN2 N 0 zK (by omega) (by show _ < 1000000; omega)
/-- the lightest of some: no other is lighter; of those as light none has a lesser number -/
def isLight (σ : zS) (n : Nat) (f : Nat) : Prop := f < n ∧ ∀ k : Nat, k < n → σ 147 (121 + (f : Int)) < σ 147 (121 + (k : Int)) ∨ (σ 147 (121 + (f : Int)) = σ 147 (121 + (k : Int)) ∧ σ 144 (348 + 10 * (f : Int)) ≤ σ 144 (348 + 10 * (k : Int)))
theorem s_light4 {σ : zS} {N : Nat} (hN : σ 144 0 = (N : Int)) (hN2 : N ≤ 239) : ∀ (d k n f : Nat), k + d = N → d < n → isLight σ k f → ∃ f', isLight σ N f' ∧ g_m_lightest_L4 n (f : Int) (k : Int) σ = some ((f' : Int), σ)
  | _, _, 0, _, _, h, _ => absurd h (Nat.not_lt_zero _)
  | 0, k, n + 1, f, hk, _, hf => by
    have : k = N := by omega
    subst this
    refine ⟨f, hf, ?_⟩
    unfold g_m_lightest_L4
    simp only [hN]
    rw [if_pos (Int.le_refl _)]
  | d + 1, k, n + 1, f, hk, hn, hf => by
    have hfk := hf.1
    have take : isLight σ (k + 1) k ∨ isLight σ (k + 1) f := by
      by_cases c : σ 147 (121 + (k : Int)) < σ 147 (121 + (f : Int)) ∨ (σ 147 (121 + (k : Int)) = σ 147 (121 + (f : Int)) ∧ σ 144 (348 + 10 * (k : Int)) < σ 144 (348 + 10 * (f : Int)))
      · refine Or.inl ⟨by omega, fun t ht => ?_⟩
        by_cases htk : t = k
        · subst htk; exact Or.inr ⟨rfl, Int.le_refl _⟩
        · have := hf.2 t (by omega); omega
      · refine Or.inr ⟨by omega, fun t ht => ?_⟩
        by_cases htk : t = k
        · subst htk; omega
        · exact hf.2 t (by omega)
    have e1 : g_m_lightest_L4 (n + 1) (f : Int) (k : Int) σ = g_m_lightest_L4 n (((if σ 147 (121 + (k : Int)) < σ 147 (121 + (f : Int)) ∨ (σ 147 (121 + (k : Int)) = σ 147 (121 + (f : Int)) ∧ σ 144 (348 + 10 * (k : Int)) < σ 144 (348 + 10 * (f : Int))) then k else f) : Nat) : Int) ((k + 1 : Nat) : Int) σ := by
      conv => lhs; unfold g_m_lightest_L4
      unfold g_m_lightest_L85 g_m_lightest_L89 g_m_lightest_L90 g_m_lightest_L100
      simp only [hN]
      rw [if_neg (by omega), w32_id (x := 121 + (k : Int)) (by omega) (by omega), w32_id (x := 121 + (f : Int)) (by omega) (by omega), w32_id (x := (k : Int) + 1) (by omega) (by omega), if_pos (by omega), if_pos (by omega), if_neg (show ¬ ((1 : Int) = 0) by decide), if_pos trivial, show ((k + 1 : Nat) : Int) = (k : Int) + 1 by omega]
      by_cases c1 : σ 147 (121 + (k : Int)) < σ 147 (121 + (f : Int))
      · rw [if_pos (lCmp_lt.mpr c1), if_pos (Or.inl c1)]
      · rw [if_neg (fun e => c1 (lCmp_lt.mp e)), if_pos (by omega), if_pos (by omega)]
        by_cases c2 : σ 147 (121 + (k : Int)) = σ 147 (121 + (f : Int))
        · rw [if_neg (fun e => e (lCmp_eq.mpr c2)), s_region (by omega) (by omega)]
          rw [Option.bind_some]
          try dsimp only
          rw [s_region (by omega) (by omega)]
          rw [Option.bind_some]
          try dsimp only
          rw [w32_id (x := 340 + 10 * (k : Int) + 8) (by omega) (by omega), w32_id (x := 340 + 10 * (f : Int) + 8) (by omega) (by omega), if_pos (by omega), if_pos (by omega), show 340 + 10 * (k : Int) + 8 = 348 + 10 * (k : Int) by omega, show 340 + 10 * (f : Int) + 8 = 348 + 10 * (f : Int) by omega]
          by_cases c3 : σ 144 (348 + 10 * (k : Int)) < σ 144 (348 + 10 * (f : Int))
          · rw [if_neg (show ¬ σ 144 (348 + 10 * (f : Int)) ≤ σ 144 (348 + 10 * (k : Int)) by omega), if_neg (show ¬ ((1 : Int) = 0) by decide), if_pos (Or.inr ⟨c2, c3⟩)]
          · rw [if_pos (show σ 144 (348 + 10 * (f : Int)) ≤ σ 144 (348 + 10 * (k : Int)) by omega), if_pos trivial, if_neg (fun e => e.elim c1 (fun e => c3 e.2))]
        · rw [if_pos (fun e => c2 (lCmp_eq.mp e)), if_neg (fun e => e.elim c1 (fun e => c2 e.1))]
    rw [e1]
    refine s_light4 hN hN2 d (k + 1) n _ (by omega) (by omega) ?_
    by_cases c : σ 147 (121 + (k : Int)) < σ 147 (121 + (f : Int)) ∨ (σ 147 (121 + (k : Int)) = σ 147 (121 + (f : Int)) ∧ σ 144 (348 + 10 * (k : Int)) < σ 144 (348 + 10 * (f : Int)))
    · rw [if_pos c]
      refine ⟨by omega, fun t ht => ?_⟩
      by_cases htk : t = k
      · subst htk; exact Or.inr ⟨rfl, Int.le_refl _⟩
      · have := hf.2 t (by omega); omega
    · rw [if_neg c]
      refine ⟨by omega, fun t ht => ?_⟩
      by_cases htk : t = k
      · subst htk; omega
      · exact hf.2 t (by omega)
theorem s_lightest {σ : zS} {N : Nat} (hN : σ 144 0 = (N : Int)) (hN1 : 0 < N) (hN2 : N ≤ 239) : ∃ f, isLight σ N f ∧ g_m_lightest σ = some ((f : Int), σ) := by
  refine s_light4 hN hN2 (N - 1) 1 zK 0 (by omega) (by show _ < 1000000; omega) ⟨by decide, fun k hk => ?_⟩
  have : k = 0 := by omega
  subst this
  exact Or.inr ⟨rfl, Int.le_refl _⟩
end
section
/-! 37.ref7 -/
/-! THE REFERENCE over the typed memory: trimming, a query -/
/-- all that the regions' part of a state says, told by another one's -/
theorem RI_of {σ s : zS} {N : Nat} (h : RI σ N) (e : ∀ k : Nat, k < N → (rgA s (k : Int)).1 = (rgA σ (k : Int)).1 ∧ (rgA s (k : Int)).2.1 = (rgA σ (k : Int)).2.1) : RI s N := by
  refine ⟨fun k hk => ?_, fun k1 k2 h1 h2 => ?_⟩
  · obtain ⟨e1, e2⟩ := e k hk
    unfold rOk
    rw [e1, e2]
    exact h.1 k hk
  · rw [(e k1 (by omega)).1, (e k2 h2).1]
    exact h.2 k1 k2 h1 h2
/-- how many regions have a HOT -/
def hotC (σ : zS) : Nat → Nat
  | 0 => 0
  | n + 1 => hotC σ n + (if 0 ≤ σ 144 (344 + 10 * (n : Int)) then 1 else 0)
theorem hotC_le (σ : zS) : ∀ n, hotC σ n ≤ n
  | 0 => Nat.le_refl _
  | n + 1 => by
    have := hotC_le σ n
    show hotC σ n + _ ≤ n + 1
    split <;> omega
theorem hotC_eq {σ s : zS} : ∀ n : Nat, (∀ k : Nat, k < n → s 144 (344 + 10 * (k : Int)) = σ 144 (344 + 10 * (k : Int))) → hotC s n = hotC σ n
  | 0, _ => rfl
  | n + 1, h => by
    show hotC s n + _ = hotC σ n + _
    rw [hotC_eq n (fun k hk => h k (by omega)), h n (by omega)]
theorem hotC_drop {σ s : zS} {f : Nat} (hf : 0 ≤ σ 144 (344 + 10 * (f : Int))) (hs : s 144 (344 + 10 * (f : Int)) < 0) : ∀ n : Nat, f < n → (∀ k : Nat, k < n → k ≠ f → s 144 (344 + 10 * (k : Int)) = σ 144 (344 + 10 * (k : Int))) → hotC s n + 1 = hotC σ n
  | 0, h, _ => absurd h (Nat.not_lt_zero _)
  | n + 1, h, he => by
    show hotC s n + _ + 1 = hotC σ n + _
    by_cases c : f = n
    · subst c
      rw [hotC_eq f (fun k hk => he k (by omega) (by omega)), if_neg (by omega), if_pos hf]
    · have := hotC_drop hf hs n (by omega) (fun k hk => he k (by omega))
      rw [he n (by omega) (fun e => c e.symm)]
      omega
theorem hotC_goes {σ s : zS} {f : Nat} : ∀ n : Nat, (∀ k : Nat, k < n → s 144 (344 + 10 * (k : Int)) = if k < f then σ 144 (344 + 10 * (k : Int)) else σ 144 (344 + 10 * ((k : Int) + 1))) → hotC s n ≤ hotC σ (n + 1)
  | 0, _ => Nat.zero_le _
  | n + 1, h => by
    have ih := hotC_goes n (fun k hk => h k (by omega))
    have hn := h n (by omega)
    show hotC s n + _ ≤ hotC σ (n + 1) + _
    by_cases c : n < f
    · have e : hotC s n = hotC σ n := hotC_eq n (fun k hk => by rw [h k (by omega), if_pos (by omega)])
      rw [hn, if_pos c, e]
      show _ ≤ hotC σ n + _ + _
      omega
    · rw [hn, if_neg c, show (n : Int) + 1 = ((n + 1 : Nat) : Int) by omega]
      omega
def tr1 (σ : zS) (f : Int) : zS := if σ 147 0 < σ 147 (121 + f) then zu σ 147 0 (σ 147 (121 + f)) else σ
theorem tr1_a {σ : zS} {f : Int} {a : Nat} {j : Int} (h : a ≠ 147 ∨ j ≠ 0) : tr1 σ f a j = σ a j := by
  unfold tr1
  split
  · exact zu_c h
  · rfl
theorem tr1_bx {σ : zS} {f : Int} {j : Int} : bxA (tr1 σ f) 144 j = bxA σ 144 j := by
  unfold bxA
  rw [tr1_a (Or.inl (by decide)), tr1_a (Or.inl (by decide)), tr1_a (Or.inl (by decide)), tr1_a (Or.inl (by decide))]
def trE (σ : zS) (f N : Int) : zS := zu (zu (gS2 σ f N 0) 144 0 (N - 1)) 144 4 (w32 (σ 144 4 + 1))
def trH (σ : zS) (f : Int) : zS := zu (zb (zb σ 144 (340 + 10 * f) (bxA σ 144 (344 + 10 * f))) 144 (344 + 10 * f) (-5, -5, -5, -5)) 144 (349 + 10 * f) (w32 (Int.tdiv (σ 144 (349 + 10 * f)) 2))
def trW (s : zS) (f : Int) : zS := zu s 147 (121 + f) (wgt (s 147 0) (costN s (bxA s 144 (340 + 10 * f))) (s 144 (349 + 10 * f)) (1 + rowsN s (bxA s 144 (340 + 10 * f))))
def trS (σ : zS) (f : Int) : zS := zu (trW (trH σ f) f) 144 5 (w32 (σ 144 5 + 1))
/-- what a turn of trimming gives: the region f is shrunk, or goes -/
def trT (σ : zS) (f N : Int) : zS := if σ 144 16 = 1 ∧ 0 ≤ σ 144 (344 + 10 * f) ∧ bArea (bxA σ 144 (344 + 10 * f)) < bArea (bxA σ 144 (340 + 10 * f)) then trS (tr1 σ f) f else trE (tr1 σ f) f N
theorem s_trims181 {g : zS → Option (Unit × zS)} {σ : zS} {f N : Nat} (hN : σ 144 0 = (N : Int)) (hf : f < N) (hN2 : N ≤ 239) : g_m_trims_L181 g (f : Int) σ = g (trE σ (f : Int) (N : Int)) := by
  unfold g_m_trims_L181 g_m_trims_L196
  rw [s_goes hf hN hN2]
  rw [Option.bind_some]
  try dsimp only
  have e : zu (gS2 σ (f : Int) (N : Int) 0) 144 0 ((N : Int) - 1) 144 4 = σ 144 4 := by
    rw [zu_i (by decide)]
    unfold gS2
    rw [if_neg (fun e => by omega), if_neg (fun e => by omega)]
  rw [e]
  rfl
theorem s_trims74 {g : zS → Option (Unit × zS)} {σ : zS} {f N : Nat} (hN : σ 144 0 = (N : Int)) (hf : f < N) (hN2 : N ≤ 239) : g_m_trims_L74 g (f : Int) (340 + 10 * (f : Int)) σ = g (if σ 144 16 = 1 ∧ 0 ≤ σ 144 (344 + 10 * (f : Int)) ∧ bArea (bxA σ 144 (344 + 10 * (f : Int))) < bArea (bxA σ 144 (340 + 10 * (f : Int))) then trS σ (f : Int) else trE σ (f : Int) (N : Int)) := by
  have l := l144
  unfold g_m_trims_L74
  rw [s_trims181 hN hf hN2]
  show (if σ 144 16 ≠ 1 then _ else _) = _
  by_cases c1 : σ 144 16 = 1
  · rw [if_neg (fun e => e c1), w32_id (x := 340 + 10 * (f : Int) + 4) (by omega) (by omega), w32_id (x := 340 + 10 * (f : Int) + 9) (by omega) (by omega), if_pos (by omega), show 340 + 10 * (f : Int) + 4 = 344 + 10 * (f : Int) by omega, show 340 + 10 * (f : Int) + 9 = 349 + 10 * (f : Int) by omega]
    show (if σ 144 (344 + 10 * (f : Int)) < 0 then _ else _) = _
    by_cases c2 : 0 ≤ σ 144 (344 + 10 * (f : Int))
    · rw [if_neg (by omega), s_area (by omega) (by omega) (by omega)]
      rw [Option.bind_some]
      try dsimp only
      rw [s_area (by omega) (by omega) (by omega)]
      rw [Option.bind_some]
      try dsimp only
      by_cases c3 : bArea (bxA σ 144 (344 + 10 * (f : Int))) < bArea (bxA σ 144 (340 + 10 * (f : Int)))
      · rw [if_neg (by omega), if_pos ⟨c1, c2, c3⟩, s_copies (by omega) (by omega) (by omega) (by omega) (by omega) (by omega)]
        rw [Option.bind_some]
        try dsimp only
        rw [s_sets (by omega) (by omega) (by omega)]
        rw [Option.bind_some]
        try dsimp only
        rw [if_pos (by omega), if_pos (by omega), zb_i (by omega), zb_i (by omega), s_weighs (by omega) (by omega)]
        rw [Option.bind_some]
        try dsimp only
        unfold g_m_trims_L196
        have e : ∀ v, zu (trH σ (f : Int)) 147 (121 + (f : Int)) v 144 5 = σ 144 5 := by
          intro v
          rw [zu_a (by decide)]
          unfold trH
          rw [zu_i (by omega), zb_i (by omega), zb_i (by omega)]
        show g (zu (trW (trH σ (f : Int)) (f : Int)) 144 5 (w32 (trW (trH σ (f : Int)) (f : Int) 144 5 + 1))) = _
        have e2 : trW (trH σ (f : Int)) (f : Int) 144 5 = σ 144 5 := e _
        rw [e2]
        rfl
      · rw [if_pos (by omega), if_neg (fun e => c3 e.2.2), s_trims181 hN hf hN2]
    · rw [if_pos (by omega), if_neg (fun e => c2 e.2.1)]
  · rw [if_pos c1, if_neg (fun e => c1 e.1)]
theorem s_trims30 {g : zS → Option (Unit × zS)} {σ : zS} {N : Nat} (hN : σ 144 0 = (N : Int)) (hN1 : 0 < N) (hN2 : N ≤ 239) : ∃ f, isLight σ N f ∧ g_m_trims_L30 g σ = g (trT σ (f : Int) (N : Int)) := by
  obtain ⟨f, hf, e⟩ := s_lightest hN hN1 hN2
  have hfN := hf.1
  refine ⟨f, hf, ?_⟩
  unfold g_m_trims_L30
  rw [e]
  rw [Option.bind_some]
  try dsimp only
  rw [s_region (by omega) (by omega)]
  rw [Option.bind_some]
  try dsimp only
  rw [w32_id (x := 121 + (f : Int)) (by omega) (by omega), if_pos (by omega)]
  have e2 : trT σ (f : Int) (N : Int) = (if tr1 σ (f : Int) 144 16 = 1 ∧ 0 ≤ tr1 σ (f : Int) 144 (344 + 10 * (f : Int)) ∧ bArea (bxA (tr1 σ (f : Int)) 144 (344 + 10 * (f : Int))) < bArea (bxA (tr1 σ (f : Int)) 144 (340 + 10 * (f : Int))) then trS (tr1 σ (f : Int)) (f : Int) else trE (tr1 σ (f : Int)) (f : Int) (N : Int)) := by
    rw [tr1_a (Or.inl (by decide)), tr1_a (Or.inl (by decide)), tr1_bx, tr1_bx]
    rfl
  rw [e2, ← s_trims74 (g := g) (σ := tr1 σ (f : Int)) (by rw [tr1_a (Or.inl (by decide))]; exact hN) hfN hN2]
  by_cases c : σ 147 0 < σ 147 (121 + (f : Int))
  · rw [if_neg (fun e => lCmp_gt.mp e c), if_pos (by omega)]
    unfold tr1
    rw [if_pos c]
  · rw [if_pos (lCmp_gt.mpr c)]
    unfold tr1
    rw [if_neg c]
theorem trH_a {σ : zS} {f : Int} {a : Nat} {j : Int} (h : a ≠ 144 ∨ j < 340 + 10 * f ∨ 350 + 10 * f ≤ j) : trH σ f a j = σ a j := by
  unfold trH
  rw [zu_c (by omega)]
  rcases h with h | h
  · rw [zb_a h, zb_a h]
  · rw [zb_i (by omega), zb_i (by omega)]
theorem trS_a {σ : zS} {f : Int} {a : Nat} {j : Int} (h1 : a ≠ 144 ∨ j ≠ 5) (h2 : a ≠ 147 ∨ j ≠ 121 + f) : trS σ f a j = trH σ f a j := by
  unfold trS trW
  rw [zu_c h1, zu_c h2]
theorem trS_bx {σ : zS} {f j : Int} (h : 5 < j) : bxA (trS σ f) 144 j = bxA (trH σ f) 144 j := by
  unfold bxA
  rw [trS_a (by omega) (Or.inl (by decide)), trS_a (by omega) (Or.inl (by decide)), trS_a (by omega) (Or.inl (by decide)), trS_a (by omega) (Or.inl (by decide))]
theorem trH_bx {σ : zS} {f : Int} : bxA (trH σ f) 144 (340 + 10 * f) = bxA σ 144 (344 + 10 * f) ∧ bxA (trH σ f) 144 (344 + 10 * f) = (-5, -5, -5, -5) := by
  unfold trH
  constructor
  · rw [zu_bxi (by omega), zb_bxi (by omega), zb_bx rfl]
  · rw [zu_bxi (by omega), zb_bx rfl]
theorem trH_bxo {σ : zS} {f j : Int} (h : j + 4 ≤ 340 + 10 * f ∨ 350 + 10 * f ≤ j) : bxA (trH σ f) 144 j = bxA σ 144 j := by
  unfold bxA
  rw [trH_a (by omega), trH_a (by omega), trH_a (by omega), trH_a (by omega)]
theorem rgA_trE {σ : zS} {f N k : Int} (hi : 0 ≤ f) (hN : N ≤ 239) (hk : 0 ≤ k) (hkN : k < N - 1) : rgA (trE σ f N) k = if k < f then rgA σ k else rgA σ (k + 1) := by
  rw [← rgA_gS2 hi hN hk hkN]
  unfold trE rgA
  generalize zu (gS2 σ f N 0) 144 0 (N - 1) = S
  rw [zu_bxi (j := 340 + 10 * k) (by omega), zu_bxi (j := 344 + 10 * k) (by omega), zu_i (j := 348 + 10 * k) (by omega), zu_i (j := 349 + 10 * k) (by omega), zu_a (by decide)]
theorem trE_a {σ : zS} {f N : Int} {a : Nat} {j : Int} (hf : 0 ≤ f) (h1 : a ≠ 144 ∨ (j ≠ 0 ∧ j ≠ 4 ∧ j < 340)) (h2 : a ≠ 147 ∨ j < 121) : trE σ f N a j = σ a j := by
  unfold trE
  rw [zu_c (by omega), zu_c (by omega)]
  unfold gS2
  rw [if_neg (fun e => by omega), if_neg (fun e => by omega)]
/-- a turn of trimming: fewer regions, or as many with one HOT less -/
theorem trT_ok {σ : zS} {f N : Nat} (hR : RI σ N) (hf : f < N) (hN : σ 144 0 = (N : Int)) (hN2 : N ≤ 239) : ∃ N', N' ≤ N ∧ RI (trT σ (f : Int) (N : Int)) N' ∧ trT σ (f : Int) (N : Int) 144 0 = (N' : Int) ∧ frR σ (trT σ (f : Int) (N : Int)) ∧ N' + hotC (trT σ (f : Int) (N : Int)) N' < N + hotC σ N := by
  have h1R : RI (tr1 σ (f : Int)) N := RI_of hR (fun k hk => ⟨tr1_bx, tr1_bx⟩)
  have h1N : tr1 σ (f : Int) 144 0 = (N : Int) := by rw [tr1_a (Or.inl (by decide))]; exact hN
  have h1H : hotC (tr1 σ (f : Int)) N = hotC σ N := hotC_eq N (fun k hk => tr1_a (Or.inl (by decide)))
  have h1F : frR σ (tr1 σ (f : Int)) := fun a j k1 k2 => tr1_a (by omega)
  unfold trT
  by_cases c : σ 144 16 = 1 ∧ 0 ≤ σ 144 (344 + 10 * (f : Int)) ∧ bArea (bxA σ 144 (344 + 10 * (f : Int))) < bArea (bxA σ 144 (340 + 10 * (f : Int)))
  · rw [if_pos c]
    refine ⟨N, Nat.le_refl _, ?_, ?_, ?_, ?_⟩
    · have hot : (bOk (bxA σ 144 (344 + 10 * (f : Int))) ∧ bSub (bxA σ 144 (344 + 10 * (f : Int))) (bxA σ 144 (340 + 10 * (f : Int)))) := by
        rcases (hR.1 f hf).2 with h | h
        · have h : σ 144 (344 + 10 * (f : Int)) < 0 := h
          omega
        · exact h
      have bxf : (rgA (trS (tr1 σ (f : Int)) (f : Int)) (f : Int)).1 = bxA σ 144 (344 + 10 * (f : Int)) := by
        show bxA _ 144 _ = _
        rw [trS_bx (by omega), trH_bx.1, tr1_bx]
      have bxo : ∀ k : Nat, k ≠ f → rgA (trS (tr1 σ (f : Int)) (f : Int)) (k : Int) = rgA σ (k : Int) := by
        intro k hk
        unfold rgA
        rw [trS_bx (by omega), trS_bx (by omega), trH_bxo (by omega), trH_bxo (by omega), tr1_bx, tr1_bx, trS_a (by omega) (Or.inl (by decide)), trS_a (by omega) (Or.inl (by decide)), trS_a (Or.inl (by decide)) (by omega), trH_a (by omega), trH_a (by omega), trH_a (Or.inl (by decide)), tr1_a (Or.inl (by decide)), tr1_a (Or.inl (by decide)), tr1_a (by omega)]
      refine ⟨fun k hk => ?_, fun k1 k2 hk1 hk2 => ?_⟩
      · by_cases hkf : k = f
        · subst hkf
          refine ⟨by rw [bxf]; exact hot.1, Or.inl ?_⟩
          show (bxA _ 144 _).1 < 0
          rw [trS_bx (by omega), trH_bx.2]
          decide
        · rw [bxo k hkf]; exact hR.1 k hk
      · by_cases h1 : k1 = f
        · subst h1
          rw [bxf, bxo k2 (by omega)]
          intro hm
          exact hR.2 k1 k2 hk1 hk2 (bMt_sub hot.2 ⟨Int.le_refl _, Int.le_refl _, Int.le_refl _, Int.le_refl _⟩ hm)
        · by_cases h2 : k2 = f
          · subst h2
            rw [bxf, bxo k1 (by omega)]
            intro hm
            exact hR.2 k1 k2 hk1 hk2 (bMt_sub ⟨Int.le_refl _, Int.le_refl _, Int.le_refl _, Int.le_refl _⟩ hot.2 hm)
          · rw [bxo k1 h1, bxo k2 h2]
            exact hR.2 k1 k2 hk1 hk2
    · rw [trS_a (by omega) (Or.inl (by decide)), trH_a (by omega)]; exact h1N
    · refine h1F.trans (fun a j k1 k2 => ?_)
      rw [trS_a (by omega) (by omega), trH_a (by omega)]
    · have hd := hotC_drop (σ := tr1 σ (f : Int)) (s := trS (tr1 σ (f : Int)) (f : Int)) (f := f) (by rw [tr1_a (Or.inl (by decide))]; exact c.2.1) (by
        have : (bxA (trS (tr1 σ (f : Int)) (f : Int)) 144 (344 + 10 * (f : Int))).1 = -5 := by rw [trS_bx (by omega), trH_bx.2]
        have e : (bxA (trS (tr1 σ (f : Int)) (f : Int)) 144 (344 + 10 * (f : Int))).1 = trS (tr1 σ (f : Int)) (f : Int) 144 (344 + 10 * (f : Int)) := rfl
        omega) N hf (fun k hk hkf => by rw [trS_a (by omega) (Or.inl (by decide)), trH_a (by omega)])
      omega
  · rw [if_neg c]
    have e0 : ∀ k : Nat, k < N - 1 → rgA (trE (tr1 σ (f : Int)) (f : Int) (N : Int)) (k : Int) = if k < f then rgA (tr1 σ (f : Int)) (k : Int) else rgA (tr1 σ (f : Int)) ((k + 1 : Nat) : Int) := by
      intro k hk
      rw [rgA_trE (by omega) (by omega) (by omega) (by omega)]
      by_cases h : k < f
      · rw [if_pos h, if_pos (by omega)]
      · rw [if_neg h, if_neg (by omega), show (k : Int) + 1 = ((k + 1 : Nat) : Int) by omega]
    refine ⟨N - 1, by omega, ⟨fun k hk => ?_, fun k1 k2 hk1 hk2 => ?_⟩, ?_, ?_, ?_⟩
    · rw [e0 k hk]
      split
      · exact h1R.1 k (by omega)
      · exact h1R.1 (k + 1) (by omega)
    · rw [e0 k1 (by omega), e0 k2 hk2]
      by_cases a1 : k1 < f
      · rw [if_pos a1]
        by_cases a2 : k2 < f
        · rw [if_pos a2]; exact h1R.2 k1 k2 hk1 (by omega)
        · rw [if_neg a2]; exact h1R.2 k1 (k2 + 1) (by omega) (by omega)
      · rw [if_neg a1, if_neg (by omega)]
        exact h1R.2 (k1 + 1) (k2 + 1) (by omega) (by omega)
    · unfold trE
      rw [zu_i (by decide), zu_e rfl]
      omega
    · refine h1F.trans (fun a j k1 k2 => ?_)
      exact trE_a (by omega) (by omega) (by omega)
    · have hg := hotC_goes (σ := tr1 σ (f : Int)) (s := trE (tr1 σ (f : Int)) (f : Int) (N : Int)) (f := f) (N - 1) (fun k hk => by
        have e1 := congrArg (fun r : Rg => r.2.1.1) (e0 k hk)
        have e2 : (rgA (trE (tr1 σ (f : Int)) (f : Int) (N : Int)) (k : Int)).2.1.1 = trE (tr1 σ (f : Int)) (f : Int) (N : Int) 144 (344 + 10 * (k : Int)) := rfl
        rw [← e2, e1]
        by_cases h : k < f
        · rw [if_pos h, if_pos h]; rfl
        · rw [if_neg h, if_neg h, show (k : Int) + 1 = ((k + 1 : Nat) : Int) by omega]; rfl)
      rw [show N - 1 + 1 = N by omega] at hg
      omega
theorem s_trims0 : ∀ (d n : Nat) (σ : zS) (N : Nat), N + hotC σ N ≤ d → d < n → RI σ N → σ 144 0 = (N : Int) → N ≤ 239 → 1 ≤ σ 144 13 → 1 ≤ σ 144 12 → ∃ s N', g_m_trims_L0 n σ = some ((), s) ∧ N' ≤ N ∧ RI s N' ∧ s 144 0 = (N' : Int) ∧ frR σ s ∧ (N' : Int) ≤ σ 144 13
  | _, 0, _, _, _, h, _, _, _, _, _ => absurd h (Nat.not_lt_zero _)
  | d, n + 1, σ, N, hd, hn, hR, hN, hN2, h13, h12 => by
    have stop : g_m_trims_L0 (n + 1) σ = if σ 144 13 < (N : Int) ∨ σ 144 12 < sumC σ N then g_m_trims_L30 (g_m_trims_L0 n) σ else some ((), σ) := by
      conv => lhs; unfold g_m_trims_L0
      simp only [hN]
      by_cases c1 : σ 144 13 < (N : Int)
      · rw [if_pos c1, if_pos (Or.inl c1)]
      · rw [if_neg c1, s_sizes hN hN2]
        rw [Option.bind_some]
        try dsimp only
        by_cases c2 : σ 144 12 < sumC σ N
        · rw [if_neg (by omega), if_pos (Or.inr c2)]
        · rw [if_pos (by omega), if_neg (by omega)]
    rw [stop]
    by_cases c : σ 144 13 < (N : Int) ∨ σ 144 12 < sumC σ N
    · rw [if_pos c]
      have hN1 : 0 < N := by
        rcases Nat.eq_zero_or_pos N with h0 | h0
        · subst h0
          have : sumC σ 0 = 0 := rfl
          omega
        · exact h0
      obtain ⟨f, hf, e⟩ := s_trims30 (g := g_m_trims_L0 n) hN hN1 hN2
      rw [e]
      obtain ⟨N1, k1, k2, k3, k4, k5⟩ := trT_ok hR hf.1 hN hN2
      have e13 : trT σ (f : Int) (N : Int) 144 13 = σ 144 13 := k4 144 13 (by omega) (Or.inl (by decide))
      have e12 : trT σ (f : Int) (N : Int) 144 12 = σ 144 12 := k4 144 12 (by omega) (Or.inl (by decide))
      cases d with
      | zero => omega
      | succ d =>
        obtain ⟨s, N', m1, m2, m3, m4, m5, m6⟩ := s_trims0 d n (trT σ (f : Int) (N : Int)) N1 (by omega) (by omega) k2 k3 (by omega) (by omega) (by omega)
        exact ⟨s, N', m1, by omega, m3, m4, k4.trans m5, by omega⟩
    · rw [if_neg c]
      exact ⟨σ, N, rfl, Nat.le_refl _, hR, hN, frR.refl σ, by omega⟩
theorem s_trims {σ : zS} {N : Nat} (hR : RI σ N) (hN : σ 144 0 = (N : Int)) (hN2 : N ≤ 239) (h13 : 1 ≤ σ 144 13) (h12 : 1 ≤ σ 144 12) : ∃ s N', g_m_trims σ = some ((), s) ∧ N' ≤ N ∧ RI s N' ∧ s 144 0 = (N' : Int) ∧ frR σ s ∧ (N' : Int) ≤ σ 144 13 := by
  have := hotC_le σ N
  exact s_trims0 (N + hotC σ N) zK σ N (Nat.le_refl _) (by show _ < 1000000; omega) hR hN hN2 h13 h12
end
