/-! THE METHODS over the typed memory, 2 (by wip/zg.py) -/
def g_ca_hit (a0 : Nat) (x1 : Int) (x2 : Int) (σ : zS) : Option (Unit × zS) :=
  if 0 ≤ x1 ∧ x1 < 181 then
  let v_13 := σ (a0 + 5) x1
  (g_jMath_min_291 9999 (w32 (v_13 + 1)) σ).bind fun o_16 =>
  if 0 ≤ x1 ∧ x1 < 181 then
  let s_19 := zu o_16.2 (a0 + 5) x1 o_16.1
  if 0 ≤ x1 ∧ x1 < 181 then
  let v_30 := s_19 (a0 + 6) x1
  (g_b_around v_30 x2 s_19).bind fun o_32 =>
  if 0 ≤ x1 ∧ x1 < 181 then
  let s_35 := zu o_32.2 (a0 + 6) x1 o_32.1
  (g_ca_weigh a0 x1 s_35).bind fun o_38 =>
  some ((), o_38.2)
  else none
  else none
  else none
  else none
set_option maxHeartbeats 4000000 in
theorem g_ca_hit_ok {xl : Nat} {xs : Nat → Int32} {a0 : Nat} (ha0 : zIn [48, 106] a0 = true) {X1 : Int32} {x1 : Int} (hx1 : X1.toInt = x1) {X2 : Int32} {x2 : Int} (hx2 : X2.toInt = x2) {σ : zS} {p : Nat} {m : zM} {o : Unit × zS} (H : zRep xl xs p m σ) (h : g_ca_hit a0 x1 x2 σ = some o) : zGo xl xs (fun p' => p = p') 4 27 0 (z_can 27 0 (lv_args 0 [.ref a0, .int X1, .int X2])) [] m vV o.2 := by
  have hq : z_mth 27 = some z_r27 := rfl
  unfold g_ca_hit at h
  show zGo xl xs (fun p' => p = p') 4 27 0 [(0, .ref a0), (1, .int X1), (2, .int X2)] [] m vV o.2
  refine r_p hq 1 (pc' := 1) (L' := [(0, .ref a0), (1, .int X1), (2, .int X2)]) (st' := [.ref a0]) rfl ?_
  refine r_gR (b := a0 + 5) (pc' := 4) (L' := [(0, .ref a0), (1, .int X1), (2, .int X2)]) H hq (z_at.mk 3 rfl rfl) rfl (zIn_all (l := [48, 106]) (p := fun a => zQ a 12 5 (100 + a + 5)) rfl ha0) rfl rfl ?_
  refine r_p hq 3 (pc' := 9) (L' := [(0, .ref a0), (1, .int X1), (2, .int X2)]) (st' := [.ref a0, .int ((9999 : Int32)), .int X1, .ref (a0 + 5)]) rfl ?_
  refine r_gR (b := a0 + 5) (pc' := 12) (L' := [(0, .ref a0), (1, .int X1), (2, .int X2)]) H hq (z_at.mk 3 rfl rfl) rfl (zIn_all (l := [48, 106]) (p := fun a => zQ a 12 5 (100 + a + 5)) rfl ha0) rfl rfl ?_
  refine r_p hq 1 (pc' := 13) (L' := [(0, .ref a0), (1, .int X1), (2, .int X2)]) (st' := [.int X1, .ref (a0 + 5), .int ((9999 : Int32)), .int X1, .ref (a0 + 5)]) rfl ?_
  obtain ⟨g_13, h⟩ := z_ifo_some h
  refine r_ia (pc' := 14) (L' := [(0, .ref a0), (1, .int X1), (2, .int X2)]) H hq (z_at.mk 1 rfl rfl) (zIn_all (l := [48, 106]) (p := fun a => zAr (a + 5) 0 181) rfl ha0) hx1 g_13 rfl rfl ?_
  intro V_13 hV_13
  refine r_p hq 2 (pc' := 16) (L' := [(0, .ref a0), (1, .int X1), (2, .int X2)]) (st' := [.int (V_13 + ((1 : Int32))), .int ((9999 : Int32)), .int X1, .ref (a0 + 5)]) rfl ?_
  obtain ⟨o_16, h_16, h⟩ := Option.bind_eq_some_iff.mp h
  refine r_csI (pc' := 19) (L' := [(0, .ref a0), (1, .int X1), (2, .int X2)]) (As := [.int ((9999 : Int32)), .int (V_13 + ((1 : Int32)))]) (rest := [.int X1, .ref (a0 + 5)]) (j := 291) hq (z_at.mk 3 rfl rfl) (Or.inl ⟨rfl, rfl⟩) rfl rfl (by omega) (g_jMath_min_291_ok (rfl : (9999 : Int32).toInt = 9999) (tx_iadd hV_13 (rfl : (1 : Int32).toInt = 1)) H h_16) rfl rfl ?_
  intro R_16 m_16 p_16 e_16 hR_16 H_16
  subst e_16
  obtain ⟨g_19, h⟩ := z_ifo_some h
  refine r_is (pc' := 20) (L' := [(0, .ref a0), (1, .int X1), (2, .int X2)]) H_16 hq (z_at.mk 1 rfl rfl) (zIn_all (l := [48, 106]) (p := fun a => zAr (a + 5) 0 181) rfl ha0) hx1 g_19 hR_16 rfl rfl ?_
  intro m_19 H_19
  refine r_p hq 1 (pc' := 21) (L' := [(0, .ref a0), (1, .int X1), (2, .int X2)]) (st' := [.ref a0]) rfl ?_
  refine r_gR (b := a0 + 6) (pc' := 24) (L' := [(0, .ref a0), (1, .int X1), (2, .int X2)]) H_19 hq (z_at.mk 3 rfl rfl) rfl (zIn_all (l := [48, 106]) (p := fun a => zQ a 12 6 (100 + a + 6)) rfl ha0) rfl rfl ?_
  refine r_p hq 2 (pc' := 26) (L' := [(0, .ref a0), (1, .int X1), (2, .int X2)]) (st' := [.ref a0, .int X1, .ref (a0 + 6)]) rfl ?_
  refine r_gR (b := a0 + 6) (pc' := 29) (L' := [(0, .ref a0), (1, .int X1), (2, .int X2)]) H_19 hq (z_at.mk 3 rfl rfl) rfl (zIn_all (l := [48, 106]) (p := fun a => zQ a 12 6 (100 + a + 6)) rfl ha0) rfl rfl ?_
  refine r_p hq 1 (pc' := 30) (L' := [(0, .ref a0), (1, .int X1), (2, .int X2)]) (st' := [.int X1, .ref (a0 + 6), .int X1, .ref (a0 + 6)]) rfl ?_
  obtain ⟨g_30, h⟩ := z_ifo_some h
  refine r_ia (pc' := 31) (L' := [(0, .ref a0), (1, .int X1), (2, .int X2)]) H_19 hq (z_at.mk 1 rfl rfl) (zIn_all (l := [48, 106]) (p := fun a => zAr (a + 6) 0 181) rfl ha0) hx1 g_30 rfl rfl ?_
  intro V_30 hV_30
  refine r_p hq 1 (pc' := 32) (L' := [(0, .ref a0), (1, .int X1), (2, .int X2)]) (st' := [.int X2, .int V_30, .int X1, .ref (a0 + 6)]) rfl ?_
  obtain ⟨o_32, h_32, h⟩ := Option.bind_eq_some_iff.mp h
  refine r_csI (pc' := 35) (L' := [(0, .ref a0), (1, .int X1), (2, .int X2)]) (As := [.int V_30, .int X2]) (rest := [.int X1, .ref (a0 + 6)]) (j := 11) hq (z_at.mk 3 rfl rfl) (Or.inl ⟨rfl, rfl⟩) rfl rfl (by omega) (g_b_around_ok hV_30 hx2 H_19 h_32) rfl rfl ?_
  intro R_32 m_32 p_32 e_32 hR_32 H_32
  subst e_32
  obtain ⟨g_35, h⟩ := z_ifo_some h
  refine r_is (pc' := 36) (L' := [(0, .ref a0), (1, .int X1), (2, .int X2)]) H_32 hq (z_at.mk 1 rfl rfl) (zIn_all (l := [48, 106]) (p := fun a => zAr (a + 6) 0 181) rfl ha0) hx1 g_35 hR_32 rfl rfl ?_
  intro m_35 H_35
  refine r_p hq 2 (pc' := 38) (L' := [(0, .ref a0), (1, .int X1), (2, .int X2)]) (st' := [.int X1, .ref a0]) rfl ?_
  obtain ⟨o_38, h_38, h⟩ := Option.bind_eq_some_iff.mp h
  refine r_cvV (pc' := 41) (L' := [(0, .ref a0), (1, .int X1), (2, .int X2)]) (Ps := [.int X1]) (rest := []) hq (z_at.mk 3 rfl rfl) (Or.inl ⟨rfl, rfl⟩) rfl rfl (by decide) (by decide) rfl (Nat.not_lt.mpr (Nat.le_of_ble_eq_true rfl)) rfl rfl (z_cat_le 0 rfl (by decide)) (z_lgl_le 2 rfl (by decide)) (by decide) (H_35.tg (zIn_all (l := [48, 106]) (p := fun a => zT a 12) rfl ha0)) (by omega) (g_ca_weigh_ok (zIn_all (l := [48, 106]) (p := fun a => zIn [48, 106] a) rfl ha0) hx1 H_35 h_38) rfl rfl ?_
  intro m_38 p_38 e_38 H_38
  subst e_38
  cases h
  exact r_rv hq (z_at.mk 1 rfl rfl) rfl rfl H_38
def g_ca_ask (a0 : Nat) (x1 : Int) (σ : zS) : Option (Unit × zS) :=
  let v_2 := σ a0 10
  let s_7 := zu σ a0 10 (w32 (v_2 + 1))
  let v_12 := s_7 a0 11
  (g_ca_costOf a0 x1 s_7).bind fun o_17 =>
  let s_21 := zu o_17.2 a0 11 (w32 (v_12 + o_17.1))
  some ((), s_21)
set_option maxHeartbeats 4000000 in
theorem g_ca_ask_ok {xl : Nat} {xs : Nat → Int32} {a0 : Nat} (ha0 : zIn [48, 106] a0 = true) {X1 : Int32} {x1 : Int} (hx1 : X1.toInt = x1) {σ : zS} {p : Nat} {m : zM} {o : Unit × zS} (H : zRep xl xs p m σ) (h : g_ca_ask a0 x1 σ = some o) : zGo xl xs (fun p' => p = p') 4 29 0 (z_can 29 0 (lv_args 0 [.ref a0, .int X1])) [] m vV o.2 := by
  have hq : z_mth 29 = some z_r29 := rfl
  unfold g_ca_ask at h
  show zGo xl xs (fun p' => p = p') 4 29 0 [(0, .ref a0), (1, .int X1)] [] m vV o.2
  refine r_p hq 2 (pc' := 2) (L' := [(0, .ref a0), (1, .int X1)]) (st' := [.ref a0, .ref a0]) rfl ?_
  refine r_gI (pc' := 5) (L' := [(0, .ref a0), (1, .int X1)]) H hq (z_at.mk 3 rfl rfl) rfl (zIn_all (l := [48, 106]) (p := fun a => zQ a 12 10 0) rfl ha0) rfl rfl ?_
  intro V_2 hV_2
  refine r_p hq 2 (pc' := 7) (L' := [(0, .ref a0), (1, .int X1)]) (st' := [.int (V_2 + ((1 : Int32))), .ref a0]) rfl ?_
  refine r_pI (X := V_2 + ((1 : Int32))) (pc' := 10) (L' := [(0, .ref a0), (1, .int X1)]) H hq (z_at.mk 3 rfl rfl) rfl (zIn_all (l := [48, 106]) (p := fun a => zQ a 12 10 0) rfl ha0) (tx_iadd hV_2 (rfl : (1 : Int32).toInt = 1)) (by decide) rfl rfl rfl rfl ?_
  intro m_7 H_7
  refine r_p hq 2 (pc' := 12) (L' := [(0, .ref a0), (1, .int X1)]) (st' := [.ref a0, .ref a0]) rfl ?_
  refine r_gI (pc' := 15) (L' := [(0, .ref a0), (1, .int X1)]) H_7 hq (z_at.mk 3 rfl rfl) rfl (zIn_all (l := [48, 106]) (p := fun a => zQ a 12 11 0) rfl ha0) rfl rfl ?_
  intro V_12 hV_12
  refine r_p hq 2 (pc' := 17) (L' := [(0, .ref a0), (1, .int X1)]) (st' := [.int X1, .ref a0, .int V_12, .ref a0]) rfl ?_
  obtain ⟨o_17, h_17, h⟩ := Option.bind_eq_some_iff.mp h
  refine r_cvI (pc' := 20) (L' := [(0, .ref a0), (1, .int X1)]) (Ps := [.int X1]) (rest := [.int V_12, .ref a0]) hq (z_at.mk 3 rfl rfl) (Or.inl ⟨rfl, rfl⟩) rfl rfl (by decide) (by decide) rfl (Nat.not_lt.mpr (Nat.le_of_ble_eq_true rfl)) rfl rfl (z_cat_le 2 rfl (by decide)) (z_lgl_le 2 rfl (by decide)) (by decide) (H_7.tg (zIn_all (l := [48, 106]) (p := fun a => zT a 12) rfl ha0)) (by omega) (g_ca_costOf_ok (zIn_all (l := [48, 106]) (p := fun a => zIn [48, 106] a) rfl ha0) hx1 H_7 h_17) rfl rfl ?_
  intro R_17 m_17 p_17 e_17 hR_17 H_17
  subst e_17
  refine r_p hq 1 (pc' := 21) (L' := [(0, .ref a0), (1, .int X1)]) (st' := [.int (V_12 + R_17), .ref a0]) rfl ?_
  refine r_pI (X := V_12 + R_17) (pc' := 24) (L' := [(0, .ref a0), (1, .int X1)]) H_17 hq (z_at.mk 3 rfl rfl) rfl (zIn_all (l := [48, 106]) (p := fun a => zQ a 12 11 0) rfl ha0) (tx_iadd hV_12 hR_17) (by decide) rfl rfl rfl rfl ?_
  intro m_21 H_21
  cases h
  exact r_rv hq (z_at.mk 1 rfl rfl) rfl rfl H_21
def g_ca_addLast (a0 : Nat) (x1 : Int) (x2 : Int) (x3 : Int) (y4 : Int) (σ : zS) : Option (Int × zS) :=
  let v_1 := σ a0 2
  if v_1 < 181 then
    let v_17 := σ a0 2
    let v_21 := σ a0 8
    if 0 ≤ v_17 ∧ v_17 < 181 then
    let s_24 := zu σ (a0 + 3) v_17 v_21
    let v_30 := s_24 a0 2
    if 0 ≤ v_30 ∧ v_30 < 181 then
    let s_34 := zu s_24 (a0 + 4) v_30 x1
    let v_40 := s_34 a0 2
    if 0 ≤ v_40 ∧ v_40 < 181 then
    let s_44 := zu s_34 (a0 + 5) v_40 x2
    let v_50 := s_44 a0 2
    if 0 ≤ v_50 ∧ v_50 < 181 then
    let s_54 := zu s_44 (a0 + 6) v_50 x3
    let v_60 := s_54 a0 2
    if 0 ≤ v_60 ∧ v_60 < 181 then
    let s_65 := zu s_54 (a0 + 7) v_60 y4
    let v_68 := s_65 a0 8
    let s_73 := zu s_65 a0 8 (w32 (v_68 + 1))
    let v_78 := s_73 a0 2
    let s_83 := zu s_73 a0 2 (w32 (v_78 + 1))
    some (1, s_83)
    else none
    else none
    else none
    else none
    else none
  else
    some (0, σ)
set_option maxHeartbeats 4000000 in
theorem g_ca_addLast_ok {xl : Nat} {xs : Nat → Int32} {a0 : Nat} (ha0 : zIn [48, 106] a0 = true) {X1 : Int32} {x1 : Int} (hx1 : X1.toInt = x1) {X2 : Int32} {x2 : Int} (hx2 : X2.toInt = x2) {X3 : Int32} {x3 : Int} (hx3 : X3.toInt = x3) {Y4 : Int64} {y4 : Int} (hy4 : Y4.toInt = y4) {σ : zS} {p : Nat} {m : zM} {o : Int × zS} (H : zRep xl xs p m σ) (h : g_ca_addLast a0 x1 x2 x3 y4 σ = some o) : zGo xl xs (fun p' => p = p') 1 31 0 (z_can 31 0 (lv_args 0 [.ref a0, .int X1, .int X2, .int X3, .long Y4])) [] m (vI o.1) o.2 := by
  have hq : z_mth 31 = some z_r31 := rfl
  unfold g_ca_addLast at h
  show zGo xl xs (fun p' => p = p') 1 31 0 [(0, .ref a0), (1, .int X1), (2, .int X2), (3, .int X3), (4, .long Y4)] [] m (vI o.1) o.2
  refine r_p hq 1 (pc' := 1) (L' := [(0, .ref a0), (1, .int X1), (2, .int X2), (3, .int X3), (4, .long Y4)]) (st' := [.ref a0]) rfl ?_
  refine r_gI (pc' := 4) (L' := [(0, .ref a0), (1, .int X1), (2, .int X2), (3, .int X3), (4, .long Y4)]) H hq (z_at.mk 3 rfl rfl) rfl (zIn_all (l := [48, 106]) (p := fun a => zQ a 12 2 0) rfl ha0) rfl rfl ?_
  intro V_1 hV_1
  refine r_p hq 1 (pc' := 7) (L' := [(0, .ref a0), (1, .int X1), (2, .int X2), (3, .int X3), (4, .long Y4)]) (st' := [.int ((181 : Int32)), .int V_1]) rfl ?_
  rcases z_ite h with ⟨c_7, h⟩ | ⟨c_7, h⟩
  · refine r_t2 (pc' := 12) (L' := [(0, .ref a0), (1, .int X1), (2, .int X2), (3, .int X3), (4, .long Y4)]) hq (z_at.mk 3 rfl rfl) rfl hV_1 (rfl : (181 : Int32).toInt = 181) c_7 rfl rfl ?_
    refine r_p hq 1 (pc' := 13) (L' := [(0, .ref a0), (1, .int X1), (2, .int X2), (3, .int X3), (4, .long Y4)]) (st' := [.ref a0]) rfl ?_
    refine r_gR (b := a0 + 3) (pc' := 16) (L' := [(0, .ref a0), (1, .int X1), (2, .int X2), (3, .int X3), (4, .long Y4)]) H hq (z_at.mk 3 rfl rfl) rfl (zIn_all (l := [48, 106]) (p := fun a => zQ a 12 3 (100 + a + 3)) rfl ha0) rfl rfl ?_
    refine r_p hq 1 (pc' := 17) (L' := [(0, .ref a0), (1, .int X1), (2, .int X2), (3, .int X3), (4, .long Y4)]) (st' := [.ref a0, .ref (a0 + 3)]) rfl ?_
    refine r_gI (pc' := 20) (L' := [(0, .ref a0), (1, .int X1), (2, .int X2), (3, .int X3), (4, .long Y4)]) H hq (z_at.mk 3 rfl rfl) rfl (zIn_all (l := [48, 106]) (p := fun a => zQ a 12 2 0) rfl ha0) rfl rfl ?_
    intro V_17 hV_17
    refine r_p hq 1 (pc' := 21) (L' := [(0, .ref a0), (1, .int X1), (2, .int X2), (3, .int X3), (4, .long Y4)]) (st' := [.ref a0, .int V_17, .ref (a0 + 3)]) rfl ?_
    refine r_gI (pc' := 24) (L' := [(0, .ref a0), (1, .int X1), (2, .int X2), (3, .int X3), (4, .long Y4)]) H hq (z_at.mk 3 rfl rfl) rfl (zIn_all (l := [48, 106]) (p := fun a => zQ a 12 8 0) rfl ha0) rfl rfl ?_
    intro V_21 hV_21
    obtain ⟨g_24, h⟩ := z_ifo_some h
    refine r_is (pc' := 25) (L' := [(0, .ref a0), (1, .int X1), (2, .int X2), (3, .int X3), (4, .long Y4)]) H hq (z_at.mk 1 rfl rfl) (zIn_all (l := [48, 106]) (p := fun a => zAr (a + 3) 0 181) rfl ha0) hV_17 g_24 hV_21 rfl rfl ?_
    intro m_24 H_24
    refine r_p hq 1 (pc' := 26) (L' := [(0, .ref a0), (1, .int X1), (2, .int X2), (3, .int X3), (4, .long Y4)]) (st' := [.ref a0]) rfl ?_
    refine r_gR (b := a0 + 4) (pc' := 29) (L' := [(0, .ref a0), (1, .int X1), (2, .int X2), (3, .int X3), (4, .long Y4)]) H_24 hq (z_at.mk 3 rfl rfl) rfl (zIn_all (l := [48, 106]) (p := fun a => zQ a 12 4 (100 + a + 4)) rfl ha0) rfl rfl ?_
    refine r_p hq 1 (pc' := 30) (L' := [(0, .ref a0), (1, .int X1), (2, .int X2), (3, .int X3), (4, .long Y4)]) (st' := [.ref a0, .ref (a0 + 4)]) rfl ?_
    refine r_gI (pc' := 33) (L' := [(0, .ref a0), (1, .int X1), (2, .int X2), (3, .int X3), (4, .long Y4)]) H_24 hq (z_at.mk 3 rfl rfl) rfl (zIn_all (l := [48, 106]) (p := fun a => zQ a 12 2 0) rfl ha0) rfl rfl ?_
    intro V_30 hV_30
    refine r_p hq 1 (pc' := 34) (L' := [(0, .ref a0), (1, .int X1), (2, .int X2), (3, .int X3), (4, .long Y4)]) (st' := [.int X1, .int V_30, .ref (a0 + 4)]) rfl ?_
    obtain ⟨g_34, h⟩ := z_ifo_some h
    refine r_is (pc' := 35) (L' := [(0, .ref a0), (1, .int X1), (2, .int X2), (3, .int X3), (4, .long Y4)]) H_24 hq (z_at.mk 1 rfl rfl) (zIn_all (l := [48, 106]) (p := fun a => zAr (a + 4) 0 181) rfl ha0) hV_30 g_34 hx1 rfl rfl ?_
    intro m_34 H_34
    refine r_p hq 1 (pc' := 36) (L' := [(0, .ref a0), (1, .int X1), (2, .int X2), (3, .int X3), (4, .long Y4)]) (st' := [.ref a0]) rfl ?_
    refine r_gR (b := a0 + 5) (pc' := 39) (L' := [(0, .ref a0), (1, .int X1), (2, .int X2), (3, .int X3), (4, .long Y4)]) H_34 hq (z_at.mk 3 rfl rfl) rfl (zIn_all (l := [48, 106]) (p := fun a => zQ a 12 5 (100 + a + 5)) rfl ha0) rfl rfl ?_
    refine r_p hq 1 (pc' := 40) (L' := [(0, .ref a0), (1, .int X1), (2, .int X2), (3, .int X3), (4, .long Y4)]) (st' := [.ref a0, .ref (a0 + 5)]) rfl ?_
    refine r_gI (pc' := 43) (L' := [(0, .ref a0), (1, .int X1), (2, .int X2), (3, .int X3), (4, .long Y4)]) H_34 hq (z_at.mk 3 rfl rfl) rfl (zIn_all (l := [48, 106]) (p := fun a => zQ a 12 2 0) rfl ha0) rfl rfl ?_
    intro V_40 hV_40
    refine r_p hq 1 (pc' := 44) (L' := [(0, .ref a0), (1, .int X1), (2, .int X2), (3, .int X3), (4, .long Y4)]) (st' := [.int X2, .int V_40, .ref (a0 + 5)]) rfl ?_
    obtain ⟨g_44, h⟩ := z_ifo_some h
    refine r_is (pc' := 45) (L' := [(0, .ref a0), (1, .int X1), (2, .int X2), (3, .int X3), (4, .long Y4)]) H_34 hq (z_at.mk 1 rfl rfl) (zIn_all (l := [48, 106]) (p := fun a => zAr (a + 5) 0 181) rfl ha0) hV_40 g_44 hx2 rfl rfl ?_
    intro m_44 H_44
    refine r_p hq 1 (pc' := 46) (L' := [(0, .ref a0), (1, .int X1), (2, .int X2), (3, .int X3), (4, .long Y4)]) (st' := [.ref a0]) rfl ?_
    refine r_gR (b := a0 + 6) (pc' := 49) (L' := [(0, .ref a0), (1, .int X1), (2, .int X2), (3, .int X3), (4, .long Y4)]) H_44 hq (z_at.mk 3 rfl rfl) rfl (zIn_all (l := [48, 106]) (p := fun a => zQ a 12 6 (100 + a + 6)) rfl ha0) rfl rfl ?_
    refine r_p hq 1 (pc' := 50) (L' := [(0, .ref a0), (1, .int X1), (2, .int X2), (3, .int X3), (4, .long Y4)]) (st' := [.ref a0, .ref (a0 + 6)]) rfl ?_
    refine r_gI (pc' := 53) (L' := [(0, .ref a0), (1, .int X1), (2, .int X2), (3, .int X3), (4, .long Y4)]) H_44 hq (z_at.mk 3 rfl rfl) rfl (zIn_all (l := [48, 106]) (p := fun a => zQ a 12 2 0) rfl ha0) rfl rfl ?_
    intro V_50 hV_50
    refine r_p hq 1 (pc' := 54) (L' := [(0, .ref a0), (1, .int X1), (2, .int X2), (3, .int X3), (4, .long Y4)]) (st' := [.int X3, .int V_50, .ref (a0 + 6)]) rfl ?_
    obtain ⟨g_54, h⟩ := z_ifo_some h
    refine r_is (pc' := 55) (L' := [(0, .ref a0), (1, .int X1), (2, .int X2), (3, .int X3), (4, .long Y4)]) H_44 hq (z_at.mk 1 rfl rfl) (zIn_all (l := [48, 106]) (p := fun a => zAr (a + 6) 0 181) rfl ha0) hV_50 g_54 hx3 rfl rfl ?_
    intro m_54 H_54
    refine r_p hq 1 (pc' := 56) (L' := [(0, .ref a0), (1, .int X1), (2, .int X2), (3, .int X3), (4, .long Y4)]) (st' := [.ref a0]) rfl ?_
    refine r_gR (b := a0 + 7) (pc' := 59) (L' := [(0, .ref a0), (1, .int X1), (2, .int X2), (3, .int X3), (4, .long Y4)]) H_54 hq (z_at.mk 3 rfl rfl) rfl (zIn_all (l := [48, 106]) (p := fun a => zQ a 12 7 (100 + a + 7)) rfl ha0) rfl rfl ?_
    refine r_p hq 1 (pc' := 60) (L' := [(0, .ref a0), (1, .int X1), (2, .int X2), (3, .int X3), (4, .long Y4)]) (st' := [.ref a0, .ref (a0 + 7)]) rfl ?_
    refine r_gI (pc' := 63) (L' := [(0, .ref a0), (1, .int X1), (2, .int X2), (3, .int X3), (4, .long Y4)]) H_54 hq (z_at.mk 3 rfl rfl) rfl (zIn_all (l := [48, 106]) (p := fun a => zQ a 12 2 0) rfl ha0) rfl rfl ?_
    intro V_60 hV_60
    refine r_p hq 1 (pc' := 65) (L' := [(0, .ref a0), (1, .int X1), (2, .int X2), (3, .int X3), (4, .long Y4)]) (st' := [.long Y4, .int V_60, .ref (a0 + 7)]) rfl ?_
    obtain ⟨g_65, h⟩ := z_ifo_some h
    refine r_ls (pc' := 66) (L' := [(0, .ref a0), (1, .int X1), (2, .int X2), (3, .int X3), (4, .long Y4)]) H_54 hq (z_at.mk 1 rfl rfl) (zIn_all (l := [48, 106]) (p := fun a => zAr (a + 7) 1 181) rfl ha0) hV_60 g_65 hy4 rfl rfl ?_
    intro m_65 H_65
    refine r_p hq 2 (pc' := 68) (L' := [(0, .ref a0), (1, .int X1), (2, .int X2), (3, .int X3), (4, .long Y4)]) (st' := [.ref a0, .ref a0]) rfl ?_
    refine r_gI (pc' := 71) (L' := [(0, .ref a0), (1, .int X1), (2, .int X2), (3, .int X3), (4, .long Y4)]) H_65 hq (z_at.mk 3 rfl rfl) rfl (zIn_all (l := [48, 106]) (p := fun a => zQ a 12 8 0) rfl ha0) rfl rfl ?_
    intro V_68 hV_68
    refine r_p hq 2 (pc' := 73) (L' := [(0, .ref a0), (1, .int X1), (2, .int X2), (3, .int X3), (4, .long Y4)]) (st' := [.int (V_68 + ((1 : Int32))), .ref a0]) rfl ?_
    refine r_pI (X := V_68 + ((1 : Int32))) (pc' := 76) (L' := [(0, .ref a0), (1, .int X1), (2, .int X2), (3, .int X3), (4, .long Y4)]) H_65 hq (z_at.mk 3 rfl rfl) rfl (zIn_all (l := [48, 106]) (p := fun a => zQ a 12 8 0) rfl ha0) (tx_iadd hV_68 (rfl : (1 : Int32).toInt = 1)) (by decide) rfl rfl rfl rfl ?_
    intro m_73 H_73
    refine r_p hq 2 (pc' := 78) (L' := [(0, .ref a0), (1, .int X1), (2, .int X2), (3, .int X3), (4, .long Y4)]) (st' := [.ref a0, .ref a0]) rfl ?_
    refine r_gI (pc' := 81) (L' := [(0, .ref a0), (1, .int X1), (2, .int X2), (3, .int X3), (4, .long Y4)]) H_73 hq (z_at.mk 3 rfl rfl) rfl (zIn_all (l := [48, 106]) (p := fun a => zQ a 12 2 0) rfl ha0) rfl rfl ?_
    intro V_78 hV_78
    refine r_p hq 2 (pc' := 83) (L' := [(0, .ref a0), (1, .int X1), (2, .int X2), (3, .int X3), (4, .long Y4)]) (st' := [.int (V_78 + ((1 : Int32))), .ref a0]) rfl ?_
    refine r_pI (X := V_78 + ((1 : Int32))) (pc' := 86) (L' := [(0, .ref a0), (1, .int X1), (2, .int X2), (3, .int X3), (4, .long Y4)]) H_73 hq (z_at.mk 3 rfl rfl) rfl (zIn_all (l := [48, 106]) (p := fun a => zQ a 12 2 0) rfl ha0) (tx_iadd hV_78 (rfl : (1 : Int32).toInt = 1)) (by decide) rfl rfl rfl rfl ?_
    intro m_83 H_83
    refine r_p hq 1 (pc' := 87) (L' := [(0, .ref a0), (1, .int X1), (2, .int X2), (3, .int X3), (4, .long Y4)]) (st' := [.int ((1 : Int32))]) rfl ?_
    cases h
    exact r_ri hq (z_at.mk 1 rfl rfl) rfl rfl (rfl : (1 : Int32).toInt = 1) rfl H_83
  · refine r_f2 (pc' := 10) (L' := [(0, .ref a0), (1, .int X1), (2, .int X2), (3, .int X3), (4, .long Y4)]) hq (z_at.mk 3 rfl rfl) rfl hV_1 (rfl : (181 : Int32).toInt = 181) c_7 rfl rfl ?_
    refine r_p hq 1 (pc' := 11) (L' := [(0, .ref a0), (1, .int X1), (2, .int X2), (3, .int X3), (4, .long Y4)]) (st' := [.int ((0 : Int32))]) rfl ?_
    cases h
    exact r_ri hq (z_at.mk 1 rfl rfl) rfl rfl (rfl : (0 : Int32).toInt = 0) rfl H
def g_ca_addNew (a0 : Nat) (x1 : Int) (σ : zS) : Option (Unit × zS) :=
  (g_ca_addLast a0 x1 0 (-1) 0 σ).bind fun o_5 =>
  if o_5.1 = 0 then
    some ((), o_5.2)
  else
    let v_13 := o_5.2 a0 2
    (g_ca_weigh a0 (w32 (v_13 - 1)) o_5.2).bind fun o_18 =>
    some ((), o_18.2)
set_option maxHeartbeats 4000000 in
theorem g_ca_addNew_ok {xl : Nat} {xs : Nat → Int32} {a0 : Nat} (ha0 : zIn [48, 106] a0 = true) {X1 : Int32} {x1 : Int} (hx1 : X1.toInt = x1) {σ : zS} {p : Nat} {m : zM} {o : Unit × zS} (H : zRep xl xs p m σ) (h : g_ca_addNew a0 x1 σ = some o) : zGo xl xs (fun p' => p = p') 4 30 0 (z_can 30 0 (lv_args 0 [.ref a0, .int X1])) [] m vV o.2 := by
  have hq : z_mth 30 = some z_r30 := rfl
  unfold g_ca_addNew at h
  show zGo xl xs (fun p' => p = p') 4 30 0 [(0, .ref a0), (1, .int X1)] [] m vV o.2
  refine r_p hq 5 (pc' := 5) (L' := [(0, .ref a0), (1, .int X1)]) (st' := [.long ((0 : Int64)), .int ((-1 : Int32)), .int ((0 : Int32)), .int X1, .ref a0]) rfl ?_
  obtain ⟨o_5, h_5, h⟩ := Option.bind_eq_some_iff.mp h
  refine r_cvI (pc' := 8) (L' := [(0, .ref a0), (1, .int X1)]) (Ps := [.int X1, .int ((0 : Int32)), .int ((-1 : Int32)), .long ((0 : Int64))]) (rest := []) hq (z_at.mk 3 rfl rfl) (Or.inl ⟨rfl, rfl⟩) rfl rfl (by decide) (by decide) rfl (Nat.not_lt.mpr (Nat.le_of_ble_eq_true rfl)) rfl rfl (z_cat_le 0 rfl (by decide)) (z_lgl_le 6 rfl (by decide)) (by decide) (H.tg (zIn_all (l := [48, 106]) (p := fun a => zT a 12) rfl ha0)) (by omega) (g_ca_addLast_ok (zIn_all (l := [48, 106]) (p := fun a => zIn [48, 106] a) rfl ha0) hx1 (rfl : (0 : Int32).toInt = 0) (rfl : (-1 : Int32).toInt = -1) (rfl : (0 : Int64).toInt = 0) H h_5) rfl rfl ?_
  intro R_5 m_5 p_5 e_5 hR_5 H_5
  subst e_5
  rcases z_ite h with ⟨c_8, h⟩ | ⟨c_8, h⟩
  · refine r_t1 (pc' := 21) (L' := []) hq (z_at.mk 3 rfl rfl) rfl hR_5 c_8 rfl rfl ?_
    cases h
    exact r_rv hq (z_at.mk 1 rfl rfl) rfl rfl H_5
  · refine r_f1 (pc' := 11) (L' := [(0, .ref a0), (1, .int X1)]) hq (z_at.mk 3 rfl rfl) rfl hR_5 c_8 rfl rfl ?_
    refine r_p hq 2 (pc' := 13) (L' := [(0, .ref a0), (1, .int X1)]) (st' := [.ref a0, .ref a0]) rfl ?_
    refine r_gI (pc' := 16) (L' := [(0, .ref a0), (1, .int X1)]) H_5 hq (z_at.mk 3 rfl rfl) rfl (zIn_all (l := [48, 106]) (p := fun a => zQ a 12 2 0) rfl ha0) rfl rfl ?_
    intro V_13 hV_13
    refine r_p hq 2 (pc' := 18) (L' := [(0, .ref a0), (1, .int X1)]) (st' := [.int (V_13 - ((1 : Int32))), .ref a0]) rfl ?_
    obtain ⟨o_18, h_18, h⟩ := Option.bind_eq_some_iff.mp h
    refine r_cvV (pc' := 21) (L' := []) (Ps := [.int (V_13 - ((1 : Int32)))]) (rest := []) hq (z_at.mk 3 rfl rfl) (Or.inl ⟨rfl, rfl⟩) rfl rfl (by decide) (by decide) rfl (Nat.not_lt.mpr (Nat.le_of_ble_eq_true rfl)) rfl rfl (z_cat_le 0 rfl (by decide)) (z_lgl_le 2 rfl (by decide)) (by decide) (H_5.tg (zIn_all (l := [48, 106]) (p := fun a => zT a 12) rfl ha0)) (by omega) (g_ca_weigh_ok (zIn_all (l := [48, 106]) (p := fun a => zIn [48, 106] a) rfl ha0) (tx_isub hV_13 (rfl : (1 : Int32).toInt = 1)) H_5 h_18) rfl rfl ?_
    intro m_18 p_18 e_18 H_18
    subst e_18
    cases h
    exact r_rv hq (z_at.mk 1 rfl rfl) rfl rfl H_18
def g_ca_serve_L44 (a0 : Nat) (g8 : Int → Int → zS → Option (Unit × zS)) (x1 : Int) (x2 : Int) (σ : zS) : Option (Unit × zS) :=
  g8 x1 (w32 (x2 + 1)) σ
set_option maxHeartbeats 4000000 in
theorem g_ca_serve_L44_ok {xl : Nat} {xs : Nat → Int32} {a0 : Nat} (ha0 : zIn [48, 106] a0 = true) {g8 : Int → Int → zS → Option (Unit × zS)} (hg8 : ∀ {X1 : Int32} {x1 : Int} {X2 : Int32} {x2 : Int} {σ : zS} {p : Nat} {m : zM} {o : Unit × zS}, X1.toInt = x1 → X2.toInt = x2 → zRep xl xs p m σ → g8 x1 x2 σ = some o → zGo xl xs (fun p' => p = p') 6 25 8 [(0, .ref a0), (1, .int X1), (2, .int X2)] [] m vV o.2) {X1 : Int32} {x1 : Int} (hx1 : X1.toInt = x1) {X2 : Int32} {x2 : Int} (hx2 : X2.toInt = x2) {σ : zS} {p : Nat} {m : zM} {o : Unit × zS} (H : zRep xl xs p m σ) (h : g_ca_serve_L44 a0 g8 x1 x2 σ = some o) : zGo xl xs (fun p' => p = p') 6 25 44 [(0, .ref a0), (1, .int X1), (2, .int X2)] [] m vV o.2 := by
  have hq : z_mth 25 = some z_r25 := rfl
  unfold g_ca_serve_L44 at h
  refine r_p hq 2 (pc' := 8) (L' := [(0, .ref a0), (1, .int X1), (2, .int (X2 + (1 : Int32)))]) (st' := []) rfl ?_
  exact hg8 hx1 (tx_iadd hx2 (rfl : (1 : Int32).toInt = 1)) H h
def g_ca_serve_L98 (a0 : Nat) (g52 : Int → zS → Option (Unit × zS)) (x2 : Int) (σ : zS) : Option (Unit × zS) :=
  g52 (w32 (x2 + 1)) σ
set_option maxHeartbeats 4000000 in
theorem g_ca_serve_L98_ok {xl : Nat} {xs : Nat → Int32} {a0 : Nat} (ha0 : zIn [48, 106] a0 = true) {g52 : Int → zS → Option (Unit × zS)} (hg52 : ∀ {X2 : Int32} {x2 : Int} {σ : zS} {p : Nat} {m : zM} {o : Unit × zS}, X2.toInt = x2 → zRep xl xs p m σ → g52 x2 σ = some o → zGo xl xs (fun p' => p = p') 6 25 52 [(0, .ref a0), (2, .int X2)] [] m vV o.2) {X2 : Int32} {x2 : Int} (hx2 : X2.toInt = x2) {σ : zS} {p : Nat} {m : zM} {o : Unit × zS} (H : zRep xl xs p m σ) (h : g_ca_serve_L98 a0 g52 x2 σ = some o) : zGo xl xs (fun p' => p = p') 6 25 98 [(0, .ref a0), (2, .int X2)] [] m vV o.2 := by
  have hq : z_mth 25 = some z_r25 := rfl
  unfold g_ca_serve_L98 at h
  refine r_p hq 2 (pc' := 52) (L' := [(0, .ref a0), (2, .int (X2 + (1 : Int32)))]) (st' := []) rfl ?_
  exact hg52 (tx_iadd hx2 (rfl : (1 : Int32).toInt = 1)) H h
def g_ca_serve_L52 (a0 : Nat) : Nat → Int → zS → Option (Unit × zS)
  | 0, _, _ => none
  | n + 1, x2, σ =>
    let v_57 := σ (a0 + 8) 1
    if v_57 ≤ x2 then
      (g_ca_merge a0 σ).bind fun o_105 =>
      (g_ca_trim a0 o_105.2).bind fun o_109 =>
      some ((), o_109.2)
    else
      (g_bs_at (a0 + 8) x2 σ).bind fun o_68 =>
      (g_ca_ask a0 o_68.1 o_68.2).bind fun o_74 =>
      (g_b_area o_68.1 o_74.2).bind fun o_78 =>
      (g_se_of (a0 + 1) 6 o_78.2).bind fun o_87 =>
      if o_87.1 < o_78.1 then
        g_ca_serve_L98 a0 ((g_ca_serve_L52 a0 n)) x2 o_87.2
      else
        (g_ca_addNew a0 o_68.1 o_87.2).bind fun o_95 =>
        g_ca_serve_L98 a0 ((g_ca_serve_L52 a0 n)) x2 o_95.2
set_option maxHeartbeats 4000000 in
theorem g_ca_serve_L52_ok {xl : Nat} {xs : Nat → Int32} {a0 : Nat} (ha0 : zIn [48, 106] a0 = true) : ∀ (n : Nat) {X2 : Int32} {x2 : Int} {σ : zS} {p : Nat} {m : zM} {o : Unit × zS}, X2.toInt = x2 → zRep xl xs p m σ → g_ca_serve_L52 a0 n x2 σ = some o → zGo xl xs (fun p' => p = p') 6 25 52 [(0, .ref a0), (2, .int X2)] [] m vV o.2
  | 0, _, _, _, _, _, _, _, _, h => by cases h
  | n + 1, X2, x2, σ, p, m, o, hx2, H, h => by
    have hq : z_mth 25 = some z_r25 := rfl
    have ih := fun {X2 : Int32} {x2 : Int} {σ : zS} {p : Nat} {m : zM} {o : Unit × zS} => g_ca_serve_L52_ok (xl := xl) (xs := xs) ha0 n (X2 := X2) (x2 := x2) (σ := σ) (p := p) (m := m) (o := o)
    unfold g_ca_serve_L52 at h
    refine r_p hq 2 (pc' := 54) (L' := [(0, .ref a0), (2, .int X2)]) (st' := [.ref a0, .int X2]) rfl ?_
    refine r_gR (b := a0 + 8) (pc' := 57) (L' := [(0, .ref a0), (2, .int X2)]) H hq (z_at.mk 3 rfl rfl) rfl (zIn_all (l := [48, 106]) (p := fun a => zQ a 12 16 (100 + a + 8)) rfl ha0) rfl rfl ?_
    refine r_gI (pc' := 60) (L' := [(0, .ref a0), (2, .int X2)]) H hq (z_at.mk 3 rfl rfl) rfl (zIn_all (l := [48, 106]) (p := fun a => zQ (a + 8) 11 1 0) rfl ha0) rfl rfl ?_
    intro V_57 hV_57
    rcases z_ite h with ⟨c_60, h⟩ | ⟨c_60, h⟩
    · refine r_t2 (pc' := 104) (L' := [(0, .ref a0), (2, .int X2)]) hq (z_at.mk 3 rfl rfl) rfl hx2 hV_57 c_60 rfl rfl ?_
      refine r_p hq 1 (pc' := 105) (L' := [(0, .ref a0), (2, .int X2)]) (st' := [.ref a0]) rfl ?_
      obtain ⟨o_105, h_105, h⟩ := Option.bind_eq_some_iff.mp h
      refine r_cvV (pc' := 108) (L' := [(0, .ref a0), (2, .int X2)]) (Ps := []) (rest := []) hq (z_at.mk 3 rfl rfl) (Or.inl ⟨rfl, rfl⟩) rfl rfl (by decide) (by decide) rfl (Nat.not_lt.mpr (Nat.le_of_ble_eq_true rfl)) rfl rfl (z_cat_le 0 rfl (by decide)) (z_lgl_le 1 rfl (by decide)) (by decide) (H.tg (zIn_all (l := [48, 106]) (p := fun a => zT a 12) rfl ha0)) (by omega) (g_ca_merge_ok (zIn_all (l := [48, 106]) (p := fun a => zIn [48, 106] a) rfl ha0) H h_105) rfl rfl ?_
      intro m_105 p_105 e_105 H_105
      subst e_105
      refine r_p hq 1 (pc' := 109) (L' := [(0, .ref a0), (2, .int X2)]) (st' := [.ref a0]) rfl ?_
      obtain ⟨o_109, h_109, h⟩ := Option.bind_eq_some_iff.mp h
      refine r_cvV (pc' := 112) (L' := [(0, .ref a0), (2, .int X2)]) (Ps := []) (rest := []) hq (z_at.mk 3 rfl rfl) (Or.inl ⟨rfl, rfl⟩) rfl rfl (by decide) (by decide) rfl (Nat.not_lt.mpr (Nat.le_of_ble_eq_true rfl)) rfl rfl (z_cat_le 0 rfl (by decide)) (z_lgl_le 1 rfl (by decide)) (by decide) (H_105.tg (zIn_all (l := [48, 106]) (p := fun a => zT a 12) rfl ha0)) (by omega) (g_ca_trim_ok (zIn_all (l := [48, 106]) (p := fun a => zIn [48, 106] a) rfl ha0) H_105 h_109) rfl rfl ?_
      intro m_109 p_109 e_109 H_109
      subst e_109
      cases h
      exact r_rv hq (z_at.mk 1 rfl rfl) rfl rfl H_109
    · refine r_f2 (pc' := 63) (L' := [(0, .ref a0), (2, .int X2)]) hq (z_at.mk 3 rfl rfl) rfl hx2 hV_57 c_60 rfl rfl ?_
      refine r_p hq 1 (pc' := 64) (L' := [(0, .ref a0), (2, .int X2)]) (st' := [.ref a0]) rfl ?_
      refine r_gR (b := a0 + 8) (pc' := 67) (L' := [(0, .ref a0), (2, .int X2)]) H hq (z_at.mk 3 rfl rfl) rfl (zIn_all (l := [48, 106]) (p := fun a => zQ a 12 16 (100 + a + 8)) rfl ha0) rfl rfl ?_
      refine r_p hq 1 (pc' := 68) (L' := [(0, .ref a0), (2, .int X2)]) (st' := [.int X2, .ref (a0 + 8)]) rfl ?_
      obtain ⟨o_68, h_68, h⟩ := Option.bind_eq_some_iff.mp h
      refine r_cvI (pc' := 71) (L' := [(0, .ref a0), (2, .int X2)]) (Ps := [.int X2]) (rest := []) hq (z_at.mk 3 rfl rfl) (Or.inl ⟨rfl, rfl⟩) rfl rfl (by decide) (by decide) rfl (Nat.not_lt.mpr (Nat.le_of_ble_eq_true rfl)) rfl rfl (z_cat_le 0 rfl (by decide)) (z_lgl_le 2 rfl (by decide)) (by decide) (H.tg (zIn_all (l := [48, 106]) (p := fun a => zT (a + 8) 11) rfl ha0)) (by omega) (g_bs_at_ok (zIn_all (l := [48, 106]) (p := fun a => zIn [56, 58, 63, 96, 114, 116, 126, 131] (a + 8)) rfl ha0) hx2 H h_68) rfl rfl ?_
      intro R_68 m_68 p_68 e_68 hR_68 H_68
      subst e_68
      refine r_p hq 3 (pc' := 74) (L' := [(3, .int R_68), (0, .ref a0), (2, .int X2)]) (st' := [.int R_68, .ref a0]) rfl ?_
      obtain ⟨o_74, h_74, h⟩ := Option.bind_eq_some_iff.mp h
      refine r_cvV (pc' := 77) (L' := [(3, .int R_68), (0, .ref a0), (2, .int X2)]) (Ps := [.int R_68]) (rest := []) hq (z_at.mk 3 rfl rfl) (Or.inl ⟨rfl, rfl⟩) rfl rfl (by decide) (by decide) rfl (Nat.not_lt.mpr (Nat.le_of_ble_eq_true rfl)) rfl rfl (z_cat_le 0 rfl (by decide)) (z_lgl_le 2 rfl (by decide)) (by decide) (H_68.tg (zIn_all (l := [48, 106]) (p := fun a => zT a 12) rfl ha0)) (by omega) (g_ca_ask_ok (zIn_all (l := [48, 106]) (p := fun a => zIn [48, 106] a) rfl ha0) hR_68 H_68 h_74) rfl rfl ?_
      intro m_74 p_74 e_74 H_74
      subst e_74
      refine r_p hq 1 (pc' := 78) (L' := [(3, .int R_68), (0, .ref a0), (2, .int X2)]) (st' := [.int R_68]) rfl ?_
      obtain ⟨o_78, h_78, h⟩ := Option.bind_eq_some_iff.mp h
      refine r_csI (pc' := 81) (L' := [(3, .int R_68), (0, .ref a0), (2, .int X2)]) (As := [.int R_68]) (rest := []) (j := 8) hq (z_at.mk 3 rfl rfl) (Or.inl ⟨rfl, rfl⟩) rfl rfl (by omega) (g_b_area_ok hR_68 H_74 h_78) rfl rfl ?_
      intro R_78 m_78 p_78 e_78 hR_78 H_78
      subst e_78
      refine r_p hq 1 (pc' := 82) (L' := [(3, .int R_68), (0, .ref a0), (2, .int X2)]) (st' := [.ref a0, .int R_78]) rfl ?_
      refine r_gR (b := a0 + 1) (pc' := 85) (L' := [(3, .int R_68), (0, .ref a0), (2, .int X2)]) H_78 hq (z_at.mk 3 rfl rfl) rfl (zIn_all (l := [48, 106]) (p := fun a => zQ a 12 1 (100 + a + 1)) rfl ha0) rfl rfl ?_
      refine r_p hq 1 (pc' := 87) (L' := [(3, .int R_68), (0, .ref a0), (2, .int X2)]) (st' := [.int ((6 : Int32)), .ref (a0 + 1), .int R_78]) rfl ?_
      obtain ⟨o_87, h_87, h⟩ := Option.bind_eq_some_iff.mp h
      refine r_cvI (pc' := 90) (L' := [(3, .int R_68), (0, .ref a0), (2, .int X2)]) (Ps := [.int ((6 : Int32))]) (rest := [.int R_78]) hq (z_at.mk 3 rfl rfl) (Or.inl ⟨rfl, rfl⟩) rfl rfl (by decide) (by decide) rfl (Nat.not_lt.mpr (Nat.le_of_ble_eq_true rfl)) rfl rfl (z_cat_le 1 rfl (by decide)) (z_lgl_le 2 rfl (by decide)) (by decide) (H_78.tg (zIn_all (l := [48, 106]) (p := fun a => zT (a + 1) 16) rfl ha0)) (by omega) (g_se_of_ok (zIn_all (l := [48, 106]) (p := fun a => zIn [49, 82, 107, 118] (a + 1)) rfl ha0) (rfl : (6 : Int32).toInt = 6) H_78 h_87) rfl rfl ?_
      intro R_87 m_87 p_87 e_87 hR_87 H_87
      subst e_87
      rcases z_ite h with ⟨c_90, h⟩ | ⟨c_90, h⟩
      · refine r_t2 (pc' := 98) (L' := [(0, .ref a0), (2, .int X2)]) hq (z_at.mk 3 rfl rfl) rfl hR_78 hR_87 c_90 rfl rfl ?_
        exact g_ca_serve_L98_ok ha0 ih hx2 H_87 h
      · refine r_f2 (pc' := 93) (L' := [(3, .int R_68), (0, .ref a0), (2, .int X2)]) hq (z_at.mk 3 rfl rfl) rfl hR_78 hR_87 c_90 rfl rfl ?_
        refine r_p hq 2 (pc' := 95) (L' := [(3, .int R_68), (0, .ref a0), (2, .int X2)]) (st' := [.int R_68, .ref a0]) rfl ?_
        obtain ⟨o_95, h_95, h⟩ := Option.bind_eq_some_iff.mp h
        refine r_cvV (pc' := 98) (L' := [(0, .ref a0), (2, .int X2)]) (Ps := [.int R_68]) (rest := []) hq (z_at.mk 3 rfl rfl) (Or.inl ⟨rfl, rfl⟩) rfl rfl (by decide) (by decide) rfl (Nat.not_lt.mpr (Nat.le_of_ble_eq_true rfl)) rfl rfl (z_cat_le 0 rfl (by decide)) (z_lgl_le 2 rfl (by decide)) (by decide) (H_87.tg (zIn_all (l := [48, 106]) (p := fun a => zT a 12) rfl ha0)) (by omega) (g_ca_addNew_ok (zIn_all (l := [48, 106]) (p := fun a => zIn [48, 106] a) rfl ha0) hR_68 H_87 h_95) rfl rfl ?_
        intro m_95 p_95 e_95 H_95
        subst e_95
        exact g_ca_serve_L98_ok ha0 ih hx2 H_95 h
def g_ca_serve_L8 (a0 : Nat) : Nat → Int → Int → zS → Option (Unit × zS)
  | 0, _, _, _ => none
  | n + 1, x1, x2, σ =>
    let v_10 := σ a0 2
    if v_10 ≤ x2 then
      g_ca_serve_L52 a0 zK 0 σ
    else
      if 0 ≤ x2 ∧ x2 < 181 then
      let v_21 := σ (a0 + 4) x2
      (g_b_meet v_21 x1 σ).bind fun o_23 =>
      if o_23.1 = 0 then
        g_ca_serve_L44 a0 ((g_ca_serve_L8 a0 n)) x1 x2 o_23.2
      else
        if 0 ≤ x2 ∧ x2 < 181 then
        let v_36 := o_23.2 (a0 + 4) x2
        (g_b_common v_36 x1 o_23.2).bind fun o_38 =>
        (g_ca_hit a0 x2 o_38.1 o_38.2).bind fun o_41 =>
        g_ca_serve_L44 a0 ((g_ca_serve_L8 a0 n)) x1 x2 o_41.2
        else none
      else none
set_option maxHeartbeats 4000000 in
theorem g_ca_serve_L8_ok {xl : Nat} {xs : Nat → Int32} {a0 : Nat} (ha0 : zIn [48, 106] a0 = true) : ∀ (n : Nat) {X1 : Int32} {x1 : Int} {X2 : Int32} {x2 : Int} {σ : zS} {p : Nat} {m : zM} {o : Unit × zS}, X1.toInt = x1 → X2.toInt = x2 → zRep xl xs p m σ → g_ca_serve_L8 a0 n x1 x2 σ = some o → zGo xl xs (fun p' => p = p') 6 25 8 [(0, .ref a0), (1, .int X1), (2, .int X2)] [] m vV o.2
  | 0, _, _, _, _, _, _, _, _, _, _, _, h => by cases h
  | n + 1, X1, x1, X2, x2, σ, p, m, o, hx1, hx2, H, h => by
    have hq : z_mth 25 = some z_r25 := rfl
    have ih := fun {X1 : Int32} {x1 : Int} {X2 : Int32} {x2 : Int} {σ : zS} {p : Nat} {m : zM} {o : Unit × zS} => g_ca_serve_L8_ok (xl := xl) (xs := xs) ha0 n (X1 := X1) (x1 := x1) (X2 := X2) (x2 := x2) (σ := σ) (p := p) (m := m) (o := o)
    unfold g_ca_serve_L8 at h
    refine r_p hq 2 (pc' := 10) (L' := [(0, .ref a0), (1, .int X1), (2, .int X2)]) (st' := [.ref a0, .int X2]) rfl ?_
    refine r_gI (pc' := 13) (L' := [(0, .ref a0), (1, .int X1), (2, .int X2)]) H hq (z_at.mk 3 rfl rfl) rfl (zIn_all (l := [48, 106]) (p := fun a => zQ a 12 2 0) rfl ha0) rfl rfl ?_
    intro V_10 hV_10
    rcases z_ite h with ⟨c_13, h⟩ | ⟨c_13, h⟩
    · refine r_t2 (pc' := 50) (L' := [(0, .ref a0), (1, .int X1), (2, .int X2)]) hq (z_at.mk 3 rfl rfl) rfl hx2 hV_10 c_13 rfl rfl ?_
      refine r_p hq 2 (pc' := 52) (L' := [(0, .ref a0), (2, .int ((0 : Int32)))]) (st' := []) rfl ?_
      exact g_ca_serve_L52_ok ha0 zK (rfl : (0 : Int32).toInt = 0) H h
    · refine r_f2 (pc' := 16) (L' := [(0, .ref a0), (1, .int X1), (2, .int X2)]) hq (z_at.mk 3 rfl rfl) rfl hx2 hV_10 c_13 rfl rfl ?_
      refine r_p hq 1 (pc' := 17) (L' := [(0, .ref a0), (1, .int X1), (2, .int X2)]) (st' := [.ref a0]) rfl ?_
      refine r_gR (b := a0 + 4) (pc' := 20) (L' := [(0, .ref a0), (1, .int X1), (2, .int X2)]) H hq (z_at.mk 3 rfl rfl) rfl (zIn_all (l := [48, 106]) (p := fun a => zQ a 12 4 (100 + a + 4)) rfl ha0) rfl rfl ?_
      refine r_p hq 1 (pc' := 21) (L' := [(0, .ref a0), (1, .int X1), (2, .int X2)]) (st' := [.int X2, .ref (a0 + 4)]) rfl ?_
      obtain ⟨g_21, h⟩ := z_ifo_some h
      refine r_ia (pc' := 22) (L' := [(0, .ref a0), (1, .int X1), (2, .int X2)]) H hq (z_at.mk 1 rfl rfl) (zIn_all (l := [48, 106]) (p := fun a => zAr (a + 4) 0 181) rfl ha0) hx2 g_21 rfl rfl ?_
      intro V_21 hV_21
      refine r_p hq 1 (pc' := 23) (L' := [(0, .ref a0), (1, .int X1), (2, .int X2)]) (st' := [.int X1, .int V_21]) rfl ?_
      obtain ⟨o_23, h_23, h⟩ := Option.bind_eq_some_iff.mp h
      refine r_csI (pc' := 26) (L' := [(0, .ref a0), (1, .int X1), (2, .int X2)]) (As := [.int V_21, .int X1]) (rest := []) (j := 9) hq (z_at.mk 3 rfl rfl) (Or.inl ⟨rfl, rfl⟩) rfl rfl (by omega) (g_b_meet_ok hV_21 hx1 H h_23) rfl rfl ?_
      intro R_23 m_23 p_23 e_23 hR_23 H_23
      subst e_23
      rcases z_ite h with ⟨c_26, h⟩ | ⟨c_26, h⟩
      · refine r_t1 (pc' := 44) (L' := [(0, .ref a0), (1, .int X1), (2, .int X2)]) hq (z_at.mk 3 rfl rfl) rfl hR_23 c_26 rfl rfl ?_
        exact g_ca_serve_L44_ok ha0 ih hx1 hx2 H_23 h
      · refine r_f1 (pc' := 29) (L' := [(0, .ref a0), (1, .int X1), (2, .int X2)]) hq (z_at.mk 3 rfl rfl) rfl hR_23 c_26 rfl rfl ?_
        refine r_p hq 3 (pc' := 32) (L' := [(0, .ref a0), (1, .int X1), (2, .int X2)]) (st' := [.ref a0, .int X2, .ref a0]) rfl ?_
        refine r_gR (b := a0 + 4) (pc' := 35) (L' := [(0, .ref a0), (1, .int X1), (2, .int X2)]) H_23 hq (z_at.mk 3 rfl rfl) rfl (zIn_all (l := [48, 106]) (p := fun a => zQ a 12 4 (100 + a + 4)) rfl ha0) rfl rfl ?_
        refine r_p hq 1 (pc' := 36) (L' := [(0, .ref a0), (1, .int X1), (2, .int X2)]) (st' := [.int X2, .ref (a0 + 4), .int X2, .ref a0]) rfl ?_
        obtain ⟨g_36, h⟩ := z_ifo_some h
        refine r_ia (pc' := 37) (L' := [(0, .ref a0), (1, .int X1), (2, .int X2)]) H_23 hq (z_at.mk 1 rfl rfl) (zIn_all (l := [48, 106]) (p := fun a => zAr (a + 4) 0 181) rfl ha0) hx2 g_36 rfl rfl ?_
        intro V_36 hV_36
        refine r_p hq 1 (pc' := 38) (L' := [(0, .ref a0), (1, .int X1), (2, .int X2)]) (st' := [.int X1, .int V_36, .int X2, .ref a0]) rfl ?_
        obtain ⟨o_38, h_38, h⟩ := Option.bind_eq_some_iff.mp h
        refine r_csI (pc' := 41) (L' := [(0, .ref a0), (1, .int X1), (2, .int X2)]) (As := [.int V_36, .int X1]) (rest := [.int X2, .ref a0]) (j := 10) hq (z_at.mk 3 rfl rfl) (Or.inl ⟨rfl, rfl⟩) rfl rfl (by omega) (g_b_common_ok hV_36 hx1 H_23 h_38) rfl rfl ?_
        intro R_38 m_38 p_38 e_38 hR_38 H_38
        subst e_38
        obtain ⟨o_41, h_41, h⟩ := Option.bind_eq_some_iff.mp h
        refine r_cvV (pc' := 44) (L' := [(0, .ref a0), (1, .int X1), (2, .int X2)]) (Ps := [.int X2, .int R_38]) (rest := []) hq (z_at.mk 3 rfl rfl) (Or.inl ⟨rfl, rfl⟩) rfl rfl (by decide) (by decide) rfl (Nat.not_lt.mpr (Nat.le_of_ble_eq_true rfl)) rfl rfl (z_cat_le 0 rfl (by decide)) (z_lgl_le 3 rfl (by decide)) (by decide) (H_38.tg (zIn_all (l := [48, 106]) (p := fun a => zT a 12) rfl ha0)) (by omega) (g_ca_hit_ok (zIn_all (l := [48, 106]) (p := fun a => zIn [48, 106] a) rfl ha0) hx2 hR_38 H_38 h_41) rfl rfl ?_
        intro m_41 p_41 e_41 H_41
        subst e_41
        exact g_ca_serve_L44_ok ha0 ih hx1 hx2 H_41 h
def g_ca_serve (a0 : Nat) (x1 : Int) (σ : zS) : Option (Unit × zS) :=
  (g_ca_missingOf a0 x1 σ).bind fun o_2 =>
  g_ca_serve_L8 a0 zK x1 0 o_2.2
set_option maxHeartbeats 4000000 in
theorem g_ca_serve_ok {xl : Nat} {xs : Nat → Int32} {a0 : Nat} (ha0 : zIn [48, 106] a0 = true) {X1 : Int32} {x1 : Int} (hx1 : X1.toInt = x1) {σ : zS} {p : Nat} {m : zM} {o : Unit × zS} (H : zRep xl xs p m σ) (h : g_ca_serve a0 x1 σ = some o) : zGo xl xs (fun p' => p = p') 6 25 0 (z_can 25 0 (lv_args 0 [.ref a0, .int X1])) [] m vV o.2 := by
  have hq : z_mth 25 = some z_r25 := rfl
  unfold g_ca_serve at h
  show zGo xl xs (fun p' => p = p') 6 25 0 [(0, .ref a0), (1, .int X1)] [] m vV o.2
  refine r_p hq 2 (pc' := 2) (L' := [(0, .ref a0), (1, .int X1)]) (st' := [.int X1, .ref a0]) rfl ?_
  obtain ⟨o_2, h_2, h⟩ := Option.bind_eq_some_iff.mp h
  refine r_cvR (pc' := 5) (L' := [(0, .ref a0), (1, .int X1)]) (Ps := [.int X1]) (rest := []) hq (z_at.mk 3 rfl rfl) (Or.inl ⟨rfl, rfl⟩) rfl rfl (by decide) (by decide) rfl (Nat.not_lt.mpr (Nat.le_of_ble_eq_true rfl)) rfl rfl (z_cat_le 0 rfl (by decide)) (z_lgl_le 2 rfl (by decide)) (by decide) (H.tg (zIn_all (l := [48, 106]) (p := fun a => zT a 12) rfl ha0)) (by omega) (g_ca_missingOf_ok (zIn_all (l := [48, 106]) (p := fun a => zIn [48, 106] a) rfl ha0) hx1 H h_2) rfl rfl ?_
  intro m_2 p_2 e_2 H_2
  subst e_2
  refine r_p hq 3 (pc' := 8) (L' := [(0, .ref a0), (1, .int X1), (2, .int ((0 : Int32)))]) (st' := []) rfl ?_
  exact g_ca_serve_L8_ok ha0 zK hx1 (rfl : (0 : Int32).toInt = 0) H_2 h
def g_ca_regionAt_L2 (a0 : Nat) : Nat → Int → Int → zS → Option (Int × zS)
  | 0, _, _, _ => none
  | n + 1, x1, x2, σ =>
    let v_4 := σ a0 2
    if v_4 ≤ x2 then
      some (-1, σ)
    else
      if 0 ≤ x2 ∧ x2 < 181 then
      let v_15 := σ (a0 + 4) x2
      (g_b_meet v_15 x1 σ).bind fun o_17 =>
      if o_17.1 = 0 then
        (g_ca_regionAt_L2 a0 n) x1 (w32 (x2 + 1)) o_17.2
      else
        some (x2, o_17.2)
      else none
set_option maxHeartbeats 4000000 in
theorem g_ca_regionAt_L2_ok {xl : Nat} {xs : Nat → Int32} {a0 : Nat} (ha0 : zIn [48, 106] a0 = true) : ∀ (n : Nat) {X1 : Int32} {x1 : Int} {X2 : Int32} {x2 : Int} {σ : zS} {p : Nat} {m : zM} {o : Int × zS}, X1.toInt = x1 → X2.toInt = x2 → zRep xl xs p m σ → g_ca_regionAt_L2 a0 n x1 x2 σ = some o → zGo xl xs (fun p' => p = p') 3 42 2 [(0, .ref a0), (1, .int X1), (2, .int X2)] [] m (vI o.1) o.2
  | 0, _, _, _, _, _, _, _, _, _, _, _, h => by cases h
  | n + 1, X1, x1, X2, x2, σ, p, m, o, hx1, hx2, H, h => by
    have hq : z_mth 42 = some z_r42 := rfl
    have ih := fun {X1 : Int32} {x1 : Int} {X2 : Int32} {x2 : Int} {σ : zS} {p : Nat} {m : zM} {o : Int × zS} => g_ca_regionAt_L2_ok (xl := xl) (xs := xs) ha0 n (X1 := X1) (x1 := x1) (X2 := X2) (x2 := x2) (σ := σ) (p := p) (m := m) (o := o)
    unfold g_ca_regionAt_L2 at h
    refine r_p hq 2 (pc' := 4) (L' := [(0, .ref a0), (1, .int X1), (2, .int X2)]) (st' := [.ref a0, .int X2]) rfl ?_
    refine r_gI (pc' := 7) (L' := [(0, .ref a0), (1, .int X1), (2, .int X2)]) H hq (z_at.mk 3 rfl rfl) rfl (zIn_all (l := [48, 106]) (p := fun a => zQ a 12 2 0) rfl ha0) rfl rfl ?_
    intro V_4 hV_4
    rcases z_ite h with ⟨c_7, h⟩ | ⟨c_7, h⟩
    · refine r_t2 (pc' := 31) (L' := [(0, .ref a0), (1, .int X1), (2, .int X2)]) hq (z_at.mk 3 rfl rfl) rfl hx2 hV_4 c_7 rfl rfl ?_
      refine r_p hq 1 (pc' := 32) (L' := [(0, .ref a0), (1, .int X1), (2, .int X2)]) (st' := [.int ((-1 : Int32))]) rfl ?_
      cases h
      exact r_ri hq (z_at.mk 1 rfl rfl) rfl rfl (rfl : (-1 : Int32).toInt = -1) rfl H
    · refine r_f2 (pc' := 10) (L' := [(0, .ref a0), (1, .int X1), (2, .int X2)]) hq (z_at.mk 3 rfl rfl) rfl hx2 hV_4 c_7 rfl rfl ?_
      refine r_p hq 1 (pc' := 11) (L' := [(0, .ref a0), (1, .int X1), (2, .int X2)]) (st' := [.ref a0]) rfl ?_
      refine r_gR (b := a0 + 4) (pc' := 14) (L' := [(0, .ref a0), (1, .int X1), (2, .int X2)]) H hq (z_at.mk 3 rfl rfl) rfl (zIn_all (l := [48, 106]) (p := fun a => zQ a 12 4 (100 + a + 4)) rfl ha0) rfl rfl ?_
      refine r_p hq 1 (pc' := 15) (L' := [(0, .ref a0), (1, .int X1), (2, .int X2)]) (st' := [.int X2, .ref (a0 + 4)]) rfl ?_
      obtain ⟨g_15, h⟩ := z_ifo_some h
      refine r_ia (pc' := 16) (L' := [(0, .ref a0), (1, .int X1), (2, .int X2)]) H hq (z_at.mk 1 rfl rfl) (zIn_all (l := [48, 106]) (p := fun a => zAr (a + 4) 0 181) rfl ha0) hx2 g_15 rfl rfl ?_
      intro V_15 hV_15
      refine r_p hq 1 (pc' := 17) (L' := [(0, .ref a0), (1, .int X1), (2, .int X2)]) (st' := [.int X1, .int V_15]) rfl ?_
      obtain ⟨o_17, h_17, h⟩ := Option.bind_eq_some_iff.mp h
      refine r_csI (pc' := 20) (L' := [(0, .ref a0), (1, .int X1), (2, .int X2)]) (As := [.int V_15, .int X1]) (rest := []) (j := 9) hq (z_at.mk 3 rfl rfl) (Or.inl ⟨rfl, rfl⟩) rfl rfl (by omega) (g_b_meet_ok hV_15 hx1 H h_17) rfl rfl ?_
      intro R_17 m_17 p_17 e_17 hR_17 H_17
      subst e_17
      rcases z_ite h with ⟨c_20, h⟩ | ⟨c_20, h⟩
      · refine r_t1 (pc' := 25) (L' := [(0, .ref a0), (1, .int X1), (2, .int X2)]) hq (z_at.mk 3 rfl rfl) rfl hR_17 c_20 rfl rfl ?_
        refine r_p hq 2 (pc' := 2) (L' := [(0, .ref a0), (1, .int X1), (2, .int (X2 + (1 : Int32)))]) (st' := []) rfl ?_
        exact ih hx1 (tx_iadd hx2 (rfl : (1 : Int32).toInt = 1)) H_17 h
      · refine r_f1 (pc' := 23) (L' := [(0, .ref a0), (1, .int X1), (2, .int X2)]) hq (z_at.mk 3 rfl rfl) rfl hR_17 c_20 rfl rfl ?_
        refine r_p hq 1 (pc' := 24) (L' := [(0, .ref a0), (1, .int X1), (2, .int X2)]) (st' := [.int X2]) rfl ?_
        cases h
        exact r_ri hq (z_at.mk 1 rfl rfl) rfl rfl hx2 rfl H_17
def g_ca_regionAt (a0 : Nat) (x1 : Int) (σ : zS) : Option (Int × zS) :=
  g_ca_regionAt_L2 a0 zK x1 0 σ
set_option maxHeartbeats 4000000 in
theorem g_ca_regionAt_ok {xl : Nat} {xs : Nat → Int32} {a0 : Nat} (ha0 : zIn [48, 106] a0 = true) {X1 : Int32} {x1 : Int} (hx1 : X1.toInt = x1) {σ : zS} {p : Nat} {m : zM} {o : Int × zS} (H : zRep xl xs p m σ) (h : g_ca_regionAt a0 x1 σ = some o) : zGo xl xs (fun p' => p = p') 3 42 0 (z_can 42 0 (lv_args 0 [.ref a0, .int X1])) [] m (vI o.1) o.2 := by
  have hq : z_mth 42 = some z_r42 := rfl
  unfold g_ca_regionAt at h
  show zGo xl xs (fun p' => p = p') 3 42 0 [(0, .ref a0), (1, .int X1)] [] m (vI o.1) o.2
  refine r_p hq 2 (pc' := 2) (L' := [(0, .ref a0), (1, .int X1), (2, .int ((0 : Int32)))]) (st' := []) rfl ?_
  exact g_ca_regionAt_L2_ok ha0 zK hx1 (rfl : (0 : Int32).toInt = 0) H h
def g_ca_write_L99 (a0 : Nat) : Nat → Int → Int → Int → Int → zS → Option (Unit × zS)
  | 0, _, _, _, _, _ => none
  | n + 1, x5, x6, y7, x9, σ =>
    let v_105 := σ (a0 + 10) 1
    if v_105 ≤ x9 then
      some ((), σ)
    else
      (g_bs_at (a0 + 10) x9 σ).bind fun o_118 =>
      (g_bs_at (a0 + 10) x9 o_118.2).bind fun o_131 =>
      (g_b_common x6 o_131.1 o_131.2).bind fun o_134 =>
      (g_ca_addLast a0 o_118.1 x5 o_134.1 y7 o_134.2).bind fun o_139 =>
      (g_ca_write_L99 a0 n) x5 x6 y7 (w32 (x9 + 1)) o_139.2
set_option maxHeartbeats 4000000 in
theorem g_ca_write_L99_ok {xl : Nat} {xs : Nat → Int32} {a0 : Nat} (ha0 : zIn [48, 106] a0 = true) : ∀ (n : Nat) {X5 : Int32} {x5 : Int} {X6 : Int32} {x6 : Int} {Y7 : Int64} {y7 : Int} {X9 : Int32} {x9 : Int} {σ : zS} {p : Nat} {m : zM} {o : Unit × zS}, X5.toInt = x5 → X6.toInt = x6 → Y7.toInt = y7 → X9.toInt = x9 → zRep xl xs p m σ → g_ca_write_L99 a0 n x5 x6 y7 x9 σ = some o → zGo xl xs (fun p' => p = p') 4 41 99 [(0, .ref a0), (5, .int X5), (6, .int X6), (7, .long Y7), (9, .int X9)] [] m vV o.2
  | 0, _, _, _, _, _, _, _, _, _, _, _, _, _, _, _, _, _, h => by cases h
  | n + 1, X5, x5, X6, x6, Y7, y7, X9, x9, σ, p, m, o, hx5, hx6, hy7, hx9, H, h => by
    have hq : z_mth 41 = some z_r41 := rfl
    have ih := fun {X5 : Int32} {x5 : Int} {X6 : Int32} {x6 : Int} {Y7 : Int64} {y7 : Int} {X9 : Int32} {x9 : Int} {σ : zS} {p : Nat} {m : zM} {o : Unit × zS} => g_ca_write_L99_ok (xl := xl) (xs := xs) ha0 n (X5 := X5) (x5 := x5) (X6 := X6) (x6 := x6) (Y7 := Y7) (y7 := y7) (X9 := X9) (x9 := x9) (σ := σ) (p := p) (m := m) (o := o)
    unfold g_ca_write_L99 at h
    refine r_p hq 2 (pc' := 102) (L' := [(0, .ref a0), (5, .int X5), (6, .int X6), (7, .long Y7), (9, .int X9)]) (st' := [.ref a0, .int X9]) rfl ?_
    refine r_gR (b := a0 + 10) (pc' := 105) (L' := [(0, .ref a0), (5, .int X5), (6, .int X6), (7, .long Y7), (9, .int X9)]) H hq (z_at.mk 3 rfl rfl) rfl (zIn_all (l := [48, 106]) (p := fun a => zQ a 12 17 (100 + a + 10)) rfl ha0) rfl rfl ?_
    refine r_gI (pc' := 108) (L' := [(0, .ref a0), (5, .int X5), (6, .int X6), (7, .long Y7), (9, .int X9)]) H hq (z_at.mk 3 rfl rfl) rfl (zIn_all (l := [48, 106]) (p := fun a => zQ (a + 10) 11 1 0) rfl ha0) rfl rfl ?_
    intro V_105 hV_105
    rcases z_ite h with ⟨c_108, h⟩ | ⟨c_108, h⟩
    · refine r_t2 (pc' := 149) (L' := [(0, .ref a0), (5, .int X5), (6, .int X6), (7, .long Y7), (9, .int X9)]) hq (z_at.mk 3 rfl rfl) rfl hx9 hV_105 c_108 rfl rfl ?_
      cases h
      exact r_rv hq (z_at.mk 1 rfl rfl) rfl rfl H
    · refine r_f2 (pc' := 111) (L' := [(0, .ref a0), (5, .int X5), (6, .int X6), (7, .long Y7), (9, .int X9)]) hq (z_at.mk 3 rfl rfl) rfl hx9 hV_105 c_108 rfl rfl ?_
      refine r_p hq 2 (pc' := 113) (L' := [(0, .ref a0), (5, .int X5), (6, .int X6), (7, .long Y7), (9, .int X9)]) (st' := [.ref a0, .ref a0]) rfl ?_
      refine r_gR (b := a0 + 10) (pc' := 116) (L' := [(0, .ref a0), (5, .int X5), (6, .int X6), (7, .long Y7), (9, .int X9)]) H hq (z_at.mk 3 rfl rfl) rfl (zIn_all (l := [48, 106]) (p := fun a => zQ a 12 17 (100 + a + 10)) rfl ha0) rfl rfl ?_
      refine r_p hq 1 (pc' := 118) (L' := [(0, .ref a0), (5, .int X5), (6, .int X6), (7, .long Y7), (9, .int X9)]) (st' := [.int X9, .ref (a0 + 10), .ref a0]) rfl ?_
      obtain ⟨o_118, h_118, h⟩ := Option.bind_eq_some_iff.mp h
      refine r_cvI (pc' := 121) (L' := [(0, .ref a0), (5, .int X5), (6, .int X6), (7, .long Y7), (9, .int X9)]) (Ps := [.int X9]) (rest := [.ref a0]) hq (z_at.mk 3 rfl rfl) (Or.inl ⟨rfl, rfl⟩) rfl rfl (by decide) (by decide) rfl (Nat.not_lt.mpr (Nat.le_of_ble_eq_true rfl)) rfl rfl (z_cat_le 1 rfl (by decide)) (z_lgl_le 2 rfl (by decide)) (by decide) (H.tg (zIn_all (l := [48, 106]) (p := fun a => zT (a + 10) 11) rfl ha0)) (by omega) (g_bs_at_ok (zIn_all (l := [48, 106]) (p := fun a => zIn [56, 58, 63, 96, 114, 116, 126, 131] (a + 10)) rfl ha0) hx9 H h_118) rfl rfl ?_
      intro R_118 m_118 p_118 e_118 hR_118 H_118
      subst e_118
      refine r_p hq 3 (pc' := 126) (L' := [(0, .ref a0), (5, .int X5), (6, .int X6), (7, .long Y7), (9, .int X9)]) (st' := [.ref a0, .int X6, .int X5, .int R_118, .ref a0]) rfl ?_
      refine r_gR (b := a0 + 10) (pc' := 129) (L' := [(0, .ref a0), (5, .int X5), (6, .int X6), (7, .long Y7), (9, .int X9)]) H_118 hq (z_at.mk 3 rfl rfl) rfl (zIn_all (l := [48, 106]) (p := fun a => zQ a 12 17 (100 + a + 10)) rfl ha0) rfl rfl ?_
      refine r_p hq 1 (pc' := 131) (L' := [(0, .ref a0), (5, .int X5), (6, .int X6), (7, .long Y7), (9, .int X9)]) (st' := [.int X9, .ref (a0 + 10), .int X6, .int X5, .int R_118, .ref a0]) rfl ?_
      obtain ⟨o_131, h_131, h⟩ := Option.bind_eq_some_iff.mp h
      refine r_cvI (pc' := 134) (L' := [(0, .ref a0), (5, .int X5), (6, .int X6), (7, .long Y7), (9, .int X9)]) (Ps := [.int X9]) (rest := [.int X6, .int X5, .int R_118, .ref a0]) hq (z_at.mk 3 rfl rfl) (Or.inl ⟨rfl, rfl⟩) rfl rfl (by decide) (by decide) rfl (Nat.not_lt.mpr (Nat.le_of_ble_eq_true rfl)) rfl rfl (z_cat_le 4 rfl (by decide)) (z_lgl_le 2 rfl (by decide)) (by decide) (H_118.tg (zIn_all (l := [48, 106]) (p := fun a => zT (a + 10) 11) rfl ha0)) (by omega) (g_bs_at_ok (zIn_all (l := [48, 106]) (p := fun a => zIn [56, 58, 63, 96, 114, 116, 126, 131] (a + 10)) rfl ha0) hx9 H_118 h_131) rfl rfl ?_
      intro R_131 m_131 p_131 e_131 hR_131 H_131
      subst e_131
      obtain ⟨o_134, h_134, h⟩ := Option.bind_eq_some_iff.mp h
      refine r_csI (pc' := 137) (L' := [(0, .ref a0), (5, .int X5), (6, .int X6), (7, .long Y7), (9, .int X9)]) (As := [.int X6, .int R_131]) (rest := [.int X5, .int R_118, .ref a0]) (j := 10) hq (z_at.mk 3 rfl rfl) (Or.inl ⟨rfl, rfl⟩) rfl rfl (by omega) (g_b_common_ok hx6 hR_131 H_131 h_134) rfl rfl ?_
      intro R_134 m_134 p_134 e_134 hR_134 H_134
      subst e_134
      refine r_p hq 1 (pc' := 139) (L' := [(0, .ref a0), (5, .int X5), (6, .int X6), (7, .long Y7), (9, .int X9)]) (st' := [.long Y7, .int R_134, .int X5, .int R_118, .ref a0]) rfl ?_
      obtain ⟨o_139, h_139, h⟩ := Option.bind_eq_some_iff.mp h
      refine r_cvI (pc' := 142) (L' := [(0, .ref a0), (5, .int X5), (6, .int X6), (7, .long Y7), (9, .int X9)]) (Ps := [.int R_118, .int X5, .int R_134, .long Y7]) (rest := []) hq (z_at.mk 3 rfl rfl) (Or.inl ⟨rfl, rfl⟩) rfl rfl (by decide) (by decide) rfl (Nat.not_lt.mpr (Nat.le_of_ble_eq_true rfl)) rfl rfl (z_cat_le 0 rfl (by decide)) (z_lgl_le 6 rfl (by decide)) (by decide) (H_134.tg (zIn_all (l := [48, 106]) (p := fun a => zT a 12) rfl ha0)) (by omega) (g_ca_addLast_ok (zIn_all (l := [48, 106]) (p := fun a => zIn [48, 106] a) rfl ha0) hR_118 hx5 hR_134 hy7 H_134 h_139) rfl rfl ?_
      intro R_139 m_139 p_139 e_139 hR_139 H_139
      subst e_139
      refine r_p hq 3 (pc' := 99) (L' := [(0, .ref a0), (5, .int X5), (6, .int X6), (7, .long Y7), (9, .int (X9 + (1 : Int32)))]) (st' := []) rfl ?_
      exact ih hx5 hx6 hy7 (tx_iadd hx9 (rfl : (1 : Int32).toInt = 1)) H_139 h
def g_ca_write (a0 : Nat) (x1 : Int) (σ : zS) : Option (Unit × zS) :=
  (g_ca_regionAt a0 x1 σ).bind fun o_2 =>
  if 0 ≤ o_2.1 then
    let v_13 := o_2.2 a0 15
    let s_18 := zu o_2.2 a0 15 (w32 (v_13 + 1))
    (g_se_of (a0 + 1) 3 s_18).bind fun o_26 =>
    if o_26.1 ≠ 0 then
      if 0 ≤ o_2.1 ∧ o_2.1 < 181 then
      let v_40 := o_26.2 (a0 + 4) o_2.1
      if 0 ≤ o_2.1 ∧ o_2.1 < 181 then
      let v_48 := o_26.2 (a0 + 5) o_2.1
      if 0 ≤ o_2.1 ∧ o_2.1 < 181 then
      let v_56 := o_26.2 (a0 + 6) o_2.1
      if 0 ≤ o_2.1 ∧ o_2.1 < 181 then
      let v_64 := o_26.2 (a0 + 7) o_2.1
      (g_ca_remove a0 o_2.1 o_26.2).bind fun o_69 =>
      if o_26.1 ≠ 1 then
        let s_83 := zu o_69.2 (a0 + 10) 1 0
        (g_bs_addRest (a0 + 10) v_40 x1 s_83).bind fun o_93 =>
        g_ca_write_L99 a0 zK v_48 v_56 v_64 0 o_93.2
      else
        some ((), o_69.2)
      else none
      else none
      else none
      else none
    else
      some ((), o_26.2)
  else
    some ((), o_2.2)
set_option maxHeartbeats 4000000 in
theorem g_ca_write_ok {xl : Nat} {xs : Nat → Int32} {a0 : Nat} (ha0 : zIn [48, 106] a0 = true) {X1 : Int32} {x1 : Int} (hx1 : X1.toInt = x1) {σ : zS} {p : Nat} {m : zM} {o : Unit × zS} (H : zRep xl xs p m σ) (h : g_ca_write a0 x1 σ = some o) : zGo xl xs (fun p' => p = p') 4 41 0 (z_can 41 0 (lv_args 0 [.ref a0, .int X1])) [] m vV o.2 := by
  have hq : z_mth 41 = some z_r41 := rfl
  unfold g_ca_write at h
  show zGo xl xs (fun p' => p = p') 4 41 0 [(0, .ref a0), (1, .int X1)] [] m vV o.2
  refine r_p hq 2 (pc' := 2) (L' := [(0, .ref a0), (1, .int X1)]) (st' := [.int X1, .ref a0]) rfl ?_
  obtain ⟨o_2, h_2, h⟩ := Option.bind_eq_some_iff.mp h
  refine r_cvI (pc' := 5) (L' := [(0, .ref a0), (1, .int X1)]) (Ps := [.int X1]) (rest := []) hq (z_at.mk 3 rfl rfl) (Or.inl ⟨rfl, rfl⟩) rfl rfl (by decide) (by decide) rfl (Nat.not_lt.mpr (Nat.le_of_ble_eq_true rfl)) rfl rfl (z_cat_le 0 rfl (by decide)) (z_lgl_le 2 rfl (by decide)) (by decide) (H.tg (zIn_all (l := [48, 106]) (p := fun a => zT a 12) rfl ha0)) (by omega) (g_ca_regionAt_ok (zIn_all (l := [48, 106]) (p := fun a => zIn [48, 106] a) rfl ha0) hx1 H h_2) rfl rfl ?_
  intro R_2 m_2 p_2 e_2 hR_2 H_2
  subst e_2
  refine r_p hq 2 (pc' := 7) (L' := [(2, .int R_2), (0, .ref a0), (1, .int X1)]) (st' := [.int R_2]) rfl ?_
  rcases z_ite h with ⟨c_7, h⟩ | ⟨c_7, h⟩
  · refine r_t1 (pc' := 11) (L' := [(2, .int R_2), (0, .ref a0), (1, .int X1)]) hq (z_at.mk 3 rfl rfl) rfl hR_2 c_7 rfl rfl ?_
    refine r_p hq 2 (pc' := 13) (L' := [(2, .int R_2), (0, .ref a0), (1, .int X1)]) (st' := [.ref a0, .ref a0]) rfl ?_
    refine r_gI (pc' := 16) (L' := [(2, .int R_2), (0, .ref a0), (1, .int X1)]) H_2 hq (z_at.mk 3 rfl rfl) rfl (zIn_all (l := [48, 106]) (p := fun a => zQ a 12 15 0) rfl ha0) rfl rfl ?_
    intro V_13 hV_13
    refine r_p hq 2 (pc' := 18) (L' := [(2, .int R_2), (0, .ref a0), (1, .int X1)]) (st' := [.int (V_13 + ((1 : Int32))), .ref a0]) rfl ?_
    refine r_pI (X := V_13 + ((1 : Int32))) (pc' := 21) (L' := [(2, .int R_2), (0, .ref a0), (1, .int X1)]) H_2 hq (z_at.mk 3 rfl rfl) rfl (zIn_all (l := [48, 106]) (p := fun a => zQ a 12 15 0) rfl ha0) (tx_iadd hV_13 (rfl : (1 : Int32).toInt = 1)) (by decide) rfl rfl rfl rfl ?_
    intro m_18 H_18
    refine r_p hq 1 (pc' := 22) (L' := [(2, .int R_2), (0, .ref a0), (1, .int X1)]) (st' := [.ref a0]) rfl ?_
    refine r_gR (b := a0 + 1) (pc' := 25) (L' := [(2, .int R_2), (0, .ref a0), (1, .int X1)]) H_18 hq (z_at.mk 3 rfl rfl) rfl (zIn_all (l := [48, 106]) (p := fun a => zQ a 12 1 (100 + a + 1)) rfl ha0) rfl rfl ?_
    refine r_p hq 1 (pc' := 26) (L' := [(2, .int R_2), (0, .ref a0), (1, .int X1)]) (st' := [.int ((3 : Int32)), .ref (a0 + 1)]) rfl ?_
    obtain ⟨o_26, h_26, h⟩ := Option.bind_eq_some_iff.mp h
    refine r_cvI (pc' := 29) (L' := [(2, .int R_2), (0, .ref a0), (1, .int X1)]) (Ps := [.int ((3 : Int32))]) (rest := []) hq (z_at.mk 3 rfl rfl) (Or.inl ⟨rfl, rfl⟩) rfl rfl (by decide) (by decide) rfl (Nat.not_lt.mpr (Nat.le_of_ble_eq_true rfl)) rfl rfl (z_cat_le 0 rfl (by decide)) (z_lgl_le 2 rfl (by decide)) (by decide) (H_18.tg (zIn_all (l := [48, 106]) (p := fun a => zT (a + 1) 16) rfl ha0)) (by omega) (g_se_of_ok (zIn_all (l := [48, 106]) (p := fun a => zIn [49, 82, 107, 118] (a + 1)) rfl ha0) (rfl : (3 : Int32).toInt = 3) H_18 h_26) rfl rfl ?_
    intro R_26 m_26 p_26 e_26 hR_26 H_26
    subst e_26
    refine r_p hq 2 (pc' := 31) (L' := [(3, .int R_26), (2, .int R_2), (0, .ref a0), (1, .int X1)]) (st' := [.int R_26]) rfl ?_
    rcases z_ite h with ⟨c_31, h⟩ | ⟨c_31, h⟩
    · refine r_t1 (pc' := 35) (L' := [(3, .int R_26), (2, .int R_2), (0, .ref a0), (1, .int X1)]) hq (z_at.mk 3 rfl rfl) rfl hR_26 c_31 rfl rfl ?_
      refine r_p hq 1 (pc' := 36) (L' := [(3, .int R_26), (2, .int R_2), (0, .ref a0), (1, .int X1)]) (st' := [.ref a0]) rfl ?_
      refine r_gR (b := a0 + 4) (pc' := 39) (L' := [(3, .int R_26), (2, .int R_2), (0, .ref a0), (1, .int X1)]) H_26 hq (z_at.mk 3 rfl rfl) rfl (zIn_all (l := [48, 106]) (p := fun a => zQ a 12 4 (100 + a + 4)) rfl ha0) rfl rfl ?_
      refine r_p hq 1 (pc' := 40) (L' := [(3, .int R_26), (2, .int R_2), (0, .ref a0), (1, .int X1)]) (st' := [.int R_2, .ref (a0 + 4)]) rfl ?_
      obtain ⟨g_40, h⟩ := z_ifo_some h
      refine r_ia (pc' := 41) (L' := [(3, .int R_26), (2, .int R_2), (0, .ref a0), (1, .int X1)]) H_26 hq (z_at.mk 1 rfl rfl) (zIn_all (l := [48, 106]) (p := fun a => zAr (a + 4) 0 181) rfl ha0) hR_2 g_40 rfl rfl ?_
      intro V_40 hV_40
      refine r_p hq 2 (pc' := 44) (L' := [(4, .int V_40), (3, .int R_26), (2, .int R_2), (0, .ref a0), (1, .int X1)]) (st' := [.ref a0]) rfl ?_
      refine r_gR (b := a0 + 5) (pc' := 47) (L' := [(4, .int V_40), (3, .int R_26), (2, .int R_2), (0, .ref a0), (1, .int X1)]) H_26 hq (z_at.mk 3 rfl rfl) rfl (zIn_all (l := [48, 106]) (p := fun a => zQ a 12 5 (100 + a + 5)) rfl ha0) rfl rfl ?_
      refine r_p hq 1 (pc' := 48) (L' := [(4, .int V_40), (3, .int R_26), (2, .int R_2), (0, .ref a0), (1, .int X1)]) (st' := [.int R_2, .ref (a0 + 5)]) rfl ?_
      obtain ⟨g_48, h⟩ := z_ifo_some h
      refine r_ia (pc' := 49) (L' := [(4, .int V_40), (3, .int R_26), (2, .int R_2), (0, .ref a0), (1, .int X1)]) H_26 hq (z_at.mk 1 rfl rfl) (zIn_all (l := [48, 106]) (p := fun a => zAr (a + 5) 0 181) rfl ha0) hR_2 g_48 rfl rfl ?_
      intro V_48 hV_48
      refine r_p hq 2 (pc' := 52) (L' := [(5, .int V_48), (4, .int V_40), (3, .int R_26), (2, .int R_2), (0, .ref a0), (1, .int X1)]) (st' := [.ref a0]) rfl ?_
      refine r_gR (b := a0 + 6) (pc' := 55) (L' := [(5, .int V_48), (4, .int V_40), (3, .int R_26), (2, .int R_2), (0, .ref a0), (1, .int X1)]) H_26 hq (z_at.mk 3 rfl rfl) rfl (zIn_all (l := [48, 106]) (p := fun a => zQ a 12 6 (100 + a + 6)) rfl ha0) rfl rfl ?_
      refine r_p hq 1 (pc' := 56) (L' := [(5, .int V_48), (4, .int V_40), (3, .int R_26), (2, .int R_2), (0, .ref a0), (1, .int X1)]) (st' := [.int R_2, .ref (a0 + 6)]) rfl ?_
      obtain ⟨g_56, h⟩ := z_ifo_some h
      refine r_ia (pc' := 57) (L' := [(5, .int V_48), (4, .int V_40), (3, .int R_26), (2, .int R_2), (0, .ref a0), (1, .int X1)]) H_26 hq (z_at.mk 1 rfl rfl) (zIn_all (l := [48, 106]) (p := fun a => zAr (a + 6) 0 181) rfl ha0) hR_2 g_56 rfl rfl ?_
      intro V_56 hV_56
      refine r_p hq 2 (pc' := 60) (L' := [(6, .int V_56), (5, .int V_48), (4, .int V_40), (3, .int R_26), (2, .int R_2), (0, .ref a0), (1, .int X1)]) (st' := [.ref a0]) rfl ?_
      refine r_gR (b := a0 + 7) (pc' := 63) (L' := [(6, .int V_56), (5, .int V_48), (4, .int V_40), (3, .int R_26), (2, .int R_2), (0, .ref a0), (1, .int X1)]) H_26 hq (z_at.mk 3 rfl rfl) rfl (zIn_all (l := [48, 106]) (p := fun a => zQ a 12 7 (100 + a + 7)) rfl ha0) rfl rfl ?_
      refine r_p hq 1 (pc' := 64) (L' := [(6, .int V_56), (5, .int V_48), (4, .int V_40), (3, .int R_26), (2, .int R_2), (0, .ref a0), (1, .int X1)]) (st' := [.int R_2, .ref (a0 + 7)]) rfl ?_
      obtain ⟨g_64, h⟩ := z_ifo_some h
      refine r_la (pc' := 65) (L' := [(6, .int V_56), (5, .int V_48), (4, .int V_40), (3, .int R_26), (2, .int R_2), (0, .ref a0), (1, .int X1)]) H_26 hq (z_at.mk 1 rfl rfl) (zIn_all (l := [48, 106]) (p := fun a => zAr (a + 7) 1 181) rfl ha0) hR_2 g_64 rfl rfl ?_
      intro V_64 hV_64
      refine r_p hq 3 (pc' := 69) (L' := [(7, .long V_64), (6, .int V_56), (5, .int V_48), (4, .int V_40), (3, .int R_26), (2, .int R_2), (0, .ref a0), (1, .int X1)]) (st' := [.int R_2, .ref a0]) rfl ?_
      obtain ⟨o_69, h_69, h⟩ := Option.bind_eq_some_iff.mp h
      refine r_cvV (pc' := 72) (L' := [(7, .long V_64), (6, .int V_56), (5, .int V_48), (4, .int V_40), (3, .int R_26), (2, .int R_2), (0, .ref a0), (1, .int X1)]) (Ps := [.int R_2]) (rest := []) hq (z_at.mk 3 rfl rfl) (Or.inl ⟨rfl, rfl⟩) rfl rfl (by decide) (by decide) rfl (Nat.not_lt.mpr (Nat.le_of_ble_eq_true rfl)) rfl rfl (z_cat_le 0 rfl (by decide)) (z_lgl_le 2 rfl (by decide)) (by decide) (H_26.tg (zIn_all (l := [48, 106]) (p := fun a => zT a 12) rfl ha0)) (by omega) (g_ca_remove_ok (zIn_all (l := [48, 106]) (p := fun a => zIn [48, 106] a) rfl ha0) hR_2 H_26 h_69) rfl rfl ?_
      intro m_69 p_69 e_69 H_69
      subst e_69
      refine r_p hq 2 (pc' := 74) (L' := [(7, .long V_64), (6, .int V_56), (5, .int V_48), (4, .int V_40), (3, .int R_26), (2, .int R_2), (0, .ref a0), (1, .int X1)]) (st' := [.int ((1 : Int32)), .int R_26]) rfl ?_
      rcases z_ite h with ⟨c_74, h⟩ | ⟨c_74, h⟩
      · refine r_t2 (pc' := 78) (L' := [(7, .long V_64), (6, .int V_56), (5, .int V_48), (4, .int V_40), (3, .int R_26), (2, .int R_2), (0, .ref a0), (1, .int X1)]) hq (z_at.mk 3 rfl rfl) rfl hR_26 (rfl : (1 : Int32).toInt = 1) c_74 rfl rfl ?_
        refine r_p hq 1 (pc' := 79) (L' := [(7, .long V_64), (6, .int V_56), (5, .int V_48), (4, .int V_40), (3, .int R_26), (2, .int R_2), (0, .ref a0), (1, .int X1)]) (st' := [.ref a0]) rfl ?_
        refine r_gR (b := a0 + 10) (pc' := 82) (L' := [(7, .long V_64), (6, .int V_56), (5, .int V_48), (4, .int V_40), (3, .int R_26), (2, .int R_2), (0, .ref a0), (1, .int X1)]) H_69 hq (z_at.mk 3 rfl rfl) rfl (zIn_all (l := [48, 106]) (p := fun a => zQ a 12 17 (100 + a + 10)) rfl ha0) rfl rfl ?_
        refine r_p hq 1 (pc' := 83) (L' := [(7, .long V_64), (6, .int V_56), (5, .int V_48), (4, .int V_40), (3, .int R_26), (2, .int R_2), (0, .ref a0), (1, .int X1)]) (st' := [.int ((0 : Int32)), .ref (a0 + 10)]) rfl ?_
        refine r_pI (X := (0 : Int32)) (pc' := 86) (L' := [(7, .long V_64), (6, .int V_56), (5, .int V_48), (4, .int V_40), (3, .int R_26), (2, .int R_2), (0, .ref a0), (1, .int X1)]) H_69 hq (z_at.mk 3 rfl rfl) rfl (zIn_all (l := [48, 106]) (p := fun a => zQ (a + 10) 11 1 0) rfl ha0) (rfl : (0 : Int32).toInt = 0) (by decide) rfl rfl rfl rfl ?_
        intro m_83 H_83
        refine r_p hq 1 (pc' := 87) (L' := [(7, .long V_64), (6, .int V_56), (5, .int V_48), (4, .int V_40), (3, .int R_26), (2, .int R_2), (0, .ref a0), (1, .int X1)]) (st' := [.ref a0]) rfl ?_
        refine r_gR (b := a0 + 10) (pc' := 90) (L' := [(7, .long V_64), (6, .int V_56), (5, .int V_48), (4, .int V_40), (3, .int R_26), (2, .int R_2), (0, .ref a0), (1, .int X1)]) H_83 hq (z_at.mk 3 rfl rfl) rfl (zIn_all (l := [48, 106]) (p := fun a => zQ a 12 17 (100 + a + 10)) rfl ha0) rfl rfl ?_
        refine r_p hq 2 (pc' := 93) (L' := [(7, .long V_64), (6, .int V_56), (5, .int V_48), (4, .int V_40), (3, .int R_26), (2, .int R_2), (0, .ref a0), (1, .int X1)]) (st' := [.int X1, .int V_40, .ref (a0 + 10)]) rfl ?_
        obtain ⟨o_93, h_93, h⟩ := Option.bind_eq_some_iff.mp h
        refine r_cvV (pc' := 96) (L' := [(7, .long V_64), (6, .int V_56), (5, .int V_48), (4, .int V_40), (3, .int R_26), (2, .int R_2), (0, .ref a0), (1, .int X1)]) (Ps := [.int V_40, .int X1]) (rest := []) hq (z_at.mk 3 rfl rfl) (Or.inl ⟨rfl, rfl⟩) rfl rfl (by decide) (by decide) rfl (Nat.not_lt.mpr (Nat.le_of_ble_eq_true rfl)) rfl rfl (z_cat_le 0 rfl (by decide)) (z_lgl_le 3 rfl (by decide)) (by decide) (H_83.tg (zIn_all (l := [48, 106]) (p := fun a => zT (a + 10) 11) rfl ha0)) (by omega) (g_bs_addRest_ok (zIn_all (l := [48, 106]) (p := fun a => zIn [58, 116] (a + 10)) rfl ha0) hV_40 hx1 H_83 h_93) rfl rfl ?_
        intro m_93 p_93 e_93 H_93
        subst e_93
        refine r_p hq 2 (pc' := 99) (L' := [(0, .ref a0), (5, .int V_48), (6, .int V_56), (7, .long V_64), (9, .int ((0 : Int32)))]) (st' := []) rfl ?_
        exact g_ca_write_L99_ok ha0 zK hV_48 hV_56 hV_64 (rfl : (0 : Int32).toInt = 0) H_93 h
      · refine r_f2 (pc' := 77) (L' := [(7, .long V_64), (6, .int V_56), (5, .int V_48), (4, .int V_40), (3, .int R_26), (2, .int R_2), (0, .ref a0), (1, .int X1)]) hq (z_at.mk 3 rfl rfl) rfl hR_26 (rfl : (1 : Int32).toInt = 1) c_74 rfl rfl ?_
        cases h
        exact r_rv hq (z_at.mk 1 rfl rfl) rfl rfl H_69
    · refine r_f1 (pc' := 34) (L' := [(3, .int R_26), (2, .int R_2), (0, .ref a0), (1, .int X1)]) hq (z_at.mk 3 rfl rfl) rfl hR_26 c_31 rfl rfl ?_
      cases h
      exact r_rv hq (z_at.mk 1 rfl rfl) rfl rfl H_26
  · refine r_f1 (pc' := 10) (L' := [(2, .int R_2), (0, .ref a0), (1, .int X1)]) hq (z_at.mk 3 rfl rfl) rfl hR_2 c_7 rfl rfl ?_
    cases h
    exact r_rv hq (z_at.mk 1 rfl rfl) rfl rfl H_2
def g_ca_admit_L45 (a0 : Nat) (g4 : Int → Int → zS → Option (Int × zS)) (x2 : Int) (x3 : Int) (σ : zS) : Option (Int × zS) :=
  g4 x2 (w32 (x3 + 1)) σ
set_option maxHeartbeats 4000000 in
theorem g_ca_admit_L45_ok {xl : Nat} {xs : Nat → Int32} {a0 : Nat} (ha0 : zIn [48, 106] a0 = true) {g4 : Int → Int → zS → Option (Int × zS)} (hg4 : ∀ {X2 : Int32} {x2 : Int} {X3 : Int32} {x3 : Int} {σ : zS} {p : Nat} {m : zM} {o : Int × zS}, X2.toInt = x2 → X3.toInt = x3 → zRep xl xs p m σ → g4 x2 x3 σ = some o → zGo xl xs (fun p' => p = p') 6 43 4 [(0, .ref a0), (1, .ref 126), (2, .int X2), (3, .int X3)] [] m (vI o.1) o.2) {X2 : Int32} {x2 : Int} (hx2 : X2.toInt = x2) {X3 : Int32} {x3 : Int} (hx3 : X3.toInt = x3) {σ : zS} {p : Nat} {m : zM} {o : Int × zS} (H : zRep xl xs p m σ) (h : g_ca_admit_L45 a0 g4 x2 x3 σ = some o) : zGo xl xs (fun p' => p = p') 6 43 45 [(0, .ref a0), (1, .ref 126), (2, .int X2), (3, .int X3)] [] m (vI o.1) o.2 := by
  have hq : z_mth 43 = some z_r43 := rfl
  unfold g_ca_admit_L45 at h
  refine r_p hq 2 (pc' := 4) (L' := [(0, .ref a0), (1, .ref 126), (2, .int X2), (3, .int (X3 + (1 : Int32)))]) (st' := []) rfl ?_
  exact hg4 hx2 (tx_iadd hx3 (rfl : (1 : Int32).toInt = 1)) H h
def g_ca_admit_L4 (a0 : Nat) : Nat → Int → Int → zS → Option (Int × zS)
  | 0, _, _, _ => none
  | n + 1, x2, x3, σ =>
    let v_6 := σ 126 1
    if v_6 ≤ x3 then
      (g_ca_trim a0 σ).bind fun o_52 =>
      some (x2, o_52.2)
    else
      (g_bs_at 126 x3 σ).bind fun o_15 =>
      (g_ca_regionAt a0 o_15.1 o_15.2).bind fun o_18 =>
      if 0 ≤ o_18.1 then
        g_ca_admit_L45 a0 ((g_ca_admit_L4 a0 n)) x2 x3 o_18.2
      else
        (g_bs_at 126 x3 o_18.2).bind fun o_27 =>
        (g_ca_ask a0 o_27.1 o_27.2).bind fun o_30 =>
        (g_bs_at 126 x3 o_30.2).bind fun o_36 =>
        (g_ca_addNew a0 o_36.1 o_36.2).bind fun o_39 =>
        g_ca_admit_L45 a0 ((g_ca_admit_L4 a0 n)) (w32 (x2 + 1)) x3 o_39.2
set_option maxHeartbeats 4000000 in
theorem g_ca_admit_L4_ok {xl : Nat} {xs : Nat → Int32} {a0 : Nat} (ha0 : zIn [48, 106] a0 = true) : ∀ (n : Nat) {X2 : Int32} {x2 : Int} {X3 : Int32} {x3 : Int} {σ : zS} {p : Nat} {m : zM} {o : Int × zS}, X2.toInt = x2 → X3.toInt = x3 → zRep xl xs p m σ → g_ca_admit_L4 a0 n x2 x3 σ = some o → zGo xl xs (fun p' => p = p') 6 43 4 [(0, .ref a0), (1, .ref 126), (2, .int X2), (3, .int X3)] [] m (vI o.1) o.2
  | 0, _, _, _, _, _, _, _, _, _, _, _, h => by cases h
  | n + 1, X2, x2, X3, x3, σ, p, m, o, hx2, hx3, H, h => by
    have hq : z_mth 43 = some z_r43 := rfl
    have ih := fun {X2 : Int32} {x2 : Int} {X3 : Int32} {x3 : Int} {σ : zS} {p : Nat} {m : zM} {o : Int × zS} => g_ca_admit_L4_ok (xl := xl) (xs := xs) ha0 n (X2 := X2) (x2 := x2) (X3 := X3) (x3 := x3) (σ := σ) (p := p) (m := m) (o := o)
    unfold g_ca_admit_L4 at h
    refine r_p hq 2 (pc' := 6) (L' := [(0, .ref a0), (1, .ref 126), (2, .int X2), (3, .int X3)]) (st' := [.ref 126, .int X3]) rfl ?_
    refine r_gI (pc' := 9) (L' := [(0, .ref a0), (1, .ref 126), (2, .int X2), (3, .int X3)]) H hq (z_at.mk 3 rfl rfl) rfl rfl rfl rfl ?_
    intro V_6 hV_6
    rcases z_ite h with ⟨c_9, h⟩ | ⟨c_9, h⟩
    · refine r_t2 (pc' := 51) (L' := [(0, .ref a0), (1, .ref 126), (2, .int X2), (3, .int X3)]) hq (z_at.mk 3 rfl rfl) rfl hx3 hV_6 c_9 rfl rfl ?_
      refine r_p hq 1 (pc' := 52) (L' := [(0, .ref a0), (1, .ref 126), (2, .int X2), (3, .int X3)]) (st' := [.ref a0]) rfl ?_
      obtain ⟨o_52, h_52, h⟩ := Option.bind_eq_some_iff.mp h
      refine r_cvV (pc' := 55) (L' := [(0, .ref a0), (1, .ref 126), (2, .int X2), (3, .int X3)]) (Ps := []) (rest := []) hq (z_at.mk 3 rfl rfl) (Or.inl ⟨rfl, rfl⟩) rfl rfl (by decide) (by decide) rfl (Nat.not_lt.mpr (Nat.le_of_ble_eq_true rfl)) rfl rfl (z_cat_le 0 rfl (by decide)) (z_lgl_le 1 rfl (by decide)) (by decide) (H.tg (zIn_all (l := [48, 106]) (p := fun a => zT a 12) rfl ha0)) (by omega) (g_ca_trim_ok (zIn_all (l := [48, 106]) (p := fun a => zIn [48, 106] a) rfl ha0) H h_52) rfl rfl ?_
      intro m_52 p_52 e_52 H_52
      subst e_52
      refine r_p hq 1 (pc' := 56) (L' := [(0, .ref a0), (1, .ref 126), (2, .int X2), (3, .int X3)]) (st' := [.int X2]) rfl ?_
      cases h
      exact r_ri hq (z_at.mk 1 rfl rfl) rfl rfl hx2 rfl H_52
    · refine r_f2 (pc' := 12) (L' := [(0, .ref a0), (1, .ref 126), (2, .int X2), (3, .int X3)]) hq (z_at.mk 3 rfl rfl) rfl hx3 hV_6 c_9 rfl rfl ?_
      refine r_p hq 3 (pc' := 15) (L' := [(0, .ref a0), (1, .ref 126), (2, .int X2), (3, .int X3)]) (st' := [.int X3, .ref 126, .ref a0]) rfl ?_
      obtain ⟨o_15, h_15, h⟩ := Option.bind_eq_some_iff.mp h
      refine r_cvI (pc' := 18) (L' := [(0, .ref a0), (1, .ref 126), (2, .int X2), (3, .int X3)]) (Ps := [.int X3]) (rest := [.ref a0]) hq (z_at.mk 3 rfl rfl) (Or.inl ⟨rfl, rfl⟩) rfl rfl (by decide) (by decide) rfl (Nat.not_lt.mpr (Nat.le_of_ble_eq_true rfl)) rfl rfl (z_cat_le 1 rfl (by decide)) (z_lgl_le 2 rfl (by decide)) (by decide) (H.tg rfl) (by omega) (g_bs_at_ok rfl hx3 H h_15) rfl rfl ?_
      intro R_15 m_15 p_15 e_15 hR_15 H_15
      subst e_15
      obtain ⟨o_18, h_18, h⟩ := Option.bind_eq_some_iff.mp h
      refine r_cvI (pc' := 21) (L' := [(0, .ref a0), (1, .ref 126), (2, .int X2), (3, .int X3)]) (Ps := [.int R_15]) (rest := []) hq (z_at.mk 3 rfl rfl) (Or.inl ⟨rfl, rfl⟩) rfl rfl (by decide) (by decide) rfl (Nat.not_lt.mpr (Nat.le_of_ble_eq_true rfl)) rfl rfl (z_cat_le 0 rfl (by decide)) (z_lgl_le 2 rfl (by decide)) (by decide) (H_15.tg (zIn_all (l := [48, 106]) (p := fun a => zT a 12) rfl ha0)) (by omega) (g_ca_regionAt_ok (zIn_all (l := [48, 106]) (p := fun a => zIn [48, 106] a) rfl ha0) hR_15 H_15 h_18) rfl rfl ?_
      intro R_18 m_18 p_18 e_18 hR_18 H_18
      subst e_18
      rcases z_ite h with ⟨c_21, h⟩ | ⟨c_21, h⟩
      · refine r_t1 (pc' := 45) (L' := [(0, .ref a0), (1, .ref 126), (2, .int X2), (3, .int X3)]) hq (z_at.mk 3 rfl rfl) rfl hR_18 c_21 rfl rfl ?_
        exact g_ca_admit_L45_ok ha0 ih hx2 hx3 H_18 h
      · refine r_f1 (pc' := 24) (L' := [(0, .ref a0), (1, .ref 126), (2, .int X2), (3, .int X3)]) hq (z_at.mk 3 rfl rfl) rfl hR_18 c_21 rfl rfl ?_
        refine r_p hq 3 (pc' := 27) (L' := [(0, .ref a0), (1, .ref 126), (2, .int X2), (3, .int X3)]) (st' := [.int X3, .ref 126, .ref a0]) rfl ?_
        obtain ⟨o_27, h_27, h⟩ := Option.bind_eq_some_iff.mp h
        refine r_cvI (pc' := 30) (L' := [(0, .ref a0), (1, .ref 126), (2, .int X2), (3, .int X3)]) (Ps := [.int X3]) (rest := [.ref a0]) hq (z_at.mk 3 rfl rfl) (Or.inl ⟨rfl, rfl⟩) rfl rfl (by decide) (by decide) rfl (Nat.not_lt.mpr (Nat.le_of_ble_eq_true rfl)) rfl rfl (z_cat_le 1 rfl (by decide)) (z_lgl_le 2 rfl (by decide)) (by decide) (H_18.tg rfl) (by omega) (g_bs_at_ok rfl hx3 H_18 h_27) rfl rfl ?_
        intro R_27 m_27 p_27 e_27 hR_27 H_27
        subst e_27
        obtain ⟨o_30, h_30, h⟩ := Option.bind_eq_some_iff.mp h
        refine r_cvV (pc' := 33) (L' := [(0, .ref a0), (1, .ref 126), (2, .int X2), (3, .int X3)]) (Ps := [.int R_27]) (rest := []) hq (z_at.mk 3 rfl rfl) (Or.inl ⟨rfl, rfl⟩) rfl rfl (by decide) (by decide) rfl (Nat.not_lt.mpr (Nat.le_of_ble_eq_true rfl)) rfl rfl (z_cat_le 0 rfl (by decide)) (z_lgl_le 2 rfl (by decide)) (by decide) (H_27.tg (zIn_all (l := [48, 106]) (p := fun a => zT a 12) rfl ha0)) (by omega) (g_ca_ask_ok (zIn_all (l := [48, 106]) (p := fun a => zIn [48, 106] a) rfl ha0) hR_27 H_27 h_30) rfl rfl ?_
        intro m_30 p_30 e_30 H_30
        subst e_30
        refine r_p hq 3 (pc' := 36) (L' := [(0, .ref a0), (1, .ref 126), (2, .int X2), (3, .int X3)]) (st' := [.int X3, .ref 126, .ref a0]) rfl ?_
        obtain ⟨o_36, h_36, h⟩ := Option.bind_eq_some_iff.mp h
        refine r_cvI (pc' := 39) (L' := [(0, .ref a0), (1, .ref 126), (2, .int X2), (3, .int X3)]) (Ps := [.int X3]) (rest := [.ref a0]) hq (z_at.mk 3 rfl rfl) (Or.inl ⟨rfl, rfl⟩) rfl rfl (by decide) (by decide) rfl (Nat.not_lt.mpr (Nat.le_of_ble_eq_true rfl)) rfl rfl (z_cat_le 1 rfl (by decide)) (z_lgl_le 2 rfl (by decide)) (by decide) (H_30.tg rfl) (by omega) (g_bs_at_ok rfl hx3 H_30 h_36) rfl rfl ?_
        intro R_36 m_36 p_36 e_36 hR_36 H_36
        subst e_36
        obtain ⟨o_39, h_39, h⟩ := Option.bind_eq_some_iff.mp h
        refine r_cvV (pc' := 42) (L' := [(0, .ref a0), (1, .ref 126), (2, .int X2), (3, .int X3)]) (Ps := [.int R_36]) (rest := []) hq (z_at.mk 3 rfl rfl) (Or.inl ⟨rfl, rfl⟩) rfl rfl (by decide) (by decide) rfl (Nat.not_lt.mpr (Nat.le_of_ble_eq_true rfl)) rfl rfl (z_cat_le 0 rfl (by decide)) (z_lgl_le 2 rfl (by decide)) (by decide) (H_36.tg (zIn_all (l := [48, 106]) (p := fun a => zT a 12) rfl ha0)) (by omega) (g_ca_addNew_ok (zIn_all (l := [48, 106]) (p := fun a => zIn [48, 106] a) rfl ha0) hR_36 H_36 h_39) rfl rfl ?_
        intro m_39 p_39 e_39 H_39
        subst e_39
        refine r_p hq 1 (pc' := 45) (L' := [(0, .ref a0), (1, .ref 126), (2, .int (X2 + (1 : Int32))), (3, .int X3)]) (st' := []) rfl ?_
        exact g_ca_admit_L45_ok ha0 ih (tx_iadd hx2 (rfl : (1 : Int32).toInt = 1)) hx3 H_39 h
def g_ca_admit (a0 : Nat) (σ : zS) : Option (Int × zS) :=
  g_ca_admit_L4 a0 zK 0 0 σ
set_option maxHeartbeats 4000000 in
theorem g_ca_admit_ok {xl : Nat} {xs : Nat → Int32} {a0 : Nat} (ha0 : zIn [48, 106] a0 = true) {σ : zS} {p : Nat} {m : zM} {o : Int × zS} (H : zRep xl xs p m σ) (h : g_ca_admit a0 σ = some o) : zGo xl xs (fun p' => p = p') 6 43 0 (z_can 43 0 (lv_args 0 [.ref a0, .ref 126])) [] m (vI o.1) o.2 := by
  have hq : z_mth 43 = some z_r43 := rfl
  unfold g_ca_admit at h
  show zGo xl xs (fun p' => p = p') 6 43 0 [(0, .ref a0), (1, .ref 126)] [] m (vI o.1) o.2
  refine r_p hq 4 (pc' := 4) (L' := [(0, .ref a0), (1, .ref 126), (2, .int ((0 : Int32))), (3, .int ((0 : Int32)))]) (st' := []) rfl ?_
  exact g_ca_admit_L4_ok ha0 zK (rfl : (0 : Int32).toInt = 0) (rfl : (0 : Int32).toInt = 0) H h
def g_ca_bestSet_L141 (a0 : Nat) (g7 : Int → Int → Int → Int → zS → Option (Int × zS)) (x1 : Int) (x2 : Int) (y3 : Int) (x5 : Int) (σ : zS) : Option (Int × zS) :=
  g7 x1 x2 y3 (w32 (x5 + 1)) σ
set_option maxHeartbeats 4000000 in
theorem g_ca_bestSet_L141_ok {xl : Nat} {xs : Nat → Int32} {a0 : Nat} (ha0 : zIn [48, 106] a0 = true) {g7 : Int → Int → Int → Int → zS → Option (Int × zS)} (hg7 : ∀ {X1 : Int32} {x1 : Int} {X2 : Int32} {x2 : Int} {Y3 : Int64} {y3 : Int} {X5 : Int32} {x5 : Int} {σ : zS} {p : Nat} {m : zM} {o : Int × zS}, X1.toInt = x1 → X2.toInt = x2 → Y3.toInt = y3 → X5.toInt = x5 → zRep xl xs p m σ → g7 x1 x2 y3 x5 σ = some o → zGo xl xs (fun p' => p = p') 3 44 7 [(0, .ref a0), (1, .int X1), (2, .int X2), (3, .long Y3), (5, .int X5)] [] m (vI o.1) o.2) {X1 : Int32} {x1 : Int} (hx1 : X1.toInt = x1) {X2 : Int32} {x2 : Int} (hx2 : X2.toInt = x2) {Y3 : Int64} {y3 : Int} (hy3 : Y3.toInt = y3) {X5 : Int32} {x5 : Int} (hx5 : X5.toInt = x5) {σ : zS} {p : Nat} {m : zM} {o : Int × zS} (H : zRep xl xs p m σ) (h : g_ca_bestSet_L141 a0 g7 x1 x2 y3 x5 σ = some o) : zGo xl xs (fun p' => p = p') 3 44 141 [(0, .ref a0), (1, .int X1), (2, .int X2), (3, .long Y3), (5, .int X5)] [] m (vI o.1) o.2 := by
  have hq : z_mth 44 = some z_r44 := rfl
  unfold g_ca_bestSet_L141 at h
  refine r_p hq 2 (pc' := 7) (L' := [(0, .ref a0), (1, .int X1), (2, .int X2), (3, .long Y3), (5, .int (X5 + (1 : Int32)))]) (st' := []) rfl ?_
  exact hg7 hx1 hx2 hy3 (tx_iadd hx5 (rfl : (1 : Int32).toInt = 1)) H h
def g_ca_bestSet_L122 (a0 : Nat) (g7 : Int → Int → Int → Int → zS → Option (Int × zS)) (x1 : Int) (x2 : Int) (y3 : Int) (x5 : Int) (x6 : Int) (y7 : Int) (σ : zS) : Option (Int × zS) :=
  if x1 < x6 then
    g_ca_bestSet_L141 a0 g7 x1 x2 y3 x5 σ
  else
    if lCmp y7 y3 ≤ 0 then
      g_ca_bestSet_L141 a0 g7 x1 x2 y3 x5 σ
    else
      g_ca_bestSet_L141 a0 g7 x1 x5 y7 x5 σ
set_option maxHeartbeats 4000000 in
theorem g_ca_bestSet_L122_ok {xl : Nat} {xs : Nat → Int32} {a0 : Nat} (ha0 : zIn [48, 106] a0 = true) {g7 : Int → Int → Int → Int → zS → Option (Int × zS)} (hg7 : ∀ {X1 : Int32} {x1 : Int} {X2 : Int32} {x2 : Int} {Y3 : Int64} {y3 : Int} {X5 : Int32} {x5 : Int} {σ : zS} {p : Nat} {m : zM} {o : Int × zS}, X1.toInt = x1 → X2.toInt = x2 → Y3.toInt = y3 → X5.toInt = x5 → zRep xl xs p m σ → g7 x1 x2 y3 x5 σ = some o → zGo xl xs (fun p' => p = p') 3 44 7 [(0, .ref a0), (1, .int X1), (2, .int X2), (3, .long Y3), (5, .int X5)] [] m (vI o.1) o.2) {X1 : Int32} {x1 : Int} (hx1 : X1.toInt = x1) {X2 : Int32} {x2 : Int} (hx2 : X2.toInt = x2) {Y3 : Int64} {y3 : Int} (hy3 : Y3.toInt = y3) {X5 : Int32} {x5 : Int} (hx5 : X5.toInt = x5) {X6 : Int32} {x6 : Int} (hx6 : X6.toInt = x6) {Y7 : Int64} {y7 : Int} (hy7 : Y7.toInt = y7) {σ : zS} {p : Nat} {m : zM} {o : Int × zS} (H : zRep xl xs p m σ) (h : g_ca_bestSet_L122 a0 g7 x1 x2 y3 x5 x6 y7 σ = some o) : zGo xl xs (fun p' => p = p') 3 44 122 [(0, .ref a0), (1, .int X1), (2, .int X2), (3, .long Y3), (5, .int X5), (6, .int X6), (7, .long Y7)] [] m (vI o.1) o.2 := by
  have hq : z_mth 44 = some z_r44 := rfl
  unfold g_ca_bestSet_L122 at h
  refine r_p hq 2 (pc' := 125) (L' := [(0, .ref a0), (1, .int X1), (2, .int X2), (3, .long Y3), (5, .int X5), (6, .int X6), (7, .long Y7)]) (st' := [.int X1, .int X6]) rfl ?_
  rcases z_ite h with ⟨c_125, h⟩ | ⟨c_125, h⟩
  · refine r_t2 (pc' := 141) (L' := [(0, .ref a0), (1, .int X1), (2, .int X2), (3, .long Y3), (5, .int X5)]) hq (z_at.mk 3 rfl rfl) rfl hx6 hx1 c_125 rfl rfl ?_
    exact g_ca_bestSet_L141_ok ha0 hg7 hx1 hx2 hy3 hx5 H h
  · refine r_f2 (pc' := 128) (L' := [(0, .ref a0), (1, .int X1), (2, .int X2), (3, .long Y3), (5, .int X5), (6, .int X6), (7, .long Y7)]) hq (z_at.mk 3 rfl rfl) rfl hx6 hx1 c_125 rfl rfl ?_
    refine r_p hq 3 (pc' := 132) (L' := [(0, .ref a0), (1, .int X1), (2, .int X2), (3, .long Y3), (5, .int X5), (6, .int X6), (7, .long Y7)]) (st' := [.int (lg_cmp Y7 Y3)]) rfl ?_
    rcases z_ite h with ⟨c_132, h⟩ | ⟨c_132, h⟩
    · refine r_t1 (pc' := 141) (L' := [(0, .ref a0), (1, .int X1), (2, .int X2), (3, .long Y3), (5, .int X5)]) hq (z_at.mk 3 rfl rfl) rfl (tx_lcmp hy7 hy3) c_132 rfl rfl ?_
      exact g_ca_bestSet_L141_ok ha0 hg7 hx1 hx2 hy3 hx5 H h
    · refine r_f1 (pc' := 135) (L' := [(0, .ref a0), (1, .int X1), (2, .int X2), (3, .long Y3), (5, .int X5), (6, .int X6), (7, .long Y7)]) hq (z_at.mk 3 rfl rfl) rfl (tx_lcmp hy7 hy3) c_132 rfl rfl ?_
      refine r_p hq 4 (pc' := 141) (L' := [(0, .ref a0), (1, .int X1), (2, .int X5), (3, .long Y7), (5, .int X5)]) (st' := []) rfl ?_
      exact g_ca_bestSet_L141_ok ha0 hg7 hx1 hx5 hy7 hx5 H h
def g_ca_bestSet_L116 (a0 : Nat) (g32 : Int → Int → Int → Int → Int → Int → Int → zS → Option (Int × zS)) (x1 : Int) (x2 : Int) (y3 : Int) (x5 : Int) (x6 : Int) (y7 : Int) (x9 : Int) (σ : zS) : Option (Int × zS) :=
  g32 x1 x2 y3 x5 x6 y7 (w32 (x9 + 1)) σ
set_option maxHeartbeats 4000000 in
theorem g_ca_bestSet_L116_ok {xl : Nat} {xs : Nat → Int32} {a0 : Nat} (ha0 : zIn [48, 106] a0 = true) {g32 : Int → Int → Int → Int → Int → Int → Int → zS → Option (Int × zS)} (hg32 : ∀ {X1 : Int32} {x1 : Int} {X2 : Int32} {x2 : Int} {Y3 : Int64} {y3 : Int} {X5 : Int32} {x5 : Int} {X6 : Int32} {x6 : Int} {Y7 : Int64} {y7 : Int} {X9 : Int32} {x9 : Int} {σ : zS} {p : Nat} {m : zM} {o : Int × zS}, X1.toInt = x1 → X2.toInt = x2 → Y3.toInt = y3 → X5.toInt = x5 → X6.toInt = x6 → Y7.toInt = y7 → X9.toInt = x9 → zRep xl xs p m σ → g32 x1 x2 y3 x5 x6 y7 x9 σ = some o → zGo xl xs (fun p' => p = p') 3 44 32 [(0, .ref a0), (1, .int X1), (2, .int X2), (3, .long Y3), (5, .int X5), (6, .int X6), (7, .long Y7), (9, .int X9)] [] m (vI o.1) o.2) {X1 : Int32} {x1 : Int} (hx1 : X1.toInt = x1) {X2 : Int32} {x2 : Int} (hx2 : X2.toInt = x2) {Y3 : Int64} {y3 : Int} (hy3 : Y3.toInt = y3) {X5 : Int32} {x5 : Int} (hx5 : X5.toInt = x5) {X6 : Int32} {x6 : Int} (hx6 : X6.toInt = x6) {Y7 : Int64} {y7 : Int} (hy7 : Y7.toInt = y7) {X9 : Int32} {x9 : Int} (hx9 : X9.toInt = x9) {σ : zS} {p : Nat} {m : zM} {o : Int × zS} (H : zRep xl xs p m σ) (h : g_ca_bestSet_L116 a0 g32 x1 x2 y3 x5 x6 y7 x9 σ = some o) : zGo xl xs (fun p' => p = p') 3 44 116 [(0, .ref a0), (1, .int X1), (2, .int X2), (3, .long Y3), (5, .int X5), (6, .int X6), (7, .long Y7), (9, .int X9)] [] m (vI o.1) o.2 := by
  have hq : z_mth 44 = some z_r44 := rfl
  unfold g_ca_bestSet_L116 at h
  refine r_p hq 2 (pc' := 32) (L' := [(0, .ref a0), (1, .int X1), (2, .int X2), (3, .long Y3), (5, .int X5), (6, .int X6), (7, .long Y7), (9, .int (X9 + (1 : Int32)))]) (st' := []) rfl ?_
  exact hg32 hx1 hx2 hy3 hx5 hx6 hy7 (tx_iadd hx9 (rfl : (1 : Int32).toInt = 1)) H h
def g_ca_bestSet_L32 (a0 : Nat) (g7 : Int → Int → Int → Int → zS → Option (Int × zS)) : Nat → Int → Int → Int → Int → Int → Int → Int → zS → Option (Int × zS)
  | 0, _, _, _, _, _, _, _, _ => none
  | n + 1, x1, x2, y3, x5, x6, y7, x9, σ =>
    let v_35 := σ a0 2
    if v_35 ≤ x9 then
      g_ca_bestSet_L122 a0 g7 x1 x2 y3 x5 x6 y7 σ
    else
      if x1 < x6 then
        g_ca_bestSet_L122 a0 g7 x1 x2 y3 x5 x6 y7 σ
      else
        if iAnd (iShr x5 x9) 1 ≠ 0 then
          if 0 ≤ x9 ∧ x9 < 181 then
          let v_70 := σ (a0 + 4) x9
          (g_so_rowsIn v_70 σ).bind fun o_71 =>
          (g_jLong_bitCount o_71.1 o_71.2).bind fun o_74 =>
          (g_se_of (a0 + 1) 0 o_74.2).bind fun o_95 =>
          if 0 ≤ x9 ∧ x9 < 181 then
          let v_109 := o_95.2 (a0 + 5) x9
          g_ca_bestSet_L116 a0 ((g_ca_bestSet_L32 a0 g7 n)) x1 x2 y3 x5 (w32 (x6 + (w32 (1 + o_74.1)))) (w64 (y7 + (w64 ((w32 (o_95.1 + o_74.1)) * (w64 (1 + v_109)))))) x9 o_95.2
          else none
          else none
        else
          g_ca_bestSet_L116 a0 ((g_ca_bestSet_L32 a0 g7 n)) x1 x2 y3 x5 x6 y7 x9 σ
set_option maxHeartbeats 4000000 in
theorem g_ca_bestSet_L32_ok {xl : Nat} {xs : Nat → Int32} {a0 : Nat} (ha0 : zIn [48, 106] a0 = true) {g7 : Int → Int → Int → Int → zS → Option (Int × zS)} (hg7 : ∀ {X1 : Int32} {x1 : Int} {X2 : Int32} {x2 : Int} {Y3 : Int64} {y3 : Int} {X5 : Int32} {x5 : Int} {σ : zS} {p : Nat} {m : zM} {o : Int × zS}, X1.toInt = x1 → X2.toInt = x2 → Y3.toInt = y3 → X5.toInt = x5 → zRep xl xs p m σ → g7 x1 x2 y3 x5 σ = some o → zGo xl xs (fun p' => p = p') 3 44 7 [(0, .ref a0), (1, .int X1), (2, .int X2), (3, .long Y3), (5, .int X5)] [] m (vI o.1) o.2) : ∀ (n : Nat) {X1 : Int32} {x1 : Int} {X2 : Int32} {x2 : Int} {Y3 : Int64} {y3 : Int} {X5 : Int32} {x5 : Int} {X6 : Int32} {x6 : Int} {Y7 : Int64} {y7 : Int} {X9 : Int32} {x9 : Int} {σ : zS} {p : Nat} {m : zM} {o : Int × zS}, X1.toInt = x1 → X2.toInt = x2 → Y3.toInt = y3 → X5.toInt = x5 → X6.toInt = x6 → Y7.toInt = y7 → X9.toInt = x9 → zRep xl xs p m σ → g_ca_bestSet_L32 a0 g7 n x1 x2 y3 x5 x6 y7 x9 σ = some o → zGo xl xs (fun p' => p = p') 3 44 32 [(0, .ref a0), (1, .int X1), (2, .int X2), (3, .long Y3), (5, .int X5), (6, .int X6), (7, .long Y7), (9, .int X9)] [] m (vI o.1) o.2
  | 0, _, _, _, _, _, _, _, _, _, _, _, _, _, _, _, _, _, _, _, _, _, _, _, _, _, _, h => by cases h
  | n + 1, X1, x1, X2, x2, Y3, y3, X5, x5, X6, x6, Y7, y7, X9, x9, σ, p, m, o, hx1, hx2, hy3, hx5, hx6, hy7, hx9, H, h => by
    have hq : z_mth 44 = some z_r44 := rfl
    have ih := fun {X1 : Int32} {x1 : Int} {X2 : Int32} {x2 : Int} {Y3 : Int64} {y3 : Int} {X5 : Int32} {x5 : Int} {X6 : Int32} {x6 : Int} {Y7 : Int64} {y7 : Int} {X9 : Int32} {x9 : Int} {σ : zS} {p : Nat} {m : zM} {o : Int × zS} => g_ca_bestSet_L32_ok (xl := xl) (xs := xs) ha0 hg7 n (X1 := X1) (x1 := x1) (X2 := X2) (x2 := x2) (Y3 := Y3) (y3 := y3) (X5 := X5) (x5 := x5) (X6 := X6) (x6 := x6) (Y7 := Y7) (y7 := y7) (X9 := X9) (x9 := x9) (σ := σ) (p := p) (m := m) (o := o)
    unfold g_ca_bestSet_L32 at h
    refine r_p hq 2 (pc' := 35) (L' := [(0, .ref a0), (1, .int X1), (2, .int X2), (3, .long Y3), (5, .int X5), (6, .int X6), (7, .long Y7), (9, .int X9)]) (st' := [.ref a0, .int X9]) rfl ?_
    refine r_gI (pc' := 38) (L' := [(0, .ref a0), (1, .int X1), (2, .int X2), (3, .long Y3), (5, .int X5), (6, .int X6), (7, .long Y7), (9, .int X9)]) H hq (z_at.mk 3 rfl rfl) rfl (zIn_all (l := [48, 106]) (p := fun a => zQ a 12 2 0) rfl ha0) rfl rfl ?_
    intro V_35 hV_35
    rcases z_ite h with ⟨c_38, h⟩ | ⟨c_38, h⟩
    · refine r_t2 (pc' := 122) (L' := [(0, .ref a0), (1, .int X1), (2, .int X2), (3, .long Y3), (5, .int X5), (6, .int X6), (7, .long Y7)]) hq (z_at.mk 3 rfl rfl) rfl hx9 hV_35 c_38 rfl rfl ?_
      exact g_ca_bestSet_L122_ok ha0 hg7 hx1 hx2 hy3 hx5 hx6 hy7 H h
    · refine r_f2 (pc' := 41) (L' := [(0, .ref a0), (1, .int X1), (2, .int X2), (3, .long Y3), (5, .int X5), (6, .int X6), (7, .long Y7), (9, .int X9)]) hq (z_at.mk 3 rfl rfl) rfl hx9 hV_35 c_38 rfl rfl ?_
      refine r_p hq 2 (pc' := 44) (L' := [(0, .ref a0), (1, .int X1), (2, .int X2), (3, .long Y3), (5, .int X5), (6, .int X6), (7, .long Y7), (9, .int X9)]) (st' := [.int X1, .int X6]) rfl ?_
      rcases z_ite h with ⟨c_44, h⟩ | ⟨c_44, h⟩
      · refine r_t2 (pc' := 122) (L' := [(0, .ref a0), (1, .int X1), (2, .int X2), (3, .long Y3), (5, .int X5), (6, .int X6), (7, .long Y7)]) hq (z_at.mk 3 rfl rfl) rfl hx6 hx1 c_44 rfl rfl ?_
        exact g_ca_bestSet_L122_ok ha0 hg7 hx1 hx2 hy3 hx5 hx6 hy7 H h
      · refine r_f2 (pc' := 47) (L' := [(0, .ref a0), (1, .int X1), (2, .int X2), (3, .long Y3), (5, .int X5), (6, .int X6), (7, .long Y7), (9, .int X9)]) hq (z_at.mk 3 rfl rfl) rfl hx6 hx1 c_44 rfl rfl ?_
        refine r_p hq 5 (pc' := 54) (L' := [(0, .ref a0), (1, .int X1), (2, .int X2), (3, .long Y3), (5, .int X5), (6, .int X6), (7, .long Y7), (9, .int X9)]) (st' := [.int ((X5 >>> (X9 &&& 31)) &&& ((1 : Int32)))]) rfl ?_
        rcases z_ite h with ⟨c_54, h⟩ | ⟨c_54, h⟩
        · refine r_t1 (pc' := 60) (L' := [(0, .ref a0), (1, .int X1), (2, .int X2), (3, .long Y3), (5, .int X5), (6, .int X6), (7, .long Y7), (9, .int X9)]) hq (z_at.mk 3 rfl rfl) rfl (tx_iand (tx_ishr hx5 hx9) (rfl : (1 : Int32).toInt = 1)) c_54 rfl rfl ?_
          refine r_p hq 1 (pc' := 61) (L' := [(0, .ref a0), (1, .int X1), (2, .int X2), (3, .long Y3), (5, .int X5), (6, .int X6), (7, .long Y7), (9, .int X9)]) (st' := [.ref a0]) rfl ?_
          refine r_gR (b := 41) (pc' := 64) (L' := [(0, .ref a0), (1, .int X1), (2, .int X2), (3, .long Y3), (5, .int X5), (6, .int X6), (7, .long Y7), (9, .int X9)]) H hq (z_at.mk 3 rfl rfl) rfl (zIn_all (l := [48, 106]) (p := fun a => zQ a 12 0 (100 + 41)) rfl ha0) rfl rfl ?_
          refine r_p hq 1 (pc' := 65) (L' := [(0, .ref a0), (1, .int X1), (2, .int X2), (3, .long Y3), (5, .int X5), (6, .int X6), (7, .long Y7), (9, .int X9)]) (st' := [.ref a0, .ref 41]) rfl ?_
          refine r_gR (b := a0 + 4) (pc' := 68) (L' := [(0, .ref a0), (1, .int X1), (2, .int X2), (3, .long Y3), (5, .int X5), (6, .int X6), (7, .long Y7), (9, .int X9)]) H hq (z_at.mk 3 rfl rfl) rfl (zIn_all (l := [48, 106]) (p := fun a => zQ a 12 4 (100 + a + 4)) rfl ha0) rfl rfl ?_
          refine r_p hq 1 (pc' := 70) (L' := [(0, .ref a0), (1, .int X1), (2, .int X2), (3, .long Y3), (5, .int X5), (6, .int X6), (7, .long Y7), (9, .int X9)]) (st' := [.int X9, .ref (a0 + 4), .ref 41]) rfl ?_
          obtain ⟨g_70, h⟩ := z_ifo_some h
          refine r_ia (pc' := 71) (L' := [(0, .ref a0), (1, .int X1), (2, .int X2), (3, .long Y3), (5, .int X5), (6, .int X6), (7, .long Y7), (9, .int X9)]) H hq (z_at.mk 1 rfl rfl) (zIn_all (l := [48, 106]) (p := fun a => zAr (a + 4) 0 181) rfl ha0) hx9 g_70 rfl rfl ?_
          intro V_70 hV_70
          obtain ⟨o_71, h_71, h⟩ := Option.bind_eq_some_iff.mp h
          refine r_cvL (pc' := 74) (L' := [(0, .ref a0), (1, .int X1), (2, .int X2), (3, .long Y3), (5, .int X5), (6, .int X6), (7, .long Y7), (9, .int X9)]) (Ps := [.int V_70]) (rest := []) hq (z_at.mk 3 rfl rfl) (Or.inl ⟨rfl, rfl⟩) rfl rfl (by decide) (by decide) rfl (Nat.not_lt.mpr (Nat.le_of_ble_eq_true rfl)) rfl rfl (z_cat_le 0 rfl (by decide)) (z_lgl_le 2 rfl (by decide)) (by decide) (H.tg rfl) (by omega) (g_so_rowsIn_ok hV_70 H h_71) rfl rfl ?_
          intro R_71 m_71 p_71 e_71 hR_71 H_71
          subst e_71
          obtain ⟨o_74, h_74, h⟩ := Option.bind_eq_some_iff.mp h
          refine r_csI (pc' := 77) (L' := [(0, .ref a0), (1, .int X1), (2, .int X2), (3, .long Y3), (5, .int X5), (6, .int X6), (7, .long Y7), (9, .int X9)]) (As := [.long R_71]) (rest := []) (j := 287) hq (z_at.mk 3 rfl rfl) (Or.inl ⟨rfl, rfl⟩) rfl rfl (by omega) (g_jLong_bitCount_ok hR_71 H_71 h_74) rfl rfl ?_
          intro R_74 m_74 p_74 e_74 hR_74 H_74
          subst e_74
          refine r_p hq 9 (pc' := 91) (L' := [(6, .int (X6 + (((1 : Int32)) + R_74))), (10, .int R_74), (0, .ref a0), (1, .int X1), (2, .int X2), (3, .long Y3), (5, .int X5), (7, .long Y7), (9, .int X9)]) (st' := [.ref a0, .long Y7]) rfl ?_
          refine r_gR (b := a0 + 1) (pc' := 94) (L' := [(6, .int (X6 + (((1 : Int32)) + R_74))), (10, .int R_74), (0, .ref a0), (1, .int X1), (2, .int X2), (3, .long Y3), (5, .int X5), (7, .long Y7), (9, .int X9)]) H_74 hq (z_at.mk 3 rfl rfl) rfl (zIn_all (l := [48, 106]) (p := fun a => zQ a 12 1 (100 + a + 1)) rfl ha0) rfl rfl ?_
          refine r_p hq 1 (pc' := 95) (L' := [(6, .int (X6 + (((1 : Int32)) + R_74))), (10, .int R_74), (0, .ref a0), (1, .int X1), (2, .int X2), (3, .long Y3), (5, .int X5), (7, .long Y7), (9, .int X9)]) (st' := [.int ((0 : Int32)), .ref (a0 + 1), .long Y7]) rfl ?_
          obtain ⟨o_95, h_95, h⟩ := Option.bind_eq_some_iff.mp h
          refine r_cvI (pc' := 98) (L' := [(6, .int (X6 + (((1 : Int32)) + R_74))), (10, .int R_74), (0, .ref a0), (1, .int X1), (2, .int X2), (3, .long Y3), (5, .int X5), (7, .long Y7), (9, .int X9)]) (Ps := [.int ((0 : Int32))]) (rest := [.long Y7]) hq (z_at.mk 3 rfl rfl) (Or.inl ⟨rfl, rfl⟩) rfl rfl (by decide) (by decide) rfl (Nat.not_lt.mpr (Nat.le_of_ble_eq_true rfl)) rfl rfl (z_cat_le 2 rfl (by decide)) (z_lgl_le 2 rfl (by decide)) (by decide) (H_74.tg (zIn_all (l := [48, 106]) (p := fun a => zT (a + 1) 16) rfl ha0)) (by omega) (g_se_of_ok (zIn_all (l := [48, 106]) (p := fun a => zIn [49, 82, 107, 118] (a + 1)) rfl ha0) (rfl : (0 : Int32).toInt = 0) H_74 h_95) rfl rfl ?_
          intro R_95 m_95 p_95 e_95 hR_95 H_95
          subst e_95
          refine r_p hq 5 (pc' := 104) (L' := [(6, .int (X6 + (((1 : Int32)) + R_74))), (10, .int R_74), (0, .ref a0), (1, .int X1), (2, .int X2), (3, .long Y3), (5, .int X5), (7, .long Y7), (9, .int X9)]) (st' := [.ref a0, .long ((1 : Int64)), .long ((R_95 + R_74).toInt64), .long Y7]) rfl ?_
          refine r_gR (b := a0 + 5) (pc' := 107) (L' := [(6, .int (X6 + (((1 : Int32)) + R_74))), (10, .int R_74), (0, .ref a0), (1, .int X1), (2, .int X2), (3, .long Y3), (5, .int X5), (7, .long Y7), (9, .int X9)]) H_95 hq (z_at.mk 3 rfl rfl) rfl (zIn_all (l := [48, 106]) (p := fun a => zQ a 12 5 (100 + a + 5)) rfl ha0) rfl rfl ?_
          refine r_p hq 1 (pc' := 109) (L' := [(6, .int (X6 + (((1 : Int32)) + R_74))), (10, .int R_74), (0, .ref a0), (1, .int X1), (2, .int X2), (3, .long Y3), (5, .int X5), (7, .long Y7), (9, .int X9)]) (st' := [.int X9, .ref (a0 + 5), .long ((1 : Int64)), .long ((R_95 + R_74).toInt64), .long Y7]) rfl ?_
          obtain ⟨g_109, h⟩ := z_ifo_some h
          refine r_ia (pc' := 110) (L' := [(6, .int (X6 + (((1 : Int32)) + R_74))), (10, .int R_74), (0, .ref a0), (1, .int X1), (2, .int X2), (3, .long Y3), (5, .int X5), (7, .long Y7), (9, .int X9)]) H_95 hq (z_at.mk 1 rfl rfl) (zIn_all (l := [48, 106]) (p := fun a => zAr (a + 5) 0 181) rfl ha0) hx9 g_109 rfl rfl ?_
          intro V_109 hV_109
          refine r_p hq 5 (pc' := 116) (L' := [(0, .ref a0), (1, .int X1), (2, .int X2), (3, .long Y3), (5, .int X5), (6, .int (X6 + (((1 : Int32)) + R_74))), (7, .long (Y7 + (((R_95 + R_74).toInt64) * (((1 : Int64)) + V_109.toInt64)))), (9, .int X9)]) (st' := []) rfl ?_
          exact g_ca_bestSet_L116_ok ha0 ih hx1 hx2 hy3 hx5 (tx_iadd hx6 (tx_iadd (rfl : (1 : Int32).toInt = 1) hR_74)) (tx_ladd hy7 (tx_lmul (tx_i2l (tx_iadd hR_95 hR_74)) (tx_ladd (rfl : (1 : Int64).toInt = 1) (tx_i2l hV_109)))) hx9 H_95 h
        · refine r_f1 (pc' := 57) (L' := [(0, .ref a0), (1, .int X1), (2, .int X2), (3, .long Y3), (5, .int X5), (6, .int X6), (7, .long Y7), (9, .int X9)]) hq (z_at.mk 3 rfl rfl) rfl (tx_iand (tx_ishr hx5 hx9) (rfl : (1 : Int32).toInt = 1)) c_54 rfl rfl ?_
          refine r_p hq 1 (pc' := 116) (L' := [(0, .ref a0), (1, .int X1), (2, .int X2), (3, .long Y3), (5, .int X5), (6, .int X6), (7, .long Y7), (9, .int X9)]) (st' := []) rfl ?_
          exact g_ca_bestSet_L116_ok ha0 ih hx1 hx2 hy3 hx5 hx6 hy7 hx9 H h
def g_ca_bestSet_L7 (a0 : Nat) : Nat → Int → Int → Int → Int → zS → Option (Int × zS)
  | 0, _, _, _, _, _ => none
  | n + 1, x1, x2, y3, x5, σ =>
    let v_11 := σ a0 2
    (g_jMath_min_291 v_11 12 σ).bind fun o_16 =>
    if iShl 1 o_16.1 ≤ x5 then
      some (x2, o_16.2)
    else
      g_ca_bestSet_L32 a0 ((g_ca_bestSet_L7 a0 n)) zK x1 x2 y3 x5 0 0 0 o_16.2
set_option maxHeartbeats 4000000 in
theorem g_ca_bestSet_L7_ok {xl : Nat} {xs : Nat → Int32} {a0 : Nat} (ha0 : zIn [48, 106] a0 = true) : ∀ (n : Nat) {X1 : Int32} {x1 : Int} {X2 : Int32} {x2 : Int} {Y3 : Int64} {y3 : Int} {X5 : Int32} {x5 : Int} {σ : zS} {p : Nat} {m : zM} {o : Int × zS}, X1.toInt = x1 → X2.toInt = x2 → Y3.toInt = y3 → X5.toInt = x5 → zRep xl xs p m σ → g_ca_bestSet_L7 a0 n x1 x2 y3 x5 σ = some o → zGo xl xs (fun p' => p = p') 3 44 7 [(0, .ref a0), (1, .int X1), (2, .int X2), (3, .long Y3), (5, .int X5)] [] m (vI o.1) o.2
  | 0, _, _, _, _, _, _, _, _, _, _, _, _, _, _, _, _, _, h => by cases h
  | n + 1, X1, x1, X2, x2, Y3, y3, X5, x5, σ, p, m, o, hx1, hx2, hy3, hx5, H, h => by
    have hq : z_mth 44 = some z_r44 := rfl
    have ih := fun {X1 : Int32} {x1 : Int} {X2 : Int32} {x2 : Int} {Y3 : Int64} {y3 : Int} {X5 : Int32} {x5 : Int} {σ : zS} {p : Nat} {m : zM} {o : Int × zS} => g_ca_bestSet_L7_ok (xl := xl) (xs := xs) ha0 n (X1 := X1) (x1 := x1) (X2 := X2) (x2 := x2) (Y3 := Y3) (y3 := y3) (X5 := X5) (x5 := x5) (σ := σ) (p := p) (m := m) (o := o)
    unfold g_ca_bestSet_L7 at h
    refine r_p hq 3 (pc' := 11) (L' := [(0, .ref a0), (1, .int X1), (2, .int X2), (3, .long Y3), (5, .int X5)]) (st' := [.ref a0, .int ((1 : Int32)), .int X5]) rfl ?_
    refine r_gI (pc' := 14) (L' := [(0, .ref a0), (1, .int X1), (2, .int X2), (3, .long Y3), (5, .int X5)]) H hq (z_at.mk 3 rfl rfl) rfl (zIn_all (l := [48, 106]) (p := fun a => zQ a 12 2 0) rfl ha0) rfl rfl ?_
    intro V_11 hV_11
    refine r_p hq 1 (pc' := 16) (L' := [(0, .ref a0), (1, .int X1), (2, .int X2), (3, .long Y3), (5, .int X5)]) (st' := [.int ((12 : Int32)), .int V_11, .int ((1 : Int32)), .int X5]) rfl ?_
    obtain ⟨o_16, h_16, h⟩ := Option.bind_eq_some_iff.mp h
    refine r_csI (pc' := 19) (L' := [(0, .ref a0), (1, .int X1), (2, .int X2), (3, .long Y3), (5, .int X5)]) (As := [.int V_11, .int ((12 : Int32))]) (rest := [.int ((1 : Int32)), .int X5]) (j := 291) hq (z_at.mk 3 rfl rfl) (Or.inl ⟨rfl, rfl⟩) rfl rfl (by omega) (g_jMath_min_291_ok hV_11 (rfl : (12 : Int32).toInt = 12) H h_16) rfl rfl ?_
    intro R_16 m_16 p_16 e_16 hR_16 H_16
    subst e_16
    refine r_p hq 1 (pc' := 20) (L' := [(0, .ref a0), (1, .int X1), (2, .int X2), (3, .long Y3), (5, .int X5)]) (st' := [.int (((1 : Int32)) <<< (R_16 &&& 31)), .int X5]) rfl ?_
    rcases z_ite h with ⟨c_20, h⟩ | ⟨c_20, h⟩
    · refine r_t2 (pc' := 147) (L' := [(0, .ref a0), (1, .int X1), (2, .int X2), (3, .long Y3), (5, .int X5)]) hq (z_at.mk 3 rfl rfl) rfl hx5 (tx_ishl (rfl : (1 : Int32).toInt = 1) hR_16) c_20 rfl rfl ?_
      refine r_p hq 1 (pc' := 148) (L' := [(0, .ref a0), (1, .int X1), (2, .int X2), (3, .long Y3), (5, .int X5)]) (st' := [.int X2]) rfl ?_
      cases h
      exact r_ri hq (z_at.mk 1 rfl rfl) rfl rfl hx2 rfl H_16
    · refine r_f2 (pc' := 23) (L' := [(0, .ref a0), (1, .int X1), (2, .int X2), (3, .long Y3), (5, .int X5)]) hq (z_at.mk 3 rfl rfl) rfl hx5 (tx_ishl (rfl : (1 : Int32).toInt = 1) hR_16) c_20 rfl rfl ?_
      refine r_p hq 6 (pc' := 32) (L' := [(0, .ref a0), (1, .int X1), (2, .int X2), (3, .long Y3), (5, .int X5), (6, .int ((0 : Int32))), (7, .long ((0 : Int64))), (9, .int ((0 : Int32)))]) (st' := []) rfl ?_
      exact g_ca_bestSet_L32_ok ha0 ih zK hx1 hx2 hy3 hx5 (rfl : (0 : Int32).toInt = 0) (rfl : (0 : Int64).toInt = 0) (rfl : (0 : Int32).toInt = 0) H_16 h
def g_ca_bestSet (a0 : Nat) (x1 : Int) (σ : zS) : Option (Int × zS) :=
  g_ca_bestSet_L7 a0 zK x1 0 0 1 σ
set_option maxHeartbeats 4000000 in
theorem g_ca_bestSet_ok {xl : Nat} {xs : Nat → Int32} {a0 : Nat} (ha0 : zIn [48, 106] a0 = true) {X1 : Int32} {x1 : Int} (hx1 : X1.toInt = x1) {σ : zS} {p : Nat} {m : zM} {o : Int × zS} (H : zRep xl xs p m σ) (h : g_ca_bestSet a0 x1 σ = some o) : zGo xl xs (fun p' => p = p') 3 44 0 (z_can 44 0 (lv_args 0 [.ref a0, .int X1])) [] m (vI o.1) o.2 := by
  have hq : z_mth 44 = some z_r44 := rfl
  unfold g_ca_bestSet at h
  show zGo xl xs (fun p' => p = p') 3 44 0 [(0, .ref a0), (1, .int X1)] [] m (vI o.1) o.2
  refine r_p hq 6 (pc' := 7) (L' := [(0, .ref a0), (1, .int X1), (2, .int ((0 : Int32))), (3, .long ((0 : Int64))), (5, .int ((1 : Int32)))]) (st' := []) rfl ?_
  exact g_ca_bestSet_L7_ok ha0 zK hx1 (rfl : (0 : Int32).toInt = 0) (rfl : (0 : Int64).toInt = 0) (rfl : (1 : Int32).toInt = 1) H h
def g_fi_isMeasure (x0 : Int) (σ : zS) : Option (Int × zS) :=
  if x0 < 0 then
    some (0, σ)
  else
    if 6 < x0 then
      some (0, σ)
    else
      some (1, σ)
set_option maxHeartbeats 4000000 in
theorem g_fi_isMeasure_ok {xl : Nat} {xs : Nat → Int32} {X0 : Int32} {x0 : Int} (hx0 : X0.toInt = x0) {σ : zS} {p : Nat} {m : zM} {o : Int × zS} (H : zRep xl xs p m σ) (h : g_fi_isMeasure x0 σ = some o) : zGo xl xs (fun p' => p = p') 1 46 0 (z_can 46 0 (lv_args 0 [.int X0])) [] m (vI o.1) o.2 := by
  have hq : z_mth 46 = some z_r46 := rfl
  unfold g_fi_isMeasure at h
  show zGo xl xs (fun p' => p = p') 1 46 0 [(0, .int X0)] [] m (vI o.1) o.2
  refine r_p hq 1 (pc' := 1) (L' := [(0, .int X0)]) (st' := [.int X0]) rfl ?_
  rcases z_ite h with ⟨c_1, h⟩ | ⟨c_1, h⟩
  · refine r_t1 (pc' := 14) (L' := []) hq (z_at.mk 3 rfl rfl) rfl hx0 c_1 rfl rfl ?_
    refine r_p hq 1 (pc' := 15) (L' := []) (st' := [.int ((0 : Int32))]) rfl ?_
    cases h
    exact r_ri hq (z_at.mk 1 rfl rfl) rfl rfl (rfl : (0 : Int32).toInt = 0) rfl H
  · refine r_f1 (pc' := 4) (L' := [(0, .int X0)]) hq (z_at.mk 3 rfl rfl) rfl hx0 c_1 rfl rfl ?_
    refine r_p hq 2 (pc' := 7) (L' := [(0, .int X0)]) (st' := [.int ((6 : Int32)), .int X0]) rfl ?_
    rcases z_ite h with ⟨c_7, h⟩ | ⟨c_7, h⟩
    · refine r_t2 (pc' := 14) (L' := []) hq (z_at.mk 3 rfl rfl) rfl hx0 (rfl : (6 : Int32).toInt = 6) c_7 rfl rfl ?_
      refine r_p hq 1 (pc' := 15) (L' := []) (st' := [.int ((0 : Int32))]) rfl ?_
      cases h
      exact r_ri hq (z_at.mk 1 rfl rfl) rfl rfl (rfl : (0 : Int32).toInt = 0) rfl H
    · refine r_f2 (pc' := 10) (L' := [(0, .int X0)]) hq (z_at.mk 3 rfl rfl) rfl hx0 (rfl : (6 : Int32).toInt = 6) c_7 rfl rfl ?_
      refine r_p hq 2 (pc' := 15) (L' := []) (st' := [.int ((1 : Int32))]) rfl ?_
      cases h
      exact r_ri hq (z_at.mk 1 rfl rfl) rfl rfl (rfl : (1 : Int32).toInt = 1) rfl H
def g_so_isRow (x0 : Int) (σ : zS) : Option (Int × zS) :=
  if x0 < 0 then
    some (0, σ)
  else
    if 60 ≤ x0 then
      some (0, σ)
    else
      some (1, σ)
set_option maxHeartbeats 4000000 in
theorem g_so_isRow_ok {xl : Nat} {xs : Nat → Int32} {X0 : Int32} {x0 : Int} (hx0 : X0.toInt = x0) {σ : zS} {p : Nat} {m : zM} {o : Int × zS} (H : zRep xl xs p m σ) (h : g_so_isRow x0 σ = some o) : zGo xl xs (fun p' => p = p') 1 80 0 (z_can 80 0 (lv_args 0 [.int X0])) [] m (vI o.1) o.2 := by
  have hq : z_mth 80 = some z_r80 := rfl
  unfold g_so_isRow at h
  show zGo xl xs (fun p' => p = p') 1 80 0 [(0, .int X0)] [] m (vI o.1) o.2
  refine r_p hq 1 (pc' := 1) (L' := [(0, .int X0)]) (st' := [.int X0]) rfl ?_
  rcases z_ite h with ⟨c_1, h⟩ | ⟨c_1, h⟩
  · refine r_t1 (pc' := 14) (L' := []) hq (z_at.mk 3 rfl rfl) rfl hx0 c_1 rfl rfl ?_
    refine r_p hq 1 (pc' := 15) (L' := []) (st' := [.int ((0 : Int32))]) rfl ?_
    cases h
    exact r_ri hq (z_at.mk 1 rfl rfl) rfl rfl (rfl : (0 : Int32).toInt = 0) rfl H
  · refine r_f1 (pc' := 4) (L' := [(0, .int X0)]) hq (z_at.mk 3 rfl rfl) rfl hx0 c_1 rfl rfl ?_
    refine r_p hq 2 (pc' := 7) (L' := [(0, .int X0)]) (st' := [.int ((60 : Int32)), .int X0]) rfl ?_
    rcases z_ite h with ⟨c_7, h⟩ | ⟨c_7, h⟩
    · refine r_t2 (pc' := 14) (L' := []) hq (z_at.mk 3 rfl rfl) rfl hx0 (rfl : (60 : Int32).toInt = 60) c_7 rfl rfl ?_
      refine r_p hq 1 (pc' := 15) (L' := []) (st' := [.int ((0 : Int32))]) rfl ?_
      cases h
      exact r_ri hq (z_at.mk 1 rfl rfl) rfl rfl (rfl : (0 : Int32).toInt = 0) rfl H
    · refine r_f2 (pc' := 10) (L' := [(0, .int X0)]) hq (z_at.mk 3 rfl rfl) rfl hx0 (rfl : (60 : Int32).toInt = 60) c_7 rfl rfl ?_
      refine r_p hq 2 (pc' := 15) (L' := []) (st' := [.int ((1 : Int32))]) rfl ?_
      cases h
      exact r_ri hq (z_at.mk 1 rfl rfl) rfl rfl (rfl : (1 : Int32).toInt = 1) rfl H
def g_fi_gather_L89 (a0 : Nat) (g8 : Int → Int → zS → Option (Unit × zS)) (y2 : Int) (x4 : Int) (σ : zS) : Option (Unit × zS) :=
  g8 y2 (w32 (x4 + 1)) σ
set_option maxHeartbeats 4000000 in
theorem g_fi_gather_L89_ok {xl : Nat} {xs : Nat → Int32} {a0 : Nat} (ha0 : zIn [60, 70] a0 = true) {g8 : Int → Int → zS → Option (Unit × zS)} (hg8 : ∀ {Y2 : Int64} {y2 : Int} {X4 : Int32} {x4 : Int} {σ : zS} {p : Nat} {m : zM} {o : Unit × zS}, Y2.toInt = y2 → X4.toInt = x4 → zRep xl xs p m σ → g8 y2 x4 σ = some o → zGo xl xs (fun p' => p = p') 2 47 8 [(0, .ref a0), (1, .ref 41), (2, .long Y2), (4, .int X4)] [] m vV o.2) {Y2 : Int64} {y2 : Int} (hy2 : Y2.toInt = y2) {X4 : Int32} {x4 : Int} (hx4 : X4.toInt = x4) {σ : zS} {p : Nat} {m : zM} {o : Unit × zS} (H : zRep xl xs p m σ) (h : g_fi_gather_L89 a0 g8 y2 x4 σ = some o) : zGo xl xs (fun p' => p = p') 2 47 89 [(0, .ref a0), (1, .ref 41), (2, .long Y2), (4, .int X4)] [] m vV o.2 := by
  have hq : z_mth 47 = some z_r47 := rfl
  unfold g_fi_gather_L89 at h
  refine r_p hq 2 (pc' := 8) (L' := [(0, .ref a0), (1, .ref 41), (2, .long Y2), (4, .int (X4 + (1 : Int32)))]) (st' := []) rfl ?_
  exact hg8 hy2 (tx_iadd hx4 (rfl : (1 : Int32).toInt = 1)) H h
def g_fi_gather_L8 (a0 : Nat) : Nat → Int → Int → zS → Option (Unit × zS)
  | 0, _, _, _ => none
  | n + 1, y2, x4, σ =>
    let v_11 := σ 41 4
    if v_11 ≤ x4 then
      some ((), σ)
    else
      if 60 ≤ x4 then
        some ((), σ)
      else
        if 0 ≤ x4 ∧ x4 < 60 then
        let v_30 := σ 45 x4
        (g_so_isRow v_30 σ).bind fun o_35 =>
        if o_35.1 = 0 then
          g_fi_gather_L89 a0 ((g_fi_gather_L8 a0 n)) y2 x4 o_35.2
        else
          if lCmp (lAnd (lUshr y2 v_30) 1) 0 = 0 then
            g_fi_gather_L89 a0 ((g_fi_gather_L8 a0 n)) y2 x4 o_35.2
          else
            let v_57 := o_35.2 a0 2
            if 0 ≤ v_57 ∧ v_57 < 60 then
            let s_62 := zu o_35.2 (a0 + 1) v_57 v_30
            let v_68 := s_62 a0 2
            if 0 ≤ v_30 ∧ v_30 < 60 then
            let v_77 := s_62 44 v_30
            if 0 ≤ v_68 ∧ v_68 < 60 then
            let s_78 := zu s_62 (a0 + 2) v_68 v_77
            let v_81 := s_78 a0 2
            let s_86 := zu s_78 a0 2 (w32 (v_81 + 1))
            g_fi_gather_L89 a0 ((g_fi_gather_L8 a0 n)) y2 x4 s_86
            else none
            else none
            else none
        else none
set_option maxHeartbeats 4000000 in
theorem g_fi_gather_L8_ok {xl : Nat} {xs : Nat → Int32} {a0 : Nat} (ha0 : zIn [60, 70] a0 = true) : ∀ (n : Nat) {Y2 : Int64} {y2 : Int} {X4 : Int32} {x4 : Int} {σ : zS} {p : Nat} {m : zM} {o : Unit × zS}, Y2.toInt = y2 → X4.toInt = x4 → zRep xl xs p m σ → g_fi_gather_L8 a0 n y2 x4 σ = some o → zGo xl xs (fun p' => p = p') 2 47 8 [(0, .ref a0), (1, .ref 41), (2, .long Y2), (4, .int X4)] [] m vV o.2
  | 0, _, _, _, _, _, _, _, _, _, _, _, h => by cases h
  | n + 1, Y2, y2, X4, x4, σ, p, m, o, hy2, hx4, H, h => by
    have hq : z_mth 47 = some z_r47 := rfl
    have ih := fun {Y2 : Int64} {y2 : Int} {X4 : Int32} {x4 : Int} {σ : zS} {p : Nat} {m : zM} {o : Unit × zS} => g_fi_gather_L8_ok (xl := xl) (xs := xs) ha0 n (Y2 := Y2) (y2 := y2) (X4 := X4) (x4 := x4) (σ := σ) (p := p) (m := m) (o := o)
    unfold g_fi_gather_L8 at h
    refine r_p hq 2 (pc' := 11) (L' := [(0, .ref a0), (1, .ref 41), (2, .long Y2), (4, .int X4)]) (st' := [.ref 41, .int X4]) rfl ?_
    refine r_gI (pc' := 14) (L' := [(0, .ref a0), (1, .ref 41), (2, .long Y2), (4, .int X4)]) H hq (z_at.mk 3 rfl rfl) rfl rfl rfl rfl ?_
    intro V_11 hV_11
    rcases z_ite h with ⟨c_14, h⟩ | ⟨c_14, h⟩
    · refine r_t2 (pc' := 95) (L' := []) hq (z_at.mk 3 rfl rfl) rfl hx4 hV_11 c_14 rfl rfl ?_
      cases h
      exact r_rv hq (z_at.mk 1 rfl rfl) rfl rfl H
    · refine r_f2 (pc' := 17) (L' := [(0, .ref a0), (1, .ref 41), (2, .long Y2), (4, .int X4)]) hq (z_at.mk 3 rfl rfl) rfl hx4 hV_11 c_14 rfl rfl ?_
      refine r_p hq 2 (pc' := 21) (L' := [(0, .ref a0), (1, .ref 41), (2, .long Y2), (4, .int X4)]) (st' := [.int ((60 : Int32)), .int X4]) rfl ?_
      rcases z_ite h with ⟨c_21, h⟩ | ⟨c_21, h⟩
      · refine r_t2 (pc' := 95) (L' := []) hq (z_at.mk 3 rfl rfl) rfl hx4 (rfl : (60 : Int32).toInt = 60) c_21 rfl rfl ?_
        cases h
        exact r_rv hq (z_at.mk 1 rfl rfl) rfl rfl H
      · refine r_f2 (pc' := 24) (L' := [(0, .ref a0), (1, .ref 41), (2, .long Y2), (4, .int X4)]) hq (z_at.mk 3 rfl rfl) rfl hx4 (rfl : (60 : Int32).toInt = 60) c_21 rfl rfl ?_
        refine r_p hq 1 (pc' := 25) (L' := [(0, .ref a0), (1, .ref 41), (2, .long Y2), (4, .int X4)]) (st' := [.ref 41]) rfl ?_
        refine r_gR (b := 45) (pc' := 28) (L' := [(0, .ref a0), (1, .ref 41), (2, .long Y2), (4, .int X4)]) H hq (z_at.mk 3 rfl rfl) rfl rfl rfl rfl ?_
        refine r_p hq 1 (pc' := 30) (L' := [(0, .ref a0), (1, .ref 41), (2, .long Y2), (4, .int X4)]) (st' := [.int X4, .ref 45]) rfl ?_
        obtain ⟨g_30, h⟩ := z_ifo_some h
        refine r_ia (pc' := 31) (L' := [(0, .ref a0), (1, .ref 41), (2, .long Y2), (4, .int X4)]) H hq (z_at.mk 1 rfl rfl) (show zAr 45 0 60 = true from rfl) hx4 g_30 rfl rfl ?_
        intro V_30 hV_30
        refine r_p hq 2 (pc' := 35) (L' := [(5, .int V_30), (0, .ref a0), (1, .ref 41), (2, .long Y2), (4, .int X4)]) (st' := [.int V_30]) rfl ?_
        obtain ⟨o_35, h_35, h⟩ := Option.bind_eq_some_iff.mp h
        refine r_csI (pc' := 38) (L' := [(5, .int V_30), (0, .ref a0), (1, .ref 41), (2, .long Y2), (4, .int X4)]) (As := [.int V_30]) (rest := []) (j := 80) hq (z_at.mk 3 rfl rfl) (Or.inl ⟨rfl, rfl⟩) rfl rfl (by omega) (g_so_isRow_ok hV_30 H h_35) rfl rfl ?_
        intro R_35 m_35 p_35 e_35 hR_35 H_35
        subst e_35
        rcases z_ite h with ⟨c_38, h⟩ | ⟨c_38, h⟩
        · refine r_t1 (pc' := 89) (L' := [(0, .ref a0), (1, .ref 41), (2, .long Y2), (4, .int X4)]) hq (z_at.mk 3 rfl rfl) rfl hR_35 c_38 rfl rfl ?_
          exact g_fi_gather_L89_ok ha0 ih hy2 hx4 H_35 h
        · refine r_f1 (pc' := 41) (L' := [(5, .int V_30), (0, .ref a0), (1, .ref 41), (2, .long Y2), (4, .int X4)]) hq (z_at.mk 3 rfl rfl) rfl hR_35 c_38 rfl rfl ?_
          refine r_p hq 7 (pc' := 49) (L' := [(5, .int V_30), (0, .ref a0), (1, .ref 41), (2, .long Y2), (4, .int X4)]) (st' := [.int (lg_cmp (((Y2.toUInt64 >>> (V_30.toInt64.toUInt64 &&& Int64.toUInt64 63)).toInt64) &&& ((1 : Int64))) ((0 : Int64)))]) rfl ?_
          rcases z_ite h with ⟨c_49, h⟩ | ⟨c_49, h⟩
          · refine r_t1 (pc' := 89) (L' := [(0, .ref a0), (1, .ref 41), (2, .long Y2), (4, .int X4)]) hq (z_at.mk 3 rfl rfl) rfl (tx_lcmp (tx_land (tx_lushr hy2 hV_30) (rfl : (1 : Int64).toInt = 1)) (rfl : (0 : Int64).toInt = 0)) c_49 rfl rfl ?_
            exact g_fi_gather_L89_ok ha0 ih hy2 hx4 H_35 h
          · refine r_f1 (pc' := 52) (L' := [(5, .int V_30), (0, .ref a0), (1, .ref 41), (2, .long Y2), (4, .int X4)]) hq (z_at.mk 3 rfl rfl) rfl (tx_lcmp (tx_land (tx_lushr hy2 hV_30) (rfl : (1 : Int64).toInt = 1)) (rfl : (0 : Int64).toInt = 0)) c_49 rfl rfl ?_
            refine r_p hq 1 (pc' := 53) (L' := [(5, .int V_30), (0, .ref a0), (1, .ref 41), (2, .long Y2), (4, .int X4)]) (st' := [.ref a0]) rfl ?_
            refine r_gR (b := a0 + 1) (pc' := 56) (L' := [(5, .int V_30), (0, .ref a0), (1, .ref 41), (2, .long Y2), (4, .int X4)]) H_35 hq (z_at.mk 3 rfl rfl) rfl (zIn_all (l := [60, 70]) (p := fun a => zQ a 13 0 (100 + a + 1)) rfl ha0) rfl rfl ?_
            refine r_p hq 1 (pc' := 57) (L' := [(5, .int V_30), (0, .ref a0), (1, .ref 41), (2, .long Y2), (4, .int X4)]) (st' := [.ref a0, .ref (a0 + 1)]) rfl ?_
            refine r_gI (pc' := 60) (L' := [(5, .int V_30), (0, .ref a0), (1, .ref 41), (2, .long Y2), (4, .int X4)]) H_35 hq (z_at.mk 3 rfl rfl) rfl (zIn_all (l := [60, 70]) (p := fun a => zQ a 13 2 0) rfl ha0) rfl rfl ?_
            intro V_57 hV_57
            refine r_p hq 1 (pc' := 62) (L' := [(5, .int V_30), (0, .ref a0), (1, .ref 41), (2, .long Y2), (4, .int X4)]) (st' := [.int V_30, .int V_57, .ref (a0 + 1)]) rfl ?_
            obtain ⟨g_62, h⟩ := z_ifo_some h
            refine r_is (pc' := 63) (L' := [(5, .int V_30), (0, .ref a0), (1, .ref 41), (2, .long Y2), (4, .int X4)]) H_35 hq (z_at.mk 1 rfl rfl) (zIn_all (l := [60, 70]) (p := fun a => zAr (a + 1) 0 60) rfl ha0) hV_57 g_62 hV_30 rfl rfl ?_
            intro m_62 H_62
            refine r_p hq 1 (pc' := 64) (L' := [(5, .int V_30), (0, .ref a0), (1, .ref 41), (2, .long Y2), (4, .int X4)]) (st' := [.ref a0]) rfl ?_
            refine r_gR (b := a0 + 2) (pc' := 67) (L' := [(5, .int V_30), (0, .ref a0), (1, .ref 41), (2, .long Y2), (4, .int X4)]) H_62 hq (z_at.mk 3 rfl rfl) rfl (zIn_all (l := [60, 70]) (p := fun a => zQ a 13 1 (100 + a + 2)) rfl ha0) rfl rfl ?_
            refine r_p hq 1 (pc' := 68) (L' := [(5, .int V_30), (0, .ref a0), (1, .ref 41), (2, .long Y2), (4, .int X4)]) (st' := [.ref a0, .ref (a0 + 2)]) rfl ?_
            refine r_gI (pc' := 71) (L' := [(5, .int V_30), (0, .ref a0), (1, .ref 41), (2, .long Y2), (4, .int X4)]) H_62 hq (z_at.mk 3 rfl rfl) rfl (zIn_all (l := [60, 70]) (p := fun a => zQ a 13 2 0) rfl ha0) rfl rfl ?_
            intro V_68 hV_68
            refine r_p hq 1 (pc' := 72) (L' := [(5, .int V_30), (0, .ref a0), (1, .ref 41), (2, .long Y2), (4, .int X4)]) (st' := [.ref 41, .int V_68, .ref (a0 + 2)]) rfl ?_
            refine r_gR (b := 44) (pc' := 75) (L' := [(5, .int V_30), (0, .ref a0), (1, .ref 41), (2, .long Y2), (4, .int X4)]) H_62 hq (z_at.mk 3 rfl rfl) rfl rfl rfl rfl ?_
            refine r_p hq 1 (pc' := 77) (L' := [(5, .int V_30), (0, .ref a0), (1, .ref 41), (2, .long Y2), (4, .int X4)]) (st' := [.int V_30, .ref 44, .int V_68, .ref (a0 + 2)]) rfl ?_
            obtain ⟨g_77, h⟩ := z_ifo_some h
            refine r_la (pc' := 78) (L' := [(5, .int V_30), (0, .ref a0), (1, .ref 41), (2, .long Y2), (4, .int X4)]) H_62 hq (z_at.mk 1 rfl rfl) (show zAr 44 1 60 = true from rfl) hV_30 g_77 rfl rfl ?_
            intro V_77 hV_77
            obtain ⟨g_78, h⟩ := z_ifo_some h
            refine r_ls (pc' := 79) (L' := [(5, .int V_30), (0, .ref a0), (1, .ref 41), (2, .long Y2), (4, .int X4)]) H_62 hq (z_at.mk 1 rfl rfl) (zIn_all (l := [60, 70]) (p := fun a => zAr (a + 2) 1 60) rfl ha0) hV_68 g_78 hV_77 rfl rfl ?_
            intro m_78 H_78
            refine r_p hq 2 (pc' := 81) (L' := [(5, .int V_30), (0, .ref a0), (1, .ref 41), (2, .long Y2), (4, .int X4)]) (st' := [.ref a0, .ref a0]) rfl ?_
            refine r_gI (pc' := 84) (L' := [(5, .int V_30), (0, .ref a0), (1, .ref 41), (2, .long Y2), (4, .int X4)]) H_78 hq (z_at.mk 3 rfl rfl) rfl (zIn_all (l := [60, 70]) (p := fun a => zQ a 13 2 0) rfl ha0) rfl rfl ?_
            intro V_81 hV_81
            refine r_p hq 2 (pc' := 86) (L' := [(5, .int V_30), (0, .ref a0), (1, .ref 41), (2, .long Y2), (4, .int X4)]) (st' := [.int (V_81 + ((1 : Int32))), .ref a0]) rfl ?_
            refine r_pI (X := V_81 + ((1 : Int32))) (pc' := 89) (L' := [(0, .ref a0), (1, .ref 41), (2, .long Y2), (4, .int X4)]) H_78 hq (z_at.mk 3 rfl rfl) rfl (zIn_all (l := [60, 70]) (p := fun a => zQ a 13 2 0) rfl ha0) (tx_iadd hV_81 (rfl : (1 : Int32).toInt = 1)) (by decide) rfl rfl rfl rfl ?_
            intro m_86 H_86
            exact g_fi_gather_L89_ok ha0 ih hy2 hx4 H_86 h
def g_fi_gather (a0 : Nat) (y2 : Int) (σ : zS) : Option (Unit × zS) :=
  let s_2 := zu σ a0 2 0
  g_fi_gather_L8 a0 zK y2 0 s_2
set_option maxHeartbeats 4000000 in
theorem g_fi_gather_ok {xl : Nat} {xs : Nat → Int32} {a0 : Nat} (ha0 : zIn [60, 70] a0 = true) {Y2 : Int64} {y2 : Int} (hy2 : Y2.toInt = y2) {σ : zS} {p : Nat} {m : zM} {o : Unit × zS} (H : zRep xl xs p m σ) (h : g_fi_gather a0 y2 σ = some o) : zGo xl xs (fun p' => p = p') 2 47 0 (z_can 47 0 (lv_args 0 [.ref a0, .ref 41, .long Y2])) [] m vV o.2 := by
  have hq : z_mth 47 = some z_r47 := rfl
  unfold g_fi_gather at h
  show zGo xl xs (fun p' => p = p') 2 47 0 [(0, .ref a0), (1, .ref 41), (2, .long Y2)] [] m vV o.2
  refine r_p hq 2 (pc' := 2) (L' := [(0, .ref a0), (1, .ref 41), (2, .long Y2)]) (st' := [.int ((0 : Int32)), .ref a0]) rfl ?_
  refine r_pI (X := (0 : Int32)) (pc' := 5) (L' := [(0, .ref a0), (1, .ref 41), (2, .long Y2)]) H hq (z_at.mk 3 rfl rfl) rfl (zIn_all (l := [60, 70]) (p := fun a => zQ a 13 2 0) rfl ha0) (rfl : (0 : Int32).toInt = 0) (by decide) rfl rfl rfl rfl ?_
  intro m_2 H_2
  refine r_p hq 2 (pc' := 8) (L' := [(0, .ref a0), (1, .ref 41), (2, .long Y2), (4, .int ((0 : Int32)))]) (st' := []) rfl ?_
  exact g_fi_gather_L8_ok ha0 zK hy2 (rfl : (0 : Int32).toInt = 0) H_2 h
def g_fi_sumIsOver_L60 (a0 : Nat) (g4 : Int → Int → zS → Option (Int × zS)) (x3 : Int) (y4 : Int) (xs0 : Int) (σ : zS) : Option (Int × zS) :=
  if xs0 = 0 then
    g4 y4 (w32 (x3 + 1)) σ
  else
    some (1, σ)
set_option maxHeartbeats 4000000 in
theorem g_fi_sumIsOver_L60_ok {xl : Nat} {xs : Nat → Int32} {a0 : Nat} (ha0 : zIn [60, 70] a0 = true) {g4 : Int → Int → zS → Option (Int × zS)} (hg4 : ∀ {Y1 : Int64} {y1 : Int} {X3 : Int32} {x3 : Int} {σ : zS} {p : Nat} {m : zM} {o : Int × zS}, Y1.toInt = y1 → X3.toInt = x3 → zRep xl xs p m σ → g4 y1 x3 σ = some o → zGo xl xs (fun p' => p = p') 1 49 4 [(0, .ref a0), (1, .long Y1), (3, .int X3)] [] m (vI o.1) o.2) {X3 : Int32} {x3 : Int} (hx3 : X3.toInt = x3) {Y4 : Int64} {y4 : Int} (hy4 : Y4.toInt = y4) {Xs0 : Int32} {xs0 : Int} (hxs0 : Xs0.toInt = xs0) {σ : zS} {p : Nat} {m : zM} {o : Int × zS} (H : zRep xl xs p m σ) (h : g_fi_sumIsOver_L60 a0 g4 x3 y4 xs0 σ = some o) : zGo xl xs (fun p' => p = p') 1 49 60 [(0, .ref a0), (3, .int X3), (4, .long Y4)] [.int Xs0] m (vI o.1) o.2 := by
  have hq : z_mth 49 = some z_r49 := rfl
  unfold g_fi_sumIsOver_L60 at h
  refine r_p hq 2 (pc' := 64) (L' := [(6, .int Xs0), (0, .ref a0), (3, .int X3), (4, .long Y4)]) (st' := [.int Xs0]) rfl ?_
  rcases z_ite h with ⟨c_64, h⟩ | ⟨c_64, h⟩
  · refine r_t1 (pc' := 69) (L' := [(6, .int Xs0), (0, .ref a0), (3, .int X3), (4, .long Y4)]) hq (z_at.mk 3 rfl rfl) rfl hxs0 c_64 rfl rfl ?_
    refine r_p hq 4 (pc' := 4) (L' := [(0, .ref a0), (1, .long Y4), (3, .int (X3 + (1 : Int32)))]) (st' := []) rfl ?_
    exact hg4 hy4 (tx_iadd hx3 (rfl : (1 : Int32).toInt = 1)) H h
  · refine r_f1 (pc' := 67) (L' := [(6, .int Xs0), (0, .ref a0), (3, .int X3), (4, .long Y4)]) hq (z_at.mk 3 rfl rfl) rfl hxs0 c_64 rfl rfl ?_
    refine r_p hq 1 (pc' := 68) (L' := [(6, .int Xs0), (0, .ref a0), (3, .int X3), (4, .long Y4)]) (st' := [.int ((1 : Int32))]) rfl ?_
    cases h
    exact r_ri hq (z_at.mk 1 rfl rfl) rfl rfl (rfl : (1 : Int32).toInt = 1) rfl H
def g_fi_sumIsOver_L4 (a0 : Nat) : Nat → Int → Int → zS → Option (Int × zS)
  | 0, _, _, _ => none
  | n + 1, y1, x3, σ =>
    let v_6 := σ a0 2
    if v_6 ≤ x3 then
      some (0, σ)
    else
      if 0 ≤ x3 ∧ x3 < 60 then
      let v_18 := σ (a0 + 2) x3
      if 0 ≤ x3 ∧ x3 < 60 then
      let v_27 := σ (a0 + 2) x3
      if lCmp v_27 0 < 0 then
        if lCmp (w64 (y1 + v_18)) y1 ≤ 0 then
          g_fi_sumIsOver_L60 a0 ((g_fi_sumIsOver_L4 a0 n)) x3 (w64 (y1 + v_18)) 0 σ
        else
          g_fi_sumIsOver_L60 a0 ((g_fi_sumIsOver_L4 a0 n)) x3 (w64 (y1 + v_18)) 1 σ
      else
        if 0 ≤ lCmp (w64 (y1 + v_18)) y1 then
          g_fi_sumIsOver_L60 a0 ((g_fi_sumIsOver_L4 a0 n)) x3 (w64 (y1 + v_18)) 0 σ
        else
          g_fi_sumIsOver_L60 a0 ((g_fi_sumIsOver_L4 a0 n)) x3 (w64 (y1 + v_18)) 1 σ
      else none
      else none
set_option maxHeartbeats 4000000 in
theorem g_fi_sumIsOver_L4_ok {xl : Nat} {xs : Nat → Int32} {a0 : Nat} (ha0 : zIn [60, 70] a0 = true) : ∀ (n : Nat) {Y1 : Int64} {y1 : Int} {X3 : Int32} {x3 : Int} {σ : zS} {p : Nat} {m : zM} {o : Int × zS}, Y1.toInt = y1 → X3.toInt = x3 → zRep xl xs p m σ → g_fi_sumIsOver_L4 a0 n y1 x3 σ = some o → zGo xl xs (fun p' => p = p') 1 49 4 [(0, .ref a0), (1, .long Y1), (3, .int X3)] [] m (vI o.1) o.2
  | 0, _, _, _, _, _, _, _, _, _, _, _, h => by cases h
  | n + 1, Y1, y1, X3, x3, σ, p, m, o, hy1, hx3, H, h => by
    have hq : z_mth 49 = some z_r49 := rfl
    have ih := fun {Y1 : Int64} {y1 : Int} {X3 : Int32} {x3 : Int} {σ : zS} {p : Nat} {m : zM} {o : Int × zS} => g_fi_sumIsOver_L4_ok (xl := xl) (xs := xs) ha0 n (Y1 := Y1) (y1 := y1) (X3 := X3) (x3 := x3) (σ := σ) (p := p) (m := m) (o := o)
    unfold g_fi_sumIsOver_L4 at h
    refine r_p hq 2 (pc' := 6) (L' := [(0, .ref a0), (1, .long Y1), (3, .int X3)]) (st' := [.ref a0, .int X3]) rfl ?_
    refine r_gI (pc' := 9) (L' := [(0, .ref a0), (1, .long Y1), (3, .int X3)]) H hq (z_at.mk 3 rfl rfl) rfl (zIn_all (l := [60, 70]) (p := fun a => zQ a 13 2 0) rfl ha0) rfl rfl ?_
    intro V_6 hV_6
    rcases z_ite h with ⟨c_9, h⟩ | ⟨c_9, h⟩
    · refine r_t2 (pc' := 78) (L' := [(0, .ref a0), (1, .long Y1), (3, .int X3)]) hq (z_at.mk 3 rfl rfl) rfl hx3 hV_6 c_9 rfl rfl ?_
      refine r_p hq 1 (pc' := 79) (L' := [(0, .ref a0), (1, .long Y1), (3, .int X3)]) (st' := [.int ((0 : Int32))]) rfl ?_
      cases h
      exact r_ri hq (z_at.mk 1 rfl rfl) rfl rfl (rfl : (0 : Int32).toInt = 0) rfl H
    · refine r_f2 (pc' := 12) (L' := [(0, .ref a0), (1, .long Y1), (3, .int X3)]) hq (z_at.mk 3 rfl rfl) rfl hx3 hV_6 c_9 rfl rfl ?_
      refine r_p hq 2 (pc' := 14) (L' := [(0, .ref a0), (1, .long Y1), (3, .int X3)]) (st' := [.ref a0, .long Y1]) rfl ?_
      refine r_gR (b := a0 + 2) (pc' := 17) (L' := [(0, .ref a0), (1, .long Y1), (3, .int X3)]) H hq (z_at.mk 3 rfl rfl) rfl (zIn_all (l := [60, 70]) (p := fun a => zQ a 13 1 (100 + a + 2)) rfl ha0) rfl rfl ?_
      refine r_p hq 1 (pc' := 18) (L' := [(0, .ref a0), (1, .long Y1), (3, .int X3)]) (st' := [.int X3, .ref (a0 + 2), .long Y1]) rfl ?_
      obtain ⟨g_18, h⟩ := z_ifo_some h
      refine r_la (pc' := 19) (L' := [(0, .ref a0), (1, .long Y1), (3, .int X3)]) H hq (z_at.mk 1 rfl rfl) (zIn_all (l := [60, 70]) (p := fun a => zAr (a + 2) 1 60) rfl ha0) hx3 g_18 rfl rfl ?_
      intro V_18 hV_18
      refine r_p hq 3 (pc' := 23) (L' := [(4, .long (Y1 + V_18)), (0, .ref a0), (1, .long Y1), (3, .int X3)]) (st' := [.ref a0]) rfl ?_
      refine r_gR (b := a0 + 2) (pc' := 26) (L' := [(4, .long (Y1 + V_18)), (0, .ref a0), (1, .long Y1), (3, .int X3)]) H hq (z_at.mk 3 rfl rfl) rfl (zIn_all (l := [60, 70]) (p := fun a => zQ a 13 1 (100 + a + 2)) rfl ha0) rfl rfl ?_
      refine r_p hq 1 (pc' := 27) (L' := [(4, .long (Y1 + V_18)), (0, .ref a0), (1, .long Y1), (3, .int X3)]) (st' := [.int X3, .ref (a0 + 2)]) rfl ?_
      obtain ⟨g_27, h⟩ := z_ifo_some h
      refine r_la (pc' := 28) (L' := [(4, .long (Y1 + V_18)), (0, .ref a0), (1, .long Y1), (3, .int X3)]) H hq (z_at.mk 1 rfl rfl) (zIn_all (l := [60, 70]) (p := fun a => zAr (a + 2) 1 60) rfl ha0) hx3 g_27 rfl rfl ?_
      intro V_27 hV_27
      refine r_p hq 2 (pc' := 30) (L' := [(4, .long (Y1 + V_18)), (0, .ref a0), (1, .long Y1), (3, .int X3)]) (st' := [.int (lg_cmp V_27 ((0 : Int64)))]) rfl ?_
      rcases z_ite h with ⟨c_30, h⟩ | ⟨c_30, h⟩
      · refine r_t1 (pc' := 48) (L' := [(4, .long (Y1 + V_18)), (0, .ref a0), (1, .long Y1), (3, .int X3)]) hq (z_at.mk 3 rfl rfl) rfl (tx_lcmp hV_27 (rfl : (0 : Int64).toInt = 0)) c_30 rfl rfl ?_
        refine r_p hq 3 (pc' := 52) (L' := [(4, .long (Y1 + V_18)), (0, .ref a0), (1, .long Y1), (3, .int X3)]) (st' := [.int (lg_cmp (Y1 + V_18) Y1)]) rfl ?_
        rcases z_ite h with ⟨c_52, h⟩ | ⟨c_52, h⟩
        · refine r_t1 (pc' := 59) (L' := [(4, .long (Y1 + V_18)), (0, .ref a0), (1, .long Y1), (3, .int X3)]) hq (z_at.mk 3 rfl rfl) rfl (tx_lcmp (tx_ladd hy1 hV_18) hy1) c_52 rfl rfl ?_
          refine r_p hq 1 (pc' := 60) (L' := [(0, .ref a0), (3, .int X3), (4, .long (Y1 + V_18))]) (st' := [.int ((0 : Int32))]) rfl ?_
          exact g_fi_sumIsOver_L60_ok ha0 ih hx3 (tx_ladd hy1 hV_18) (rfl : (0 : Int32).toInt = 0) H h
        · refine r_f1 (pc' := 55) (L' := [(4, .long (Y1 + V_18)), (0, .ref a0), (1, .long Y1), (3, .int X3)]) hq (z_at.mk 3 rfl rfl) rfl (tx_lcmp (tx_ladd hy1 hV_18) hy1) c_52 rfl rfl ?_
          refine r_p hq 2 (pc' := 60) (L' := [(0, .ref a0), (3, .int X3), (4, .long (Y1 + V_18))]) (st' := [.int ((1 : Int32))]) rfl ?_
          exact g_fi_sumIsOver_L60_ok ha0 ih hx3 (tx_ladd hy1 hV_18) (rfl : (1 : Int32).toInt = 1) H h
      · refine r_f1 (pc' := 33) (L' := [(4, .long (Y1 + V_18)), (0, .ref a0), (1, .long Y1), (3, .int X3)]) hq (z_at.mk 3 rfl rfl) rfl (tx_lcmp hV_27 (rfl : (0 : Int64).toInt = 0)) c_30 rfl rfl ?_
        refine r_p hq 3 (pc' := 37) (L' := [(4, .long (Y1 + V_18)), (0, .ref a0), (1, .long Y1), (3, .int X3)]) (st' := [.int (lg_cmp (Y1 + V_18) Y1)]) rfl ?_
        rcases z_ite h with ⟨c_37, h⟩ | ⟨c_37, h⟩
        · refine r_t1 (pc' := 44) (L' := [(4, .long (Y1 + V_18)), (0, .ref a0), (1, .long Y1), (3, .int X3)]) hq (z_at.mk 3 rfl rfl) rfl (tx_lcmp (tx_ladd hy1 hV_18) hy1) c_37 rfl rfl ?_
          refine r_p hq 2 (pc' := 60) (L' := [(0, .ref a0), (3, .int X3), (4, .long (Y1 + V_18))]) (st' := [.int ((0 : Int32))]) rfl ?_
          exact g_fi_sumIsOver_L60_ok ha0 ih hx3 (tx_ladd hy1 hV_18) (rfl : (0 : Int32).toInt = 0) H h
        · refine r_f1 (pc' := 40) (L' := [(4, .long (Y1 + V_18)), (0, .ref a0), (1, .long Y1), (3, .int X3)]) hq (z_at.mk 3 rfl rfl) rfl (tx_lcmp (tx_ladd hy1 hV_18) hy1) c_37 rfl rfl ?_
          refine r_p hq 2 (pc' := 60) (L' := [(0, .ref a0), (3, .int X3), (4, .long (Y1 + V_18))]) (st' := [.int ((1 : Int32))]) rfl ?_
          exact g_fi_sumIsOver_L60_ok ha0 ih hx3 (tx_ladd hy1 hV_18) (rfl : (1 : Int32).toInt = 1) H h
def g_fi_sumIsOver (a0 : Nat) (σ : zS) : Option (Int × zS) :=
  g_fi_sumIsOver_L4 a0 zK 0 0 σ
set_option maxHeartbeats 4000000 in
theorem g_fi_sumIsOver_ok {xl : Nat} {xs : Nat → Int32} {a0 : Nat} (ha0 : zIn [60, 70] a0 = true) {σ : zS} {p : Nat} {m : zM} {o : Int × zS} (H : zRep xl xs p m σ) (h : g_fi_sumIsOver a0 σ = some o) : zGo xl xs (fun p' => p = p') 1 49 0 (z_can 49 0 (lv_args 0 [.ref a0])) [] m (vI o.1) o.2 := by
  have hq : z_mth 49 = some z_r49 := rfl
  unfold g_fi_sumIsOver at h
  show zGo xl xs (fun p' => p = p') 1 49 0 [(0, .ref a0)] [] m (vI o.1) o.2
  refine r_p hq 4 (pc' := 4) (L' := [(0, .ref a0), (1, .long ((0 : Int64))), (3, .int ((0 : Int32)))]) (st' := []) rfl ?_
  exact g_fi_sumIsOver_L4_ok ha0 zK (rfl : (0 : Int64).toInt = 0) (rfl : (0 : Int32).toInt = 0) H h
def g_fi_sum_L15 (a0 : Nat) : Nat → Int → Int → zS → Option (Int × zS)
  | 0, _, _, _ => none
  | n + 1, y1, x3, σ =>
    let v_17 := σ a0 2
    if v_17 ≤ x3 then
      some (y1, σ)
    else
      if 0 ≤ x3 ∧ x3 < 60 then
      let v_29 := σ (a0 + 2) x3
      (g_fi_sum_L15 a0 n) (w64 (y1 + v_29)) (w32 (x3 + 1)) σ
      else none
set_option maxHeartbeats 4000000 in
theorem g_fi_sum_L15_ok {xl : Nat} {xs : Nat → Int32} {a0 : Nat} (ha0 : zIn [60, 70] a0 = true) : ∀ (n : Nat) {Y1 : Int64} {y1 : Int} {X3 : Int32} {x3 : Int} {σ : zS} {p : Nat} {m : zM} {o : Int × zS}, Y1.toInt = y1 → X3.toInt = x3 → zRep xl xs p m σ → g_fi_sum_L15 a0 n y1 x3 σ = some o → zGo xl xs (fun p' => p = p') 2 50 15 [(0, .ref a0), (1, .long Y1), (3, .int X3)] [] m (vL o.1) o.2
  | 0, _, _, _, _, _, _, _, _, _, _, _, h => by cases h
  | n + 1, Y1, y1, X3, x3, σ, p, m, o, hy1, hx3, H, h => by
    have hq : z_mth 50 = some z_r50 := rfl
    have ih := fun {Y1 : Int64} {y1 : Int} {X3 : Int32} {x3 : Int} {σ : zS} {p : Nat} {m : zM} {o : Int × zS} => g_fi_sum_L15_ok (xl := xl) (xs := xs) ha0 n (Y1 := Y1) (y1 := y1) (X3 := X3) (x3 := x3) (σ := σ) (p := p) (m := m) (o := o)
    unfold g_fi_sum_L15 at h
    refine r_p hq 2 (pc' := 17) (L' := [(0, .ref a0), (1, .long Y1), (3, .int X3)]) (st' := [.ref a0, .int X3]) rfl ?_
    refine r_gI (pc' := 20) (L' := [(0, .ref a0), (1, .long Y1), (3, .int X3)]) H hq (z_at.mk 3 rfl rfl) rfl (zIn_all (l := [60, 70]) (p := fun a => zQ a 13 2 0) rfl ha0) rfl rfl ?_
    intro V_17 hV_17
    rcases z_ite h with ⟨c_20, h⟩ | ⟨c_20, h⟩
    · refine r_t2 (pc' := 38) (L' := [(0, .ref a0), (1, .long Y1), (3, .int X3)]) hq (z_at.mk 3 rfl rfl) rfl hx3 hV_17 c_20 rfl rfl ?_
      refine r_p hq 1 (pc' := 39) (L' := [(0, .ref a0), (1, .long Y1), (3, .int X3)]) (st' := [.long Y1]) rfl ?_
      cases h
      exact r_rl hq (z_at.mk 1 rfl rfl) rfl hy1 rfl H
    · refine r_f2 (pc' := 23) (L' := [(0, .ref a0), (1, .long Y1), (3, .int X3)]) hq (z_at.mk 3 rfl rfl) rfl hx3 hV_17 c_20 rfl rfl ?_
      refine r_p hq 2 (pc' := 25) (L' := [(0, .ref a0), (1, .long Y1), (3, .int X3)]) (st' := [.ref a0, .long Y1]) rfl ?_
      refine r_gR (b := a0 + 2) (pc' := 28) (L' := [(0, .ref a0), (1, .long Y1), (3, .int X3)]) H hq (z_at.mk 3 rfl rfl) rfl (zIn_all (l := [60, 70]) (p := fun a => zQ a 13 1 (100 + a + 2)) rfl ha0) rfl rfl ?_
      refine r_p hq 1 (pc' := 29) (L' := [(0, .ref a0), (1, .long Y1), (3, .int X3)]) (st' := [.int X3, .ref (a0 + 2), .long Y1]) rfl ?_
      obtain ⟨g_29, h⟩ := z_ifo_some h
      refine r_la (pc' := 30) (L' := [(0, .ref a0), (1, .long Y1), (3, .int X3)]) H hq (z_at.mk 1 rfl rfl) (zIn_all (l := [60, 70]) (p := fun a => zAr (a + 2) 1 60) rfl ha0) hx3 g_29 rfl rfl ?_
      intro V_29 hV_29
      refine r_p hq 4 (pc' := 15) (L' := [(0, .ref a0), (1, .long (Y1 + V_29)), (3, .int (X3 + (1 : Int32)))]) (st' := []) rfl ?_
      exact ih (tx_ladd hy1 hV_29) (tx_iadd hx3 (rfl : (1 : Int32).toInt = 1)) H h
def g_fi_sum (a0 : Nat) (σ : zS) : Option (Int × zS) :=
  (g_fi_sumIsOver a0 σ).bind fun o_1 =>
  if o_1.1 = 0 then
    g_fi_sum_L15 a0 zK 0 0 o_1.2
  else
    some (-9223372036854775807, o_1.2)
set_option maxHeartbeats 4000000 in
theorem g_fi_sum_ok {xl : Nat} {xs : Nat → Int32} {a0 : Nat} (ha0 : zIn [60, 70] a0 = true) {σ : zS} {p : Nat} {m : zM} {o : Int × zS} (H : zRep xl xs p m σ) (h : g_fi_sum a0 σ = some o) : zGo xl xs (fun p' => p = p') 2 50 0 (z_can 50 0 (lv_args 0 [.ref a0])) [] m (vL o.1) o.2 := by
  have hq : z_mth 50 = some z_r50 := rfl
  unfold g_fi_sum at h
  show zGo xl xs (fun p' => p = p') 2 50 0 [(0, .ref a0)] [] m (vL o.1) o.2
  refine r_p hq 1 (pc' := 1) (L' := [(0, .ref a0)]) (st' := [.ref a0]) rfl ?_
  obtain ⟨o_1, h_1, h⟩ := Option.bind_eq_some_iff.mp h
  refine r_cvI (pc' := 4) (L' := [(0, .ref a0)]) (Ps := []) (rest := []) hq (z_at.mk 3 rfl rfl) (Or.inl ⟨rfl, rfl⟩) rfl rfl (by decide) (by decide) rfl (Nat.not_lt.mpr (Nat.le_of_ble_eq_true rfl)) rfl rfl (z_cat_le 0 rfl (by decide)) (z_lgl_le 1 rfl (by decide)) (by decide) (H.tg (zIn_all (l := [60, 70]) (p := fun a => zT a 13) rfl ha0)) (by omega) (g_fi_sumIsOver_ok (zIn_all (l := [60, 70]) (p := fun a => zIn [60, 70] a) rfl ha0) H h_1) rfl rfl ?_
  intro R_1 m_1 p_1 e_1 hR_1 H_1
  subst e_1
  rcases z_ite h with ⟨c_4, h⟩ | ⟨c_4, h⟩
  · refine r_t1 (pc' := 11) (L' := [(0, .ref a0)]) hq (z_at.mk 3 rfl rfl) rfl hR_1 c_4 rfl rfl ?_
    refine r_p hq 4 (pc' := 15) (L' := [(0, .ref a0), (1, .long ((0 : Int64))), (3, .int ((0 : Int32)))]) (st' := []) rfl ?_
    exact g_fi_sum_L15_ok ha0 zK (rfl : (0 : Int64).toInt = 0) (rfl : (0 : Int32).toInt = 0) H_1 h
  · refine r_f1 (pc' := 7) (L' := [(0, .ref a0)]) hq (z_at.mk 3 rfl rfl) rfl hR_1 c_4 rfl rfl ?_
    refine r_p hq 1 (pc' := 10) (L' := [(0, .ref a0)]) (st' := [.long ((-9223372036854775807 : Int64))]) rfl ?_
    cases h
    exact r_rl hq (z_at.mk 1 rfl rfl) rfl (rfl : (-9223372036854775807 : Int64).toInt = -9223372036854775807) rfl H_1
def g_jMath_floorDiv (y0 : Int) (y2 : Int) (σ : zS) : Option (Int × zS) :=
  if y2 = 0 then none else
  if 0 ≤ lCmp (lXor y0 y2) 0 then
    some (w64 (Int.tdiv y0 y2), σ)
  else
    if lCmp (w64 ((w64 (Int.tdiv y0 y2)) * y2)) y0 = 0 then
      some (w64 (Int.tdiv y0 y2), σ)
    else
      some (w64 ((w64 (Int.tdiv y0 y2)) - 1), σ)
set_option maxHeartbeats 4000000 in
theorem g_jMath_floorDiv_ok {xl : Nat} {xs : Nat → Int32} {Y0 : Int64} {y0 : Int} (hy0 : Y0.toInt = y0) {Y2 : Int64} {y2 : Int} (hy2 : Y2.toInt = y2) {σ : zS} {p : Nat} {m : zM} {o : Int × zS} (H : zRep xl xs p m σ) (h : g_jMath_floorDiv y0 y2 σ = some o) : zGo xl xs (fun p' => p = p') 1 288 0 (z_can 288 0 (lv_args 0 [.long Y0, .long Y2])) [] m (vL o.1) o.2 := by
  have hq : z_mth 288 = some z_r288 := rfl
  unfold g_jMath_floorDiv at h
  show zGo xl xs (fun p' => p = p') 1 288 0 [(0, .long Y0), (2, .long Y2)] [] m (vL o.1) o.2
  refine r_p hq 2 (pc' := 2) (L' := [(0, .long Y0), (2, .long Y2)]) (st' := [.long Y2, .long Y0]) rfl ?_
  obtain ⟨g_2, h⟩ := z_ifno_some h
  refine r_ldiv (pc' := 3) (L' := [(0, .long Y0), (2, .long Y2)]) hq (z_at.mk 1 rfl rfl) hy0 hy2 g_2 rfl rfl ?_
  intro V_2 hV_2
  refine r_p hq 6 (pc' := 10) (L' := [(4, .long V_2), (0, .long Y0), (2, .long Y2)]) (st' := [.int (lg_cmp (Y0 ^^^ Y2) ((0 : Int64)))]) rfl ?_
  rcases z_ite h with ⟨c_10, h⟩ | ⟨c_10, h⟩
  · refine r_t1 (pc' := 27) (L' := [(4, .long V_2)]) hq (z_at.mk 3 rfl rfl) rfl (tx_lcmp (tx_lxor hy0 hy2) (rfl : (0 : Int64).toInt = 0)) c_10 rfl rfl ?_
    refine r_p hq 1 (pc' := 29) (L' := [(4, .long V_2)]) (st' := [.long V_2]) rfl ?_
    cases h
    exact r_rl hq (z_at.mk 1 rfl rfl) rfl hV_2 rfl H
  · refine r_f1 (pc' := 13) (L' := [(4, .long V_2), (0, .long Y0), (2, .long Y2)]) hq (z_at.mk 3 rfl rfl) rfl (tx_lcmp (tx_lxor hy0 hy2) (rfl : (0 : Int64).toInt = 0)) c_10 rfl rfl ?_
    refine r_p hq 5 (pc' := 19) (L' := [(4, .long V_2), (0, .long Y0), (2, .long Y2)]) (st' := [.int (lg_cmp (V_2 * Y2) Y0)]) rfl ?_
    rcases z_ite h with ⟨c_19, h⟩ | ⟨c_19, h⟩
    · refine r_t1 (pc' := 27) (L' := [(4, .long V_2)]) hq (z_at.mk 3 rfl rfl) rfl (tx_lcmp (tx_lmul hV_2 hy2) hy0) c_19 rfl rfl ?_
      refine r_p hq 1 (pc' := 29) (L' := [(4, .long V_2)]) (st' := [.long V_2]) rfl ?_
      cases h
      exact r_rl hq (z_at.mk 1 rfl rfl) rfl hV_2 rfl H
    · refine r_f1 (pc' := 22) (L' := [(4, .long V_2), (0, .long Y0), (2, .long Y2)]) hq (z_at.mk 3 rfl rfl) rfl (tx_lcmp (tx_lmul hV_2 hy2) hy0) c_19 rfl rfl ?_
      refine r_p hq 3 (pc' := 26) (L' := [(4, .long V_2), (0, .long Y0), (2, .long Y2)]) (st' := [.long (V_2 - ((1 : Int64)))]) rfl ?_
      cases h
      exact r_rl hq (z_at.mk 1 rfl rfl) rfl (tx_lsub hV_2 (rfl : (1 : Int64).toInt = 1)) rfl H
def g_fi_mean (a0 : Nat) (σ : zS) : Option (Int × zS) :=
  let v_1 := σ a0 2
  if v_1 ≠ 0 then
    (g_fi_sumIsOver a0 σ).bind fun o_12 =>
    if o_12.1 = 0 then
      (g_fi_sum a0 o_12.2).bind fun o_25 =>
      let v_29 := o_25.2 a0 2
      (g_jMath_floorDiv o_25.1 v_29 o_25.2).bind fun o_33 =>
      some (o_33.1, o_33.2)
    else
      some (-9223372036854775807, o_12.2)
  else
    some (-9223372036854775808, σ)
set_option maxHeartbeats 4000000 in
theorem g_fi_mean_ok {xl : Nat} {xs : Nat → Int32} {a0 : Nat} (ha0 : zIn [60, 70] a0 = true) {σ : zS} {p : Nat} {m : zM} {o : Int × zS} (H : zRep xl xs p m σ) (h : g_fi_mean a0 σ = some o) : zGo xl xs (fun p' => p = p') 3 51 0 (z_can 51 0 (lv_args 0 [.ref a0])) [] m (vL o.1) o.2 := by
  have hq : z_mth 51 = some z_r51 := rfl
  unfold g_fi_mean at h
  show zGo xl xs (fun p' => p = p') 3 51 0 [(0, .ref a0)] [] m (vL o.1) o.2
  refine r_p hq 1 (pc' := 1) (L' := [(0, .ref a0)]) (st' := [.ref a0]) rfl ?_
  refine r_gI (pc' := 4) (L' := [(0, .ref a0)]) H hq (z_at.mk 3 rfl rfl) rfl (zIn_all (l := [60, 70]) (p := fun a => zQ a 13 2 0) rfl ha0) rfl rfl ?_
  intro V_1 hV_1
  rcases z_ite h with ⟨c_4, h⟩ | ⟨c_4, h⟩
  · refine r_t1 (pc' := 11) (L' := [(0, .ref a0)]) hq (z_at.mk 3 rfl rfl) rfl hV_1 c_4 rfl rfl ?_
    refine r_p hq 1 (pc' := 12) (L' := [(0, .ref a0)]) (st' := [.ref a0]) rfl ?_
    obtain ⟨o_12, h_12, h⟩ := Option.bind_eq_some_iff.mp h
    refine r_cvI (pc' := 15) (L' := [(0, .ref a0)]) (Ps := []) (rest := []) hq (z_at.mk 3 rfl rfl) (Or.inl ⟨rfl, rfl⟩) rfl rfl (by decide) (by decide) rfl (Nat.not_lt.mpr (Nat.le_of_ble_eq_true rfl)) rfl rfl (z_cat_le 0 rfl (by decide)) (z_lgl_le 1 rfl (by decide)) (by decide) (H.tg (zIn_all (l := [60, 70]) (p := fun a => zT a 13) rfl ha0)) (by omega) (g_fi_sumIsOver_ok (zIn_all (l := [60, 70]) (p := fun a => zIn [60, 70] a) rfl ha0) H h_12) rfl rfl ?_
    intro R_12 m_12 p_12 e_12 hR_12 H_12
    subst e_12
    rcases z_ite h with ⟨c_15, h⟩ | ⟨c_15, h⟩
    · refine r_t1 (pc' := 24) (L' := [(0, .ref a0)]) hq (z_at.mk 3 rfl rfl) rfl hR_12 c_15 rfl rfl ?_
      refine r_p hq 1 (pc' := 25) (L' := [(0, .ref a0)]) (st' := [.ref a0]) rfl ?_
      obtain ⟨o_25, h_25, h⟩ := Option.bind_eq_some_iff.mp h
      refine r_cvL (pc' := 28) (L' := [(0, .ref a0)]) (Ps := []) (rest := []) hq (z_at.mk 3 rfl rfl) (Or.inl ⟨rfl, rfl⟩) rfl rfl (by decide) (by decide) rfl (Nat.not_lt.mpr (Nat.le_of_ble_eq_true rfl)) rfl rfl (z_cat_le 0 rfl (by decide)) (z_lgl_le 1 rfl (by decide)) (by decide) (H_12.tg (zIn_all (l := [60, 70]) (p := fun a => zT a 13) rfl ha0)) (by omega) (g_fi_sum_ok (zIn_all (l := [60, 70]) (p := fun a => zIn [60, 70] a) rfl ha0) H_12 h_25) rfl rfl ?_
      intro R_25 m_25 p_25 e_25 hR_25 H_25
      subst e_25
      refine r_p hq 1 (pc' := 29) (L' := [(0, .ref a0)]) (st' := [.ref a0, .long R_25]) rfl ?_
      refine r_gI (pc' := 32) (L' := [(0, .ref a0)]) H_25 hq (z_at.mk 3 rfl rfl) rfl (zIn_all (l := [60, 70]) (p := fun a => zQ a 13 2 0) rfl ha0) rfl rfl ?_
      intro V_29 hV_29
      refine r_p hq 1 (pc' := 33) (L' := [(0, .ref a0)]) (st' := [.long V_29.toInt64, .long R_25]) rfl ?_
      obtain ⟨o_33, h_33, h⟩ := Option.bind_eq_some_iff.mp h
      refine r_csL (pc' := 36) (L' := []) (As := [.long R_25, .long V_29.toInt64]) (rest := []) (j := 288) hq (z_at.mk 3 rfl rfl) (Or.inl ⟨rfl, rfl⟩) rfl rfl (by omega) (g_jMath_floorDiv_ok hR_25 (tx_i2l hV_29) H_25 h_33) rfl rfl ?_
      intro R_33 m_33 p_33 e_33 hR_33 H_33
      subst e_33
      cases h
      exact r_rl hq (z_at.mk 1 rfl rfl) rfl hR_33 rfl H_33
    · refine r_f1 (pc' := 18) (L' := [(0, .ref a0)]) hq (z_at.mk 3 rfl rfl) rfl hR_12 c_15 rfl rfl ?_
      refine r_p hq 2 (pc' := 36) (L' := []) (st' := [.long ((-9223372036854775807 : Int64))]) rfl ?_
      cases h
      exact r_rl hq (z_at.mk 1 rfl rfl) rfl (rfl : (-9223372036854775807 : Int64).toInt = -9223372036854775807) rfl H_12
  · refine r_f1 (pc' := 7) (L' := [(0, .ref a0)]) hq (z_at.mk 3 rfl rfl) rfl hV_1 c_4 rfl rfl ?_
    refine r_p hq 1 (pc' := 10) (L' := [(0, .ref a0)]) (st' := [.long ((-9223372036854775808 : Int64))]) rfl ?_
    cases h
    exact r_rl hq (z_at.mk 1 rfl rfl) rfl (rfl : (-9223372036854775808 : Int64).toInt = -9223372036854775808) rfl H
