/-! THE METHODS over the typed memory, 6 (by wip/zg.py) -/
def g_wa_valueOf (x1 : Int) (σ : zS) : Option (Int × zS) :=
  (g_wa_has x1 σ).bind fun o_2 =>
  if o_2.1 ≠ 0 then
    if 0 ≤ x1 ∧ x1 < 6 then
    let v_23 := o_2.2 67 x1
    (g_so_rowsIn v_23 o_2.2).bind fun o_24 =>
    (g_fi_gather 70 o_24.1 o_24.2).bind fun o_27 =>
    if 0 ≤ x1 ∧ x1 < 6 then
    let v_39 := o_27.2 66 x1
    (g_fi_measured 70 v_39 o_27.2).bind fun o_40 =>
    some (o_40.1, o_40.2)
    else none
    else none
  else
    some (-9223372036854775808, o_2.2)
set_option maxHeartbeats 4000000 in
theorem g_wa_valueOf_ok {xl : Nat} {xs : Nat → Int32} {X1 : Int32} {x1 : Int} (hx1 : X1.toInt = x1) {σ : zS} {p : Nat} {m : zM} {o : Int × zS} (H : zRep xl xs p m σ) (h : g_wa_valueOf x1 σ = some o) : zGo xl xs (fun p' => p = p') 5 110 0 (z_can 110 0 (lv_args 0 [.ref 65, .int X1, .ref 41])) [] m (vL o.1) o.2 := by
  have hq : z_mth 110 = some z_r110 := rfl
  unfold g_wa_valueOf at h
  show zGo xl xs (fun p' => p = p') 5 110 0 [(0, .ref 65), (1, .int X1), (2, .ref 41)] [] m (vL o.1) o.2
  refine r_p hq 2 (pc' := 2) (L' := [(0, .ref 65), (1, .int X1), (2, .ref 41)]) (st' := [.int X1, .ref 65]) rfl ?_
  obtain ⟨o_2, h_2, h⟩ := Option.bind_eq_some_iff.mp h
  refine r_cvI (pc' := 5) (L' := [(0, .ref 65), (1, .int X1), (2, .ref 41)]) (Ps := [.int X1]) (rest := []) hq (z_at.mk 3 rfl rfl) (Or.inl ⟨rfl, rfl⟩) rfl rfl (by decide) (by decide) rfl (Nat.not_lt.mpr (Nat.le_of_ble_eq_true rfl)) rfl rfl (z_cat_le 0 rfl (by decide)) (z_lgl_le 2 rfl (by decide)) (by decide) (H.tg rfl) (by omega) (g_wa_has_ok hx1 H h_2) rfl rfl ?_
  intro R_2 m_2 p_2 e_2 hR_2 H_2
  subst e_2
  rcases z_ite h with ⟨c_5, h⟩ | ⟨c_5, h⟩
  · refine r_t1 (pc' := 12) (L' := [(0, .ref 65), (1, .int X1), (2, .ref 41)]) hq (z_at.mk 3 rfl rfl) rfl hR_2 c_5 rfl rfl ?_
    refine r_p hq 1 (pc' := 13) (L' := [(0, .ref 65), (1, .int X1), (2, .ref 41)]) (st' := [.ref 65]) rfl ?_
    refine r_gR (b := 70) (pc' := 16) (L' := [(0, .ref 65), (1, .int X1), (2, .ref 41)]) H_2 hq (z_at.mk 3 rfl rfl) rfl rfl rfl rfl ?_
    refine r_p hq 3 (pc' := 19) (L' := [(0, .ref 65), (1, .int X1), (2, .ref 41)]) (st' := [.ref 65, .ref 41, .ref 41, .ref 70]) rfl ?_
    refine r_gR (b := 67) (pc' := 22) (L' := [(0, .ref 65), (1, .int X1), (2, .ref 41)]) H_2 hq (z_at.mk 3 rfl rfl) rfl rfl rfl rfl ?_
    refine r_p hq 1 (pc' := 23) (L' := [(0, .ref 65), (1, .int X1), (2, .ref 41)]) (st' := [.int X1, .ref 67, .ref 41, .ref 41, .ref 70]) rfl ?_
    obtain ⟨g_23, h⟩ := z_ifo_some h
    refine r_ia (pc' := 24) (L' := [(0, .ref 65), (1, .int X1), (2, .ref 41)]) H_2 hq (z_at.mk 1 rfl rfl) (show zAr 67 0 6 = true from rfl) hx1 g_23 rfl rfl ?_
    intro V_23 hV_23
    obtain ⟨o_24, h_24, h⟩ := Option.bind_eq_some_iff.mp h
    refine r_cvL (pc' := 27) (L' := [(0, .ref 65), (1, .int X1), (2, .ref 41)]) (Ps := [.int V_23]) (rest := [.ref 41, .ref 70]) hq (z_at.mk 3 rfl rfl) (Or.inl ⟨rfl, rfl⟩) rfl rfl (by decide) (by decide) rfl (Nat.not_lt.mpr (Nat.le_of_ble_eq_true rfl)) rfl rfl (z_cat_le 2 rfl (by decide)) (z_lgl_le 2 rfl (by decide)) (by decide) (H_2.tg rfl) (by omega) (g_so_rowsIn_ok hV_23 H_2 h_24) rfl rfl ?_
    intro R_24 m_24 p_24 e_24 hR_24 H_24
    subst e_24
    obtain ⟨o_27, h_27, h⟩ := Option.bind_eq_some_iff.mp h
    refine r_cvV (pc' := 30) (L' := [(0, .ref 65), (1, .int X1), (2, .ref 41)]) (Ps := [.ref 41, .long R_24]) (rest := []) hq (z_at.mk 3 rfl rfl) (Or.inl ⟨rfl, rfl⟩) rfl rfl (by decide) (by decide) rfl (Nat.not_lt.mpr (Nat.le_of_ble_eq_true rfl)) rfl rfl (z_cat_le 0 rfl (by decide)) (z_lgl_le 4 rfl (by decide)) (by decide) (H_24.tg rfl) (by omega) (g_fi_gather_ok rfl hR_24 H_24 h_27) rfl rfl ?_
    intro m_27 p_27 e_27 H_27
    subst e_27
    refine r_p hq 1 (pc' := 31) (L' := [(0, .ref 65), (1, .int X1), (2, .ref 41)]) (st' := [.ref 65]) rfl ?_
    refine r_gR (b := 70) (pc' := 34) (L' := [(0, .ref 65), (1, .int X1), (2, .ref 41)]) H_27 hq (z_at.mk 3 rfl rfl) rfl rfl rfl rfl ?_
    refine r_p hq 1 (pc' := 35) (L' := [(0, .ref 65), (1, .int X1), (2, .ref 41)]) (st' := [.ref 65, .ref 70]) rfl ?_
    refine r_gR (b := 66) (pc' := 38) (L' := [(0, .ref 65), (1, .int X1), (2, .ref 41)]) H_27 hq (z_at.mk 3 rfl rfl) rfl rfl rfl rfl ?_
    refine r_p hq 1 (pc' := 39) (L' := [(0, .ref 65), (1, .int X1), (2, .ref 41)]) (st' := [.int X1, .ref 66, .ref 70]) rfl ?_
    obtain ⟨g_39, h⟩ := z_ifo_some h
    refine r_ia (pc' := 40) (L' := [(0, .ref 65), (1, .int X1), (2, .ref 41)]) H_27 hq (z_at.mk 1 rfl rfl) (show zAr 66 0 6 = true from rfl) hx1 g_39 rfl rfl ?_
    intro V_39 hV_39
    obtain ⟨o_40, h_40, h⟩ := Option.bind_eq_some_iff.mp h
    refine r_cvL (pc' := 43) (L' := [(0, .ref 65), (1, .int X1), (2, .ref 41)]) (Ps := [.int V_39]) (rest := []) hq (z_at.mk 3 rfl rfl) (Or.inl ⟨rfl, rfl⟩) rfl rfl (by decide) (by decide) rfl (Nat.not_lt.mpr (Nat.le_of_ble_eq_true rfl)) rfl rfl (z_cat_le 0 rfl (by decide)) (z_lgl_le 2 rfl (by decide)) (by decide) (H_27.tg rfl) (by omega) (g_fi_measured_ok rfl hV_39 H_27 h_40) rfl rfl ?_
    intro R_40 m_40 p_40 e_40 hR_40 H_40
    subst e_40
    cases h
    exact r_rl hq (z_at.mk 1 rfl rfl) rfl hR_40 rfl H_40
  · refine r_f1 (pc' := 8) (L' := [(0, .ref 65), (1, .int X1), (2, .ref 41)]) hq (z_at.mk 3 rfl rfl) rfl hR_2 c_5 rfl rfl ?_
    refine r_p hq 1 (pc' := 11) (L' := [(0, .ref 65), (1, .int X1), (2, .ref 41)]) (st' := [.long ((-9223372036854775808 : Int64))]) rfl ?_
    cases h
    exact r_rl hq (z_at.mk 1 rfl rfl) rfl (rfl : (-9223372036854775808 : Int64).toInt = -9223372036854775808) rfl H_2
def g_wa_remember_L2 : Nat → Int → zS → Option (Unit × zS)
  | 0, _, _ => none
  | n + 1, x2, σ =>
    let v_4 := σ 65 5
    if v_4 ≤ x2 then
      some ((), σ)
    else
      if 6 ≤ x2 then
        some ((), σ)
      else
        (g_wa_valueOf x2 σ).bind fun o_24 =>
        if 0 ≤ x2 ∧ x2 < 6 then
        let s_27 := zu o_24.2 69 x2 o_24.1
        (g_wa_remember_L2 n) (w32 (x2 + 1)) s_27
        else none
set_option maxHeartbeats 4000000 in
theorem g_wa_remember_L2_ok {xl : Nat} {xs : Nat → Int32} : ∀ (n : Nat) {X2 : Int32} {x2 : Int} {σ : zS} {p : Nat} {m : zM} {o : Unit × zS}, X2.toInt = x2 → zRep xl xs p m σ → g_wa_remember_L2 n x2 σ = some o → zGo xl xs (fun p' => p = p') 6 111 2 [(0, .ref 65), (1, .ref 41), (2, .int X2)] [] m vV o.2
  | 0, _, _, _, _, _, _, _, _, h => by cases h
  | n + 1, X2, x2, σ, p, m, o, hx2, H, h => by
    have hq : z_mth 111 = some z_r111 := rfl
    have ih := fun {X2 : Int32} {x2 : Int} {σ : zS} {p : Nat} {m : zM} {o : Unit × zS} => g_wa_remember_L2_ok (xl := xl) (xs := xs) n (X2 := X2) (x2 := x2) (σ := σ) (p := p) (m := m) (o := o)
    unfold g_wa_remember_L2 at h
    refine r_p hq 2 (pc' := 4) (L' := [(0, .ref 65), (1, .ref 41), (2, .int X2)]) (st' := [.ref 65, .int X2]) rfl ?_
    refine r_gI (pc' := 7) (L' := [(0, .ref 65), (1, .ref 41), (2, .int X2)]) H hq (z_at.mk 3 rfl rfl) rfl rfl rfl rfl ?_
    intro V_4 hV_4
    rcases z_ite h with ⟨c_7, h⟩ | ⟨c_7, h⟩
    · refine r_t2 (pc' := 34) (L' := []) hq (z_at.mk 3 rfl rfl) rfl hx2 hV_4 c_7 rfl rfl ?_
      cases h
      exact r_rv hq (z_at.mk 1 rfl rfl) rfl rfl H
    · refine r_f2 (pc' := 10) (L' := [(0, .ref 65), (1, .ref 41), (2, .int X2)]) hq (z_at.mk 3 rfl rfl) rfl hx2 hV_4 c_7 rfl rfl ?_
      refine r_p hq 2 (pc' := 13) (L' := [(0, .ref 65), (1, .ref 41), (2, .int X2)]) (st' := [.int ((6 : Int32)), .int X2]) rfl ?_
      rcases z_ite h with ⟨c_13, h⟩ | ⟨c_13, h⟩
      · refine r_t2 (pc' := 34) (L' := []) hq (z_at.mk 3 rfl rfl) rfl hx2 (rfl : (6 : Int32).toInt = 6) c_13 rfl rfl ?_
        cases h
        exact r_rv hq (z_at.mk 1 rfl rfl) rfl rfl H
      · refine r_f2 (pc' := 16) (L' := [(0, .ref 65), (1, .ref 41), (2, .int X2)]) hq (z_at.mk 3 rfl rfl) rfl hx2 (rfl : (6 : Int32).toInt = 6) c_13 rfl rfl ?_
        refine r_p hq 1 (pc' := 17) (L' := [(0, .ref 65), (1, .ref 41), (2, .int X2)]) (st' := [.ref 65]) rfl ?_
        refine r_gR (b := 69) (pc' := 20) (L' := [(0, .ref 65), (1, .ref 41), (2, .int X2)]) H hq (z_at.mk 3 rfl rfl) rfl rfl rfl rfl ?_
        refine r_p hq 4 (pc' := 24) (L' := [(0, .ref 65), (1, .ref 41), (2, .int X2)]) (st' := [.ref 41, .int X2, .ref 65, .int X2, .ref 69]) rfl ?_
        obtain ⟨o_24, h_24, h⟩ := Option.bind_eq_some_iff.mp h
        refine r_cvL (pc' := 27) (L' := [(0, .ref 65), (1, .ref 41), (2, .int X2)]) (Ps := [.int X2, .ref 41]) (rest := [.int X2, .ref 69]) hq (z_at.mk 3 rfl rfl) (Or.inl ⟨rfl, rfl⟩) rfl rfl (by decide) (by decide) rfl (Nat.not_lt.mpr (Nat.le_of_ble_eq_true rfl)) rfl rfl (z_cat_le 2 rfl (by decide)) (z_lgl_le 3 rfl (by decide)) (by decide) (H.tg rfl) (by omega) (g_wa_valueOf_ok hx2 H h_24) rfl rfl ?_
        intro R_24 m_24 p_24 e_24 hR_24 H_24
        subst e_24
        obtain ⟨g_27, h⟩ := z_ifo_some h
        refine r_ls (pc' := 28) (L' := [(0, .ref 65), (1, .ref 41), (2, .int X2)]) H_24 hq (z_at.mk 1 rfl rfl) (show zAr 69 1 6 = true from rfl) hx2 g_27 hR_24 rfl rfl ?_
        intro m_27 H_27
        refine r_p hq 2 (pc' := 2) (L' := [(0, .ref 65), (1, .ref 41), (2, .int (X2 + (1 : Int32)))]) (st' := []) rfl ?_
        exact ih (tx_iadd hx2 (rfl : (1 : Int32).toInt = 1)) H_27 h
def g_wa_remember (σ : zS) : Option (Unit × zS) :=
  g_wa_remember_L2 zK 0 σ
set_option maxHeartbeats 4000000 in
theorem g_wa_remember_ok {xl : Nat} {xs : Nat → Int32} {σ : zS} {p : Nat} {m : zM} {o : Unit × zS} (H : zRep xl xs p m σ) (h : g_wa_remember σ = some o) : zGo xl xs (fun p' => p = p') 6 111 0 (z_can 111 0 (lv_args 0 [.ref 65, .ref 41])) [] m vV o.2 := by
  have hq : z_mth 111 = some z_r111 := rfl
  unfold g_wa_remember at h
  show zGo xl xs (fun p' => p = p') 6 111 0 [(0, .ref 65), (1, .ref 41)] [] m vV o.2
  refine r_p hq 2 (pc' := 2) (L' := [(0, .ref 65), (1, .ref 41), (2, .int ((0 : Int32)))]) (st' := []) rfl ?_
  exact g_wa_remember_L2_ok zK (rfl : (0 : Int32).toInt = 0) H h
def g_wa_compare_L42 (g2 : Int → zS → Option (Unit × zS)) (x2 : Int) (σ : zS) : Option (Unit × zS) :=
  g2 (w32 (x2 + 1)) σ
set_option maxHeartbeats 4000000 in
theorem g_wa_compare_L42_ok {xl : Nat} {xs : Nat → Int32} {g2 : Int → zS → Option (Unit × zS)} (hg2 : ∀ {X2 : Int32} {x2 : Int} {σ : zS} {p : Nat} {m : zM} {o : Unit × zS}, X2.toInt = x2 → zRep xl xs p m σ → g2 x2 σ = some o → zGo xl xs (fun p' => p = p') 6 112 2 [(0, .ref 65), (1, .ref 41), (2, .int X2)] [] m vV o.2) {X2 : Int32} {x2 : Int} (hx2 : X2.toInt = x2) {σ : zS} {p : Nat} {m : zM} {o : Unit × zS} (H : zRep xl xs p m σ) (h : g_wa_compare_L42 g2 x2 σ = some o) : zGo xl xs (fun p' => p = p') 6 112 42 [(0, .ref 65), (1, .ref 41), (2, .int X2)] [] m vV o.2 := by
  have hq : z_mth 112 = some z_r112 := rfl
  unfold g_wa_compare_L42 at h
  refine r_p hq 2 (pc' := 2) (L' := [(0, .ref 65), (1, .ref 41), (2, .int (X2 + (1 : Int32)))]) (st' := []) rfl ?_
  exact hg2 (tx_iadd hx2 (rfl : (1 : Int32).toInt = 1)) H h
def g_wa_compare_L2 : Nat → Int → zS → Option (Unit × zS)
  | 0, _, _ => none
  | n + 1, x2, σ =>
    let v_4 := σ 65 5
    if v_4 ≤ x2 then
      some ((), σ)
    else
      if 6 ≤ x2 then
        some ((), σ)
      else
        (g_wa_valueOf x2 σ).bind fun o_19 =>
        if 0 ≤ x2 ∧ x2 < 6 then
        let v_27 := o_19.2 69 x2
        if lCmp o_19.1 v_27 = 0 then
          g_wa_compare_L42 ((g_wa_compare_L2 n)) x2 o_19.2
        else
          if 0 ≤ x2 ∧ x2 < 6 then
          let v_38 := o_19.2 68 x2
          if 0 ≤ x2 ∧ x2 < 6 then
          let s_41 := zu o_19.2 68 x2 (w32 (v_38 + 1))
          g_wa_compare_L42 ((g_wa_compare_L2 n)) x2 s_41
          else none
          else none
        else none
set_option maxHeartbeats 4000000 in
theorem g_wa_compare_L2_ok {xl : Nat} {xs : Nat → Int32} : ∀ (n : Nat) {X2 : Int32} {x2 : Int} {σ : zS} {p : Nat} {m : zM} {o : Unit × zS}, X2.toInt = x2 → zRep xl xs p m σ → g_wa_compare_L2 n x2 σ = some o → zGo xl xs (fun p' => p = p') 6 112 2 [(0, .ref 65), (1, .ref 41), (2, .int X2)] [] m vV o.2
  | 0, _, _, _, _, _, _, _, _, h => by cases h
  | n + 1, X2, x2, σ, p, m, o, hx2, H, h => by
    have hq : z_mth 112 = some z_r112 := rfl
    have ih := fun {X2 : Int32} {x2 : Int} {σ : zS} {p : Nat} {m : zM} {o : Unit × zS} => g_wa_compare_L2_ok (xl := xl) (xs := xs) n (X2 := X2) (x2 := x2) (σ := σ) (p := p) (m := m) (o := o)
    unfold g_wa_compare_L2 at h
    refine r_p hq 2 (pc' := 4) (L' := [(0, .ref 65), (1, .ref 41), (2, .int X2)]) (st' := [.ref 65, .int X2]) rfl ?_
    refine r_gI (pc' := 7) (L' := [(0, .ref 65), (1, .ref 41), (2, .int X2)]) H hq (z_at.mk 3 rfl rfl) rfl rfl rfl rfl ?_
    intro V_4 hV_4
    rcases z_ite h with ⟨c_7, h⟩ | ⟨c_7, h⟩
    · refine r_t2 (pc' := 48) (L' := []) hq (z_at.mk 3 rfl rfl) rfl hx2 hV_4 c_7 rfl rfl ?_
      cases h
      exact r_rv hq (z_at.mk 1 rfl rfl) rfl rfl H
    · refine r_f2 (pc' := 10) (L' := [(0, .ref 65), (1, .ref 41), (2, .int X2)]) hq (z_at.mk 3 rfl rfl) rfl hx2 hV_4 c_7 rfl rfl ?_
      refine r_p hq 2 (pc' := 13) (L' := [(0, .ref 65), (1, .ref 41), (2, .int X2)]) (st' := [.int ((6 : Int32)), .int X2]) rfl ?_
      rcases z_ite h with ⟨c_13, h⟩ | ⟨c_13, h⟩
      · refine r_t2 (pc' := 48) (L' := []) hq (z_at.mk 3 rfl rfl) rfl hx2 (rfl : (6 : Int32).toInt = 6) c_13 rfl rfl ?_
        cases h
        exact r_rv hq (z_at.mk 1 rfl rfl) rfl rfl H
      · refine r_f2 (pc' := 16) (L' := [(0, .ref 65), (1, .ref 41), (2, .int X2)]) hq (z_at.mk 3 rfl rfl) rfl hx2 (rfl : (6 : Int32).toInt = 6) c_13 rfl rfl ?_
        refine r_p hq 3 (pc' := 19) (L' := [(0, .ref 65), (1, .ref 41), (2, .int X2)]) (st' := [.ref 41, .int X2, .ref 65]) rfl ?_
        obtain ⟨o_19, h_19, h⟩ := Option.bind_eq_some_iff.mp h
        refine r_cvL (pc' := 22) (L' := [(0, .ref 65), (1, .ref 41), (2, .int X2)]) (Ps := [.int X2, .ref 41]) (rest := []) hq (z_at.mk 3 rfl rfl) (Or.inl ⟨rfl, rfl⟩) rfl rfl (by decide) (by decide) rfl (Nat.not_lt.mpr (Nat.le_of_ble_eq_true rfl)) rfl rfl (z_cat_le 0 rfl (by decide)) (z_lgl_le 3 rfl (by decide)) (by decide) (H.tg rfl) (by omega) (g_wa_valueOf_ok hx2 H h_19) rfl rfl ?_
        intro R_19 m_19 p_19 e_19 hR_19 H_19
        subst e_19
        refine r_p hq 1 (pc' := 23) (L' := [(0, .ref 65), (1, .ref 41), (2, .int X2)]) (st' := [.ref 65, .long R_19]) rfl ?_
        refine r_gR (b := 69) (pc' := 26) (L' := [(0, .ref 65), (1, .ref 41), (2, .int X2)]) H_19 hq (z_at.mk 3 rfl rfl) rfl rfl rfl rfl ?_
        refine r_p hq 1 (pc' := 27) (L' := [(0, .ref 65), (1, .ref 41), (2, .int X2)]) (st' := [.int X2, .ref 69, .long R_19]) rfl ?_
        obtain ⟨g_27, h⟩ := z_ifo_some h
        refine r_la (pc' := 28) (L' := [(0, .ref 65), (1, .ref 41), (2, .int X2)]) H_19 hq (z_at.mk 1 rfl rfl) (show zAr 69 1 6 = true from rfl) hx2 g_27 rfl rfl ?_
        intro V_27 hV_27
        refine r_p hq 1 (pc' := 29) (L' := [(0, .ref 65), (1, .ref 41), (2, .int X2)]) (st' := [.int (lg_cmp R_19 V_27)]) rfl ?_
        rcases z_ite h with ⟨c_29, h⟩ | ⟨c_29, h⟩
        · refine r_t1 (pc' := 42) (L' := [(0, .ref 65), (1, .ref 41), (2, .int X2)]) hq (z_at.mk 3 rfl rfl) rfl (tx_lcmp hR_19 hV_27) c_29 rfl rfl ?_
          exact g_wa_compare_L42_ok ih hx2 H_19 h
        · refine r_f1 (pc' := 32) (L' := [(0, .ref 65), (1, .ref 41), (2, .int X2)]) hq (z_at.mk 3 rfl rfl) rfl (tx_lcmp hR_19 hV_27) c_29 rfl rfl ?_
          refine r_p hq 1 (pc' := 33) (L' := [(0, .ref 65), (1, .ref 41), (2, .int X2)]) (st' := [.ref 65]) rfl ?_
          refine r_gR (b := 68) (pc' := 36) (L' := [(0, .ref 65), (1, .ref 41), (2, .int X2)]) H_19 hq (z_at.mk 3 rfl rfl) rfl rfl rfl rfl ?_
          refine r_p hq 2 (pc' := 38) (L' := [(0, .ref 65), (1, .ref 41), (2, .int X2)]) (st' := [.int X2, .ref 68, .int X2, .ref 68]) rfl ?_
          obtain ⟨g_38, h⟩ := z_ifo_some h
          refine r_ia (pc' := 39) (L' := [(0, .ref 65), (1, .ref 41), (2, .int X2)]) H_19 hq (z_at.mk 1 rfl rfl) (show zAr 68 0 6 = true from rfl) hx2 g_38 rfl rfl ?_
          intro V_38 hV_38
          refine r_p hq 2 (pc' := 41) (L' := [(0, .ref 65), (1, .ref 41), (2, .int X2)]) (st' := [.int (V_38 + ((1 : Int32))), .int X2, .ref 68]) rfl ?_
          obtain ⟨g_41, h⟩ := z_ifo_some h
          refine r_is (pc' := 42) (L' := [(0, .ref 65), (1, .ref 41), (2, .int X2)]) H_19 hq (z_at.mk 1 rfl rfl) (show zAr 68 0 6 = true from rfl) hx2 g_41 (tx_iadd hV_38 (rfl : (1 : Int32).toInt = 1)) rfl rfl ?_
          intro m_41 H_41
          exact g_wa_compare_L42_ok ih hx2 H_41 h
def g_wa_compare (σ : zS) : Option (Unit × zS) :=
  g_wa_compare_L2 zK 0 σ
set_option maxHeartbeats 4000000 in
theorem g_wa_compare_ok {xl : Nat} {xs : Nat → Int32} {σ : zS} {p : Nat} {m : zM} {o : Unit × zS} (H : zRep xl xs p m σ) (h : g_wa_compare σ = some o) : zGo xl xs (fun p' => p = p') 6 112 0 (z_can 112 0 (lv_args 0 [.ref 65, .ref 41])) [] m vV o.2 := by
  have hq : z_mth 112 = some z_r112 := rfl
  unfold g_wa_compare at h
  show zGo xl xs (fun p' => p = p') 6 112 0 [(0, .ref 65), (1, .ref 41)] [] m vV o.2
  refine r_p hq 2 (pc' := 2) (L' := [(0, .ref 65), (1, .ref 41), (2, .int ((0 : Int32)))]) (st' := []) rfl ?_
  exact g_wa_compare_L2_ok zK (rfl : (0 : Int32).toInt = 0) H h
def g_c_afterWrites (σ : zS) : Option (Int × zS) :=
  (g_ca_trim 48 σ).bind fun o_7 =>
  (g_wa_compare o_7.2).bind fun o_24 =>
  let v_34 := o_24.2 48 2
  some (v_34, o_24.2)
set_option maxHeartbeats 4000000 in
theorem g_c_afterWrites_ok {xl : Nat} {xs : Nat → Int32} {σ : zS} {p : Nat} {m : zM} {o : Int × zS} (H : zRep xl xs p m σ) (h : g_c_afterWrites σ = some o) : zGo xl xs (fun p' => p = p') 7 117 0 (z_can 117 0 (lv_args 0 [.ref 39])) [] m (vI o.1) o.2 := by
  have hq : z_mth 117 = some z_r117 := rfl
  unfold g_c_afterWrites at h
  show zGo xl xs (fun p' => p = p') 7 117 0 [(0, .ref 39)] [] m (vI o.1) o.2
  refine r_p hq 1 (pc' := 1) (L' := [(0, .ref 39)]) (st' := [.ref 39]) rfl ?_
  refine r_gR (b := 40) (pc' := 4) (L' := [(0, .ref 39)]) H hq (z_at.mk 3 rfl rfl) rfl rfl rfl rfl ?_
  refine r_gR (b := 48) (pc' := 7) (L' := [(0, .ref 39)]) H hq (z_at.mk 3 rfl rfl) rfl rfl rfl rfl ?_
  obtain ⟨o_7, h_7, h⟩ := Option.bind_eq_some_iff.mp h
  refine r_cvV (pc' := 10) (L' := [(0, .ref 39)]) (Ps := []) (rest := []) hq (z_at.mk 3 rfl rfl) (Or.inl ⟨rfl, rfl⟩) rfl rfl (by decide) (by decide) rfl (Nat.not_lt.mpr (Nat.le_of_ble_eq_true rfl)) rfl rfl (z_cat_le 0 rfl (by decide)) (z_lgl_le 1 rfl (by decide)) (by decide) (H.tg rfl) (by omega) (g_ca_trim_ok rfl H h_7) rfl rfl ?_
  intro m_7 p_7 e_7 H_7
  subst e_7
  refine r_p hq 1 (pc' := 11) (L' := [(0, .ref 39)]) (st' := [.ref 39]) rfl ?_
  refine r_gR (b := 40) (pc' := 14) (L' := [(0, .ref 39)]) H_7 hq (z_at.mk 3 rfl rfl) rfl rfl rfl rfl ?_
  refine r_gR (b := 65) (pc' := 17) (L' := [(0, .ref 39)]) H_7 hq (z_at.mk 3 rfl rfl) rfl rfl rfl rfl ?_
  refine r_p hq 1 (pc' := 18) (L' := [(0, .ref 39)]) (st' := [.ref 39, .ref 65]) rfl ?_
  refine r_gR (b := 40) (pc' := 21) (L' := [(0, .ref 39)]) H_7 hq (z_at.mk 3 rfl rfl) rfl rfl rfl rfl ?_
  refine r_gR (b := 41) (pc' := 24) (L' := [(0, .ref 39)]) H_7 hq (z_at.mk 3 rfl rfl) rfl rfl rfl rfl ?_
  obtain ⟨o_24, h_24, h⟩ := Option.bind_eq_some_iff.mp h
  refine r_cvV (pc' := 27) (L' := [(0, .ref 39)]) (Ps := [.ref 41]) (rest := []) hq (z_at.mk 3 rfl rfl) (Or.inl ⟨rfl, rfl⟩) rfl rfl (by decide) (by decide) rfl (Nat.not_lt.mpr (Nat.le_of_ble_eq_true rfl)) rfl rfl (z_cat_le 0 rfl (by decide)) (z_lgl_le 2 rfl (by decide)) (by decide) (H_7.tg rfl) (by omega) (g_wa_compare_ok H_7 h_24) rfl rfl ?_
  intro m_24 p_24 e_24 H_24
  subst e_24
  refine r_p hq 1 (pc' := 28) (L' := [(0, .ref 39)]) (st' := [.ref 39]) rfl ?_
  refine r_gR (b := 40) (pc' := 31) (L' := [(0, .ref 39)]) H_24 hq (z_at.mk 3 rfl rfl) rfl rfl rfl rfl ?_
  refine r_gR (b := 48) (pc' := 34) (L' := [(0, .ref 39)]) H_24 hq (z_at.mk 3 rfl rfl) rfl rfl rfl rfl ?_
  refine r_gI (pc' := 37) (L' := [(0, .ref 39)]) H_24 hq (z_at.mk 3 rfl rfl) rfl rfl rfl rfl ?_
  intro V_34 hV_34
  cases h
  exact r_ri hq (z_at.mk 1 rfl rfl) rfl rfl hV_34 rfl H_24
def g_c_put_L90 (x1 : Int) (x2 : Int) (x3 : Int) (y4 : Int) (σ : zS) : Option (Int × zS) :=
  (g_so_bringIn x1 x2 x3 y4 σ).bind fun o_102 =>
  (g_b_of x2 x2 x3 x3 o_102.2).bind fun o_116 =>
  (g_ca_write 48 o_116.1 o_116.2).bind fun o_119 =>
  (g_c_afterWrites o_119.2).bind fun o_123 =>
  some (o_123.1, o_123.2)
set_option maxHeartbeats 4000000 in
theorem g_c_put_L90_ok {xl : Nat} {xs : Nat → Int32} {X1 : Int32} {x1 : Int} (hx1 : X1.toInt = x1) {X2 : Int32} {x2 : Int} (hx2 : X2.toInt = x2) {X3 : Int32} {x3 : Int} (hx3 : X3.toInt = x3) {Y4 : Int64} {y4 : Int} (hy4 : Y4.toInt = y4) {σ : zS} {p : Nat} {m : zM} {o : Int × zS} (H : zRep xl xs p m σ) (h : g_c_put_L90 x1 x2 x3 y4 σ = some o) : zGo xl xs (fun p' => p = p') 8 115 90 [(0, .ref 39), (1, .int X1), (2, .int X2), (3, .int X3), (4, .long Y4)] [] m (vI o.1) o.2 := by
  have hq : z_mth 115 = some z_r115 := rfl
  unfold g_c_put_L90 at h
  refine r_p hq 1 (pc' := 91) (L' := [(0, .ref 39), (1, .int X1), (2, .int X2), (3, .int X3), (4, .long Y4)]) (st' := [.ref 39]) rfl ?_
  refine r_gR (b := 40) (pc' := 94) (L' := [(0, .ref 39), (1, .int X1), (2, .int X2), (3, .int X3), (4, .long Y4)]) H hq (z_at.mk 3 rfl rfl) rfl rfl rfl rfl ?_
  refine r_gR (b := 41) (pc' := 97) (L' := [(0, .ref 39), (1, .int X1), (2, .int X2), (3, .int X3), (4, .long Y4)]) H hq (z_at.mk 3 rfl rfl) rfl rfl rfl rfl ?_
  refine r_p hq 4 (pc' := 102) (L' := [(0, .ref 39), (1, .int X1), (2, .int X2), (3, .int X3), (4, .long Y4)]) (st' := [.long Y4, .int X3, .int X2, .int X1, .ref 41]) rfl ?_
  obtain ⟨o_102, h_102, h⟩ := Option.bind_eq_some_iff.mp h
  refine r_cvV (pc' := 105) (L' := [(0, .ref 39), (1, .int X1), (2, .int X2), (3, .int X3), (4, .long Y4)]) (Ps := [.int X1, .int X2, .int X3, .long Y4]) (rest := []) hq (z_at.mk 3 rfl rfl) (Or.inl ⟨rfl, rfl⟩) rfl rfl (by decide) (by decide) rfl (Nat.not_lt.mpr (Nat.le_of_ble_eq_true rfl)) rfl rfl (z_cat_le 0 rfl (by decide)) (z_lgl_le 6 rfl (by decide)) (by decide) (H.tg rfl) (by omega) (g_so_bringIn_ok hx1 hx2 hx3 hy4 H h_102) rfl rfl ?_
  intro m_102 p_102 e_102 H_102
  subst e_102
  refine r_p hq 1 (pc' := 106) (L' := [(0, .ref 39), (1, .int X1), (2, .int X2), (3, .int X3), (4, .long Y4)]) (st' := [.ref 39]) rfl ?_
  refine r_gR (b := 40) (pc' := 109) (L' := [(0, .ref 39), (1, .int X1), (2, .int X2), (3, .int X3), (4, .long Y4)]) H_102 hq (z_at.mk 3 rfl rfl) rfl rfl rfl rfl ?_
  refine r_gR (b := 48) (pc' := 112) (L' := [(0, .ref 39), (1, .int X1), (2, .int X2), (3, .int X3), (4, .long Y4)]) H_102 hq (z_at.mk 3 rfl rfl) rfl rfl rfl rfl ?_
  refine r_p hq 4 (pc' := 116) (L' := [(0, .ref 39), (1, .int X1), (2, .int X2), (3, .int X3), (4, .long Y4)]) (st' := [.int X3, .int X3, .int X2, .int X2, .ref 48]) rfl ?_
  obtain ⟨o_116, h_116, h⟩ := Option.bind_eq_some_iff.mp h
  refine r_csI (pc' := 119) (L' := [(0, .ref 39), (1, .int X1), (2, .int X2), (3, .int X3), (4, .long Y4)]) (As := [.int X2, .int X2, .int X3, .int X3]) (rest := [.ref 48]) (j := 2) hq (z_at.mk 3 rfl rfl) (Or.inl ⟨rfl, rfl⟩) rfl rfl (by omega) (g_b_of_ok hx2 hx2 hx3 hx3 H_102 h_116) rfl rfl ?_
  intro R_116 m_116 p_116 e_116 hR_116 H_116
  subst e_116
  obtain ⟨o_119, h_119, h⟩ := Option.bind_eq_some_iff.mp h
  refine r_cvV (pc' := 122) (L' := [(0, .ref 39), (1, .int X1), (2, .int X2), (3, .int X3), (4, .long Y4)]) (Ps := [.int R_116]) (rest := []) hq (z_at.mk 3 rfl rfl) (Or.inl ⟨rfl, rfl⟩) rfl rfl (by decide) (by decide) rfl (Nat.not_lt.mpr (Nat.le_of_ble_eq_true rfl)) rfl rfl (z_cat_le 0 rfl (by decide)) (z_lgl_le 2 rfl (by decide)) (by decide) (H_116.tg rfl) (by omega) (g_ca_write_ok rfl hR_116 H_116 h_119) rfl rfl ?_
  intro m_119 p_119 e_119 H_119
  subst e_119
  refine r_p hq 1 (pc' := 123) (L' := [(0, .ref 39), (1, .int X1), (2, .int X2), (3, .int X3), (4, .long Y4)]) (st' := [.ref 39]) rfl ?_
  obtain ⟨o_123, h_123, h⟩ := Option.bind_eq_some_iff.mp h
  refine r_cvI (pc' := 126) (L' := [(0, .ref 39), (1, .int X1), (2, .int X2), (3, .int X3), (4, .long Y4)]) (Ps := []) (rest := []) hq (z_at.mk 3 rfl rfl) (Or.inl ⟨rfl, rfl⟩) rfl rfl (by decide) (by decide) rfl (Nat.not_lt.mpr (Nat.le_of_ble_eq_true rfl)) rfl rfl (z_cat_le 0 rfl (by decide)) (z_lgl_le 1 rfl (by decide)) (by decide) (H_119.tg rfl) (by omega) (g_c_afterWrites_ok H_119 h_123) rfl rfl ?_
  intro R_123 m_123 p_123 e_123 hR_123 H_123
  subst e_123
  cases h
  exact r_ri hq (z_at.mk 1 rfl rfl) rfl rfl hR_123 rfl H_123
def g_c_put (x1 : Int) (x2 : Int) (x3 : Int) (y4 : Int) (σ : zS) : Option (Int × zS) :=
  (g_so_isRow x1 σ).bind fun o_1 =>
  if o_1.1 ≠ 0 then
    (g_b_isPlace x2 x3 o_1.2).bind fun o_11 =>
    if o_11.1 = 0 then
      some (-2, o_11.2)
    else
      if lCmp y4 (-9223372036854775808) = 0 then
        some (-2, o_11.2)
      else
        if lCmp y4 (-9223372036854775807) ≠ 0 then
          (g_wa_remember o_11.2).bind fun o_52 =>
          (g_so_isIn x1 o_52.2).bind fun o_63 =>
          if o_63.1 = 0 then
            g_c_put_L90 x1 x2 x3 y4 o_63.2
          else
            (g_so_bringOut x1 o_63.2).bind fun o_84 =>
            (g_ca_write 48 o_84.1 o_84.2).bind fun o_87 =>
            g_c_put_L90 x1 x2 x3 y4 o_87.2
        else
          some (-2, o_11.2)
  else
    some (-1, o_1.2)
set_option maxHeartbeats 4000000 in
theorem g_c_put_ok {xl : Nat} {xs : Nat → Int32} {X1 : Int32} {x1 : Int} (hx1 : X1.toInt = x1) {X2 : Int32} {x2 : Int} (hx2 : X2.toInt = x2) {X3 : Int32} {x3 : Int} (hx3 : X3.toInt = x3) {Y4 : Int64} {y4 : Int} (hy4 : Y4.toInt = y4) {σ : zS} {p : Nat} {m : zM} {o : Int × zS} (H : zRep xl xs p m σ) (h : g_c_put x1 x2 x3 y4 σ = some o) : zGo xl xs (fun p' => p = p') 8 115 0 (z_can 115 0 (lv_args 0 [.ref 39, .int X1, .int X2, .int X3, .long Y4])) [] m (vI o.1) o.2 := by
  have hq : z_mth 115 = some z_r115 := rfl
  unfold g_c_put at h
  show zGo xl xs (fun p' => p = p') 8 115 0 [(0, .ref 39), (1, .int X1), (2, .int X2), (3, .int X3), (4, .long Y4)] [] m (vI o.1) o.2
  refine r_p hq 1 (pc' := 1) (L' := [(0, .ref 39), (1, .int X1), (2, .int X2), (3, .int X3), (4, .long Y4)]) (st' := [.int X1]) rfl ?_
  obtain ⟨o_1, h_1, h⟩ := Option.bind_eq_some_iff.mp h
  refine r_csI (pc' := 4) (L' := [(0, .ref 39), (1, .int X1), (2, .int X2), (3, .int X3), (4, .long Y4)]) (As := [.int X1]) (rest := []) (j := 80) hq (z_at.mk 3 rfl rfl) (Or.inl ⟨rfl, rfl⟩) rfl rfl (by omega) (g_so_isRow_ok hx1 H h_1) rfl rfl ?_
  intro R_1 m_1 p_1 e_1 hR_1 H_1
  subst e_1
  rcases z_ite h with ⟨c_4, h⟩ | ⟨c_4, h⟩
  · refine r_t1 (pc' := 9) (L' := [(0, .ref 39), (1, .int X1), (2, .int X2), (3, .int X3), (4, .long Y4)]) hq (z_at.mk 3 rfl rfl) rfl hR_1 c_4 rfl rfl ?_
    refine r_p hq 2 (pc' := 11) (L' := [(0, .ref 39), (1, .int X1), (2, .int X2), (3, .int X3), (4, .long Y4)]) (st' := [.int X3, .int X2]) rfl ?_
    obtain ⟨o_11, h_11, h⟩ := Option.bind_eq_some_iff.mp h
    refine r_csI (pc' := 14) (L' := [(0, .ref 39), (1, .int X1), (2, .int X2), (3, .int X3), (4, .long Y4)]) (As := [.int X2, .int X3]) (rest := []) (j := 0) hq (z_at.mk 3 rfl rfl) (Or.inl ⟨rfl, rfl⟩) rfl rfl (by omega) (g_b_isPlace_ok hx2 hx3 H_1 h_11) rfl rfl ?_
    intro R_11 m_11 p_11 e_11 hR_11 H_11
    subst e_11
    rcases z_ite h with ⟨c_14, h⟩ | ⟨c_14, h⟩
    · refine r_t1 (pc' := 35) (L' := []) hq (z_at.mk 3 rfl rfl) rfl hR_11 c_14 rfl rfl ?_
      refine r_p hq 1 (pc' := 37) (L' := []) (st' := [.int ((-2 : Int32))]) rfl ?_
      cases h
      exact r_ri hq (z_at.mk 1 rfl rfl) rfl rfl (rfl : (-2 : Int32).toInt = -2) rfl H_11
    · refine r_f1 (pc' := 17) (L' := [(0, .ref 39), (1, .int X1), (2, .int X2), (3, .int X3), (4, .long Y4)]) hq (z_at.mk 3 rfl rfl) rfl hR_11 c_14 rfl rfl ?_
      refine r_p hq 3 (pc' := 23) (L' := [(0, .ref 39), (1, .int X1), (2, .int X2), (3, .int X3), (4, .long Y4)]) (st' := [.int (lg_cmp Y4 ((-9223372036854775808 : Int64)))]) rfl ?_
      rcases z_ite h with ⟨c_23, h⟩ | ⟨c_23, h⟩
      · refine r_t1 (pc' := 35) (L' := []) hq (z_at.mk 3 rfl rfl) rfl (tx_lcmp hy4 (rfl : (-9223372036854775808 : Int64).toInt = -9223372036854775808)) c_23 rfl rfl ?_
        refine r_p hq 1 (pc' := 37) (L' := []) (st' := [.int ((-2 : Int32))]) rfl ?_
        cases h
        exact r_ri hq (z_at.mk 1 rfl rfl) rfl rfl (rfl : (-2 : Int32).toInt = -2) rfl H_11
      · refine r_f1 (pc' := 26) (L' := [(0, .ref 39), (1, .int X1), (2, .int X2), (3, .int X3), (4, .long Y4)]) hq (z_at.mk 3 rfl rfl) rfl (tx_lcmp hy4 (rfl : (-9223372036854775808 : Int64).toInt = -9223372036854775808)) c_23 rfl rfl ?_
        refine r_p hq 3 (pc' := 32) (L' := [(0, .ref 39), (1, .int X1), (2, .int X2), (3, .int X3), (4, .long Y4)]) (st' := [.int (lg_cmp Y4 ((-9223372036854775807 : Int64)))]) rfl ?_
        rcases z_ite h with ⟨c_32, h⟩ | ⟨c_32, h⟩
        · refine r_t1 (pc' := 38) (L' := [(0, .ref 39), (1, .int X1), (2, .int X2), (3, .int X3), (4, .long Y4)]) hq (z_at.mk 3 rfl rfl) rfl (tx_lcmp hy4 (rfl : (-9223372036854775807 : Int64).toInt = -9223372036854775807)) c_32 rfl rfl ?_
          refine r_p hq 1 (pc' := 39) (L' := [(0, .ref 39), (1, .int X1), (2, .int X2), (3, .int X3), (4, .long Y4)]) (st' := [.ref 39]) rfl ?_
          refine r_gR (b := 40) (pc' := 42) (L' := [(0, .ref 39), (1, .int X1), (2, .int X2), (3, .int X3), (4, .long Y4)]) H_11 hq (z_at.mk 3 rfl rfl) rfl rfl rfl rfl ?_
          refine r_gR (b := 65) (pc' := 45) (L' := [(0, .ref 39), (1, .int X1), (2, .int X2), (3, .int X3), (4, .long Y4)]) H_11 hq (z_at.mk 3 rfl rfl) rfl rfl rfl rfl ?_
          refine r_p hq 1 (pc' := 46) (L' := [(0, .ref 39), (1, .int X1), (2, .int X2), (3, .int X3), (4, .long Y4)]) (st' := [.ref 39, .ref 65]) rfl ?_
          refine r_gR (b := 40) (pc' := 49) (L' := [(0, .ref 39), (1, .int X1), (2, .int X2), (3, .int X3), (4, .long Y4)]) H_11 hq (z_at.mk 3 rfl rfl) rfl rfl rfl rfl ?_
          refine r_gR (b := 41) (pc' := 52) (L' := [(0, .ref 39), (1, .int X1), (2, .int X2), (3, .int X3), (4, .long Y4)]) H_11 hq (z_at.mk 3 rfl rfl) rfl rfl rfl rfl ?_
          obtain ⟨o_52, h_52, h⟩ := Option.bind_eq_some_iff.mp h
          refine r_cvV (pc' := 55) (L' := [(0, .ref 39), (1, .int X1), (2, .int X2), (3, .int X3), (4, .long Y4)]) (Ps := [.ref 41]) (rest := []) hq (z_at.mk 3 rfl rfl) (Or.inl ⟨rfl, rfl⟩) rfl rfl (by decide) (by decide) rfl (Nat.not_lt.mpr (Nat.le_of_ble_eq_true rfl)) rfl rfl (z_cat_le 0 rfl (by decide)) (z_lgl_le 2 rfl (by decide)) (by decide) (H_11.tg rfl) (by omega) (g_wa_remember_ok H_11 h_52) rfl rfl ?_
          intro m_52 p_52 e_52 H_52
          subst e_52
          refine r_p hq 1 (pc' := 56) (L' := [(0, .ref 39), (1, .int X1), (2, .int X2), (3, .int X3), (4, .long Y4)]) (st' := [.ref 39]) rfl ?_
          refine r_gR (b := 40) (pc' := 59) (L' := [(0, .ref 39), (1, .int X1), (2, .int X2), (3, .int X3), (4, .long Y4)]) H_52 hq (z_at.mk 3 rfl rfl) rfl rfl rfl rfl ?_
          refine r_gR (b := 41) (pc' := 62) (L' := [(0, .ref 39), (1, .int X1), (2, .int X2), (3, .int X3), (4, .long Y4)]) H_52 hq (z_at.mk 3 rfl rfl) rfl rfl rfl rfl ?_
          refine r_p hq 1 (pc' := 63) (L' := [(0, .ref 39), (1, .int X1), (2, .int X2), (3, .int X3), (4, .long Y4)]) (st' := [.int X1, .ref 41]) rfl ?_
          obtain ⟨o_63, h_63, h⟩ := Option.bind_eq_some_iff.mp h
          refine r_cvI (pc' := 66) (L' := [(0, .ref 39), (1, .int X1), (2, .int X2), (3, .int X3), (4, .long Y4)]) (Ps := [.int X1]) (rest := []) hq (z_at.mk 3 rfl rfl) (Or.inl ⟨rfl, rfl⟩) rfl rfl (by decide) (by decide) rfl (Nat.not_lt.mpr (Nat.le_of_ble_eq_true rfl)) rfl rfl (z_cat_le 0 rfl (by decide)) (z_lgl_le 2 rfl (by decide)) (by decide) (H_52.tg rfl) (by omega) (g_so_isIn_ok hx1 H_52 h_63) rfl rfl ?_
          intro R_63 m_63 p_63 e_63 hR_63 H_63
          subst e_63
          rcases z_ite h with ⟨c_66, h⟩ | ⟨c_66, h⟩
          · refine r_t1 (pc' := 90) (L' := [(0, .ref 39), (1, .int X1), (2, .int X2), (3, .int X3), (4, .long Y4)]) hq (z_at.mk 3 rfl rfl) rfl hR_63 c_66 rfl rfl ?_
            exact g_c_put_L90_ok hx1 hx2 hx3 hy4 H_63 h
          · refine r_f1 (pc' := 69) (L' := [(0, .ref 39), (1, .int X1), (2, .int X2), (3, .int X3), (4, .long Y4)]) hq (z_at.mk 3 rfl rfl) rfl hR_63 c_66 rfl rfl ?_
            refine r_p hq 1 (pc' := 70) (L' := [(0, .ref 39), (1, .int X1), (2, .int X2), (3, .int X3), (4, .long Y4)]) (st' := [.ref 39]) rfl ?_
            refine r_gR (b := 40) (pc' := 73) (L' := [(0, .ref 39), (1, .int X1), (2, .int X2), (3, .int X3), (4, .long Y4)]) H_63 hq (z_at.mk 3 rfl rfl) rfl rfl rfl rfl ?_
            refine r_gR (b := 48) (pc' := 76) (L' := [(0, .ref 39), (1, .int X1), (2, .int X2), (3, .int X3), (4, .long Y4)]) H_63 hq (z_at.mk 3 rfl rfl) rfl rfl rfl rfl ?_
            refine r_p hq 1 (pc' := 77) (L' := [(0, .ref 39), (1, .int X1), (2, .int X2), (3, .int X3), (4, .long Y4)]) (st' := [.ref 39, .ref 48]) rfl ?_
            refine r_gR (b := 40) (pc' := 80) (L' := [(0, .ref 39), (1, .int X1), (2, .int X2), (3, .int X3), (4, .long Y4)]) H_63 hq (z_at.mk 3 rfl rfl) rfl rfl rfl rfl ?_
            refine r_gR (b := 41) (pc' := 83) (L' := [(0, .ref 39), (1, .int X1), (2, .int X2), (3, .int X3), (4, .long Y4)]) H_63 hq (z_at.mk 3 rfl rfl) rfl rfl rfl rfl ?_
            refine r_p hq 1 (pc' := 84) (L' := [(0, .ref 39), (1, .int X1), (2, .int X2), (3, .int X3), (4, .long Y4)]) (st' := [.int X1, .ref 41, .ref 48]) rfl ?_
            obtain ⟨o_84, h_84, h⟩ := Option.bind_eq_some_iff.mp h
            refine r_cvI (pc' := 87) (L' := [(0, .ref 39), (1, .int X1), (2, .int X2), (3, .int X3), (4, .long Y4)]) (Ps := [.int X1]) (rest := [.ref 48]) hq (z_at.mk 3 rfl rfl) (Or.inl ⟨rfl, rfl⟩) rfl rfl (by decide) (by decide) rfl (Nat.not_lt.mpr (Nat.le_of_ble_eq_true rfl)) rfl rfl (z_cat_le 1 rfl (by decide)) (z_lgl_le 2 rfl (by decide)) (by decide) (H_63.tg rfl) (by omega) (g_so_bringOut_ok hx1 H_63 h_84) rfl rfl ?_
            intro R_84 m_84 p_84 e_84 hR_84 H_84
            subst e_84
            obtain ⟨o_87, h_87, h⟩ := Option.bind_eq_some_iff.mp h
            refine r_cvV (pc' := 90) (L' := [(0, .ref 39), (1, .int X1), (2, .int X2), (3, .int X3), (4, .long Y4)]) (Ps := [.int R_84]) (rest := []) hq (z_at.mk 3 rfl rfl) (Or.inl ⟨rfl, rfl⟩) rfl rfl (by decide) (by decide) rfl (Nat.not_lt.mpr (Nat.le_of_ble_eq_true rfl)) rfl rfl (z_cat_le 0 rfl (by decide)) (z_lgl_le 2 rfl (by decide)) (by decide) (H_84.tg rfl) (by omega) (g_ca_write_ok rfl hR_84 H_84 h_87) rfl rfl ?_
            intro m_87 p_87 e_87 H_87
            subst e_87
            exact g_c_put_L90_ok hx1 hx2 hx3 hy4 H_87 h
        · refine r_f1 (pc' := 35) (L' := []) hq (z_at.mk 3 rfl rfl) rfl (tx_lcmp hy4 (rfl : (-9223372036854775807 : Int64).toInt = -9223372036854775807)) c_32 rfl rfl ?_
          refine r_p hq 1 (pc' := 37) (L' := []) (st' := [.int ((-2 : Int32))]) rfl ?_
          cases h
          exact r_ri hq (z_at.mk 1 rfl rfl) rfl rfl (rfl : (-2 : Int32).toInt = -2) rfl H_11
  · refine r_f1 (pc' := 7) (L' := [(0, .ref 39), (1, .int X1), (2, .int X2), (3, .int X3), (4, .long Y4)]) hq (z_at.mk 3 rfl rfl) rfl hR_1 c_4 rfl rfl ?_
    refine r_p hq 1 (pc' := 8) (L' := [(0, .ref 39), (1, .int X1), (2, .int X2), (3, .int X3), (4, .long Y4)]) (st' := [.int ((-1 : Int32))]) rfl ?_
    cases h
    exact r_ri hq (z_at.mk 1 rfl rfl) rfl rfl (rfl : (-1 : Int32).toInt = -1) rfl H_1
def g_c_take (x1 : Int) (σ : zS) : Option (Int × zS) :=
  (g_so_isRow x1 σ).bind fun o_1 =>
  if o_1.1 ≠ 0 then
    (g_so_isIn x1 o_1.2).bind fun o_17 =>
    if o_17.1 ≠ 0 then
      (g_wa_remember o_17.2).bind fun o_40 =>
      (g_so_bringOut x1 o_40.2).bind fun o_58 =>
      (g_ca_write 48 o_58.1 o_58.2).bind fun o_61 =>
      (g_c_afterWrites o_61.2).bind fun o_65 =>
      some (o_65.1, o_65.2)
    else
      some (-3, o_17.2)
  else
    some (-1, o_1.2)
set_option maxHeartbeats 4000000 in
theorem g_c_take_ok {xl : Nat} {xs : Nat → Int32} {X1 : Int32} {x1 : Int} (hx1 : X1.toInt = x1) {σ : zS} {p : Nat} {m : zM} {o : Int × zS} (H : zRep xl xs p m σ) (h : g_c_take x1 σ = some o) : zGo xl xs (fun p' => p = p') 8 116 0 (z_can 116 0 (lv_args 0 [.ref 39, .int X1])) [] m (vI o.1) o.2 := by
  have hq : z_mth 116 = some z_r116 := rfl
  unfold g_c_take at h
  show zGo xl xs (fun p' => p = p') 8 116 0 [(0, .ref 39), (1, .int X1)] [] m (vI o.1) o.2
  refine r_p hq 1 (pc' := 1) (L' := [(0, .ref 39), (1, .int X1)]) (st' := [.int X1]) rfl ?_
  obtain ⟨o_1, h_1, h⟩ := Option.bind_eq_some_iff.mp h
  refine r_csI (pc' := 4) (L' := [(0, .ref 39), (1, .int X1)]) (As := [.int X1]) (rest := []) (j := 80) hq (z_at.mk 3 rfl rfl) (Or.inl ⟨rfl, rfl⟩) rfl rfl (by omega) (g_so_isRow_ok hx1 H h_1) rfl rfl ?_
  intro R_1 m_1 p_1 e_1 hR_1 H_1
  subst e_1
  rcases z_ite h with ⟨c_4, h⟩ | ⟨c_4, h⟩
  · refine r_t1 (pc' := 9) (L' := [(0, .ref 39), (1, .int X1)]) hq (z_at.mk 3 rfl rfl) rfl hR_1 c_4 rfl rfl ?_
    refine r_p hq 1 (pc' := 10) (L' := [(0, .ref 39), (1, .int X1)]) (st' := [.ref 39]) rfl ?_
    refine r_gR (b := 40) (pc' := 13) (L' := [(0, .ref 39), (1, .int X1)]) H_1 hq (z_at.mk 3 rfl rfl) rfl rfl rfl rfl ?_
    refine r_gR (b := 41) (pc' := 16) (L' := [(0, .ref 39), (1, .int X1)]) H_1 hq (z_at.mk 3 rfl rfl) rfl rfl rfl rfl ?_
    refine r_p hq 1 (pc' := 17) (L' := [(0, .ref 39), (1, .int X1)]) (st' := [.int X1, .ref 41]) rfl ?_
    obtain ⟨o_17, h_17, h⟩ := Option.bind_eq_some_iff.mp h
    refine r_cvI (pc' := 20) (L' := [(0, .ref 39), (1, .int X1)]) (Ps := [.int X1]) (rest := []) hq (z_at.mk 3 rfl rfl) (Or.inl ⟨rfl, rfl⟩) rfl rfl (by decide) (by decide) rfl (Nat.not_lt.mpr (Nat.le_of_ble_eq_true rfl)) rfl rfl (z_cat_le 0 rfl (by decide)) (z_lgl_le 2 rfl (by decide)) (by decide) (H_1.tg rfl) (by omega) (g_so_isIn_ok hx1 H_1 h_17) rfl rfl ?_
    intro R_17 m_17 p_17 e_17 hR_17 H_17
    subst e_17
    rcases z_ite h with ⟨c_20, h⟩ | ⟨c_20, h⟩
    · refine r_t1 (pc' := 26) (L' := [(0, .ref 39), (1, .int X1)]) hq (z_at.mk 3 rfl rfl) rfl hR_17 c_20 rfl rfl ?_
      refine r_p hq 1 (pc' := 27) (L' := [(0, .ref 39), (1, .int X1)]) (st' := [.ref 39]) rfl ?_
      refine r_gR (b := 40) (pc' := 30) (L' := [(0, .ref 39), (1, .int X1)]) H_17 hq (z_at.mk 3 rfl rfl) rfl rfl rfl rfl ?_
      refine r_gR (b := 65) (pc' := 33) (L' := [(0, .ref 39), (1, .int X1)]) H_17 hq (z_at.mk 3 rfl rfl) rfl rfl rfl rfl ?_
      refine r_p hq 1 (pc' := 34) (L' := [(0, .ref 39), (1, .int X1)]) (st' := [.ref 39, .ref 65]) rfl ?_
      refine r_gR (b := 40) (pc' := 37) (L' := [(0, .ref 39), (1, .int X1)]) H_17 hq (z_at.mk 3 rfl rfl) rfl rfl rfl rfl ?_
      refine r_gR (b := 41) (pc' := 40) (L' := [(0, .ref 39), (1, .int X1)]) H_17 hq (z_at.mk 3 rfl rfl) rfl rfl rfl rfl ?_
      obtain ⟨o_40, h_40, h⟩ := Option.bind_eq_some_iff.mp h
      refine r_cvV (pc' := 43) (L' := [(0, .ref 39), (1, .int X1)]) (Ps := [.ref 41]) (rest := []) hq (z_at.mk 3 rfl rfl) (Or.inl ⟨rfl, rfl⟩) rfl rfl (by decide) (by decide) rfl (Nat.not_lt.mpr (Nat.le_of_ble_eq_true rfl)) rfl rfl (z_cat_le 0 rfl (by decide)) (z_lgl_le 2 rfl (by decide)) (by decide) (H_17.tg rfl) (by omega) (g_wa_remember_ok H_17 h_40) rfl rfl ?_
      intro m_40 p_40 e_40 H_40
      subst e_40
      refine r_p hq 1 (pc' := 44) (L' := [(0, .ref 39), (1, .int X1)]) (st' := [.ref 39]) rfl ?_
      refine r_gR (b := 40) (pc' := 47) (L' := [(0, .ref 39), (1, .int X1)]) H_40 hq (z_at.mk 3 rfl rfl) rfl rfl rfl rfl ?_
      refine r_gR (b := 48) (pc' := 50) (L' := [(0, .ref 39), (1, .int X1)]) H_40 hq (z_at.mk 3 rfl rfl) rfl rfl rfl rfl ?_
      refine r_p hq 1 (pc' := 51) (L' := [(0, .ref 39), (1, .int X1)]) (st' := [.ref 39, .ref 48]) rfl ?_
      refine r_gR (b := 40) (pc' := 54) (L' := [(0, .ref 39), (1, .int X1)]) H_40 hq (z_at.mk 3 rfl rfl) rfl rfl rfl rfl ?_
      refine r_gR (b := 41) (pc' := 57) (L' := [(0, .ref 39), (1, .int X1)]) H_40 hq (z_at.mk 3 rfl rfl) rfl rfl rfl rfl ?_
      refine r_p hq 1 (pc' := 58) (L' := [(0, .ref 39), (1, .int X1)]) (st' := [.int X1, .ref 41, .ref 48]) rfl ?_
      obtain ⟨o_58, h_58, h⟩ := Option.bind_eq_some_iff.mp h
      refine r_cvI (pc' := 61) (L' := [(0, .ref 39), (1, .int X1)]) (Ps := [.int X1]) (rest := [.ref 48]) hq (z_at.mk 3 rfl rfl) (Or.inl ⟨rfl, rfl⟩) rfl rfl (by decide) (by decide) rfl (Nat.not_lt.mpr (Nat.le_of_ble_eq_true rfl)) rfl rfl (z_cat_le 1 rfl (by decide)) (z_lgl_le 2 rfl (by decide)) (by decide) (H_40.tg rfl) (by omega) (g_so_bringOut_ok hx1 H_40 h_58) rfl rfl ?_
      intro R_58 m_58 p_58 e_58 hR_58 H_58
      subst e_58
      obtain ⟨o_61, h_61, h⟩ := Option.bind_eq_some_iff.mp h
      refine r_cvV (pc' := 64) (L' := [(0, .ref 39), (1, .int X1)]) (Ps := [.int R_58]) (rest := []) hq (z_at.mk 3 rfl rfl) (Or.inl ⟨rfl, rfl⟩) rfl rfl (by decide) (by decide) rfl (Nat.not_lt.mpr (Nat.le_of_ble_eq_true rfl)) rfl rfl (z_cat_le 0 rfl (by decide)) (z_lgl_le 2 rfl (by decide)) (by decide) (H_58.tg rfl) (by omega) (g_ca_write_ok rfl hR_58 H_58 h_61) rfl rfl ?_
      intro m_61 p_61 e_61 H_61
      subst e_61
      refine r_p hq 1 (pc' := 65) (L' := [(0, .ref 39), (1, .int X1)]) (st' := [.ref 39]) rfl ?_
      obtain ⟨o_65, h_65, h⟩ := Option.bind_eq_some_iff.mp h
      refine r_cvI (pc' := 68) (L' := [(0, .ref 39), (1, .int X1)]) (Ps := []) (rest := []) hq (z_at.mk 3 rfl rfl) (Or.inl ⟨rfl, rfl⟩) rfl rfl (by decide) (by decide) rfl (Nat.not_lt.mpr (Nat.le_of_ble_eq_true rfl)) rfl rfl (z_cat_le 0 rfl (by decide)) (z_lgl_le 1 rfl (by decide)) (by decide) (H_61.tg rfl) (by omega) (g_c_afterWrites_ok H_61 h_65) rfl rfl ?_
      intro R_65 m_65 p_65 e_65 hR_65 H_65
      subst e_65
      cases h
      exact r_ri hq (z_at.mk 1 rfl rfl) rfl rfl hR_65 rfl H_65
    · refine r_f1 (pc' := 23) (L' := [(0, .ref 39), (1, .int X1)]) hq (z_at.mk 3 rfl rfl) rfl hR_17 c_20 rfl rfl ?_
      refine r_p hq 1 (pc' := 25) (L' := [(0, .ref 39), (1, .int X1)]) (st' := [.int ((-3 : Int32))]) rfl ?_
      cases h
      exact r_ri hq (z_at.mk 1 rfl rfl) rfl rfl (rfl : (-3 : Int32).toInt = -3) rfl H_17
  · refine r_f1 (pc' := 7) (L' := [(0, .ref 39), (1, .int X1)]) hq (z_at.mk 3 rfl rfl) rfl hR_1 c_4 rfl rfl ?_
    refine r_p hq 1 (pc' := 8) (L' := [(0, .ref 39), (1, .int X1)]) (st' := [.int ((-1 : Int32))]) rfl ?_
    cases h
    exact r_ri hq (z_at.mk 1 rfl rfl) rfl rfl (rfl : (-1 : Int32).toInt = -1) rfl H_1
def g_c_row (x1 : Int) (x2 : Int) (σ : zS) : Option (Int × zS) :=
  (g_so_isRow x1 σ).bind fun o_1 =>
  if o_1.1 = 0 then
    some (-1, o_1.2)
  else
    if x2 < 0 then
      some (-1, o_1.2)
    else
      if x2 ≤ 1 then
        (g_so_isIn x1 o_1.2).bind fun o_26 =>
        if o_26.1 ≠ 0 then
          if x2 ≠ 0 then
            if 0 ≤ x1 ∧ x1 < 60 then
            let v_65 := o_26.2 43 x1
            some (v_65, o_26.2)
            else none
          else
            if 0 ≤ x1 ∧ x1 < 60 then
            let v_50 := o_26.2 42 x1
            some (v_50, o_26.2)
            else none
        else
          some (-3, o_26.2)
      else
        some (-1, o_1.2)
set_option maxHeartbeats 4000000 in
theorem g_c_row_ok {xl : Nat} {xs : Nat → Int32} {X1 : Int32} {x1 : Int} (hx1 : X1.toInt = x1) {X2 : Int32} {x2 : Int} (hx2 : X2.toInt = x2) {σ : zS} {p : Nat} {m : zM} {o : Int × zS} (H : zRep xl xs p m σ) (h : g_c_row x1 x2 σ = some o) : zGo xl xs (fun p' => p = p') 3 118 0 (z_can 118 0 (lv_args 0 [.ref 39, .int X1, .int X2])) [] m (vI o.1) o.2 := by
  have hq : z_mth 118 = some z_r118 := rfl
  unfold g_c_row at h
  show zGo xl xs (fun p' => p = p') 3 118 0 [(0, .ref 39), (1, .int X1), (2, .int X2)] [] m (vI o.1) o.2
  refine r_p hq 1 (pc' := 1) (L' := [(0, .ref 39), (1, .int X1), (2, .int X2)]) (st' := [.int X1]) rfl ?_
  obtain ⟨o_1, h_1, h⟩ := Option.bind_eq_some_iff.mp h
  refine r_csI (pc' := 4) (L' := [(0, .ref 39), (1, .int X1), (2, .int X2)]) (As := [.int X1]) (rest := []) (j := 80) hq (z_at.mk 3 rfl rfl) (Or.inl ⟨rfl, rfl⟩) rfl rfl (by omega) (g_so_isRow_ok hx1 H h_1) rfl rfl ?_
  intro R_1 m_1 p_1 e_1 hR_1 H_1
  subst e_1
  rcases z_ite h with ⟨c_4, h⟩ | ⟨c_4, h⟩
  · refine r_t1 (pc' := 16) (L' := []) hq (z_at.mk 3 rfl rfl) rfl hR_1 c_4 rfl rfl ?_
    refine r_p hq 1 (pc' := 17) (L' := []) (st' := [.int ((-1 : Int32))]) rfl ?_
    cases h
    exact r_ri hq (z_at.mk 1 rfl rfl) rfl rfl (rfl : (-1 : Int32).toInt = -1) rfl H_1
  · refine r_f1 (pc' := 7) (L' := [(0, .ref 39), (1, .int X1), (2, .int X2)]) hq (z_at.mk 3 rfl rfl) rfl hR_1 c_4 rfl rfl ?_
    refine r_p hq 1 (pc' := 8) (L' := [(0, .ref 39), (1, .int X1), (2, .int X2)]) (st' := [.int X2]) rfl ?_
    rcases z_ite h with ⟨c_8, h⟩ | ⟨c_8, h⟩
    · refine r_t1 (pc' := 16) (L' := []) hq (z_at.mk 3 rfl rfl) rfl hx2 c_8 rfl rfl ?_
      refine r_p hq 1 (pc' := 17) (L' := []) (st' := [.int ((-1 : Int32))]) rfl ?_
      cases h
      exact r_ri hq (z_at.mk 1 rfl rfl) rfl rfl (rfl : (-1 : Int32).toInt = -1) rfl H_1
    · refine r_f1 (pc' := 11) (L' := [(0, .ref 39), (1, .int X1), (2, .int X2)]) hq (z_at.mk 3 rfl rfl) rfl hx2 c_8 rfl rfl ?_
      refine r_p hq 2 (pc' := 13) (L' := [(0, .ref 39), (1, .int X1), (2, .int X2)]) (st' := [.int ((1 : Int32)), .int X2]) rfl ?_
      rcases z_ite h with ⟨c_13, h⟩ | ⟨c_13, h⟩
      · refine r_t2 (pc' := 18) (L' := [(0, .ref 39), (1, .int X1), (2, .int X2)]) hq (z_at.mk 3 rfl rfl) rfl hx2 (rfl : (1 : Int32).toInt = 1) c_13 rfl rfl ?_
        refine r_p hq 1 (pc' := 19) (L' := [(0, .ref 39), (1, .int X1), (2, .int X2)]) (st' := [.ref 39]) rfl ?_
        refine r_gR (b := 40) (pc' := 22) (L' := [(0, .ref 39), (1, .int X1), (2, .int X2)]) H_1 hq (z_at.mk 3 rfl rfl) rfl rfl rfl rfl ?_
        refine r_gR (b := 41) (pc' := 25) (L' := [(0, .ref 39), (1, .int X1), (2, .int X2)]) H_1 hq (z_at.mk 3 rfl rfl) rfl rfl rfl rfl ?_
        refine r_p hq 1 (pc' := 26) (L' := [(0, .ref 39), (1, .int X1), (2, .int X2)]) (st' := [.int X1, .ref 41]) rfl ?_
        obtain ⟨o_26, h_26, h⟩ := Option.bind_eq_some_iff.mp h
        refine r_cvI (pc' := 29) (L' := [(0, .ref 39), (1, .int X1), (2, .int X2)]) (Ps := [.int X1]) (rest := []) hq (z_at.mk 3 rfl rfl) (Or.inl ⟨rfl, rfl⟩) rfl rfl (by decide) (by decide) rfl (Nat.not_lt.mpr (Nat.le_of_ble_eq_true rfl)) rfl rfl (z_cat_le 0 rfl (by decide)) (z_lgl_le 2 rfl (by decide)) (by decide) (H_1.tg rfl) (by omega) (g_so_isIn_ok hx1 H_1 h_26) rfl rfl ?_
        intro R_26 m_26 p_26 e_26 hR_26 H_26
        subst e_26
        rcases z_ite h with ⟨c_29, h⟩ | ⟨c_29, h⟩
        · refine r_t1 (pc' := 35) (L' := [(0, .ref 39), (1, .int X1), (2, .int X2)]) hq (z_at.mk 3 rfl rfl) rfl hR_26 c_29 rfl rfl ?_
          refine r_p hq 1 (pc' := 36) (L' := [(0, .ref 39), (1, .int X1), (2, .int X2)]) (st' := [.int X2]) rfl ?_
          rcases z_ite h with ⟨c_36, h⟩ | ⟨c_36, h⟩
          · refine r_t1 (pc' := 54) (L' := [(0, .ref 39), (1, .int X1), (2, .int X2)]) hq (z_at.mk 3 rfl rfl) rfl hx2 c_36 rfl rfl ?_
            refine r_p hq 1 (pc' := 55) (L' := [(0, .ref 39), (1, .int X1), (2, .int X2)]) (st' := [.ref 39]) rfl ?_
            refine r_gR (b := 40) (pc' := 58) (L' := [(0, .ref 39), (1, .int X1), (2, .int X2)]) H_26 hq (z_at.mk 3 rfl rfl) rfl rfl rfl rfl ?_
            refine r_gR (b := 41) (pc' := 61) (L' := [(0, .ref 39), (1, .int X1), (2, .int X2)]) H_26 hq (z_at.mk 3 rfl rfl) rfl rfl rfl rfl ?_
            refine r_gR (b := 43) (pc' := 64) (L' := [(0, .ref 39), (1, .int X1), (2, .int X2)]) H_26 hq (z_at.mk 3 rfl rfl) rfl rfl rfl rfl ?_
            refine r_p hq 1 (pc' := 65) (L' := [(0, .ref 39), (1, .int X1), (2, .int X2)]) (st' := [.int X1, .ref 43]) rfl ?_
            obtain ⟨g_65, h⟩ := z_ifo_some h
            refine r_ia (pc' := 66) (L' := []) H_26 hq (z_at.mk 1 rfl rfl) (show zAr 43 0 60 = true from rfl) hx1 g_65 rfl rfl ?_
            intro V_65 hV_65
            cases h
            exact r_ri hq (z_at.mk 1 rfl rfl) rfl rfl hV_65 rfl H_26
          · refine r_f1 (pc' := 39) (L' := [(0, .ref 39), (1, .int X1), (2, .int X2)]) hq (z_at.mk 3 rfl rfl) rfl hx2 c_36 rfl rfl ?_
            refine r_p hq 1 (pc' := 40) (L' := [(0, .ref 39), (1, .int X1), (2, .int X2)]) (st' := [.ref 39]) rfl ?_
            refine r_gR (b := 40) (pc' := 43) (L' := [(0, .ref 39), (1, .int X1), (2, .int X2)]) H_26 hq (z_at.mk 3 rfl rfl) rfl rfl rfl rfl ?_
            refine r_gR (b := 41) (pc' := 46) (L' := [(0, .ref 39), (1, .int X1), (2, .int X2)]) H_26 hq (z_at.mk 3 rfl rfl) rfl rfl rfl rfl ?_
            refine r_gR (b := 42) (pc' := 49) (L' := [(0, .ref 39), (1, .int X1), (2, .int X2)]) H_26 hq (z_at.mk 3 rfl rfl) rfl rfl rfl rfl ?_
            refine r_p hq 1 (pc' := 50) (L' := [(0, .ref 39), (1, .int X1), (2, .int X2)]) (st' := [.int X1, .ref 42]) rfl ?_
            obtain ⟨g_50, h⟩ := z_ifo_some h
            refine r_ia (pc' := 51) (L' := [(0, .ref 39), (1, .int X1), (2, .int X2)]) H_26 hq (z_at.mk 1 rfl rfl) (show zAr 42 0 60 = true from rfl) hx1 g_50 rfl rfl ?_
            intro V_50 hV_50
            refine r_p hq 1 (pc' := 66) (L' := []) (st' := [.int V_50]) rfl ?_
            cases h
            exact r_ri hq (z_at.mk 1 rfl rfl) rfl rfl hV_50 rfl H_26
        · refine r_f1 (pc' := 32) (L' := [(0, .ref 39), (1, .int X1), (2, .int X2)]) hq (z_at.mk 3 rfl rfl) rfl hR_26 c_29 rfl rfl ?_
          refine r_p hq 1 (pc' := 34) (L' := [(0, .ref 39), (1, .int X1), (2, .int X2)]) (st' := [.int ((-3 : Int32))]) rfl ?_
          cases h
          exact r_ri hq (z_at.mk 1 rfl rfl) rfl rfl (rfl : (-3 : Int32).toInt = -3) rfl H_26
      · refine r_f2 (pc' := 16) (L' := []) hq (z_at.mk 3 rfl rfl) rfl hx2 (rfl : (1 : Int32).toInt = 1) c_13 rfl rfl ?_
        refine r_p hq 1 (pc' := 17) (L' := []) (st' := [.int ((-1 : Int32))]) rfl ?_
        cases h
        exact r_ri hq (z_at.mk 1 rfl rfl) rfl rfl (rfl : (-1 : Int32).toInt = -1) rfl H_1
def g_c_worth (x1 : Int) (σ : zS) : Option (Int × zS) :=
  (g_so_isIn x1 σ).bind fun o_8 =>
  if o_8.1 = 0 then
    some (-9223372036854775808, o_8.2)
  else
    if 0 ≤ x1 ∧ x1 < 60 then
    let v_25 := o_8.2 44 x1
    some (v_25, o_8.2)
    else none
set_option maxHeartbeats 4000000 in
theorem g_c_worth_ok {xl : Nat} {xs : Nat → Int32} {X1 : Int32} {x1 : Int} (hx1 : X1.toInt = x1) {σ : zS} {p : Nat} {m : zM} {o : Int × zS} (H : zRep xl xs p m σ) (h : g_c_worth x1 σ = some o) : zGo xl xs (fun p' => p = p') 3 119 0 (z_can 119 0 (lv_args 0 [.ref 39, .int X1])) [] m (vL o.1) o.2 := by
  have hq : z_mth 119 = some z_r119 := rfl
  unfold g_c_worth at h
  show zGo xl xs (fun p' => p = p') 3 119 0 [(0, .ref 39), (1, .int X1)] [] m (vL o.1) o.2
  refine r_p hq 1 (pc' := 1) (L' := [(0, .ref 39), (1, .int X1)]) (st' := [.ref 39]) rfl ?_
  refine r_gR (b := 40) (pc' := 4) (L' := [(0, .ref 39), (1, .int X1)]) H hq (z_at.mk 3 rfl rfl) rfl rfl rfl rfl ?_
  refine r_gR (b := 41) (pc' := 7) (L' := [(0, .ref 39), (1, .int X1)]) H hq (z_at.mk 3 rfl rfl) rfl rfl rfl rfl ?_
  refine r_p hq 1 (pc' := 8) (L' := [(0, .ref 39), (1, .int X1)]) (st' := [.int X1, .ref 41]) rfl ?_
  obtain ⟨o_8, h_8, h⟩ := Option.bind_eq_some_iff.mp h
  refine r_cvI (pc' := 11) (L' := [(0, .ref 39), (1, .int X1)]) (Ps := [.int X1]) (rest := []) hq (z_at.mk 3 rfl rfl) (Or.inl ⟨rfl, rfl⟩) rfl rfl (by decide) (by decide) rfl (Nat.not_lt.mpr (Nat.le_of_ble_eq_true rfl)) rfl rfl (z_cat_le 0 rfl (by decide)) (z_lgl_le 2 rfl (by decide)) (by decide) (H.tg rfl) (by omega) (g_so_isIn_ok hx1 H h_8) rfl rfl ?_
  intro R_8 m_8 p_8 e_8 hR_8 H_8
  subst e_8
  rcases z_ite h with ⟨c_11, h⟩ | ⟨c_11, h⟩
  · refine r_t1 (pc' := 29) (L' := [(0, .ref 39), (1, .int X1)]) hq (z_at.mk 3 rfl rfl) rfl hR_8 c_11 rfl rfl ?_
    refine r_p hq 1 (pc' := 32) (L' := []) (st' := [.long ((-9223372036854775808 : Int64))]) rfl ?_
    cases h
    exact r_rl hq (z_at.mk 1 rfl rfl) rfl (rfl : (-9223372036854775808 : Int64).toInt = -9223372036854775808) rfl H_8
  · refine r_f1 (pc' := 14) (L' := [(0, .ref 39), (1, .int X1)]) hq (z_at.mk 3 rfl rfl) rfl hR_8 c_11 rfl rfl ?_
    refine r_p hq 1 (pc' := 15) (L' := [(0, .ref 39), (1, .int X1)]) (st' := [.ref 39]) rfl ?_
    refine r_gR (b := 40) (pc' := 18) (L' := [(0, .ref 39), (1, .int X1)]) H_8 hq (z_at.mk 3 rfl rfl) rfl rfl rfl rfl ?_
    refine r_gR (b := 41) (pc' := 21) (L' := [(0, .ref 39), (1, .int X1)]) H_8 hq (z_at.mk 3 rfl rfl) rfl rfl rfl rfl ?_
    refine r_gR (b := 44) (pc' := 24) (L' := [(0, .ref 39), (1, .int X1)]) H_8 hq (z_at.mk 3 rfl rfl) rfl rfl rfl rfl ?_
    refine r_p hq 1 (pc' := 25) (L' := [(0, .ref 39), (1, .int X1)]) (st' := [.int X1, .ref 44]) rfl ?_
    obtain ⟨g_25, h⟩ := z_ifo_some h
    refine r_la (pc' := 26) (L' := [(0, .ref 39), (1, .int X1)]) H_8 hq (z_at.mk 1 rfl rfl) (show zAr 44 1 60 = true from rfl) hx1 g_25 rfl rfl ?_
    intro V_25 hV_25
    refine r_p hq 1 (pc' := 32) (L' := []) (st' := [.long V_25]) rfl ?_
    cases h
    exact r_rl hq (z_at.mk 1 rfl rfl) rfl hV_25 rfl H_8
def g_c_feed (x1 : Int) (σ : zS) : Option (Int × zS) :=
  if x1 < 1 then
    some (-2, σ)
  else
    if x1 ≤ 127 then
      (g_ta_append x1 σ).bind fun o_19 =>
      if o_19.1 = 0 then
        some (-4, o_19.2)
      else
        let v_29 := o_19.2 120 1
        some (v_29, o_19.2)
    else
      some (-2, σ)
set_option maxHeartbeats 4000000 in
theorem g_c_feed_ok {xl : Nat} {xs : Nat → Int32} {X1 : Int32} {x1 : Int} (hx1 : X1.toInt = x1) {σ : zS} {p : Nat} {m : zM} {o : Int × zS} (H : zRep xl xs p m σ) (h : g_c_feed x1 σ = some o) : zGo xl xs (fun p' => p = p') 2 120 0 (z_can 120 0 (lv_args 0 [.ref 39, .int X1])) [] m (vI o.1) o.2 := by
  have hq : z_mth 120 = some z_r120 := rfl
  unfold g_c_feed at h
  show zGo xl xs (fun p' => p = p') 2 120 0 [(0, .ref 39), (1, .int X1)] [] m (vI o.1) o.2
  refine r_p hq 2 (pc' := 2) (L' := [(0, .ref 39), (1, .int X1)]) (st' := [.int ((1 : Int32)), .int X1]) rfl ?_
  rcases z_ite h with ⟨c_2, h⟩ | ⟨c_2, h⟩
  · refine r_t2 (pc' := 11) (L' := []) hq (z_at.mk 3 rfl rfl) rfl hx1 (rfl : (1 : Int32).toInt = 1) c_2 rfl rfl ?_
    refine r_p hq 1 (pc' := 13) (L' := []) (st' := [.int ((-2 : Int32))]) rfl ?_
    cases h
    exact r_ri hq (z_at.mk 1 rfl rfl) rfl rfl (rfl : (-2 : Int32).toInt = -2) rfl H
  · refine r_f2 (pc' := 5) (L' := [(0, .ref 39), (1, .int X1)]) hq (z_at.mk 3 rfl rfl) rfl hx1 (rfl : (1 : Int32).toInt = 1) c_2 rfl rfl ?_
    refine r_p hq 2 (pc' := 8) (L' := [(0, .ref 39), (1, .int X1)]) (st' := [.int ((127 : Int32)), .int X1]) rfl ?_
    rcases z_ite h with ⟨c_8, h⟩ | ⟨c_8, h⟩
    · refine r_t2 (pc' := 14) (L' := [(0, .ref 39), (1, .int X1)]) hq (z_at.mk 3 rfl rfl) rfl hx1 (rfl : (127 : Int32).toInt = 127) c_8 rfl rfl ?_
      refine r_p hq 1 (pc' := 15) (L' := [(0, .ref 39), (1, .int X1)]) (st' := [.ref 39]) rfl ?_
      refine r_gR (b := 120) (pc' := 18) (L' := [(0, .ref 39), (1, .int X1)]) H hq (z_at.mk 3 rfl rfl) rfl rfl rfl rfl ?_
      refine r_p hq 1 (pc' := 19) (L' := [(0, .ref 39), (1, .int X1)]) (st' := [.int X1, .ref 120]) rfl ?_
      obtain ⟨o_19, h_19, h⟩ := Option.bind_eq_some_iff.mp h
      refine r_cvI (pc' := 22) (L' := [(0, .ref 39), (1, .int X1)]) (Ps := [.int X1]) (rest := []) hq (z_at.mk 3 rfl rfl) (Or.inl ⟨rfl, rfl⟩) rfl rfl (by decide) (by decide) rfl (Nat.not_lt.mpr (Nat.le_of_ble_eq_true rfl)) rfl rfl (z_cat_le 0 rfl (by decide)) (z_lgl_le 2 rfl (by decide)) (by decide) (H.tg rfl) (by omega) (g_ta_append_ok hx1 H h_19) rfl rfl ?_
      intro R_19 m_19 p_19 e_19 hR_19 H_19
      subst e_19
      rcases z_ite h with ⟨c_22, h⟩ | ⟨c_22, h⟩
      · refine r_t1 (pc' := 35) (L' := [(0, .ref 39), (1, .int X1)]) hq (z_at.mk 3 rfl rfl) rfl hR_19 c_22 rfl rfl ?_
        refine r_p hq 1 (pc' := 37) (L' := []) (st' := [.int ((-4 : Int32))]) rfl ?_
        cases h
        exact r_ri hq (z_at.mk 1 rfl rfl) rfl rfl (rfl : (-4 : Int32).toInt = -4) rfl H_19
      · refine r_f1 (pc' := 25) (L' := [(0, .ref 39), (1, .int X1)]) hq (z_at.mk 3 rfl rfl) rfl hR_19 c_22 rfl rfl ?_
        refine r_p hq 1 (pc' := 26) (L' := [(0, .ref 39), (1, .int X1)]) (st' := [.ref 39]) rfl ?_
        refine r_gR (b := 120) (pc' := 29) (L' := [(0, .ref 39), (1, .int X1)]) H_19 hq (z_at.mk 3 rfl rfl) rfl rfl rfl rfl ?_
        refine r_gI (pc' := 32) (L' := [(0, .ref 39), (1, .int X1)]) H_19 hq (z_at.mk 3 rfl rfl) rfl rfl rfl rfl ?_
        intro V_29 hV_29
        refine r_p hq 1 (pc' := 37) (L' := []) (st' := [.int V_29]) rfl ?_
        cases h
        exact r_ri hq (z_at.mk 1 rfl rfl) rfl rfl hV_29 rfl H_19
    · refine r_f2 (pc' := 11) (L' := []) hq (z_at.mk 3 rfl rfl) rfl hx1 (rfl : (127 : Int32).toInt = 127) c_8 rfl rfl ?_
      refine r_p hq 1 (pc' := 13) (L' := []) (st' := [.int ((-2 : Int32))]) rfl ?_
      cases h
      exact r_ri hq (z_at.mk 1 rfl rfl) rfl rfl (rfl : (-2 : Int32).toInt = -2) rfl H
def g_c_clear (σ : zS) : Option (Int × zS) :=
  let v_4 := σ 120 1
  let s_13 := zu σ 120 1 0
  some (v_4, s_13)
set_option maxHeartbeats 4000000 in
theorem g_c_clear_ok {xl : Nat} {xs : Nat → Int32} {σ : zS} {p : Nat} {m : zM} {o : Int × zS} (H : zRep xl xs p m σ) (h : g_c_clear σ = some o) : zGo xl xs (fun p' => p = p') 1 121 0 (z_can 121 0 (lv_args 0 [.ref 39])) [] m (vI o.1) o.2 := by
  have hq : z_mth 121 = some z_r121 := rfl
  unfold g_c_clear at h
  show zGo xl xs (fun p' => p = p') 1 121 0 [(0, .ref 39)] [] m (vI o.1) o.2
  refine r_p hq 1 (pc' := 1) (L' := [(0, .ref 39)]) (st' := [.ref 39]) rfl ?_
  refine r_gR (b := 120) (pc' := 4) (L' := [(0, .ref 39)]) H hq (z_at.mk 3 rfl rfl) rfl rfl rfl rfl ?_
  refine r_gI (pc' := 7) (L' := [(0, .ref 39)]) H hq (z_at.mk 3 rfl rfl) rfl rfl rfl rfl ?_
  intro V_4 hV_4
  refine r_p hq 2 (pc' := 9) (L' := [(1, .int V_4), (0, .ref 39)]) (st' := [.ref 39]) rfl ?_
  refine r_gR (b := 120) (pc' := 12) (L' := [(1, .int V_4), (0, .ref 39)]) H hq (z_at.mk 3 rfl rfl) rfl rfl rfl rfl ?_
  refine r_p hq 1 (pc' := 13) (L' := [(1, .int V_4), (0, .ref 39)]) (st' := [.int ((0 : Int32)), .ref 120]) rfl ?_
  refine r_pI (X := (0 : Int32)) (pc' := 16) (L' := [(1, .int V_4), (0, .ref 39)]) H hq (z_at.mk 3 rfl rfl) rfl rfl (rfl : (0 : Int32).toInt = 0) (by decide) rfl rfl rfl rfl ?_
  intro m_13 H_13
  refine r_p hq 1 (pc' := 17) (L' := [(1, .int V_4), (0, .ref 39)]) (st' := [.int V_4]) rfl ?_
  cases h
  exact r_ri hq (z_at.mk 1 rfl rfl) rfl rfl hV_4 rfl H_13
def g_c_settings_L73 (x1 : Int) (σ : zS) : Option (Int × zS) :=
  (g_ta_end x1 σ).bind fun o_78 =>
  some (o_78.1, o_78.2)
set_option maxHeartbeats 4000000 in
theorem g_c_settings_L73_ok {xl : Nat} {xs : Nat → Int32} {X1 : Int32} {x1 : Int} (hx1 : X1.toInt = x1) {σ : zS} {p : Nat} {m : zM} {o : Int × zS} (H : zRep xl xs p m σ) (h : g_c_settings_L73 x1 σ = some o) : zGo xl xs (fun p' => p = p') 7 122 73 [(0, .ref 39), (1, .int X1)] [] m (vI o.1) o.2 := by
  have hq : z_mth 122 = some z_r122 := rfl
  unfold g_c_settings_L73 at h
  refine r_p hq 1 (pc' := 74) (L' := [(0, .ref 39), (1, .int X1)]) (st' := [.ref 39]) rfl ?_
  refine r_gR (b := 120) (pc' := 77) (L' := [(0, .ref 39), (1, .int X1)]) H hq (z_at.mk 3 rfl rfl) rfl rfl rfl rfl ?_
  refine r_p hq 1 (pc' := 78) (L' := [(0, .ref 39), (1, .int X1)]) (st' := [.int X1, .ref 120]) rfl ?_
  obtain ⟨o_78, h_78, h⟩ := Option.bind_eq_some_iff.mp h
  refine r_cvI (pc' := 81) (L' := [(0, .ref 39), (1, .int X1)]) (Ps := [.int X1]) (rest := []) hq (z_at.mk 3 rfl rfl) (Or.inl ⟨rfl, rfl⟩) rfl rfl (by decide) (by decide) rfl (Nat.not_lt.mpr (Nat.le_of_ble_eq_true rfl)) rfl rfl (z_cat_le 0 rfl (by decide)) (z_lgl_le 2 rfl (by decide)) (by decide) (H.tg rfl) (by omega) (g_ta_end_ok hx1 H h_78) rfl rfl ?_
  intro R_78 m_78 p_78 e_78 hR_78 H_78
  subst e_78
  cases h
  exact r_ri hq (z_at.mk 1 rfl rfl) rfl rfl hR_78 rfl H_78
def g_c_settings (σ : zS) : Option (Int × zS) :=
  (g_ta_begin σ).bind fun o_4 =>
  (g_se_copyFrom 118 49 o_4.2).bind fun o_21 =>
  (g_se_readParts o_21.2).bind fun o_32 =>
  (g_ta_isSound o_32.2).bind fun o_40 =>
  if o_40.1 = 0 then
    g_c_settings_L73 o_32.1 o_40.2
  else
    (g_se_copyFrom 49 118 o_40.2).bind fun o_60 =>
    (g_ca_trim 48 o_60.2).bind fun o_70 =>
    g_c_settings_L73 o_32.1 o_70.2
set_option maxHeartbeats 4000000 in
theorem g_c_settings_ok {xl : Nat} {xs : Nat → Int32} {σ : zS} {p : Nat} {m : zM} {o : Int × zS} (H : zRep xl xs p m σ) (h : g_c_settings σ = some o) : zGo xl xs (fun p' => p = p') 7 122 0 (z_can 122 0 (lv_args 0 [.ref 39])) [] m (vI o.1) o.2 := by
  have hq : z_mth 122 = some z_r122 := rfl
  unfold g_c_settings at h
  show zGo xl xs (fun p' => p = p') 7 122 0 [(0, .ref 39)] [] m (vI o.1) o.2
  refine r_p hq 1 (pc' := 1) (L' := [(0, .ref 39)]) (st' := [.ref 39]) rfl ?_
  refine r_gR (b := 120) (pc' := 4) (L' := [(0, .ref 39)]) H hq (z_at.mk 3 rfl rfl) rfl rfl rfl rfl ?_
  obtain ⟨o_4, h_4, h⟩ := Option.bind_eq_some_iff.mp h
  refine r_cvV (pc' := 7) (L' := [(0, .ref 39)]) (Ps := []) (rest := []) hq (z_at.mk 3 rfl rfl) (Or.inl ⟨rfl, rfl⟩) rfl rfl (by decide) (by decide) rfl (Nat.not_lt.mpr (Nat.le_of_ble_eq_true rfl)) rfl rfl (z_cat_le 0 rfl (by decide)) (z_lgl_le 1 rfl (by decide)) (by decide) (H.tg rfl) (by omega) (g_ta_begin_ok H h_4) rfl rfl ?_
  intro m_4 p_4 e_4 H_4
  subst e_4
  refine r_p hq 1 (pc' := 8) (L' := [(0, .ref 39)]) (st' := [.ref 39]) rfl ?_
  refine r_gR (b := 118) (pc' := 11) (L' := [(0, .ref 39)]) H_4 hq (z_at.mk 3 rfl rfl) rfl rfl rfl rfl ?_
  refine r_p hq 1 (pc' := 12) (L' := [(0, .ref 39)]) (st' := [.ref 39, .ref 118]) rfl ?_
  refine r_gR (b := 40) (pc' := 15) (L' := [(0, .ref 39)]) H_4 hq (z_at.mk 3 rfl rfl) rfl rfl rfl rfl ?_
  refine r_gR (b := 48) (pc' := 18) (L' := [(0, .ref 39)]) H_4 hq (z_at.mk 3 rfl rfl) rfl rfl rfl rfl ?_
  refine r_gR (b := 49) (pc' := 21) (L' := [(0, .ref 39)]) H_4 hq (z_at.mk 3 rfl rfl) rfl rfl rfl rfl ?_
  obtain ⟨o_21, h_21, h⟩ := Option.bind_eq_some_iff.mp h
  refine r_cvV (pc' := 24) (L' := [(0, .ref 39)]) (Ps := [.ref 49]) (rest := []) hq (z_at.mk 3 rfl rfl) (Or.inl ⟨rfl, rfl⟩) rfl rfl (by decide) (by decide) rfl (Nat.not_lt.mpr (Nat.le_of_ble_eq_true rfl)) rfl rfl (z_cat_le 0 rfl (by decide)) (z_lgl_le 2 rfl (by decide)) (by decide) (H_4.tg rfl) (by omega) (g_se_copyFrom_ok rfl rfl H_4 h_21) rfl rfl ?_
  intro m_21 p_21 e_21 H_21
  subst e_21
  refine r_p hq 1 (pc' := 25) (L' := [(0, .ref 39)]) (st' := [.ref 39]) rfl ?_
  refine r_gR (b := 118) (pc' := 28) (L' := [(0, .ref 39)]) H_21 hq (z_at.mk 3 rfl rfl) rfl rfl rfl rfl ?_
  refine r_p hq 1 (pc' := 29) (L' := [(0, .ref 39)]) (st' := [.ref 39, .ref 118]) rfl ?_
  refine r_gR (b := 120) (pc' := 32) (L' := [(0, .ref 39)]) H_21 hq (z_at.mk 3 rfl rfl) rfl rfl rfl rfl ?_
  obtain ⟨o_32, h_32, h⟩ := Option.bind_eq_some_iff.mp h
  refine r_cvI (pc' := 35) (L' := [(0, .ref 39)]) (Ps := [.ref 120]) (rest := []) hq (z_at.mk 3 rfl rfl) (Or.inl ⟨rfl, rfl⟩) rfl rfl (by decide) (by decide) rfl (Nat.not_lt.mpr (Nat.le_of_ble_eq_true rfl)) rfl rfl (z_cat_le 0 rfl (by decide)) (z_lgl_le 2 rfl (by decide)) (by decide) (H_21.tg rfl) (by omega) (g_se_readParts_ok H_21 h_32) rfl rfl ?_
  intro R_32 m_32 p_32 e_32 hR_32 H_32
  subst e_32
  refine r_p hq 2 (pc' := 37) (L' := [(1, .int R_32), (0, .ref 39)]) (st' := [.ref 39]) rfl ?_
  refine r_gR (b := 120) (pc' := 40) (L' := [(1, .int R_32), (0, .ref 39)]) H_32 hq (z_at.mk 3 rfl rfl) rfl rfl rfl rfl ?_
  obtain ⟨o_40, h_40, h⟩ := Option.bind_eq_some_iff.mp h
  refine r_cvI (pc' := 43) (L' := [(1, .int R_32), (0, .ref 39)]) (Ps := []) (rest := []) hq (z_at.mk 3 rfl rfl) (Or.inl ⟨rfl, rfl⟩) rfl rfl (by decide) (by decide) rfl (Nat.not_lt.mpr (Nat.le_of_ble_eq_true rfl)) rfl rfl (z_cat_le 0 rfl (by decide)) (z_lgl_le 1 rfl (by decide)) (by decide) (H_32.tg rfl) (by omega) (g_ta_isSound_ok H_32 h_40) rfl rfl ?_
  intro R_40 m_40 p_40 e_40 hR_40 H_40
  subst e_40
  rcases z_ite h with ⟨c_43, h⟩ | ⟨c_43, h⟩
  · refine r_t1 (pc' := 73) (L' := [(0, .ref 39), (1, .int R_32)]) hq (z_at.mk 3 rfl rfl) rfl hR_40 c_43 rfl rfl ?_
    exact g_c_settings_L73_ok hR_32 H_40 h
  · refine r_f1 (pc' := 46) (L' := [(1, .int R_32), (0, .ref 39)]) hq (z_at.mk 3 rfl rfl) rfl hR_40 c_43 rfl rfl ?_
    refine r_p hq 1 (pc' := 47) (L' := [(1, .int R_32), (0, .ref 39)]) (st' := [.ref 39]) rfl ?_
    refine r_gR (b := 40) (pc' := 50) (L' := [(1, .int R_32), (0, .ref 39)]) H_40 hq (z_at.mk 3 rfl rfl) rfl rfl rfl rfl ?_
    refine r_gR (b := 48) (pc' := 53) (L' := [(1, .int R_32), (0, .ref 39)]) H_40 hq (z_at.mk 3 rfl rfl) rfl rfl rfl rfl ?_
    refine r_gR (b := 49) (pc' := 56) (L' := [(1, .int R_32), (0, .ref 39)]) H_40 hq (z_at.mk 3 rfl rfl) rfl rfl rfl rfl ?_
    refine r_p hq 1 (pc' := 57) (L' := [(1, .int R_32), (0, .ref 39)]) (st' := [.ref 39, .ref 49]) rfl ?_
    refine r_gR (b := 118) (pc' := 60) (L' := [(1, .int R_32), (0, .ref 39)]) H_40 hq (z_at.mk 3 rfl rfl) rfl rfl rfl rfl ?_
    obtain ⟨o_60, h_60, h⟩ := Option.bind_eq_some_iff.mp h
    refine r_cvV (pc' := 63) (L' := [(1, .int R_32), (0, .ref 39)]) (Ps := [.ref 118]) (rest := []) hq (z_at.mk 3 rfl rfl) (Or.inl ⟨rfl, rfl⟩) rfl rfl (by decide) (by decide) rfl (Nat.not_lt.mpr (Nat.le_of_ble_eq_true rfl)) rfl rfl (z_cat_le 0 rfl (by decide)) (z_lgl_le 2 rfl (by decide)) (by decide) (H_40.tg rfl) (by omega) (g_se_copyFrom_ok rfl rfl H_40 h_60) rfl rfl ?_
    intro m_60 p_60 e_60 H_60
    subst e_60
    refine r_p hq 1 (pc' := 64) (L' := [(1, .int R_32), (0, .ref 39)]) (st' := [.ref 39]) rfl ?_
    refine r_gR (b := 40) (pc' := 67) (L' := [(1, .int R_32), (0, .ref 39)]) H_60 hq (z_at.mk 3 rfl rfl) rfl rfl rfl rfl ?_
    refine r_gR (b := 48) (pc' := 70) (L' := [(1, .int R_32), (0, .ref 39)]) H_60 hq (z_at.mk 3 rfl rfl) rfl rfl rfl rfl ?_
    obtain ⟨o_70, h_70, h⟩ := Option.bind_eq_some_iff.mp h
    refine r_cvV (pc' := 73) (L' := [(0, .ref 39), (1, .int R_32)]) (Ps := []) (rest := []) hq (z_at.mk 3 rfl rfl) (Or.inl ⟨rfl, rfl⟩) rfl rfl (by decide) (by decide) rfl (Nat.not_lt.mpr (Nat.le_of_ble_eq_true rfl)) rfl rfl (z_cat_le 0 rfl (by decide)) (z_lgl_le 1 rfl (by decide)) (by decide) (H_60.tg rfl) (by omega) (g_ca_trim_ok rfl H_60 h_70) rfl rfl ?_
    intro m_70 p_70 e_70 H_70
    subst e_70
    exact g_c_settings_L73_ok hR_32 H_70 h
def g_c_setting (x1 : Int) (σ : zS) : Option (Int × zS) :=
  (g_se_of 49 x1 σ).bind fun o_11 =>
  some (o_11.1, o_11.2)
set_option maxHeartbeats 4000000 in
theorem g_c_setting_ok {xl : Nat} {xs : Nat → Int32} {X1 : Int32} {x1 : Int} (hx1 : X1.toInt = x1) {σ : zS} {p : Nat} {m : zM} {o : Int × zS} (H : zRep xl xs p m σ) (h : g_c_setting x1 σ = some o) : zGo xl xs (fun p' => p = p') 2 123 0 (z_can 123 0 (lv_args 0 [.ref 39, .int X1])) [] m (vI o.1) o.2 := by
  have hq : z_mth 123 = some z_r123 := rfl
  unfold g_c_setting at h
  show zGo xl xs (fun p' => p = p') 2 123 0 [(0, .ref 39), (1, .int X1)] [] m (vI o.1) o.2
  refine r_p hq 1 (pc' := 1) (L' := [(0, .ref 39), (1, .int X1)]) (st' := [.ref 39]) rfl ?_
  refine r_gR (b := 40) (pc' := 4) (L' := [(0, .ref 39), (1, .int X1)]) H hq (z_at.mk 3 rfl rfl) rfl rfl rfl rfl ?_
  refine r_gR (b := 48) (pc' := 7) (L' := [(0, .ref 39), (1, .int X1)]) H hq (z_at.mk 3 rfl rfl) rfl rfl rfl rfl ?_
  refine r_gR (b := 49) (pc' := 10) (L' := [(0, .ref 39), (1, .int X1)]) H hq (z_at.mk 3 rfl rfl) rfl rfl rfl rfl ?_
  refine r_p hq 1 (pc' := 11) (L' := [(0, .ref 39), (1, .int X1)]) (st' := [.int X1, .ref 49]) rfl ?_
  obtain ⟨o_11, h_11, h⟩ := Option.bind_eq_some_iff.mp h
  refine r_cvI (pc' := 14) (L' := [(0, .ref 39), (1, .int X1)]) (Ps := [.int X1]) (rest := []) hq (z_at.mk 3 rfl rfl) (Or.inl ⟨rfl, rfl⟩) rfl rfl (by decide) (by decide) rfl (Nat.not_lt.mpr (Nat.le_of_ble_eq_true rfl)) rfl rfl (z_cat_le 0 rfl (by decide)) (z_lgl_le 2 rfl (by decide)) (by decide) (H.tg rfl) (by omega) (g_se_of_ok rfl hx1 H h_11) rfl rfl ?_
  intro R_11 m_11 p_11 e_11 hR_11 H_11
  subst e_11
  cases h
  exact r_ri hq (z_at.mk 1 rfl rfl) rfl rfl hR_11 rfl H_11
def g_c_done (x1 : Int) (x2 : Int) (y3 : Int) (σ : zS) : Option (Int × zS) :=
  (g_ca_serve 48 x2 σ).bind fun o_8 =>
  (g_so_rowsIn x2 o_8.2).bind fun o_33 =>
  (g_fi_gather 60 (lAnd o_33.1 y3) o_33.2).bind fun o_38 =>
  (g_fi_measured 60 x1 o_38.2).bind fun o_49 =>
  some (o_49.1, o_49.2)
set_option maxHeartbeats 4000000 in
theorem g_c_done_ok {xl : Nat} {xs : Nat → Int32} {X1 : Int32} {x1 : Int} (hx1 : X1.toInt = x1) {X2 : Int32} {x2 : Int} (hx2 : X2.toInt = x2) {Y3 : Int64} {y3 : Int} (hy3 : Y3.toInt = y3) {σ : zS} {p : Nat} {m : zM} {o : Int × zS} (H : zRep xl xs p m σ) (h : g_c_done x1 x2 y3 σ = some o) : zGo xl xs (fun p' => p = p') 7 125 0 (z_can 125 0 (lv_args 0 [.ref 39, .int X1, .int X2, .long Y3])) [] m (vL o.1) o.2 := by
  have hq : z_mth 125 = some z_r125 := rfl
  unfold g_c_done at h
  show zGo xl xs (fun p' => p = p') 7 125 0 [(0, .ref 39), (1, .int X1), (2, .int X2), (3, .long Y3)] [] m (vL o.1) o.2
  refine r_p hq 1 (pc' := 1) (L' := [(0, .ref 39), (1, .int X1), (2, .int X2), (3, .long Y3)]) (st' := [.ref 39]) rfl ?_
  refine r_gR (b := 40) (pc' := 4) (L' := [(0, .ref 39), (1, .int X1), (2, .int X2), (3, .long Y3)]) H hq (z_at.mk 3 rfl rfl) rfl rfl rfl rfl ?_
  refine r_gR (b := 48) (pc' := 7) (L' := [(0, .ref 39), (1, .int X1), (2, .int X2), (3, .long Y3)]) H hq (z_at.mk 3 rfl rfl) rfl rfl rfl rfl ?_
  refine r_p hq 1 (pc' := 8) (L' := [(0, .ref 39), (1, .int X1), (2, .int X2), (3, .long Y3)]) (st' := [.int X2, .ref 48]) rfl ?_
  obtain ⟨o_8, h_8, h⟩ := Option.bind_eq_some_iff.mp h
  refine r_cvV (pc' := 11) (L' := [(0, .ref 39), (1, .int X1), (2, .int X2), (3, .long Y3)]) (Ps := [.int X2]) (rest := []) hq (z_at.mk 3 rfl rfl) (Or.inl ⟨rfl, rfl⟩) rfl rfl (by decide) (by decide) rfl (Nat.not_lt.mpr (Nat.le_of_ble_eq_true rfl)) rfl rfl (z_cat_le 0 rfl (by decide)) (z_lgl_le 2 rfl (by decide)) (by decide) (H.tg rfl) (by omega) (g_ca_serve_ok rfl hx2 H h_8) rfl rfl ?_
  intro m_8 p_8 e_8 H_8
  subst e_8
  refine r_p hq 1 (pc' := 12) (L' := [(0, .ref 39), (1, .int X1), (2, .int X2), (3, .long Y3)]) (st' := [.ref 39]) rfl ?_
  refine r_gR (b := 40) (pc' := 15) (L' := [(0, .ref 39), (1, .int X1), (2, .int X2), (3, .long Y3)]) H_8 hq (z_at.mk 3 rfl rfl) rfl rfl rfl rfl ?_
  refine r_gR (b := 60) (pc' := 18) (L' := [(0, .ref 39), (1, .int X1), (2, .int X2), (3, .long Y3)]) H_8 hq (z_at.mk 3 rfl rfl) rfl rfl rfl rfl ?_
  refine r_p hq 1 (pc' := 19) (L' := [(0, .ref 39), (1, .int X1), (2, .int X2), (3, .long Y3)]) (st' := [.ref 39, .ref 60]) rfl ?_
  refine r_gR (b := 40) (pc' := 22) (L' := [(0, .ref 39), (1, .int X1), (2, .int X2), (3, .long Y3)]) H_8 hq (z_at.mk 3 rfl rfl) rfl rfl rfl rfl ?_
  refine r_gR (b := 41) (pc' := 25) (L' := [(0, .ref 39), (1, .int X1), (2, .int X2), (3, .long Y3)]) H_8 hq (z_at.mk 3 rfl rfl) rfl rfl rfl rfl ?_
  refine r_p hq 1 (pc' := 26) (L' := [(0, .ref 39), (1, .int X1), (2, .int X2), (3, .long Y3)]) (st' := [.ref 39, .ref 41, .ref 60]) rfl ?_
  refine r_gR (b := 40) (pc' := 29) (L' := [(0, .ref 39), (1, .int X1), (2, .int X2), (3, .long Y3)]) H_8 hq (z_at.mk 3 rfl rfl) rfl rfl rfl rfl ?_
  refine r_gR (b := 41) (pc' := 32) (L' := [(0, .ref 39), (1, .int X1), (2, .int X2), (3, .long Y3)]) H_8 hq (z_at.mk 3 rfl rfl) rfl rfl rfl rfl ?_
  refine r_p hq 1 (pc' := 33) (L' := [(0, .ref 39), (1, .int X1), (2, .int X2), (3, .long Y3)]) (st' := [.int X2, .ref 41, .ref 41, .ref 60]) rfl ?_
  obtain ⟨o_33, h_33, h⟩ := Option.bind_eq_some_iff.mp h
  refine r_cvL (pc' := 36) (L' := [(0, .ref 39), (1, .int X1), (2, .int X2), (3, .long Y3)]) (Ps := [.int X2]) (rest := [.ref 41, .ref 60]) hq (z_at.mk 3 rfl rfl) (Or.inl ⟨rfl, rfl⟩) rfl rfl (by decide) (by decide) rfl (Nat.not_lt.mpr (Nat.le_of_ble_eq_true rfl)) rfl rfl (z_cat_le 2 rfl (by decide)) (z_lgl_le 2 rfl (by decide)) (by decide) (H_8.tg rfl) (by omega) (g_so_rowsIn_ok hx2 H_8 h_33) rfl rfl ?_
  intro R_33 m_33 p_33 e_33 hR_33 H_33
  subst e_33
  refine r_p hq 2 (pc' := 38) (L' := [(0, .ref 39), (1, .int X1), (2, .int X2), (3, .long Y3)]) (st' := [.long (R_33 &&& Y3), .ref 41, .ref 60]) rfl ?_
  obtain ⟨o_38, h_38, h⟩ := Option.bind_eq_some_iff.mp h
  refine r_cvV (pc' := 41) (L' := [(0, .ref 39), (1, .int X1), (2, .int X2), (3, .long Y3)]) (Ps := [.ref 41, .long (R_33 &&& Y3)]) (rest := []) hq (z_at.mk 3 rfl rfl) (Or.inl ⟨rfl, rfl⟩) rfl rfl (by decide) (by decide) rfl (Nat.not_lt.mpr (Nat.le_of_ble_eq_true rfl)) rfl rfl (z_cat_le 0 rfl (by decide)) (z_lgl_le 4 rfl (by decide)) (by decide) (H_33.tg rfl) (by omega) (g_fi_gather_ok rfl (tx_land hR_33 hy3) H_33 h_38) rfl rfl ?_
  intro m_38 p_38 e_38 H_38
  subst e_38
  refine r_p hq 1 (pc' := 42) (L' := [(0, .ref 39), (1, .int X1), (2, .int X2), (3, .long Y3)]) (st' := [.ref 39]) rfl ?_
  refine r_gR (b := 40) (pc' := 45) (L' := [(0, .ref 39), (1, .int X1), (2, .int X2), (3, .long Y3)]) H_38 hq (z_at.mk 3 rfl rfl) rfl rfl rfl rfl ?_
  refine r_gR (b := 60) (pc' := 48) (L' := [(0, .ref 39), (1, .int X1), (2, .int X2), (3, .long Y3)]) H_38 hq (z_at.mk 3 rfl rfl) rfl rfl rfl rfl ?_
  refine r_p hq 1 (pc' := 49) (L' := [(0, .ref 39), (1, .int X1), (2, .int X2), (3, .long Y3)]) (st' := [.int X1, .ref 60]) rfl ?_
  obtain ⟨o_49, h_49, h⟩ := Option.bind_eq_some_iff.mp h
  refine r_cvL (pc' := 52) (L' := [(0, .ref 39), (1, .int X1), (2, .int X2), (3, .long Y3)]) (Ps := [.int X1]) (rest := []) hq (z_at.mk 3 rfl rfl) (Or.inl ⟨rfl, rfl⟩) rfl rfl (by decide) (by decide) rfl (Nat.not_lt.mpr (Nat.le_of_ble_eq_true rfl)) rfl rfl (z_cat_le 0 rfl (by decide)) (z_lgl_le 2 rfl (by decide)) (by decide) (H_38.tg rfl) (by omega) (g_fi_measured_ok rfl hx1 H_38 h_49) rfl rfl ?_
  intro R_49 m_49 p_49 e_49 hR_49 H_49
  subst e_49
  cases h
  exact r_rl hq (z_at.mk 1 rfl rfl) rfl hR_49 rfl H_49
def g_c_run_L100 (σ : zS) : Option (Int × zS) :=
  let v_108 := σ 122 5
  (g_ta_end v_108 σ).bind fun o_111 =>
  some (o_111.1, o_111.2)
set_option maxHeartbeats 4000000 in
theorem g_c_run_L100_ok {xl : Nat} {xs : Nat → Int32} {σ : zS} {p : Nat} {m : zM} {o : Int × zS} (H : zRep xl xs p m σ) (h : g_c_run_L100 σ = some o) : zGo xl xs (fun p' => p = p') 509 124 100 [(0, .ref 39)] [] m (vI o.1) o.2 := by
  have hq : z_mth 124 = some z_r124 := rfl
  unfold g_c_run_L100 at h
  refine r_p hq 1 (pc' := 101) (L' := [(0, .ref 39)]) (st' := [.ref 39]) rfl ?_
  refine r_gR (b := 120) (pc' := 104) (L' := [(0, .ref 39)]) H hq (z_at.mk 3 rfl rfl) rfl rfl rfl rfl ?_
  refine r_p hq 1 (pc' := 105) (L' := [(0, .ref 39)]) (st' := [.ref 39, .ref 120]) rfl ?_
  refine r_gR (b := 122) (pc' := 108) (L' := [(0, .ref 39)]) H hq (z_at.mk 3 rfl rfl) rfl rfl rfl rfl ?_
  refine r_gI (pc' := 111) (L' := [(0, .ref 39)]) H hq (z_at.mk 3 rfl rfl) rfl rfl rfl rfl ?_
  intro V_108 hV_108
  obtain ⟨o_111, h_111, h⟩ := Option.bind_eq_some_iff.mp h
  refine r_cvI (pc' := 114) (L' := [(0, .ref 39)]) (Ps := [.int V_108]) (rest := []) hq (z_at.mk 3 rfl rfl) (Or.inl ⟨rfl, rfl⟩) rfl rfl (by decide) (by decide) rfl (Nat.not_lt.mpr (Nat.le_of_ble_eq_true rfl)) rfl rfl (z_cat_le 0 rfl (by decide)) (z_lgl_le 2 rfl (by decide)) (by decide) (H.tg rfl) (by omega) (g_ta_end_ok hV_108 H h_111) rfl rfl ?_
  intro R_111 m_111 p_111 e_111 hR_111 H_111
  subst e_111
  cases h
  exact r_ri hq (z_at.mk 1 rfl rfl) rfl rfl hR_111 rfl H_111
def g_c_run_L37 : Nat → Int → zS → Option (Int × zS)
  | 0, _, _ => none
  | n + 1, x1, σ =>
    let v_42 := σ 122 5
    if v_42 ≤ x1 then
      g_c_run_L100 σ
    else
      if 8 ≤ x1 then
        g_c_run_L100 σ
      else
        if 0 ≤ x1 ∧ x1 < 8 then
        let v_71 := σ 123 x1
        if 0 ≤ x1 ∧ x1 < 8 then
        let v_80 := σ 124 x1
        if 0 ≤ x1 ∧ x1 < 8 then
        let v_89 := σ 125 x1
        (g_c_done v_71 v_80 v_89 σ).bind fun o_90 =>
        if 0 ≤ x1 ∧ x1 < 8 then
        let s_93 := zu o_90.2 128 x1 o_90.1
        (g_c_run_L37 n) (w32 (x1 + 1)) s_93
        else none
        else none
        else none
        else none
set_option maxHeartbeats 4000000 in
theorem g_c_run_L37_ok {xl : Nat} {xs : Nat → Int32} : ∀ (n : Nat) {X1 : Int32} {x1 : Int} {σ : zS} {p : Nat} {m : zM} {o : Int × zS}, X1.toInt = x1 → zRep xl xs p m σ → g_c_run_L37 n x1 σ = some o → zGo xl xs (fun p' => p = p') 509 124 37 [(0, .ref 39), (1, .int X1)] [] m (vI o.1) o.2
  | 0, _, _, _, _, _, _, _, _, h => by cases h
  | n + 1, X1, x1, σ, p, m, o, hx1, H, h => by
    have hq : z_mth 124 = some z_r124 := rfl
    have ih := fun {X1 : Int32} {x1 : Int} {σ : zS} {p : Nat} {m : zM} {o : Int × zS} => g_c_run_L37_ok (xl := xl) (xs := xs) n (X1 := X1) (x1 := x1) (σ := σ) (p := p) (m := m) (o := o)
    unfold g_c_run_L37 at h
    refine r_p hq 2 (pc' := 39) (L' := [(0, .ref 39), (1, .int X1)]) (st' := [.ref 39, .int X1]) rfl ?_
    refine r_gR (b := 122) (pc' := 42) (L' := [(0, .ref 39), (1, .int X1)]) H hq (z_at.mk 3 rfl rfl) rfl rfl rfl rfl ?_
    refine r_gI (pc' := 45) (L' := [(0, .ref 39), (1, .int X1)]) H hq (z_at.mk 3 rfl rfl) rfl rfl rfl rfl ?_
    intro V_42 hV_42
    rcases z_ite h with ⟨c_45, h⟩ | ⟨c_45, h⟩
    · refine r_t2 (pc' := 100) (L' := [(0, .ref 39)]) hq (z_at.mk 3 rfl rfl) rfl hx1 hV_42 c_45 rfl rfl ?_
      exact g_c_run_L100_ok  H h
    · refine r_f2 (pc' := 48) (L' := [(0, .ref 39), (1, .int X1)]) hq (z_at.mk 3 rfl rfl) rfl hx1 hV_42 c_45 rfl rfl ?_
      refine r_p hq 2 (pc' := 50) (L' := [(0, .ref 39), (1, .int X1)]) (st' := [.ref 39, .int X1]) rfl ?_
      refine r_gR (b := 128) (pc' := 53) (L' := [(0, .ref 39), (1, .int X1)]) H hq (z_at.mk 3 rfl rfl) rfl rfl rfl rfl ?_
      refine r_le (pc' := 54) (L' := [(0, .ref 39), (1, .int X1)]) H hq (z_at.mk 1 rfl rfl) (show zAr 128 1 8 = true from rfl) rfl rfl rfl ?_
      intro V_53 hV_53
      rcases z_ite h with ⟨c_54, h⟩ | ⟨c_54, h⟩
      · refine r_t2 (pc' := 100) (L' := [(0, .ref 39)]) hq (z_at.mk 3 rfl rfl) rfl hx1 hV_53 c_54 rfl rfl ?_
        exact g_c_run_L100_ok  H h
      · refine r_f2 (pc' := 57) (L' := [(0, .ref 39), (1, .int X1)]) hq (z_at.mk 3 rfl rfl) rfl hx1 hV_53 c_54 rfl rfl ?_
        refine r_p hq 1 (pc' := 58) (L' := [(0, .ref 39), (1, .int X1)]) (st' := [.ref 39]) rfl ?_
        refine r_gR (b := 128) (pc' := 61) (L' := [(0, .ref 39), (1, .int X1)]) H hq (z_at.mk 3 rfl rfl) rfl rfl rfl rfl ?_
        refine r_p hq 3 (pc' := 64) (L' := [(0, .ref 39), (1, .int X1)]) (st' := [.ref 39, .ref 39, .int X1, .ref 128]) rfl ?_
        refine r_gR (b := 122) (pc' := 67) (L' := [(0, .ref 39), (1, .int X1)]) H hq (z_at.mk 3 rfl rfl) rfl rfl rfl rfl ?_
        refine r_gR (b := 123) (pc' := 70) (L' := [(0, .ref 39), (1, .int X1)]) H hq (z_at.mk 3 rfl rfl) rfl rfl rfl rfl ?_
        refine r_p hq 1 (pc' := 71) (L' := [(0, .ref 39), (1, .int X1)]) (st' := [.int X1, .ref 123, .ref 39, .int X1, .ref 128]) rfl ?_
        obtain ⟨g_71, h⟩ := z_ifo_some h
        refine r_ia (pc' := 72) (L' := [(0, .ref 39), (1, .int X1)]) H hq (z_at.mk 1 rfl rfl) (show zAr 123 0 8 = true from rfl) hx1 g_71 rfl rfl ?_
        intro V_71 hV_71
        refine r_p hq 1 (pc' := 73) (L' := [(0, .ref 39), (1, .int X1)]) (st' := [.ref 39, .int V_71, .ref 39, .int X1, .ref 128]) rfl ?_
        refine r_gR (b := 122) (pc' := 76) (L' := [(0, .ref 39), (1, .int X1)]) H hq (z_at.mk 3 rfl rfl) rfl rfl rfl rfl ?_
        refine r_gR (b := 124) (pc' := 79) (L' := [(0, .ref 39), (1, .int X1)]) H hq (z_at.mk 3 rfl rfl) rfl rfl rfl rfl ?_
        refine r_p hq 1 (pc' := 80) (L' := [(0, .ref 39), (1, .int X1)]) (st' := [.int X1, .ref 124, .int V_71, .ref 39, .int X1, .ref 128]) rfl ?_
        obtain ⟨g_80, h⟩ := z_ifo_some h
        refine r_ia (pc' := 81) (L' := [(0, .ref 39), (1, .int X1)]) H hq (z_at.mk 1 rfl rfl) (show zAr 124 0 8 = true from rfl) hx1 g_80 rfl rfl ?_
        intro V_80 hV_80
        refine r_p hq 1 (pc' := 82) (L' := [(0, .ref 39), (1, .int X1)]) (st' := [.ref 39, .int V_80, .int V_71, .ref 39, .int X1, .ref 128]) rfl ?_
        refine r_gR (b := 122) (pc' := 85) (L' := [(0, .ref 39), (1, .int X1)]) H hq (z_at.mk 3 rfl rfl) rfl rfl rfl rfl ?_
        refine r_gR (b := 125) (pc' := 88) (L' := [(0, .ref 39), (1, .int X1)]) H hq (z_at.mk 3 rfl rfl) rfl rfl rfl rfl ?_
        refine r_p hq 1 (pc' := 89) (L' := [(0, .ref 39), (1, .int X1)]) (st' := [.int X1, .ref 125, .int V_80, .int V_71, .ref 39, .int X1, .ref 128]) rfl ?_
        obtain ⟨g_89, h⟩ := z_ifo_some h
        refine r_la (pc' := 90) (L' := [(0, .ref 39), (1, .int X1)]) H hq (z_at.mk 1 rfl rfl) (show zAr 125 1 8 = true from rfl) hx1 g_89 rfl rfl ?_
        intro V_89 hV_89
        obtain ⟨o_90, h_90, h⟩ := Option.bind_eq_some_iff.mp h
        refine r_cvL (pc' := 93) (L' := [(0, .ref 39), (1, .int X1)]) (Ps := [.int V_71, .int V_80, .long V_89]) (rest := [.int X1, .ref 128]) hq (z_at.mk 3 rfl rfl) (Or.inl ⟨rfl, rfl⟩) rfl rfl (by decide) (by decide) rfl (Nat.not_lt.mpr (Nat.le_of_ble_eq_true rfl)) rfl rfl (z_cat_le 2 rfl (by decide)) (z_lgl_le 5 rfl (by decide)) (by decide) (H.tg rfl) (by omega) (g_c_done_ok hV_71 hV_80 hV_89 H h_90) rfl rfl ?_
        intro R_90 m_90 p_90 e_90 hR_90 H_90
        subst e_90
        obtain ⟨g_93, h⟩ := z_ifo_some h
        refine r_ls (pc' := 94) (L' := [(0, .ref 39), (1, .int X1)]) H_90 hq (z_at.mk 1 rfl rfl) (show zAr 128 1 8 = true from rfl) hx1 g_93 hR_90 rfl rfl ?_
        intro m_93 H_93
        refine r_p hq 2 (pc' := 37) (L' := [(0, .ref 39), (1, .int (X1 + (1 : Int32)))]) (st' := []) rfl ?_
        exact ih (tx_iadd hx1 (rfl : (1 : Int32).toInt = 1)) H_93 h
def g_c_run (σ : zS) : Option (Int × zS) :=
  (g_ta_begin σ).bind fun o_4 =>
  (g_qu_readParts o_4.2).bind fun o_11 =>
  (g_ta_isSound o_11.2).bind fun o_18 =>
  if o_18.1 = 0 then
    g_c_run_L100 o_18.2
  else
    let v_29 := o_18.2 122 5
    let s_32 := zu o_18.2 39 9 v_29
    g_c_run_L37 zK 0 s_32
set_option maxHeartbeats 4000000 in
theorem g_c_run_ok {xl : Nat} {xs : Nat → Int32} {σ : zS} {p : Nat} {m : zM} {o : Int × zS} (H : zRep xl xs p m σ) (h : g_c_run σ = some o) : zGo xl xs (fun p' => p = p') 509 124 0 (z_can 124 0 (lv_args 0 [.ref 39])) [] m (vI o.1) o.2 := by
  have hq : z_mth 124 = some z_r124 := rfl
  unfold g_c_run at h
  show zGo xl xs (fun p' => p = p') 509 124 0 [(0, .ref 39)] [] m (vI o.1) o.2
  refine r_p hq 1 (pc' := 1) (L' := [(0, .ref 39)]) (st' := [.ref 39]) rfl ?_
  refine r_gR (b := 120) (pc' := 4) (L' := [(0, .ref 39)]) H hq (z_at.mk 3 rfl rfl) rfl rfl rfl rfl ?_
  obtain ⟨o_4, h_4, h⟩ := Option.bind_eq_some_iff.mp h
  refine r_cvV (pc' := 7) (L' := [(0, .ref 39)]) (Ps := []) (rest := []) hq (z_at.mk 3 rfl rfl) (Or.inl ⟨rfl, rfl⟩) rfl rfl (by decide) (by decide) rfl (Nat.not_lt.mpr (Nat.le_of_ble_eq_true rfl)) rfl rfl (z_cat_le 0 rfl (by decide)) (z_lgl_le 1 rfl (by decide)) (by decide) (H.tg rfl) (by omega) (g_ta_begin_ok H h_4) rfl rfl ?_
  intro m_4 p_4 e_4 H_4
  subst e_4
  refine r_p hq 1 (pc' := 8) (L' := [(0, .ref 39)]) (st' := [.ref 39]) rfl ?_
  refine r_gR (b := 122) (pc' := 11) (L' := [(0, .ref 39)]) H_4 hq (z_at.mk 3 rfl rfl) rfl rfl rfl rfl ?_
  obtain ⟨o_11, h_11, h⟩ := Option.bind_eq_some_iff.mp h
  refine r_cvV (pc' := 14) (L' := [(0, .ref 39)]) (Ps := []) (rest := []) hq (z_at.mk 3 rfl rfl) (Or.inl ⟨rfl, rfl⟩) rfl rfl (by decide) (by decide) rfl (Nat.not_lt.mpr (Nat.le_of_ble_eq_true rfl)) rfl rfl (z_cat_le 0 rfl (by decide)) (z_lgl_le 1 rfl (by decide)) (by decide) (H_4.tg rfl) (by omega) (g_qu_readParts_ok H_4 h_11) rfl rfl ?_
  intro m_11 p_11 e_11 H_11
  subst e_11
  refine r_p hq 1 (pc' := 15) (L' := [(0, .ref 39)]) (st' := [.ref 39]) rfl ?_
  refine r_gR (b := 120) (pc' := 18) (L' := [(0, .ref 39)]) H_11 hq (z_at.mk 3 rfl rfl) rfl rfl rfl rfl ?_
  obtain ⟨o_18, h_18, h⟩ := Option.bind_eq_some_iff.mp h
  refine r_cvI (pc' := 21) (L' := [(0, .ref 39)]) (Ps := []) (rest := []) hq (z_at.mk 3 rfl rfl) (Or.inl ⟨rfl, rfl⟩) rfl rfl (by decide) (by decide) rfl (Nat.not_lt.mpr (Nat.le_of_ble_eq_true rfl)) rfl rfl (z_cat_le 0 rfl (by decide)) (z_lgl_le 1 rfl (by decide)) (by decide) (H_11.tg rfl) (by omega) (g_ta_isSound_ok H_11 h_18) rfl rfl ?_
  intro R_18 m_18 p_18 e_18 hR_18 H_18
  subst e_18
  rcases z_ite h with ⟨c_21, h⟩ | ⟨c_21, h⟩
  · refine r_t1 (pc' := 100) (L' := [(0, .ref 39)]) hq (z_at.mk 3 rfl rfl) rfl hR_18 c_21 rfl rfl ?_
    exact g_c_run_L100_ok  H_18 h
  · refine r_f1 (pc' := 24) (L' := [(0, .ref 39)]) hq (z_at.mk 3 rfl rfl) rfl hR_18 c_21 rfl rfl ?_
    refine r_p hq 2 (pc' := 26) (L' := [(0, .ref 39)]) (st' := [.ref 39, .ref 39]) rfl ?_
    refine r_gR (b := 122) (pc' := 29) (L' := [(0, .ref 39)]) H_18 hq (z_at.mk 3 rfl rfl) rfl rfl rfl rfl ?_
    refine r_gI (pc' := 32) (L' := [(0, .ref 39)]) H_18 hq (z_at.mk 3 rfl rfl) rfl rfl rfl rfl ?_
    intro V_29 hV_29
    refine r_pI (X := V_29) (pc' := 35) (L' := [(0, .ref 39)]) H_18 hq (z_at.mk 3 rfl rfl) rfl rfl hV_29 (by decide) rfl rfl rfl rfl ?_
    intro m_32 H_32
    refine r_p hq 2 (pc' := 37) (L' := [(0, .ref 39), (1, .int ((0 : Int32)))]) (st' := []) rfl ?_
    exact g_c_run_L37_ok zK (rfl : (0 : Int32).toInt = 0) H_32 h
def g_c_answer (x1 : Int) (σ : zS) : Option (Int × zS) :=
  if x1 < 0 then
    some (-9223372036854775808, σ)
  else
    let v_6 := σ 39 9
    if v_6 ≤ x1 then
      some (-9223372036854775808, σ)
    else
      if 8 ≤ x1 then
        some (-9223372036854775808, σ)
      else
        if 0 ≤ x1 ∧ x1 < 8 then
        let v_26 := σ 128 x1
        some (v_26, σ)
        else none
set_option maxHeartbeats 4000000 in
theorem g_c_answer_ok {xl : Nat} {xs : Nat → Int32} {X1 : Int32} {x1 : Int} (hx1 : X1.toInt = x1) {σ : zS} {p : Nat} {m : zM} {o : Int × zS} (H : zRep xl xs p m σ) (h : g_c_answer x1 σ = some o) : zGo xl xs (fun p' => p = p') 1 126 0 (z_can 126 0 (lv_args 0 [.ref 39, .int X1])) [] m (vL o.1) o.2 := by
  have hq : z_mth 126 = some z_r126 := rfl
  unfold g_c_answer at h
  show zGo xl xs (fun p' => p = p') 1 126 0 [(0, .ref 39), (1, .int X1)] [] m (vL o.1) o.2
  refine r_p hq 1 (pc' := 1) (L' := [(0, .ref 39), (1, .int X1)]) (st' := [.int X1]) rfl ?_
  rcases z_ite h with ⟨c_1, h⟩ | ⟨c_1, h⟩
  · refine r_t1 (pc' := 30) (L' := []) hq (z_at.mk 3 rfl rfl) rfl hx1 c_1 rfl rfl ?_
    refine r_p hq 1 (pc' := 33) (L' := []) (st' := [.long ((-9223372036854775808 : Int64))]) rfl ?_
    cases h
    exact r_rl hq (z_at.mk 1 rfl rfl) rfl (rfl : (-9223372036854775808 : Int64).toInt = -9223372036854775808) rfl H
  · refine r_f1 (pc' := 4) (L' := [(0, .ref 39), (1, .int X1)]) hq (z_at.mk 3 rfl rfl) rfl hx1 c_1 rfl rfl ?_
    refine r_p hq 2 (pc' := 6) (L' := [(0, .ref 39), (1, .int X1)]) (st' := [.ref 39, .int X1]) rfl ?_
    refine r_gI (pc' := 9) (L' := [(0, .ref 39), (1, .int X1)]) H hq (z_at.mk 3 rfl rfl) rfl rfl rfl rfl ?_
    intro V_6 hV_6
    rcases z_ite h with ⟨c_9, h⟩ | ⟨c_9, h⟩
    · refine r_t2 (pc' := 30) (L' := []) hq (z_at.mk 3 rfl rfl) rfl hx1 hV_6 c_9 rfl rfl ?_
      refine r_p hq 1 (pc' := 33) (L' := []) (st' := [.long ((-9223372036854775808 : Int64))]) rfl ?_
      cases h
      exact r_rl hq (z_at.mk 1 rfl rfl) rfl (rfl : (-9223372036854775808 : Int64).toInt = -9223372036854775808) rfl H
    · refine r_f2 (pc' := 12) (L' := [(0, .ref 39), (1, .int X1)]) hq (z_at.mk 3 rfl rfl) rfl hx1 hV_6 c_9 rfl rfl ?_
      refine r_p hq 2 (pc' := 14) (L' := [(0, .ref 39), (1, .int X1)]) (st' := [.ref 39, .int X1]) rfl ?_
      refine r_gR (b := 128) (pc' := 17) (L' := [(0, .ref 39), (1, .int X1)]) H hq (z_at.mk 3 rfl rfl) rfl rfl rfl rfl ?_
      refine r_le (pc' := 18) (L' := [(0, .ref 39), (1, .int X1)]) H hq (z_at.mk 1 rfl rfl) (show zAr 128 1 8 = true from rfl) rfl rfl rfl ?_
      intro V_17 hV_17
      rcases z_ite h with ⟨c_18, h⟩ | ⟨c_18, h⟩
      · refine r_t2 (pc' := 30) (L' := []) hq (z_at.mk 3 rfl rfl) rfl hx1 hV_17 c_18 rfl rfl ?_
        refine r_p hq 1 (pc' := 33) (L' := []) (st' := [.long ((-9223372036854775808 : Int64))]) rfl ?_
        cases h
        exact r_rl hq (z_at.mk 1 rfl rfl) rfl (rfl : (-9223372036854775808 : Int64).toInt = -9223372036854775808) rfl H
      · refine r_f2 (pc' := 21) (L' := [(0, .ref 39), (1, .int X1)]) hq (z_at.mk 3 rfl rfl) rfl hx1 hV_17 c_18 rfl rfl ?_
        refine r_p hq 1 (pc' := 22) (L' := [(0, .ref 39), (1, .int X1)]) (st' := [.ref 39]) rfl ?_
        refine r_gR (b := 128) (pc' := 25) (L' := [(0, .ref 39), (1, .int X1)]) H hq (z_at.mk 3 rfl rfl) rfl rfl rfl rfl ?_
        refine r_p hq 1 (pc' := 26) (L' := [(0, .ref 39), (1, .int X1)]) (st' := [.int X1, .ref 128]) rfl ?_
        obtain ⟨g_26, h⟩ := z_ifo_some h
        refine r_la (pc' := 27) (L' := [(0, .ref 39), (1, .int X1)]) H hq (z_at.mk 1 rfl rfl) (show zAr 128 1 8 = true from rfl) hx1 g_26 rfl rfl ?_
        intro V_26 hV_26
        refine r_p hq 1 (pc' := 33) (L' := []) (st' := [.long V_26]) rfl ?_
        cases h
        exact r_rl hq (z_at.mk 1 rfl rfl) rfl hV_26 rfl H
def g_jAbstractStringBuilder_isLatin1 (σ : zS) : Option (Int × zS) :=
  if (1 : Int) = 0 then
    some (0, σ)
  else
    let v_7 := σ 129 1
    if v_7 ≠ 0 then
      some (0, σ)
    else
      some (1, σ)
set_option maxHeartbeats 4000000 in
theorem g_jAbstractStringBuilder_isLatin1_ok {xl : Nat} {xs : Nat → Int32} {σ : zS} {p : Nat} {m : zM} {o : Int × zS} (H : zRep xl xs p m σ) (h : g_jAbstractStringBuilder_isLatin1 σ = some o) : zGo xl xs (fun p' => p = p') 1 281 0 (z_can 281 0 (lv_args 0 [.ref 129])) [] m (vI o.1) o.2 := by
  have hq : z_mth 281 = some z_r281 := rfl
  unfold g_jAbstractStringBuilder_isLatin1 at h
  show zGo xl xs (fun p' => p = p') 1 281 0 [(0, .ref 129)] [] m (vI o.1) o.2
  refine r_p hq 1 (pc' := 3) (L' := [(0, .ref 129)]) (st' := [.int ((1 : Int32))]) rfl ?_
  rcases z_ite h with ⟨c_3, h⟩ | ⟨c_3, h⟩
  · refine r_t1 (pc' := 17) (L' := []) hq (z_at.mk 3 rfl rfl) rfl (show (1 : Int32).toInt = 1 from rfl) c_3 rfl rfl ?_
    refine r_p hq 1 (pc' := 18) (L' := []) (st' := [.int ((0 : Int32))]) rfl ?_
    cases h
    exact r_ri hq (z_at.mk 1 rfl rfl) rfl rfl (rfl : (0 : Int32).toInt = 0) rfl H
  · refine r_f1 (pc' := 6) (L' := [(0, .ref 129)]) hq (z_at.mk 3 rfl rfl) rfl (show (1 : Int32).toInt = 1 from rfl) c_3 rfl rfl ?_
    refine r_p hq 1 (pc' := 7) (L' := [(0, .ref 129)]) (st' := [.ref 129]) rfl ?_
    refine r_gI (pc' := 10) (L' := [(0, .ref 129)]) H hq (z_at.mk 3 rfl rfl) rfl rfl rfl rfl ?_
    intro V_7 hV_7
    rcases z_ite h with ⟨c_10, h⟩ | ⟨c_10, h⟩
    · refine r_t1 (pc' := 17) (L' := []) hq (z_at.mk 3 rfl rfl) rfl hV_7 c_10 rfl rfl ?_
      refine r_p hq 1 (pc' := 18) (L' := []) (st' := [.int ((0 : Int32))]) rfl ?_
      cases h
      exact r_ri hq (z_at.mk 1 rfl rfl) rfl rfl (rfl : (0 : Int32).toInt = 0) rfl H
    · refine r_f1 (pc' := 13) (L' := [(0, .ref 129)]) hq (z_at.mk 3 rfl rfl) rfl hV_7 c_10 rfl rfl ?_
      refine r_p hq 2 (pc' := 18) (L' := []) (st' := [.int ((1 : Int32))]) rfl ?_
      cases h
      exact r_ri hq (z_at.mk 1 rfl rfl) rfl rfl (rfl : (1 : Int32).toInt = 1) rfl H
def g_jInteger_getChars_L104 (x5 : Int) (x6 : Int) (σ : zS) : Option (Int × zS) :=
  if x6 = 0 then
    some (x5, σ)
  else
    if 0 ≤ w32 (x5 - 1) ∧ w32 (x5 - 1) < σ 169 0 then
    let s_117 := zu σ 168 (w32 (x5 - 1)) (w8 45)
    some (w32 (x5 - 1), s_117)
    else none
set_option maxHeartbeats 4000000 in
theorem g_jInteger_getChars_L104_ok {xl : Nat} {xs : Nat → Int32} {X5 : Int32} {x5 : Int} (hx5 : X5.toInt = x5) {X6 : Int32} {x6 : Int} (hx6 : X6.toInt = x6) {σ : zS} {p : Nat} {m : zM} {o : Int × zS} (H : zRep xl xs p m σ) (h : g_jInteger_getChars_L104 x5 x6 σ = some o) : zGo xl xs (fun p' => p = p') 1 284 104 [(2, .ref p), (5, .int X5), (6, .int X6)] [] m (vI o.1) o.2 := by
  have hq : z_mth 284 = some z_r284 := rfl
  unfold g_jInteger_getChars_L104 at h
  refine r_p hq 1 (pc' := 106) (L' := [(2, .ref p), (5, .int X5), (6, .int X6)]) (st' := [.int X6]) rfl ?_
  rcases z_ite h with ⟨c_106, h⟩ | ⟨c_106, h⟩
  · refine r_t1 (pc' := 118) (L' := [(5, .int X5)]) hq (z_at.mk 3 rfl rfl) rfl hx6 c_106 rfl rfl ?_
    refine r_p hq 1 (pc' := 120) (L' := [(5, .int X5)]) (st' := [.int X5]) rfl ?_
    cases h
    exact r_ri hq (z_at.mk 1 rfl rfl) rfl rfl hx5 rfl H
  · refine r_f1 (pc' := 109) (L' := [(2, .ref p), (5, .int X5), (6, .int X6)]) hq (z_at.mk 3 rfl rfl) rfl hx6 c_106 rfl rfl ?_
    refine r_p hq 4 (pc' := 117) (L' := [(5, .int (X5 + (-1 : Int32))), (2, .ref p), (6, .int X6)]) (st' := [.int ((45 : Int32)), .int (X5 + (-1 : Int32)), .ref p]) rfl ?_
    obtain ⟨g_117, h⟩ := z_ifo_some h
    refine r_bsP (pc' := 118) (L' := [(5, .int (X5 + (-1 : Int32)))]) H hq (z_at.mk 1 rfl rfl) (tx_iaddn hx5 (rfl : (-1 : Int32).toInt = -1)) g_117 (rfl : (45 : Int32).toInt = 45) rfl rfl ?_
    intro m_117 H_117
    refine r_p hq 1 (pc' := 120) (L' := [(5, .int (X5 + (-1 : Int32)))]) (st' := [.int (X5 + (-1 : Int32))]) rfl ?_
    cases h
    exact r_ri hq (z_at.mk 1 rfl rfl) rfl rfl (tx_iaddn hx5 (rfl : (-1 : Int32).toInt = -1)) rfl H_117
def g_jInteger_getChars_L22 : Nat → Int → Int → Int → zS → Option (Int × zS)
  | 0, _, _, _, _ => none
  | n + 1, x0, x5, x6, σ =>
    if -100 < x0 then
      if 0 ≤ w32 (-x0) ∧ w32 (-x0) < 100 then
      let v_83 := zs0 37 (w32 (-x0))
      if 0 ≤ w32 (x5 - 1) ∧ w32 (x5 - 1) < σ 169 0 then
      let s_84 := zu σ 168 (w32 (x5 - 1)) (w8 v_83)
      if -9 ≤ x0 then
        g_jInteger_getChars_L104 (w32 (x5 - 1)) x6 s_84
      else
        if 0 ≤ w32 (-x0) ∧ w32 (-x0) < 100 then
        let v_102 := zs0 38 (w32 (-x0))
        if 0 ≤ w32 ((w32 (x5 - 1)) - 1) ∧ w32 ((w32 (x5 - 1)) - 1) < s_84 169 0 then
        let s_103 := zu s_84 168 (w32 ((w32 (x5 - 1)) - 1)) (w8 v_102)
        g_jInteger_getChars_L104 (w32 ((w32 (x5 - 1)) - 1)) x6 s_103
        else none
        else none
      else none
      else none
    else
      if 0 ≤ w32 ((w32 ((w32 (Int.tdiv x0 100)) * 100)) - x0) ∧ w32 ((w32 ((w32 (Int.tdiv x0 100)) * 100)) - x0) < 100 then
      let v_54 := zs0 37 (w32 ((w32 ((w32 (Int.tdiv x0 100)) * 100)) - x0))
      if 0 ≤ w32 (x5 - 1) ∧ w32 (x5 - 1) < σ 169 0 then
      let s_55 := zu σ 168 (w32 (x5 - 1)) (w8 v_54)
      if 0 ≤ w32 ((w32 ((w32 (Int.tdiv x0 100)) * 100)) - x0) ∧ w32 ((w32 ((w32 (Int.tdiv x0 100)) * 100)) - x0) < 100 then
      let v_67 := zs0 38 (w32 ((w32 ((w32 (Int.tdiv x0 100)) * 100)) - x0))
      if 0 ≤ w32 ((w32 (x5 - 1)) - 1) ∧ w32 ((w32 (x5 - 1)) - 1) < s_55 169 0 then
      let s_68 := zu s_55 168 (w32 ((w32 (x5 - 1)) - 1)) (w8 v_67)
      (g_jInteger_getChars_L22 n) (w32 (Int.tdiv x0 100)) (w32 ((w32 (x5 - 1)) - 1)) x6 s_68
      else none
      else none
      else none
      else none
set_option maxHeartbeats 4000000 in
theorem g_jInteger_getChars_L22_ok {xl : Nat} {xs : Nat → Int32} : ∀ (n : Nat) {X0 : Int32} {x0 : Int} {X5 : Int32} {x5 : Int} {X6 : Int32} {x6 : Int} {σ : zS} {p : Nat} {m : zM} {o : Int × zS}, X0.toInt = x0 → X5.toInt = x5 → X6.toInt = x6 → zRep xl xs p m σ → g_jInteger_getChars_L22 n x0 x5 x6 σ = some o → zGo xl xs (fun p' => p = p') 1 284 22 [(0, .int X0), (2, .ref p), (5, .int X5), (6, .int X6)] [] m (vI o.1) o.2
  | 0, _, _, _, _, _, _, _, _, _, _, _, _, _, _, h => by cases h
  | n + 1, X0, x0, X5, x5, X6, x6, σ, p, m, o, hx0, hx5, hx6, H, h => by
    have hq : z_mth 284 = some z_r284 := rfl
    have ih := fun {X0 : Int32} {x0 : Int} {X5 : Int32} {x5 : Int} {X6 : Int32} {x6 : Int} {σ : zS} {p : Nat} {m : zM} {o : Int × zS} => g_jInteger_getChars_L22_ok (xl := xl) (xs := xs) n (X0 := X0) (x0 := x0) (X5 := X5) (x5 := x5) (X6 := X6) (x6 := x6) (σ := σ) (p := p) (m := m) (o := o)
    unfold g_jInteger_getChars_L22 at h
    refine r_p hq 2 (pc' := 25) (L' := [(0, .int X0), (2, .ref p), (5, .int X5), (6, .int X6)]) (st' := [.int ((-100 : Int32)), .int X0]) rfl ?_
    rcases z_ite h with ⟨c_25, h⟩ | ⟨c_25, h⟩
    · refine r_t2 (pc' := 72) (L' := [(0, .int X0), (2, .ref p), (5, .int X5), (6, .int X6)]) hq (z_at.mk 3 rfl rfl) rfl hx0 (rfl : (-100 : Int32).toInt = -100) c_25 rfl rfl ?_
      refine r_p hq 6 (pc' := 83) (L' := [(5, .int (X5 + (-1 : Int32))), (0, .int X0), (2, .ref p), (6, .int X6)]) (st' := [.int (-X0), .ref 37, .int (X5 + (-1 : Int32)), .ref p]) rfl ?_
      obtain ⟨g_83, h⟩ := z_ifo_some h
      refine r_ba0 (pc' := 84) (L' := [(5, .int (X5 + (-1 : Int32))), (0, .int X0), (2, .ref p), (6, .int X6)]) H hq (z_at.mk 1 rfl rfl) (show zAz 37 2 100 = true from rfl) (tx_ineg hx0) g_83 rfl rfl ?_
      intro V_83 hV_83
      obtain ⟨g_84, h⟩ := z_ifo_some h
      refine r_bsP (pc' := 85) (L' := [(5, .int (X5 + (-1 : Int32))), (0, .int X0), (2, .ref p), (6, .int X6)]) H hq (z_at.mk 1 rfl rfl) (tx_iaddn hx5 (rfl : (-1 : Int32).toInt = -1)) g_84 hV_83 rfl rfl ?_
      intro m_84 H_84
      refine r_p hq 2 (pc' := 88) (L' := [(5, .int (X5 + (-1 : Int32))), (0, .int X0), (2, .ref p), (6, .int X6)]) (st' := [.int ((-9 : Int32)), .int X0]) rfl ?_
      rcases z_ite h with ⟨c_88, h⟩ | ⟨c_88, h⟩
      · refine r_t2 (pc' := 104) (L' := [(2, .ref p), (5, .int (X5 + (-1 : Int32))), (6, .int X6)]) hq (z_at.mk 3 rfl rfl) rfl hx0 (rfl : (-9 : Int32).toInt = -9) c_88 rfl rfl ?_
        exact g_jInteger_getChars_L104_ok (tx_iaddn hx5 (rfl : (-1 : Int32).toInt = -1)) hx6 H_84 h
      · refine r_f2 (pc' := 91) (L' := [(5, .int (X5 + (-1 : Int32))), (0, .int X0), (2, .ref p), (6, .int X6)]) hq (z_at.mk 3 rfl rfl) rfl hx0 (rfl : (-9 : Int32).toInt = -9) c_88 rfl rfl ?_
        refine r_p hq 6 (pc' := 102) (L' := [(5, .int ((X5 + (-1 : Int32)) + (-1 : Int32))), (0, .int X0), (2, .ref p), (6, .int X6)]) (st' := [.int (-X0), .ref 38, .int ((X5 + (-1 : Int32)) + (-1 : Int32)), .ref p]) rfl ?_
        obtain ⟨g_102, h⟩ := z_ifo_some h
        refine r_ba0 (pc' := 103) (L' := [(5, .int ((X5 + (-1 : Int32)) + (-1 : Int32))), (0, .int X0), (2, .ref p), (6, .int X6)]) H_84 hq (z_at.mk 1 rfl rfl) (show zAz 38 2 100 = true from rfl) (tx_ineg hx0) g_102 rfl rfl ?_
        intro V_102 hV_102
        obtain ⟨g_103, h⟩ := z_ifo_some h
        refine r_bsP (pc' := 104) (L' := [(2, .ref p), (5, .int ((X5 + (-1 : Int32)) + (-1 : Int32))), (6, .int X6)]) H_84 hq (z_at.mk 1 rfl rfl) (tx_iaddn (tx_iaddn hx5 (rfl : (-1 : Int32).toInt = -1)) (rfl : (-1 : Int32).toInt = -1)) g_103 hV_102 rfl rfl ?_
        intro m_103 H_103
        exact g_jInteger_getChars_L104_ok (tx_iaddn (tx_iaddn hx5 (rfl : (-1 : Int32).toInt = -1)) (rfl : (-1 : Int32).toInt = -1)) hx6 H_103 h
    · refine r_f2 (pc' := 28) (L' := [(0, .int X0), (2, .ref p), (5, .int X5), (6, .int X6)]) hq (z_at.mk 3 rfl rfl) rfl hx0 (rfl : (-100 : Int32).toInt = -100) c_25 rfl rfl ?_
      refine r_p hq 2 (pc' := 31) (L' := [(0, .int X0), (2, .ref p), (5, .int X5), (6, .int X6)]) (st' := [.int ((100 : Int32)), .int X0]) rfl ?_
      refine r_idiv (pc' := 32) (L' := [(0, .int X0), (2, .ref p), (5, .int X5), (6, .int X6)]) hq (z_at.mk 1 rfl rfl) hx0 (rfl : (100 : Int32).toInt = 100) (by decide) rfl rfl ?_
      intro V_31 hV_31
      refine r_p hq 14 (pc' := 54) (L' := [(5, .int (X5 + (-1 : Int32))), (0, .int V_31), (4, .int ((V_31 * ((100 : Int32))) - X0)), (3, .int V_31), (2, .ref p), (6, .int X6)]) (st' := [.int ((V_31 * ((100 : Int32))) - X0), .ref 37, .int (X5 + (-1 : Int32)), .ref p]) rfl ?_
      obtain ⟨g_54, h⟩ := z_ifo_some h
      refine r_ba0 (pc' := 55) (L' := [(5, .int (X5 + (-1 : Int32))), (0, .int V_31), (4, .int ((V_31 * ((100 : Int32))) - X0)), (3, .int V_31), (2, .ref p), (6, .int X6)]) H hq (z_at.mk 1 rfl rfl) (show zAz 37 2 100 = true from rfl) (tx_isub (tx_imul hV_31 (rfl : (100 : Int32).toInt = 100)) hx0) g_54 rfl rfl ?_
      intro V_54 hV_54
      obtain ⟨g_55, h⟩ := z_ifo_some h
      refine r_bsP (pc' := 56) (L' := [(5, .int (X5 + (-1 : Int32))), (0, .int V_31), (4, .int ((V_31 * ((100 : Int32))) - X0)), (3, .int V_31), (2, .ref p), (6, .int X6)]) H hq (z_at.mk 1 rfl rfl) (tx_iaddn hx5 (rfl : (-1 : Int32).toInt = -1)) g_55 hV_54 rfl rfl ?_
      intro m_55 H_55
      refine r_p hq 5 (pc' := 67) (L' := [(5, .int ((X5 + (-1 : Int32)) + (-1 : Int32))), (0, .int V_31), (4, .int ((V_31 * ((100 : Int32))) - X0)), (3, .int V_31), (2, .ref p), (6, .int X6)]) (st' := [.int ((V_31 * ((100 : Int32))) - X0), .ref 38, .int ((X5 + (-1 : Int32)) + (-1 : Int32)), .ref p]) rfl ?_
      obtain ⟨g_67, h⟩ := z_ifo_some h
      refine r_ba0 (pc' := 68) (L' := [(5, .int ((X5 + (-1 : Int32)) + (-1 : Int32))), (0, .int V_31), (4, .int ((V_31 * ((100 : Int32))) - X0)), (3, .int V_31), (2, .ref p), (6, .int X6)]) H_55 hq (z_at.mk 1 rfl rfl) (show zAz 38 2 100 = true from rfl) (tx_isub (tx_imul hV_31 (rfl : (100 : Int32).toInt = 100)) hx0) g_67 rfl rfl ?_
      intro V_67 hV_67
      obtain ⟨g_68, h⟩ := z_ifo_some h
      refine r_bsP (pc' := 69) (L' := [(5, .int ((X5 + (-1 : Int32)) + (-1 : Int32))), (0, .int V_31), (4, .int ((V_31 * ((100 : Int32))) - X0)), (3, .int V_31), (2, .ref p), (6, .int X6)]) H_55 hq (z_at.mk 1 rfl rfl) (tx_iaddn (tx_iaddn hx5 (rfl : (-1 : Int32).toInt = -1)) (rfl : (-1 : Int32).toInt = -1)) g_68 hV_67 rfl rfl ?_
      intro m_68 H_68
      refine r_p hq 1 (pc' := 22) (L' := [(0, .int V_31), (2, .ref p), (5, .int ((X5 + (-1 : Int32)) + (-1 : Int32))), (6, .int X6)]) (st' := []) rfl ?_
      exact ih hV_31 (tx_iaddn (tx_iaddn hx5 (rfl : (-1 : Int32).toInt = -1)) (rfl : (-1 : Int32).toInt = -1)) hx6 H_68 h
def g_jInteger_getChars_L12 (x0 : Int) (x5 : Int) (xs0 : Int) (σ : zS) : Option (Int × zS) :=
  if xs0 ≠ 0 then
    g_jInteger_getChars_L22 zK x0 x5 xs0 σ
  else
    g_jInteger_getChars_L22 zK (w32 (-x0)) x5 xs0 σ
set_option maxHeartbeats 4000000 in
theorem g_jInteger_getChars_L12_ok {xl : Nat} {xs : Nat → Int32} {X0 : Int32} {x0 : Int} (hx0 : X0.toInt = x0) {X5 : Int32} {x5 : Int} (hx5 : X5.toInt = x5) {Xs0 : Int32} {xs0 : Int} (hxs0 : Xs0.toInt = xs0) {σ : zS} {p : Nat} {m : zM} {o : Int × zS} (H : zRep xl xs p m σ) (h : g_jInteger_getChars_L12 x0 x5 xs0 σ = some o) : zGo xl xs (fun p' => p = p') 1 284 12 [(0, .int X0), (2, .ref p), (5, .int X5)] [.int Xs0] m (vI o.1) o.2 := by
  have hq : z_mth 284 = some z_r284 := rfl
  unfold g_jInteger_getChars_L12 at h
  refine r_p hq 2 (pc' := 16) (L' := [(6, .int Xs0), (0, .int X0), (2, .ref p), (5, .int X5)]) (st' := [.int Xs0]) rfl ?_
  rcases z_ite h with ⟨c_16, h⟩ | ⟨c_16, h⟩
  · refine r_t1 (pc' := 22) (L' := [(0, .int X0), (2, .ref p), (5, .int X5), (6, .int Xs0)]) hq (z_at.mk 3 rfl rfl) rfl hxs0 c_16 rfl rfl ?_
    exact g_jInteger_getChars_L22_ok zK hx0 hx5 hxs0 H h
  · refine r_f1 (pc' := 19) (L' := [(6, .int Xs0), (0, .int X0), (2, .ref p), (5, .int X5)]) hq (z_at.mk 3 rfl rfl) rfl hxs0 c_16 rfl rfl ?_
    refine r_p hq 3 (pc' := 22) (L' := [(0, .int (-X0)), (2, .ref p), (5, .int X5), (6, .int Xs0)]) (st' := []) rfl ?_
    exact g_jInteger_getChars_L22_ok zK (tx_ineg hx0) hx5 hxs0 H h
def g_jInteger_getChars (x0 : Int) (x1 : Int) (σ : zS) : Option (Int × zS) :=
  if 0 ≤ x0 then
    g_jInteger_getChars_L12 x0 x1 0 σ
  else
    g_jInteger_getChars_L12 x0 x1 1 σ
set_option maxHeartbeats 4000000 in
theorem g_jInteger_getChars_ok {xl : Nat} {xs : Nat → Int32} {X0 : Int32} {x0 : Int} (hx0 : X0.toInt = x0) {X1 : Int32} {x1 : Int} (hx1 : X1.toInt = x1) {σ : zS} {p : Nat} {m : zM} {o : Int × zS} (H : zRep xl xs p m σ) (h : g_jInteger_getChars x0 x1 σ = some o) : zGo xl xs (fun p' => p = p') 1 284 0 (z_can 284 0 (lv_args 0 [.int X0, .int X1, .ref p])) [] m (vI o.1) o.2 := by
  have hq : z_mth 284 = some z_r284 := rfl
  unfold g_jInteger_getChars at h
  show zGo xl xs (fun p' => p = p') 1 284 0 [(0, .int X0), (1, .int X1), (2, .ref p)] [] m (vI o.1) o.2
  refine r_p hq 3 (pc' := 4) (L' := [(5, .int X1), (0, .int X0), (1, .int X1), (2, .ref p)]) (st' := [.int X0]) rfl ?_
  rcases z_ite h with ⟨c_4, h⟩ | ⟨c_4, h⟩
  · refine r_t1 (pc' := 11) (L' := [(5, .int X1), (0, .int X0), (1, .int X1), (2, .ref p)]) hq (z_at.mk 3 rfl rfl) rfl hx0 c_4 rfl rfl ?_
    refine r_p hq 1 (pc' := 12) (L' := [(0, .int X0), (2, .ref p), (5, .int X1)]) (st' := [.int ((0 : Int32))]) rfl ?_
    exact g_jInteger_getChars_L12_ok hx0 hx1 (rfl : (0 : Int32).toInt = 0) H h
  · refine r_f1 (pc' := 7) (L' := [(5, .int X1), (0, .int X0), (1, .int X1), (2, .ref p)]) hq (z_at.mk 3 rfl rfl) rfl hx0 c_4 rfl rfl ?_
    refine r_p hq 2 (pc' := 12) (L' := [(0, .int X0), (2, .ref p), (5, .int X1)]) (st' := [.int ((1 : Int32))]) rfl ?_
    exact g_jInteger_getChars_L12_ok hx0 hx1 (rfl : (1 : Int32).toInt = 1) H h
def g_jInteger_stringSize_L16 : Nat → Int → Int → Int → Int → zS → Option (Int × zS)
  | 0, _, _, _, _, _ => none
  | n + 1, x0, x1, x2, x3, σ =>
    if 10 ≤ x3 then
      some (w32 (10 + x1), σ)
    else
      if x0 ≤ x2 then
        (g_jInteger_stringSize_L16 n) x0 x1 (w32 (10 * x2)) (w32 (x3 + 1)) σ
      else
        some (w32 (x3 + x1), σ)
set_option maxHeartbeats 4000000 in
theorem g_jInteger_stringSize_L16_ok {xl : Nat} {xs : Nat → Int32} : ∀ (n : Nat) {X0 : Int32} {x0 : Int} {X1 : Int32} {x1 : Int} {X2 : Int32} {x2 : Int} {X3 : Int32} {x3 : Int} {σ : zS} {p : Nat} {m : zM} {o : Int × zS}, X0.toInt = x0 → X1.toInt = x1 → X2.toInt = x2 → X3.toInt = x3 → zRep xl xs p m σ → g_jInteger_stringSize_L16 n x0 x1 x2 x3 σ = some o → zGo xl xs (fun p' => p = p') 1 285 16 [(0, .int X0), (1, .int X1), (2, .int X2), (3, .int X3)] [] m (vI o.1) o.2
  | 0, _, _, _, _, _, _, _, _, _, _, _, _, _, _, _, _, _, h => by cases h
  | n + 1, X0, x0, X1, x1, X2, x2, X3, x3, σ, p, m, o, hx0, hx1, hx2, hx3, H, h => by
    have hq : z_mth 285 = some z_r285 := rfl
    have ih := fun {X0 : Int32} {x0 : Int} {X1 : Int32} {x1 : Int} {X2 : Int32} {x2 : Int} {X3 : Int32} {x3 : Int} {σ : zS} {p : Nat} {m : zM} {o : Int × zS} => g_jInteger_stringSize_L16_ok (xl := xl) (xs := xs) n (X0 := X0) (x0 := x0) (X1 := X1) (x1 := x1) (X2 := X2) (x2 := x2) (X3 := X3) (x3 := x3) (σ := σ) (p := p) (m := m) (o := o)
    unfold g_jInteger_stringSize_L16 at h
    refine r_p hq 2 (pc' := 19) (L' := [(0, .int X0), (1, .int X1), (2, .int X2), (3, .int X3)]) (st' := [.int ((10 : Int32)), .int X3]) rfl ?_
    rcases z_ite h with ⟨c_19, h⟩ | ⟨c_19, h⟩
    · refine r_t2 (pc' := 42) (L' := [(0, .int X0), (1, .int X1), (2, .int X2), (3, .int X3)]) hq (z_at.mk 3 rfl rfl) rfl hx3 (rfl : (10 : Int32).toInt = 10) c_19 rfl rfl ?_
      refine r_p hq 3 (pc' := 46) (L' := [(0, .int X0), (1, .int X1), (2, .int X2), (3, .int X3)]) (st' := [.int (((10 : Int32)) + X1)]) rfl ?_
      cases h
      exact r_ri hq (z_at.mk 1 rfl rfl) rfl rfl (tx_iadd (rfl : (10 : Int32).toInt = 10) hx1) rfl H
    · refine r_f2 (pc' := 22) (L' := [(0, .int X0), (1, .int X1), (2, .int X2), (3, .int X3)]) hq (z_at.mk 3 rfl rfl) rfl hx3 (rfl : (10 : Int32).toInt = 10) c_19 rfl rfl ?_
      refine r_p hq 2 (pc' := 24) (L' := [(0, .int X0), (1, .int X1), (2, .int X2), (3, .int X3)]) (st' := [.int X2, .int X0]) rfl ?_
      rcases z_ite h with ⟨c_24, h⟩ | ⟨c_24, h⟩
      · refine r_t2 (pc' := 31) (L' := [(0, .int X0), (1, .int X1), (2, .int X2), (3, .int X3)]) hq (z_at.mk 3 rfl rfl) rfl hx0 hx2 c_24 rfl rfl ?_
        refine r_p hq 6 (pc' := 16) (L' := [(0, .int X0), (1, .int X1), (2, .int (((10 : Int32)) * X2)), (3, .int (X3 + (1 : Int32)))]) (st' := []) rfl ?_
        exact ih hx0 hx1 (tx_imul (rfl : (10 : Int32).toInt = 10) hx2) (tx_iadd hx3 (rfl : (1 : Int32).toInt = 1)) H h
      · refine r_f2 (pc' := 27) (L' := [(0, .int X0), (1, .int X1), (2, .int X2), (3, .int X3)]) hq (z_at.mk 3 rfl rfl) rfl hx0 hx2 c_24 rfl rfl ?_
        refine r_p hq 3 (pc' := 30) (L' := [(0, .int X0), (1, .int X1), (2, .int X2), (3, .int X3)]) (st' := [.int (X3 + X1)]) rfl ?_
        cases h
        exact r_ri hq (z_at.mk 1 rfl rfl) rfl rfl (tx_iadd hx3 hx1) rfl H
def g_jInteger_stringSize_L11 (x0 : Int) (x1 : Int) (σ : zS) : Option (Int × zS) :=
  g_jInteger_stringSize_L16 zK x0 x1 (-10) 1 σ
set_option maxHeartbeats 4000000 in
theorem g_jInteger_stringSize_L11_ok {xl : Nat} {xs : Nat → Int32} {X0 : Int32} {x0 : Int} (hx0 : X0.toInt = x0) {X1 : Int32} {x1 : Int} (hx1 : X1.toInt = x1) {σ : zS} {p : Nat} {m : zM} {o : Int × zS} (H : zRep xl xs p m σ) (h : g_jInteger_stringSize_L11 x0 x1 σ = some o) : zGo xl xs (fun p' => p = p') 1 285 11 [(0, .int X0), (1, .int X1)] [] m (vI o.1) o.2 := by
  have hq : z_mth 285 = some z_r285 := rfl
  unfold g_jInteger_stringSize_L11 at h
  refine r_p hq 4 (pc' := 16) (L' := [(0, .int X0), (1, .int X1), (2, .int ((-10 : Int32))), (3, .int ((1 : Int32)))]) (st' := []) rfl ?_
  exact g_jInteger_stringSize_L16_ok zK hx0 hx1 (rfl : (-10 : Int32).toInt = -10) (rfl : (1 : Int32).toInt = 1) H h
def g_jInteger_stringSize (x0 : Int) (σ : zS) : Option (Int × zS) :=
  if x0 < 0 then
    g_jInteger_stringSize_L11 x0 1 σ
  else
    g_jInteger_stringSize_L11 (w32 (-x0)) 0 σ
set_option maxHeartbeats 4000000 in
theorem g_jInteger_stringSize_ok {xl : Nat} {xs : Nat → Int32} {X0 : Int32} {x0 : Int} (hx0 : X0.toInt = x0) {σ : zS} {p : Nat} {m : zM} {o : Int × zS} (H : zRep xl xs p m σ) (h : g_jInteger_stringSize x0 σ = some o) : zGo xl xs (fun p' => p = p') 1 285 0 (z_can 285 0 (lv_args 0 [.int X0])) [] m (vI o.1) o.2 := by
  have hq : z_mth 285 = some z_r285 := rfl
  unfold g_jInteger_stringSize at h
  show zGo xl xs (fun p' => p = p') 1 285 0 [(0, .int X0)] [] m (vI o.1) o.2
  refine r_p hq 3 (pc' := 3) (L' := [(1, .int ((1 : Int32))), (0, .int X0)]) (st' := [.int X0]) rfl ?_
  rcases z_ite h with ⟨c_3, h⟩ | ⟨c_3, h⟩
  · refine r_t1 (pc' := 11) (L' := [(0, .int X0), (1, .int ((1 : Int32)))]) hq (z_at.mk 3 rfl rfl) rfl hx0 c_3 rfl rfl ?_
    exact g_jInteger_stringSize_L11_ok hx0 (rfl : (1 : Int32).toInt = 1) H h
  · refine r_f1 (pc' := 6) (L' := [(1, .int ((1 : Int32))), (0, .int X0)]) hq (z_at.mk 3 rfl rfl) rfl hx0 c_3 rfl rfl ?_
    refine r_p hq 5 (pc' := 11) (L' := [(0, .int (-X0)), (1, .int ((0 : Int32)))]) (st' := []) rfl ?_
    exact g_jInteger_stringSize_L11_ok (tx_ineg hx0) (rfl : (0 : Int32).toInt = 0) H h
def g_jAbstractStringBuilder_append_280_L48 (x3 : Int) (σ : zS) : Option (Unit × zS) :=
  let s_50 := zu σ 129 3 x3
  some ((), s_50)
set_option maxHeartbeats 4000000 in
theorem g_jAbstractStringBuilder_append_280_L48_ok {xl : Nat} {xs : Nat → Int32} {X3 : Int32} {x3 : Int} (hx3 : X3.toInt = x3) {σ : zS} {p : Nat} {m : zM} {o : Unit × zS} (H : zRep xl xs p m σ) (h : g_jAbstractStringBuilder_append_280_L48 x3 σ = some o) : zGo xl xs (fun _ => True) 11 280 48 [(0, .ref 129), (3, .int X3)] [] m (vR (129)) o.2 := by
  have hq : z_mth 280 = some z_r280 := rfl
  unfold g_jAbstractStringBuilder_append_280_L48 at h
  refine r_p hq 2 (pc' := 50) (L' := [(0, .ref 129), (3, .int X3)]) (st' := [.int X3, .ref 129]) rfl ?_
  refine r_pI (X := X3) (pc' := 53) (L' := [(0, .ref 129), (3, .int X3)]) H hq (z_at.mk 3 rfl rfl) rfl rfl hx3 (by decide) rfl rfl rfl rfl ?_
  intro m_50 H_50
  refine r_p hq 1 (pc' := 54) (L' := [(0, .ref 129), (3, .int X3)]) (st' := [.ref 129]) rfl ?_
  cases h
  exact r_ra hq (z_at.mk 1 rfl rfl) rfl trivial H_50
def g_jAbstractStringBuilder_append_280 (x1 : Int) (σ : zS) : Option (Unit × zS) :=
  let v_1 := σ 129 3
  (g_jInteger_stringSize x1 σ).bind fun o_7 =>
  (g_sb_ensure (w32 (v_1 + o_7.1)) o_7.2).bind fun o_14 =>
  (g_jAbstractStringBuilder_isLatin1 o_14.2).bind fun o_18 =>
  if o_18.1 = 0 then
    none
  else
    (g_jInteger_getChars x1 (w32 (v_1 + o_7.1)) o_18.2).bind fun o_30 =>
    g_jAbstractStringBuilder_append_280_L48 (w32 (v_1 + o_7.1)) o_30.2
set_option maxHeartbeats 4000000 in
theorem g_jAbstractStringBuilder_append_280_ok {xl : Nat} {xs : Nat → Int32} {X1 : Int32} {x1 : Int} (hx1 : X1.toInt = x1) {σ : zS} {p : Nat} {m : zM} {o : Unit × zS} (H : zRep xl xs p m σ) (h : g_jAbstractStringBuilder_append_280 x1 σ = some o) : zGo xl xs (fun _ => True) 11 280 0 (z_can 280 0 (lv_args 0 [.ref 129, .int X1])) [] m (vR (129)) o.2 := by
  have hq : z_mth 280 = some z_r280 := rfl
  unfold g_jAbstractStringBuilder_append_280 at h
  show zGo xl xs (fun _ => True) 11 280 0 [(0, .ref 129), (1, .int X1)] [] m (vR (129)) o.2
  refine r_p hq 1 (pc' := 1) (L' := [(0, .ref 129), (1, .int X1)]) (st' := [.ref 129]) rfl ?_
  refine r_gI (pc' := 4) (L' := [(0, .ref 129), (1, .int X1)]) H hq (z_at.mk 3 rfl rfl) rfl rfl rfl rfl ?_
  intro V_1 hV_1
  refine r_p hq 3 (pc' := 7) (L' := [(2, .int V_1), (0, .ref 129), (1, .int X1)]) (st' := [.int X1, .int V_1]) rfl ?_
  obtain ⟨o_7, h_7, h⟩ := Option.bind_eq_some_iff.mp h
  refine r_csI (pc' := 10) (L' := [(2, .int V_1), (0, .ref 129), (1, .int X1)]) (As := [.int X1]) (rest := [.int V_1]) (j := 285) hq (z_at.mk 3 rfl rfl) (Or.inl ⟨rfl, rfl⟩) rfl rfl (by omega) (g_jInteger_stringSize_ok hx1 H h_7) rfl rfl ?_
  intro R_7 m_7 p_7 e_7 hR_7 H_7
  subst e_7
  refine r_p hq 4 (pc' := 14) (L' := [(3, .int (V_1 + R_7)), (2, .int V_1), (0, .ref 129), (1, .int X1)]) (st' := [.int (V_1 + R_7), .ref 129]) rfl ?_
  obtain ⟨o_14, h_14, h⟩ := Option.bind_eq_some_iff.mp h
  refine r_cvV (pc' := 17) (L' := [(3, .int (V_1 + R_7)), (2, .int V_1), (0, .ref 129), (1, .int X1)]) (Ps := [.int (V_1 + R_7)]) (rest := []) hq (z_at.mk 3 rfl rfl) (Or.inl ⟨rfl, rfl⟩) rfl rfl (by decide) (by decide) rfl (Nat.not_lt.mpr (Nat.le_of_ble_eq_true rfl)) rfl rfl (z_cat_le 0 rfl (by decide)) (z_lgl_le 2 rfl (by decide)) (by decide) (H_7.tg rfl) (by omega) (g_sb_ensure_ok (tx_iadd hV_1 hR_7) H_7 h_14) rfl rfl ?_
  intro m_14 p_14 e_14 H_14
  refine r_p hq 1 (pc' := 18) (L' := [(3, .int (V_1 + R_7)), (2, .int V_1), (0, .ref 129), (1, .int X1)]) (st' := [.ref 129]) rfl ?_
  obtain ⟨o_18, h_18, h⟩ := Option.bind_eq_some_iff.mp h
  refine r_cvI (pc' := 21) (L' := [(3, .int (V_1 + R_7)), (2, .int V_1), (0, .ref 129), (1, .int X1)]) (Ps := []) (rest := []) hq (z_at.mk 3 rfl rfl) (Or.inl ⟨rfl, rfl⟩) rfl rfl (by decide) (by decide) rfl (Nat.not_lt.mpr (Nat.le_of_ble_eq_true rfl)) rfl rfl (z_cat_le 0 rfl (by decide)) (z_lgl_le 1 rfl (by decide)) (by decide) (H_14.tg rfl) (by omega) (g_jAbstractStringBuilder_isLatin1_ok H_14 h_18) rfl rfl ?_
  intro R_18 m_18 p_18 e_18 hR_18 H_18
  subst e_18
  rcases z_ite h with ⟨c_21, h⟩ | ⟨c_21, h⟩
  · refine r_t1 (pc' := 37) (L' := [(3, .int (V_1 + R_7)), (2, .int V_1), (0, .ref 129), (1, .int X1)]) hq (z_at.mk 3 rfl rfl) rfl hR_18 c_21 rfl rfl ?_
    refine r_p hq 4 (pc' := 41) (L' := [(3, .int (V_1 + R_7)), (2, .int V_1), (0, .ref 129), (1, .int X1)]) (st' := [.ref 129, .int (V_1 + R_7), .int V_1, .int X1]) rfl ?_
    refine r_gP (pc' := 44) (L' := [(3, .int (V_1 + R_7)), (2, .int V_1), (0, .ref 129), (1, .int X1)]) H_18 hq (z_at.mk 3 rfl rfl) rfl rfl rfl ?_
    cases h
  · refine r_f1 (pc' := 24) (L' := [(3, .int (V_1 + R_7)), (2, .int V_1), (0, .ref 129), (1, .int X1)]) hq (z_at.mk 3 rfl rfl) rfl hR_18 c_21 rfl rfl ?_
    refine r_p hq 3 (pc' := 27) (L' := [(3, .int (V_1 + R_7)), (2, .int V_1), (0, .ref 129), (1, .int X1)]) (st' := [.ref 129, .int (V_1 + R_7), .int X1]) rfl ?_
    refine r_gP (pc' := 30) (L' := [(3, .int (V_1 + R_7)), (2, .int V_1), (0, .ref 129), (1, .int X1)]) H_18 hq (z_at.mk 3 rfl rfl) rfl rfl rfl ?_
    obtain ⟨o_30, h_30, h⟩ := Option.bind_eq_some_iff.mp h
    refine r_csI (pc' := 33) (L' := [(3, .int (V_1 + R_7)), (2, .int V_1), (0, .ref 129), (1, .int X1)]) (As := [.int X1, .int (V_1 + R_7), .ref p_14]) (rest := []) (j := 284) hq (z_at.mk 3 rfl rfl) (Or.inl ⟨rfl, rfl⟩) rfl rfl (by omega) (g_jInteger_getChars_ok hx1 (tx_iadd hV_1 hR_7) H_18 h_30) rfl rfl ?_
    intro R_30 m_30 p_30 e_30 hR_30 H_30
    subst e_30
    refine r_p hq 2 (pc' := 48) (L' := [(0, .ref 129), (3, .int (V_1 + R_7))]) (st' := []) rfl ?_
    exact g_jAbstractStringBuilder_append_280_L48_ok (tx_iadd hV_1 hR_7) H_30 h
