/-! THE METHODS over the typed memory, 11 (by wip/zg.py) -/
def g_m_queries_L104 (g6 : Int → zS → Option (Unit × zS)) (x1 : Int) (σ : zS) : Option (Unit × zS) :=
  g6 (w32 (x1 + 1)) σ
set_option maxHeartbeats 4000000 in
theorem g_m_queries_L104_ok {xl : Nat} {xs : Nat → Int32} {g6 : Int → zS → Option (Unit × zS)} (hg6 : ∀ {X1 : Int32} {x1 : Int} {σ : zS} {p : Nat} {m : zM} {o : Unit × zS}, X1.toInt = x1 → zRep xl xs p m σ → g6 x1 σ = some o → zGo xl xs (fun p' => p = p') 7 189 6 [(0, .ref 143), (1, .int X1)] [] m vV o.2) {X1 : Int32} {x1 : Int} (hx1 : X1.toInt = x1) {σ : zS} {p : Nat} {m : zM} {o : Unit × zS} (H : zRep xl xs p m σ) (h : g_m_queries_L104 g6 x1 σ = some o) : zGo xl xs (fun p' => p = p') 7 189 104 [(0, .ref 143), (1, .int X1)] [] m vV o.2 := by
  have hq : z_mth 189 = some z_r189 := rfl
  unfold g_m_queries_L104 at h
  refine r_p hq 2 (pc' := 6) (L' := [(0, .ref 143), (1, .int (X1 + (1 : Int32)))]) (st' := []) rfl ?_
  exact hg6 (tx_iadd hx1 (rfl : (1 : Int32).toInt = 1)) H h
def g_m_queries_L189 : Nat → Int → zS → Option (Unit × zS)
  | 0, _, _ => none
  | n + 1, x1, σ =>
    if x1 = 0 then
      (g_m_trims σ).bind fun o_202 =>
      some ((), o_202.2)
    else
      (g_m_isMerged σ).bind fun o_194 =>
      (g_m_queries_L189 n) o_194.1 o_194.2
set_option maxHeartbeats 4000000 in
theorem g_m_queries_L189_ok {xl : Nat} {xs : Nat → Int32} : ∀ (n : Nat) {X1 : Int32} {x1 : Int} {σ : zS} {p : Nat} {m : zM} {o : Unit × zS}, X1.toInt = x1 → zRep xl xs p m σ → g_m_queries_L189 n x1 σ = some o → zGo xl xs (fun p' => p = p') 7 189 189 [(0, .ref 143), (1, .int X1)] [] m vV o.2
  | 0, _, _, _, _, _, _, _, _, h => by cases h
  | n + 1, X1, x1, σ, p, m, o, hx1, H, h => by
    have hq : z_mth 189 = some z_r189 := rfl
    have ih := fun {X1 : Int32} {x1 : Int} {σ : zS} {p : Nat} {m : zM} {o : Unit × zS} => g_m_queries_L189_ok (xl := xl) (xs := xs) n (X1 := X1) (x1 := x1) (σ := σ) (p := p) (m := m) (o := o)
    unfold g_m_queries_L189 at h
    refine r_p hq 1 (pc' := 190) (L' := [(0, .ref 143), (1, .int X1)]) (st' := [.int X1]) rfl ?_
    rcases z_ite h with ⟨c_190, h⟩ | ⟨c_190, h⟩
    · refine r_t1 (pc' := 201) (L' := [(0, .ref 143), (1, .int X1)]) hq (z_at.mk 3 rfl rfl) rfl hx1 c_190 rfl rfl ?_
      refine r_p hq 1 (pc' := 202) (L' := [(0, .ref 143), (1, .int X1)]) (st' := [.ref 143]) rfl ?_
      obtain ⟨o_202, h_202, h⟩ := Option.bind_eq_some_iff.mp h
      refine r_cvV (pc' := 205) (L' := [(0, .ref 143), (1, .int X1)]) (Ps := []) (rest := []) hq (z_at.mk 3 rfl rfl) (Or.inl ⟨rfl, rfl⟩) rfl rfl (by decide) (by decide) rfl (Nat.not_lt.mpr (Nat.le_of_ble_eq_true rfl)) rfl rfl (z_cat_le 0 rfl (by decide)) (z_lgl_le 1 rfl (by decide)) (by decide) (H.tg rfl) (by omega) (g_m_trims_ok H h_202) rfl rfl ?_
      intro m_202 p_202 e_202 H_202
      subst e_202
      cases h
      exact r_rv hq (z_at.mk 1 rfl rfl) rfl rfl H_202
    · refine r_f1 (pc' := 193) (L' := [(0, .ref 143), (1, .int X1)]) hq (z_at.mk 3 rfl rfl) rfl hx1 c_190 rfl rfl ?_
      refine r_p hq 1 (pc' := 194) (L' := [(0, .ref 143), (1, .int X1)]) (st' := [.ref 143]) rfl ?_
      obtain ⟨o_194, h_194, h⟩ := Option.bind_eq_some_iff.mp h
      refine r_cvI (pc' := 197) (L' := [(0, .ref 143), (1, .int X1)]) (Ps := []) (rest := []) hq (z_at.mk 3 rfl rfl) (Or.inl ⟨rfl, rfl⟩) rfl rfl (by decide) (by decide) rfl (Nat.not_lt.mpr (Nat.le_of_ble_eq_true rfl)) rfl rfl (z_cat_le 0 rfl (by decide)) (z_lgl_le 1 rfl (by decide)) (by decide) (H.tg rfl) (by omega) (g_m_isMerged_ok H h_194) rfl rfl ?_
      intro R_194 m_194 p_194 e_194 hR_194 H_194
      subst e_194
      refine r_p hq 2 (pc' := 189) (L' := [(0, .ref 143), (1, .int R_194)]) (st' := []) rfl ?_
      exact ih hR_194 H_194 h
def g_m_queries_L188 (xs0 : Int) (σ : zS) : Option (Unit × zS) :=
  g_m_queries_L189 zK xs0 σ
set_option maxHeartbeats 4000000 in
theorem g_m_queries_L188_ok {xl : Nat} {xs : Nat → Int32} {Xs0 : Int32} {xs0 : Int} (hxs0 : Xs0.toInt = xs0) {σ : zS} {p : Nat} {m : zM} {o : Unit × zS} (H : zRep xl xs p m σ) (h : g_m_queries_L188 xs0 σ = some o) : zGo xl xs (fun p' => p = p') 7 189 188 [(0, .ref 143)] [.int Xs0] m vV o.2 := by
  have hq : z_mth 189 = some z_r189 := rfl
  unfold g_m_queries_L188 at h
  refine r_p hq 1 (pc' := 189) (L' := [(0, .ref 143), (1, .int Xs0)]) (st' := []) rfl ?_
  exact g_m_queries_L189_ok zK hxs0 H h
def g_m_queries_L166 (g112 : Int → zS → Option (Unit × zS)) (x1 : Int) (σ : zS) : Option (Unit × zS) :=
  g112 (w32 (x1 + 1)) σ
set_option maxHeartbeats 4000000 in
theorem g_m_queries_L166_ok {xl : Nat} {xs : Nat → Int32} {g112 : Int → zS → Option (Unit × zS)} (hg112 : ∀ {X1 : Int32} {x1 : Int} {σ : zS} {p : Nat} {m : zM} {o : Unit × zS}, X1.toInt = x1 → zRep xl xs p m σ → g112 x1 σ = some o → zGo xl xs (fun p' => p = p') 7 189 112 [(0, .ref 143), (1, .int X1)] [] m vV o.2) {X1 : Int32} {x1 : Int} (hx1 : X1.toInt = x1) {σ : zS} {p : Nat} {m : zM} {o : Unit × zS} (H : zRep xl xs p m σ) (h : g_m_queries_L166 g112 x1 σ = some o) : zGo xl xs (fun p' => p = p') 7 189 166 [(0, .ref 143), (1, .int X1)] [] m vV o.2 := by
  have hq : z_mth 189 = some z_r189 := rfl
  unfold g_m_queries_L166 at h
  refine r_p hq 2 (pc' := 112) (L' := [(0, .ref 143), (1, .int (X1 + (1 : Int32)))]) (st' := []) rfl ?_
  exact hg112 (tx_iadd hx1 (rfl : (1 : Int32).toInt = 1)) H h
def g_m_queries_L112 : Nat → Int → zS → Option (Unit × zS)
  | 0, _, _ => none
  | n + 1, x1, σ =>
    let v_114 := σ 143 10
    if v_114 ≤ x1 then
      let v_178 := σ 144 15
      if v_178 ≠ 1 then
        g_m_queries_L188 0 σ
      else
        g_m_queries_L188 1 σ
    else
      (g_m_asks 150 (w32 (4 * x1)) σ).bind fun o_128 =>
      (g_m_area 150 (w32 (4 * x1)) o_128.2).bind fun o_138 =>
      let v_147 := o_138.2 144 17
      if v_147 < o_138.1 then
        g_m_queries_L166 ((g_m_queries_L112 n)) x1 o_138.2
      else
        (g_m_adds 150 (w32 (4 * x1)) o_138.2).bind fun o_160 =>
        (g_m_weighs o_160.1 o_160.2).bind fun o_163 =>
        g_m_queries_L166 ((g_m_queries_L112 n)) x1 o_163.2
set_option maxHeartbeats 4000000 in
theorem g_m_queries_L112_ok {xl : Nat} {xs : Nat → Int32} : ∀ (n : Nat) {X1 : Int32} {x1 : Int} {σ : zS} {p : Nat} {m : zM} {o : Unit × zS}, X1.toInt = x1 → zRep xl xs p m σ → g_m_queries_L112 n x1 σ = some o → zGo xl xs (fun p' => p = p') 7 189 112 [(0, .ref 143), (1, .int X1)] [] m vV o.2
  | 0, _, _, _, _, _, _, _, _, h => by cases h
  | n + 1, X1, x1, σ, p, m, o, hx1, H, h => by
    have hq : z_mth 189 = some z_r189 := rfl
    have ih := fun {X1 : Int32} {x1 : Int} {σ : zS} {p : Nat} {m : zM} {o : Unit × zS} => g_m_queries_L112_ok (xl := xl) (xs := xs) n (X1 := X1) (x1 := x1) (σ := σ) (p := p) (m := m) (o := o)
    unfold g_m_queries_L112 at h
    refine r_p hq 2 (pc' := 114) (L' := [(0, .ref 143), (1, .int X1)]) (st' := [.ref 143, .int X1]) rfl ?_
    refine r_gI (pc' := 117) (L' := [(0, .ref 143), (1, .int X1)]) H hq (z_at.mk 3 rfl rfl) rfl rfl rfl rfl ?_
    intro V_114 hV_114
    rcases z_ite h with ⟨c_117, h⟩ | ⟨c_117, h⟩
    · refine r_t2 (pc' := 172) (L' := [(0, .ref 143), (1, .int X1)]) hq (z_at.mk 3 rfl rfl) rfl hx1 hV_114 c_117 rfl rfl ?_
      refine r_p hq 1 (pc' := 173) (L' := [(0, .ref 143), (1, .int X1)]) (st' := [.ref 143]) rfl ?_
      refine r_gR (b := 144) (pc' := 176) (L' := [(0, .ref 143), (1, .int X1)]) H hq (z_at.mk 3 rfl rfl) rfl rfl rfl rfl ?_
      refine r_p hq 1 (pc' := 178) (L' := [(0, .ref 143), (1, .int X1)]) (st' := [.int ((15 : Int32)), .ref 144]) rfl ?_
      refine r_ia (pc' := 179) (L' := [(0, .ref 143), (1, .int X1)]) H hq (z_at.mk 1 rfl rfl) (show zAr 144 0 2740 = true from rfl) (rfl : (15 : Int32).toInt = 15) ⟨by decide, by decide⟩ rfl rfl ?_
      intro V_178 hV_178
      refine r_p hq 1 (pc' := 180) (L' := [(0, .ref 143), (1, .int X1)]) (st' := [.int ((1 : Int32)), .int V_178]) rfl ?_
      rcases z_ite h with ⟨c_180, h⟩ | ⟨c_180, h⟩
      · refine r_t2 (pc' := 187) (L' := [(0, .ref 143), (1, .int X1)]) hq (z_at.mk 3 rfl rfl) rfl hV_178 (rfl : (1 : Int32).toInt = 1) c_180 rfl rfl ?_
        refine r_p hq 1 (pc' := 188) (L' := [(0, .ref 143)]) (st' := [.int ((0 : Int32))]) rfl ?_
        exact g_m_queries_L188_ok (rfl : (0 : Int32).toInt = 0) H h
      · refine r_f2 (pc' := 183) (L' := [(0, .ref 143), (1, .int X1)]) hq (z_at.mk 3 rfl rfl) rfl hV_178 (rfl : (1 : Int32).toInt = 1) c_180 rfl rfl ?_
        refine r_p hq 2 (pc' := 188) (L' := [(0, .ref 143)]) (st' := [.int ((1 : Int32))]) rfl ?_
        exact g_m_queries_L188_ok (rfl : (1 : Int32).toInt = 1) H h
    · refine r_f2 (pc' := 120) (L' := [(0, .ref 143), (1, .int X1)]) hq (z_at.mk 3 rfl rfl) rfl hx1 hV_114 c_117 rfl rfl ?_
      refine r_p hq 2 (pc' := 122) (L' := [(0, .ref 143), (1, .int X1)]) (st' := [.ref 143, .ref 143]) rfl ?_
      refine r_gR (b := 150) (pc' := 125) (L' := [(0, .ref 143), (1, .int X1)]) H hq (z_at.mk 3 rfl rfl) rfl rfl rfl rfl ?_
      refine r_p hq 3 (pc' := 128) (L' := [(0, .ref 143), (1, .int X1)]) (st' := [.int (((4 : Int32)) * X1), .ref 150, .ref 143]) rfl ?_
      obtain ⟨o_128, h_128, h⟩ := Option.bind_eq_some_iff.mp h
      refine r_cvV (pc' := 131) (L' := [(0, .ref 143), (1, .int X1)]) (Ps := [.ref 150, .int (((4 : Int32)) * X1)]) (rest := []) hq (z_at.mk 3 rfl rfl) (Or.inl ⟨rfl, rfl⟩) rfl rfl (by decide) (by decide) rfl (Nat.not_lt.mpr (Nat.le_of_ble_eq_true rfl)) rfl rfl (z_cat_le 0 rfl (by decide)) (z_lgl_le 3 rfl (by decide)) (by decide) (H.tg rfl) (by omega) (g_m_asks_ok rfl (tx_imul (rfl : (4 : Int32).toInt = 4) hx1) H h_128) rfl rfl ?_
      intro m_128 p_128 e_128 H_128
      subst e_128
      refine r_p hq 1 (pc' := 132) (L' := [(0, .ref 143), (1, .int X1)]) (st' := [.ref 143]) rfl ?_
      refine r_gR (b := 150) (pc' := 135) (L' := [(0, .ref 143), (1, .int X1)]) H_128 hq (z_at.mk 3 rfl rfl) rfl rfl rfl rfl ?_
      refine r_p hq 3 (pc' := 138) (L' := [(0, .ref 143), (1, .int X1)]) (st' := [.int (((4 : Int32)) * X1), .ref 150]) rfl ?_
      obtain ⟨o_138, h_138, h⟩ := Option.bind_eq_some_iff.mp h
      refine r_csI (pc' := 141) (L' := [(0, .ref 143), (1, .int X1)]) (As := [.ref 150, .int (((4 : Int32)) * X1)]) (rest := []) (j := 167) hq (z_at.mk 3 rfl rfl) (Or.inl ⟨rfl, rfl⟩) rfl rfl (by omega) (g_m_area_ok rfl (tx_imul (rfl : (4 : Int32).toInt = 4) hx1) H_128 h_138) rfl rfl ?_
      intro R_138 m_138 p_138 e_138 hR_138 H_138
      subst e_138
      refine r_p hq 1 (pc' := 142) (L' := [(0, .ref 143), (1, .int X1)]) (st' := [.ref 143, .int R_138]) rfl ?_
      refine r_gR (b := 144) (pc' := 145) (L' := [(0, .ref 143), (1, .int X1)]) H_138 hq (z_at.mk 3 rfl rfl) rfl rfl rfl rfl ?_
      refine r_p hq 1 (pc' := 147) (L' := [(0, .ref 143), (1, .int X1)]) (st' := [.int ((17 : Int32)), .ref 144, .int R_138]) rfl ?_
      refine r_ia (pc' := 148) (L' := [(0, .ref 143), (1, .int X1)]) H_138 hq (z_at.mk 1 rfl rfl) (show zAr 144 0 2740 = true from rfl) (rfl : (17 : Int32).toInt = 17) ⟨by decide, by decide⟩ rfl rfl ?_
      intro V_147 hV_147
      rcases z_ite h with ⟨c_148, h⟩ | ⟨c_148, h⟩
      · refine r_t2 (pc' := 166) (L' := [(0, .ref 143), (1, .int X1)]) hq (z_at.mk 3 rfl rfl) rfl hR_138 hV_147 c_148 rfl rfl ?_
        exact g_m_queries_L166_ok ih hx1 H_138 h
      · refine r_f2 (pc' := 151) (L' := [(0, .ref 143), (1, .int X1)]) hq (z_at.mk 3 rfl rfl) rfl hR_138 hV_147 c_148 rfl rfl ?_
        refine r_p hq 3 (pc' := 154) (L' := [(0, .ref 143), (1, .int X1)]) (st' := [.ref 143, .ref 143, .ref 143]) rfl ?_
        refine r_gR (b := 150) (pc' := 157) (L' := [(0, .ref 143), (1, .int X1)]) H_138 hq (z_at.mk 3 rfl rfl) rfl rfl rfl rfl ?_
        refine r_p hq 3 (pc' := 160) (L' := [(0, .ref 143), (1, .int X1)]) (st' := [.int (((4 : Int32)) * X1), .ref 150, .ref 143, .ref 143]) rfl ?_
        obtain ⟨o_160, h_160, h⟩ := Option.bind_eq_some_iff.mp h
        refine r_cvI (pc' := 163) (L' := [(0, .ref 143), (1, .int X1)]) (Ps := [.ref 150, .int (((4 : Int32)) * X1)]) (rest := [.ref 143]) hq (z_at.mk 3 rfl rfl) (Or.inl ⟨rfl, rfl⟩) rfl rfl (by decide) (by decide) rfl (Nat.not_lt.mpr (Nat.le_of_ble_eq_true rfl)) rfl rfl (z_cat_le 1 rfl (by decide)) (z_lgl_le 3 rfl (by decide)) (by decide) (H_138.tg rfl) (by omega) (g_m_adds_ok rfl (tx_imul (rfl : (4 : Int32).toInt = 4) hx1) H_138 h_160) rfl rfl ?_
        intro R_160 m_160 p_160 e_160 hR_160 H_160
        subst e_160
        obtain ⟨o_163, h_163, h⟩ := Option.bind_eq_some_iff.mp h
        refine r_cvV (pc' := 166) (L' := [(0, .ref 143), (1, .int X1)]) (Ps := [.int R_160]) (rest := []) hq (z_at.mk 3 rfl rfl) (Or.inl ⟨rfl, rfl⟩) rfl rfl (by decide) (by decide) rfl (Nat.not_lt.mpr (Nat.le_of_ble_eq_true rfl)) rfl rfl (z_cat_le 0 rfl (by decide)) (z_lgl_le 2 rfl (by decide)) (by decide) (H_160.tg rfl) (by omega) (g_m_weighs_ok hR_160 H_160 h_163) rfl rfl ?_
        intro m_163 p_163 e_163 H_163
        subst e_163
        exact g_m_queries_L166_ok ih hx1 H_163 h
def g_m_queries_L6 : Nat → Int → zS → Option (Unit × zS)
  | 0, _, _ => none
  | n + 1, x1, σ =>
    let v_12 := σ 144 0
    if v_12 ≤ x1 then
      g_m_queries_L112 zK 0 σ
    else
      (g_m_region_173 x1 σ).bind fun o_17 =>
      (g_m_doMeet 144 152 o_17.1 0 o_17.2).bind fun o_31 =>
      if o_31.1 ≠ 0 then
        if 0 ≤ w32 (o_17.1 + 9) ∧ w32 (o_17.1 + 9) < 2740 then
        let v_59 := o_31.2 144 (w32 (o_17.1 + 9))
        (g_m_less 9999 (w32 (v_59 + 1)) o_31.2).bind fun o_62 =>
        if 0 ≤ w32 (o_17.1 + 9) ∧ w32 (o_17.1 + 9) < 2740 then
        let s_65 := zu o_62.2 144 (w32 (o_17.1 + 9)) o_62.1
        (g_m_commons 144 152 153 o_17.1 0 0 s_65).bind fun o_81 =>
        (g_m_arounds 144 153 (w32 (o_17.1 + 4)) 0 o_81.2).bind fun o_96 =>
        (g_m_weighs x1 o_96.2).bind fun o_101 =>
        g_m_queries_L104 ((g_m_queries_L6 n)) x1 o_101.2
        else none
        else none
      else
        g_m_queries_L104 ((g_m_queries_L6 n)) x1 o_31.2
set_option maxHeartbeats 4000000 in
theorem g_m_queries_L6_ok {xl : Nat} {xs : Nat → Int32} : ∀ (n : Nat) {X1 : Int32} {x1 : Int} {σ : zS} {p : Nat} {m : zM} {o : Unit × zS}, X1.toInt = x1 → zRep xl xs p m σ → g_m_queries_L6 n x1 σ = some o → zGo xl xs (fun p' => p = p') 7 189 6 [(0, .ref 143), (1, .int X1)] [] m vV o.2
  | 0, _, _, _, _, _, _, _, _, h => by cases h
  | n + 1, X1, x1, σ, p, m, o, hx1, H, h => by
    have hq : z_mth 189 = some z_r189 := rfl
    have ih := fun {X1 : Int32} {x1 : Int} {σ : zS} {p : Nat} {m : zM} {o : Unit × zS} => g_m_queries_L6_ok (xl := xl) (xs := xs) n (X1 := X1) (x1 := x1) (σ := σ) (p := p) (m := m) (o := o)
    unfold g_m_queries_L6 at h
    refine r_p hq 2 (pc' := 8) (L' := [(0, .ref 143), (1, .int X1)]) (st' := [.ref 143, .int X1]) rfl ?_
    refine r_gR (b := 144) (pc' := 11) (L' := [(0, .ref 143), (1, .int X1)]) H hq (z_at.mk 3 rfl rfl) rfl rfl rfl rfl ?_
    refine r_p hq 1 (pc' := 12) (L' := [(0, .ref 143), (1, .int X1)]) (st' := [.int ((0 : Int32)), .ref 144, .int X1]) rfl ?_
    refine r_ia (pc' := 13) (L' := [(0, .ref 143), (1, .int X1)]) H hq (z_at.mk 1 rfl rfl) (show zAr 144 0 2740 = true from rfl) (rfl : (0 : Int32).toInt = 0) ⟨by decide, by decide⟩ rfl rfl ?_
    intro V_12 hV_12
    rcases z_ite h with ⟨c_13, h⟩ | ⟨c_13, h⟩
    · refine r_t2 (pc' := 110) (L' := [(0, .ref 143), (1, .int X1)]) hq (z_at.mk 3 rfl rfl) rfl hx1 hV_12 c_13 rfl rfl ?_
      refine r_p hq 2 (pc' := 112) (L' := [(0, .ref 143), (1, .int ((0 : Int32)))]) (st' := []) rfl ?_
      exact g_m_queries_L112_ok zK (rfl : (0 : Int32).toInt = 0) H h
    · refine r_f2 (pc' := 16) (L' := [(0, .ref 143), (1, .int X1)]) hq (z_at.mk 3 rfl rfl) rfl hx1 hV_12 c_13 rfl rfl ?_
      refine r_p hq 1 (pc' := 17) (L' := [(0, .ref 143), (1, .int X1)]) (st' := [.int X1]) rfl ?_
      obtain ⟨o_17, h_17, h⟩ := Option.bind_eq_some_iff.mp h
      refine r_csI (pc' := 20) (L' := [(0, .ref 143), (1, .int X1)]) (As := [.int X1]) (rest := []) (j := 173) hq (z_at.mk 3 rfl rfl) (Or.inl ⟨rfl, rfl⟩) rfl rfl (by omega) (g_m_region_173_ok hx1 H h_17) rfl rfl ?_
      intro R_17 m_17 p_17 e_17 hR_17 H_17
      subst e_17
      refine r_p hq 2 (pc' := 22) (L' := [(2, .int R_17), (0, .ref 143), (1, .int X1)]) (st' := [.ref 143]) rfl ?_
      refine r_gR (b := 144) (pc' := 25) (L' := [(2, .int R_17), (0, .ref 143), (1, .int X1)]) H_17 hq (z_at.mk 3 rfl rfl) rfl rfl rfl rfl ?_
      refine r_p hq 2 (pc' := 27) (L' := [(2, .int R_17), (0, .ref 143), (1, .int X1)]) (st' := [.ref 143, .int R_17, .ref 144]) rfl ?_
      refine r_gR (b := 152) (pc' := 30) (L' := [(2, .int R_17), (0, .ref 143), (1, .int X1)]) H_17 hq (z_at.mk 3 rfl rfl) rfl rfl rfl rfl ?_
      refine r_p hq 1 (pc' := 31) (L' := [(2, .int R_17), (0, .ref 143), (1, .int X1)]) (st' := [.int ((0 : Int32)), .ref 152, .int R_17, .ref 144]) rfl ?_
      obtain ⟨o_31, h_31, h⟩ := Option.bind_eq_some_iff.mp h
      refine r_csI (pc' := 34) (L' := [(2, .int R_17), (0, .ref 143), (1, .int X1)]) (As := [.ref 144, .int R_17, .ref 152, .int ((0 : Int32))]) (rest := []) (j := 169) hq (z_at.mk 3 rfl rfl) (Or.inl ⟨rfl, rfl⟩) rfl rfl (by omega) (g_m_doMeet_ok rfl rfl hR_17 (rfl : (0 : Int32).toInt = 0) H_17 h_31) rfl rfl ?_
      intro R_31 m_31 p_31 e_31 hR_31 H_31
      subst e_31
      rcases z_ite h with ⟨c_34, h⟩ | ⟨c_34, h⟩
      · refine r_t1 (pc' := 40) (L' := [(2, .int R_17), (0, .ref 143), (1, .int X1)]) hq (z_at.mk 3 rfl rfl) rfl hR_31 c_34 rfl rfl ?_
        refine r_p hq 1 (pc' := 41) (L' := [(2, .int R_17), (0, .ref 143), (1, .int X1)]) (st' := [.ref 143]) rfl ?_
        refine r_gR (b := 144) (pc' := 44) (L' := [(2, .int R_17), (0, .ref 143), (1, .int X1)]) H_31 hq (z_at.mk 3 rfl rfl) rfl rfl rfl rfl ?_
        refine r_p hq 5 (pc' := 52) (L' := [(2, .int R_17), (0, .ref 143), (1, .int X1)]) (st' := [.ref 143, .int ((9999 : Int32)), .int (R_17 + ((9 : Int32))), .ref 144]) rfl ?_
        refine r_gR (b := 144) (pc' := 55) (L' := [(2, .int R_17), (0, .ref 143), (1, .int X1)]) H_31 hq (z_at.mk 3 rfl rfl) rfl rfl rfl rfl ?_
        refine r_p hq 3 (pc' := 59) (L' := [(2, .int R_17), (0, .ref 143), (1, .int X1)]) (st' := [.int (R_17 + ((9 : Int32))), .ref 144, .int ((9999 : Int32)), .int (R_17 + ((9 : Int32))), .ref 144]) rfl ?_
        obtain ⟨g_59, h⟩ := z_ifo_some h
        refine r_ia (pc' := 60) (L' := [(2, .int R_17), (0, .ref 143), (1, .int X1)]) H_31 hq (z_at.mk 1 rfl rfl) (show zAr 144 0 2740 = true from rfl) (tx_iadd hR_17 (rfl : (9 : Int32).toInt = 9)) g_59 rfl rfl ?_
        intro V_59 hV_59
        refine r_p hq 2 (pc' := 62) (L' := [(2, .int R_17), (0, .ref 143), (1, .int X1)]) (st' := [.int (V_59 + ((1 : Int32))), .int ((9999 : Int32)), .int (R_17 + ((9 : Int32))), .ref 144]) rfl ?_
        obtain ⟨o_62, h_62, h⟩ := Option.bind_eq_some_iff.mp h
        refine r_csI (pc' := 65) (L' := [(2, .int R_17), (0, .ref 143), (1, .int X1)]) (As := [.int ((9999 : Int32)), .int (V_59 + ((1 : Int32)))]) (rest := [.int (R_17 + ((9 : Int32))), .ref 144]) (j := 160) hq (z_at.mk 3 rfl rfl) (Or.inl ⟨rfl, rfl⟩) rfl rfl (by omega) (g_m_less_ok (rfl : (9999 : Int32).toInt = 9999) (tx_iadd hV_59 (rfl : (1 : Int32).toInt = 1)) H_31 h_62) rfl rfl ?_
        intro R_62 m_62 p_62 e_62 hR_62 H_62
        subst e_62
        obtain ⟨g_65, h⟩ := z_ifo_some h
        refine r_is (pc' := 66) (L' := [(2, .int R_17), (0, .ref 143), (1, .int X1)]) H_62 hq (z_at.mk 1 rfl rfl) (show zAr 144 0 2740 = true from rfl) (tx_iadd hR_17 (rfl : (9 : Int32).toInt = 9)) g_65 hR_62 rfl rfl ?_
        intro m_65 H_65
        refine r_p hq 1 (pc' := 67) (L' := [(2, .int R_17), (0, .ref 143), (1, .int X1)]) (st' := [.ref 143]) rfl ?_
        refine r_gR (b := 144) (pc' := 70) (L' := [(2, .int R_17), (0, .ref 143), (1, .int X1)]) H_65 hq (z_at.mk 3 rfl rfl) rfl rfl rfl rfl ?_
        refine r_p hq 2 (pc' := 72) (L' := [(2, .int R_17), (0, .ref 143), (1, .int X1)]) (st' := [.ref 143, .int R_17, .ref 144]) rfl ?_
        refine r_gR (b := 152) (pc' := 75) (L' := [(2, .int R_17), (0, .ref 143), (1, .int X1)]) H_65 hq (z_at.mk 3 rfl rfl) rfl rfl rfl rfl ?_
        refine r_p hq 2 (pc' := 77) (L' := [(2, .int R_17), (0, .ref 143), (1, .int X1)]) (st' := [.ref 143, .int ((0 : Int32)), .ref 152, .int R_17, .ref 144]) rfl ?_
        refine r_gR (b := 153) (pc' := 80) (L' := [(2, .int R_17), (0, .ref 143), (1, .int X1)]) H_65 hq (z_at.mk 3 rfl rfl) rfl rfl rfl rfl ?_
        refine r_p hq 1 (pc' := 81) (L' := [(2, .int R_17), (0, .ref 143), (1, .int X1)]) (st' := [.int ((0 : Int32)), .ref 153, .int ((0 : Int32)), .ref 152, .int R_17, .ref 144]) rfl ?_
        obtain ⟨o_81, h_81, h⟩ := Option.bind_eq_some_iff.mp h
        refine r_csV (pc' := 84) (L' := [(2, .int R_17), (0, .ref 143), (1, .int X1)]) (As := [.ref 144, .int R_17, .ref 152, .int ((0 : Int32)), .ref 153, .int ((0 : Int32))]) (rest := []) (j := 170) hq (z_at.mk 3 rfl rfl) (Or.inl ⟨rfl, rfl⟩) rfl rfl (by omega) (g_m_commons_ok rfl rfl rfl hR_17 (rfl : (0 : Int32).toInt = 0) (rfl : (0 : Int32).toInt = 0) H_65 h_81) rfl rfl ?_
        intro m_81 p_81 e_81 H_81
        subst e_81
        refine r_p hq 1 (pc' := 85) (L' := [(2, .int R_17), (0, .ref 143), (1, .int X1)]) (st' := [.ref 143]) rfl ?_
        refine r_gR (b := 144) (pc' := 88) (L' := [(2, .int R_17), (0, .ref 143), (1, .int X1)]) H_81 hq (z_at.mk 3 rfl rfl) rfl rfl rfl rfl ?_
        refine r_p hq 4 (pc' := 92) (L' := [(2, .int R_17), (0, .ref 143), (1, .int X1)]) (st' := [.ref 143, .int (R_17 + ((4 : Int32))), .ref 144]) rfl ?_
        refine r_gR (b := 153) (pc' := 95) (L' := [(2, .int R_17), (0, .ref 143), (1, .int X1)]) H_81 hq (z_at.mk 3 rfl rfl) rfl rfl rfl rfl ?_
        refine r_p hq 1 (pc' := 96) (L' := [(2, .int R_17), (0, .ref 143), (1, .int X1)]) (st' := [.int ((0 : Int32)), .ref 153, .int (R_17 + ((4 : Int32))), .ref 144]) rfl ?_
        obtain ⟨o_96, h_96, h⟩ := Option.bind_eq_some_iff.mp h
        refine r_csV (pc' := 99) (L' := [(2, .int R_17), (0, .ref 143), (1, .int X1)]) (As := [.ref 144, .int (R_17 + ((4 : Int32))), .ref 153, .int ((0 : Int32))]) (rest := []) (j := 171) hq (z_at.mk 3 rfl rfl) (Or.inl ⟨rfl, rfl⟩) rfl rfl (by omega) (g_m_arounds_ok rfl rfl (tx_iadd hR_17 (rfl : (4 : Int32).toInt = 4)) (rfl : (0 : Int32).toInt = 0) H_81 h_96) rfl rfl ?_
        intro m_96 p_96 e_96 H_96
        subst e_96
        refine r_p hq 2 (pc' := 101) (L' := [(2, .int R_17), (0, .ref 143), (1, .int X1)]) (st' := [.int X1, .ref 143]) rfl ?_
        obtain ⟨o_101, h_101, h⟩ := Option.bind_eq_some_iff.mp h
        refine r_cvV (pc' := 104) (L' := [(0, .ref 143), (1, .int X1)]) (Ps := [.int X1]) (rest := []) hq (z_at.mk 3 rfl rfl) (Or.inl ⟨rfl, rfl⟩) rfl rfl (by decide) (by decide) rfl (Nat.not_lt.mpr (Nat.le_of_ble_eq_true rfl)) rfl rfl (z_cat_le 0 rfl (by decide)) (z_lgl_le 2 rfl (by decide)) (by decide) (H_96.tg rfl) (by omega) (g_m_weighs_ok hx1 H_96 h_101) rfl rfl ?_
        intro m_101 p_101 e_101 H_101
        subst e_101
        exact g_m_queries_L104_ok ih hx1 H_101 h
      · refine r_f1 (pc' := 37) (L' := [(2, .int R_17), (0, .ref 143), (1, .int X1)]) hq (z_at.mk 3 rfl rfl) rfl hR_31 c_34 rfl rfl ?_
        refine r_p hq 1 (pc' := 104) (L' := [(0, .ref 143), (1, .int X1)]) (st' := []) rfl ?_
        exact g_m_queries_L104_ok ih hx1 H_31 h
def g_m_queries (σ : zS) : Option (Unit × zS) :=
  (g_m_misses σ).bind fun o_1 =>
  g_m_queries_L6 zK 0 o_1.2
set_option maxHeartbeats 4000000 in
theorem g_m_queries_ok {xl : Nat} {xs : Nat → Int32} {σ : zS} {p : Nat} {m : zM} {o : Unit × zS} (H : zRep xl xs p m σ) (h : g_m_queries σ = some o) : zGo xl xs (fun p' => p = p') 7 189 0 (z_can 189 0 (lv_args 0 [.ref 143])) [] m vV o.2 := by
  have hq : z_mth 189 = some z_r189 := rfl
  unfold g_m_queries at h
  show zGo xl xs (fun p' => p = p') 7 189 0 [(0, .ref 143)] [] m vV o.2
  refine r_p hq 1 (pc' := 1) (L' := [(0, .ref 143)]) (st' := [.ref 143]) rfl ?_
  obtain ⟨o_1, h_1, h⟩ := Option.bind_eq_some_iff.mp h
  refine r_cvV (pc' := 4) (L' := [(0, .ref 143)]) (Ps := []) (rest := []) hq (z_at.mk 3 rfl rfl) (Or.inl ⟨rfl, rfl⟩) rfl rfl (by decide) (by decide) rfl (Nat.not_lt.mpr (Nat.le_of_ble_eq_true rfl)) rfl rfl (z_cat_le 0 rfl (by decide)) (z_lgl_le 1 rfl (by decide)) (by decide) (H.tg rfl) (by omega) (g_m_misses_ok H h_1) rfl rfl ?_
  intro m_1 p_1 e_1 H_1
  subst e_1
  refine r_p hq 2 (pc' := 6) (L' := [(0, .ref 143), (1, .int ((0 : Int32)))]) (st' := []) rfl ?_
  exact g_m_queries_L6_ok zK (rfl : (0 : Int32).toInt = 0) H_1 h
def g_m_orderOf (x1 : Int) (σ : zS) : Option (Int × zS) :=
  (g_m_rowAt x1 σ).bind fun o_7 =>
  if 0 ≤ w32 (o_7.1 + 1) ∧ w32 (o_7.1 + 1) < 2740 then
  let v_12 := o_7.2 144 (w32 (o_7.1 + 1))
  (g_m_rowAt x1 o_7.2).bind fun o_19 =>
  if 0 ≤ w32 (o_19.1 + 2) ∧ w32 (o_19.1 + 2) < 2740 then
  let v_24 := o_19.2 144 (w32 (o_19.1 + 2))
  some (w32 ((w32 (32 * v_12)) + v_24), o_19.2)
  else none
  else none
set_option maxHeartbeats 4000000 in
theorem g_m_orderOf_ok {xl : Nat} {xs : Nat → Int32} {X1 : Int32} {x1 : Int} (hx1 : X1.toInt = x1) {σ : zS} {p : Nat} {m : zM} {o : Int × zS} (H : zRep xl xs p m σ) (h : g_m_orderOf x1 σ = some o) : zGo xl xs (fun p' => p = p') 2 190 0 (z_can 190 0 (lv_args 0 [.ref 143, .int X1])) [] m (vI o.1) o.2 := by
  have hq : z_mth 190 = some z_r190 := rfl
  unfold g_m_orderOf at h
  show zGo xl xs (fun p' => p = p') 2 190 0 [(0, .ref 143), (1, .int X1)] [] m (vI o.1) o.2
  refine r_p hq 2 (pc' := 3) (L' := [(0, .ref 143), (1, .int X1)]) (st' := [.ref 143, .int ((32 : Int32))]) rfl ?_
  refine r_gR (b := 144) (pc' := 6) (L' := [(0, .ref 143), (1, .int X1)]) H hq (z_at.mk 3 rfl rfl) rfl rfl rfl rfl ?_
  refine r_p hq 1 (pc' := 7) (L' := [(0, .ref 143), (1, .int X1)]) (st' := [.int X1, .ref 144, .int ((32 : Int32))]) rfl ?_
  obtain ⟨o_7, h_7, h⟩ := Option.bind_eq_some_iff.mp h
  refine r_csI (pc' := 10) (L' := [(0, .ref 143), (1, .int X1)]) (As := [.int X1]) (rest := [.ref 144, .int ((32 : Int32))]) (j := 174) hq (z_at.mk 3 rfl rfl) (Or.inl ⟨rfl, rfl⟩) rfl rfl (by omega) (g_m_rowAt_ok hx1 H h_7) rfl rfl ?_
  intro R_7 m_7 p_7 e_7 hR_7 H_7
  subst e_7
  refine r_p hq 2 (pc' := 12) (L' := [(0, .ref 143), (1, .int X1)]) (st' := [.int (R_7 + ((1 : Int32))), .ref 144, .int ((32 : Int32))]) rfl ?_
  obtain ⟨g_12, h⟩ := z_ifo_some h
  refine r_ia (pc' := 13) (L' := [(0, .ref 143), (1, .int X1)]) H_7 hq (z_at.mk 1 rfl rfl) (show zAr 144 0 2740 = true from rfl) (tx_iadd hR_7 (rfl : (1 : Int32).toInt = 1)) g_12 rfl rfl ?_
  intro V_12 hV_12
  refine r_p hq 2 (pc' := 15) (L' := [(0, .ref 143), (1, .int X1)]) (st' := [.ref 143, .int (((32 : Int32)) * V_12)]) rfl ?_
  refine r_gR (b := 144) (pc' := 18) (L' := [(0, .ref 143), (1, .int X1)]) H_7 hq (z_at.mk 3 rfl rfl) rfl rfl rfl rfl ?_
  refine r_p hq 1 (pc' := 19) (L' := [(0, .ref 143), (1, .int X1)]) (st' := [.int X1, .ref 144, .int (((32 : Int32)) * V_12)]) rfl ?_
  obtain ⟨o_19, h_19, h⟩ := Option.bind_eq_some_iff.mp h
  refine r_csI (pc' := 22) (L' := [(0, .ref 143), (1, .int X1)]) (As := [.int X1]) (rest := [.ref 144, .int (((32 : Int32)) * V_12)]) (j := 174) hq (z_at.mk 3 rfl rfl) (Or.inl ⟨rfl, rfl⟩) rfl rfl (by omega) (g_m_rowAt_ok hx1 H_7 h_19) rfl rfl ?_
  intro R_19 m_19 p_19 e_19 hR_19 H_19
  subst e_19
  refine r_p hq 2 (pc' := 24) (L' := [(0, .ref 143), (1, .int X1)]) (st' := [.int (R_19 + ((2 : Int32))), .ref 144, .int (((32 : Int32)) * V_12)]) rfl ?_
  obtain ⟨g_24, h⟩ := z_ifo_some h
  refine r_ia (pc' := 25) (L' := [(0, .ref 143), (1, .int X1)]) H_19 hq (z_at.mk 1 rfl rfl) (show zAr 144 0 2740 = true from rfl) (tx_iadd hR_19 (rfl : (2 : Int32).toInt = 2)) g_24 rfl rfl ?_
  intro V_24 hV_24
  refine r_p hq 1 (pc' := 26) (L' := [(0, .ref 143), (1, .int X1)]) (st' := [.int ((((32 : Int32)) * V_12) + V_24)]) rfl ?_
  cases h
  exact r_ri hq (z_at.mk 1 rfl rfl) rfl rfl (tx_iadd (tx_imul (rfl : (32 : Int32).toInt = 32) hV_12) hV_24) rfl H_19
def g_m_here (σ : zS) : Option (Int × zS) :=
  let v_1 := σ 143 21
  let v_5 := σ 143 20
  if v_5 ≤ v_1 then
    some (-1, σ)
  else
    let v_16 := σ 143 21
    if 0 ≤ v_16 ∧ v_16 < 160 then
    let v_19 := σ 159 v_16
    some (v_19, σ)
    else none
set_option maxHeartbeats 4000000 in
theorem g_m_here_ok {xl : Nat} {xs : Nat → Int32} {σ : zS} {p : Nat} {m : zM} {o : Int × zS} (H : zRep xl xs p m σ) (h : g_m_here σ = some o) : zGo xl xs (fun p' => p = p') 1 212 0 (z_can 212 0 (lv_args 0 [.ref 143])) [] m (vI o.1) o.2 := by
  have hq : z_mth 212 = some z_r212 := rfl
  unfold g_m_here at h
  show zGo xl xs (fun p' => p = p') 1 212 0 [(0, .ref 143)] [] m (vI o.1) o.2
  refine r_p hq 1 (pc' := 1) (L' := [(0, .ref 143)]) (st' := [.ref 143]) rfl ?_
  refine r_gI (pc' := 4) (L' := [(0, .ref 143)]) H hq (z_at.mk 3 rfl rfl) rfl rfl rfl rfl ?_
  intro V_1 hV_1
  refine r_p hq 1 (pc' := 5) (L' := [(0, .ref 143)]) (st' := [.ref 143, .int V_1]) rfl ?_
  refine r_gI (pc' := 8) (L' := [(0, .ref 143)]) H hq (z_at.mk 3 rfl rfl) rfl rfl rfl rfl ?_
  intro V_5 hV_5
  rcases z_ite h with ⟨c_8, h⟩ | ⟨c_8, h⟩
  · refine r_t2 (pc' := 23) (L' := [(0, .ref 143)]) hq (z_at.mk 3 rfl rfl) rfl hV_1 hV_5 c_8 rfl rfl ?_
    refine r_p hq 1 (pc' := 24) (L' := []) (st' := [.int ((-1 : Int32))]) rfl ?_
    cases h
    exact r_ri hq (z_at.mk 1 rfl rfl) rfl rfl (rfl : (-1 : Int32).toInt = -1) rfl H
  · refine r_f2 (pc' := 11) (L' := [(0, .ref 143)]) hq (z_at.mk 3 rfl rfl) rfl hV_1 hV_5 c_8 rfl rfl ?_
    refine r_p hq 1 (pc' := 12) (L' := [(0, .ref 143)]) (st' := [.ref 143]) rfl ?_
    refine r_gR (b := 159) (pc' := 15) (L' := [(0, .ref 143)]) H hq (z_at.mk 3 rfl rfl) rfl rfl rfl rfl ?_
    refine r_p hq 1 (pc' := 16) (L' := [(0, .ref 143)]) (st' := [.ref 143, .ref 159]) rfl ?_
    refine r_gI (pc' := 19) (L' := [(0, .ref 143)]) H hq (z_at.mk 3 rfl rfl) rfl rfl rfl rfl ?_
    intro V_16 hV_16
    obtain ⟨g_19, h⟩ := z_ifo_some h
    refine r_ia (pc' := 20) (L' := [(0, .ref 143)]) H hq (z_at.mk 1 rfl rfl) (show zAr 159 0 160 = true from rfl) hV_16 g_19 rfl rfl ?_
    intro V_19 hV_19
    refine r_p hq 1 (pc' := 24) (L' := []) (st' := [.int V_19]) rfl ?_
    cases h
    exact r_ri hq (z_at.mk 1 rfl rfl) rfl rfl hV_19 rfl H
def g_m_fails (x1 : Int) (σ : zS) : Option (Int × zS) :=
  let v_1 := σ 143 22
  if 0 ≤ v_1 then
    some (0, σ)
  else
    let s_9 := zu σ 143 22 x1
    some (0, s_9)
set_option maxHeartbeats 4000000 in
theorem g_m_fails_ok {xl : Nat} {xs : Nat → Int32} {X1 : Int32} {x1 : Int} (hx1 : X1.toInt = x1) {σ : zS} {p : Nat} {m : zM} {o : Int × zS} (H : zRep xl xs p m σ) (h : g_m_fails x1 σ = some o) : zGo xl xs (fun p' => p = p') 1 213 0 (z_can 213 0 (lv_args 0 [.ref 143, .int X1])) [] m (vI o.1) o.2 := by
  have hq : z_mth 213 = some z_r213 := rfl
  unfold g_m_fails at h
  show zGo xl xs (fun p' => p = p') 1 213 0 [(0, .ref 143), (1, .int X1)] [] m (vI o.1) o.2
  refine r_p hq 1 (pc' := 1) (L' := [(0, .ref 143), (1, .int X1)]) (st' := [.ref 143]) rfl ?_
  refine r_gI (pc' := 4) (L' := [(0, .ref 143), (1, .int X1)]) H hq (z_at.mk 3 rfl rfl) rfl rfl rfl rfl ?_
  intro V_1 hV_1
  rcases z_ite h with ⟨c_4, h⟩ | ⟨c_4, h⟩
  · refine r_t1 (pc' := 12) (L' := []) hq (z_at.mk 3 rfl rfl) rfl hV_1 c_4 rfl rfl ?_
    refine r_p hq 1 (pc' := 13) (L' := []) (st' := [.int ((0 : Int32))]) rfl ?_
    cases h
    exact r_ri hq (z_at.mk 1 rfl rfl) rfl rfl (rfl : (0 : Int32).toInt = 0) rfl H
  · refine r_f1 (pc' := 7) (L' := [(0, .ref 143), (1, .int X1)]) hq (z_at.mk 3 rfl rfl) rfl hV_1 c_4 rfl rfl ?_
    refine r_p hq 2 (pc' := 9) (L' := [(0, .ref 143), (1, .int X1)]) (st' := [.int X1, .ref 143]) rfl ?_
    refine r_pI (X := X1) (pc' := 12) (L' := []) H hq (z_at.mk 3 rfl rfl) rfl rfl hx1 (by decide) rfl rfl rfl rfl ?_
    intro m_9 H_9
    refine r_p hq 1 (pc' := 13) (L' := []) (st' := [.int ((0 : Int32))]) rfl ?_
    cases h
    exact r_ri hq (z_at.mk 1 rfl rfl) rfl rfl (rfl : (0 : Int32).toInt = 0) rfl H_9
def g_m_isFigure (x0 : Int) (σ : zS) : Option (Int × zS) :=
  (g_m_isIn x0 48 57 σ).bind fun o_5 =>
  if o_5.1 = 0 ∨ o_5.1 = 1 then some (o_5.1, o_5.2) else none
set_option maxHeartbeats 4000000 in
theorem g_m_isFigure_ok {xl : Nat} {xs : Nat → Int32} {X0 : Int32} {x0 : Int} (hx0 : X0.toInt = x0) {σ : zS} {p : Nat} {m : zM} {o : Int × zS} (H : zRep xl xs p m σ) (h : g_m_isFigure x0 σ = some o) : zGo xl xs (fun p' => p = p') 2 215 0 (z_can 215 0 (lv_args 0 [.int X0])) [] m (vI o.1) o.2 := by
  have hq : z_mth 215 = some z_r215 := rfl
  unfold g_m_isFigure at h
  show zGo xl xs (fun p' => p = p') 2 215 0 [(0, .int X0)] [] m (vI o.1) o.2
  refine r_p hq 3 (pc' := 5) (L' := [(0, .int X0)]) (st' := [.int ((57 : Int32)), .int ((48 : Int32)), .int X0]) rfl ?_
  obtain ⟨o_5, h_5, h⟩ := Option.bind_eq_some_iff.mp h
  refine r_csI (pc' := 8) (L' := [(0, .int X0)]) (As := [.int X0, .int ((48 : Int32)), .int ((57 : Int32))]) (rest := []) (j := 159) hq (z_at.mk 3 rfl rfl) (Or.inl ⟨rfl, rfl⟩) rfl rfl (by omega) (g_m_isIn_ok hx0 (rfl : (48 : Int32).toInt = 48) (rfl : (57 : Int32).toInt = 57) H h_5) rfl rfl ?_
  intro R_5 m_5 p_5 e_5 hR_5 H_5
  subst e_5
  obtain ⟨g_8, h⟩ := z_if_some h
  cases h
  exact r_ri hq (z_at.mk 1 rfl rfl) rfl (z_rty_bo hR_5 g_8) hR_5 rfl H_5
def g_m_isNumber_L84 (x2 : Int) (x3 : Int) (x4 : Int) (σ : zS) : Option (Int × zS) :=
  let v_85 := σ 143 23
  (g_m_isIn v_85 x2 x3 σ).bind fun o_90 =>
  if o_90.1 ≠ 0 then
    some (1, o_90.2)
  else
    (g_m_fails x4 o_90.2).bind fun o_99 =>
    if o_99.1 = 0 then
      some (0, o_99.2)
    else
      some (1, o_99.2)
set_option maxHeartbeats 4000000 in
theorem g_m_isNumber_L84_ok {xl : Nat} {xs : Nat → Int32} {X2 : Int32} {x2 : Int} (hx2 : X2.toInt = x2) {X3 : Int32} {x3 : Int} (hx3 : X3.toInt = x3) {X4 : Int32} {x4 : Int} (hx4 : X4.toInt = x4) {σ : zS} {p : Nat} {m : zM} {o : Int × zS} (H : zRep xl xs p m σ) (h : g_m_isNumber_L84 x2 x3 x4 σ = some o) : zGo xl xs (fun p' => p = p') 3 216 84 [(0, .ref 143), (2, .int X2), (3, .int X3), (4, .int X4)] [] m (vI o.1) o.2 := by
  have hq : z_mth 216 = some z_r216 := rfl
  unfold g_m_isNumber_L84 at h
  refine r_p hq 1 (pc' := 85) (L' := [(0, .ref 143), (2, .int X2), (3, .int X3), (4, .int X4)]) (st' := [.ref 143]) rfl ?_
  refine r_gI (pc' := 88) (L' := [(0, .ref 143), (2, .int X2), (3, .int X3), (4, .int X4)]) H hq (z_at.mk 3 rfl rfl) rfl rfl rfl rfl ?_
  intro V_85 hV_85
  refine r_p hq 2 (pc' := 90) (L' := [(0, .ref 143), (2, .int X2), (3, .int X3), (4, .int X4)]) (st' := [.int X3, .int X2, .int V_85]) rfl ?_
  obtain ⟨o_90, h_90, h⟩ := Option.bind_eq_some_iff.mp h
  refine r_csI (pc' := 93) (L' := [(0, .ref 143), (2, .int X2), (3, .int X3), (4, .int X4)]) (As := [.int V_85, .int X2, .int X3]) (rest := []) (j := 159) hq (z_at.mk 3 rfl rfl) (Or.inl ⟨rfl, rfl⟩) rfl rfl (by omega) (g_m_isIn_ok hV_85 hx2 hx3 H h_90) rfl rfl ?_
  intro R_90 m_90 p_90 e_90 hR_90 H_90
  subst e_90
  rcases z_ite h with ⟨c_93, h⟩ | ⟨c_93, h⟩
  · refine r_t1 (pc' := 105) (L' := []) hq (z_at.mk 3 rfl rfl) rfl hR_90 c_93 rfl rfl ?_
    refine r_p hq 2 (pc' := 110) (L' := []) (st' := [.int ((1 : Int32))]) rfl ?_
    cases h
    exact r_ri hq (z_at.mk 1 rfl rfl) rfl rfl (rfl : (1 : Int32).toInt = 1) rfl H_90
  · refine r_f1 (pc' := 96) (L' := [(0, .ref 143), (2, .int X2), (3, .int X3), (4, .int X4)]) hq (z_at.mk 3 rfl rfl) rfl hR_90 c_93 rfl rfl ?_
    refine r_p hq 2 (pc' := 99) (L' := [(0, .ref 143), (2, .int X2), (3, .int X3), (4, .int X4)]) (st' := [.int X4, .ref 143]) rfl ?_
    obtain ⟨o_99, h_99, h⟩ := Option.bind_eq_some_iff.mp h
    refine r_cvI (pc' := 102) (L' := [(0, .ref 143), (2, .int X2), (3, .int X3), (4, .int X4)]) (Ps := [.int X4]) (rest := []) hq (z_at.mk 3 rfl rfl) (Or.inl ⟨rfl, rfl⟩) rfl rfl (by decide) (by decide) rfl (Nat.not_lt.mpr (Nat.le_of_ble_eq_true rfl)) rfl rfl (z_cat_le 0 rfl (by decide)) (z_lgl_le 2 rfl (by decide)) (by decide) (H_90.tg rfl) (by omega) (g_m_fails_ok hx4 H_90 h_99) rfl rfl ?_
    intro R_99 m_99 p_99 e_99 hR_99 H_99
    subst e_99
    rcases z_ite h with ⟨c_102, h⟩ | ⟨c_102, h⟩
    · refine r_t1 (pc' := 109) (L' := [(0, .ref 143), (2, .int X2), (3, .int X3), (4, .int X4)]) hq (z_at.mk 3 rfl rfl) rfl hR_99 c_102 rfl rfl ?_
      refine r_p hq 1 (pc' := 110) (L' := []) (st' := [.int ((0 : Int32))]) rfl ?_
      cases h
      exact r_ri hq (z_at.mk 1 rfl rfl) rfl rfl (rfl : (0 : Int32).toInt = 0) rfl H_99
    · refine r_f1 (pc' := 105) (L' := []) hq (z_at.mk 3 rfl rfl) rfl hR_99 c_102 rfl rfl ?_
      refine r_p hq 2 (pc' := 110) (L' := []) (st' := [.int ((1 : Int32))]) rfl ?_
      cases h
      exact r_ri hq (z_at.mk 1 rfl rfl) rfl rfl (rfl : (1 : Int32).toInt = 1) rfl H_99
def g_m_isNumber_L33 : Nat → Int → Int → Int → Int → Int → zS → Option (Int × zS)
  | 0, _, _, _, _, _, _ => none
  | n + 1, x1, x2, x3, x4, x5, σ =>
    if x1 ≤ x5 then
      g_m_isNumber_L84 x2 x3 x4 σ
    else
      (g_m_here σ).bind fun o_40 =>
      (g_m_isFigure o_40.1 o_40.2).bind fun o_43 =>
      if o_43.1 = 0 then
        g_m_isNumber_L84 x2 x3 x4 o_43.2
      else
        let v_53 := o_43.2 143 23
        (g_m_here o_43.2).bind fun o_58 =>
        let s_65 := zu o_58.2 143 23 (w32 ((w32 ((w32 (10 * v_53)) + o_58.1)) - 48))
        let v_70 := s_65 143 21
        let s_75 := zu s_65 143 21 (w32 (v_70 + 1))
        (g_m_isNumber_L33 n) x1 x2 x3 x4 (w32 (x5 + 1)) s_75
set_option maxHeartbeats 4000000 in
theorem g_m_isNumber_L33_ok {xl : Nat} {xs : Nat → Int32} : ∀ (n : Nat) {X1 : Int32} {x1 : Int} {X2 : Int32} {x2 : Int} {X3 : Int32} {x3 : Int} {X4 : Int32} {x4 : Int} {X5 : Int32} {x5 : Int} {σ : zS} {p : Nat} {m : zM} {o : Int × zS}, X1.toInt = x1 → X2.toInt = x2 → X3.toInt = x3 → X4.toInt = x4 → X5.toInt = x5 → zRep xl xs p m σ → g_m_isNumber_L33 n x1 x2 x3 x4 x5 σ = some o → zGo xl xs (fun p' => p = p') 3 216 33 [(0, .ref 143), (1, .int X1), (2, .int X2), (3, .int X3), (4, .int X4), (5, .int X5)] [] m (vI o.1) o.2
  | 0, _, _, _, _, _, _, _, _, _, _, _, _, _, _, _, _, _, _, _, _, h => by cases h
  | n + 1, X1, x1, X2, x2, X3, x3, X4, x4, X5, x5, σ, p, m, o, hx1, hx2, hx3, hx4, hx5, H, h => by
    have hq : z_mth 216 = some z_r216 := rfl
    have ih := fun {X1 : Int32} {x1 : Int} {X2 : Int32} {x2 : Int} {X3 : Int32} {x3 : Int} {X4 : Int32} {x4 : Int} {X5 : Int32} {x5 : Int} {σ : zS} {p : Nat} {m : zM} {o : Int × zS} => g_m_isNumber_L33_ok (xl := xl) (xs := xs) n (X1 := X1) (x1 := x1) (X2 := X2) (x2 := x2) (X3 := X3) (x3 := x3) (X4 := X4) (x4 := x4) (X5 := X5) (x5 := x5) (σ := σ) (p := p) (m := m) (o := o)
    unfold g_m_isNumber_L33 at h
    refine r_p hq 2 (pc' := 36) (L' := [(0, .ref 143), (1, .int X1), (2, .int X2), (3, .int X3), (4, .int X4), (5, .int X5)]) (st' := [.int X1, .int X5]) rfl ?_
    rcases z_ite h with ⟨c_36, h⟩ | ⟨c_36, h⟩
    · refine r_t2 (pc' := 84) (L' := [(0, .ref 143), (2, .int X2), (3, .int X3), (4, .int X4)]) hq (z_at.mk 3 rfl rfl) rfl hx5 hx1 c_36 rfl rfl ?_
      exact g_m_isNumber_L84_ok hx2 hx3 hx4 H h
    · refine r_f2 (pc' := 39) (L' := [(0, .ref 143), (1, .int X1), (2, .int X2), (3, .int X3), (4, .int X4), (5, .int X5)]) hq (z_at.mk 3 rfl rfl) rfl hx5 hx1 c_36 rfl rfl ?_
      refine r_p hq 1 (pc' := 40) (L' := [(0, .ref 143), (1, .int X1), (2, .int X2), (3, .int X3), (4, .int X4), (5, .int X5)]) (st' := [.ref 143]) rfl ?_
      obtain ⟨o_40, h_40, h⟩ := Option.bind_eq_some_iff.mp h
      refine r_cvI (pc' := 43) (L' := [(0, .ref 143), (1, .int X1), (2, .int X2), (3, .int X3), (4, .int X4), (5, .int X5)]) (Ps := []) (rest := []) hq (z_at.mk 3 rfl rfl) (Or.inl ⟨rfl, rfl⟩) rfl rfl (by decide) (by decide) rfl (Nat.not_lt.mpr (Nat.le_of_ble_eq_true rfl)) rfl rfl (z_cat_le 0 rfl (by decide)) (z_lgl_le 1 rfl (by decide)) (by decide) (H.tg rfl) (by omega) (g_m_here_ok H h_40) rfl rfl ?_
      intro R_40 m_40 p_40 e_40 hR_40 H_40
      subst e_40
      obtain ⟨o_43, h_43, h⟩ := Option.bind_eq_some_iff.mp h
      refine r_csI (pc' := 46) (L' := [(0, .ref 143), (1, .int X1), (2, .int X2), (3, .int X3), (4, .int X4), (5, .int X5)]) (As := [.int R_40]) (rest := []) (j := 215) hq (z_at.mk 3 rfl rfl) (Or.inl ⟨rfl, rfl⟩) rfl rfl (by omega) (g_m_isFigure_ok hR_40 H_40 h_43) rfl rfl ?_
      intro R_43 m_43 p_43 e_43 hR_43 H_43
      subst e_43
      rcases z_ite h with ⟨c_46, h⟩ | ⟨c_46, h⟩
      · refine r_t1 (pc' := 84) (L' := [(0, .ref 143), (2, .int X2), (3, .int X3), (4, .int X4)]) hq (z_at.mk 3 rfl rfl) rfl hR_43 c_46 rfl rfl ?_
        exact g_m_isNumber_L84_ok hx2 hx3 hx4 H_43 h
      · refine r_f1 (pc' := 49) (L' := [(0, .ref 143), (1, .int X1), (2, .int X2), (3, .int X3), (4, .int X4), (5, .int X5)]) hq (z_at.mk 3 rfl rfl) rfl hR_43 c_46 rfl rfl ?_
        refine r_p hq 3 (pc' := 53) (L' := [(0, .ref 143), (1, .int X1), (2, .int X2), (3, .int X3), (4, .int X4), (5, .int X5)]) (st' := [.ref 143, .int ((10 : Int32)), .ref 143]) rfl ?_
        refine r_gI (pc' := 56) (L' := [(0, .ref 143), (1, .int X1), (2, .int X2), (3, .int X3), (4, .int X4), (5, .int X5)]) H_43 hq (z_at.mk 3 rfl rfl) rfl rfl rfl rfl ?_
        intro V_53 hV_53
        refine r_p hq 2 (pc' := 58) (L' := [(0, .ref 143), (1, .int X1), (2, .int X2), (3, .int X3), (4, .int X4), (5, .int X5)]) (st' := [.ref 143, .int (((10 : Int32)) * V_53), .ref 143]) rfl ?_
        obtain ⟨o_58, h_58, h⟩ := Option.bind_eq_some_iff.mp h
        refine r_cvI (pc' := 61) (L' := [(0, .ref 143), (1, .int X1), (2, .int X2), (3, .int X3), (4, .int X4), (5, .int X5)]) (Ps := []) (rest := [.int (((10 : Int32)) * V_53), .ref 143]) hq (z_at.mk 3 rfl rfl) (Or.inl ⟨rfl, rfl⟩) rfl rfl (by decide) (by decide) rfl (Nat.not_lt.mpr (Nat.le_of_ble_eq_true rfl)) rfl rfl (z_cat_le 2 rfl (by decide)) (z_lgl_le 1 rfl (by decide)) (by decide) (H_43.tg rfl) (by omega) (g_m_here_ok H_43 h_58) rfl rfl ?_
        intro R_58 m_58 p_58 e_58 hR_58 H_58
        subst e_58
        refine r_p hq 3 (pc' := 65) (L' := [(0, .ref 143), (1, .int X1), (2, .int X2), (3, .int X3), (4, .int X4), (5, .int X5)]) (st' := [.int (((((10 : Int32)) * V_53) + R_58) - ((48 : Int32))), .ref 143]) rfl ?_
        refine r_pI (X := ((((10 : Int32)) * V_53) + R_58) - ((48 : Int32))) (pc' := 68) (L' := [(0, .ref 143), (1, .int X1), (2, .int X2), (3, .int X3), (4, .int X4), (5, .int X5)]) H_58 hq (z_at.mk 3 rfl rfl) rfl rfl (tx_isub (tx_iadd (tx_imul (rfl : (10 : Int32).toInt = 10) hV_53) hR_58) (rfl : (48 : Int32).toInt = 48)) (by decide) rfl rfl rfl rfl ?_
        intro m_65 H_65
        refine r_p hq 2 (pc' := 70) (L' := [(0, .ref 143), (1, .int X1), (2, .int X2), (3, .int X3), (4, .int X4), (5, .int X5)]) (st' := [.ref 143, .ref 143]) rfl ?_
        refine r_gI (pc' := 73) (L' := [(0, .ref 143), (1, .int X1), (2, .int X2), (3, .int X3), (4, .int X4), (5, .int X5)]) H_65 hq (z_at.mk 3 rfl rfl) rfl rfl rfl rfl ?_
        intro V_70 hV_70
        refine r_p hq 2 (pc' := 75) (L' := [(0, .ref 143), (1, .int X1), (2, .int X2), (3, .int X3), (4, .int X4), (5, .int X5)]) (st' := [.int (V_70 + ((1 : Int32))), .ref 143]) rfl ?_
        refine r_pI (X := V_70 + ((1 : Int32))) (pc' := 78) (L' := [(0, .ref 143), (1, .int X1), (2, .int X2), (3, .int X3), (4, .int X4), (5, .int X5)]) H_65 hq (z_at.mk 3 rfl rfl) rfl rfl (tx_iadd hV_70 (rfl : (1 : Int32).toInt = 1)) (by decide) rfl rfl rfl rfl ?_
        intro m_75 H_75
        refine r_p hq 2 (pc' := 33) (L' := [(0, .ref 143), (1, .int X1), (2, .int X2), (3, .int X3), (4, .int X4), (5, .int (X5 + (1 : Int32)))]) (st' := []) rfl ?_
        exact ih hx1 hx2 hx3 hx4 (tx_iadd hx5 (rfl : (1 : Int32).toInt = 1)) H_75 h
def g_m_isNumber (x1 : Int) (x2 : Int) (x3 : Int) (σ : zS) : Option (Int × zS) :=
  let v_1 := σ 143 21
  let s_8 := zu σ 143 23 0
  (g_m_here s_8).bind fun o_12 =>
  (g_m_isFigure o_12.1 o_12.2).bind fun o_15 =>
  if o_15.1 ≠ 0 then
    g_m_isNumber_L33 zK x1 x2 x3 v_1 0 o_15.2
  else
    let v_23 := o_15.2 143 21
    (g_m_fails v_23 o_15.2).bind fun o_26 =>
    if o_26.1 = 0 ∨ o_26.1 = 1 then some (o_26.1, o_26.2) else none
set_option maxHeartbeats 4000000 in
theorem g_m_isNumber_ok {xl : Nat} {xs : Nat → Int32} {X1 : Int32} {x1 : Int} (hx1 : X1.toInt = x1) {X2 : Int32} {x2 : Int} (hx2 : X2.toInt = x2) {X3 : Int32} {x3 : Int} (hx3 : X3.toInt = x3) {σ : zS} {p : Nat} {m : zM} {o : Int × zS} (H : zRep xl xs p m σ) (h : g_m_isNumber x1 x2 x3 σ = some o) : zGo xl xs (fun p' => p = p') 3 216 0 (z_can 216 0 (lv_args 0 [.ref 143, .int X1, .int X2, .int X3])) [] m (vI o.1) o.2 := by
  have hq : z_mth 216 = some z_r216 := rfl
  unfold g_m_isNumber at h
  show zGo xl xs (fun p' => p = p') 3 216 0 [(0, .ref 143), (1, .int X1), (2, .int X2), (3, .int X3)] [] m (vI o.1) o.2
  refine r_p hq 1 (pc' := 1) (L' := [(0, .ref 143), (1, .int X1), (2, .int X2), (3, .int X3)]) (st' := [.ref 143]) rfl ?_
  refine r_gI (pc' := 4) (L' := [(0, .ref 143), (1, .int X1), (2, .int X2), (3, .int X3)]) H hq (z_at.mk 3 rfl rfl) rfl rfl rfl rfl ?_
  intro V_1 hV_1
  refine r_p hq 3 (pc' := 8) (L' := [(4, .int V_1), (0, .ref 143), (1, .int X1), (2, .int X2), (3, .int X3)]) (st' := [.int ((0 : Int32)), .ref 143]) rfl ?_
  refine r_pI (X := (0 : Int32)) (pc' := 11) (L' := [(4, .int V_1), (0, .ref 143), (1, .int X1), (2, .int X2), (3, .int X3)]) H hq (z_at.mk 3 rfl rfl) rfl rfl (rfl : (0 : Int32).toInt = 0) (by decide) rfl rfl rfl rfl ?_
  intro m_8 H_8
  refine r_p hq 1 (pc' := 12) (L' := [(4, .int V_1), (0, .ref 143), (1, .int X1), (2, .int X2), (3, .int X3)]) (st' := [.ref 143]) rfl ?_
  obtain ⟨o_12, h_12, h⟩ := Option.bind_eq_some_iff.mp h
  refine r_cvI (pc' := 15) (L' := [(4, .int V_1), (0, .ref 143), (1, .int X1), (2, .int X2), (3, .int X3)]) (Ps := []) (rest := []) hq (z_at.mk 3 rfl rfl) (Or.inl ⟨rfl, rfl⟩) rfl rfl (by decide) (by decide) rfl (Nat.not_lt.mpr (Nat.le_of_ble_eq_true rfl)) rfl rfl (z_cat_le 0 rfl (by decide)) (z_lgl_le 1 rfl (by decide)) (by decide) (H_8.tg rfl) (by omega) (g_m_here_ok H_8 h_12) rfl rfl ?_
  intro R_12 m_12 p_12 e_12 hR_12 H_12
  subst e_12
  obtain ⟨o_15, h_15, h⟩ := Option.bind_eq_some_iff.mp h
  refine r_csI (pc' := 18) (L' := [(4, .int V_1), (0, .ref 143), (1, .int X1), (2, .int X2), (3, .int X3)]) (As := [.int R_12]) (rest := []) (j := 215) hq (z_at.mk 3 rfl rfl) (Or.inl ⟨rfl, rfl⟩) rfl rfl (by omega) (g_m_isFigure_ok hR_12 H_12 h_15) rfl rfl ?_
  intro R_15 m_15 p_15 e_15 hR_15 H_15
  subst e_15
  rcases z_ite h with ⟨c_18, h⟩ | ⟨c_18, h⟩
  · refine r_t1 (pc' := 30) (L' := [(4, .int V_1), (0, .ref 143), (1, .int X1), (2, .int X2), (3, .int X3)]) hq (z_at.mk 3 rfl rfl) rfl hR_15 c_18 rfl rfl ?_
    refine r_p hq 2 (pc' := 33) (L' := [(0, .ref 143), (1, .int X1), (2, .int X2), (3, .int X3), (4, .int V_1), (5, .int ((0 : Int32)))]) (st' := []) rfl ?_
    exact g_m_isNumber_L33_ok zK hx1 hx2 hx3 hV_1 (rfl : (0 : Int32).toInt = 0) H_15 h
  · refine r_f1 (pc' := 21) (L' := [(4, .int V_1), (0, .ref 143), (1, .int X1), (2, .int X2), (3, .int X3)]) hq (z_at.mk 3 rfl rfl) rfl hR_15 c_18 rfl rfl ?_
    refine r_p hq 2 (pc' := 23) (L' := [(4, .int V_1), (0, .ref 143), (1, .int X1), (2, .int X2), (3, .int X3)]) (st' := [.ref 143, .ref 143]) rfl ?_
    refine r_gI (pc' := 26) (L' := [(4, .int V_1), (0, .ref 143), (1, .int X1), (2, .int X2), (3, .int X3)]) H_15 hq (z_at.mk 3 rfl rfl) rfl rfl rfl rfl ?_
    intro V_23 hV_23
    obtain ⟨o_26, h_26, h⟩ := Option.bind_eq_some_iff.mp h
    refine r_cvI (pc' := 29) (L' := [(4, .int V_1), (0, .ref 143), (1, .int X1), (2, .int X2), (3, .int X3)]) (Ps := [.int V_23]) (rest := []) hq (z_at.mk 3 rfl rfl) (Or.inl ⟨rfl, rfl⟩) rfl rfl (by decide) (by decide) rfl (Nat.not_lt.mpr (Nat.le_of_ble_eq_true rfl)) rfl rfl (z_cat_le 0 rfl (by decide)) (z_lgl_le 2 rfl (by decide)) (by decide) (H_15.tg rfl) (by omega) (g_m_fails_ok hV_23 H_15 h_26) rfl rfl ?_
    intro R_26 m_26 p_26 e_26 hR_26 H_26
    subst e_26
    obtain ⟨g_29, h⟩ := z_if_some h
    cases h
    exact r_ri hq (z_at.mk 1 rfl rfl) rfl (z_rty_bo hR_26 g_29) hR_26 rfl H_26
def g_m_doesHold_L6 (rec : Nat → Int → zS → Option (Int × zS)) : Nat → Int → Int → zS → Option (Int × zS)
  | 0, _, _, _ => none
  | n + 1, x1, x2, σ =>
    (g_m_here σ).bind fun o_7 =>
    if o_7.1 ≠ 124 then
      if x2 = 0 ∨ x2 = 1 then some (x2, o_7.2) else none
    else
      let v_17 := o_7.2 143 21
      let s_22 := zu o_7.2 143 21 (w32 (v_17 + 1))
      (rec 232 x1 s_22).bind fun o_27 =>
      (g_m_doesHold_L6 rec n) x1 (iOr x2 o_27.1) o_27.2
set_option maxHeartbeats 4000000 in
theorem g_m_doesHold_L6_ok {xl : Nat} {xs : Nat → Int32} {dr : Nat} (hdr : 4 ≤ dr) {rec : Nat → Int → zS → Option (Int × zS)} (hrec : ∀ j, j ∈ [231, 232, 233] → ∀ {X1 : Int32} {x1 : Int} {σ : zS} {p : Nat} {m : zM} {o : Int × zS}, X1.toInt = x1 → zRep xl xs p m σ → rec j x1 σ = some o → zGo xl xs (fun p' => p = p') dr j 0 (z_can j 0 (lv_args 0 [.ref 143, .int X1])) [] m (vI o.1) o.2) : ∀ (n : Nat) {X1 : Int32} {x1 : Int} {X2 : Int32} {x2 : Int} {σ : zS} {p : Nat} {m : zM} {o : Int × zS}, X1.toInt = x1 → X2.toInt = x2 → zRep xl xs p m σ → g_m_doesHold_L6 rec n x1 x2 σ = some o → zGo xl xs (fun p' => p = p') (dr + 1) 231 6 [(0, .ref 143), (1, .int X1), (2, .int X2)] [] m (vI o.1) o.2
  | 0, _, _, _, _, _, _, _, _, _, _, _, h => by cases h
  | n + 1, X1, x1, X2, x2, σ, p, m, o, hx1, hx2, H, h => by
    have hq : z_mth 231 = some z_r231 := rfl
    have ih := fun {X1 : Int32} {x1 : Int} {X2 : Int32} {x2 : Int} {σ : zS} {p : Nat} {m : zM} {o : Int × zS} => g_m_doesHold_L6_ok (xl := xl) (xs := xs) hdr hrec n (X1 := X1) (x1 := x1) (X2 := X2) (x2 := x2) (σ := σ) (p := p) (m := m) (o := o)
    unfold g_m_doesHold_L6 at h
    refine r_p hq 1 (pc' := 7) (L' := [(0, .ref 143), (1, .int X1), (2, .int X2)]) (st' := [.ref 143]) rfl ?_
    obtain ⟨o_7, h_7, h⟩ := Option.bind_eq_some_iff.mp h
    refine r_cvI (pc' := 10) (L' := [(0, .ref 143), (1, .int X1), (2, .int X2)]) (Ps := []) (rest := []) hq (z_at.mk 3 rfl rfl) (Or.inl ⟨rfl, rfl⟩) rfl rfl (by decide) (by decide) rfl (Nat.not_lt.mpr (Nat.le_of_ble_eq_true rfl)) rfl rfl (z_cat_le 0 rfl (by decide)) (z_lgl_le 1 rfl (by decide)) (by decide) (H.tg rfl) (by omega) (g_m_here_ok H h_7) rfl rfl ?_
    intro R_7 m_7 p_7 e_7 hR_7 H_7
    subst e_7
    refine r_p hq 1 (pc' := 12) (L' := [(0, .ref 143), (1, .int X1), (2, .int X2)]) (st' := [.int ((124 : Int32)), .int R_7]) rfl ?_
    rcases z_ite h with ⟨c_12, h⟩ | ⟨c_12, h⟩
    · refine r_t2 (pc' := 38) (L' := [(0, .ref 143), (1, .int X1), (2, .int X2)]) hq (z_at.mk 3 rfl rfl) rfl hR_7 (rfl : (124 : Int32).toInt = 124) c_12 rfl rfl ?_
      refine r_p hq 1 (pc' := 39) (L' := [(0, .ref 143), (1, .int X1), (2, .int X2)]) (st' := [.int X2]) rfl ?_
      obtain ⟨g_39, h⟩ := z_if_some h
      cases h
      exact r_ri hq (z_at.mk 1 rfl rfl) rfl (z_rty_bo hx2 g_39) hx2 rfl H_7
    · refine r_f2 (pc' := 15) (L' := [(0, .ref 143), (1, .int X1), (2, .int X2)]) hq (z_at.mk 3 rfl rfl) rfl hR_7 (rfl : (124 : Int32).toInt = 124) c_12 rfl rfl ?_
      refine r_p hq 2 (pc' := 17) (L' := [(0, .ref 143), (1, .int X1), (2, .int X2)]) (st' := [.ref 143, .ref 143]) rfl ?_
      refine r_gI (pc' := 20) (L' := [(0, .ref 143), (1, .int X1), (2, .int X2)]) H_7 hq (z_at.mk 3 rfl rfl) rfl rfl rfl rfl ?_
      intro V_17 hV_17
      refine r_p hq 2 (pc' := 22) (L' := [(0, .ref 143), (1, .int X1), (2, .int X2)]) (st' := [.int (V_17 + ((1 : Int32))), .ref 143]) rfl ?_
      refine r_pI (X := V_17 + ((1 : Int32))) (pc' := 25) (L' := [(0, .ref 143), (1, .int X1), (2, .int X2)]) H_7 hq (z_at.mk 3 rfl rfl) rfl rfl (tx_iadd hV_17 (rfl : (1 : Int32).toInt = 1)) (by decide) rfl rfl rfl rfl ?_
      intro m_22 H_22
      refine r_p hq 2 (pc' := 27) (L' := [(0, .ref 143), (1, .int X1), (2, .int X2)]) (st' := [.int X1, .ref 143]) rfl ?_
      obtain ⟨o_27, h_27, h⟩ := Option.bind_eq_some_iff.mp h
      refine r_cvI (pc' := 30) (L' := [(0, .ref 143), (1, .int X1), (2, .int X2)]) (Ps := [.int X1]) (rest := []) hq (z_at.mk 3 rfl rfl) (Or.inl ⟨rfl, rfl⟩) rfl rfl (by decide) (by decide) rfl (Nat.not_lt.mpr (Nat.le_of_ble_eq_true rfl)) rfl rfl (z_cat_le 0 rfl (by decide)) (z_lgl_le 2 rfl (by decide)) (by decide) (H_22.tg rfl) (by omega) (hrec 232 (by simp) hx1 H_22 h_27) rfl rfl ?_
      intro R_27 m_27 p_27 e_27 hR_27 H_27
      subst e_27
      refine r_p hq 6 (pc' := 6) (L' := [(0, .ref 143), (1, .int X1), (2, .int (X2 ||| R_27))]) (st' := []) rfl ?_
      exact ih hx1 (tx_ior hx2 hR_27) H_27 h
def g_m_doesHold (rec : Nat → Int → zS → Option (Int × zS)) (x1 : Int) (σ : zS) : Option (Int × zS) :=
  (rec 232 x1 σ).bind fun o_2 =>
  g_m_doesHold_L6 rec zK x1 o_2.1 o_2.2
set_option maxHeartbeats 4000000 in
theorem g_m_doesHold_ok {xl : Nat} {xs : Nat → Int32} {dr : Nat} (hdr : 4 ≤ dr) {rec : Nat → Int → zS → Option (Int × zS)} (hrec : ∀ j, j ∈ [231, 232, 233] → ∀ {X1 : Int32} {x1 : Int} {σ : zS} {p : Nat} {m : zM} {o : Int × zS}, X1.toInt = x1 → zRep xl xs p m σ → rec j x1 σ = some o → zGo xl xs (fun p' => p = p') dr j 0 (z_can j 0 (lv_args 0 [.ref 143, .int X1])) [] m (vI o.1) o.2) {X1 : Int32} {x1 : Int} (hx1 : X1.toInt = x1) {σ : zS} {p : Nat} {m : zM} {o : Int × zS} (H : zRep xl xs p m σ) (h : g_m_doesHold rec x1 σ = some o) : zGo xl xs (fun p' => p = p') (dr + 1) 231 0 (z_can 231 0 (lv_args 0 [.ref 143, .int X1])) [] m (vI o.1) o.2 := by
  have hq : z_mth 231 = some z_r231 := rfl
  unfold g_m_doesHold at h
  show zGo xl xs (fun p' => p = p') (dr + 1) 231 0 [(0, .ref 143), (1, .int X1)] [] m (vI o.1) o.2
  refine r_p hq 2 (pc' := 2) (L' := [(0, .ref 143), (1, .int X1)]) (st' := [.int X1, .ref 143]) rfl ?_
  obtain ⟨o_2, h_2, h⟩ := Option.bind_eq_some_iff.mp h
  refine r_cvI (pc' := 5) (L' := [(0, .ref 143), (1, .int X1)]) (Ps := [.int X1]) (rest := []) hq (z_at.mk 3 rfl rfl) (Or.inl ⟨rfl, rfl⟩) rfl rfl (by decide) (by decide) rfl (Nat.not_lt.mpr (Nat.le_of_ble_eq_true rfl)) rfl rfl (z_cat_le 0 rfl (by decide)) (z_lgl_le 2 rfl (by decide)) (by decide) (H.tg rfl) (by omega) (hrec 232 (by simp) hx1 H h_2) rfl rfl ?_
  intro R_2 m_2 p_2 e_2 hR_2 H_2
  subst e_2
  refine r_p hq 1 (pc' := 6) (L' := [(0, .ref 143), (1, .int X1), (2, .int R_2)]) (st' := []) rfl ?_
  exact g_m_doesHold_L6_ok hdr hrec zK hx1 hR_2 H_2 h
def g_m_holdsBoth_L6 (rec : Nat → Int → zS → Option (Int × zS)) : Nat → Int → Int → zS → Option (Int × zS)
  | 0, _, _, _ => none
  | n + 1, x1, x2, σ =>
    (g_m_here σ).bind fun o_7 =>
    if o_7.1 ≠ 38 then
      if x2 = 0 ∨ x2 = 1 then some (x2, o_7.2) else none
    else
      let v_17 := o_7.2 143 21
      let s_22 := zu o_7.2 143 21 (w32 (v_17 + 1))
      (rec 233 x1 s_22).bind fun o_27 =>
      (g_m_holdsBoth_L6 rec n) x1 (iAnd x2 o_27.1) o_27.2
set_option maxHeartbeats 4000000 in
theorem g_m_holdsBoth_L6_ok {xl : Nat} {xs : Nat → Int32} {dr : Nat} (hdr : 4 ≤ dr) {rec : Nat → Int → zS → Option (Int × zS)} (hrec : ∀ j, j ∈ [231, 232, 233] → ∀ {X1 : Int32} {x1 : Int} {σ : zS} {p : Nat} {m : zM} {o : Int × zS}, X1.toInt = x1 → zRep xl xs p m σ → rec j x1 σ = some o → zGo xl xs (fun p' => p = p') dr j 0 (z_can j 0 (lv_args 0 [.ref 143, .int X1])) [] m (vI o.1) o.2) : ∀ (n : Nat) {X1 : Int32} {x1 : Int} {X2 : Int32} {x2 : Int} {σ : zS} {p : Nat} {m : zM} {o : Int × zS}, X1.toInt = x1 → X2.toInt = x2 → zRep xl xs p m σ → g_m_holdsBoth_L6 rec n x1 x2 σ = some o → zGo xl xs (fun p' => p = p') (dr + 1) 232 6 [(0, .ref 143), (1, .int X1), (2, .int X2)] [] m (vI o.1) o.2
  | 0, _, _, _, _, _, _, _, _, _, _, _, h => by cases h
  | n + 1, X1, x1, X2, x2, σ, p, m, o, hx1, hx2, H, h => by
    have hq : z_mth 232 = some z_r232 := rfl
    have ih := fun {X1 : Int32} {x1 : Int} {X2 : Int32} {x2 : Int} {σ : zS} {p : Nat} {m : zM} {o : Int × zS} => g_m_holdsBoth_L6_ok (xl := xl) (xs := xs) hdr hrec n (X1 := X1) (x1 := x1) (X2 := X2) (x2 := x2) (σ := σ) (p := p) (m := m) (o := o)
    unfold g_m_holdsBoth_L6 at h
    refine r_p hq 1 (pc' := 7) (L' := [(0, .ref 143), (1, .int X1), (2, .int X2)]) (st' := [.ref 143]) rfl ?_
    obtain ⟨o_7, h_7, h⟩ := Option.bind_eq_some_iff.mp h
    refine r_cvI (pc' := 10) (L' := [(0, .ref 143), (1, .int X1), (2, .int X2)]) (Ps := []) (rest := []) hq (z_at.mk 3 rfl rfl) (Or.inl ⟨rfl, rfl⟩) rfl rfl (by decide) (by decide) rfl (Nat.not_lt.mpr (Nat.le_of_ble_eq_true rfl)) rfl rfl (z_cat_le 0 rfl (by decide)) (z_lgl_le 1 rfl (by decide)) (by decide) (H.tg rfl) (by omega) (g_m_here_ok H h_7) rfl rfl ?_
    intro R_7 m_7 p_7 e_7 hR_7 H_7
    subst e_7
    refine r_p hq 1 (pc' := 12) (L' := [(0, .ref 143), (1, .int X1), (2, .int X2)]) (st' := [.int ((38 : Int32)), .int R_7]) rfl ?_
    rcases z_ite h with ⟨c_12, h⟩ | ⟨c_12, h⟩
    · refine r_t2 (pc' := 38) (L' := [(0, .ref 143), (1, .int X1), (2, .int X2)]) hq (z_at.mk 3 rfl rfl) rfl hR_7 (rfl : (38 : Int32).toInt = 38) c_12 rfl rfl ?_
      refine r_p hq 1 (pc' := 39) (L' := [(0, .ref 143), (1, .int X1), (2, .int X2)]) (st' := [.int X2]) rfl ?_
      obtain ⟨g_39, h⟩ := z_if_some h
      cases h
      exact r_ri hq (z_at.mk 1 rfl rfl) rfl (z_rty_bo hx2 g_39) hx2 rfl H_7
    · refine r_f2 (pc' := 15) (L' := [(0, .ref 143), (1, .int X1), (2, .int X2)]) hq (z_at.mk 3 rfl rfl) rfl hR_7 (rfl : (38 : Int32).toInt = 38) c_12 rfl rfl ?_
      refine r_p hq 2 (pc' := 17) (L' := [(0, .ref 143), (1, .int X1), (2, .int X2)]) (st' := [.ref 143, .ref 143]) rfl ?_
      refine r_gI (pc' := 20) (L' := [(0, .ref 143), (1, .int X1), (2, .int X2)]) H_7 hq (z_at.mk 3 rfl rfl) rfl rfl rfl rfl ?_
      intro V_17 hV_17
      refine r_p hq 2 (pc' := 22) (L' := [(0, .ref 143), (1, .int X1), (2, .int X2)]) (st' := [.int (V_17 + ((1 : Int32))), .ref 143]) rfl ?_
      refine r_pI (X := V_17 + ((1 : Int32))) (pc' := 25) (L' := [(0, .ref 143), (1, .int X1), (2, .int X2)]) H_7 hq (z_at.mk 3 rfl rfl) rfl rfl (tx_iadd hV_17 (rfl : (1 : Int32).toInt = 1)) (by decide) rfl rfl rfl rfl ?_
      intro m_22 H_22
      refine r_p hq 2 (pc' := 27) (L' := [(0, .ref 143), (1, .int X1), (2, .int X2)]) (st' := [.int X1, .ref 143]) rfl ?_
      obtain ⟨o_27, h_27, h⟩ := Option.bind_eq_some_iff.mp h
      refine r_cvI (pc' := 30) (L' := [(0, .ref 143), (1, .int X1), (2, .int X2)]) (Ps := [.int X1]) (rest := []) hq (z_at.mk 3 rfl rfl) (Or.inl ⟨rfl, rfl⟩) rfl rfl (by decide) (by decide) rfl (Nat.not_lt.mpr (Nat.le_of_ble_eq_true rfl)) rfl rfl (z_cat_le 0 rfl (by decide)) (z_lgl_le 2 rfl (by decide)) (by decide) (H_22.tg rfl) (by omega) (hrec 233 (by simp) hx1 H_22 h_27) rfl rfl ?_
      intro R_27 m_27 p_27 e_27 hR_27 H_27
      subst e_27
      refine r_p hq 6 (pc' := 6) (L' := [(0, .ref 143), (1, .int X1), (2, .int (X2 &&& R_27))]) (st' := []) rfl ?_
      exact ih hx1 (tx_iand hx2 hR_27) H_27 h
def g_m_holdsBoth (rec : Nat → Int → zS → Option (Int × zS)) (x1 : Int) (σ : zS) : Option (Int × zS) :=
  (rec 233 x1 σ).bind fun o_2 =>
  g_m_holdsBoth_L6 rec zK x1 o_2.1 o_2.2
set_option maxHeartbeats 4000000 in
theorem g_m_holdsBoth_ok {xl : Nat} {xs : Nat → Int32} {dr : Nat} (hdr : 4 ≤ dr) {rec : Nat → Int → zS → Option (Int × zS)} (hrec : ∀ j, j ∈ [231, 232, 233] → ∀ {X1 : Int32} {x1 : Int} {σ : zS} {p : Nat} {m : zM} {o : Int × zS}, X1.toInt = x1 → zRep xl xs p m σ → rec j x1 σ = some o → zGo xl xs (fun p' => p = p') dr j 0 (z_can j 0 (lv_args 0 [.ref 143, .int X1])) [] m (vI o.1) o.2) {X1 : Int32} {x1 : Int} (hx1 : X1.toInt = x1) {σ : zS} {p : Nat} {m : zM} {o : Int × zS} (H : zRep xl xs p m σ) (h : g_m_holdsBoth rec x1 σ = some o) : zGo xl xs (fun p' => p = p') (dr + 1) 232 0 (z_can 232 0 (lv_args 0 [.ref 143, .int X1])) [] m (vI o.1) o.2 := by
  have hq : z_mth 232 = some z_r232 := rfl
  unfold g_m_holdsBoth at h
  show zGo xl xs (fun p' => p = p') (dr + 1) 232 0 [(0, .ref 143), (1, .int X1)] [] m (vI o.1) o.2
  refine r_p hq 2 (pc' := 2) (L' := [(0, .ref 143), (1, .int X1)]) (st' := [.int X1, .ref 143]) rfl ?_
  obtain ⟨o_2, h_2, h⟩ := Option.bind_eq_some_iff.mp h
  refine r_cvI (pc' := 5) (L' := [(0, .ref 143), (1, .int X1)]) (Ps := [.int X1]) (rest := []) hq (z_at.mk 3 rfl rfl) (Or.inl ⟨rfl, rfl⟩) rfl rfl (by decide) (by decide) rfl (Nat.not_lt.mpr (Nat.le_of_ble_eq_true rfl)) rfl rfl (z_cat_le 0 rfl (by decide)) (z_lgl_le 2 rfl (by decide)) (by decide) (H.tg rfl) (by omega) (hrec 233 (by simp) hx1 H h_2) rfl rfl ?_
  intro R_2 m_2 p_2 e_2 hR_2 H_2
  subst e_2
  refine r_p hq 1 (pc' := 6) (L' := [(0, .ref 143), (1, .int X1), (2, .int R_2)]) (st' := []) rfl ?_
  exact g_m_holdsBoth_L6_ok hdr hrec zK hx1 hR_2 H_2 h
def g_m_holdsFactor_L202 (rec : Nat → Int → zS → Option (Int × zS)) (y3 : Int) (x5 : Int) (ys0 : Int) (σ : zS) : Option (Int × zS) :=
  if x5 ≠ 60 then
    if x5 ≠ 62 then
      if lCmp y3 ys0 ≠ 0 then
        some (0, σ)
      else
        some (1, σ)
    else
      if lCmp y3 ys0 ≤ 0 then
        some (0, σ)
      else
        some (1, σ)
  else
    if 0 ≤ lCmp y3 ys0 then
      some (0, σ)
    else
      some (1, σ)
set_option maxHeartbeats 4000000 in
theorem g_m_holdsFactor_L202_ok {xl : Nat} {xs : Nat → Int32} {dr : Nat} (hdr : 4 ≤ dr) {rec : Nat → Int → zS → Option (Int × zS)} (hrec : ∀ j, j ∈ [231, 232, 233] → ∀ {X1 : Int32} {x1 : Int} {σ : zS} {p : Nat} {m : zM} {o : Int × zS}, X1.toInt = x1 → zRep xl xs p m σ → rec j x1 σ = some o → zGo xl xs (fun p' => p = p') dr j 0 (z_can j 0 (lv_args 0 [.ref 143, .int X1])) [] m (vI o.1) o.2) {Y3 : Int64} {y3 : Int} (hy3 : Y3.toInt = y3) {X5 : Int32} {x5 : Int} (hx5 : X5.toInt = x5) {Ys0 : Int64} {ys0 : Int} (hys0 : Ys0.toInt = ys0) {σ : zS} {p : Nat} {m : zM} {o : Int × zS} (H : zRep xl xs p m σ) (h : g_m_holdsFactor_L202 rec y3 x5 ys0 σ = some o) : zGo xl xs (fun p' => p = p') (dr + 1) 233 202 [(3, .long Y3), (5, .int X5)] [.long Ys0] m (vI o.1) o.2 := by
  have hq : z_mth 233 = some z_r233 := rfl
  unfold g_m_holdsFactor_L202 at h
  refine r_p hq 3 (pc' := 208) (L' := [(7, .long Ys0), (3, .long Y3), (5, .int X5)]) (st' := [.int ((60 : Int32)), .int X5]) rfl ?_
  rcases z_ite h with ⟨c_208, h⟩ | ⟨c_208, h⟩
  · refine r_t2 (pc' := 226) (L' := [(7, .long Ys0), (3, .long Y3), (5, .int X5)]) hq (z_at.mk 3 rfl rfl) rfl hx5 (rfl : (60 : Int32).toInt = 60) c_208 rfl rfl ?_
    refine r_p hq 2 (pc' := 230) (L' := [(7, .long Ys0), (3, .long Y3), (5, .int X5)]) (st' := [.int ((62 : Int32)), .int X5]) rfl ?_
    rcases z_ite h with ⟨c_230, h⟩ | ⟨c_230, h⟩
    · refine r_t2 (pc' := 248) (L' := [(7, .long Ys0), (3, .long Y3), (5, .int X5)]) hq (z_at.mk 3 rfl rfl) rfl hx5 (rfl : (62 : Int32).toInt = 62) c_230 rfl rfl ?_
      refine r_p hq 3 (pc' := 252) (L' := [(7, .long Ys0), (3, .long Y3), (5, .int X5)]) (st' := [.int (lg_cmp Y3 Ys0)]) rfl ?_
      rcases z_ite h with ⟨c_252, h⟩ | ⟨c_252, h⟩
      · refine r_t1 (pc' := 259) (L' := [(7, .long Ys0), (3, .long Y3), (5, .int X5)]) hq (z_at.mk 3 rfl rfl) rfl (tx_lcmp hy3 hys0) c_252 rfl rfl ?_
        refine r_p hq 1 (pc' := 260) (L' := []) (st' := [.int ((0 : Int32))]) rfl ?_
        cases h
        exact r_ri hq (z_at.mk 1 rfl rfl) rfl rfl (rfl : (0 : Int32).toInt = 0) rfl H
      · refine r_f1 (pc' := 255) (L' := [(7, .long Ys0), (3, .long Y3), (5, .int X5)]) hq (z_at.mk 3 rfl rfl) rfl (tx_lcmp hy3 hys0) c_252 rfl rfl ?_
        refine r_p hq 2 (pc' := 260) (L' := []) (st' := [.int ((1 : Int32))]) rfl ?_
        cases h
        exact r_ri hq (z_at.mk 1 rfl rfl) rfl rfl (rfl : (1 : Int32).toInt = 1) rfl H
    · refine r_f2 (pc' := 233) (L' := [(7, .long Ys0), (3, .long Y3), (5, .int X5)]) hq (z_at.mk 3 rfl rfl) rfl hx5 (rfl : (62 : Int32).toInt = 62) c_230 rfl rfl ?_
      refine r_p hq 3 (pc' := 237) (L' := [(7, .long Ys0), (3, .long Y3), (5, .int X5)]) (st' := [.int (lg_cmp Y3 Ys0)]) rfl ?_
      rcases z_ite h with ⟨c_237, h⟩ | ⟨c_237, h⟩
      · refine r_t1 (pc' := 244) (L' := [(7, .long Ys0), (3, .long Y3), (5, .int X5)]) hq (z_at.mk 3 rfl rfl) rfl (tx_lcmp hy3 hys0) c_237 rfl rfl ?_
        refine r_p hq 2 (pc' := 260) (L' := []) (st' := [.int ((0 : Int32))]) rfl ?_
        cases h
        exact r_ri hq (z_at.mk 1 rfl rfl) rfl rfl (rfl : (0 : Int32).toInt = 0) rfl H
      · refine r_f1 (pc' := 240) (L' := [(7, .long Ys0), (3, .long Y3), (5, .int X5)]) hq (z_at.mk 3 rfl rfl) rfl (tx_lcmp hy3 hys0) c_237 rfl rfl ?_
        refine r_p hq 2 (pc' := 260) (L' := []) (st' := [.int ((1 : Int32))]) rfl ?_
        cases h
        exact r_ri hq (z_at.mk 1 rfl rfl) rfl rfl (rfl : (1 : Int32).toInt = 1) rfl H
  · refine r_f2 (pc' := 211) (L' := [(7, .long Ys0), (3, .long Y3), (5, .int X5)]) hq (z_at.mk 3 rfl rfl) rfl hx5 (rfl : (60 : Int32).toInt = 60) c_208 rfl rfl ?_
    refine r_p hq 3 (pc' := 215) (L' := [(7, .long Ys0), (3, .long Y3), (5, .int X5)]) (st' := [.int (lg_cmp Y3 Ys0)]) rfl ?_
    rcases z_ite h with ⟨c_215, h⟩ | ⟨c_215, h⟩
    · refine r_t1 (pc' := 222) (L' := [(7, .long Ys0), (3, .long Y3), (5, .int X5)]) hq (z_at.mk 3 rfl rfl) rfl (tx_lcmp hy3 hys0) c_215 rfl rfl ?_
      refine r_p hq 2 (pc' := 260) (L' := []) (st' := [.int ((0 : Int32))]) rfl ?_
      cases h
      exact r_ri hq (z_at.mk 1 rfl rfl) rfl rfl (rfl : (0 : Int32).toInt = 0) rfl H
    · refine r_f1 (pc' := 218) (L' := [(7, .long Ys0), (3, .long Y3), (5, .int X5)]) hq (z_at.mk 3 rfl rfl) rfl (tx_lcmp hy3 hys0) c_215 rfl rfl ?_
      refine r_p hq 2 (pc' := 260) (L' := []) (st' := [.int ((1 : Int32))]) rfl ?_
      cases h
      exact r_ri hq (z_at.mk 1 rfl rfl) rfl rfl (rfl : (1 : Int32).toInt = 1) rfl H
def g_m_holdsFactor_L168 (rec : Nat → Int → zS → Option (Int × zS)) (y3 : Int) (x5 : Int) (x6 : Int) (xs0 : Int) (xs1 : Int) (σ : zS) : Option (Int × zS) :=
  let s_169 := zu σ 143 21 (w32 (xs1 + xs0))
  (g_m_isNumber 9 0 999999999 s_169).bind fun o_179 =>
  if x6 = 0 then
    let v_198 := o_179.2 143 23
    g_m_holdsFactor_L202 rec y3 x5 v_198 o_179.2
  else
    let v_189 := o_179.2 143 23
    g_m_holdsFactor_L202 rec y3 x5 (w32 (-v_189)) o_179.2
set_option maxHeartbeats 4000000 in
theorem g_m_holdsFactor_L168_ok {xl : Nat} {xs : Nat → Int32} {dr : Nat} (hdr : 4 ≤ dr) {rec : Nat → Int → zS → Option (Int × zS)} (hrec : ∀ j, j ∈ [231, 232, 233] → ∀ {X1 : Int32} {x1 : Int} {σ : zS} {p : Nat} {m : zM} {o : Int × zS}, X1.toInt = x1 → zRep xl xs p m σ → rec j x1 σ = some o → zGo xl xs (fun p' => p = p') dr j 0 (z_can j 0 (lv_args 0 [.ref 143, .int X1])) [] m (vI o.1) o.2) {Y3 : Int64} {y3 : Int} (hy3 : Y3.toInt = y3) {X5 : Int32} {x5 : Int} (hx5 : X5.toInt = x5) {X6 : Int32} {x6 : Int} (hx6 : X6.toInt = x6) {Xs0 : Int32} {xs0 : Int} (hxs0 : Xs0.toInt = xs0) {Xs1 : Int32} {xs1 : Int} (hxs1 : Xs1.toInt = xs1) {σ : zS} {p : Nat} {m : zM} {o : Int × zS} (H : zRep xl xs p m σ) (h : g_m_holdsFactor_L168 rec y3 x5 x6 xs0 xs1 σ = some o) : zGo xl xs (fun p' => p = p') (dr + 1) 233 168 [(0, .ref 143), (3, .long Y3), (5, .int X5), (6, .int X6)] [.int Xs0, .int Xs1, .ref 143] m (vI o.1) o.2 := by
  have hq : z_mth 233 = some z_r233 := rfl
  unfold g_m_holdsFactor_L168 at h
  refine r_p hq 1 (pc' := 169) (L' := [(0, .ref 143), (3, .long Y3), (5, .int X5), (6, .int X6)]) (st' := [.int (Xs1 + Xs0), .ref 143]) rfl ?_
  refine r_pI (X := Xs1 + Xs0) (pc' := 172) (L' := [(0, .ref 143), (3, .long Y3), (5, .int X5), (6, .int X6)]) H hq (z_at.mk 3 rfl rfl) rfl rfl (tx_iadd hxs1 hxs0) (by decide) rfl rfl rfl rfl ?_
  intro m_169 H_169
  refine r_p hq 4 (pc' := 179) (L' := [(0, .ref 143), (3, .long Y3), (5, .int X5), (6, .int X6)]) (st' := [.int ((999999999 : Int32)), .int ((0 : Int32)), .int ((9 : Int32)), .ref 143]) rfl ?_
  obtain ⟨o_179, h_179, h⟩ := Option.bind_eq_some_iff.mp h
  refine r_cvI (pc' := 182) (L' := [(0, .ref 143), (3, .long Y3), (5, .int X5), (6, .int X6)]) (Ps := [.int ((9 : Int32)), .int ((0 : Int32)), .int ((999999999 : Int32))]) (rest := []) hq (z_at.mk 3 rfl rfl) (Or.inl ⟨rfl, rfl⟩) rfl rfl (by decide) (by decide) rfl (Nat.not_lt.mpr (Nat.le_of_ble_eq_true rfl)) rfl rfl (z_cat_le 0 rfl (by decide)) (z_lgl_le 4 rfl (by decide)) (by decide) (H_169.tg rfl) (by omega) (g_m_isNumber_ok (rfl : (9 : Int32).toInt = 9) (rfl : (0 : Int32).toInt = 0) (rfl : (999999999 : Int32).toInt = 999999999) H_169 h_179) rfl rfl ?_
  intro R_179 m_179 p_179 e_179 hR_179 H_179
  subst e_179
  refine r_p hq 2 (pc' := 185) (L' := [(0, .ref 143), (3, .long Y3), (5, .int X5), (6, .int X6)]) (st' := [.int X6]) rfl ?_
  rcases z_ite h with ⟨c_185, h⟩ | ⟨c_185, h⟩
  · refine r_t1 (pc' := 197) (L' := [(0, .ref 143), (3, .long Y3), (5, .int X5), (6, .int X6)]) hq (z_at.mk 3 rfl rfl) rfl hx6 c_185 rfl rfl ?_
    refine r_p hq 1 (pc' := 198) (L' := [(0, .ref 143), (3, .long Y3), (5, .int X5), (6, .int X6)]) (st' := [.ref 143]) rfl ?_
    refine r_gI (pc' := 201) (L' := [(0, .ref 143), (3, .long Y3), (5, .int X5), (6, .int X6)]) H_179 hq (z_at.mk 3 rfl rfl) rfl rfl rfl rfl ?_
    intro V_198 hV_198
    refine r_p hq 1 (pc' := 202) (L' := [(3, .long Y3), (5, .int X5)]) (st' := [.long V_198.toInt64]) rfl ?_
    exact g_m_holdsFactor_L202_ok hdr hrec hy3 hx5 (tx_i2l hV_198) H_179 h
  · refine r_f1 (pc' := 188) (L' := [(0, .ref 143), (3, .long Y3), (5, .int X5), (6, .int X6)]) hq (z_at.mk 3 rfl rfl) rfl hx6 c_185 rfl rfl ?_
    refine r_p hq 1 (pc' := 189) (L' := [(0, .ref 143), (3, .long Y3), (5, .int X5), (6, .int X6)]) (st' := [.ref 143]) rfl ?_
    refine r_gI (pc' := 192) (L' := [(0, .ref 143), (3, .long Y3), (5, .int X5), (6, .int X6)]) H_179 hq (z_at.mk 3 rfl rfl) rfl rfl rfl rfl ?_
    intro V_189 hV_189
    refine r_p hq 3 (pc' := 202) (L' := [(3, .long Y3), (5, .int X5)]) (st' := [.long ((-V_189).toInt64)]) rfl ?_
    exact g_m_holdsFactor_L202_ok hdr hrec hy3 hx5 (tx_i2l (tx_ineg hV_189)) H_179 h
def g_m_holdsFactor_L151 (rec : Nat → Int → zS → Option (Int × zS)) (y3 : Int) (x5 : Int) (xs0 : Int) (σ : zS) : Option (Int × zS) :=
  let v_155 := σ 143 21
  if xs0 = 0 then
    g_m_holdsFactor_L168 rec y3 x5 xs0 0 v_155 σ
  else
    g_m_holdsFactor_L168 rec y3 x5 xs0 1 v_155 σ
set_option maxHeartbeats 4000000 in
theorem g_m_holdsFactor_L151_ok {xl : Nat} {xs : Nat → Int32} {dr : Nat} (hdr : 4 ≤ dr) {rec : Nat → Int → zS → Option (Int × zS)} (hrec : ∀ j, j ∈ [231, 232, 233] → ∀ {X1 : Int32} {x1 : Int} {σ : zS} {p : Nat} {m : zM} {o : Int × zS}, X1.toInt = x1 → zRep xl xs p m σ → rec j x1 σ = some o → zGo xl xs (fun p' => p = p') dr j 0 (z_can j 0 (lv_args 0 [.ref 143, .int X1])) [] m (vI o.1) o.2) {Y3 : Int64} {y3 : Int} (hy3 : Y3.toInt = y3) {X5 : Int32} {x5 : Int} (hx5 : X5.toInt = x5) {Xs0 : Int32} {xs0 : Int} (hxs0 : Xs0.toInt = xs0) {σ : zS} {p : Nat} {m : zM} {o : Int × zS} (H : zRep xl xs p m σ) (h : g_m_holdsFactor_L151 rec y3 x5 xs0 σ = some o) : zGo xl xs (fun p' => p = p') (dr + 1) 233 151 [(0, .ref 143), (3, .long Y3), (5, .int X5)] [.int Xs0] m (vI o.1) o.2 := by
  have hq : z_mth 233 = some z_r233 := rfl
  unfold g_m_holdsFactor_L151 at h
  refine r_p hq 3 (pc' := 155) (L' := [(6, .int Xs0), (0, .ref 143), (3, .long Y3), (5, .int X5)]) (st' := [.ref 143, .ref 143]) rfl ?_
  refine r_gI (pc' := 158) (L' := [(6, .int Xs0), (0, .ref 143), (3, .long Y3), (5, .int X5)]) H hq (z_at.mk 3 rfl rfl) rfl rfl rfl rfl ?_
  intro V_155 hV_155
  refine r_p hq 1 (pc' := 160) (L' := [(6, .int Xs0), (0, .ref 143), (3, .long Y3), (5, .int X5)]) (st' := [.int Xs0, .int V_155, .ref 143]) rfl ?_
  rcases z_ite h with ⟨c_160, h⟩ | ⟨c_160, h⟩
  · refine r_t1 (pc' := 167) (L' := [(6, .int Xs0), (0, .ref 143), (3, .long Y3), (5, .int X5)]) hq (z_at.mk 3 rfl rfl) rfl hxs0 c_160 rfl rfl ?_
    refine r_p hq 1 (pc' := 168) (L' := [(0, .ref 143), (3, .long Y3), (5, .int X5), (6, .int Xs0)]) (st' := [.int ((0 : Int32)), .int V_155, .ref 143]) rfl ?_
    exact g_m_holdsFactor_L168_ok hdr hrec hy3 hx5 hxs0 (rfl : (0 : Int32).toInt = 0) hV_155 H h
  · refine r_f1 (pc' := 163) (L' := [(6, .int Xs0), (0, .ref 143), (3, .long Y3), (5, .int X5)]) hq (z_at.mk 3 rfl rfl) rfl hxs0 c_160 rfl rfl ?_
    refine r_p hq 2 (pc' := 168) (L' := [(0, .ref 143), (3, .long Y3), (5, .int X5), (6, .int Xs0)]) (st' := [.int ((1 : Int32)), .int V_155, .ref 143]) rfl ?_
    exact g_m_holdsFactor_L168_ok hdr hrec hy3 hx5 hxs0 (rfl : (1 : Int32).toInt = 1) hV_155 H h
def g_m_holdsFactor_L120 (rec : Nat → Int → zS → Option (Int × zS)) (ys0 : Int) (σ : zS) : Option (Int × zS) :=
  (g_m_here σ).bind fun o_122 =>
  let v_129 := o_122.2 143 21
  let s_134 := zu o_122.2 143 21 (w32 (v_129 + 1))
  (g_m_here s_134).bind fun o_138 =>
  if o_138.1 ≠ 45 then
    g_m_holdsFactor_L151 rec ys0 o_122.1 0 o_138.2
  else
    g_m_holdsFactor_L151 rec ys0 o_122.1 1 o_138.2
set_option maxHeartbeats 4000000 in
theorem g_m_holdsFactor_L120_ok {xl : Nat} {xs : Nat → Int32} {dr : Nat} (hdr : 4 ≤ dr) {rec : Nat → Int → zS → Option (Int × zS)} (hrec : ∀ j, j ∈ [231, 232, 233] → ∀ {X1 : Int32} {x1 : Int} {σ : zS} {p : Nat} {m : zM} {o : Int × zS}, X1.toInt = x1 → zRep xl xs p m σ → rec j x1 σ = some o → zGo xl xs (fun p' => p = p') dr j 0 (z_can j 0 (lv_args 0 [.ref 143, .int X1])) [] m (vI o.1) o.2) {Ys0 : Int64} {ys0 : Int} (hys0 : Ys0.toInt = ys0) {σ : zS} {p : Nat} {m : zM} {o : Int × zS} (H : zRep xl xs p m σ) (h : g_m_holdsFactor_L120 rec ys0 σ = some o) : zGo xl xs (fun p' => p = p') (dr + 1) 233 120 [(0, .ref 143)] [.long Ys0] m (vI o.1) o.2 := by
  have hq : z_mth 233 = some z_r233 := rfl
  unfold g_m_holdsFactor_L120 at h
  refine r_p hq 2 (pc' := 122) (L' := [(3, .long Ys0), (0, .ref 143)]) (st' := [.ref 143]) rfl ?_
  obtain ⟨o_122, h_122, h⟩ := Option.bind_eq_some_iff.mp h
  refine r_cvI (pc' := 125) (L' := [(3, .long Ys0), (0, .ref 143)]) (Ps := []) (rest := []) hq (z_at.mk 3 rfl rfl) (Or.inl ⟨rfl, rfl⟩) rfl rfl (by decide) (by decide) rfl (Nat.not_lt.mpr (Nat.le_of_ble_eq_true rfl)) rfl rfl (z_cat_le 0 rfl (by decide)) (z_lgl_le 1 rfl (by decide)) (by decide) (H.tg rfl) (by omega) (g_m_here_ok H h_122) rfl rfl ?_
  intro R_122 m_122 p_122 e_122 hR_122 H_122
  subst e_122
  refine r_p hq 3 (pc' := 129) (L' := [(5, .int R_122), (3, .long Ys0), (0, .ref 143)]) (st' := [.ref 143, .ref 143]) rfl ?_
  refine r_gI (pc' := 132) (L' := [(5, .int R_122), (3, .long Ys0), (0, .ref 143)]) H_122 hq (z_at.mk 3 rfl rfl) rfl rfl rfl rfl ?_
  intro V_129 hV_129
  refine r_p hq 2 (pc' := 134) (L' := [(5, .int R_122), (3, .long Ys0), (0, .ref 143)]) (st' := [.int (V_129 + ((1 : Int32))), .ref 143]) rfl ?_
  refine r_pI (X := V_129 + ((1 : Int32))) (pc' := 137) (L' := [(5, .int R_122), (3, .long Ys0), (0, .ref 143)]) H_122 hq (z_at.mk 3 rfl rfl) rfl rfl (tx_iadd hV_129 (rfl : (1 : Int32).toInt = 1)) (by decide) rfl rfl rfl rfl ?_
  intro m_134 H_134
  refine r_p hq 1 (pc' := 138) (L' := [(5, .int R_122), (3, .long Ys0), (0, .ref 143)]) (st' := [.ref 143]) rfl ?_
  obtain ⟨o_138, h_138, h⟩ := Option.bind_eq_some_iff.mp h
  refine r_cvI (pc' := 141) (L' := [(5, .int R_122), (3, .long Ys0), (0, .ref 143)]) (Ps := []) (rest := []) hq (z_at.mk 3 rfl rfl) (Or.inl ⟨rfl, rfl⟩) rfl rfl (by decide) (by decide) rfl (Nat.not_lt.mpr (Nat.le_of_ble_eq_true rfl)) rfl rfl (z_cat_le 0 rfl (by decide)) (z_lgl_le 1 rfl (by decide)) (by decide) (H_134.tg rfl) (by omega) (g_m_here_ok H_134 h_138) rfl rfl ?_
  intro R_138 m_138 p_138 e_138 hR_138 H_138
  subst e_138
  refine r_p hq 1 (pc' := 143) (L' := [(5, .int R_122), (3, .long Ys0), (0, .ref 143)]) (st' := [.int ((45 : Int32)), .int R_138]) rfl ?_
  rcases z_ite h with ⟨c_143, h⟩ | ⟨c_143, h⟩
  · refine r_t2 (pc' := 150) (L' := [(5, .int R_122), (3, .long Ys0), (0, .ref 143)]) hq (z_at.mk 3 rfl rfl) rfl hR_138 (rfl : (45 : Int32).toInt = 45) c_143 rfl rfl ?_
    refine r_p hq 1 (pc' := 151) (L' := [(0, .ref 143), (3, .long Ys0), (5, .int R_122)]) (st' := [.int ((0 : Int32))]) rfl ?_
    exact g_m_holdsFactor_L151_ok hdr hrec hys0 hR_122 (rfl : (0 : Int32).toInt = 0) H_138 h
  · refine r_f2 (pc' := 146) (L' := [(5, .int R_122), (3, .long Ys0), (0, .ref 143)]) hq (z_at.mk 3 rfl rfl) rfl hR_138 (rfl : (45 : Int32).toInt = 45) c_143 rfl rfl ?_
    refine r_p hq 2 (pc' := 151) (L' := [(0, .ref 143), (3, .long Ys0), (5, .int R_122)]) (st' := [.int ((1 : Int32))]) rfl ?_
    exact g_m_holdsFactor_L151_ok hdr hrec hys0 hR_122 (rfl : (1 : Int32).toInt = 1) H_138 h
def g_m_holdsFactor (rec : Nat → Int → zS → Option (Int × zS)) (x1 : Int) (σ : zS) : Option (Int × zS) :=
  (g_m_here σ).bind fun o_1 =>
  let v_7 := o_1.2 143 21
  let s_12 := zu o_1.2 143 21 (w32 (v_7 + 1))
  if o_1.1 ≠ 33 then
    if o_1.1 ≠ 40 then
      if o_1.1 ≠ 119 then
        if o_1.1 ≠ 120 then
          if o_1.1 ≠ 121 then
            g_m_holdsFactor_L120 rec x1 s_12
          else
            (g_m_rowAt x1 s_12).bind fun o_108 =>
            if 0 ≤ w32 (o_108.1 + 2) ∧ w32 (o_108.1 + 2) < 2740 then
            let v_113 := o_108.2 144 (w32 (o_108.1 + 2))
            g_m_holdsFactor_L120 rec v_113 o_108.2
            else none
        else
          (g_m_rowAt x1 s_12).bind fun o_87 =>
          if 0 ≤ w32 (o_87.1 + 1) ∧ w32 (o_87.1 + 1) < 2740 then
          let v_92 := o_87.2 144 (w32 (o_87.1 + 1))
          g_m_holdsFactor_L120 rec v_92 o_87.2
          else none
      else
        if 0 ≤ w32 (1 + x1) ∧ w32 (1 + x1) < 361 then
        let v_72 := s_12 147 (w32 (1 + x1))
        g_m_holdsFactor_L120 rec v_72 s_12
        else none
    else
      (rec 231 x1 s_12).bind fun o_43 =>
      let v_49 := o_43.2 143 21
      let s_54 := zu o_43.2 143 21 (w32 (v_49 + 1))
      if o_43.1 = 0 ∨ o_43.1 = 1 then some (o_43.1, s_54) else none
  else
    (rec 233 x1 s_12).bind fun o_23 =>
    if o_23.1 ≠ 0 then
      some (0, o_23.2)
    else
      some (1, o_23.2)
set_option maxHeartbeats 4000000 in
theorem g_m_holdsFactor_ok {xl : Nat} {xs : Nat → Int32} {dr : Nat} (hdr : 4 ≤ dr) {rec : Nat → Int → zS → Option (Int × zS)} (hrec : ∀ j, j ∈ [231, 232, 233] → ∀ {X1 : Int32} {x1 : Int} {σ : zS} {p : Nat} {m : zM} {o : Int × zS}, X1.toInt = x1 → zRep xl xs p m σ → rec j x1 σ = some o → zGo xl xs (fun p' => p = p') dr j 0 (z_can j 0 (lv_args 0 [.ref 143, .int X1])) [] m (vI o.1) o.2) {X1 : Int32} {x1 : Int} (hx1 : X1.toInt = x1) {σ : zS} {p : Nat} {m : zM} {o : Int × zS} (H : zRep xl xs p m σ) (h : g_m_holdsFactor rec x1 σ = some o) : zGo xl xs (fun p' => p = p') (dr + 1) 233 0 (z_can 233 0 (lv_args 0 [.ref 143, .int X1])) [] m (vI o.1) o.2 := by
  have hq : z_mth 233 = some z_r233 := rfl
  unfold g_m_holdsFactor at h
  show zGo xl xs (fun p' => p = p') (dr + 1) 233 0 [(0, .ref 143), (1, .int X1)] [] m (vI o.1) o.2
  refine r_p hq 1 (pc' := 1) (L' := [(0, .ref 143), (1, .int X1)]) (st' := [.ref 143]) rfl ?_
  obtain ⟨o_1, h_1, h⟩ := Option.bind_eq_some_iff.mp h
  refine r_cvI (pc' := 4) (L' := [(0, .ref 143), (1, .int X1)]) (Ps := []) (rest := []) hq (z_at.mk 3 rfl rfl) (Or.inl ⟨rfl, rfl⟩) rfl rfl (by decide) (by decide) rfl (Nat.not_lt.mpr (Nat.le_of_ble_eq_true rfl)) rfl rfl (z_cat_le 0 rfl (by decide)) (z_lgl_le 1 rfl (by decide)) (by decide) (H.tg rfl) (by omega) (g_m_here_ok H h_1) rfl rfl ?_
  intro R_1 m_1 p_1 e_1 hR_1 H_1
  subst e_1
  refine r_p hq 3 (pc' := 7) (L' := [(2, .int R_1), (0, .ref 143), (1, .int X1)]) (st' := [.ref 143, .ref 143]) rfl ?_
  refine r_gI (pc' := 10) (L' := [(2, .int R_1), (0, .ref 143), (1, .int X1)]) H_1 hq (z_at.mk 3 rfl rfl) rfl rfl rfl rfl ?_
  intro V_7 hV_7
  refine r_p hq 2 (pc' := 12) (L' := [(2, .int R_1), (0, .ref 143), (1, .int X1)]) (st' := [.int (V_7 + ((1 : Int32))), .ref 143]) rfl ?_
  refine r_pI (X := V_7 + ((1 : Int32))) (pc' := 15) (L' := [(2, .int R_1), (0, .ref 143), (1, .int X1)]) H_1 hq (z_at.mk 3 rfl rfl) rfl rfl (tx_iadd hV_7 (rfl : (1 : Int32).toInt = 1)) (by decide) rfl rfl rfl rfl ?_
  intro m_12 H_12
  refine r_p hq 2 (pc' := 18) (L' := [(2, .int R_1), (0, .ref 143), (1, .int X1)]) (st' := [.int ((33 : Int32)), .int R_1]) rfl ?_
  rcases z_ite h with ⟨c_18, h⟩ | ⟨c_18, h⟩
  · refine r_t2 (pc' := 35) (L' := [(2, .int R_1), (0, .ref 143), (1, .int X1)]) hq (z_at.mk 3 rfl rfl) rfl hR_1 (rfl : (33 : Int32).toInt = 33) c_18 rfl rfl ?_
    refine r_p hq 2 (pc' := 38) (L' := [(2, .int R_1), (0, .ref 143), (1, .int X1)]) (st' := [.int ((40 : Int32)), .int R_1]) rfl ?_
    rcases z_ite h with ⟨c_38, h⟩ | ⟨c_38, h⟩
    · refine r_t2 (pc' := 59) (L' := [(2, .int R_1), (0, .ref 143), (1, .int X1)]) hq (z_at.mk 3 rfl rfl) rfl hR_1 (rfl : (40 : Int32).toInt = 40) c_38 rfl rfl ?_
      refine r_p hq 2 (pc' := 62) (L' := [(2, .int R_1), (0, .ref 143), (1, .int X1)]) (st' := [.int ((119 : Int32)), .int R_1]) rfl ?_
      rcases z_ite h with ⟨c_62, h⟩ | ⟨c_62, h⟩
      · refine r_t2 (pc' := 76) (L' := [(2, .int R_1), (0, .ref 143), (1, .int X1)]) hq (z_at.mk 3 rfl rfl) rfl hR_1 (rfl : (119 : Int32).toInt = 119) c_62 rfl rfl ?_
        refine r_p hq 2 (pc' := 79) (L' := [(2, .int R_1), (0, .ref 143), (1, .int X1)]) (st' := [.int ((120 : Int32)), .int R_1]) rfl ?_
        rcases z_ite h with ⟨c_79, h⟩ | ⟨c_79, h⟩
        · refine r_t2 (pc' := 97) (L' := [(2, .int R_1), (0, .ref 143), (1, .int X1)]) hq (z_at.mk 3 rfl rfl) rfl hR_1 (rfl : (120 : Int32).toInt = 120) c_79 rfl rfl ?_
          refine r_p hq 2 (pc' := 100) (L' := [(2, .int R_1), (0, .ref 143), (1, .int X1)]) (st' := [.int ((121 : Int32)), .int R_1]) rfl ?_
          rcases z_ite h with ⟨c_100, h⟩ | ⟨c_100, h⟩
          · refine r_t2 (pc' := 118) (L' := [(2, .int R_1), (0, .ref 143), (1, .int X1)]) hq (z_at.mk 3 rfl rfl) rfl hR_1 (rfl : (121 : Int32).toInt = 121) c_100 rfl rfl ?_
            refine r_p hq 2 (pc' := 120) (L' := [(0, .ref 143)]) (st' := [.long X1.toInt64]) rfl ?_
            exact g_m_holdsFactor_L120_ok hdr hrec (tx_i2l hx1) H_12 h
          · refine r_f2 (pc' := 103) (L' := [(2, .int R_1), (0, .ref 143), (1, .int X1)]) hq (z_at.mk 3 rfl rfl) rfl hR_1 (rfl : (121 : Int32).toInt = 121) c_100 rfl rfl ?_
            refine r_p hq 1 (pc' := 104) (L' := [(2, .int R_1), (0, .ref 143), (1, .int X1)]) (st' := [.ref 143]) rfl ?_
            refine r_gR (b := 144) (pc' := 107) (L' := [(2, .int R_1), (0, .ref 143), (1, .int X1)]) H_12 hq (z_at.mk 3 rfl rfl) rfl rfl rfl rfl ?_
            refine r_p hq 1 (pc' := 108) (L' := [(2, .int R_1), (0, .ref 143), (1, .int X1)]) (st' := [.int X1, .ref 144]) rfl ?_
            obtain ⟨o_108, h_108, h⟩ := Option.bind_eq_some_iff.mp h
            refine r_csI (pc' := 111) (L' := [(2, .int R_1), (0, .ref 143), (1, .int X1)]) (As := [.int X1]) (rest := [.ref 144]) (j := 174) hq (z_at.mk 3 rfl rfl) (Or.inl ⟨rfl, rfl⟩) rfl rfl (by omega) (g_m_rowAt_ok hx1 H_12 h_108) rfl rfl ?_
            intro R_108 m_108 p_108 e_108 hR_108 H_108
            subst e_108
            refine r_p hq 2 (pc' := 113) (L' := [(2, .int R_1), (0, .ref 143), (1, .int X1)]) (st' := [.int (R_108 + ((2 : Int32))), .ref 144]) rfl ?_
            obtain ⟨g_113, h⟩ := z_ifo_some h
            refine r_ia (pc' := 114) (L' := [(2, .int R_1), (0, .ref 143), (1, .int X1)]) H_108 hq (z_at.mk 1 rfl rfl) (show zAr 144 0 2740 = true from rfl) (tx_iadd hR_108 (rfl : (2 : Int32).toInt = 2)) g_113 rfl rfl ?_
            intro V_113 hV_113
            refine r_p hq 2 (pc' := 120) (L' := [(0, .ref 143)]) (st' := [.long V_113.toInt64]) rfl ?_
            exact g_m_holdsFactor_L120_ok hdr hrec (tx_i2l hV_113) H_108 h
        · refine r_f2 (pc' := 82) (L' := [(2, .int R_1), (0, .ref 143), (1, .int X1)]) hq (z_at.mk 3 rfl rfl) rfl hR_1 (rfl : (120 : Int32).toInt = 120) c_79 rfl rfl ?_
          refine r_p hq 1 (pc' := 83) (L' := [(2, .int R_1), (0, .ref 143), (1, .int X1)]) (st' := [.ref 143]) rfl ?_
          refine r_gR (b := 144) (pc' := 86) (L' := [(2, .int R_1), (0, .ref 143), (1, .int X1)]) H_12 hq (z_at.mk 3 rfl rfl) rfl rfl rfl rfl ?_
          refine r_p hq 1 (pc' := 87) (L' := [(2, .int R_1), (0, .ref 143), (1, .int X1)]) (st' := [.int X1, .ref 144]) rfl ?_
          obtain ⟨o_87, h_87, h⟩ := Option.bind_eq_some_iff.mp h
          refine r_csI (pc' := 90) (L' := [(2, .int R_1), (0, .ref 143), (1, .int X1)]) (As := [.int X1]) (rest := [.ref 144]) (j := 174) hq (z_at.mk 3 rfl rfl) (Or.inl ⟨rfl, rfl⟩) rfl rfl (by omega) (g_m_rowAt_ok hx1 H_12 h_87) rfl rfl ?_
          intro R_87 m_87 p_87 e_87 hR_87 H_87
          subst e_87
          refine r_p hq 2 (pc' := 92) (L' := [(2, .int R_1), (0, .ref 143), (1, .int X1)]) (st' := [.int (R_87 + ((1 : Int32))), .ref 144]) rfl ?_
          obtain ⟨g_92, h⟩ := z_ifo_some h
          refine r_ia (pc' := 93) (L' := [(2, .int R_1), (0, .ref 143), (1, .int X1)]) H_87 hq (z_at.mk 1 rfl rfl) (show zAr 144 0 2740 = true from rfl) (tx_iadd hR_87 (rfl : (1 : Int32).toInt = 1)) g_92 rfl rfl ?_
          intro V_92 hV_92
          refine r_p hq 2 (pc' := 120) (L' := [(0, .ref 143)]) (st' := [.long V_92.toInt64]) rfl ?_
          exact g_m_holdsFactor_L120_ok hdr hrec (tx_i2l hV_92) H_87 h
      · refine r_f2 (pc' := 65) (L' := [(2, .int R_1), (0, .ref 143), (1, .int X1)]) hq (z_at.mk 3 rfl rfl) rfl hR_1 (rfl : (119 : Int32).toInt = 119) c_62 rfl rfl ?_
        refine r_p hq 1 (pc' := 66) (L' := [(2, .int R_1), (0, .ref 143), (1, .int X1)]) (st' := [.ref 143]) rfl ?_
        refine r_gR (b := 147) (pc' := 69) (L' := [(2, .int R_1), (0, .ref 143), (1, .int X1)]) H_12 hq (z_at.mk 3 rfl rfl) rfl rfl rfl rfl ?_
        refine r_p hq 3 (pc' := 72) (L' := [(2, .int R_1), (0, .ref 143), (1, .int X1)]) (st' := [.int (((1 : Int32)) + X1), .ref 147]) rfl ?_
        obtain ⟨g_72, h⟩ := z_ifo_some h
        refine r_la (pc' := 73) (L' := [(2, .int R_1), (0, .ref 143), (1, .int X1)]) H_12 hq (z_at.mk 1 rfl rfl) (show zAr 147 1 361 = true from rfl) (tx_iadd (rfl : (1 : Int32).toInt = 1) hx1) g_72 rfl rfl ?_
        intro V_72 hV_72
        refine r_p hq 1 (pc' := 120) (L' := [(0, .ref 143)]) (st' := [.long V_72]) rfl ?_
        exact g_m_holdsFactor_L120_ok hdr hrec hV_72 H_12 h
    · refine r_f2 (pc' := 41) (L' := [(2, .int R_1), (0, .ref 143), (1, .int X1)]) hq (z_at.mk 3 rfl rfl) rfl hR_1 (rfl : (40 : Int32).toInt = 40) c_38 rfl rfl ?_
      refine r_p hq 2 (pc' := 43) (L' := [(2, .int R_1), (0, .ref 143), (1, .int X1)]) (st' := [.int X1, .ref 143]) rfl ?_
      obtain ⟨o_43, h_43, h⟩ := Option.bind_eq_some_iff.mp h
      refine r_cvI (pc' := 46) (L' := [(2, .int R_1), (0, .ref 143), (1, .int X1)]) (Ps := [.int X1]) (rest := []) hq (z_at.mk 3 rfl rfl) (Or.inl ⟨rfl, rfl⟩) rfl rfl (by decide) (by decide) rfl (Nat.not_lt.mpr (Nat.le_of_ble_eq_true rfl)) rfl rfl (z_cat_le 0 rfl (by decide)) (z_lgl_le 2 rfl (by decide)) (by decide) (H_12.tg rfl) (by omega) (hrec 231 (by simp) hx1 H_12 h_43) rfl rfl ?_
      intro R_43 m_43 p_43 e_43 hR_43 H_43
      subst e_43
      refine r_p hq 3 (pc' := 49) (L' := [(3, .int R_43), (2, .int R_1), (0, .ref 143), (1, .int X1)]) (st' := [.ref 143, .ref 143]) rfl ?_
      refine r_gI (pc' := 52) (L' := [(3, .int R_43), (2, .int R_1), (0, .ref 143), (1, .int X1)]) H_43 hq (z_at.mk 3 rfl rfl) rfl rfl rfl rfl ?_
      intro V_49 hV_49
      refine r_p hq 2 (pc' := 54) (L' := [(3, .int R_43), (2, .int R_1), (0, .ref 143), (1, .int X1)]) (st' := [.int (V_49 + ((1 : Int32))), .ref 143]) rfl ?_
      refine r_pI (X := V_49 + ((1 : Int32))) (pc' := 57) (L' := [(3, .int R_43), (2, .int R_1), (0, .ref 143), (1, .int X1)]) H_43 hq (z_at.mk 3 rfl rfl) rfl rfl (tx_iadd hV_49 (rfl : (1 : Int32).toInt = 1)) (by decide) rfl rfl rfl rfl ?_
      intro m_54 H_54
      refine r_p hq 1 (pc' := 58) (L' := [(3, .int R_43), (2, .int R_1), (0, .ref 143), (1, .int X1)]) (st' := [.int R_43]) rfl ?_
      obtain ⟨g_58, h⟩ := z_if_some h
      cases h
      exact r_ri hq (z_at.mk 1 rfl rfl) rfl (z_rty_bo hR_43 g_58) hR_43 rfl H_54
  · refine r_f2 (pc' := 21) (L' := [(2, .int R_1), (0, .ref 143), (1, .int X1)]) hq (z_at.mk 3 rfl rfl) rfl hR_1 (rfl : (33 : Int32).toInt = 33) c_18 rfl rfl ?_
    refine r_p hq 2 (pc' := 23) (L' := [(2, .int R_1), (0, .ref 143), (1, .int X1)]) (st' := [.int X1, .ref 143]) rfl ?_
    obtain ⟨o_23, h_23, h⟩ := Option.bind_eq_some_iff.mp h
    refine r_cvI (pc' := 26) (L' := [(2, .int R_1), (0, .ref 143), (1, .int X1)]) (Ps := [.int X1]) (rest := []) hq (z_at.mk 3 rfl rfl) (Or.inl ⟨rfl, rfl⟩) rfl rfl (by decide) (by decide) rfl (Nat.not_lt.mpr (Nat.le_of_ble_eq_true rfl)) rfl rfl (z_cat_le 0 rfl (by decide)) (z_lgl_le 2 rfl (by decide)) (by decide) (H_12.tg rfl) (by omega) (hrec 233 (by simp) hx1 H_12 h_23) rfl rfl ?_
    intro R_23 m_23 p_23 e_23 hR_23 H_23
    subst e_23
    rcases z_ite h with ⟨c_26, h⟩ | ⟨c_26, h⟩
    · refine r_t1 (pc' := 33) (L' := [(2, .int R_1), (0, .ref 143), (1, .int X1)]) hq (z_at.mk 3 rfl rfl) rfl hR_23 c_26 rfl rfl ?_
      refine r_p hq 1 (pc' := 34) (L' := []) (st' := [.int ((0 : Int32))]) rfl ?_
      cases h
      exact r_ri hq (z_at.mk 1 rfl rfl) rfl rfl (rfl : (0 : Int32).toInt = 0) rfl H_23
    · refine r_f1 (pc' := 29) (L' := [(2, .int R_1), (0, .ref 143), (1, .int X1)]) hq (z_at.mk 3 rfl rfl) rfl hR_23 c_26 rfl rfl ?_
      refine r_p hq 2 (pc' := 34) (L' := []) (st' := [.int ((1 : Int32))]) rfl ?_
      cases h
      exact r_ri hq (z_at.mk 1 rfl rfl) rfl rfl (rfl : (1 : Int32).toInt = 1) rfl H_23
def g_grp231 : Nat → Nat → Int → zS → Option (Int × zS)
  | 0, _, _, _ => none
  | n + 1, j, x1, σ =>
    if j = 231 then g_m_doesHold (g_grp231 n) x1 σ else
    if j = 232 then g_m_holdsBoth (g_grp231 n) x1 σ else
    if j = 233 then g_m_holdsFactor (g_grp231 n) x1 σ else
    none
theorem g_grp231_ok {xl : Nat} {xs : Nat → Int32} : ∀ (n : Nat) (j : Nat), j ∈ [231, 232, 233] → ∀ {X1 : Int32} {x1 : Int} {σ : zS} {p : Nat} {m : zM} {o : Int × zS}, X1.toInt = x1 → zRep xl xs p m σ → g_grp231 n j x1 σ = some o → zGo xl xs (fun p' => p = p') (4 + n) j 0 (z_can j 0 (lv_args 0 [.ref 143, .int X1])) [] m (vI o.1) o.2
  | 0, _, _, _, _, _, _, _, _, _, _, h => by cases h
  | n + 1, j, hj, X1, x1, σ, p, m, o, hx1, H, h => by
    have ih := fun (j : Nat) (hj : j ∈ [231, 232, 233]) {X1 : Int32} {x1 : Int} {σ : zS} {p : Nat} {m : zM} {o : Int × zS} => g_grp231_ok (xl := xl) (xs := xs) n j hj (X1 := X1) (x1 := x1) (σ := σ) (p := p) (m := m) (o := o)
    unfold g_grp231 at h
    by_cases c_231 : j = 231
    · rw [if_pos c_231] at h
      subst c_231
      exact g_m_doesHold_ok (Nat.le_add_right _ _) ih hx1 H h
    rw [if_neg c_231] at h
    by_cases c_232 : j = 232
    · rw [if_pos c_232] at h
      subst c_232
      exact g_m_holdsBoth_ok (Nat.le_add_right _ _) ih hx1 H h
    rw [if_neg c_232] at h
    by_cases c_233 : j = 233
    · rw [if_pos c_233] at h
      subst c_233
      exact g_m_holdsFactor_ok (Nat.le_add_right _ _) ih hx1 H h
    rw [if_neg c_233] at h
    cases h
def g_m_gathers_L158 (a1 : Nat) (g8 : Int → Int → Int → zS → Option (Unit × zS)) (x2 : Int) (x3 : Int) (x4 : Int) (σ : zS) : Option (Unit × zS) :=
  g8 x2 x3 (w32 (x4 + 1)) σ
set_option maxHeartbeats 4000000 in
theorem g_m_gathers_L158_ok {xl : Nat} {xs : Nat → Int32} {a1 : Nat} (ha1 : zIn [144, 150, 151, 152, 153, 156, 157, 161, 164, 165] a1 = true) {g8 : Int → Int → Int → zS → Option (Unit × zS)} (hg8 : ∀ {X2 : Int32} {x2 : Int} {X3 : Int32} {x3 : Int} {X4 : Int32} {x4 : Int} {σ : zS} {p : Nat} {m : zM} {o : Unit × zS}, X2.toInt = x2 → X3.toInt = x3 → X4.toInt = x4 → zRep xl xs p m σ → g8 x2 x3 x4 σ = some o → zGo xl xs (fun p' => p = p') 505 191 8 [(0, .ref 143), (1, .ref a1), (2, .int X2), (3, .int X3), (4, .int X4)] [] m vV o.2) {X2 : Int32} {x2 : Int} (hx2 : X2.toInt = x2) {X3 : Int32} {x3 : Int} (hx3 : X3.toInt = x3) {X4 : Int32} {x4 : Int} (hx4 : X4.toInt = x4) {σ : zS} {p : Nat} {m : zM} {o : Unit × zS} (H : zRep xl xs p m σ) (h : g_m_gathers_L158 a1 g8 x2 x3 x4 σ = some o) : zGo xl xs (fun p' => p = p') 505 191 158 [(0, .ref 143), (1, .ref a1), (2, .int X2), (3, .int X3), (4, .int X4)] [] m vV o.2 := by
  have hq : z_mth 191 = some z_r191 := rfl
  unfold g_m_gathers_L158 at h
  refine r_p hq 2 (pc' := 8) (L' := [(0, .ref 143), (1, .ref a1), (2, .int X2), (3, .int X3), (4, .int (X4 + (1 : Int32)))]) (st' := []) rfl ?_
  exact hg8 hx2 hx3 (tx_iadd hx4 (rfl : (1 : Int32).toInt = 1)) H h
def g_m_gathers_L139 (a1 : Nat) (g8 : Int → Int → Int → zS → Option (Unit × zS)) (x2 : Int) (x3 : Int) (x4 : Int) (x5 : Int) (σ : zS) : Option (Unit × zS) :=
  if 0 ≤ x5 ∧ x5 < 60 then
  let s_147 := zu σ 154 x5 x4
  let v_150 := s_147 143 14
  let s_155 := zu s_147 143 14 (w32 (v_150 + 1))
  g_m_gathers_L158 a1 g8 x2 x3 x4 s_155
  else none
set_option maxHeartbeats 4000000 in
theorem g_m_gathers_L139_ok {xl : Nat} {xs : Nat → Int32} {a1 : Nat} (ha1 : zIn [144, 150, 151, 152, 153, 156, 157, 161, 164, 165] a1 = true) {g8 : Int → Int → Int → zS → Option (Unit × zS)} (hg8 : ∀ {X2 : Int32} {x2 : Int} {X3 : Int32} {x3 : Int} {X4 : Int32} {x4 : Int} {σ : zS} {p : Nat} {m : zM} {o : Unit × zS}, X2.toInt = x2 → X3.toInt = x3 → X4.toInt = x4 → zRep xl xs p m σ → g8 x2 x3 x4 σ = some o → zGo xl xs (fun p' => p = p') 505 191 8 [(0, .ref 143), (1, .ref a1), (2, .int X2), (3, .int X3), (4, .int X4)] [] m vV o.2) {X2 : Int32} {x2 : Int} (hx2 : X2.toInt = x2) {X3 : Int32} {x3 : Int} (hx3 : X3.toInt = x3) {X4 : Int32} {x4 : Int} (hx4 : X4.toInt = x4) {X5 : Int32} {x5 : Int} (hx5 : X5.toInt = x5) {σ : zS} {p : Nat} {m : zM} {o : Unit × zS} (H : zRep xl xs p m σ) (h : g_m_gathers_L139 a1 g8 x2 x3 x4 x5 σ = some o) : zGo xl xs (fun p' => p = p') 505 191 139 [(0, .ref 143), (1, .ref a1), (2, .int X2), (3, .int X3), (4, .int X4), (5, .int X5)] [] m vV o.2 := by
  have hq : z_mth 191 = some z_r191 := rfl
  unfold g_m_gathers_L139 at h
  refine r_p hq 1 (pc' := 140) (L' := [(0, .ref 143), (1, .ref a1), (2, .int X2), (3, .int X3), (4, .int X4), (5, .int X5)]) (st' := [.ref 143]) rfl ?_
  refine r_gR (b := 154) (pc' := 143) (L' := [(0, .ref 143), (1, .ref a1), (2, .int X2), (3, .int X3), (4, .int X4), (5, .int X5)]) H hq (z_at.mk 3 rfl rfl) rfl rfl rfl rfl ?_
  refine r_p hq 2 (pc' := 147) (L' := [(0, .ref 143), (1, .ref a1), (2, .int X2), (3, .int X3), (4, .int X4), (5, .int X5)]) (st' := [.int X4, .int X5, .ref 154]) rfl ?_
  obtain ⟨g_147, h⟩ := z_ifo_some h
  refine r_is (pc' := 148) (L' := [(0, .ref 143), (1, .ref a1), (2, .int X2), (3, .int X3), (4, .int X4), (5, .int X5)]) H hq (z_at.mk 1 rfl rfl) (show zAr 154 0 60 = true from rfl) hx5 g_147 hx4 rfl rfl ?_
  intro m_147 H_147
  refine r_p hq 2 (pc' := 150) (L' := [(0, .ref 143), (1, .ref a1), (2, .int X2), (3, .int X3), (4, .int X4), (5, .int X5)]) (st' := [.ref 143, .ref 143]) rfl ?_
  refine r_gI (pc' := 153) (L' := [(0, .ref 143), (1, .ref a1), (2, .int X2), (3, .int X3), (4, .int X4), (5, .int X5)]) H_147 hq (z_at.mk 3 rfl rfl) rfl rfl rfl rfl ?_
  intro V_150 hV_150
  refine r_p hq 2 (pc' := 155) (L' := [(0, .ref 143), (1, .ref a1), (2, .int X2), (3, .int X3), (4, .int X4), (5, .int X5)]) (st' := [.int (V_150 + ((1 : Int32))), .ref 143]) rfl ?_
  refine r_pI (X := V_150 + ((1 : Int32))) (pc' := 158) (L' := [(0, .ref 143), (1, .ref a1), (2, .int X2), (3, .int X3), (4, .int X4)]) H_147 hq (z_at.mk 3 rfl rfl) rfl rfl (tx_iadd hV_150 (rfl : (1 : Int32).toInt = 1)) (by decide) rfl rfl rfl rfl ?_
  intro m_155 H_155
  exact g_m_gathers_L158_ok ha1 hg8 hx2 hx3 hx4 H_155 h
def g_m_gathers_L90 (a1 : Nat) (g8 : Int → Int → Int → zS → Option (Unit × zS)) : Nat → Int → Int → Int → Int → zS → Option (Unit × zS)
  | 0, _, _, _, _, _ => none
  | n + 1, x2, x3, x4, x5, σ =>
    if x5 ≤ 0 then
      g_m_gathers_L139 a1 g8 x2 x3 x4 x5 σ
    else
      if 0 ≤ w32 (x5 - 1) ∧ w32 (x5 - 1) < 60 then
      let v_104 := σ 154 (w32 (x5 - 1))
      (g_m_orderOf v_104 σ).bind fun o_105 =>
      (g_m_orderOf x4 o_105.2).bind fun o_111 =>
      if o_105.1 ≤ o_111.1 then
        g_m_gathers_L139 a1 g8 x2 x3 x4 x5 o_111.2
      else
        if 0 ≤ w32 (x5 - 1) ∧ w32 (x5 - 1) < 60 then
        let v_131 := o_111.2 154 (w32 (x5 - 1))
        if 0 ≤ x5 ∧ x5 < 60 then
        let s_132 := zu o_111.2 154 x5 v_131
        (g_m_gathers_L90 a1 g8 n) x2 x3 x4 (w32 (x5 - 1)) s_132
        else none
        else none
      else none
set_option maxHeartbeats 4000000 in
theorem g_m_gathers_L90_ok {xl : Nat} {xs : Nat → Int32} {a1 : Nat} (ha1 : zIn [144, 150, 151, 152, 153, 156, 157, 161, 164, 165] a1 = true) {g8 : Int → Int → Int → zS → Option (Unit × zS)} (hg8 : ∀ {X2 : Int32} {x2 : Int} {X3 : Int32} {x3 : Int} {X4 : Int32} {x4 : Int} {σ : zS} {p : Nat} {m : zM} {o : Unit × zS}, X2.toInt = x2 → X3.toInt = x3 → X4.toInt = x4 → zRep xl xs p m σ → g8 x2 x3 x4 σ = some o → zGo xl xs (fun p' => p = p') 505 191 8 [(0, .ref 143), (1, .ref a1), (2, .int X2), (3, .int X3), (4, .int X4)] [] m vV o.2) : ∀ (n : Nat) {X2 : Int32} {x2 : Int} {X3 : Int32} {x3 : Int} {X4 : Int32} {x4 : Int} {X5 : Int32} {x5 : Int} {σ : zS} {p : Nat} {m : zM} {o : Unit × zS}, X2.toInt = x2 → X3.toInt = x3 → X4.toInt = x4 → X5.toInt = x5 → zRep xl xs p m σ → g_m_gathers_L90 a1 g8 n x2 x3 x4 x5 σ = some o → zGo xl xs (fun p' => p = p') 505 191 90 [(0, .ref 143), (1, .ref a1), (2, .int X2), (3, .int X3), (4, .int X4), (5, .int X5)] [] m vV o.2
  | 0, _, _, _, _, _, _, _, _, _, _, _, _, _, _, _, _, _, h => by cases h
  | n + 1, X2, x2, X3, x3, X4, x4, X5, x5, σ, p, m, o, hx2, hx3, hx4, hx5, H, h => by
    have hq : z_mth 191 = some z_r191 := rfl
    have ih := fun {X2 : Int32} {x2 : Int} {X3 : Int32} {x3 : Int} {X4 : Int32} {x4 : Int} {X5 : Int32} {x5 : Int} {σ : zS} {p : Nat} {m : zM} {o : Unit × zS} => g_m_gathers_L90_ok (xl := xl) (xs := xs) ha1 hg8 n (X2 := X2) (x2 := x2) (X3 := X3) (x3 := x3) (X4 := X4) (x4 := x4) (X5 := X5) (x5 := x5) (σ := σ) (p := p) (m := m) (o := o)
    unfold g_m_gathers_L90 at h
    refine r_p hq 1 (pc' := 92) (L' := [(0, .ref 143), (1, .ref a1), (2, .int X2), (3, .int X3), (4, .int X4), (5, .int X5)]) (st' := [.int X5]) rfl ?_
    rcases z_ite h with ⟨c_92, h⟩ | ⟨c_92, h⟩
    · refine r_t1 (pc' := 139) (L' := [(0, .ref 143), (1, .ref a1), (2, .int X2), (3, .int X3), (4, .int X4), (5, .int X5)]) hq (z_at.mk 3 rfl rfl) rfl hx5 c_92 rfl rfl ?_
      exact g_m_gathers_L139_ok ha1 hg8 hx2 hx3 hx4 hx5 H h
    · refine r_f1 (pc' := 95) (L' := [(0, .ref 143), (1, .ref a1), (2, .int X2), (3, .int X3), (4, .int X4), (5, .int X5)]) hq (z_at.mk 3 rfl rfl) rfl hx5 c_92 rfl rfl ?_
      refine r_p hq 2 (pc' := 97) (L' := [(0, .ref 143), (1, .ref a1), (2, .int X2), (3, .int X3), (4, .int X4), (5, .int X5)]) (st' := [.ref 143, .ref 143]) rfl ?_
      refine r_gR (b := 154) (pc' := 100) (L' := [(0, .ref 143), (1, .ref a1), (2, .int X2), (3, .int X3), (4, .int X4), (5, .int X5)]) H hq (z_at.mk 3 rfl rfl) rfl rfl rfl rfl ?_
      refine r_p hq 3 (pc' := 104) (L' := [(0, .ref 143), (1, .ref a1), (2, .int X2), (3, .int X3), (4, .int X4), (5, .int X5)]) (st' := [.int (X5 - ((1 : Int32))), .ref 154, .ref 143]) rfl ?_
      obtain ⟨g_104, h⟩ := z_ifo_some h
      refine r_ia (pc' := 105) (L' := [(0, .ref 143), (1, .ref a1), (2, .int X2), (3, .int X3), (4, .int X4), (5, .int X5)]) H hq (z_at.mk 1 rfl rfl) (show zAr 154 0 60 = true from rfl) (tx_isub hx5 (rfl : (1 : Int32).toInt = 1)) g_104 rfl rfl ?_
      intro V_104 hV_104
      obtain ⟨o_105, h_105, h⟩ := Option.bind_eq_some_iff.mp h
      refine r_cvI (pc' := 108) (L' := [(0, .ref 143), (1, .ref a1), (2, .int X2), (3, .int X3), (4, .int X4), (5, .int X5)]) (Ps := [.int V_104]) (rest := []) hq (z_at.mk 3 rfl rfl) (Or.inl ⟨rfl, rfl⟩) rfl rfl (by decide) (by decide) rfl (Nat.not_lt.mpr (Nat.le_of_ble_eq_true rfl)) rfl rfl (z_cat_le 0 rfl (by decide)) (z_lgl_le 2 rfl (by decide)) (by decide) (H.tg rfl) (by omega) (g_m_orderOf_ok hV_104 H h_105) rfl rfl ?_
      intro R_105 m_105 p_105 e_105 hR_105 H_105
      subst e_105
      refine r_p hq 2 (pc' := 111) (L' := [(0, .ref 143), (1, .ref a1), (2, .int X2), (3, .int X3), (4, .int X4), (5, .int X5)]) (st' := [.int X4, .ref 143, .int R_105]) rfl ?_
      obtain ⟨o_111, h_111, h⟩ := Option.bind_eq_some_iff.mp h
      refine r_cvI (pc' := 114) (L' := [(0, .ref 143), (1, .ref a1), (2, .int X2), (3, .int X3), (4, .int X4), (5, .int X5)]) (Ps := [.int X4]) (rest := [.int R_105]) hq (z_at.mk 3 rfl rfl) (Or.inl ⟨rfl, rfl⟩) rfl rfl (by decide) (by decide) rfl (Nat.not_lt.mpr (Nat.le_of_ble_eq_true rfl)) rfl rfl (z_cat_le 1 rfl (by decide)) (z_lgl_le 2 rfl (by decide)) (by decide) (H_105.tg rfl) (by omega) (g_m_orderOf_ok hx4 H_105 h_111) rfl rfl ?_
      intro R_111 m_111 p_111 e_111 hR_111 H_111
      subst e_111
      rcases z_ite h with ⟨c_114, h⟩ | ⟨c_114, h⟩
      · refine r_t2 (pc' := 139) (L' := [(0, .ref 143), (1, .ref a1), (2, .int X2), (3, .int X3), (4, .int X4), (5, .int X5)]) hq (z_at.mk 3 rfl rfl) rfl hR_105 hR_111 c_114 rfl rfl ?_
        exact g_m_gathers_L139_ok ha1 hg8 hx2 hx3 hx4 hx5 H_111 h
      · refine r_f2 (pc' := 117) (L' := [(0, .ref 143), (1, .ref a1), (2, .int X2), (3, .int X3), (4, .int X4), (5, .int X5)]) hq (z_at.mk 3 rfl rfl) rfl hR_105 hR_111 c_114 rfl rfl ?_
        refine r_p hq 1 (pc' := 118) (L' := [(0, .ref 143), (1, .ref a1), (2, .int X2), (3, .int X3), (4, .int X4), (5, .int X5)]) (st' := [.ref 143]) rfl ?_
        refine r_gR (b := 154) (pc' := 121) (L' := [(0, .ref 143), (1, .ref a1), (2, .int X2), (3, .int X3), (4, .int X4), (5, .int X5)]) H_111 hq (z_at.mk 3 rfl rfl) rfl rfl rfl rfl ?_
        refine r_p hq 2 (pc' := 124) (L' := [(0, .ref 143), (1, .ref a1), (2, .int X2), (3, .int X3), (4, .int X4), (5, .int X5)]) (st' := [.ref 143, .int X5, .ref 154]) rfl ?_
        refine r_gR (b := 154) (pc' := 127) (L' := [(0, .ref 143), (1, .ref a1), (2, .int X2), (3, .int X3), (4, .int X4), (5, .int X5)]) H_111 hq (z_at.mk 3 rfl rfl) rfl rfl rfl rfl ?_
        refine r_p hq 3 (pc' := 131) (L' := [(0, .ref 143), (1, .ref a1), (2, .int X2), (3, .int X3), (4, .int X4), (5, .int X5)]) (st' := [.int (X5 - ((1 : Int32))), .ref 154, .int X5, .ref 154]) rfl ?_
        obtain ⟨g_131, h⟩ := z_ifo_some h
        refine r_ia (pc' := 132) (L' := [(0, .ref 143), (1, .ref a1), (2, .int X2), (3, .int X3), (4, .int X4), (5, .int X5)]) H_111 hq (z_at.mk 1 rfl rfl) (show zAr 154 0 60 = true from rfl) (tx_isub hx5 (rfl : (1 : Int32).toInt = 1)) g_131 rfl rfl ?_
        intro V_131 hV_131
        obtain ⟨g_132, h⟩ := z_ifo_some h
        refine r_is (pc' := 133) (L' := [(0, .ref 143), (1, .ref a1), (2, .int X2), (3, .int X3), (4, .int X4), (5, .int X5)]) H_111 hq (z_at.mk 1 rfl rfl) (show zAr 154 0 60 = true from rfl) hx5 g_132 hV_131 rfl rfl ?_
        intro m_132 H_132
        refine r_p hq 2 (pc' := 90) (L' := [(0, .ref 143), (1, .ref a1), (2, .int X2), (3, .int X3), (4, .int X4), (5, .int (X5 + (-1 : Int32)))]) (st' := []) rfl ?_
        exact ih hx2 hx3 hx4 (tx_iaddn hx5 (rfl : (-1 : Int32).toInt = -1)) H_132 h
def g_m_gathers_L84 (a1 : Nat) (g8 : Int → Int → Int → zS → Option (Unit × zS)) (x2 : Int) (x3 : Int) (x4 : Int) (σ : zS) : Option (Unit × zS) :=
  let v_85 := σ 143 14
  g_m_gathers_L90 a1 g8 zK x2 x3 x4 v_85 σ
set_option maxHeartbeats 4000000 in
theorem g_m_gathers_L84_ok {xl : Nat} {xs : Nat → Int32} {a1 : Nat} (ha1 : zIn [144, 150, 151, 152, 153, 156, 157, 161, 164, 165] a1 = true) {g8 : Int → Int → Int → zS → Option (Unit × zS)} (hg8 : ∀ {X2 : Int32} {x2 : Int} {X3 : Int32} {x3 : Int} {X4 : Int32} {x4 : Int} {σ : zS} {p : Nat} {m : zM} {o : Unit × zS}, X2.toInt = x2 → X3.toInt = x3 → X4.toInt = x4 → zRep xl xs p m σ → g8 x2 x3 x4 σ = some o → zGo xl xs (fun p' => p = p') 505 191 8 [(0, .ref 143), (1, .ref a1), (2, .int X2), (3, .int X3), (4, .int X4)] [] m vV o.2) {X2 : Int32} {x2 : Int} (hx2 : X2.toInt = x2) {X3 : Int32} {x3 : Int} (hx3 : X3.toInt = x3) {X4 : Int32} {x4 : Int} (hx4 : X4.toInt = x4) {σ : zS} {p : Nat} {m : zM} {o : Unit × zS} (H : zRep xl xs p m σ) (h : g_m_gathers_L84 a1 g8 x2 x3 x4 σ = some o) : zGo xl xs (fun p' => p = p') 505 191 84 [(0, .ref 143), (1, .ref a1), (2, .int X2), (3, .int X3), (4, .int X4)] [] m vV o.2 := by
  have hq : z_mth 191 = some z_r191 := rfl
  unfold g_m_gathers_L84 at h
  refine r_p hq 1 (pc' := 85) (L' := [(0, .ref 143), (1, .ref a1), (2, .int X2), (3, .int X3), (4, .int X4)]) (st' := [.ref 143]) rfl ?_
  refine r_gI (pc' := 88) (L' := [(0, .ref 143), (1, .ref a1), (2, .int X2), (3, .int X3), (4, .int X4)]) H hq (z_at.mk 3 rfl rfl) rfl rfl rfl rfl ?_
  intro V_85 hV_85
  refine r_p hq 1 (pc' := 90) (L' := [(0, .ref 143), (1, .ref a1), (2, .int X2), (3, .int X3), (4, .int X4), (5, .int V_85)]) (st' := []) rfl ?_
  exact g_m_gathers_L90_ok ha1 hg8 zK hx2 hx3 hx4 hV_85 H h
def g_m_gathers_L167 (a1 : Nat) : Nat → Int → zS → Option (Unit × zS)
  | 0, _, _ => none
  | n + 1, x4, σ =>
    let v_170 := σ 143 14
    if v_170 ≤ x4 then
      some ((), σ)
    else
      if 0 ≤ x4 ∧ x4 < 60 then
      let v_193 := σ 154 x4
      if 0 ≤ w32 (1 + v_193) ∧ w32 (1 + v_193) < 361 then
      let v_195 := σ 147 (w32 (1 + v_193))
      if 0 ≤ x4 ∧ x4 < 60 then
      let s_196 := zu σ 155 x4 v_195
      (g_m_gathers_L167 a1 n) (w32 (x4 + 1)) s_196
      else none
      else none
      else none
set_option maxHeartbeats 4000000 in
theorem g_m_gathers_L167_ok {xl : Nat} {xs : Nat → Int32} {a1 : Nat} (ha1 : zIn [144, 150, 151, 152, 153, 156, 157, 161, 164, 165] a1 = true) : ∀ (n : Nat) {X4 : Int32} {x4 : Int} {σ : zS} {p : Nat} {m : zM} {o : Unit × zS}, X4.toInt = x4 → zRep xl xs p m σ → g_m_gathers_L167 a1 n x4 σ = some o → zGo xl xs (fun p' => p = p') 505 191 167 [(0, .ref 143), (4, .int X4)] [] m vV o.2
  | 0, _, _, _, _, _, _, _, _, h => by cases h
  | n + 1, X4, x4, σ, p, m, o, hx4, H, h => by
    have hq : z_mth 191 = some z_r191 := rfl
    have ih := fun {X4 : Int32} {x4 : Int} {σ : zS} {p : Nat} {m : zM} {o : Unit × zS} => g_m_gathers_L167_ok (xl := xl) (xs := xs) ha1 n (X4 := X4) (x4 := x4) (σ := σ) (p := p) (m := m) (o := o)
    unfold g_m_gathers_L167 at h
    refine r_p hq 2 (pc' := 170) (L' := [(0, .ref 143), (4, .int X4)]) (st' := [.ref 143, .int X4]) rfl ?_
    refine r_gI (pc' := 173) (L' := [(0, .ref 143), (4, .int X4)]) H hq (z_at.mk 3 rfl rfl) rfl rfl rfl rfl ?_
    intro V_170 hV_170
    rcases z_ite h with ⟨c_173, h⟩ | ⟨c_173, h⟩
    · refine r_t2 (pc' := 203) (L' := [(0, .ref 143), (4, .int X4)]) hq (z_at.mk 3 rfl rfl) rfl hx4 hV_170 c_173 rfl rfl ?_
      cases h
      exact r_rv hq (z_at.mk 1 rfl rfl) rfl rfl H
    · refine r_f2 (pc' := 176) (L' := [(0, .ref 143), (4, .int X4)]) hq (z_at.mk 3 rfl rfl) rfl hx4 hV_170 c_173 rfl rfl ?_
      refine r_p hq 1 (pc' := 177) (L' := [(0, .ref 143), (4, .int X4)]) (st' := [.ref 143]) rfl ?_
      refine r_gR (b := 155) (pc' := 180) (L' := [(0, .ref 143), (4, .int X4)]) H hq (z_at.mk 3 rfl rfl) rfl rfl rfl rfl ?_
      refine r_p hq 2 (pc' := 183) (L' := [(0, .ref 143), (4, .int X4)]) (st' := [.ref 143, .int X4, .ref 155]) rfl ?_
      refine r_gR (b := 147) (pc' := 186) (L' := [(0, .ref 143), (4, .int X4)]) H hq (z_at.mk 3 rfl rfl) rfl rfl rfl rfl ?_
      refine r_p hq 2 (pc' := 188) (L' := [(0, .ref 143), (4, .int X4)]) (st' := [.ref 143, .int ((1 : Int32)), .ref 147, .int X4, .ref 155]) rfl ?_
      refine r_gR (b := 154) (pc' := 191) (L' := [(0, .ref 143), (4, .int X4)]) H hq (z_at.mk 3 rfl rfl) rfl rfl rfl rfl ?_
      refine r_p hq 1 (pc' := 193) (L' := [(0, .ref 143), (4, .int X4)]) (st' := [.int X4, .ref 154, .int ((1 : Int32)), .ref 147, .int X4, .ref 155]) rfl ?_
      obtain ⟨g_193, h⟩ := z_ifo_some h
      refine r_ia (pc' := 194) (L' := [(0, .ref 143), (4, .int X4)]) H hq (z_at.mk 1 rfl rfl) (show zAr 154 0 60 = true from rfl) hx4 g_193 rfl rfl ?_
      intro V_193 hV_193
      refine r_p hq 1 (pc' := 195) (L' := [(0, .ref 143), (4, .int X4)]) (st' := [.int (((1 : Int32)) + V_193), .ref 147, .int X4, .ref 155]) rfl ?_
      obtain ⟨g_195, h⟩ := z_ifo_some h
      refine r_la (pc' := 196) (L' := [(0, .ref 143), (4, .int X4)]) H hq (z_at.mk 1 rfl rfl) (show zAr 147 1 361 = true from rfl) (tx_iadd (rfl : (1 : Int32).toInt = 1) hV_193) g_195 rfl rfl ?_
      intro V_195 hV_195
      obtain ⟨g_196, h⟩ := z_ifo_some h
      refine r_ls (pc' := 197) (L' := [(0, .ref 143), (4, .int X4)]) H hq (z_at.mk 1 rfl rfl) (show zAr 155 1 60 = true from rfl) hx4 g_196 hV_195 rfl rfl ?_
      intro m_196 H_196
      refine r_p hq 2 (pc' := 167) (L' := [(0, .ref 143), (4, .int (X4 + (1 : Int32)))]) (st' := []) rfl ?_
      exact ih (tx_iadd hx4 (rfl : (1 : Int32).toInt = 1)) H_196 h
def g_m_gathers_L8 (a1 : Nat) : Nat → Int → Int → Int → zS → Option (Unit × zS)
  | 0, _, _, _, _ => none
  | n + 1, x2, x3, x4, σ =>
    if 60 ≤ x4 then
      g_m_gathers_L167 a1 zK 0 σ
    else
      (g_m_rowAt x4 σ).bind fun o_21 =>
      if 0 ≤ o_21.1 ∧ o_21.1 < 2740 then
      let v_24 := o_21.2 144 o_21.1
      if v_24 = 0 then
        g_m_gathers_L158 a1 ((g_m_gathers_L8 a1 n)) x2 x3 x4 o_21.2
      else
        (g_m_rowAt x4 o_21.2).bind fun o_36 =>
        if 0 ≤ w32 (o_36.1 + 1) ∧ w32 (o_36.1 + 1) < 2740 then
        let v_41 := o_36.2 144 (w32 (o_36.1 + 1))
        (g_m_rowAt x4 o_36.2).bind fun o_48 =>
        if 0 ≤ w32 (o_48.1 + 2) ∧ w32 (o_48.1 + 2) < 2740 then
        let v_53 := o_48.2 144 (w32 (o_48.1 + 2))
        (g_m_has a1 x2 v_41 v_53 o_48.2).bind fun o_54 =>
        if o_54.1 ≠ 0 then
          let s_65 := zu o_54.2 143 21 x3
          if x3 < 0 then
            g_m_gathers_L84 a1 ((g_m_gathers_L8 a1 n)) x2 x3 x4 s_65
          else
            (g_grp231 zR 231 x4 s_65).bind fun o_75 =>
            if o_75.1 ≠ 0 then
              g_m_gathers_L84 a1 ((g_m_gathers_L8 a1 n)) x2 x3 x4 o_75.2
            else
              g_m_gathers_L158 a1 ((g_m_gathers_L8 a1 n)) x2 x3 x4 o_75.2
        else
          g_m_gathers_L158 a1 ((g_m_gathers_L8 a1 n)) x2 x3 x4 o_54.2
        else none
        else none
      else none
set_option maxHeartbeats 4000000 in
theorem g_m_gathers_L8_ok {xl : Nat} {xs : Nat → Int32} {a1 : Nat} (ha1 : zIn [144, 150, 151, 152, 153, 156, 157, 161, 164, 165] a1 = true) : ∀ (n : Nat) {X2 : Int32} {x2 : Int} {X3 : Int32} {x3 : Int} {X4 : Int32} {x4 : Int} {σ : zS} {p : Nat} {m : zM} {o : Unit × zS}, X2.toInt = x2 → X3.toInt = x3 → X4.toInt = x4 → zRep xl xs p m σ → g_m_gathers_L8 a1 n x2 x3 x4 σ = some o → zGo xl xs (fun p' => p = p') 505 191 8 [(0, .ref 143), (1, .ref a1), (2, .int X2), (3, .int X3), (4, .int X4)] [] m vV o.2
  | 0, _, _, _, _, _, _, _, _, _, _, _, _, _, _, h => by cases h
  | n + 1, X2, x2, X3, x3, X4, x4, σ, p, m, o, hx2, hx3, hx4, H, h => by
    have hq : z_mth 191 = some z_r191 := rfl
    have ih := fun {X2 : Int32} {x2 : Int} {X3 : Int32} {x3 : Int} {X4 : Int32} {x4 : Int} {σ : zS} {p : Nat} {m : zM} {o : Unit × zS} => g_m_gathers_L8_ok (xl := xl) (xs := xs) ha1 n (X2 := X2) (x2 := x2) (X3 := X3) (x3 := x3) (X4 := X4) (x4 := x4) (σ := σ) (p := p) (m := m) (o := o)
    unfold g_m_gathers_L8 at h
    refine r_p hq 2 (pc' := 12) (L' := [(0, .ref 143), (1, .ref a1), (2, .int X2), (3, .int X3), (4, .int X4)]) (st' := [.int ((60 : Int32)), .int X4]) rfl ?_
    rcases z_ite h with ⟨c_12, h⟩ | ⟨c_12, h⟩
    · refine r_t2 (pc' := 164) (L' := [(0, .ref 143), (1, .ref a1), (2, .int X2), (3, .int X3), (4, .int X4)]) hq (z_at.mk 3 rfl rfl) rfl hx4 (rfl : (60 : Int32).toInt = 60) c_12 rfl rfl ?_
      refine r_p hq 2 (pc' := 167) (L' := [(0, .ref 143), (4, .int ((0 : Int32)))]) (st' := []) rfl ?_
      exact g_m_gathers_L167_ok ha1 zK (rfl : (0 : Int32).toInt = 0) H h
    · refine r_f2 (pc' := 15) (L' := [(0, .ref 143), (1, .ref a1), (2, .int X2), (3, .int X3), (4, .int X4)]) hq (z_at.mk 3 rfl rfl) rfl hx4 (rfl : (60 : Int32).toInt = 60) c_12 rfl rfl ?_
      refine r_p hq 1 (pc' := 16) (L' := [(0, .ref 143), (1, .ref a1), (2, .int X2), (3, .int X3), (4, .int X4)]) (st' := [.ref 143]) rfl ?_
      refine r_gR (b := 144) (pc' := 19) (L' := [(0, .ref 143), (1, .ref a1), (2, .int X2), (3, .int X3), (4, .int X4)]) H hq (z_at.mk 3 rfl rfl) rfl rfl rfl rfl ?_
      refine r_p hq 1 (pc' := 21) (L' := [(0, .ref 143), (1, .ref a1), (2, .int X2), (3, .int X3), (4, .int X4)]) (st' := [.int X4, .ref 144]) rfl ?_
      obtain ⟨o_21, h_21, h⟩ := Option.bind_eq_some_iff.mp h
      refine r_csI (pc' := 24) (L' := [(0, .ref 143), (1, .ref a1), (2, .int X2), (3, .int X3), (4, .int X4)]) (As := [.int X4]) (rest := [.ref 144]) (j := 174) hq (z_at.mk 3 rfl rfl) (Or.inl ⟨rfl, rfl⟩) rfl rfl (by omega) (g_m_rowAt_ok hx4 H h_21) rfl rfl ?_
      intro R_21 m_21 p_21 e_21 hR_21 H_21
      subst e_21
      obtain ⟨g_24, h⟩ := z_ifo_some h
      refine r_ia (pc' := 25) (L' := [(0, .ref 143), (1, .ref a1), (2, .int X2), (3, .int X3), (4, .int X4)]) H_21 hq (z_at.mk 1 rfl rfl) (show zAr 144 0 2740 = true from rfl) hR_21 g_24 rfl rfl ?_
      intro V_24 hV_24
      rcases z_ite h with ⟨c_25, h⟩ | ⟨c_25, h⟩
      · refine r_t1 (pc' := 158) (L' := [(0, .ref 143), (1, .ref a1), (2, .int X2), (3, .int X3), (4, .int X4)]) hq (z_at.mk 3 rfl rfl) rfl hV_24 c_25 rfl rfl ?_
        exact g_m_gathers_L158_ok ha1 ih hx2 hx3 hx4 H_21 h
      · refine r_f1 (pc' := 28) (L' := [(0, .ref 143), (1, .ref a1), (2, .int X2), (3, .int X3), (4, .int X4)]) hq (z_at.mk 3 rfl rfl) rfl hV_24 c_25 rfl rfl ?_
        refine r_p hq 3 (pc' := 31) (L' := [(0, .ref 143), (1, .ref a1), (2, .int X2), (3, .int X3), (4, .int X4)]) (st' := [.ref 143, .int X2, .ref a1]) rfl ?_
        refine r_gR (b := 144) (pc' := 34) (L' := [(0, .ref 143), (1, .ref a1), (2, .int X2), (3, .int X3), (4, .int X4)]) H_21 hq (z_at.mk 3 rfl rfl) rfl rfl rfl rfl ?_
        refine r_p hq 1 (pc' := 36) (L' := [(0, .ref 143), (1, .ref a1), (2, .int X2), (3, .int X3), (4, .int X4)]) (st' := [.int X4, .ref 144, .int X2, .ref a1]) rfl ?_
        obtain ⟨o_36, h_36, h⟩ := Option.bind_eq_some_iff.mp h
        refine r_csI (pc' := 39) (L' := [(0, .ref 143), (1, .ref a1), (2, .int X2), (3, .int X3), (4, .int X4)]) (As := [.int X4]) (rest := [.ref 144, .int X2, .ref a1]) (j := 174) hq (z_at.mk 3 rfl rfl) (Or.inl ⟨rfl, rfl⟩) rfl rfl (by omega) (g_m_rowAt_ok hx4 H_21 h_36) rfl rfl ?_
        intro R_36 m_36 p_36 e_36 hR_36 H_36
        subst e_36
        refine r_p hq 2 (pc' := 41) (L' := [(0, .ref 143), (1, .ref a1), (2, .int X2), (3, .int X3), (4, .int X4)]) (st' := [.int (R_36 + ((1 : Int32))), .ref 144, .int X2, .ref a1]) rfl ?_
        obtain ⟨g_41, h⟩ := z_ifo_some h
        refine r_ia (pc' := 42) (L' := [(0, .ref 143), (1, .ref a1), (2, .int X2), (3, .int X3), (4, .int X4)]) H_36 hq (z_at.mk 1 rfl rfl) (show zAr 144 0 2740 = true from rfl) (tx_iadd hR_36 (rfl : (1 : Int32).toInt = 1)) g_41 rfl rfl ?_
        intro V_41 hV_41
        refine r_p hq 1 (pc' := 43) (L' := [(0, .ref 143), (1, .ref a1), (2, .int X2), (3, .int X3), (4, .int X4)]) (st' := [.ref 143, .int V_41, .int X2, .ref a1]) rfl ?_
        refine r_gR (b := 144) (pc' := 46) (L' := [(0, .ref 143), (1, .ref a1), (2, .int X2), (3, .int X3), (4, .int X4)]) H_36 hq (z_at.mk 3 rfl rfl) rfl rfl rfl rfl ?_
        refine r_p hq 1 (pc' := 48) (L' := [(0, .ref 143), (1, .ref a1), (2, .int X2), (3, .int X3), (4, .int X4)]) (st' := [.int X4, .ref 144, .int V_41, .int X2, .ref a1]) rfl ?_
        obtain ⟨o_48, h_48, h⟩ := Option.bind_eq_some_iff.mp h
        refine r_csI (pc' := 51) (L' := [(0, .ref 143), (1, .ref a1), (2, .int X2), (3, .int X3), (4, .int X4)]) (As := [.int X4]) (rest := [.ref 144, .int V_41, .int X2, .ref a1]) (j := 174) hq (z_at.mk 3 rfl rfl) (Or.inl ⟨rfl, rfl⟩) rfl rfl (by omega) (g_m_rowAt_ok hx4 H_36 h_48) rfl rfl ?_
        intro R_48 m_48 p_48 e_48 hR_48 H_48
        subst e_48
        refine r_p hq 2 (pc' := 53) (L' := [(0, .ref 143), (1, .ref a1), (2, .int X2), (3, .int X3), (4, .int X4)]) (st' := [.int (R_48 + ((2 : Int32))), .ref 144, .int V_41, .int X2, .ref a1]) rfl ?_
        obtain ⟨g_53, h⟩ := z_ifo_some h
        refine r_ia (pc' := 54) (L' := [(0, .ref 143), (1, .ref a1), (2, .int X2), (3, .int X3), (4, .int X4)]) H_48 hq (z_at.mk 1 rfl rfl) (show zAr 144 0 2740 = true from rfl) (tx_iadd hR_48 (rfl : (2 : Int32).toInt = 2)) g_53 rfl rfl ?_
        intro V_53 hV_53
        obtain ⟨o_54, h_54, h⟩ := Option.bind_eq_some_iff.mp h
        refine r_csI (pc' := 57) (L' := [(0, .ref 143), (1, .ref a1), (2, .int X2), (3, .int X3), (4, .int X4)]) (As := [.ref a1, .int X2, .int V_41, .int V_53]) (rest := []) (j := 168) hq (z_at.mk 3 rfl rfl) (Or.inl ⟨rfl, rfl⟩) rfl rfl (by omega) (g_m_has_ok (zIn_all (l := [144, 150, 151, 152, 153, 156, 157, 161, 164, 165]) (p := fun a => zIn [144, 150, 151, 152, 153, 156, 157, 161, 164, 165] a) rfl ha1) hx2 hV_41 hV_53 H_48 h_54) rfl rfl ?_
        intro R_54 m_54 p_54 e_54 hR_54 H_54
        subst e_54
        rcases z_ite h with ⟨c_57, h⟩ | ⟨c_57, h⟩
        · refine r_t1 (pc' := 63) (L' := [(0, .ref 143), (1, .ref a1), (2, .int X2), (3, .int X3), (4, .int X4)]) hq (z_at.mk 3 rfl rfl) rfl hR_54 c_57 rfl rfl ?_
          refine r_p hq 2 (pc' := 65) (L' := [(0, .ref 143), (1, .ref a1), (2, .int X2), (3, .int X3), (4, .int X4)]) (st' := [.int X3, .ref 143]) rfl ?_
          refine r_pI (X := X3) (pc' := 68) (L' := [(0, .ref 143), (1, .ref a1), (2, .int X2), (3, .int X3), (4, .int X4)]) H_54 hq (z_at.mk 3 rfl rfl) rfl rfl hx3 (by decide) rfl rfl rfl rfl ?_
          intro m_65 H_65
          refine r_p hq 1 (pc' := 69) (L' := [(0, .ref 143), (1, .ref a1), (2, .int X2), (3, .int X3), (4, .int X4)]) (st' := [.int X3]) rfl ?_
          rcases z_ite h with ⟨c_69, h⟩ | ⟨c_69, h⟩
          · refine r_t1 (pc' := 84) (L' := [(0, .ref 143), (1, .ref a1), (2, .int X2), (3, .int X3), (4, .int X4)]) hq (z_at.mk 3 rfl rfl) rfl hx3 c_69 rfl rfl ?_
            exact g_m_gathers_L84_ok ha1 ih hx2 hx3 hx4 H_65 h
          · refine r_f1 (pc' := 72) (L' := [(0, .ref 143), (1, .ref a1), (2, .int X2), (3, .int X3), (4, .int X4)]) hq (z_at.mk 3 rfl rfl) rfl hx3 c_69 rfl rfl ?_
            refine r_p hq 2 (pc' := 75) (L' := [(0, .ref 143), (1, .ref a1), (2, .int X2), (3, .int X3), (4, .int X4)]) (st' := [.int X4, .ref 143]) rfl ?_
            obtain ⟨o_75, h_75, h⟩ := Option.bind_eq_some_iff.mp h
            refine r_cvI (pc' := 78) (L' := [(0, .ref 143), (1, .ref a1), (2, .int X2), (3, .int X3), (4, .int X4)]) (Ps := [.int X4]) (rest := []) hq (z_at.mk 3 rfl rfl) (Or.inl ⟨rfl, rfl⟩) rfl rfl (by decide) (by decide) rfl (Nat.not_lt.mpr (Nat.le_of_ble_eq_true rfl)) rfl rfl (z_cat_le 0 rfl (by decide)) (z_lgl_le 2 rfl (by decide)) (by decide) (H_65.tg rfl) (by show 4 + zR + 1 ≤ _; unfold zR; omega) (g_grp231_ok zR 231 (by simp) hx4 H_65 h_75) rfl rfl ?_
            intro R_75 m_75 p_75 e_75 hR_75 H_75
            subst e_75
            rcases z_ite h with ⟨c_78, h⟩ | ⟨c_78, h⟩
            · refine r_t1 (pc' := 84) (L' := [(0, .ref 143), (1, .ref a1), (2, .int X2), (3, .int X3), (4, .int X4)]) hq (z_at.mk 3 rfl rfl) rfl hR_75 c_78 rfl rfl ?_
              exact g_m_gathers_L84_ok ha1 ih hx2 hx3 hx4 H_75 h
            · refine r_f1 (pc' := 81) (L' := [(0, .ref 143), (1, .ref a1), (2, .int X2), (3, .int X3), (4, .int X4)]) hq (z_at.mk 3 rfl rfl) rfl hR_75 c_78 rfl rfl ?_
              refine r_p hq 1 (pc' := 158) (L' := [(0, .ref 143), (1, .ref a1), (2, .int X2), (3, .int X3), (4, .int X4)]) (st' := []) rfl ?_
              exact g_m_gathers_L158_ok ha1 ih hx2 hx3 hx4 H_75 h
        · refine r_f1 (pc' := 60) (L' := [(0, .ref 143), (1, .ref a1), (2, .int X2), (3, .int X3), (4, .int X4)]) hq (z_at.mk 3 rfl rfl) rfl hR_54 c_57 rfl rfl ?_
          refine r_p hq 1 (pc' := 158) (L' := [(0, .ref 143), (1, .ref a1), (2, .int X2), (3, .int X3), (4, .int X4)]) (st' := []) rfl ?_
          exact g_m_gathers_L158_ok ha1 ih hx2 hx3 hx4 H_54 h
def g_m_gathers (a1 : Nat) (x2 : Int) (x3 : Int) (σ : zS) : Option (Unit × zS) :=
  let s_2 := zu σ 143 14 0
  g_m_gathers_L8 a1 zK x2 x3 0 s_2
set_option maxHeartbeats 4000000 in
theorem g_m_gathers_ok {xl : Nat} {xs : Nat → Int32} {a1 : Nat} (ha1 : zIn [144, 150, 151, 152, 153, 156, 157, 161, 164, 165] a1 = true) {X2 : Int32} {x2 : Int} (hx2 : X2.toInt = x2) {X3 : Int32} {x3 : Int} (hx3 : X3.toInt = x3) {σ : zS} {p : Nat} {m : zM} {o : Unit × zS} (H : zRep xl xs p m σ) (h : g_m_gathers a1 x2 x3 σ = some o) : zGo xl xs (fun p' => p = p') 505 191 0 (z_can 191 0 (lv_args 0 [.ref 143, .ref a1, .int X2, .int X3])) [] m vV o.2 := by
  have hq : z_mth 191 = some z_r191 := rfl
  unfold g_m_gathers at h
  show zGo xl xs (fun p' => p = p') 505 191 0 [(0, .ref 143), (1, .ref a1), (2, .int X2), (3, .int X3)] [] m vV o.2
  refine r_p hq 2 (pc' := 2) (L' := [(0, .ref 143), (1, .ref a1), (2, .int X2), (3, .int X3)]) (st' := [.int ((0 : Int32)), .ref 143]) rfl ?_
  refine r_pI (X := (0 : Int32)) (pc' := 5) (L' := [(0, .ref 143), (1, .ref a1), (2, .int X2), (3, .int X3)]) H hq (z_at.mk 3 rfl rfl) rfl rfl (rfl : (0 : Int32).toInt = 0) (by decide) rfl rfl rfl rfl ?_
  intro m_2 H_2
  refine r_p hq 2 (pc' := 8) (L' := [(0, .ref 143), (1, .ref a1), (2, .int X2), (3, .int X3), (4, .int ((0 : Int32)))]) (st' := []) rfl ?_
  exact g_m_gathers_L8_ok ha1 zK hx2 hx3 (rfl : (0 : Int32).toInt = 0) H_2 h
def g_m_leastOf_L38 (g9 : Int → Int → zS → Option (Int × zS)) (x3 : Int) (ys0 : Int) (σ : zS) : Option (Int × zS) :=
  g9 ys0 (w32 (x3 + 1)) σ
set_option maxHeartbeats 4000000 in
theorem g_m_leastOf_L38_ok {xl : Nat} {xs : Nat → Int32} {g9 : Int → Int → zS → Option (Int × zS)} (hg9 : ∀ {Y1 : Int64} {y1 : Int} {X3 : Int32} {x3 : Int} {σ : zS} {p : Nat} {m : zM} {o : Int × zS}, Y1.toInt = y1 → X3.toInt = x3 → zRep xl xs p m σ → g9 y1 x3 σ = some o → zGo xl xs (fun p' => p = p') 1 192 9 [(0, .ref 143), (1, .long Y1), (3, .int X3)] [] m (vL o.1) o.2) {X3 : Int32} {x3 : Int} (hx3 : X3.toInt = x3) {Ys0 : Int64} {ys0 : Int} (hys0 : Ys0.toInt = ys0) {σ : zS} {p : Nat} {m : zM} {o : Int × zS} (H : zRep xl xs p m σ) (h : g_m_leastOf_L38 g9 x3 ys0 σ = some o) : zGo xl xs (fun p' => p = p') 1 192 38 [(0, .ref 143), (3, .int X3)] [.long Ys0] m (vL o.1) o.2 := by
  have hq : z_mth 192 = some z_r192 := rfl
  unfold g_m_leastOf_L38 at h
  refine r_p hq 3 (pc' := 9) (L' := [(0, .ref 143), (1, .long Ys0), (3, .int (X3 + (1 : Int32)))]) (st' := []) rfl ?_
  exact hg9 hys0 (tx_iadd hx3 (rfl : (1 : Int32).toInt = 1)) H h
def g_m_leastOf_L9 : Nat → Int → Int → zS → Option (Int × zS)
  | 0, _, _, _ => none
  | n + 1, y1, x3, σ =>
    let v_11 := σ 143 14
    if v_11 ≤ x3 then
      some (y1, σ)
    else
      if 0 ≤ x3 ∧ x3 < 60 then
      let v_22 := σ 155 x3
      if 0 ≤ lCmp v_22 y1 then
        g_m_leastOf_L38 ((g_m_leastOf_L9 n)) x3 y1 σ
      else
        if 0 ≤ x3 ∧ x3 < 60 then
        let v_33 := σ 155 x3
        g_m_leastOf_L38 ((g_m_leastOf_L9 n)) x3 v_33 σ
        else none
      else none
set_option maxHeartbeats 4000000 in
theorem g_m_leastOf_L9_ok {xl : Nat} {xs : Nat → Int32} : ∀ (n : Nat) {Y1 : Int64} {y1 : Int} {X3 : Int32} {x3 : Int} {σ : zS} {p : Nat} {m : zM} {o : Int × zS}, Y1.toInt = y1 → X3.toInt = x3 → zRep xl xs p m σ → g_m_leastOf_L9 n y1 x3 σ = some o → zGo xl xs (fun p' => p = p') 1 192 9 [(0, .ref 143), (1, .long Y1), (3, .int X3)] [] m (vL o.1) o.2
  | 0, _, _, _, _, _, _, _, _, _, _, _, h => by cases h
  | n + 1, Y1, y1, X3, x3, σ, p, m, o, hy1, hx3, H, h => by
    have hq : z_mth 192 = some z_r192 := rfl
    have ih := fun {Y1 : Int64} {y1 : Int} {X3 : Int32} {x3 : Int} {σ : zS} {p : Nat} {m : zM} {o : Int × zS} => g_m_leastOf_L9_ok (xl := xl) (xs := xs) n (Y1 := Y1) (y1 := y1) (X3 := X3) (x3 := x3) (σ := σ) (p := p) (m := m) (o := o)
    unfold g_m_leastOf_L9 at h
    refine r_p hq 2 (pc' := 11) (L' := [(0, .ref 143), (1, .long Y1), (3, .int X3)]) (st' := [.ref 143, .int X3]) rfl ?_
    refine r_gI (pc' := 14) (L' := [(0, .ref 143), (1, .long Y1), (3, .int X3)]) H hq (z_at.mk 3 rfl rfl) rfl rfl rfl rfl ?_
    intro V_11 hV_11
    rcases z_ite h with ⟨c_14, h⟩ | ⟨c_14, h⟩
    · refine r_t2 (pc' := 45) (L' := [(0, .ref 143), (1, .long Y1), (3, .int X3)]) hq (z_at.mk 3 rfl rfl) rfl hx3 hV_11 c_14 rfl rfl ?_
      refine r_p hq 1 (pc' := 46) (L' := [(0, .ref 143), (1, .long Y1), (3, .int X3)]) (st' := [.long Y1]) rfl ?_
      cases h
      exact r_rl hq (z_at.mk 1 rfl rfl) rfl hy1 rfl H
    · refine r_f2 (pc' := 17) (L' := [(0, .ref 143), (1, .long Y1), (3, .int X3)]) hq (z_at.mk 3 rfl rfl) rfl hx3 hV_11 c_14 rfl rfl ?_
      refine r_p hq 1 (pc' := 18) (L' := [(0, .ref 143), (1, .long Y1), (3, .int X3)]) (st' := [.ref 143]) rfl ?_
      refine r_gR (b := 155) (pc' := 21) (L' := [(0, .ref 143), (1, .long Y1), (3, .int X3)]) H hq (z_at.mk 3 rfl rfl) rfl rfl rfl rfl ?_
      refine r_p hq 1 (pc' := 22) (L' := [(0, .ref 143), (1, .long Y1), (3, .int X3)]) (st' := [.int X3, .ref 155]) rfl ?_
      obtain ⟨g_22, h⟩ := z_ifo_some h
      refine r_la (pc' := 23) (L' := [(0, .ref 143), (1, .long Y1), (3, .int X3)]) H hq (z_at.mk 1 rfl rfl) (show zAr 155 1 60 = true from rfl) hx3 g_22 rfl rfl ?_
      intro V_22 hV_22
      refine r_p hq 2 (pc' := 25) (L' := [(0, .ref 143), (1, .long Y1), (3, .int X3)]) (st' := [.int (lg_cmp V_22 Y1)]) rfl ?_
      rcases z_ite h with ⟨c_25, h⟩ | ⟨c_25, h⟩
      · refine r_t1 (pc' := 37) (L' := [(0, .ref 143), (1, .long Y1), (3, .int X3)]) hq (z_at.mk 3 rfl rfl) rfl (tx_lcmp hV_22 hy1) c_25 rfl rfl ?_
        refine r_p hq 1 (pc' := 38) (L' := [(0, .ref 143), (3, .int X3)]) (st' := [.long Y1]) rfl ?_
        exact g_m_leastOf_L38_ok ih hx3 hy1 H h
      · refine r_f1 (pc' := 28) (L' := [(0, .ref 143), (1, .long Y1), (3, .int X3)]) hq (z_at.mk 3 rfl rfl) rfl (tx_lcmp hV_22 hy1) c_25 rfl rfl ?_
        refine r_p hq 1 (pc' := 29) (L' := [(0, .ref 143), (1, .long Y1), (3, .int X3)]) (st' := [.ref 143]) rfl ?_
        refine r_gR (b := 155) (pc' := 32) (L' := [(0, .ref 143), (1, .long Y1), (3, .int X3)]) H hq (z_at.mk 3 rfl rfl) rfl rfl rfl rfl ?_
        refine r_p hq 1 (pc' := 33) (L' := [(0, .ref 143), (1, .long Y1), (3, .int X3)]) (st' := [.int X3, .ref 155]) rfl ?_
        obtain ⟨g_33, h⟩ := z_ifo_some h
        refine r_la (pc' := 34) (L' := [(0, .ref 143), (1, .long Y1), (3, .int X3)]) H hq (z_at.mk 1 rfl rfl) (show zAr 155 1 60 = true from rfl) hx3 g_33 rfl rfl ?_
        intro V_33 hV_33
        refine r_p hq 1 (pc' := 38) (L' := [(0, .ref 143), (3, .int X3)]) (st' := [.long V_33]) rfl ?_
        exact g_m_leastOf_L38_ok ih hx3 hV_33 H h
def g_m_leastOf (σ : zS) : Option (Int × zS) :=
  let v_5 := σ 155 0
  g_m_leastOf_L9 zK v_5 1 σ
set_option maxHeartbeats 4000000 in
theorem g_m_leastOf_ok {xl : Nat} {xs : Nat → Int32} {σ : zS} {p : Nat} {m : zM} {o : Int × zS} (H : zRep xl xs p m σ) (h : g_m_leastOf σ = some o) : zGo xl xs (fun p' => p = p') 1 192 0 (z_can 192 0 (lv_args 0 [.ref 143])) [] m (vL o.1) o.2 := by
  have hq : z_mth 192 = some z_r192 := rfl
  unfold g_m_leastOf at h
  show zGo xl xs (fun p' => p = p') 1 192 0 [(0, .ref 143)] [] m (vL o.1) o.2
  refine r_p hq 1 (pc' := 1) (L' := [(0, .ref 143)]) (st' := [.ref 143]) rfl ?_
  refine r_gR (b := 155) (pc' := 4) (L' := [(0, .ref 143)]) H hq (z_at.mk 3 rfl rfl) rfl rfl rfl rfl ?_
  refine r_p hq 1 (pc' := 5) (L' := [(0, .ref 143)]) (st' := [.int ((0 : Int32)), .ref 155]) rfl ?_
  refine r_la (pc' := 6) (L' := [(0, .ref 143)]) H hq (z_at.mk 1 rfl rfl) (show zAr 155 1 60 = true from rfl) (rfl : (0 : Int32).toInt = 0) ⟨by decide, by decide⟩ rfl rfl ?_
  intro V_5 hV_5
  refine r_p hq 3 (pc' := 9) (L' := [(0, .ref 143), (1, .long V_5), (3, .int ((1 : Int32)))]) (st' := []) rfl ?_
  exact g_m_leastOf_L9_ok zK hV_5 (rfl : (1 : Int32).toInt = 1) H h
