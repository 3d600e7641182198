/-! THE METHODS over the typed memory, 12 (by wip/zg.py) -/
def g_m_mostOf_L38 (g9 : Int → Int → zS → Option (Int × zS)) (x3 : Int) (ys0 : Int) (σ : zS) : Option (Int × zS) :=
  g9 ys0 (w32 (x3 + 1)) σ
set_option maxHeartbeats 4000000 in
theorem g_m_mostOf_L38_ok {xl : Nat} {xs : Nat → Int32} {g9 : Int → Int → zS → Option (Int × zS)} (hg9 : ∀ {Y1 : Int64} {y1 : Int} {X3 : Int32} {x3 : Int} {σ : zS} {p : Nat} {m : zM} {o : Int × zS}, Y1.toInt = y1 → X3.toInt = x3 → zRep xl xs p m σ → g9 y1 x3 σ = some o → zGo xl xs (fun p' => p = p') 1 193 9 [(0, .ref 143), (1, .long Y1), (3, .int X3)] [] m (vL o.1) o.2) {X3 : Int32} {x3 : Int} (hx3 : X3.toInt = x3) {Ys0 : Int64} {ys0 : Int} (hys0 : Ys0.toInt = ys0) {σ : zS} {p : Nat} {m : zM} {o : Int × zS} (H : zRep xl xs p m σ) (h : g_m_mostOf_L38 g9 x3 ys0 σ = some o) : zGo xl xs (fun p' => p = p') 1 193 38 [(0, .ref 143), (3, .int X3)] [.long Ys0] m (vL o.1) o.2 := by
  have hq : z_mth 193 = some z_r193 := rfl
  unfold g_m_mostOf_L38 at h
  refine r_p hq 3 (pc' := 9) (L' := [(0, .ref 143), (1, .long Ys0), (3, .int (X3 + (1 : Int32)))]) (st' := []) rfl ?_
  exact hg9 hys0 (tx_iadd hx3 (rfl : (1 : Int32).toInt = 1)) H h
def g_m_mostOf_L9 : Nat → Int → Int → zS → Option (Int × zS)
  | 0, _, _, _ => none
  | n + 1, y1, x3, σ =>
    let v_11 := σ 143 14
    if v_11 ≤ x3 then
      some (y1, σ)
    else
      if 0 ≤ x3 ∧ x3 < 60 then
      let v_22 := σ 155 x3
      if lCmp v_22 y1 ≤ 0 then
        g_m_mostOf_L38 ((g_m_mostOf_L9 n)) x3 y1 σ
      else
        if 0 ≤ x3 ∧ x3 < 60 then
        let v_33 := σ 155 x3
        g_m_mostOf_L38 ((g_m_mostOf_L9 n)) x3 v_33 σ
        else none
      else none
set_option maxHeartbeats 4000000 in
theorem g_m_mostOf_L9_ok {xl : Nat} {xs : Nat → Int32} : ∀ (n : Nat) {Y1 : Int64} {y1 : Int} {X3 : Int32} {x3 : Int} {σ : zS} {p : Nat} {m : zM} {o : Int × zS}, Y1.toInt = y1 → X3.toInt = x3 → zRep xl xs p m σ → g_m_mostOf_L9 n y1 x3 σ = some o → zGo xl xs (fun p' => p = p') 1 193 9 [(0, .ref 143), (1, .long Y1), (3, .int X3)] [] m (vL o.1) o.2
  | 0, _, _, _, _, _, _, _, _, _, _, _, h => by cases h
  | n + 1, Y1, y1, X3, x3, σ, p, m, o, hy1, hx3, H, h => by
    have hq : z_mth 193 = some z_r193 := rfl
    have ih := fun {Y1 : Int64} {y1 : Int} {X3 : Int32} {x3 : Int} {σ : zS} {p : Nat} {m : zM} {o : Int × zS} => g_m_mostOf_L9_ok (xl := xl) (xs := xs) n (Y1 := Y1) (y1 := y1) (X3 := X3) (x3 := x3) (σ := σ) (p := p) (m := m) (o := o)
    unfold g_m_mostOf_L9 at h
    refine r_p hq 2 (pc' := 11) (L' := [(0, .ref 143), (1, .long Y1), (3, .int X3)]) (st' := [.ref 143, .int X3]) rfl ?_
    refine r_gI (pc' := 14) (L' := [(0, .ref 143), (1, .long Y1), (3, .int X3)]) H hq (z_at.mk 3 rfl rfl) rfl rfl rfl rfl ?_
    intro V_11 hV_11
    rcases z_ite h with ⟨c_14, h⟩ | ⟨c_14, h⟩
    · refine r_t2 (pc' := 45) (L' := [(0, .ref 143), (1, .long Y1), (3, .int X3)]) hq (z_at.mk 3 rfl rfl) rfl hx3 hV_11 c_14 rfl rfl ?_
      refine r_p hq 1 (pc' := 46) (L' := [(0, .ref 143), (1, .long Y1), (3, .int X3)]) (st' := [.long Y1]) rfl ?_
      cases h
      exact r_rl hq (z_at.mk 1 rfl rfl) rfl hy1 rfl H
    · refine r_f2 (pc' := 17) (L' := [(0, .ref 143), (1, .long Y1), (3, .int X3)]) hq (z_at.mk 3 rfl rfl) rfl hx3 hV_11 c_14 rfl rfl ?_
      refine r_p hq 1 (pc' := 18) (L' := [(0, .ref 143), (1, .long Y1), (3, .int X3)]) (st' := [.ref 143]) rfl ?_
      refine r_gR (b := 155) (pc' := 21) (L' := [(0, .ref 143), (1, .long Y1), (3, .int X3)]) H hq (z_at.mk 3 rfl rfl) rfl rfl rfl rfl ?_
      refine r_p hq 1 (pc' := 22) (L' := [(0, .ref 143), (1, .long Y1), (3, .int X3)]) (st' := [.int X3, .ref 155]) rfl ?_
      obtain ⟨g_22, h⟩ := z_ifo_some h
      refine r_la (pc' := 23) (L' := [(0, .ref 143), (1, .long Y1), (3, .int X3)]) H hq (z_at.mk 1 rfl rfl) (show zAr 155 1 60 = true from rfl) hx3 g_22 rfl rfl ?_
      intro V_22 hV_22
      refine r_p hq 2 (pc' := 25) (L' := [(0, .ref 143), (1, .long Y1), (3, .int X3)]) (st' := [.int (lg_cmp V_22 Y1)]) rfl ?_
      rcases z_ite h with ⟨c_25, h⟩ | ⟨c_25, h⟩
      · refine r_t1 (pc' := 37) (L' := [(0, .ref 143), (1, .long Y1), (3, .int X3)]) hq (z_at.mk 3 rfl rfl) rfl (tx_lcmp hV_22 hy1) c_25 rfl rfl ?_
        refine r_p hq 1 (pc' := 38) (L' := [(0, .ref 143), (3, .int X3)]) (st' := [.long Y1]) rfl ?_
        exact g_m_mostOf_L38_ok ih hx3 hy1 H h
      · refine r_f1 (pc' := 28) (L' := [(0, .ref 143), (1, .long Y1), (3, .int X3)]) hq (z_at.mk 3 rfl rfl) rfl (tx_lcmp hV_22 hy1) c_25 rfl rfl ?_
        refine r_p hq 1 (pc' := 29) (L' := [(0, .ref 143), (1, .long Y1), (3, .int X3)]) (st' := [.ref 143]) rfl ?_
        refine r_gR (b := 155) (pc' := 32) (L' := [(0, .ref 143), (1, .long Y1), (3, .int X3)]) H hq (z_at.mk 3 rfl rfl) rfl rfl rfl rfl ?_
        refine r_p hq 1 (pc' := 33) (L' := [(0, .ref 143), (1, .long Y1), (3, .int X3)]) (st' := [.int X3, .ref 155]) rfl ?_
        obtain ⟨g_33, h⟩ := z_ifo_some h
        refine r_la (pc' := 34) (L' := [(0, .ref 143), (1, .long Y1), (3, .int X3)]) H hq (z_at.mk 1 rfl rfl) (show zAr 155 1 60 = true from rfl) hx3 g_33 rfl rfl ?_
        intro V_33 hV_33
        refine r_p hq 1 (pc' := 38) (L' := [(0, .ref 143), (3, .int X3)]) (st' := [.long V_33]) rfl ?_
        exact g_m_mostOf_L38_ok ih hx3 hV_33 H h
def g_m_mostOf (σ : zS) : Option (Int × zS) :=
  let v_5 := σ 155 0
  g_m_mostOf_L9 zK v_5 1 σ
set_option maxHeartbeats 4000000 in
theorem g_m_mostOf_ok {xl : Nat} {xs : Nat → Int32} {σ : zS} {p : Nat} {m : zM} {o : Int × zS} (H : zRep xl xs p m σ) (h : g_m_mostOf σ = some o) : zGo xl xs (fun p' => p = p') 1 193 0 (z_can 193 0 (lv_args 0 [.ref 143])) [] m (vL o.1) o.2 := by
  have hq : z_mth 193 = some z_r193 := rfl
  unfold g_m_mostOf at h
  show zGo xl xs (fun p' => p = p') 1 193 0 [(0, .ref 143)] [] m (vL o.1) o.2
  refine r_p hq 1 (pc' := 1) (L' := [(0, .ref 143)]) (st' := [.ref 143]) rfl ?_
  refine r_gR (b := 155) (pc' := 4) (L' := [(0, .ref 143)]) H hq (z_at.mk 3 rfl rfl) rfl rfl rfl rfl ?_
  refine r_p hq 1 (pc' := 5) (L' := [(0, .ref 143)]) (st' := [.int ((0 : Int32)), .ref 155]) rfl ?_
  refine r_la (pc' := 6) (L' := [(0, .ref 143)]) H hq (z_at.mk 1 rfl rfl) (show zAr 155 1 60 = true from rfl) (rfl : (0 : Int32).toInt = 0) ⟨by decide, by decide⟩ rfl rfl ?_
  intro V_5 hV_5
  refine r_p hq 3 (pc' := 9) (L' := [(0, .ref 143), (1, .long V_5), (3, .int ((1 : Int32)))]) (st' := []) rfl ?_
  exact g_m_mostOf_L9_ok zK hV_5 (rfl : (1 : Int32).toInt = 1) H h
def g_m_sumOf_L60 (g9 : Int → Int → zS → Option (Int × zS)) (x3 : Int) (y4 : Int) (xs0 : Int) (xs1 : Int) (σ : zS) : Option (Int × zS) :=
  if iOr xs1 xs0 = 0 ∨ iOr xs1 xs0 = 1 then
  let s_61 := zu σ 143 15 (iOr xs1 xs0)
  g9 y4 (w32 (x3 + 1)) s_61
  else none
set_option maxHeartbeats 4000000 in
theorem g_m_sumOf_L60_ok {xl : Nat} {xs : Nat → Int32} {g9 : Int → Int → zS → Option (Int × zS)} (hg9 : ∀ {Y1 : Int64} {y1 : Int} {X3 : Int32} {x3 : Int} {σ : zS} {p : Nat} {m : zM} {o : Int × zS}, Y1.toInt = y1 → X3.toInt = x3 → zRep xl xs p m σ → g9 y1 x3 σ = some o → zGo xl xs (fun p' => p = p') 1 194 9 [(0, .ref 143), (1, .long Y1), (3, .int X3)] [] m (vL o.1) o.2) {X3 : Int32} {x3 : Int} (hx3 : X3.toInt = x3) {Y4 : Int64} {y4 : Int} (hy4 : Y4.toInt = y4) {Xs0 : Int32} {xs0 : Int} (hxs0 : Xs0.toInt = xs0) {Xs1 : Int32} {xs1 : Int} (hxs1 : Xs1.toInt = xs1) {σ : zS} {p : Nat} {m : zM} {o : Int × zS} (H : zRep xl xs p m σ) (h : g_m_sumOf_L60 g9 x3 y4 xs0 xs1 σ = some o) : zGo xl xs (fun p' => p = p') 1 194 60 [(0, .ref 143), (3, .int X3), (4, .long Y4)] [.int Xs0, .int Xs1, .ref 143] m (vL o.1) o.2 := by
  have hq : z_mth 194 = some z_r194 := rfl
  unfold g_m_sumOf_L60 at h
  refine r_p hq 1 (pc' := 61) (L' := [(0, .ref 143), (3, .int X3), (4, .long Y4)]) (st' := [.int (Xs1 ||| Xs0), .ref 143]) rfl ?_
  obtain ⟨g_61, h⟩ := z_ifo_some h
  refine r_pI (X := Xs1 ||| Xs0) (pc' := 64) (L' := [(0, .ref 143), (3, .int X3), (4, .long Y4)]) H hq (z_at.mk 3 rfl rfl) rfl rfl (tx_ior hxs1 hxs0) (by decide) (z_fit_bz (tx_ior hxs1 hxs0) g_61) rfl rfl rfl ?_
  intro m_61 H_61
  refine r_p hq 4 (pc' := 9) (L' := [(0, .ref 143), (1, .long Y4), (3, .int (X3 + (1 : Int32)))]) (st' := []) rfl ?_
  exact hg9 hy4 (tx_iadd hx3 (rfl : (1 : Int32).toInt = 1)) H_61 h
def g_m_sumOf_L59 (g9 : Int → Int → zS → Option (Int × zS)) (x3 : Int) (y4 : Int) (xs0 : Int) (σ : zS) : Option (Int × zS) :=
  g_m_sumOf_L60 g9 x3 y4 0 xs0 σ
set_option maxHeartbeats 4000000 in
theorem g_m_sumOf_L59_ok {xl : Nat} {xs : Nat → Int32} {g9 : Int → Int → zS → Option (Int × zS)} (hg9 : ∀ {Y1 : Int64} {y1 : Int} {X3 : Int32} {x3 : Int} {σ : zS} {p : Nat} {m : zM} {o : Int × zS}, Y1.toInt = y1 → X3.toInt = x3 → zRep xl xs p m σ → g9 y1 x3 σ = some o → zGo xl xs (fun p' => p = p') 1 194 9 [(0, .ref 143), (1, .long Y1), (3, .int X3)] [] m (vL o.1) o.2) {X3 : Int32} {x3 : Int} (hx3 : X3.toInt = x3) {Y4 : Int64} {y4 : Int} (hy4 : Y4.toInt = y4) {Xs0 : Int32} {xs0 : Int} (hxs0 : Xs0.toInt = xs0) {σ : zS} {p : Nat} {m : zM} {o : Int × zS} (H : zRep xl xs p m σ) (h : g_m_sumOf_L59 g9 x3 y4 xs0 σ = some o) : zGo xl xs (fun p' => p = p') 1 194 59 [(0, .ref 143), (3, .int X3), (4, .long Y4)] [.int Xs0, .ref 143] m (vL o.1) o.2 := by
  have hq : z_mth 194 = some z_r194 := rfl
  unfold g_m_sumOf_L59 at h
  refine r_p hq 1 (pc' := 60) (L' := [(0, .ref 143), (3, .int X3), (4, .long Y4)]) (st' := [.int ((0 : Int32)), .int Xs0, .ref 143]) rfl ?_
  exact g_m_sumOf_L60_ok hg9 hx3 hy4 (rfl : (0 : Int32).toInt = 0) hxs0 H h
def g_m_sumOf_L9 : Nat → Int → Int → zS → Option (Int × zS)
  | 0, _, _, _ => none
  | n + 1, y1, x3, σ =>
    let v_11 := σ 143 14
    if v_11 ≤ x3 then
      some (y1, σ)
    else
      if 0 ≤ x3 ∧ x3 < 60 then
      let v_23 := σ 155 x3
      let v_29 := σ 143 15
      if 0 ≤ lCmp (lXor y1 (w64 (y1 + v_23))) 0 then
        g_m_sumOf_L59 ((g_m_sumOf_L9 n)) x3 (w64 (y1 + v_23)) v_29 σ
      else
        if 0 ≤ x3 ∧ x3 < 60 then
        let v_46 := σ 155 x3
        if 0 ≤ lCmp (lXor v_46 (w64 (y1 + v_23))) 0 then
          g_m_sumOf_L59 ((g_m_sumOf_L9 n)) x3 (w64 (y1 + v_23)) v_29 σ
        else
          g_m_sumOf_L60 ((g_m_sumOf_L9 n)) x3 (w64 (y1 + v_23)) 1 v_29 σ
        else none
      else none
set_option maxHeartbeats 4000000 in
theorem g_m_sumOf_L9_ok {xl : Nat} {xs : Nat → Int32} : ∀ (n : Nat) {Y1 : Int64} {y1 : Int} {X3 : Int32} {x3 : Int} {σ : zS} {p : Nat} {m : zM} {o : Int × zS}, Y1.toInt = y1 → X3.toInt = x3 → zRep xl xs p m σ → g_m_sumOf_L9 n y1 x3 σ = some o → zGo xl xs (fun p' => p = p') 1 194 9 [(0, .ref 143), (1, .long Y1), (3, .int X3)] [] m (vL o.1) o.2
  | 0, _, _, _, _, _, _, _, _, _, _, _, h => by cases h
  | n + 1, Y1, y1, X3, x3, σ, p, m, o, hy1, hx3, H, h => by
    have hq : z_mth 194 = some z_r194 := rfl
    have ih := fun {Y1 : Int64} {y1 : Int} {X3 : Int32} {x3 : Int} {σ : zS} {p : Nat} {m : zM} {o : Int × zS} => g_m_sumOf_L9_ok (xl := xl) (xs := xs) n (Y1 := Y1) (y1 := y1) (X3 := X3) (x3 := x3) (σ := σ) (p := p) (m := m) (o := o)
    unfold g_m_sumOf_L9 at h
    refine r_p hq 2 (pc' := 11) (L' := [(0, .ref 143), (1, .long Y1), (3, .int X3)]) (st' := [.ref 143, .int X3]) rfl ?_
    refine r_gI (pc' := 14) (L' := [(0, .ref 143), (1, .long Y1), (3, .int X3)]) H hq (z_at.mk 3 rfl rfl) rfl rfl rfl rfl ?_
    intro V_11 hV_11
    rcases z_ite h with ⟨c_14, h⟩ | ⟨c_14, h⟩
    · refine r_t2 (pc' := 73) (L' := [(0, .ref 143), (1, .long Y1), (3, .int X3)]) hq (z_at.mk 3 rfl rfl) rfl hx3 hV_11 c_14 rfl rfl ?_
      refine r_p hq 1 (pc' := 74) (L' := [(0, .ref 143), (1, .long Y1), (3, .int X3)]) (st' := [.long Y1]) rfl ?_
      cases h
      exact r_rl hq (z_at.mk 1 rfl rfl) rfl hy1 rfl H
    · refine r_f2 (pc' := 17) (L' := [(0, .ref 143), (1, .long Y1), (3, .int X3)]) hq (z_at.mk 3 rfl rfl) rfl hx3 hV_11 c_14 rfl rfl ?_
      refine r_p hq 2 (pc' := 19) (L' := [(0, .ref 143), (1, .long Y1), (3, .int X3)]) (st' := [.ref 143, .long Y1]) rfl ?_
      refine r_gR (b := 155) (pc' := 22) (L' := [(0, .ref 143), (1, .long Y1), (3, .int X3)]) H hq (z_at.mk 3 rfl rfl) rfl rfl rfl rfl ?_
      refine r_p hq 1 (pc' := 23) (L' := [(0, .ref 143), (1, .long Y1), (3, .int X3)]) (st' := [.int X3, .ref 155, .long Y1]) rfl ?_
      obtain ⟨g_23, h⟩ := z_ifo_some h
      refine r_la (pc' := 24) (L' := [(0, .ref 143), (1, .long Y1), (3, .int X3)]) H hq (z_at.mk 1 rfl rfl) (show zAr 155 1 60 = true from rfl) hx3 g_23 rfl rfl ?_
      intro V_23 hV_23
      refine r_p hq 4 (pc' := 29) (L' := [(4, .long (Y1 + V_23)), (0, .ref 143), (1, .long Y1), (3, .int X3)]) (st' := [.ref 143, .ref 143]) rfl ?_
      refine r_gI (pc' := 32) (L' := [(4, .long (Y1 + V_23)), (0, .ref 143), (1, .long Y1), (3, .int X3)]) H hq (z_at.mk 3 rfl rfl) rfl rfl rfl rfl ?_
      intro V_29 hV_29
      refine r_p hq 5 (pc' := 38) (L' := [(4, .long (Y1 + V_23)), (0, .ref 143), (1, .long Y1), (3, .int X3)]) (st' := [.int (lg_cmp (Y1 ^^^ (Y1 + V_23)) ((0 : Int64))), .int V_29, .ref 143]) rfl ?_
      rcases z_ite h with ⟨c_38, h⟩ | ⟨c_38, h⟩
      · refine r_t1 (pc' := 59) (L' := [(0, .ref 143), (3, .int X3), (4, .long (Y1 + V_23))]) hq (z_at.mk 3 rfl rfl) rfl (tx_lcmp (tx_lxor hy1 (tx_ladd hy1 hV_23)) (rfl : (0 : Int64).toInt = 0)) c_38 rfl rfl ?_
        exact g_m_sumOf_L59_ok ih hx3 (tx_ladd hy1 hV_23) hV_29 H h
      · refine r_f1 (pc' := 41) (L' := [(4, .long (Y1 + V_23)), (0, .ref 143), (1, .long Y1), (3, .int X3)]) hq (z_at.mk 3 rfl rfl) rfl (tx_lcmp (tx_lxor hy1 (tx_ladd hy1 hV_23)) (rfl : (0 : Int64).toInt = 0)) c_38 rfl rfl ?_
        refine r_p hq 1 (pc' := 42) (L' := [(4, .long (Y1 + V_23)), (0, .ref 143), (1, .long Y1), (3, .int X3)]) (st' := [.ref 143, .int V_29, .ref 143]) rfl ?_
        refine r_gR (b := 155) (pc' := 45) (L' := [(4, .long (Y1 + V_23)), (0, .ref 143), (1, .long Y1), (3, .int X3)]) H hq (z_at.mk 3 rfl rfl) rfl rfl rfl rfl ?_
        refine r_p hq 1 (pc' := 46) (L' := [(4, .long (Y1 + V_23)), (0, .ref 143), (1, .long Y1), (3, .int X3)]) (st' := [.int X3, .ref 155, .int V_29, .ref 143]) rfl ?_
        obtain ⟨g_46, h⟩ := z_ifo_some h
        refine r_la (pc' := 47) (L' := [(4, .long (Y1 + V_23)), (0, .ref 143), (1, .long Y1), (3, .int X3)]) H hq (z_at.mk 1 rfl rfl) (show zAr 155 1 60 = true from rfl) hx3 g_46 rfl rfl ?_
        intro V_46 hV_46
        refine r_p hq 4 (pc' := 52) (L' := [(4, .long (Y1 + V_23)), (0, .ref 143), (1, .long Y1), (3, .int X3)]) (st' := [.int (lg_cmp (V_46 ^^^ (Y1 + V_23)) ((0 : Int64))), .int V_29, .ref 143]) rfl ?_
        rcases z_ite h with ⟨c_52, h⟩ | ⟨c_52, h⟩
        · refine r_t1 (pc' := 59) (L' := [(0, .ref 143), (3, .int X3), (4, .long (Y1 + V_23))]) hq (z_at.mk 3 rfl rfl) rfl (tx_lcmp (tx_lxor hV_46 (tx_ladd hy1 hV_23)) (rfl : (0 : Int64).toInt = 0)) c_52 rfl rfl ?_
          exact g_m_sumOf_L59_ok ih hx3 (tx_ladd hy1 hV_23) hV_29 H h
        · refine r_f1 (pc' := 55) (L' := [(4, .long (Y1 + V_23)), (0, .ref 143), (1, .long Y1), (3, .int X3)]) hq (z_at.mk 3 rfl rfl) rfl (tx_lcmp (tx_lxor hV_46 (tx_ladd hy1 hV_23)) (rfl : (0 : Int64).toInt = 0)) c_52 rfl rfl ?_
          refine r_p hq 2 (pc' := 60) (L' := [(0, .ref 143), (3, .int X3), (4, .long (Y1 + V_23))]) (st' := [.int ((1 : Int32)), .int V_29, .ref 143]) rfl ?_
          exact g_m_sumOf_L60_ok ih hx3 (tx_ladd hy1 hV_23) (rfl : (1 : Int32).toInt = 1) hV_29 H h
def g_m_sumOf (σ : zS) : Option (Int × zS) :=
  let s_4 := zu σ 143 15 0
  g_m_sumOf_L9 zK 0 0 s_4
set_option maxHeartbeats 4000000 in
theorem g_m_sumOf_ok {xl : Nat} {xs : Nat → Int32} {σ : zS} {p : Nat} {m : zM} {o : Int × zS} (H : zRep xl xs p m σ) (h : g_m_sumOf σ = some o) : zGo xl xs (fun p' => p = p') 1 194 0 (z_can 194 0 (lv_args 0 [.ref 143])) [] m (vL o.1) o.2 := by
  have hq : z_mth 194 = some z_r194 := rfl
  unfold g_m_sumOf at h
  show zGo xl xs (fun p' => p = p') 1 194 0 [(0, .ref 143)] [] m (vL o.1) o.2
  refine r_p hq 4 (pc' := 4) (L' := [(1, .long ((0 : Int64))), (0, .ref 143)]) (st' := [.int ((0 : Int32)), .ref 143]) rfl ?_
  refine r_pI (X := (0 : Int32)) (pc' := 7) (L' := [(1, .long ((0 : Int64))), (0, .ref 143)]) H hq (z_at.mk 3 rfl rfl) rfl rfl (rfl : (0 : Int32).toInt = 0) (by decide) rfl rfl rfl rfl ?_
  intro m_4 H_4
  refine r_p hq 2 (pc' := 9) (L' := [(0, .ref 143), (1, .long ((0 : Int64))), (3, .int ((0 : Int32)))]) (st' := []) rfl ?_
  exact g_m_sumOf_L9_ok zK (rfl : (0 : Int64).toInt = 0) (rfl : (0 : Int32).toInt = 0) H_4 h
def g_m_meanOf (σ : zS) : Option (Int × zS) :=
  (g_m_sumOf σ).bind fun o_1 =>
  let v_7 := o_1.2 143 14
  if v_7 = 0 then none else
  let v_15 := o_1.2 143 14
  if v_15 = 0 then none else
  if 0 ≤ lCmp (Int.tmod o_1.1 v_15) 0 then
    some (w64 (Int.tdiv o_1.1 v_7), o_1.2)
  else
    some (w64 ((w64 (Int.tdiv o_1.1 v_7)) - 1), o_1.2)
set_option maxHeartbeats 4000000 in
theorem g_m_meanOf_ok {xl : Nat} {xs : Nat → Int32} {σ : zS} {p : Nat} {m : zM} {o : Int × zS} (H : zRep xl xs p m σ) (h : g_m_meanOf σ = some o) : zGo xl xs (fun p' => p = p') 2 195 0 (z_can 195 0 (lv_args 0 [.ref 143])) [] m (vL o.1) o.2 := by
  have hq : z_mth 195 = some z_r195 := rfl
  unfold g_m_meanOf at h
  show zGo xl xs (fun p' => p = p') 2 195 0 [(0, .ref 143)] [] m (vL o.1) o.2
  refine r_p hq 1 (pc' := 1) (L' := [(0, .ref 143)]) (st' := [.ref 143]) rfl ?_
  obtain ⟨o_1, h_1, h⟩ := Option.bind_eq_some_iff.mp h
  refine r_cvL (pc' := 4) (L' := [(0, .ref 143)]) (Ps := []) (rest := []) hq (z_at.mk 3 rfl rfl) (Or.inl ⟨rfl, rfl⟩) rfl rfl (by decide) (by decide) rfl (Nat.not_lt.mpr (Nat.le_of_ble_eq_true rfl)) rfl rfl (z_cat_le 0 rfl (by decide)) (z_lgl_le 1 rfl (by decide)) (by decide) (H.tg rfl) (by omega) (g_m_sumOf_ok H h_1) rfl rfl ?_
  intro R_1 m_1 p_1 e_1 hR_1 H_1
  subst e_1
  refine r_p hq 3 (pc' := 7) (L' := [(1, .long R_1), (0, .ref 143)]) (st' := [.ref 143, .long R_1]) rfl ?_
  refine r_gI (pc' := 10) (L' := [(1, .long R_1), (0, .ref 143)]) H_1 hq (z_at.mk 3 rfl rfl) rfl rfl rfl rfl ?_
  intro V_7 hV_7
  refine r_p hq 1 (pc' := 11) (L' := [(1, .long R_1), (0, .ref 143)]) (st' := [.long V_7.toInt64, .long R_1]) rfl ?_
  obtain ⟨g_11, h⟩ := z_ifno_some h
  refine r_ldiv (pc' := 12) (L' := [(1, .long R_1), (0, .ref 143)]) hq (z_at.mk 1 rfl rfl) hR_1 (tx_i2l hV_7) g_11 rfl rfl ?_
  intro V_11 hV_11
  refine r_p hq 3 (pc' := 15) (L' := [(3, .long V_11), (1, .long R_1), (0, .ref 143)]) (st' := [.ref 143, .long R_1]) rfl ?_
  refine r_gI (pc' := 18) (L' := [(3, .long V_11), (1, .long R_1), (0, .ref 143)]) H_1 hq (z_at.mk 3 rfl rfl) rfl rfl rfl rfl ?_
  intro V_15 hV_15
  refine r_p hq 1 (pc' := 19) (L' := [(3, .long V_11), (1, .long R_1), (0, .ref 143)]) (st' := [.long V_15.toInt64, .long R_1]) rfl ?_
  obtain ⟨g_19, h⟩ := z_ifno_some h
  refine r_lrem (pc' := 20) (L' := [(3, .long V_11), (1, .long R_1), (0, .ref 143)]) hq (z_at.mk 1 rfl rfl) hR_1 (tx_i2l hV_15) g_19 rfl rfl ?_
  intro V_19 hV_19
  refine r_p hq 2 (pc' := 22) (L' := [(3, .long V_11), (1, .long R_1), (0, .ref 143)]) (st' := [.int (lg_cmp V_19 ((0 : Int64)))]) rfl ?_
  rcases z_ite h with ⟨c_22, h⟩ | ⟨c_22, h⟩
  · refine r_t1 (pc' := 31) (L' := [(3, .long V_11), (1, .long R_1), (0, .ref 143)]) hq (z_at.mk 3 rfl rfl) rfl (tx_lcmp hV_19 (rfl : (0 : Int64).toInt = 0)) c_22 rfl rfl ?_
    refine r_p hq 1 (pc' := 32) (L' := []) (st' := [.long V_11]) rfl ?_
    cases h
    exact r_rl hq (z_at.mk 1 rfl rfl) rfl hV_11 rfl H_1
  · refine r_f1 (pc' := 25) (L' := [(3, .long V_11), (1, .long R_1), (0, .ref 143)]) hq (z_at.mk 3 rfl rfl) rfl (tx_lcmp hV_19 (rfl : (0 : Int64).toInt = 0)) c_22 rfl rfl ?_
    refine r_p hq 4 (pc' := 32) (L' := []) (st' := [.long (V_11 - ((1 : Int64)))]) rfl ?_
    cases h
    exact r_rl hq (z_at.mk 1 rfl rfl) rfl (tx_lsub hV_11 (rfl : (1 : Int64).toInt = 1)) rfl H_1
def g_m_spanOf_L28 (y5 : Int) (xs0 : Int) (σ : zS) : Option (Int × zS) :=
  if xs0 = 0 ∨ xs0 = 1 then
  let s_28 := zu σ 143 15 xs0
  some (y5, s_28)
  else none
set_option maxHeartbeats 4000000 in
theorem g_m_spanOf_L28_ok {xl : Nat} {xs : Nat → Int32} {Y5 : Int64} {y5 : Int} (hy5 : Y5.toInt = y5) {Xs0 : Int32} {xs0 : Int} (hxs0 : Xs0.toInt = xs0) {σ : zS} {p : Nat} {m : zM} {o : Int × zS} (H : zRep xl xs p m σ) (h : g_m_spanOf_L28 y5 xs0 σ = some o) : zGo xl xs (fun p' => p = p') 2 196 28 [(5, .long Y5)] [.int Xs0, .ref 143] m (vL o.1) o.2 := by
  have hq : z_mth 196 = some z_r196 := rfl
  unfold g_m_spanOf_L28 at h
  obtain ⟨g_28, h⟩ := z_ifo_some h
  refine r_pI (X := Xs0) (pc' := 31) (L' := [(5, .long Y5)]) H hq (z_at.mk 3 rfl rfl) rfl rfl hxs0 (by decide) (z_fit_bz hxs0 g_28) rfl rfl rfl ?_
  intro m_28 H_28
  refine r_p hq 1 (pc' := 33) (L' := [(5, .long Y5)]) (st' := [.long Y5]) rfl ?_
  cases h
  exact r_rl hq (z_at.mk 1 rfl rfl) rfl hy5 rfl H_28
def g_m_spanOf (σ : zS) : Option (Int × zS) :=
  (g_m_mostOf σ).bind fun o_1 =>
  (g_m_leastOf o_1.2).bind fun o_6 =>
  if 0 ≤ lCmp (w64 (o_1.1 - o_6.1)) 0 then
    g_m_spanOf_L28 (w64 (o_1.1 - o_6.1)) 0 o_6.2
  else
    g_m_spanOf_L28 (w64 (o_1.1 - o_6.1)) 1 o_6.2
set_option maxHeartbeats 4000000 in
theorem g_m_spanOf_ok {xl : Nat} {xs : Nat → Int32} {σ : zS} {p : Nat} {m : zM} {o : Int × zS} (H : zRep xl xs p m σ) (h : g_m_spanOf σ = some o) : zGo xl xs (fun p' => p = p') 2 196 0 (z_can 196 0 (lv_args 0 [.ref 143])) [] m (vL o.1) o.2 := by
  have hq : z_mth 196 = some z_r196 := rfl
  unfold g_m_spanOf at h
  show zGo xl xs (fun p' => p = p') 2 196 0 [(0, .ref 143)] [] m (vL o.1) o.2
  refine r_p hq 1 (pc' := 1) (L' := [(0, .ref 143)]) (st' := [.ref 143]) rfl ?_
  obtain ⟨o_1, h_1, h⟩ := Option.bind_eq_some_iff.mp h
  refine r_cvL (pc' := 4) (L' := [(0, .ref 143)]) (Ps := []) (rest := []) hq (z_at.mk 3 rfl rfl) (Or.inl ⟨rfl, rfl⟩) rfl rfl (by decide) (by decide) rfl (Nat.not_lt.mpr (Nat.le_of_ble_eq_true rfl)) rfl rfl (z_cat_le 0 rfl (by decide)) (z_lgl_le 1 rfl (by decide)) (by decide) (H.tg rfl) (by omega) (g_m_mostOf_ok H h_1) rfl rfl ?_
  intro R_1 m_1 p_1 e_1 hR_1 H_1
  subst e_1
  refine r_p hq 2 (pc' := 6) (L' := [(1, .long R_1), (0, .ref 143)]) (st' := [.ref 143]) rfl ?_
  obtain ⟨o_6, h_6, h⟩ := Option.bind_eq_some_iff.mp h
  refine r_cvL (pc' := 9) (L' := [(1, .long R_1), (0, .ref 143)]) (Ps := []) (rest := []) hq (z_at.mk 3 rfl rfl) (Or.inl ⟨rfl, rfl⟩) rfl rfl (by decide) (by decide) rfl (Nat.not_lt.mpr (Nat.le_of_ble_eq_true rfl)) rfl rfl (z_cat_le 0 rfl (by decide)) (z_lgl_le 1 rfl (by decide)) (by decide) (H_1.tg rfl) (by omega) (g_m_leastOf_ok H_1 h_6) rfl rfl ?_
  intro R_6 m_6 p_6 e_6 hR_6 H_6
  subst e_6
  refine r_p hq 9 (pc' := 20) (L' := [(5, .long (R_1 - R_6)), (3, .long R_6), (1, .long R_1), (0, .ref 143)]) (st' := [.int (lg_cmp (R_1 - R_6) ((0 : Int64))), .ref 143]) rfl ?_
  rcases z_ite h with ⟨c_20, h⟩ | ⟨c_20, h⟩
  · refine r_t1 (pc' := 27) (L' := [(5, .long (R_1 - R_6)), (3, .long R_6), (1, .long R_1), (0, .ref 143)]) hq (z_at.mk 3 rfl rfl) rfl (tx_lcmp (tx_lsub hR_1 hR_6) (rfl : (0 : Int64).toInt = 0)) c_20 rfl rfl ?_
    refine r_p hq 1 (pc' := 28) (L' := [(5, .long (R_1 - R_6))]) (st' := [.int ((0 : Int32)), .ref 143]) rfl ?_
    exact g_m_spanOf_L28_ok (tx_lsub hR_1 hR_6) (rfl : (0 : Int32).toInt = 0) H_6 h
  · refine r_f1 (pc' := 23) (L' := [(5, .long (R_1 - R_6)), (3, .long R_6), (1, .long R_1), (0, .ref 143)]) hq (z_at.mk 3 rfl rfl) rfl (tx_lcmp (tx_lsub hR_1 hR_6) (rfl : (0 : Int64).toInt = 0)) c_20 rfl rfl ?_
    refine r_p hq 2 (pc' := 28) (L' := [(5, .long (R_1 - R_6))]) (st' := [.int ((1 : Int32)), .ref 143]) rfl ?_
    exact g_m_spanOf_L28_ok (tx_lsub hR_1 hR_6) (rfl : (1 : Int32).toInt = 1) H_6 h
def g_m_kindsOf_L64 (g4 : Int → Int → zS → Option (Int × zS)) (x2 : Int) (xs0 : Int) (xs1 : Int) (σ : zS) : Option (Int × zS) :=
  g4 (w32 (xs1 + xs0)) (w32 (x2 + 1)) σ
set_option maxHeartbeats 4000000 in
theorem g_m_kindsOf_L64_ok {xl : Nat} {xs : Nat → Int32} {g4 : Int → Int → zS → Option (Int × zS)} (hg4 : ∀ {X1 : Int32} {x1 : Int} {X2 : Int32} {x2 : Int} {σ : zS} {p : Nat} {m : zM} {o : Int × zS}, X1.toInt = x1 → X2.toInt = x2 → zRep xl xs p m σ → g4 x1 x2 σ = some o → zGo xl xs (fun p' => p = p') 1 197 4 [(0, .ref 143), (1, .int X1), (2, .int X2)] [] m (vI o.1) o.2) {X2 : Int32} {x2 : Int} (hx2 : X2.toInt = x2) {Xs0 : Int32} {xs0 : Int} (hxs0 : Xs0.toInt = xs0) {Xs1 : Int32} {xs1 : Int} (hxs1 : Xs1.toInt = xs1) {σ : zS} {p : Nat} {m : zM} {o : Int × zS} (H : zRep xl xs p m σ) (h : g_m_kindsOf_L64 g4 x2 xs0 xs1 σ = some o) : zGo xl xs (fun p' => p = p') 1 197 64 [(0, .ref 143), (2, .int X2)] [.int Xs0, .int Xs1] m (vI o.1) o.2 := by
  have hq : z_mth 197 = some z_r197 := rfl
  unfold g_m_kindsOf_L64 at h
  refine r_p hq 4 (pc' := 4) (L' := [(0, .ref 143), (1, .int (Xs1 + Xs0)), (2, .int (X2 + (1 : Int32)))]) (st' := []) rfl ?_
  exact hg4 (tx_iadd hxs1 hxs0) (tx_iadd hx2 (rfl : (1 : Int32).toInt = 1)) H h
def g_m_kindsOf_L46 (g17 : Int → Int → Int → Int → zS → Option (Int × zS)) (x1 : Int) (x2 : Int) (x4 : Int) (xs0 : Int) (xs1 : Int) (σ : zS) : Option (Int × zS) :=
  g17 x1 x2 (iAnd xs1 xs0) (w32 (x4 + 1)) σ
set_option maxHeartbeats 4000000 in
theorem g_m_kindsOf_L46_ok {xl : Nat} {xs : Nat → Int32} {g17 : Int → Int → Int → Int → zS → Option (Int × zS)} (hg17 : ∀ {X1 : Int32} {x1 : Int} {X2 : Int32} {x2 : Int} {X3 : Int32} {x3 : Int} {X4 : Int32} {x4 : Int} {σ : zS} {p : Nat} {m : zM} {o : Int × zS}, X1.toInt = x1 → X2.toInt = x2 → X3.toInt = x3 → X4.toInt = x4 → zRep xl xs p m σ → g17 x1 x2 x3 x4 σ = some o → zGo xl xs (fun p' => p = p') 1 197 17 [(0, .ref 143), (1, .int X1), (2, .int X2), (3, .int X3), (4, .int X4)] [] m (vI o.1) o.2) {X1 : Int32} {x1 : Int} (hx1 : X1.toInt = x1) {X2 : Int32} {x2 : Int} (hx2 : X2.toInt = x2) {X4 : Int32} {x4 : Int} (hx4 : X4.toInt = x4) {Xs0 : Int32} {xs0 : Int} (hxs0 : Xs0.toInt = xs0) {Xs1 : Int32} {xs1 : Int} (hxs1 : Xs1.toInt = xs1) {σ : zS} {p : Nat} {m : zM} {o : Int × zS} (H : zRep xl xs p m σ) (h : g_m_kindsOf_L46 g17 x1 x2 x4 xs0 xs1 σ = some o) : zGo xl xs (fun p' => p = p') 1 197 46 [(0, .ref 143), (1, .int X1), (2, .int X2), (4, .int X4)] [.int Xs0, .int Xs1] m (vI o.1) o.2 := by
  have hq : z_mth 197 = some z_r197 := rfl
  unfold g_m_kindsOf_L46 at h
  refine r_p hq 4 (pc' := 17) (L' := [(0, .ref 143), (1, .int X1), (2, .int X2), (3, .int (Xs1 &&& Xs0)), (4, .int (X4 + (1 : Int32)))]) (st' := []) rfl ?_
  exact hg17 hx1 hx2 (tx_iand hxs1 hxs0) (tx_iadd hx4 (rfl : (1 : Int32).toInt = 1)) H h
def g_m_kindsOf_L17 (g4 : Int → Int → zS → Option (Int × zS)) : Nat → Int → Int → Int → Int → zS → Option (Int × zS)
  | 0, _, _, _, _, _ => none
  | n + 1, x1, x2, x3, x4, σ =>
    if x2 ≤ x4 then
      if x3 = 0 then
        g_m_kindsOf_L64 g4 x2 0 x1 σ
      else
        g_m_kindsOf_L64 g4 x2 1 x1 σ
    else
      if 0 ≤ x4 ∧ x4 < 60 then
      let v_30 := σ 155 x4
      if 0 ≤ x2 ∧ x2 < 60 then
      let v_36 := σ 155 x2
      if lCmp v_30 v_36 = 0 then
        g_m_kindsOf_L46 ((g_m_kindsOf_L17 g4 n)) x1 x2 x4 0 x3 σ
      else
        g_m_kindsOf_L46 ((g_m_kindsOf_L17 g4 n)) x1 x2 x4 1 x3 σ
      else none
      else none
set_option maxHeartbeats 4000000 in
theorem g_m_kindsOf_L17_ok {xl : Nat} {xs : Nat → Int32} {g4 : Int → Int → zS → Option (Int × zS)} (hg4 : ∀ {X1 : Int32} {x1 : Int} {X2 : Int32} {x2 : Int} {σ : zS} {p : Nat} {m : zM} {o : Int × zS}, X1.toInt = x1 → X2.toInt = x2 → zRep xl xs p m σ → g4 x1 x2 σ = some o → zGo xl xs (fun p' => p = p') 1 197 4 [(0, .ref 143), (1, .int X1), (2, .int X2)] [] m (vI o.1) o.2) : ∀ (n : Nat) {X1 : Int32} {x1 : Int} {X2 : Int32} {x2 : Int} {X3 : Int32} {x3 : Int} {X4 : Int32} {x4 : Int} {σ : zS} {p : Nat} {m : zM} {o : Int × zS}, X1.toInt = x1 → X2.toInt = x2 → X3.toInt = x3 → X4.toInt = x4 → zRep xl xs p m σ → g_m_kindsOf_L17 g4 n x1 x2 x3 x4 σ = some o → zGo xl xs (fun p' => p = p') 1 197 17 [(0, .ref 143), (1, .int X1), (2, .int X2), (3, .int X3), (4, .int X4)] [] m (vI o.1) o.2
  | 0, _, _, _, _, _, _, _, _, _, _, _, _, _, _, _, _, _, h => by cases h
  | n + 1, X1, x1, X2, x2, X3, x3, X4, x4, σ, p, m, o, hx1, hx2, hx3, hx4, H, h => by
    have hq : z_mth 197 = some z_r197 := rfl
    have ih := fun {X1 : Int32} {x1 : Int} {X2 : Int32} {x2 : Int} {X3 : Int32} {x3 : Int} {X4 : Int32} {x4 : Int} {σ : zS} {p : Nat} {m : zM} {o : Int × zS} => g_m_kindsOf_L17_ok (xl := xl) (xs := xs) hg4 n (X1 := X1) (x1 := x1) (X2 := X2) (x2 := x2) (X3 := X3) (x3 := x3) (X4 := X4) (x4 := x4) (σ := σ) (p := p) (m := m) (o := o)
    unfold g_m_kindsOf_L17 at h
    refine r_p hq 2 (pc' := 20) (L' := [(0, .ref 143), (1, .int X1), (2, .int X2), (3, .int X3), (4, .int X4)]) (st' := [.int X2, .int X4]) rfl ?_
    rcases z_ite h with ⟨c_20, h⟩ | ⟨c_20, h⟩
    · refine r_t2 (pc' := 54) (L' := [(0, .ref 143), (1, .int X1), (2, .int X2), (3, .int X3), (4, .int X4)]) hq (z_at.mk 3 rfl rfl) rfl hx4 hx2 c_20 rfl rfl ?_
      refine r_p hq 2 (pc' := 56) (L' := [(0, .ref 143), (1, .int X1), (2, .int X2), (3, .int X3), (4, .int X4)]) (st' := [.int X3, .int X1]) rfl ?_
      rcases z_ite h with ⟨c_56, h⟩ | ⟨c_56, h⟩
      · refine r_t1 (pc' := 63) (L' := [(0, .ref 143), (1, .int X1), (2, .int X2), (3, .int X3), (4, .int X4)]) hq (z_at.mk 3 rfl rfl) rfl hx3 c_56 rfl rfl ?_
        refine r_p hq 1 (pc' := 64) (L' := [(0, .ref 143), (2, .int X2)]) (st' := [.int ((0 : Int32)), .int X1]) rfl ?_
        exact g_m_kindsOf_L64_ok hg4 hx2 (rfl : (0 : Int32).toInt = 0) hx1 H h
      · refine r_f1 (pc' := 59) (L' := [(0, .ref 143), (1, .int X1), (2, .int X2), (3, .int X3), (4, .int X4)]) hq (z_at.mk 3 rfl rfl) rfl hx3 c_56 rfl rfl ?_
        refine r_p hq 2 (pc' := 64) (L' := [(0, .ref 143), (2, .int X2)]) (st' := [.int ((1 : Int32)), .int X1]) rfl ?_
        exact g_m_kindsOf_L64_ok hg4 hx2 (rfl : (1 : Int32).toInt = 1) hx1 H h
    · refine r_f2 (pc' := 23) (L' := [(0, .ref 143), (1, .int X1), (2, .int X2), (3, .int X3), (4, .int X4)]) hq (z_at.mk 3 rfl rfl) rfl hx4 hx2 c_20 rfl rfl ?_
      refine r_p hq 2 (pc' := 25) (L' := [(0, .ref 143), (1, .int X1), (2, .int X2), (3, .int X3), (4, .int X4)]) (st' := [.ref 143, .int X3]) rfl ?_
      refine r_gR (b := 155) (pc' := 28) (L' := [(0, .ref 143), (1, .int X1), (2, .int X2), (3, .int X3), (4, .int X4)]) H hq (z_at.mk 3 rfl rfl) rfl rfl rfl rfl ?_
      refine r_p hq 1 (pc' := 30) (L' := [(0, .ref 143), (1, .int X1), (2, .int X2), (3, .int X3), (4, .int X4)]) (st' := [.int X4, .ref 155, .int X3]) rfl ?_
      obtain ⟨g_30, h⟩ := z_ifo_some h
      refine r_la (pc' := 31) (L' := [(0, .ref 143), (1, .int X1), (2, .int X2), (3, .int X3), (4, .int X4)]) H hq (z_at.mk 1 rfl rfl) (show zAr 155 1 60 = true from rfl) hx4 g_30 rfl rfl ?_
      intro V_30 hV_30
      refine r_p hq 1 (pc' := 32) (L' := [(0, .ref 143), (1, .int X1), (2, .int X2), (3, .int X3), (4, .int X4)]) (st' := [.ref 143, .long V_30, .int X3]) rfl ?_
      refine r_gR (b := 155) (pc' := 35) (L' := [(0, .ref 143), (1, .int X1), (2, .int X2), (3, .int X3), (4, .int X4)]) H hq (z_at.mk 3 rfl rfl) rfl rfl rfl rfl ?_
      refine r_p hq 1 (pc' := 36) (L' := [(0, .ref 143), (1, .int X1), (2, .int X2), (3, .int X3), (4, .int X4)]) (st' := [.int X2, .ref 155, .long V_30, .int X3]) rfl ?_
      obtain ⟨g_36, h⟩ := z_ifo_some h
      refine r_la (pc' := 37) (L' := [(0, .ref 143), (1, .int X1), (2, .int X2), (3, .int X3), (4, .int X4)]) H hq (z_at.mk 1 rfl rfl) (show zAr 155 1 60 = true from rfl) hx2 g_36 rfl rfl ?_
      intro V_36 hV_36
      refine r_p hq 1 (pc' := 38) (L' := [(0, .ref 143), (1, .int X1), (2, .int X2), (3, .int X3), (4, .int X4)]) (st' := [.int (lg_cmp V_30 V_36), .int X3]) rfl ?_
      rcases z_ite h with ⟨c_38, h⟩ | ⟨c_38, h⟩
      · refine r_t1 (pc' := 45) (L' := [(0, .ref 143), (1, .int X1), (2, .int X2), (3, .int X3), (4, .int X4)]) hq (z_at.mk 3 rfl rfl) rfl (tx_lcmp hV_30 hV_36) c_38 rfl rfl ?_
        refine r_p hq 1 (pc' := 46) (L' := [(0, .ref 143), (1, .int X1), (2, .int X2), (4, .int X4)]) (st' := [.int ((0 : Int32)), .int X3]) rfl ?_
        exact g_m_kindsOf_L46_ok ih hx1 hx2 hx4 (rfl : (0 : Int32).toInt = 0) hx3 H h
      · refine r_f1 (pc' := 41) (L' := [(0, .ref 143), (1, .int X1), (2, .int X2), (3, .int X3), (4, .int X4)]) hq (z_at.mk 3 rfl rfl) rfl (tx_lcmp hV_30 hV_36) c_38 rfl rfl ?_
        refine r_p hq 2 (pc' := 46) (L' := [(0, .ref 143), (1, .int X1), (2, .int X2), (4, .int X4)]) (st' := [.int ((1 : Int32)), .int X3]) rfl ?_
        exact g_m_kindsOf_L46_ok ih hx1 hx2 hx4 (rfl : (1 : Int32).toInt = 1) hx3 H h
def g_m_kindsOf_L4 : Nat → Int → Int → zS → Option (Int × zS)
  | 0, _, _, _ => none
  | n + 1, x1, x2, σ =>
    let v_6 := σ 143 14
    if v_6 ≤ x2 then
      some (x1, σ)
    else
      g_m_kindsOf_L17 ((g_m_kindsOf_L4 n)) zK x1 x2 1 0 σ
set_option maxHeartbeats 4000000 in
theorem g_m_kindsOf_L4_ok {xl : Nat} {xs : Nat → Int32} : ∀ (n : Nat) {X1 : Int32} {x1 : Int} {X2 : Int32} {x2 : Int} {σ : zS} {p : Nat} {m : zM} {o : Int × zS}, X1.toInt = x1 → X2.toInt = x2 → zRep xl xs p m σ → g_m_kindsOf_L4 n x1 x2 σ = some o → zGo xl xs (fun p' => p = p') 1 197 4 [(0, .ref 143), (1, .int X1), (2, .int X2)] [] m (vI o.1) o.2
  | 0, _, _, _, _, _, _, _, _, _, _, _, h => by cases h
  | n + 1, X1, x1, X2, x2, σ, p, m, o, hx1, hx2, H, h => by
    have hq : z_mth 197 = some z_r197 := rfl
    have ih := fun {X1 : Int32} {x1 : Int} {X2 : Int32} {x2 : Int} {σ : zS} {p : Nat} {m : zM} {o : Int × zS} => g_m_kindsOf_L4_ok (xl := xl) (xs := xs) n (X1 := X1) (x1 := x1) (X2 := X2) (x2 := x2) (σ := σ) (p := p) (m := m) (o := o)
    unfold g_m_kindsOf_L4 at h
    refine r_p hq 2 (pc' := 6) (L' := [(0, .ref 143), (1, .int X1), (2, .int X2)]) (st' := [.ref 143, .int X2]) rfl ?_
    refine r_gI (pc' := 9) (L' := [(0, .ref 143), (1, .int X1), (2, .int X2)]) H hq (z_at.mk 3 rfl rfl) rfl rfl rfl rfl ?_
    intro V_6 hV_6
    rcases z_ite h with ⟨c_9, h⟩ | ⟨c_9, h⟩
    · refine r_t2 (pc' := 72) (L' := [(0, .ref 143), (1, .int X1), (2, .int X2)]) hq (z_at.mk 3 rfl rfl) rfl hx2 hV_6 c_9 rfl rfl ?_
      refine r_p hq 1 (pc' := 73) (L' := [(0, .ref 143), (1, .int X1), (2, .int X2)]) (st' := [.int X1]) rfl ?_
      cases h
      exact r_ri hq (z_at.mk 1 rfl rfl) rfl rfl hx1 rfl H
    · refine r_f2 (pc' := 12) (L' := [(0, .ref 143), (1, .int X1), (2, .int X2)]) hq (z_at.mk 3 rfl rfl) rfl hx2 hV_6 c_9 rfl rfl ?_
      refine r_p hq 4 (pc' := 17) (L' := [(0, .ref 143), (1, .int X1), (2, .int X2), (3, .int ((1 : Int32))), (4, .int ((0 : Int32)))]) (st' := []) rfl ?_
      exact g_m_kindsOf_L17_ok ih zK hx1 hx2 (rfl : (1 : Int32).toInt = 1) (rfl : (0 : Int32).toInt = 0) H h
def g_m_kindsOf (σ : zS) : Option (Int × zS) :=
  g_m_kindsOf_L4 zK 0 0 σ
set_option maxHeartbeats 4000000 in
theorem g_m_kindsOf_ok {xl : Nat} {xs : Nat → Int32} {σ : zS} {p : Nat} {m : zM} {o : Int × zS} (H : zRep xl xs p m σ) (h : g_m_kindsOf σ = some o) : zGo xl xs (fun p' => p = p') 1 197 0 (z_can 197 0 (lv_args 0 [.ref 143])) [] m (vI o.1) o.2 := by
  have hq : z_mth 197 = some z_r197 := rfl
  unfold g_m_kindsOf at h
  show zGo xl xs (fun p' => p = p') 1 197 0 [(0, .ref 143)] [] m (vI o.1) o.2
  refine r_p hq 4 (pc' := 4) (L' := [(0, .ref 143), (1, .int ((0 : Int32))), (2, .int ((0 : Int32)))]) (st' := []) rfl ?_
  exact g_m_kindsOf_L4_ok zK (rfl : (0 : Int32).toInt = 0) (rfl : (0 : Int32).toInt = 0) H h
def g_m_measured_L102 (ys0 : Int) (σ : zS) : Option (Int × zS) :=
  let v_104 := σ 143 15
  if v_104 = 0 then
    some (ys0, σ)
  else
    some (-9223372036854775807, σ)
set_option maxHeartbeats 4000000 in
theorem g_m_measured_L102_ok {xl : Nat} {xs : Nat → Int32} {Ys0 : Int64} {ys0 : Int} (hys0 : Ys0.toInt = ys0) {σ : zS} {p : Nat} {m : zM} {o : Int × zS} (H : zRep xl xs p m σ) (h : g_m_measured_L102 ys0 σ = some o) : zGo xl xs (fun p' => p = p') 3 198 102 [(0, .ref 143)] [.long Ys0] m (vL o.1) o.2 := by
  have hq : z_mth 198 = some z_r198 := rfl
  unfold g_m_measured_L102 at h
  refine r_p hq 2 (pc' := 104) (L' := [(2, .long Ys0), (0, .ref 143)]) (st' := [.ref 143]) rfl ?_
  refine r_gI (pc' := 107) (L' := [(2, .long Ys0), (0, .ref 143)]) H hq (z_at.mk 3 rfl rfl) rfl rfl rfl rfl ?_
  intro V_104 hV_104
  rcases z_ite h with ⟨c_107, h⟩ | ⟨c_107, h⟩
  · refine r_t1 (pc' := 116) (L' := [(2, .long Ys0), (0, .ref 143)]) hq (z_at.mk 3 rfl rfl) rfl hV_104 c_107 rfl rfl ?_
    refine r_p hq 1 (pc' := 117) (L' := []) (st' := [.long Ys0]) rfl ?_
    cases h
    exact r_rl hq (z_at.mk 1 rfl rfl) rfl hys0 rfl H
  · refine r_f1 (pc' := 110) (L' := [(2, .long Ys0), (0, .ref 143)]) hq (z_at.mk 3 rfl rfl) rfl hV_104 c_107 rfl rfl ?_
    refine r_p hq 2 (pc' := 117) (L' := []) (st' := [.long ((-9223372036854775807 : Int64))]) rfl ?_
    cases h
    exact r_rl hq (z_at.mk 1 rfl rfl) rfl (rfl : (-9223372036854775807 : Int64).toInt = -9223372036854775807) rfl H
def g_m_measured_L25 (x1 : Int) (σ : zS) : Option (Int × zS) :=
  if x1 ≠ 0 then
    if x1 ≠ 1 then
      if x1 ≠ 2 then
        if x1 ≠ 3 then
          if x1 ≠ 4 then
            if x1 ≠ 5 then
              (g_m_kindsOf σ).bind fun o_98 =>
              g_m_measured_L102 o_98.1 o_98.2
            else
              (g_m_spanOf σ).bind fun o_91 =>
              g_m_measured_L102 o_91.1 o_91.2
          else
            (g_m_meanOf σ).bind fun o_79 =>
            g_m_measured_L102 o_79.1 o_79.2
        else
          (g_m_mostOf σ).bind fun o_67 =>
          g_m_measured_L102 o_67.1 o_67.2
      else
        (g_m_leastOf σ).bind fun o_55 =>
        g_m_measured_L102 o_55.1 o_55.2
    else
      (g_m_sumOf σ).bind fun o_43 =>
      g_m_measured_L102 o_43.1 o_43.2
  else
    let v_30 := σ 143 14
    g_m_measured_L102 v_30 σ
set_option maxHeartbeats 4000000 in
theorem g_m_measured_L25_ok {xl : Nat} {xs : Nat → Int32} {X1 : Int32} {x1 : Int} (hx1 : X1.toInt = x1) {σ : zS} {p : Nat} {m : zM} {o : Int × zS} (H : zRep xl xs p m σ) (h : g_m_measured_L25 x1 σ = some o) : zGo xl xs (fun p' => p = p') 3 198 25 [(0, .ref 143), (1, .int X1)] [] m (vL o.1) o.2 := by
  have hq : z_mth 198 = some z_r198 := rfl
  unfold g_m_measured_L25 at h
  refine r_p hq 1 (pc' := 26) (L' := [(0, .ref 143), (1, .int X1)]) (st' := [.int X1]) rfl ?_
  rcases z_ite h with ⟨c_26, h⟩ | ⟨c_26, h⟩
  · refine r_t1 (pc' := 37) (L' := [(0, .ref 143), (1, .int X1)]) hq (z_at.mk 3 rfl rfl) rfl hx1 c_26 rfl rfl ?_
    refine r_p hq 2 (pc' := 39) (L' := [(0, .ref 143), (1, .int X1)]) (st' := [.int ((1 : Int32)), .int X1]) rfl ?_
    rcases z_ite h with ⟨c_39, h⟩ | ⟨c_39, h⟩
    · refine r_t2 (pc' := 49) (L' := [(0, .ref 143), (1, .int X1)]) hq (z_at.mk 3 rfl rfl) rfl hx1 (rfl : (1 : Int32).toInt = 1) c_39 rfl rfl ?_
      refine r_p hq 2 (pc' := 51) (L' := [(0, .ref 143), (1, .int X1)]) (st' := [.int ((2 : Int32)), .int X1]) rfl ?_
      rcases z_ite h with ⟨c_51, h⟩ | ⟨c_51, h⟩
      · refine r_t2 (pc' := 61) (L' := [(0, .ref 143), (1, .int X1)]) hq (z_at.mk 3 rfl rfl) rfl hx1 (rfl : (2 : Int32).toInt = 2) c_51 rfl rfl ?_
        refine r_p hq 2 (pc' := 63) (L' := [(0, .ref 143), (1, .int X1)]) (st' := [.int ((3 : Int32)), .int X1]) rfl ?_
        rcases z_ite h with ⟨c_63, h⟩ | ⟨c_63, h⟩
        · refine r_t2 (pc' := 73) (L' := [(0, .ref 143), (1, .int X1)]) hq (z_at.mk 3 rfl rfl) rfl hx1 (rfl : (3 : Int32).toInt = 3) c_63 rfl rfl ?_
          refine r_p hq 2 (pc' := 75) (L' := [(0, .ref 143), (1, .int X1)]) (st' := [.int ((4 : Int32)), .int X1]) rfl ?_
          rcases z_ite h with ⟨c_75, h⟩ | ⟨c_75, h⟩
          · refine r_t2 (pc' := 85) (L' := [(0, .ref 143), (1, .int X1)]) hq (z_at.mk 3 rfl rfl) rfl hx1 (rfl : (4 : Int32).toInt = 4) c_75 rfl rfl ?_
            refine r_p hq 2 (pc' := 87) (L' := [(0, .ref 143), (1, .int X1)]) (st' := [.int ((5 : Int32)), .int X1]) rfl ?_
            rcases z_ite h with ⟨c_87, h⟩ | ⟨c_87, h⟩
            · refine r_t2 (pc' := 97) (L' := [(0, .ref 143), (1, .int X1)]) hq (z_at.mk 3 rfl rfl) rfl hx1 (rfl : (5 : Int32).toInt = 5) c_87 rfl rfl ?_
              refine r_p hq 1 (pc' := 98) (L' := [(0, .ref 143), (1, .int X1)]) (st' := [.ref 143]) rfl ?_
              obtain ⟨o_98, h_98, h⟩ := Option.bind_eq_some_iff.mp h
              refine r_cvI (pc' := 101) (L' := [(0, .ref 143), (1, .int X1)]) (Ps := []) (rest := []) hq (z_at.mk 3 rfl rfl) (Or.inl ⟨rfl, rfl⟩) rfl rfl (by decide) (by decide) rfl (Nat.not_lt.mpr (Nat.le_of_ble_eq_true rfl)) rfl rfl (z_cat_le 0 rfl (by decide)) (z_lgl_le 1 rfl (by decide)) (by decide) (H.tg rfl) (by omega) (g_m_kindsOf_ok H h_98) rfl rfl ?_
              intro R_98 m_98 p_98 e_98 hR_98 H_98
              subst e_98
              refine r_p hq 1 (pc' := 102) (L' := [(0, .ref 143)]) (st' := [.long R_98.toInt64]) rfl ?_
              exact g_m_measured_L102_ok (tx_i2l hR_98) H_98 h
            · refine r_f2 (pc' := 90) (L' := [(0, .ref 143), (1, .int X1)]) hq (z_at.mk 3 rfl rfl) rfl hx1 (rfl : (5 : Int32).toInt = 5) c_87 rfl rfl ?_
              refine r_p hq 1 (pc' := 91) (L' := [(0, .ref 143), (1, .int X1)]) (st' := [.ref 143]) rfl ?_
              obtain ⟨o_91, h_91, h⟩ := Option.bind_eq_some_iff.mp h
              refine r_cvL (pc' := 94) (L' := [(0, .ref 143), (1, .int X1)]) (Ps := []) (rest := []) hq (z_at.mk 3 rfl rfl) (Or.inl ⟨rfl, rfl⟩) rfl rfl (by decide) (by decide) rfl (Nat.not_lt.mpr (Nat.le_of_ble_eq_true rfl)) rfl rfl (z_cat_le 0 rfl (by decide)) (z_lgl_le 1 rfl (by decide)) (by decide) (H.tg rfl) (by omega) (g_m_spanOf_ok H h_91) rfl rfl ?_
              intro R_91 m_91 p_91 e_91 hR_91 H_91
              subst e_91
              refine r_p hq 1 (pc' := 102) (L' := [(0, .ref 143)]) (st' := [.long R_91]) rfl ?_
              exact g_m_measured_L102_ok hR_91 H_91 h
          · refine r_f2 (pc' := 78) (L' := [(0, .ref 143), (1, .int X1)]) hq (z_at.mk 3 rfl rfl) rfl hx1 (rfl : (4 : Int32).toInt = 4) c_75 rfl rfl ?_
            refine r_p hq 1 (pc' := 79) (L' := [(0, .ref 143), (1, .int X1)]) (st' := [.ref 143]) rfl ?_
            obtain ⟨o_79, h_79, h⟩ := Option.bind_eq_some_iff.mp h
            refine r_cvL (pc' := 82) (L' := [(0, .ref 143), (1, .int X1)]) (Ps := []) (rest := []) hq (z_at.mk 3 rfl rfl) (Or.inl ⟨rfl, rfl⟩) rfl rfl (by decide) (by decide) rfl (Nat.not_lt.mpr (Nat.le_of_ble_eq_true rfl)) rfl rfl (z_cat_le 0 rfl (by decide)) (z_lgl_le 1 rfl (by decide)) (by decide) (H.tg rfl) (by omega) (g_m_meanOf_ok H h_79) rfl rfl ?_
            intro R_79 m_79 p_79 e_79 hR_79 H_79
            subst e_79
            refine r_p hq 1 (pc' := 102) (L' := [(0, .ref 143)]) (st' := [.long R_79]) rfl ?_
            exact g_m_measured_L102_ok hR_79 H_79 h
        · refine r_f2 (pc' := 66) (L' := [(0, .ref 143), (1, .int X1)]) hq (z_at.mk 3 rfl rfl) rfl hx1 (rfl : (3 : Int32).toInt = 3) c_63 rfl rfl ?_
          refine r_p hq 1 (pc' := 67) (L' := [(0, .ref 143), (1, .int X1)]) (st' := [.ref 143]) rfl ?_
          obtain ⟨o_67, h_67, h⟩ := Option.bind_eq_some_iff.mp h
          refine r_cvL (pc' := 70) (L' := [(0, .ref 143), (1, .int X1)]) (Ps := []) (rest := []) hq (z_at.mk 3 rfl rfl) (Or.inl ⟨rfl, rfl⟩) rfl rfl (by decide) (by decide) rfl (Nat.not_lt.mpr (Nat.le_of_ble_eq_true rfl)) rfl rfl (z_cat_le 0 rfl (by decide)) (z_lgl_le 1 rfl (by decide)) (by decide) (H.tg rfl) (by omega) (g_m_mostOf_ok H h_67) rfl rfl ?_
          intro R_67 m_67 p_67 e_67 hR_67 H_67
          subst e_67
          refine r_p hq 1 (pc' := 102) (L' := [(0, .ref 143)]) (st' := [.long R_67]) rfl ?_
          exact g_m_measured_L102_ok hR_67 H_67 h
      · refine r_f2 (pc' := 54) (L' := [(0, .ref 143), (1, .int X1)]) hq (z_at.mk 3 rfl rfl) rfl hx1 (rfl : (2 : Int32).toInt = 2) c_51 rfl rfl ?_
        refine r_p hq 1 (pc' := 55) (L' := [(0, .ref 143), (1, .int X1)]) (st' := [.ref 143]) rfl ?_
        obtain ⟨o_55, h_55, h⟩ := Option.bind_eq_some_iff.mp h
        refine r_cvL (pc' := 58) (L' := [(0, .ref 143), (1, .int X1)]) (Ps := []) (rest := []) hq (z_at.mk 3 rfl rfl) (Or.inl ⟨rfl, rfl⟩) rfl rfl (by decide) (by decide) rfl (Nat.not_lt.mpr (Nat.le_of_ble_eq_true rfl)) rfl rfl (z_cat_le 0 rfl (by decide)) (z_lgl_le 1 rfl (by decide)) (by decide) (H.tg rfl) (by omega) (g_m_leastOf_ok H h_55) rfl rfl ?_
        intro R_55 m_55 p_55 e_55 hR_55 H_55
        subst e_55
        refine r_p hq 1 (pc' := 102) (L' := [(0, .ref 143)]) (st' := [.long R_55]) rfl ?_
        exact g_m_measured_L102_ok hR_55 H_55 h
    · refine r_f2 (pc' := 42) (L' := [(0, .ref 143), (1, .int X1)]) hq (z_at.mk 3 rfl rfl) rfl hx1 (rfl : (1 : Int32).toInt = 1) c_39 rfl rfl ?_
      refine r_p hq 1 (pc' := 43) (L' := [(0, .ref 143), (1, .int X1)]) (st' := [.ref 143]) rfl ?_
      obtain ⟨o_43, h_43, h⟩ := Option.bind_eq_some_iff.mp h
      refine r_cvL (pc' := 46) (L' := [(0, .ref 143), (1, .int X1)]) (Ps := []) (rest := []) hq (z_at.mk 3 rfl rfl) (Or.inl ⟨rfl, rfl⟩) rfl rfl (by decide) (by decide) rfl (Nat.not_lt.mpr (Nat.le_of_ble_eq_true rfl)) rfl rfl (z_cat_le 0 rfl (by decide)) (z_lgl_le 1 rfl (by decide)) (by decide) (H.tg rfl) (by omega) (g_m_sumOf_ok H h_43) rfl rfl ?_
      intro R_43 m_43 p_43 e_43 hR_43 H_43
      subst e_43
      refine r_p hq 1 (pc' := 102) (L' := [(0, .ref 143)]) (st' := [.long R_43]) rfl ?_
      exact g_m_measured_L102_ok hR_43 H_43 h
  · refine r_f1 (pc' := 29) (L' := [(0, .ref 143), (1, .int X1)]) hq (z_at.mk 3 rfl rfl) rfl hx1 c_26 rfl rfl ?_
    refine r_p hq 1 (pc' := 30) (L' := [(0, .ref 143), (1, .int X1)]) (st' := [.ref 143]) rfl ?_
    refine r_gI (pc' := 33) (L' := [(0, .ref 143), (1, .int X1)]) H hq (z_at.mk 3 rfl rfl) rfl rfl rfl rfl ?_
    intro V_30 hV_30
    refine r_p hq 2 (pc' := 102) (L' := [(0, .ref 143)]) (st' := [.long V_30.toInt64]) rfl ?_
    exact g_m_measured_L102_ok (tx_i2l hV_30) H h
def g_m_measured (x1 : Int) (σ : zS) : Option (Int × zS) :=
  let s_2 := zu σ 143 15 0
  let v_6 := s_2 143 14
  if v_6 ≠ 0 then
    g_m_measured_L25 x1 s_2
  else
    (g_m_isIn x1 2 5 s_2).bind fun o_15 =>
    if o_15.1 = 0 then
      g_m_measured_L25 x1 o_15.2
    else
      some (-9223372036854775808, o_15.2)
set_option maxHeartbeats 4000000 in
theorem g_m_measured_ok {xl : Nat} {xs : Nat → Int32} {X1 : Int32} {x1 : Int} (hx1 : X1.toInt = x1) {σ : zS} {p : Nat} {m : zM} {o : Int × zS} (H : zRep xl xs p m σ) (h : g_m_measured x1 σ = some o) : zGo xl xs (fun p' => p = p') 3 198 0 (z_can 198 0 (lv_args 0 [.ref 143, .int X1])) [] m (vL o.1) o.2 := by
  have hq : z_mth 198 = some z_r198 := rfl
  unfold g_m_measured at h
  show zGo xl xs (fun p' => p = p') 3 198 0 [(0, .ref 143), (1, .int X1)] [] m (vL o.1) o.2
  refine r_p hq 2 (pc' := 2) (L' := [(0, .ref 143), (1, .int X1)]) (st' := [.int ((0 : Int32)), .ref 143]) rfl ?_
  refine r_pI (X := (0 : Int32)) (pc' := 5) (L' := [(0, .ref 143), (1, .int X1)]) H hq (z_at.mk 3 rfl rfl) rfl rfl (rfl : (0 : Int32).toInt = 0) (by decide) rfl rfl rfl rfl ?_
  intro m_2 H_2
  refine r_p hq 1 (pc' := 6) (L' := [(0, .ref 143), (1, .int X1)]) (st' := [.ref 143]) rfl ?_
  refine r_gI (pc' := 9) (L' := [(0, .ref 143), (1, .int X1)]) H_2 hq (z_at.mk 3 rfl rfl) rfl rfl rfl rfl ?_
  intro V_6 hV_6
  rcases z_ite h with ⟨c_9, h⟩ | ⟨c_9, h⟩
  · refine r_t1 (pc' := 25) (L' := [(0, .ref 143), (1, .int X1)]) hq (z_at.mk 3 rfl rfl) rfl hV_6 c_9 rfl rfl ?_
    exact g_m_measured_L25_ok hx1 H_2 h
  · refine r_f1 (pc' := 12) (L' := [(0, .ref 143), (1, .int X1)]) hq (z_at.mk 3 rfl rfl) rfl hV_6 c_9 rfl rfl ?_
    refine r_p hq 3 (pc' := 15) (L' := [(0, .ref 143), (1, .int X1)]) (st' := [.int ((5 : Int32)), .int ((2 : Int32)), .int X1]) rfl ?_
    obtain ⟨o_15, h_15, h⟩ := Option.bind_eq_some_iff.mp h
    refine r_csI (pc' := 18) (L' := [(0, .ref 143), (1, .int X1)]) (As := [.int X1, .int ((2 : Int32)), .int ((5 : Int32))]) (rest := []) (j := 159) hq (z_at.mk 3 rfl rfl) (Or.inl ⟨rfl, rfl⟩) rfl rfl (by omega) (g_m_isIn_ok hx1 (rfl : (2 : Int32).toInt = 2) (rfl : (5 : Int32).toInt = 5) H_2 h_15) rfl rfl ?_
    intro R_15 m_15 p_15 e_15 hR_15 H_15
    subst e_15
    rcases z_ite h with ⟨c_18, h⟩ | ⟨c_18, h⟩
    · refine r_t1 (pc' := 25) (L' := [(0, .ref 143), (1, .int X1)]) hq (z_at.mk 3 rfl rfl) rfl hR_15 c_18 rfl rfl ?_
      exact g_m_measured_L25_ok hx1 H_15 h
    · refine r_f1 (pc' := 21) (L' := [(0, .ref 143), (1, .int X1)]) hq (z_at.mk 3 rfl rfl) rfl hR_15 c_18 rfl rfl ?_
      refine r_p hq 1 (pc' := 24) (L' := [(0, .ref 143), (1, .int X1)]) (st' := [.long ((-9223372036854775808 : Int64))]) rfl ?_
      cases h
      exact r_rl hq (z_at.mk 1 rfl rfl) rfl (rfl : (-9223372036854775808 : Int64).toInt = -9223372036854775808) rfl H_15
def g_m_asked_L27 : Nat → Int → Int → zS → Option (Int × zS)
  | 0, _, _, _ => none
  | n + 1, x1, x3, σ =>
    let v_29 := σ 143 14
    if v_29 ≤ x3 then
      (g_m_measured x1 σ).bind fun o_74 =>
      some (o_74.1, o_74.2)
    else
      if 0 ≤ x3 ∧ x3 < 60 then
      let v_49 := σ 154 x3
      if 0 ≤ w32 (200 + x3) ∧ w32 (200 + x3) < 2740 then
      let s_50 := zu σ 144 (w32 (200 + x3)) v_49
      if 0 ≤ x3 ∧ x3 < 60 then
      let v_64 := s_50 155 x3
      if 0 ≤ w32 (61 + x3) ∧ w32 (61 + x3) < 361 then
      let s_65 := zu s_50 147 (w32 (61 + x3)) v_64
      (g_m_asked_L27 n) x1 (w32 (x3 + 1)) s_65
      else none
      else none
      else none
      else none
set_option maxHeartbeats 4000000 in
theorem g_m_asked_L27_ok {xl : Nat} {xs : Nat → Int32} : ∀ (n : Nat) {X1 : Int32} {x1 : Int} {X3 : Int32} {x3 : Int} {σ : zS} {p : Nat} {m : zM} {o : Int × zS}, X1.toInt = x1 → X3.toInt = x3 → zRep xl xs p m σ → g_m_asked_L27 n x1 x3 σ = some o → zGo xl xs (fun p' => p = p') 506 199 27 [(0, .ref 143), (1, .int X1), (3, .int X3)] [] m (vL o.1) o.2
  | 0, _, _, _, _, _, _, _, _, _, _, _, h => by cases h
  | n + 1, X1, x1, X3, x3, σ, p, m, o, hx1, hx3, H, h => by
    have hq : z_mth 199 = some z_r199 := rfl
    have ih := fun {X1 : Int32} {x1 : Int} {X3 : Int32} {x3 : Int} {σ : zS} {p : Nat} {m : zM} {o : Int × zS} => g_m_asked_L27_ok (xl := xl) (xs := xs) n (X1 := X1) (x1 := x1) (X3 := X3) (x3 := x3) (σ := σ) (p := p) (m := m) (o := o)
    unfold g_m_asked_L27 at h
    refine r_p hq 2 (pc' := 29) (L' := [(0, .ref 143), (1, .int X1), (3, .int X3)]) (st' := [.ref 143, .int X3]) rfl ?_
    refine r_gI (pc' := 32) (L' := [(0, .ref 143), (1, .int X1), (3, .int X3)]) H hq (z_at.mk 3 rfl rfl) rfl rfl rfl rfl ?_
    intro V_29 hV_29
    rcases z_ite h with ⟨c_32, h⟩ | ⟨c_32, h⟩
    · refine r_t2 (pc' := 72) (L' := [(0, .ref 143), (1, .int X1), (3, .int X3)]) hq (z_at.mk 3 rfl rfl) rfl hx3 hV_29 c_32 rfl rfl ?_
      refine r_p hq 2 (pc' := 74) (L' := [(0, .ref 143), (1, .int X1), (3, .int X3)]) (st' := [.int X1, .ref 143]) rfl ?_
      obtain ⟨o_74, h_74, h⟩ := Option.bind_eq_some_iff.mp h
      refine r_cvL (pc' := 77) (L' := [(0, .ref 143), (1, .int X1), (3, .int X3)]) (Ps := [.int X1]) (rest := []) hq (z_at.mk 3 rfl rfl) (Or.inl ⟨rfl, rfl⟩) rfl rfl (by decide) (by decide) rfl (Nat.not_lt.mpr (Nat.le_of_ble_eq_true rfl)) rfl rfl (z_cat_le 0 rfl (by decide)) (z_lgl_le 2 rfl (by decide)) (by decide) (H.tg rfl) (by omega) (g_m_measured_ok hx1 H h_74) rfl rfl ?_
      intro R_74 m_74 p_74 e_74 hR_74 H_74
      subst e_74
      cases h
      exact r_rl hq (z_at.mk 1 rfl rfl) rfl hR_74 rfl H_74
    · refine r_f2 (pc' := 35) (L' := [(0, .ref 143), (1, .int X1), (3, .int X3)]) hq (z_at.mk 3 rfl rfl) rfl hx3 hV_29 c_32 rfl rfl ?_
      refine r_p hq 1 (pc' := 36) (L' := [(0, .ref 143), (1, .int X1), (3, .int X3)]) (st' := [.ref 143]) rfl ?_
      refine r_gR (b := 144) (pc' := 39) (L' := [(0, .ref 143), (1, .int X1), (3, .int X3)]) H hq (z_at.mk 3 rfl rfl) rfl rfl rfl rfl ?_
      refine r_p hq 4 (pc' := 45) (L' := [(0, .ref 143), (1, .int X1), (3, .int X3)]) (st' := [.ref 143, .int (((200 : Int32)) + X3), .ref 144]) rfl ?_
      refine r_gR (b := 154) (pc' := 48) (L' := [(0, .ref 143), (1, .int X1), (3, .int X3)]) H hq (z_at.mk 3 rfl rfl) rfl rfl rfl rfl ?_
      refine r_p hq 1 (pc' := 49) (L' := [(0, .ref 143), (1, .int X1), (3, .int X3)]) (st' := [.int X3, .ref 154, .int (((200 : Int32)) + X3), .ref 144]) rfl ?_
      obtain ⟨g_49, h⟩ := z_ifo_some h
      refine r_ia (pc' := 50) (L' := [(0, .ref 143), (1, .int X1), (3, .int X3)]) H hq (z_at.mk 1 rfl rfl) (show zAr 154 0 60 = true from rfl) hx3 g_49 rfl rfl ?_
      intro V_49 hV_49
      obtain ⟨g_50, h⟩ := z_ifo_some h
      refine r_is (pc' := 51) (L' := [(0, .ref 143), (1, .int X1), (3, .int X3)]) H hq (z_at.mk 1 rfl rfl) (show zAr 144 0 2740 = true from rfl) (tx_iadd (rfl : (200 : Int32).toInt = 200) hx3) g_50 hV_49 rfl rfl ?_
      intro m_50 H_50
      refine r_p hq 1 (pc' := 52) (L' := [(0, .ref 143), (1, .int X1), (3, .int X3)]) (st' := [.ref 143]) rfl ?_
      refine r_gR (b := 147) (pc' := 55) (L' := [(0, .ref 143), (1, .int X1), (3, .int X3)]) H_50 hq (z_at.mk 3 rfl rfl) rfl rfl rfl rfl ?_
      refine r_p hq 4 (pc' := 60) (L' := [(0, .ref 143), (1, .int X1), (3, .int X3)]) (st' := [.ref 143, .int (((61 : Int32)) + X3), .ref 147]) rfl ?_
      refine r_gR (b := 155) (pc' := 63) (L' := [(0, .ref 143), (1, .int X1), (3, .int X3)]) H_50 hq (z_at.mk 3 rfl rfl) rfl rfl rfl rfl ?_
      refine r_p hq 1 (pc' := 64) (L' := [(0, .ref 143), (1, .int X1), (3, .int X3)]) (st' := [.int X3, .ref 155, .int (((61 : Int32)) + X3), .ref 147]) rfl ?_
      obtain ⟨g_64, h⟩ := z_ifo_some h
      refine r_la (pc' := 65) (L' := [(0, .ref 143), (1, .int X1), (3, .int X3)]) H_50 hq (z_at.mk 1 rfl rfl) (show zAr 155 1 60 = true from rfl) hx3 g_64 rfl rfl ?_
      intro V_64 hV_64
      obtain ⟨g_65, h⟩ := z_ifo_some h
      refine r_ls (pc' := 66) (L' := [(0, .ref 143), (1, .int X1), (3, .int X3)]) H_50 hq (z_at.mk 1 rfl rfl) (show zAr 147 1 361 = true from rfl) (tx_iadd (rfl : (61 : Int32).toInt = 61) hx3) g_65 hV_64 rfl rfl ?_
      intro m_65 H_65
      refine r_p hq 2 (pc' := 27) (L' := [(0, .ref 143), (1, .int X1), (3, .int (X3 + (1 : Int32)))]) (st' := []) rfl ?_
      exact ih hx1 (tx_iadd hx3 (rfl : (1 : Int32).toInt = 1)) H_65 h
def g_m_asked (x1 : Int) (x2 : Int) (σ : zS) : Option (Int × zS) :=
  (g_m_queries σ).bind fun o_1 =>
  (g_m_gathers 152 0 x2 o_1.2).bind fun o_11 =>
  let v_21 := o_11.2 143 14
  let s_24 := zu o_11.2 144 8 v_21
  g_m_asked_L27 zK x1 0 s_24
set_option maxHeartbeats 4000000 in
theorem g_m_asked_ok {xl : Nat} {xs : Nat → Int32} {X1 : Int32} {x1 : Int} (hx1 : X1.toInt = x1) {X2 : Int32} {x2 : Int} (hx2 : X2.toInt = x2) {σ : zS} {p : Nat} {m : zM} {o : Int × zS} (H : zRep xl xs p m σ) (h : g_m_asked x1 x2 σ = some o) : zGo xl xs (fun p' => p = p') 506 199 0 (z_can 199 0 (lv_args 0 [.ref 143, .int X1, .int X2])) [] m (vL o.1) o.2 := by
  have hq : z_mth 199 = some z_r199 := rfl
  unfold g_m_asked at h
  show zGo xl xs (fun p' => p = p') 506 199 0 [(0, .ref 143), (1, .int X1), (2, .int X2)] [] m (vL o.1) o.2
  refine r_p hq 1 (pc' := 1) (L' := [(0, .ref 143), (1, .int X1), (2, .int X2)]) (st' := [.ref 143]) rfl ?_
  obtain ⟨o_1, h_1, h⟩ := Option.bind_eq_some_iff.mp h
  refine r_cvV (pc' := 4) (L' := [(0, .ref 143), (1, .int X1), (2, .int X2)]) (Ps := []) (rest := []) hq (z_at.mk 3 rfl rfl) (Or.inl ⟨rfl, rfl⟩) rfl rfl (by decide) (by decide) rfl (Nat.not_lt.mpr (Nat.le_of_ble_eq_true rfl)) rfl rfl (z_cat_le 0 rfl (by decide)) (z_lgl_le 1 rfl (by decide)) (by decide) (H.tg rfl) (by omega) (g_m_queries_ok H h_1) rfl rfl ?_
  intro m_1 p_1 e_1 H_1
  subst e_1
  refine r_p hq 2 (pc' := 6) (L' := [(0, .ref 143), (1, .int X1), (2, .int X2)]) (st' := [.ref 143, .ref 143]) rfl ?_
  refine r_gR (b := 152) (pc' := 9) (L' := [(0, .ref 143), (1, .int X1), (2, .int X2)]) H_1 hq (z_at.mk 3 rfl rfl) rfl rfl rfl rfl ?_
  refine r_p hq 2 (pc' := 11) (L' := [(0, .ref 143), (1, .int X1), (2, .int X2)]) (st' := [.int X2, .int ((0 : Int32)), .ref 152, .ref 143]) rfl ?_
  obtain ⟨o_11, h_11, h⟩ := Option.bind_eq_some_iff.mp h
  refine r_cvV (pc' := 14) (L' := [(0, .ref 143), (1, .int X1), (2, .int X2)]) (Ps := [.ref 152, .int ((0 : Int32)), .int X2]) (rest := []) hq (z_at.mk 3 rfl rfl) (Or.inl ⟨rfl, rfl⟩) rfl rfl (by decide) (by decide) rfl (Nat.not_lt.mpr (Nat.le_of_ble_eq_true rfl)) rfl rfl (z_cat_le 0 rfl (by decide)) (z_lgl_le 4 rfl (by decide)) (by decide) (H_1.tg rfl) (by omega) (g_m_gathers_ok rfl (rfl : (0 : Int32).toInt = 0) hx2 H_1 h_11) rfl rfl ?_
  intro m_11 p_11 e_11 H_11
  subst e_11
  refine r_p hq 1 (pc' := 15) (L' := [(0, .ref 143), (1, .int X1), (2, .int X2)]) (st' := [.ref 143]) rfl ?_
  refine r_gR (b := 144) (pc' := 18) (L' := [(0, .ref 143), (1, .int X1), (2, .int X2)]) H_11 hq (z_at.mk 3 rfl rfl) rfl rfl rfl rfl ?_
  refine r_p hq 2 (pc' := 21) (L' := [(0, .ref 143), (1, .int X1), (2, .int X2)]) (st' := [.ref 143, .int ((8 : Int32)), .ref 144]) rfl ?_
  refine r_gI (pc' := 24) (L' := [(0, .ref 143), (1, .int X1), (2, .int X2)]) H_11 hq (z_at.mk 3 rfl rfl) rfl rfl rfl rfl ?_
  intro V_21 hV_21
  refine r_is (pc' := 25) (L' := [(0, .ref 143), (1, .int X1), (2, .int X2)]) H_11 hq (z_at.mk 1 rfl rfl) (show zAr 144 0 2740 = true from rfl) (rfl : (8 : Int32).toInt = 8) ⟨by decide, by decide⟩ hV_21 rfl rfl ?_
  intro m_24 H_24
  refine r_p hq 2 (pc' := 27) (L' := [(0, .ref 143), (1, .int X1), (3, .int ((0 : Int32)))]) (st' := []) rfl ?_
  exact g_m_asked_L27_ok zK hx1 (rfl : (0 : Int32).toInt = 0) H_24 h
def g_m_cuts_L194 (g86 : Int → Int → Int → zS → Option (Unit × zS)) (y4 : Int) (x6 : Int) (x7 : Int) (σ : zS) : Option (Unit × zS) :=
  g86 y4 x6 (w32 (x7 + 1)) σ
set_option maxHeartbeats 4000000 in
theorem g_m_cuts_L194_ok {xl : Nat} {xs : Nat → Int32} {g86 : Int → Int → Int → zS → Option (Unit × zS)} (hg86 : ∀ {Y4 : Int64} {y4 : Int} {X6 : Int32} {x6 : Int} {X7 : Int32} {x7 : Int} {σ : zS} {p : Nat} {m : zM} {o : Unit × zS}, Y4.toInt = y4 → X6.toInt = x6 → X7.toInt = x7 → zRep xl xs p m σ → g86 y4 x6 x7 σ = some o → zGo xl xs (fun p' => p = p') 4 201 86 [(0, .ref 143), (4, .long Y4), (6, .int X6), (7, .int X7)] [] m vV o.2) {Y4 : Int64} {y4 : Int} (hy4 : Y4.toInt = y4) {X6 : Int32} {x6 : Int} (hx6 : X6.toInt = x6) {X7 : Int32} {x7 : Int} (hx7 : X7.toInt = x7) {σ : zS} {p : Nat} {m : zM} {o : Unit × zS} (H : zRep xl xs p m σ) (h : g_m_cuts_L194 g86 y4 x6 x7 σ = some o) : zGo xl xs (fun p' => p = p') 4 201 194 [(0, .ref 143), (4, .long Y4), (6, .int X6), (7, .int X7)] [] m vV o.2 := by
  have hq : z_mth 201 = some z_r201 := rfl
  unfold g_m_cuts_L194 at h
  refine r_p hq 2 (pc' := 86) (L' := [(0, .ref 143), (4, .long Y4), (6, .int X6), (7, .int (X7 + (1 : Int32)))]) (st' := []) rfl ?_
  exact hg86 hy4 hx6 (tx_iadd hx7 (rfl : (1 : Int32).toInt = 1)) H h
def g_m_cuts_L86 : Nat → Int → Int → Int → zS → Option (Unit × zS)
  | 0, _, _, _, _ => none
  | n + 1, y4, x6, x7, σ =>
    if x6 ≤ x7 then
      some ((), σ)
    else
      (g_m_adds 151 (w32 (4 * x7)) σ).bind fun o_102 =>
      (g_m_region_173 o_102.1 o_102.2).bind fun o_113 =>
      let v_125 := o_113.2 156 9
      if 0 ≤ w32 (o_113.1 + 9) ∧ w32 (o_113.1 + 9) < 2740 then
      let s_126 := zu o_113.2 144 (w32 (o_113.1 + 9)) v_125
      if 0 ≤ w32 (121 + o_102.1) ∧ w32 (121 + o_102.1) < 361 then
      let s_138 := zu s_126 147 (w32 (121 + o_102.1)) y4
      let v_144 := s_138 156 4
      if v_144 < 0 then
        g_m_cuts_L194 ((g_m_cuts_L86 n)) y4 x6 x7 s_138
      else
        (g_m_doMeet 156 151 4 (w32 (4 * x7)) s_138).bind fun o_161 =>
        if o_161.1 = 0 then
          g_m_cuts_L194 ((g_m_cuts_L86 n)) y4 x6 x7 o_161.2
        else
          (g_m_region_173 o_102.1 o_161.2).bind fun o_186 =>
          (g_m_commons 156 151 144 4 (w32 (4 * x7)) (w32 (o_186.1 + 4)) o_186.2).bind fun o_191 =>
          g_m_cuts_L194 ((g_m_cuts_L86 n)) y4 x6 x7 o_191.2
      else none
      else none
set_option maxHeartbeats 4000000 in
theorem g_m_cuts_L86_ok {xl : Nat} {xs : Nat → Int32} : ∀ (n : Nat) {Y4 : Int64} {y4 : Int} {X6 : Int32} {x6 : Int} {X7 : Int32} {x7 : Int} {σ : zS} {p : Nat} {m : zM} {o : Unit × zS}, Y4.toInt = y4 → X6.toInt = x6 → X7.toInt = x7 → zRep xl xs p m σ → g_m_cuts_L86 n y4 x6 x7 σ = some o → zGo xl xs (fun p' => p = p') 4 201 86 [(0, .ref 143), (4, .long Y4), (6, .int X6), (7, .int X7)] [] m vV o.2
  | 0, _, _, _, _, _, _, _, _, _, _, _, _, _, _, h => by cases h
  | n + 1, Y4, y4, X6, x6, X7, x7, σ, p, m, o, hy4, hx6, hx7, H, h => by
    have hq : z_mth 201 = some z_r201 := rfl
    have ih := fun {Y4 : Int64} {y4 : Int} {X6 : Int32} {x6 : Int} {X7 : Int32} {x7 : Int} {σ : zS} {p : Nat} {m : zM} {o : Unit × zS} => g_m_cuts_L86_ok (xl := xl) (xs := xs) n (Y4 := Y4) (y4 := y4) (X6 := X6) (x6 := x6) (X7 := X7) (x7 := x7) (σ := σ) (p := p) (m := m) (o := o)
    unfold g_m_cuts_L86 at h
    refine r_p hq 2 (pc' := 90) (L' := [(0, .ref 143), (4, .long Y4), (6, .int X6), (7, .int X7)]) (st' := [.int X6, .int X7]) rfl ?_
    rcases z_ite h with ⟨c_90, h⟩ | ⟨c_90, h⟩
    · refine r_t2 (pc' := 200) (L' := [(0, .ref 143), (4, .long Y4), (6, .int X6), (7, .int X7)]) hq (z_at.mk 3 rfl rfl) rfl hx7 hx6 c_90 rfl rfl ?_
      cases h
      exact r_rv hq (z_at.mk 1 rfl rfl) rfl rfl H
    · refine r_f2 (pc' := 93) (L' := [(0, .ref 143), (4, .long Y4), (6, .int X6), (7, .int X7)]) hq (z_at.mk 3 rfl rfl) rfl hx7 hx6 c_90 rfl rfl ?_
      refine r_p hq 2 (pc' := 95) (L' := [(0, .ref 143), (4, .long Y4), (6, .int X6), (7, .int X7)]) (st' := [.ref 143, .ref 143]) rfl ?_
      refine r_gR (b := 151) (pc' := 98) (L' := [(0, .ref 143), (4, .long Y4), (6, .int X6), (7, .int X7)]) H hq (z_at.mk 3 rfl rfl) rfl rfl rfl rfl ?_
      refine r_p hq 3 (pc' := 102) (L' := [(0, .ref 143), (4, .long Y4), (6, .int X6), (7, .int X7)]) (st' := [.int (((4 : Int32)) * X7), .ref 151, .ref 143]) rfl ?_
      obtain ⟨o_102, h_102, h⟩ := Option.bind_eq_some_iff.mp h
      refine r_cvI (pc' := 105) (L' := [(0, .ref 143), (4, .long Y4), (6, .int X6), (7, .int X7)]) (Ps := [.ref 151, .int (((4 : Int32)) * X7)]) (rest := []) hq (z_at.mk 3 rfl rfl) (Or.inl ⟨rfl, rfl⟩) rfl rfl (by decide) (by decide) rfl (Nat.not_lt.mpr (Nat.le_of_ble_eq_true rfl)) rfl rfl (z_cat_le 0 rfl (by decide)) (z_lgl_le 3 rfl (by decide)) (by decide) (H.tg rfl) (by omega) (g_m_adds_ok rfl (tx_imul (rfl : (4 : Int32).toInt = 4) hx7) H h_102) rfl rfl ?_
      intro R_102 m_102 p_102 e_102 hR_102 H_102
      subst e_102
      refine r_p hq 2 (pc' := 108) (L' := [(8, .int R_102), (0, .ref 143), (4, .long Y4), (6, .int X6), (7, .int X7)]) (st' := [.ref 143]) rfl ?_
      refine r_gR (b := 144) (pc' := 111) (L' := [(8, .int R_102), (0, .ref 143), (4, .long Y4), (6, .int X6), (7, .int X7)]) H_102 hq (z_at.mk 3 rfl rfl) rfl rfl rfl rfl ?_
      refine r_p hq 1 (pc' := 113) (L' := [(8, .int R_102), (0, .ref 143), (4, .long Y4), (6, .int X6), (7, .int X7)]) (st' := [.int R_102, .ref 144]) rfl ?_
      obtain ⟨o_113, h_113, h⟩ := Option.bind_eq_some_iff.mp h
      refine r_csI (pc' := 116) (L' := [(8, .int R_102), (0, .ref 143), (4, .long Y4), (6, .int X6), (7, .int X7)]) (As := [.int R_102]) (rest := [.ref 144]) (j := 173) hq (z_at.mk 3 rfl rfl) (Or.inl ⟨rfl, rfl⟩) rfl rfl (by omega) (g_m_region_173_ok hR_102 H_102 h_113) rfl rfl ?_
      intro R_113 m_113 p_113 e_113 hR_113 H_113
      subst e_113
      refine r_p hq 3 (pc' := 120) (L' := [(8, .int R_102), (0, .ref 143), (4, .long Y4), (6, .int X6), (7, .int X7)]) (st' := [.ref 143, .int (R_113 + ((9 : Int32))), .ref 144]) rfl ?_
      refine r_gR (b := 156) (pc' := 123) (L' := [(8, .int R_102), (0, .ref 143), (4, .long Y4), (6, .int X6), (7, .int X7)]) H_113 hq (z_at.mk 3 rfl rfl) rfl rfl rfl rfl ?_
      refine r_p hq 1 (pc' := 125) (L' := [(8, .int R_102), (0, .ref 143), (4, .long Y4), (6, .int X6), (7, .int X7)]) (st' := [.int ((9 : Int32)), .ref 156, .int (R_113 + ((9 : Int32))), .ref 144]) rfl ?_
      refine r_ia (pc' := 126) (L' := [(8, .int R_102), (0, .ref 143), (4, .long Y4), (6, .int X6), (7, .int X7)]) H_113 hq (z_at.mk 1 rfl rfl) (show zAr 156 0 10 = true from rfl) (rfl : (9 : Int32).toInt = 9) ⟨by decide, by decide⟩ rfl rfl ?_
      intro V_125 hV_125
      obtain ⟨g_126, h⟩ := z_ifo_some h
      refine r_is (pc' := 127) (L' := [(8, .int R_102), (0, .ref 143), (4, .long Y4), (6, .int X6), (7, .int X7)]) H_113 hq (z_at.mk 1 rfl rfl) (show zAr 144 0 2740 = true from rfl) (tx_iadd hR_113 (rfl : (9 : Int32).toInt = 9)) g_126 hV_125 rfl rfl ?_
      intro m_126 H_126
      refine r_p hq 1 (pc' := 128) (L' := [(8, .int R_102), (0, .ref 143), (4, .long Y4), (6, .int X6), (7, .int X7)]) (st' := [.ref 143]) rfl ?_
      refine r_gR (b := 147) (pc' := 131) (L' := [(8, .int R_102), (0, .ref 143), (4, .long Y4), (6, .int X6), (7, .int X7)]) H_126 hq (z_at.mk 3 rfl rfl) rfl rfl rfl rfl ?_
      refine r_p hq 4 (pc' := 138) (L' := [(8, .int R_102), (0, .ref 143), (4, .long Y4), (6, .int X6), (7, .int X7)]) (st' := [.long Y4, .int (((121 : Int32)) + R_102), .ref 147]) rfl ?_
      obtain ⟨g_138, h⟩ := z_ifo_some h
      refine r_ls (pc' := 139) (L' := [(8, .int R_102), (0, .ref 143), (4, .long Y4), (6, .int X6), (7, .int X7)]) H_126 hq (z_at.mk 1 rfl rfl) (show zAr 147 1 361 = true from rfl) (tx_iadd (rfl : (121 : Int32).toInt = 121) hR_102) g_138 hy4 rfl rfl ?_
      intro m_138 H_138
      refine r_p hq 1 (pc' := 140) (L' := [(8, .int R_102), (0, .ref 143), (4, .long Y4), (6, .int X6), (7, .int X7)]) (st' := [.ref 143]) rfl ?_
      refine r_gR (b := 156) (pc' := 143) (L' := [(8, .int R_102), (0, .ref 143), (4, .long Y4), (6, .int X6), (7, .int X7)]) H_138 hq (z_at.mk 3 rfl rfl) rfl rfl rfl rfl ?_
      refine r_p hq 1 (pc' := 144) (L' := [(8, .int R_102), (0, .ref 143), (4, .long Y4), (6, .int X6), (7, .int X7)]) (st' := [.int ((4 : Int32)), .ref 156]) rfl ?_
      refine r_ia (pc' := 145) (L' := [(8, .int R_102), (0, .ref 143), (4, .long Y4), (6, .int X6), (7, .int X7)]) H_138 hq (z_at.mk 1 rfl rfl) (show zAr 156 0 10 = true from rfl) (rfl : (4 : Int32).toInt = 4) ⟨by decide, by decide⟩ rfl rfl ?_
      intro V_144 hV_144
      rcases z_ite h with ⟨c_145, h⟩ | ⟨c_145, h⟩
      · refine r_t1 (pc' := 194) (L' := [(0, .ref 143), (4, .long Y4), (6, .int X6), (7, .int X7)]) hq (z_at.mk 3 rfl rfl) rfl hV_144 c_145 rfl rfl ?_
        exact g_m_cuts_L194_ok ih hy4 hx6 hx7 H_138 h
      · refine r_f1 (pc' := 148) (L' := [(8, .int R_102), (0, .ref 143), (4, .long Y4), (6, .int X6), (7, .int X7)]) hq (z_at.mk 3 rfl rfl) rfl hV_144 c_145 rfl rfl ?_
        refine r_p hq 1 (pc' := 149) (L' := [(8, .int R_102), (0, .ref 143), (4, .long Y4), (6, .int X6), (7, .int X7)]) (st' := [.ref 143]) rfl ?_
        refine r_gR (b := 156) (pc' := 152) (L' := [(8, .int R_102), (0, .ref 143), (4, .long Y4), (6, .int X6), (7, .int X7)]) H_138 hq (z_at.mk 3 rfl rfl) rfl rfl rfl rfl ?_
        refine r_p hq 2 (pc' := 154) (L' := [(8, .int R_102), (0, .ref 143), (4, .long Y4), (6, .int X6), (7, .int X7)]) (st' := [.ref 143, .int ((4 : Int32)), .ref 156]) rfl ?_
        refine r_gR (b := 151) (pc' := 157) (L' := [(8, .int R_102), (0, .ref 143), (4, .long Y4), (6, .int X6), (7, .int X7)]) H_138 hq (z_at.mk 3 rfl rfl) rfl rfl rfl rfl ?_
        refine r_p hq 3 (pc' := 161) (L' := [(8, .int R_102), (0, .ref 143), (4, .long Y4), (6, .int X6), (7, .int X7)]) (st' := [.int (((4 : Int32)) * X7), .ref 151, .int ((4 : Int32)), .ref 156]) rfl ?_
        obtain ⟨o_161, h_161, h⟩ := Option.bind_eq_some_iff.mp h
        refine r_csI (pc' := 164) (L' := [(8, .int R_102), (0, .ref 143), (4, .long Y4), (6, .int X6), (7, .int X7)]) (As := [.ref 156, .int ((4 : Int32)), .ref 151, .int (((4 : Int32)) * X7)]) (rest := []) (j := 169) hq (z_at.mk 3 rfl rfl) (Or.inl ⟨rfl, rfl⟩) rfl rfl (by omega) (g_m_doMeet_ok rfl rfl (rfl : (4 : Int32).toInt = 4) (tx_imul (rfl : (4 : Int32).toInt = 4) hx7) H_138 h_161) rfl rfl ?_
        intro R_161 m_161 p_161 e_161 hR_161 H_161
        subst e_161
        rcases z_ite h with ⟨c_164, h⟩ | ⟨c_164, h⟩
        · refine r_t1 (pc' := 194) (L' := [(0, .ref 143), (4, .long Y4), (6, .int X6), (7, .int X7)]) hq (z_at.mk 3 rfl rfl) rfl hR_161 c_164 rfl rfl ?_
          exact g_m_cuts_L194_ok ih hy4 hx6 hx7 H_161 h
        · refine r_f1 (pc' := 167) (L' := [(8, .int R_102), (0, .ref 143), (4, .long Y4), (6, .int X6), (7, .int X7)]) hq (z_at.mk 3 rfl rfl) rfl hR_161 c_164 rfl rfl ?_
          refine r_p hq 1 (pc' := 168) (L' := [(8, .int R_102), (0, .ref 143), (4, .long Y4), (6, .int X6), (7, .int X7)]) (st' := [.ref 143]) rfl ?_
          refine r_gR (b := 156) (pc' := 171) (L' := [(8, .int R_102), (0, .ref 143), (4, .long Y4), (6, .int X6), (7, .int X7)]) H_161 hq (z_at.mk 3 rfl rfl) rfl rfl rfl rfl ?_
          refine r_p hq 2 (pc' := 173) (L' := [(8, .int R_102), (0, .ref 143), (4, .long Y4), (6, .int X6), (7, .int X7)]) (st' := [.ref 143, .int ((4 : Int32)), .ref 156]) rfl ?_
          refine r_gR (b := 151) (pc' := 176) (L' := [(8, .int R_102), (0, .ref 143), (4, .long Y4), (6, .int X6), (7, .int X7)]) H_161 hq (z_at.mk 3 rfl rfl) rfl rfl rfl rfl ?_
          refine r_p hq 4 (pc' := 181) (L' := [(8, .int R_102), (0, .ref 143), (4, .long Y4), (6, .int X6), (7, .int X7)]) (st' := [.ref 143, .int (((4 : Int32)) * X7), .ref 151, .int ((4 : Int32)), .ref 156]) rfl ?_
          refine r_gR (b := 144) (pc' := 184) (L' := [(8, .int R_102), (0, .ref 143), (4, .long Y4), (6, .int X6), (7, .int X7)]) H_161 hq (z_at.mk 3 rfl rfl) rfl rfl rfl rfl ?_
          refine r_p hq 1 (pc' := 186) (L' := [(8, .int R_102), (0, .ref 143), (4, .long Y4), (6, .int X6), (7, .int X7)]) (st' := [.int R_102, .ref 144, .int (((4 : Int32)) * X7), .ref 151, .int ((4 : Int32)), .ref 156]) rfl ?_
          obtain ⟨o_186, h_186, h⟩ := Option.bind_eq_some_iff.mp h
          refine r_csI (pc' := 189) (L' := [(8, .int R_102), (0, .ref 143), (4, .long Y4), (6, .int X6), (7, .int X7)]) (As := [.int R_102]) (rest := [.ref 144, .int (((4 : Int32)) * X7), .ref 151, .int ((4 : Int32)), .ref 156]) (j := 173) hq (z_at.mk 3 rfl rfl) (Or.inl ⟨rfl, rfl⟩) rfl rfl (by omega) (g_m_region_173_ok hR_102 H_161 h_186) rfl rfl ?_
          intro R_186 m_186 p_186 e_186 hR_186 H_186
          subst e_186
          refine r_p hq 2 (pc' := 191) (L' := [(8, .int R_102), (0, .ref 143), (4, .long Y4), (6, .int X6), (7, .int X7)]) (st' := [.int (R_186 + ((4 : Int32))), .ref 144, .int (((4 : Int32)) * X7), .ref 151, .int ((4 : Int32)), .ref 156]) rfl ?_
          obtain ⟨o_191, h_191, h⟩ := Option.bind_eq_some_iff.mp h
          refine r_csV (pc' := 194) (L' := [(0, .ref 143), (4, .long Y4), (6, .int X6), (7, .int X7)]) (As := [.ref 156, .int ((4 : Int32)), .ref 151, .int (((4 : Int32)) * X7), .ref 144, .int (R_186 + ((4 : Int32)))]) (rest := []) (j := 170) hq (z_at.mk 3 rfl rfl) (Or.inl ⟨rfl, rfl⟩) rfl rfl (by omega) (g_m_commons_ok rfl rfl rfl (rfl : (4 : Int32).toInt = 4) (tx_imul (rfl : (4 : Int32).toInt = 4) hx7) (tx_iadd hR_186 (rfl : (4 : Int32).toInt = 4)) H_186 h_191) rfl rfl ?_
          intro m_191 p_191 e_191 H_191
          subst e_191
          exact g_m_cuts_L194_ok ih hy4 hx6 hx7 H_191 h
def g_m_cuts_L3 : Nat → Int → Int → Int → Int → zS → Option (Unit × zS)
  | 0, _, _, _, _, _ => none
  | n + 1, x1, x2, x3, x4, σ =>
    if 10 ≤ x4 then
      if 0 ≤ w32 (121 + x1) ∧ w32 (121 + x1) < 361 then
      let v_43 := σ 147 (w32 (121 + x1))
      (g_m_goes x1 σ).bind fun o_48 =>
      (g_m_sets 157 0 x2 x2 x3 x3 o_48.2).bind fun o_60 =>
      (g_m_rests 156 157 151 0 0 0 o_60.2).bind fun o_78 =>
      g_m_cuts_L86 zK v_43 o_78.1 0 o_78.2
      else none
    else
      (g_m_region_173 x1 σ).bind fun o_21 =>
      if 0 ≤ w32 (o_21.1 + x4) ∧ w32 (o_21.1 + x4) < 2740 then
      let v_27 := o_21.2 144 (w32 (o_21.1 + x4))
      if 0 ≤ x4 ∧ x4 < 10 then
      let s_28 := zu o_21.2 156 x4 v_27
      (g_m_cuts_L3 n) x1 x2 x3 (w32 (x4 + 1)) s_28
      else none
      else none
set_option maxHeartbeats 4000000 in
theorem g_m_cuts_L3_ok {xl : Nat} {xs : Nat → Int32} : ∀ (n : Nat) {X1 : Int32} {x1 : Int} {X2 : Int32} {x2 : Int} {X3 : Int32} {x3 : Int} {X4 : Int32} {x4 : Int} {σ : zS} {p : Nat} {m : zM} {o : Unit × zS}, X1.toInt = x1 → X2.toInt = x2 → X3.toInt = x3 → X4.toInt = x4 → zRep xl xs p m σ → g_m_cuts_L3 n x1 x2 x3 x4 σ = some o → zGo xl xs (fun p' => p = p') 4 201 3 [(0, .ref 143), (1, .int X1), (2, .int X2), (3, .int X3), (4, .int X4)] [] m vV o.2
  | 0, _, _, _, _, _, _, _, _, _, _, _, _, _, _, _, _, _, h => by cases h
  | n + 1, X1, x1, X2, x2, X3, x3, X4, x4, σ, p, m, o, hx1, hx2, hx3, hx4, H, h => by
    have hq : z_mth 201 = some z_r201 := rfl
    have ih := fun {X1 : Int32} {x1 : Int} {X2 : Int32} {x2 : Int} {X3 : Int32} {x3 : Int} {X4 : Int32} {x4 : Int} {σ : zS} {p : Nat} {m : zM} {o : Unit × zS} => g_m_cuts_L3_ok (xl := xl) (xs := xs) n (X1 := X1) (x1 := x1) (X2 := X2) (x2 := x2) (X3 := X3) (x3 := x3) (X4 := X4) (x4 := x4) (σ := σ) (p := p) (m := m) (o := o)
    unfold g_m_cuts_L3 at h
    refine r_p hq 2 (pc' := 7) (L' := [(0, .ref 143), (1, .int X1), (2, .int X2), (3, .int X3), (4, .int X4)]) (st' := [.int ((10 : Int32)), .int X4]) rfl ?_
    rcases z_ite h with ⟨c_7, h⟩ | ⟨c_7, h⟩
    · refine r_t2 (pc' := 35) (L' := [(0, .ref 143), (1, .int X1), (2, .int X2), (3, .int X3), (4, .int X4)]) hq (z_at.mk 3 rfl rfl) rfl hx4 (rfl : (10 : Int32).toInt = 10) c_7 rfl rfl ?_
      refine r_p hq 1 (pc' := 36) (L' := [(0, .ref 143), (1, .int X1), (2, .int X2), (3, .int X3), (4, .int X4)]) (st' := [.ref 143]) rfl ?_
      refine r_gR (b := 147) (pc' := 39) (L' := [(0, .ref 143), (1, .int X1), (2, .int X2), (3, .int X3), (4, .int X4)]) H hq (z_at.mk 3 rfl rfl) rfl rfl rfl rfl ?_
      refine r_p hq 3 (pc' := 43) (L' := [(0, .ref 143), (1, .int X1), (2, .int X2), (3, .int X3), (4, .int X4)]) (st' := [.int (((121 : Int32)) + X1), .ref 147]) rfl ?_
      obtain ⟨g_43, h⟩ := z_ifo_some h
      refine r_la (pc' := 44) (L' := [(0, .ref 143), (1, .int X1), (2, .int X2), (3, .int X3), (4, .int X4)]) H hq (z_at.mk 1 rfl rfl) (show zAr 147 1 361 = true from rfl) (tx_iadd (rfl : (121 : Int32).toInt = 121) hx1) g_43 rfl rfl ?_
      intro V_43 hV_43
      refine r_p hq 3 (pc' := 48) (L' := [(4, .long V_43), (0, .ref 143), (1, .int X1), (2, .int X2), (3, .int X3)]) (st' := [.int X1, .ref 143]) rfl ?_
      obtain ⟨o_48, h_48, h⟩ := Option.bind_eq_some_iff.mp h
      refine r_cvV (pc' := 51) (L' := [(4, .long V_43), (0, .ref 143), (1, .int X1), (2, .int X2), (3, .int X3)]) (Ps := [.int X1]) (rest := []) hq (z_at.mk 3 rfl rfl) (Or.inl ⟨rfl, rfl⟩) rfl rfl (by decide) (by decide) rfl (Nat.not_lt.mpr (Nat.le_of_ble_eq_true rfl)) rfl rfl (z_cat_le 0 rfl (by decide)) (z_lgl_le 2 rfl (by decide)) (by decide) (H.tg rfl) (by omega) (g_m_goes_ok hx1 H h_48) rfl rfl ?_
      intro m_48 p_48 e_48 H_48
      subst e_48
      refine r_p hq 1 (pc' := 52) (L' := [(4, .long V_43), (0, .ref 143), (1, .int X1), (2, .int X2), (3, .int X3)]) (st' := [.ref 143]) rfl ?_
      refine r_gR (b := 157) (pc' := 55) (L' := [(4, .long V_43), (0, .ref 143), (1, .int X1), (2, .int X2), (3, .int X3)]) H_48 hq (z_at.mk 3 rfl rfl) rfl rfl rfl rfl ?_
      refine r_p hq 5 (pc' := 60) (L' := [(4, .long V_43), (0, .ref 143), (1, .int X1), (2, .int X2), (3, .int X3)]) (st' := [.int X3, .int X3, .int X2, .int X2, .int ((0 : Int32)), .ref 157]) rfl ?_
      obtain ⟨o_60, h_60, h⟩ := Option.bind_eq_some_iff.mp h
      refine r_csV (pc' := 63) (L' := [(4, .long V_43), (0, .ref 143), (1, .int X1), (2, .int X2), (3, .int X3)]) (As := [.ref 157, .int ((0 : Int32)), .int X2, .int X2, .int X3, .int X3]) (rest := []) (j := 165) hq (z_at.mk 3 rfl rfl) (Or.inl ⟨rfl, rfl⟩) rfl rfl (by omega) (g_m_sets_ok rfl (rfl : (0 : Int32).toInt = 0) hx2 hx2 hx3 hx3 H_48 h_60) rfl rfl ?_
      intro m_60 p_60 e_60 H_60
      subst e_60
      refine r_p hq 1 (pc' := 64) (L' := [(4, .long V_43), (0, .ref 143), (1, .int X1), (2, .int X2), (3, .int X3)]) (st' := [.ref 143]) rfl ?_
      refine r_gR (b := 156) (pc' := 67) (L' := [(4, .long V_43), (0, .ref 143), (1, .int X1), (2, .int X2), (3, .int X3)]) H_60 hq (z_at.mk 3 rfl rfl) rfl rfl rfl rfl ?_
      refine r_p hq 2 (pc' := 69) (L' := [(4, .long V_43), (0, .ref 143), (1, .int X1), (2, .int X2), (3, .int X3)]) (st' := [.ref 143, .int ((0 : Int32)), .ref 156]) rfl ?_
      refine r_gR (b := 157) (pc' := 72) (L' := [(4, .long V_43), (0, .ref 143), (1, .int X1), (2, .int X2), (3, .int X3)]) H_60 hq (z_at.mk 3 rfl rfl) rfl rfl rfl rfl ?_
      refine r_p hq 2 (pc' := 74) (L' := [(4, .long V_43), (0, .ref 143), (1, .int X1), (2, .int X2), (3, .int X3)]) (st' := [.ref 143, .int ((0 : Int32)), .ref 157, .int ((0 : Int32)), .ref 156]) rfl ?_
      refine r_gR (b := 151) (pc' := 77) (L' := [(4, .long V_43), (0, .ref 143), (1, .int X1), (2, .int X2), (3, .int X3)]) H_60 hq (z_at.mk 3 rfl rfl) rfl rfl rfl rfl ?_
      refine r_p hq 1 (pc' := 78) (L' := [(4, .long V_43), (0, .ref 143), (1, .int X1), (2, .int X2), (3, .int X3)]) (st' := [.int ((0 : Int32)), .ref 151, .int ((0 : Int32)), .ref 157, .int ((0 : Int32)), .ref 156]) rfl ?_
      obtain ⟨o_78, h_78, h⟩ := Option.bind_eq_some_iff.mp h
      refine r_csI (pc' := 81) (L' := [(4, .long V_43), (0, .ref 143), (1, .int X1), (2, .int X2), (3, .int X3)]) (As := [.ref 156, .int ((0 : Int32)), .ref 157, .int ((0 : Int32)), .ref 151, .int ((0 : Int32))]) (rest := []) (j := 172) hq (z_at.mk 3 rfl rfl) (Or.inl ⟨rfl, rfl⟩) rfl rfl (by omega) (g_m_rests_ok rfl rfl rfl (rfl : (0 : Int32).toInt = 0) (rfl : (0 : Int32).toInt = 0) (rfl : (0 : Int32).toInt = 0) H_60 h_78) rfl rfl ?_
      intro R_78 m_78 p_78 e_78 hR_78 H_78
      subst e_78
      refine r_p hq 3 (pc' := 86) (L' := [(0, .ref 143), (4, .long V_43), (6, .int R_78), (7, .int ((0 : Int32)))]) (st' := []) rfl ?_
      exact g_m_cuts_L86_ok zK hV_43 hR_78 (rfl : (0 : Int32).toInt = 0) H_78 h
    · refine r_f2 (pc' := 10) (L' := [(0, .ref 143), (1, .int X1), (2, .int X2), (3, .int X3), (4, .int X4)]) hq (z_at.mk 3 rfl rfl) rfl hx4 (rfl : (10 : Int32).toInt = 10) c_7 rfl rfl ?_
      refine r_p hq 1 (pc' := 11) (L' := [(0, .ref 143), (1, .int X1), (2, .int X2), (3, .int X3), (4, .int X4)]) (st' := [.ref 143]) rfl ?_
      refine r_gR (b := 156) (pc' := 14) (L' := [(0, .ref 143), (1, .int X1), (2, .int X2), (3, .int X3), (4, .int X4)]) H hq (z_at.mk 3 rfl rfl) rfl rfl rfl rfl ?_
      refine r_p hq 2 (pc' := 17) (L' := [(0, .ref 143), (1, .int X1), (2, .int X2), (3, .int X3), (4, .int X4)]) (st' := [.ref 143, .int X4, .ref 156]) rfl ?_
      refine r_gR (b := 144) (pc' := 20) (L' := [(0, .ref 143), (1, .int X1), (2, .int X2), (3, .int X3), (4, .int X4)]) H hq (z_at.mk 3 rfl rfl) rfl rfl rfl rfl ?_
      refine r_p hq 1 (pc' := 21) (L' := [(0, .ref 143), (1, .int X1), (2, .int X2), (3, .int X3), (4, .int X4)]) (st' := [.int X1, .ref 144, .int X4, .ref 156]) rfl ?_
      obtain ⟨o_21, h_21, h⟩ := Option.bind_eq_some_iff.mp h
      refine r_csI (pc' := 24) (L' := [(0, .ref 143), (1, .int X1), (2, .int X2), (3, .int X3), (4, .int X4)]) (As := [.int X1]) (rest := [.ref 144, .int X4, .ref 156]) (j := 173) hq (z_at.mk 3 rfl rfl) (Or.inl ⟨rfl, rfl⟩) rfl rfl (by omega) (g_m_region_173_ok hx1 H h_21) rfl rfl ?_
      intro R_21 m_21 p_21 e_21 hR_21 H_21
      subst e_21
      refine r_p hq 2 (pc' := 27) (L' := [(0, .ref 143), (1, .int X1), (2, .int X2), (3, .int X3), (4, .int X4)]) (st' := [.int (R_21 + X4), .ref 144, .int X4, .ref 156]) rfl ?_
      obtain ⟨g_27, h⟩ := z_ifo_some h
      refine r_ia (pc' := 28) (L' := [(0, .ref 143), (1, .int X1), (2, .int X2), (3, .int X3), (4, .int X4)]) H_21 hq (z_at.mk 1 rfl rfl) (show zAr 144 0 2740 = true from rfl) (tx_iadd hR_21 hx4) g_27 rfl rfl ?_
      intro V_27 hV_27
      obtain ⟨g_28, h⟩ := z_ifo_some h
      refine r_is (pc' := 29) (L' := [(0, .ref 143), (1, .int X1), (2, .int X2), (3, .int X3), (4, .int X4)]) H_21 hq (z_at.mk 1 rfl rfl) (show zAr 156 0 10 = true from rfl) hx4 g_28 hV_27 rfl rfl ?_
      intro m_28 H_28
      refine r_p hq 2 (pc' := 3) (L' := [(0, .ref 143), (1, .int X1), (2, .int X2), (3, .int X3), (4, .int (X4 + (1 : Int32)))]) (st' := []) rfl ?_
      exact ih hx1 hx2 hx3 (tx_iadd hx4 (rfl : (1 : Int32).toInt = 1)) H_28 h
def g_m_cuts (x1 : Int) (x2 : Int) (x3 : Int) (σ : zS) : Option (Unit × zS) :=
  g_m_cuts_L3 zK x1 x2 x3 0 σ
set_option maxHeartbeats 4000000 in
theorem g_m_cuts_ok {xl : Nat} {xs : Nat → Int32} {X1 : Int32} {x1 : Int} (hx1 : X1.toInt = x1) {X2 : Int32} {x2 : Int} (hx2 : X2.toInt = x2) {X3 : Int32} {x3 : Int} (hx3 : X3.toInt = x3) {σ : zS} {p : Nat} {m : zM} {o : Unit × zS} (H : zRep xl xs p m σ) (h : g_m_cuts x1 x2 x3 σ = some o) : zGo xl xs (fun p' => p = p') 4 201 0 (z_can 201 0 (lv_args 0 [.ref 143, .int X1, .int X2, .int X3])) [] m vV o.2 := by
  have hq : z_mth 201 = some z_r201 := rfl
  unfold g_m_cuts at h
  show zGo xl xs (fun p' => p = p') 4 201 0 [(0, .ref 143), (1, .int X1), (2, .int X2), (3, .int X3)] [] m vV o.2
  refine r_p hq 2 (pc' := 3) (L' := [(0, .ref 143), (1, .int X1), (2, .int X2), (3, .int X3), (4, .int ((0 : Int32)))]) (st' := []) rfl ?_
  exact g_m_cuts_L3_ok zK hx1 hx2 hx3 (rfl : (0 : Int32).toInt = 0) H h
def g_m_writes_L62 (x1 : Int) (x2 : Int) (x3 : Int) (σ : zS) : Option (Unit × zS) :=
  let v_68 := σ 144 14
  if v_68 ≠ 2 then
    some ((), σ)
  else
    (g_m_cuts x3 x1 x2 σ).bind fun o_77 =>
    some ((), o_77.2)
set_option maxHeartbeats 4000000 in
theorem g_m_writes_L62_ok {xl : Nat} {xs : Nat → Int32} {X1 : Int32} {x1 : Int} (hx1 : X1.toInt = x1) {X2 : Int32} {x2 : Int} (hx2 : X2.toInt = x2) {X3 : Int32} {x3 : Int} (hx3 : X3.toInt = x3) {σ : zS} {p : Nat} {m : zM} {o : Unit × zS} (H : zRep xl xs p m σ) (h : g_m_writes_L62 x1 x2 x3 σ = some o) : zGo xl xs (fun p' => p = p') 5 200 62 [(0, .ref 143), (1, .int X1), (2, .int X2), (3, .int X3)] [] m vV o.2 := by
  have hq : z_mth 200 = some z_r200 := rfl
  unfold g_m_writes_L62 at h
  refine r_p hq 1 (pc' := 63) (L' := [(0, .ref 143), (1, .int X1), (2, .int X2), (3, .int X3)]) (st' := [.ref 143]) rfl ?_
  refine r_gR (b := 144) (pc' := 66) (L' := [(0, .ref 143), (1, .int X1), (2, .int X2), (3, .int X3)]) H hq (z_at.mk 3 rfl rfl) rfl rfl rfl rfl ?_
  refine r_p hq 1 (pc' := 68) (L' := [(0, .ref 143), (1, .int X1), (2, .int X2), (3, .int X3)]) (st' := [.int ((14 : Int32)), .ref 144]) rfl ?_
  refine r_ia (pc' := 69) (L' := [(0, .ref 143), (1, .int X1), (2, .int X2), (3, .int X3)]) H hq (z_at.mk 1 rfl rfl) (show zAr 144 0 2740 = true from rfl) (rfl : (14 : Int32).toInt = 14) ⟨by decide, by decide⟩ rfl rfl ?_
  intro V_68 hV_68
  refine r_p hq 1 (pc' := 70) (L' := [(0, .ref 143), (1, .int X1), (2, .int X2), (3, .int X3)]) (st' := [.int ((2 : Int32)), .int V_68]) rfl ?_
  rcases z_ite h with ⟨c_70, h⟩ | ⟨c_70, h⟩
  · refine r_t2 (pc' := 80) (L' := []) hq (z_at.mk 3 rfl rfl) rfl hV_68 (rfl : (2 : Int32).toInt = 2) c_70 rfl rfl ?_
    cases h
    exact r_rv hq (z_at.mk 1 rfl rfl) rfl rfl H
  · refine r_f2 (pc' := 73) (L' := [(0, .ref 143), (1, .int X1), (2, .int X2), (3, .int X3)]) hq (z_at.mk 3 rfl rfl) rfl hV_68 (rfl : (2 : Int32).toInt = 2) c_70 rfl rfl ?_
    refine r_p hq 4 (pc' := 77) (L' := [(0, .ref 143), (1, .int X1), (2, .int X2), (3, .int X3)]) (st' := [.int X2, .int X1, .int X3, .ref 143]) rfl ?_
    obtain ⟨o_77, h_77, h⟩ := Option.bind_eq_some_iff.mp h
    refine r_cvV (pc' := 80) (L' := []) (Ps := [.int X3, .int X1, .int X2]) (rest := []) hq (z_at.mk 3 rfl rfl) (Or.inl ⟨rfl, rfl⟩) rfl rfl (by decide) (by decide) rfl (Nat.not_lt.mpr (Nat.le_of_ble_eq_true rfl)) rfl rfl (z_cat_le 0 rfl (by decide)) (z_lgl_le 4 rfl (by decide)) (by decide) (H.tg rfl) (by omega) (g_m_cuts_ok hx3 hx1 hx2 H h_77) rfl rfl ?_
    intro m_77 p_77 e_77 H_77
    subst e_77
    cases h
    exact r_rv hq (z_at.mk 1 rfl rfl) rfl rfl H_77
def g_m_writes_L2 : Nat → Int → Int → Int → zS → Option (Unit × zS)
  | 0, _, _, _, _ => none
  | n + 1, x1, x2, x3, σ =>
    let v_8 := σ 144 0
    if v_8 ≤ x3 then
      some ((), σ)
    else
      (g_m_region_173 x3 σ).bind fun o_13 =>
      (g_m_has 144 o_13.1 x1 x2 o_13.2).bind fun o_26 =>
      if o_26.1 ≠ 0 then
        let v_42 := o_26.2 144 7
        let s_45 := zu o_26.2 144 7 (w32 (v_42 + 1))
        let v_52 := s_45 144 14
        if v_52 ≠ 1 then
          g_m_writes_L62 x1 x2 x3 s_45
        else
          (g_m_goes x3 s_45).bind fun o_59 =>
          g_m_writes_L62 x1 x2 x3 o_59.2
      else
        (g_m_writes_L2 n) x1 x2 (w32 (x3 + 1)) o_26.2
set_option maxHeartbeats 4000000 in
theorem g_m_writes_L2_ok {xl : Nat} {xs : Nat → Int32} : ∀ (n : Nat) {X1 : Int32} {x1 : Int} {X2 : Int32} {x2 : Int} {X3 : Int32} {x3 : Int} {σ : zS} {p : Nat} {m : zM} {o : Unit × zS}, X1.toInt = x1 → X2.toInt = x2 → X3.toInt = x3 → zRep xl xs p m σ → g_m_writes_L2 n x1 x2 x3 σ = some o → zGo xl xs (fun p' => p = p') 5 200 2 [(0, .ref 143), (1, .int X1), (2, .int X2), (3, .int X3)] [] m vV o.2
  | 0, _, _, _, _, _, _, _, _, _, _, _, _, _, _, h => by cases h
  | n + 1, X1, x1, X2, x2, X3, x3, σ, p, m, o, hx1, hx2, hx3, H, h => by
    have hq : z_mth 200 = some z_r200 := rfl
    have ih := fun {X1 : Int32} {x1 : Int} {X2 : Int32} {x2 : Int} {X3 : Int32} {x3 : Int} {σ : zS} {p : Nat} {m : zM} {o : Unit × zS} => g_m_writes_L2_ok (xl := xl) (xs := xs) n (X1 := X1) (x1 := x1) (X2 := X2) (x2 := x2) (X3 := X3) (x3 := x3) (σ := σ) (p := p) (m := m) (o := o)
    unfold g_m_writes_L2 at h
    refine r_p hq 2 (pc' := 4) (L' := [(0, .ref 143), (1, .int X1), (2, .int X2), (3, .int X3)]) (st' := [.ref 143, .int X3]) rfl ?_
    refine r_gR (b := 144) (pc' := 7) (L' := [(0, .ref 143), (1, .int X1), (2, .int X2), (3, .int X3)]) H hq (z_at.mk 3 rfl rfl) rfl rfl rfl rfl ?_
    refine r_p hq 1 (pc' := 8) (L' := [(0, .ref 143), (1, .int X1), (2, .int X2), (3, .int X3)]) (st' := [.int ((0 : Int32)), .ref 144, .int X3]) rfl ?_
    refine r_ia (pc' := 9) (L' := [(0, .ref 143), (1, .int X1), (2, .int X2), (3, .int X3)]) H hq (z_at.mk 1 rfl rfl) (show zAr 144 0 2740 = true from rfl) (rfl : (0 : Int32).toInt = 0) ⟨by decide, by decide⟩ rfl rfl ?_
    intro V_8 hV_8
    rcases z_ite h with ⟨c_9, h⟩ | ⟨c_9, h⟩
    · refine r_t2 (pc' := 87) (L' := [(0, .ref 143), (1, .int X1), (2, .int X2), (3, .int X3)]) hq (z_at.mk 3 rfl rfl) rfl hx3 hV_8 c_9 rfl rfl ?_
      cases h
      exact r_rv hq (z_at.mk 1 rfl rfl) rfl rfl H
    · refine r_f2 (pc' := 12) (L' := [(0, .ref 143), (1, .int X1), (2, .int X2), (3, .int X3)]) hq (z_at.mk 3 rfl rfl) rfl hx3 hV_8 c_9 rfl rfl ?_
      refine r_p hq 1 (pc' := 13) (L' := [(0, .ref 143), (1, .int X1), (2, .int X2), (3, .int X3)]) (st' := [.int X3]) rfl ?_
      obtain ⟨o_13, h_13, h⟩ := Option.bind_eq_some_iff.mp h
      refine r_csI (pc' := 16) (L' := [(0, .ref 143), (1, .int X1), (2, .int X2), (3, .int X3)]) (As := [.int X3]) (rest := []) (j := 173) hq (z_at.mk 3 rfl rfl) (Or.inl ⟨rfl, rfl⟩) rfl rfl (by omega) (g_m_region_173_ok hx3 H h_13) rfl rfl ?_
      intro R_13 m_13 p_13 e_13 hR_13 H_13
      subst e_13
      refine r_p hq 2 (pc' := 19) (L' := [(4, .int R_13), (0, .ref 143), (1, .int X1), (2, .int X2), (3, .int X3)]) (st' := [.ref 143]) rfl ?_
      refine r_gR (b := 144) (pc' := 22) (L' := [(4, .int R_13), (0, .ref 143), (1, .int X1), (2, .int X2), (3, .int X3)]) H_13 hq (z_at.mk 3 rfl rfl) rfl rfl rfl rfl ?_
      refine r_p hq 3 (pc' := 26) (L' := [(4, .int R_13), (0, .ref 143), (1, .int X1), (2, .int X2), (3, .int X3)]) (st' := [.int X2, .int X1, .int R_13, .ref 144]) rfl ?_
      obtain ⟨o_26, h_26, h⟩ := Option.bind_eq_some_iff.mp h
      refine r_csI (pc' := 29) (L' := [(4, .int R_13), (0, .ref 143), (1, .int X1), (2, .int X2), (3, .int X3)]) (As := [.ref 144, .int R_13, .int X1, .int X2]) (rest := []) (j := 168) hq (z_at.mk 3 rfl rfl) (Or.inl ⟨rfl, rfl⟩) rfl rfl (by omega) (g_m_has_ok rfl hR_13 hx1 hx2 H_13 h_26) rfl rfl ?_
      intro R_26 m_26 p_26 e_26 hR_26 H_26
      subst e_26
      rcases z_ite h with ⟨c_29, h⟩ | ⟨c_29, h⟩
      · refine r_t1 (pc' := 35) (L' := [(4, .int R_13), (0, .ref 143), (1, .int X1), (2, .int X2), (3, .int X3)]) hq (z_at.mk 3 rfl rfl) rfl hR_26 c_29 rfl rfl ?_
        refine r_p hq 1 (pc' := 36) (L' := [(4, .int R_13), (0, .ref 143), (1, .int X1), (2, .int X2), (3, .int X3)]) (st' := [.ref 143]) rfl ?_
        refine r_gR (b := 144) (pc' := 39) (L' := [(4, .int R_13), (0, .ref 143), (1, .int X1), (2, .int X2), (3, .int X3)]) H_26 hq (z_at.mk 3 rfl rfl) rfl rfl rfl rfl ?_
        refine r_p hq 2 (pc' := 42) (L' := [(4, .int R_13), (0, .ref 143), (1, .int X1), (2, .int X2), (3, .int X3)]) (st' := [.int ((7 : Int32)), .ref 144, .int ((7 : Int32)), .ref 144]) rfl ?_
        refine r_ia (pc' := 43) (L' := [(4, .int R_13), (0, .ref 143), (1, .int X1), (2, .int X2), (3, .int X3)]) H_26 hq (z_at.mk 1 rfl rfl) (show zAr 144 0 2740 = true from rfl) (rfl : (7 : Int32).toInt = 7) ⟨by decide, by decide⟩ rfl rfl ?_
        intro V_42 hV_42
        refine r_p hq 2 (pc' := 45) (L' := [(4, .int R_13), (0, .ref 143), (1, .int X1), (2, .int X2), (3, .int X3)]) (st' := [.int (V_42 + ((1 : Int32))), .int ((7 : Int32)), .ref 144]) rfl ?_
        refine r_is (pc' := 46) (L' := [(4, .int R_13), (0, .ref 143), (1, .int X1), (2, .int X2), (3, .int X3)]) H_26 hq (z_at.mk 1 rfl rfl) (show zAr 144 0 2740 = true from rfl) (rfl : (7 : Int32).toInt = 7) ⟨by decide, by decide⟩ (tx_iadd hV_42 (rfl : (1 : Int32).toInt = 1)) rfl rfl ?_
        intro m_45 H_45
        refine r_p hq 1 (pc' := 47) (L' := [(4, .int R_13), (0, .ref 143), (1, .int X1), (2, .int X2), (3, .int X3)]) (st' := [.ref 143]) rfl ?_
        refine r_gR (b := 144) (pc' := 50) (L' := [(4, .int R_13), (0, .ref 143), (1, .int X1), (2, .int X2), (3, .int X3)]) H_45 hq (z_at.mk 3 rfl rfl) rfl rfl rfl rfl ?_
        refine r_p hq 1 (pc' := 52) (L' := [(4, .int R_13), (0, .ref 143), (1, .int X1), (2, .int X2), (3, .int X3)]) (st' := [.int ((14 : Int32)), .ref 144]) rfl ?_
        refine r_ia (pc' := 53) (L' := [(4, .int R_13), (0, .ref 143), (1, .int X1), (2, .int X2), (3, .int X3)]) H_45 hq (z_at.mk 1 rfl rfl) (show zAr 144 0 2740 = true from rfl) (rfl : (14 : Int32).toInt = 14) ⟨by decide, by decide⟩ rfl rfl ?_
        intro V_52 hV_52
        refine r_p hq 1 (pc' := 54) (L' := [(4, .int R_13), (0, .ref 143), (1, .int X1), (2, .int X2), (3, .int X3)]) (st' := [.int ((1 : Int32)), .int V_52]) rfl ?_
        rcases z_ite h with ⟨c_54, h⟩ | ⟨c_54, h⟩
        · refine r_t2 (pc' := 62) (L' := [(0, .ref 143), (1, .int X1), (2, .int X2), (3, .int X3)]) hq (z_at.mk 3 rfl rfl) rfl hV_52 (rfl : (1 : Int32).toInt = 1) c_54 rfl rfl ?_
          exact g_m_writes_L62_ok hx1 hx2 hx3 H_45 h
        · refine r_f2 (pc' := 57) (L' := [(4, .int R_13), (0, .ref 143), (1, .int X1), (2, .int X2), (3, .int X3)]) hq (z_at.mk 3 rfl rfl) rfl hV_52 (rfl : (1 : Int32).toInt = 1) c_54 rfl rfl ?_
          refine r_p hq 2 (pc' := 59) (L' := [(4, .int R_13), (0, .ref 143), (1, .int X1), (2, .int X2), (3, .int X3)]) (st' := [.int X3, .ref 143]) rfl ?_
          obtain ⟨o_59, h_59, h⟩ := Option.bind_eq_some_iff.mp h
          refine r_cvV (pc' := 62) (L' := [(0, .ref 143), (1, .int X1), (2, .int X2), (3, .int X3)]) (Ps := [.int X3]) (rest := []) hq (z_at.mk 3 rfl rfl) (Or.inl ⟨rfl, rfl⟩) rfl rfl (by decide) (by decide) rfl (Nat.not_lt.mpr (Nat.le_of_ble_eq_true rfl)) rfl rfl (z_cat_le 0 rfl (by decide)) (z_lgl_le 2 rfl (by decide)) (by decide) (H_45.tg rfl) (by omega) (g_m_goes_ok hx3 H_45 h_59) rfl rfl ?_
          intro m_59 p_59 e_59 H_59
          subst e_59
          exact g_m_writes_L62_ok hx1 hx2 hx3 H_59 h
      · refine r_f1 (pc' := 32) (L' := [(4, .int R_13), (0, .ref 143), (1, .int X1), (2, .int X2), (3, .int X3)]) hq (z_at.mk 3 rfl rfl) rfl hR_26 c_29 rfl rfl ?_
        refine r_p hq 3 (pc' := 2) (L' := [(0, .ref 143), (1, .int X1), (2, .int X2), (3, .int (X3 + (1 : Int32)))]) (st' := []) rfl ?_
        exact ih hx1 hx2 (tx_iadd hx3 (rfl : (1 : Int32).toInt = 1)) H_26 h
def g_m_writes (x1 : Int) (x2 : Int) (σ : zS) : Option (Unit × zS) :=
  g_m_writes_L2 zK x1 x2 0 σ
set_option maxHeartbeats 4000000 in
theorem g_m_writes_ok {xl : Nat} {xs : Nat → Int32} {X1 : Int32} {x1 : Int} (hx1 : X1.toInt = x1) {X2 : Int32} {x2 : Int} (hx2 : X2.toInt = x2) {σ : zS} {p : Nat} {m : zM} {o : Unit × zS} (H : zRep xl xs p m σ) (h : g_m_writes x1 x2 σ = some o) : zGo xl xs (fun p' => p = p') 5 200 0 (z_can 200 0 (lv_args 0 [.ref 143, .int X1, .int X2])) [] m vV o.2 := by
  have hq : z_mth 200 = some z_r200 := rfl
  unfold g_m_writes at h
  show zGo xl xs (fun p' => p = p') 5 200 0 [(0, .ref 143), (1, .int X1), (2, .int X2)] [] m vV o.2
  refine r_p hq 2 (pc' := 2) (L' := [(0, .ref 143), (1, .int X1), (2, .int X2), (3, .int ((0 : Int32)))]) (st' := []) rfl ?_
  exact g_m_writes_L2_ok zK hx1 hx2 (rfl : (0 : Int32).toInt = 0) H h
def g_m_isWatch (x1 : Int) (σ : zS) : Option (Int × zS) :=
  let v_8 := σ 144 10
  (g_m_isIn x1 0 (w32 (v_8 - 1)) σ).bind fun o_11 =>
  if o_11.1 = 0 ∨ o_11.1 = 1 then some (o_11.1, o_11.2) else none
set_option maxHeartbeats 4000000 in
theorem g_m_isWatch_ok {xl : Nat} {xs : Nat → Int32} {X1 : Int32} {x1 : Int} (hx1 : X1.toInt = x1) {σ : zS} {p : Nat} {m : zM} {o : Int × zS} (H : zRep xl xs p m σ) (h : g_m_isWatch x1 σ = some o) : zGo xl xs (fun p' => p = p') 2 259 0 (z_can 259 0 (lv_args 0 [.ref 143, .int X1])) [] m (vI o.1) o.2 := by
  have hq : z_mth 259 = some z_r259 := rfl
  unfold g_m_isWatch at h
  show zGo xl xs (fun p' => p = p') 2 259 0 [(0, .ref 143), (1, .int X1)] [] m (vI o.1) o.2
  refine r_p hq 3 (pc' := 3) (L' := [(0, .ref 143), (1, .int X1)]) (st' := [.ref 143, .int ((0 : Int32)), .int X1]) rfl ?_
  refine r_gR (b := 144) (pc' := 6) (L' := [(0, .ref 143), (1, .int X1)]) H hq (z_at.mk 3 rfl rfl) rfl rfl rfl rfl ?_
  refine r_p hq 1 (pc' := 8) (L' := [(0, .ref 143), (1, .int X1)]) (st' := [.int ((10 : Int32)), .ref 144, .int ((0 : Int32)), .int X1]) rfl ?_
  refine r_ia (pc' := 9) (L' := [(0, .ref 143), (1, .int X1)]) H hq (z_at.mk 1 rfl rfl) (show zAr 144 0 2740 = true from rfl) (rfl : (10 : Int32).toInt = 10) ⟨by decide, by decide⟩ rfl rfl ?_
  intro V_8 hV_8
  refine r_p hq 2 (pc' := 11) (L' := [(0, .ref 143), (1, .int X1)]) (st' := [.int (V_8 - ((1 : Int32))), .int ((0 : Int32)), .int X1]) rfl ?_
  obtain ⟨o_11, h_11, h⟩ := Option.bind_eq_some_iff.mp h
  refine r_csI (pc' := 14) (L' := [(0, .ref 143), (1, .int X1)]) (As := [.int X1, .int ((0 : Int32)), .int (V_8 - ((1 : Int32)))]) (rest := []) (j := 159) hq (z_at.mk 3 rfl rfl) (Or.inl ⟨rfl, rfl⟩) rfl rfl (by omega) (g_m_isIn_ok hx1 (rfl : (0 : Int32).toInt = 0) (tx_isub hV_8 (rfl : (1 : Int32).toInt = 1)) H h_11) rfl rfl ?_
  intro R_11 m_11 p_11 e_11 hR_11 H_11
  subst e_11
  obtain ⟨g_14, h⟩ := z_if_some h
  cases h
  exact r_ri hq (z_at.mk 1 rfl rfl) rfl (z_rty_bo hR_11 g_14) hR_11 rfl H_11
def g_m_value (x1 : Int) (σ : zS) : Option (Int × zS) :=
  (g_m_isWatch x1 σ).bind fun o_2 =>
  if o_2.1 ≠ 0 then
    (g_m_gathers 144 (w32 ((w32 (300 + (w32 (6 * x1)))) + 1)) (-1) o_2.2).bind fun o_28 =>
    if 0 ≤ w32 (300 + (w32 (6 * x1))) ∧ w32 (300 + (w32 (6 * x1))) < 2740 then
    let v_44 := o_28.2 144 (w32 (300 + (w32 (6 * x1))))
    (g_m_measured v_44 o_28.2).bind fun o_45 =>
    some (o_45.1, o_45.2)
    else none
  else
    some (-9223372036854775808, o_2.2)
set_option maxHeartbeats 4000000 in
theorem g_m_value_ok {xl : Nat} {xs : Nat → Int32} {X1 : Int32} {x1 : Int} (hx1 : X1.toInt = x1) {σ : zS} {p : Nat} {m : zM} {o : Int × zS} (H : zRep xl xs p m σ) (h : g_m_value x1 σ = some o) : zGo xl xs (fun p' => p = p') 506 260 0 (z_can 260 0 (lv_args 0 [.ref 143, .int X1])) [] m (vL o.1) o.2 := by
  have hq : z_mth 260 = some z_r260 := rfl
  unfold g_m_value at h
  show zGo xl xs (fun p' => p = p') 506 260 0 [(0, .ref 143), (1, .int X1)] [] m (vL o.1) o.2
  refine r_p hq 2 (pc' := 2) (L' := [(0, .ref 143), (1, .int X1)]) (st' := [.int X1, .ref 143]) rfl ?_
  obtain ⟨o_2, h_2, h⟩ := Option.bind_eq_some_iff.mp h
  refine r_cvI (pc' := 5) (L' := [(0, .ref 143), (1, .int X1)]) (Ps := [.int X1]) (rest := []) hq (z_at.mk 3 rfl rfl) (Or.inl ⟨rfl, rfl⟩) rfl rfl (by decide) (by decide) rfl (Nat.not_lt.mpr (Nat.le_of_ble_eq_true rfl)) rfl rfl (z_cat_le 0 rfl (by decide)) (z_lgl_le 2 rfl (by decide)) (by decide) (H.tg rfl) (by omega) (g_m_isWatch_ok hx1 H h_2) rfl rfl ?_
  intro R_2 m_2 p_2 e_2 hR_2 H_2
  subst e_2
  rcases z_ite h with ⟨c_5, h⟩ | ⟨c_5, h⟩
  · refine r_t1 (pc' := 12) (L' := [(0, .ref 143), (1, .int X1)]) hq (z_at.mk 3 rfl rfl) rfl hR_2 c_5 rfl rfl ?_
    refine r_p hq 2 (pc' := 14) (L' := [(0, .ref 143), (1, .int X1)]) (st' := [.ref 143, .ref 143]) rfl ?_
    refine r_gR (b := 144) (pc' := 17) (L' := [(0, .ref 143), (1, .int X1)]) H_2 hq (z_at.mk 3 rfl rfl) rfl rfl rfl rfl ?_
    refine r_p hq 8 (pc' := 28) (L' := [(0, .ref 143), (1, .int X1)]) (st' := [.int ((-1 : Int32)), .int ((((300 : Int32)) + (((6 : Int32)) * X1)) + ((1 : Int32))), .ref 144, .ref 143]) rfl ?_
    obtain ⟨o_28, h_28, h⟩ := Option.bind_eq_some_iff.mp h
    refine r_cvV (pc' := 31) (L' := [(0, .ref 143), (1, .int X1)]) (Ps := [.ref 144, .int ((((300 : Int32)) + (((6 : Int32)) * X1)) + ((1 : Int32))), .int ((-1 : Int32))]) (rest := []) hq (z_at.mk 3 rfl rfl) (Or.inl ⟨rfl, rfl⟩) rfl rfl (by decide) (by decide) rfl (Nat.not_lt.mpr (Nat.le_of_ble_eq_true rfl)) rfl rfl (z_cat_le 0 rfl (by decide)) (z_lgl_le 4 rfl (by decide)) (by decide) (H_2.tg rfl) (by omega) (g_m_gathers_ok rfl (tx_iadd (tx_iadd (rfl : (300 : Int32).toInt = 300) (tx_imul (rfl : (6 : Int32).toInt = 6) hx1)) (rfl : (1 : Int32).toInt = 1)) (rfl : (-1 : Int32).toInt = -1) H_2 h_28) rfl rfl ?_
    intro m_28 p_28 e_28 H_28
    subst e_28
    refine r_p hq 2 (pc' := 33) (L' := [(0, .ref 143), (1, .int X1)]) (st' := [.ref 143, .ref 143]) rfl ?_
    refine r_gR (b := 144) (pc' := 36) (L' := [(0, .ref 143), (1, .int X1)]) H_28 hq (z_at.mk 3 rfl rfl) rfl rfl rfl rfl ?_
    refine r_p hq 5 (pc' := 44) (L' := [(0, .ref 143), (1, .int X1)]) (st' := [.int (((300 : Int32)) + (((6 : Int32)) * X1)), .ref 144, .ref 143]) rfl ?_
    obtain ⟨g_44, h⟩ := z_ifo_some h
    refine r_ia (pc' := 45) (L' := [(0, .ref 143), (1, .int X1)]) H_28 hq (z_at.mk 1 rfl rfl) (show zAr 144 0 2740 = true from rfl) (tx_iadd (rfl : (300 : Int32).toInt = 300) (tx_imul (rfl : (6 : Int32).toInt = 6) hx1)) g_44 rfl rfl ?_
    intro V_44 hV_44
    obtain ⟨o_45, h_45, h⟩ := Option.bind_eq_some_iff.mp h
    refine r_cvL (pc' := 48) (L' := [(0, .ref 143), (1, .int X1)]) (Ps := [.int V_44]) (rest := []) hq (z_at.mk 3 rfl rfl) (Or.inl ⟨rfl, rfl⟩) rfl rfl (by decide) (by decide) rfl (Nat.not_lt.mpr (Nat.le_of_ble_eq_true rfl)) rfl rfl (z_cat_le 0 rfl (by decide)) (z_lgl_le 2 rfl (by decide)) (by decide) (H_28.tg rfl) (by omega) (g_m_measured_ok hV_44 H_28 h_45) rfl rfl ?_
    intro R_45 m_45 p_45 e_45 hR_45 H_45
    subst e_45
    cases h
    exact r_rl hq (z_at.mk 1 rfl rfl) rfl hR_45 rfl H_45
  · refine r_f1 (pc' := 8) (L' := [(0, .ref 143), (1, .int X1)]) hq (z_at.mk 3 rfl rfl) rfl hR_2 c_5 rfl rfl ?_
    refine r_p hq 1 (pc' := 11) (L' := [(0, .ref 143), (1, .int X1)]) (st' := [.long ((-9223372036854775808 : Int64))]) rfl ?_
    cases h
    exact r_rl hq (z_at.mk 1 rfl rfl) rfl (rfl : (-9223372036854775808 : Int64).toInt = -9223372036854775808) rfl H_2
def g_m_values_L2 : Nat → Int → zS → Option (Unit × zS)
  | 0, _, _ => none
  | n + 1, x1, σ =>
    let v_9 := σ 144 10
    if v_9 ≤ x1 then
      some ((), σ)
    else
      (g_m_value x1 σ).bind fun o_20 =>
      if 0 ≤ x1 ∧ x1 < 6 then
      let s_23 := zu o_20.2 158 x1 o_20.1
      (g_m_values_L2 n) (w32 (x1 + 1)) s_23
      else none
set_option maxHeartbeats 4000000 in
theorem g_m_values_L2_ok {xl : Nat} {xs : Nat → Int32} : ∀ (n : Nat) {X1 : Int32} {x1 : Int} {σ : zS} {p : Nat} {m : zM} {o : Unit × zS}, X1.toInt = x1 → zRep xl xs p m σ → g_m_values_L2 n x1 σ = some o → zGo xl xs (fun p' => p = p') 507 202 2 [(0, .ref 143), (1, .int X1)] [] m vV o.2
  | 0, _, _, _, _, _, _, _, _, h => by cases h
  | n + 1, X1, x1, σ, p, m, o, hx1, H, h => by
    have hq : z_mth 202 = some z_r202 := rfl
    have ih := fun {X1 : Int32} {x1 : Int} {σ : zS} {p : Nat} {m : zM} {o : Unit × zS} => g_m_values_L2_ok (xl := xl) (xs := xs) n (X1 := X1) (x1 := x1) (σ := σ) (p := p) (m := m) (o := o)
    unfold g_m_values_L2 at h
    refine r_p hq 2 (pc' := 4) (L' := [(0, .ref 143), (1, .int X1)]) (st' := [.ref 143, .int X1]) rfl ?_
    refine r_gR (b := 144) (pc' := 7) (L' := [(0, .ref 143), (1, .int X1)]) H hq (z_at.mk 3 rfl rfl) rfl rfl rfl rfl ?_
    refine r_p hq 1 (pc' := 9) (L' := [(0, .ref 143), (1, .int X1)]) (st' := [.int ((10 : Int32)), .ref 144, .int X1]) rfl ?_
    refine r_ia (pc' := 10) (L' := [(0, .ref 143), (1, .int X1)]) H hq (z_at.mk 1 rfl rfl) (show zAr 144 0 2740 = true from rfl) (rfl : (10 : Int32).toInt = 10) ⟨by decide, by decide⟩ rfl rfl ?_
    intro V_9 hV_9
    rcases z_ite h with ⟨c_10, h⟩ | ⟨c_10, h⟩
    · refine r_t2 (pc' := 30) (L' := [(0, .ref 143), (1, .int X1)]) hq (z_at.mk 3 rfl rfl) rfl hx1 hV_9 c_10 rfl rfl ?_
      cases h
      exact r_rv hq (z_at.mk 1 rfl rfl) rfl rfl H
    · refine r_f2 (pc' := 13) (L' := [(0, .ref 143), (1, .int X1)]) hq (z_at.mk 3 rfl rfl) rfl hx1 hV_9 c_10 rfl rfl ?_
      refine r_p hq 1 (pc' := 14) (L' := [(0, .ref 143), (1, .int X1)]) (st' := [.ref 143]) rfl ?_
      refine r_gR (b := 158) (pc' := 17) (L' := [(0, .ref 143), (1, .int X1)]) H hq (z_at.mk 3 rfl rfl) rfl rfl rfl rfl ?_
      refine r_p hq 3 (pc' := 20) (L' := [(0, .ref 143), (1, .int X1)]) (st' := [.int X1, .ref 143, .int X1, .ref 158]) rfl ?_
      obtain ⟨o_20, h_20, h⟩ := Option.bind_eq_some_iff.mp h
      refine r_cvL (pc' := 23) (L' := [(0, .ref 143), (1, .int X1)]) (Ps := [.int X1]) (rest := [.int X1, .ref 158]) hq (z_at.mk 3 rfl rfl) (Or.inl ⟨rfl, rfl⟩) rfl rfl (by decide) (by decide) rfl (Nat.not_lt.mpr (Nat.le_of_ble_eq_true rfl)) rfl rfl (z_cat_le 2 rfl (by decide)) (z_lgl_le 2 rfl (by decide)) (by decide) (H.tg rfl) (by omega) (g_m_value_ok hx1 H h_20) rfl rfl ?_
      intro R_20 m_20 p_20 e_20 hR_20 H_20
      subst e_20
      obtain ⟨g_23, h⟩ := z_ifo_some h
      refine r_ls (pc' := 24) (L' := [(0, .ref 143), (1, .int X1)]) H_20 hq (z_at.mk 1 rfl rfl) (show zAr 158 1 6 = true from rfl) hx1 g_23 hR_20 rfl rfl ?_
      intro m_23 H_23
      refine r_p hq 2 (pc' := 2) (L' := [(0, .ref 143), (1, .int (X1 + (1 : Int32)))]) (st' := []) rfl ?_
      exact ih (tx_iadd hx1 (rfl : (1 : Int32).toInt = 1)) H_23 h
def g_m_values (σ : zS) : Option (Unit × zS) :=
  g_m_values_L2 zK 0 σ
set_option maxHeartbeats 4000000 in
theorem g_m_values_ok {xl : Nat} {xs : Nat → Int32} {σ : zS} {p : Nat} {m : zM} {o : Unit × zS} (H : zRep xl xs p m σ) (h : g_m_values σ = some o) : zGo xl xs (fun p' => p = p') 507 202 0 (z_can 202 0 (lv_args 0 [.ref 143])) [] m vV o.2 := by
  have hq : z_mth 202 = some z_r202 := rfl
  unfold g_m_values at h
  show zGo xl xs (fun p' => p = p') 507 202 0 [(0, .ref 143)] [] m vV o.2
  refine r_p hq 2 (pc' := 2) (L' := [(0, .ref 143), (1, .int ((0 : Int32)))]) (st' := []) rfl ?_
  exact g_m_values_L2_ok zK (rfl : (0 : Int32).toInt = 0) H h
def g_m_behind_L53 (g6 : Int → zS → Option (Int × zS)) (x1 : Int) (xs0 : Int) (xs1 : Int) (xs2 : Int) (σ : zS) : Option (Int × zS) :=
  if 0 ≤ xs2 ∧ xs2 < 2740 then
  let s_54 := zu σ 144 xs2 (w32 (xs1 + xs0))
  g6 (w32 (x1 + 1)) s_54
  else none
set_option maxHeartbeats 4000000 in
theorem g_m_behind_L53_ok {xl : Nat} {xs : Nat → Int32} {g6 : Int → zS → Option (Int × zS)} (hg6 : ∀ {X1 : Int32} {x1 : Int} {σ : zS} {p : Nat} {m : zM} {o : Int × zS}, X1.toInt = x1 → zRep xl xs p m σ → g6 x1 σ = some o → zGo xl xs (fun p' => p = p') 507 203 6 [(0, .ref 143), (1, .int X1)] [] m (vI o.1) o.2) {X1 : Int32} {x1 : Int} (hx1 : X1.toInt = x1) {Xs0 : Int32} {xs0 : Int} (hxs0 : Xs0.toInt = xs0) {Xs1 : Int32} {xs1 : Int} (hxs1 : Xs1.toInt = xs1) {Xs2 : Int32} {xs2 : Int} (hxs2 : Xs2.toInt = xs2) {σ : zS} {p : Nat} {m : zM} {o : Int × zS} (H : zRep xl xs p m σ) (h : g_m_behind_L53 g6 x1 xs0 xs1 xs2 σ = some o) : zGo xl xs (fun p' => p = p') 507 203 53 [(0, .ref 143), (1, .int X1)] [.int Xs0, .int Xs1, .int Xs2, .ref 144] m (vI o.1) o.2 := by
  have hq : z_mth 203 = some z_r203 := rfl
  unfold g_m_behind_L53 at h
  refine r_p hq 1 (pc' := 54) (L' := [(0, .ref 143), (1, .int X1)]) (st' := [.int (Xs1 + Xs0), .int Xs2, .ref 144]) rfl ?_
  obtain ⟨g_54, h⟩ := z_ifo_some h
  refine r_is (pc' := 55) (L' := [(0, .ref 143), (1, .int X1)]) H hq (z_at.mk 1 rfl rfl) (show zAr 144 0 2740 = true from rfl) hxs2 g_54 (tx_iadd hxs1 hxs0) rfl rfl ?_
  intro m_54 H_54
  refine r_p hq 2 (pc' := 6) (L' := [(0, .ref 143), (1, .int (X1 + (1 : Int32)))]) (st' := []) rfl ?_
  exact hg6 (tx_iadd hx1 (rfl : (1 : Int32).toInt = 1)) H_54 h
def g_m_behind_L6 : Nat → Int → zS → Option (Int × zS)
  | 0, _, _ => none
  | n + 1, x1, σ =>
    let v_13 := σ 144 10
    if v_13 ≤ x1 then
      let v_66 := σ 144 0
      some (v_66, σ)
    else
      if 0 ≤ w32 ((w32 (300 + (w32 (6 * x1)))) + 5) ∧ w32 ((w32 (300 + (w32 (6 * x1)))) + 5) < 2740 then
      let v_32 := σ 144 (w32 ((w32 (300 + (w32 (6 * x1)))) + 5))
      (g_m_value x1 σ).bind fun o_35 =>
      if 0 ≤ x1 ∧ x1 < 6 then
      let v_43 := o_35.2 158 x1
      if lCmp o_35.1 v_43 = 0 then
        g_m_behind_L53 ((g_m_behind_L6 n)) x1 0 v_32 (w32 ((w32 (300 + (w32 (6 * x1)))) + 5)) o_35.2
      else
        g_m_behind_L53 ((g_m_behind_L6 n)) x1 1 v_32 (w32 ((w32 (300 + (w32 (6 * x1)))) + 5)) o_35.2
      else none
      else none
set_option maxHeartbeats 4000000 in
theorem g_m_behind_L6_ok {xl : Nat} {xs : Nat → Int32} : ∀ (n : Nat) {X1 : Int32} {x1 : Int} {σ : zS} {p : Nat} {m : zM} {o : Int × zS}, X1.toInt = x1 → zRep xl xs p m σ → g_m_behind_L6 n x1 σ = some o → zGo xl xs (fun p' => p = p') 507 203 6 [(0, .ref 143), (1, .int X1)] [] m (vI o.1) o.2
  | 0, _, _, _, _, _, _, _, _, h => by cases h
  | n + 1, X1, x1, σ, p, m, o, hx1, H, h => by
    have hq : z_mth 203 = some z_r203 := rfl
    have ih := fun {X1 : Int32} {x1 : Int} {σ : zS} {p : Nat} {m : zM} {o : Int × zS} => g_m_behind_L6_ok (xl := xl) (xs := xs) n (X1 := X1) (x1 := x1) (σ := σ) (p := p) (m := m) (o := o)
    unfold g_m_behind_L6 at h
    refine r_p hq 2 (pc' := 8) (L' := [(0, .ref 143), (1, .int X1)]) (st' := [.ref 143, .int X1]) rfl ?_
    refine r_gR (b := 144) (pc' := 11) (L' := [(0, .ref 143), (1, .int X1)]) H hq (z_at.mk 3 rfl rfl) rfl rfl rfl rfl ?_
    refine r_p hq 1 (pc' := 13) (L' := [(0, .ref 143), (1, .int X1)]) (st' := [.int ((10 : Int32)), .ref 144, .int X1]) rfl ?_
    refine r_ia (pc' := 14) (L' := [(0, .ref 143), (1, .int X1)]) H hq (z_at.mk 1 rfl rfl) (show zAr 144 0 2740 = true from rfl) (rfl : (10 : Int32).toInt = 10) ⟨by decide, by decide⟩ rfl rfl ?_
    intro V_13 hV_13
    rcases z_ite h with ⟨c_14, h⟩ | ⟨c_14, h⟩
    · refine r_t2 (pc' := 61) (L' := [(0, .ref 143), (1, .int X1)]) hq (z_at.mk 3 rfl rfl) rfl hx1 hV_13 c_14 rfl rfl ?_
      refine r_p hq 1 (pc' := 62) (L' := [(0, .ref 143), (1, .int X1)]) (st' := [.ref 143]) rfl ?_
      refine r_gR (b := 144) (pc' := 65) (L' := [(0, .ref 143), (1, .int X1)]) H hq (z_at.mk 3 rfl rfl) rfl rfl rfl rfl ?_
      refine r_p hq 1 (pc' := 66) (L' := [(0, .ref 143), (1, .int X1)]) (st' := [.int ((0 : Int32)), .ref 144]) rfl ?_
      refine r_ia (pc' := 67) (L' := [(0, .ref 143), (1, .int X1)]) H hq (z_at.mk 1 rfl rfl) (show zAr 144 0 2740 = true from rfl) (rfl : (0 : Int32).toInt = 0) ⟨by decide, by decide⟩ rfl rfl ?_
      intro V_66 hV_66
      cases h
      exact r_ri hq (z_at.mk 1 rfl rfl) rfl rfl hV_66 rfl H
    · refine r_f2 (pc' := 17) (L' := [(0, .ref 143), (1, .int X1)]) hq (z_at.mk 3 rfl rfl) rfl hx1 hV_13 c_14 rfl rfl ?_
      refine r_p hq 1 (pc' := 18) (L' := [(0, .ref 143), (1, .int X1)]) (st' := [.ref 143]) rfl ?_
      refine r_gR (b := 144) (pc' := 21) (L' := [(0, .ref 143), (1, .int X1)]) H hq (z_at.mk 3 rfl rfl) rfl rfl rfl rfl ?_
      refine r_p hq 8 (pc' := 32) (L' := [(0, .ref 143), (1, .int X1)]) (st' := [.int ((((300 : Int32)) + (((6 : Int32)) * X1)) + ((5 : Int32))), .ref 144, .int ((((300 : Int32)) + (((6 : Int32)) * X1)) + ((5 : Int32))), .ref 144]) rfl ?_
      obtain ⟨g_32, h⟩ := z_ifo_some h
      refine r_ia (pc' := 33) (L' := [(0, .ref 143), (1, .int X1)]) H hq (z_at.mk 1 rfl rfl) (show zAr 144 0 2740 = true from rfl) (tx_iadd (tx_iadd (rfl : (300 : Int32).toInt = 300) (tx_imul (rfl : (6 : Int32).toInt = 6) hx1)) (rfl : (5 : Int32).toInt = 5)) g_32 rfl rfl ?_
      intro V_32 hV_32
      refine r_p hq 2 (pc' := 35) (L' := [(0, .ref 143), (1, .int X1)]) (st' := [.int X1, .ref 143, .int V_32, .int ((((300 : Int32)) + (((6 : Int32)) * X1)) + ((5 : Int32))), .ref 144]) rfl ?_
      obtain ⟨o_35, h_35, h⟩ := Option.bind_eq_some_iff.mp h
      refine r_cvL (pc' := 38) (L' := [(0, .ref 143), (1, .int X1)]) (Ps := [.int X1]) (rest := [.int V_32, .int ((((300 : Int32)) + (((6 : Int32)) * X1)) + ((5 : Int32))), .ref 144]) hq (z_at.mk 3 rfl rfl) (Or.inl ⟨rfl, rfl⟩) rfl rfl (by decide) (by decide) rfl (Nat.not_lt.mpr (Nat.le_of_ble_eq_true rfl)) rfl rfl (z_cat_le 3 rfl (by decide)) (z_lgl_le 2 rfl (by decide)) (by decide) (H.tg rfl) (by omega) (g_m_value_ok hx1 H h_35) rfl rfl ?_
      intro R_35 m_35 p_35 e_35 hR_35 H_35
      subst e_35
      refine r_p hq 1 (pc' := 39) (L' := [(0, .ref 143), (1, .int X1)]) (st' := [.ref 143, .long R_35, .int V_32, .int ((((300 : Int32)) + (((6 : Int32)) * X1)) + ((5 : Int32))), .ref 144]) rfl ?_
      refine r_gR (b := 158) (pc' := 42) (L' := [(0, .ref 143), (1, .int X1)]) H_35 hq (z_at.mk 3 rfl rfl) rfl rfl rfl rfl ?_
      refine r_p hq 1 (pc' := 43) (L' := [(0, .ref 143), (1, .int X1)]) (st' := [.int X1, .ref 158, .long R_35, .int V_32, .int ((((300 : Int32)) + (((6 : Int32)) * X1)) + ((5 : Int32))), .ref 144]) rfl ?_
      obtain ⟨g_43, h⟩ := z_ifo_some h
      refine r_la (pc' := 44) (L' := [(0, .ref 143), (1, .int X1)]) H_35 hq (z_at.mk 1 rfl rfl) (show zAr 158 1 6 = true from rfl) hx1 g_43 rfl rfl ?_
      intro V_43 hV_43
      refine r_p hq 1 (pc' := 45) (L' := [(0, .ref 143), (1, .int X1)]) (st' := [.int (lg_cmp R_35 V_43), .int V_32, .int ((((300 : Int32)) + (((6 : Int32)) * X1)) + ((5 : Int32))), .ref 144]) rfl ?_
      rcases z_ite h with ⟨c_45, h⟩ | ⟨c_45, h⟩
      · refine r_t1 (pc' := 52) (L' := [(0, .ref 143), (1, .int X1)]) hq (z_at.mk 3 rfl rfl) rfl (tx_lcmp hR_35 hV_43) c_45 rfl rfl ?_
        refine r_p hq 1 (pc' := 53) (L' := [(0, .ref 143), (1, .int X1)]) (st' := [.int ((0 : Int32)), .int V_32, .int ((((300 : Int32)) + (((6 : Int32)) * X1)) + ((5 : Int32))), .ref 144]) rfl ?_
        exact g_m_behind_L53_ok ih hx1 (rfl : (0 : Int32).toInt = 0) hV_32 (tx_iadd (tx_iadd (rfl : (300 : Int32).toInt = 300) (tx_imul (rfl : (6 : Int32).toInt = 6) hx1)) (rfl : (5 : Int32).toInt = 5)) H_35 h
      · refine r_f1 (pc' := 48) (L' := [(0, .ref 143), (1, .int X1)]) hq (z_at.mk 3 rfl rfl) rfl (tx_lcmp hR_35 hV_43) c_45 rfl rfl ?_
        refine r_p hq 2 (pc' := 53) (L' := [(0, .ref 143), (1, .int X1)]) (st' := [.int ((1 : Int32)), .int V_32, .int ((((300 : Int32)) + (((6 : Int32)) * X1)) + ((5 : Int32))), .ref 144]) rfl ?_
        exact g_m_behind_L53_ok ih hx1 (rfl : (1 : Int32).toInt = 1) hV_32 (tx_iadd (tx_iadd (rfl : (300 : Int32).toInt = 300) (tx_imul (rfl : (6 : Int32).toInt = 6) hx1)) (rfl : (5 : Int32).toInt = 5)) H_35 h
def g_m_behind (σ : zS) : Option (Int × zS) :=
  (g_m_trims σ).bind fun o_1 =>
  g_m_behind_L6 zK 0 o_1.2
set_option maxHeartbeats 4000000 in
theorem g_m_behind_ok {xl : Nat} {xs : Nat → Int32} {σ : zS} {p : Nat} {m : zM} {o : Int × zS} (H : zRep xl xs p m σ) (h : g_m_behind σ = some o) : zGo xl xs (fun p' => p = p') 507 203 0 (z_can 203 0 (lv_args 0 [.ref 143])) [] m (vI o.1) o.2 := by
  have hq : z_mth 203 = some z_r203 := rfl
  unfold g_m_behind at h
  show zGo xl xs (fun p' => p = p') 507 203 0 [(0, .ref 143)] [] m (vI o.1) o.2
  refine r_p hq 1 (pc' := 1) (L' := [(0, .ref 143)]) (st' := [.ref 143]) rfl ?_
  obtain ⟨o_1, h_1, h⟩ := Option.bind_eq_some_iff.mp h
  refine r_cvV (pc' := 4) (L' := [(0, .ref 143)]) (Ps := []) (rest := []) hq (z_at.mk 3 rfl rfl) (Or.inl ⟨rfl, rfl⟩) rfl rfl (by decide) (by decide) rfl (Nat.not_lt.mpr (Nat.le_of_ble_eq_true rfl)) rfl rfl (z_cat_le 0 rfl (by decide)) (z_lgl_le 1 rfl (by decide)) (by decide) (H.tg rfl) (by omega) (g_m_trims_ok H h_1) rfl rfl ?_
  intro m_1 p_1 e_1 H_1
  subst e_1
  refine r_p hq 2 (pc' := 6) (L' := [(0, .ref 143), (1, .int ((0 : Int32)))]) (st' := []) rfl ?_
  exact g_m_behind_L6_ok zK (rfl : (0 : Int32).toInt = 0) H_1 h
def g_m_isRow (x0 : Int) (σ : zS) : Option (Int × zS) :=
  (g_m_isIn x0 0 59 σ).bind fun o_4 =>
  if o_4.1 = 0 ∨ o_4.1 = 1 then some (o_4.1, o_4.2) else none
set_option maxHeartbeats 4000000 in
theorem g_m_isRow_ok {xl : Nat} {xs : Nat → Int32} {X0 : Int32} {x0 : Int} (hx0 : X0.toInt = x0) {σ : zS} {p : Nat} {m : zM} {o : Int × zS} (H : zRep xl xs p m σ) (h : g_m_isRow x0 σ = some o) : zGo xl xs (fun p' => p = p') 2 204 0 (z_can 204 0 (lv_args 0 [.int X0])) [] m (vI o.1) o.2 := by
  have hq : z_mth 204 = some z_r204 := rfl
  unfold g_m_isRow at h
  show zGo xl xs (fun p' => p = p') 2 204 0 [(0, .int X0)] [] m (vI o.1) o.2
  refine r_p hq 3 (pc' := 4) (L' := [(0, .int X0)]) (st' := [.int ((59 : Int32)), .int ((0 : Int32)), .int X0]) rfl ?_
  obtain ⟨o_4, h_4, h⟩ := Option.bind_eq_some_iff.mp h
  refine r_csI (pc' := 7) (L' := [(0, .int X0)]) (As := [.int X0, .int ((0 : Int32)), .int ((59 : Int32))]) (rest := []) (j := 159) hq (z_at.mk 3 rfl rfl) (Or.inl ⟨rfl, rfl⟩) rfl rfl (by omega) (g_m_isIn_ok hx0 (rfl : (0 : Int32).toInt = 0) (rfl : (59 : Int32).toInt = 59) H h_4) rfl rfl ?_
  intro R_4 m_4 p_4 e_4 hR_4 H_4
  subst e_4
  obtain ⟨g_7, h⟩ := z_if_some h
  cases h
  exact r_ri hq (z_at.mk 1 rfl rfl) rfl (z_rty_bo hR_4 g_7) hR_4 rfl H_4
def g_m_out (x1 : Int) (σ : zS) : Option (Unit × zS) :=
  (g_m_rowAt x1 σ).bind fun o_5 =>
  if 0 ≤ o_5.1 ∧ o_5.1 < 2740 then
  let s_9 := zu o_5.2 144 o_5.1 0
  (g_m_rowAt x1 s_9).bind fun o_16 =>
  if 0 ≤ w32 (o_16.1 + 1) ∧ w32 (o_16.1 + 1) < 2740 then
  let v_21 := o_16.2 144 (w32 (o_16.1 + 1))
  (g_m_rowAt x1 o_16.2).bind fun o_27 =>
  if 0 ≤ w32 (o_27.1 + 2) ∧ w32 (o_27.1 + 2) < 2740 then
  let v_32 := o_27.2 144 (w32 (o_27.1 + 2))
  (g_m_writes v_21 v_32 o_27.2).bind fun o_33 =>
  some ((), o_33.2)
  else none
  else none
  else none
set_option maxHeartbeats 4000000 in
theorem g_m_out_ok {xl : Nat} {xs : Nat → Int32} {X1 : Int32} {x1 : Int} (hx1 : X1.toInt = x1) {σ : zS} {p : Nat} {m : zM} {o : Unit × zS} (H : zRep xl xs p m σ) (h : g_m_out x1 σ = some o) : zGo xl xs (fun p' => p = p') 6 205 0 (z_can 205 0 (lv_args 0 [.ref 143, .int X1])) [] m vV o.2 := by
  have hq : z_mth 205 = some z_r205 := rfl
  unfold g_m_out at h
  show zGo xl xs (fun p' => p = p') 6 205 0 [(0, .ref 143), (1, .int X1)] [] m vV o.2
  refine r_p hq 1 (pc' := 1) (L' := [(0, .ref 143), (1, .int X1)]) (st' := [.ref 143]) rfl ?_
  refine r_gR (b := 144) (pc' := 4) (L' := [(0, .ref 143), (1, .int X1)]) H hq (z_at.mk 3 rfl rfl) rfl rfl rfl rfl ?_
  refine r_p hq 1 (pc' := 5) (L' := [(0, .ref 143), (1, .int X1)]) (st' := [.int X1, .ref 144]) rfl ?_
  obtain ⟨o_5, h_5, h⟩ := Option.bind_eq_some_iff.mp h
  refine r_csI (pc' := 8) (L' := [(0, .ref 143), (1, .int X1)]) (As := [.int X1]) (rest := [.ref 144]) (j := 174) hq (z_at.mk 3 rfl rfl) (Or.inl ⟨rfl, rfl⟩) rfl rfl (by omega) (g_m_rowAt_ok hx1 H h_5) rfl rfl ?_
  intro R_5 m_5 p_5 e_5 hR_5 H_5
  subst e_5
  refine r_p hq 1 (pc' := 9) (L' := [(0, .ref 143), (1, .int X1)]) (st' := [.int ((0 : Int32)), .int R_5, .ref 144]) rfl ?_
  obtain ⟨g_9, h⟩ := z_ifo_some h
  refine r_is (pc' := 10) (L' := [(0, .ref 143), (1, .int X1)]) H_5 hq (z_at.mk 1 rfl rfl) (show zAr 144 0 2740 = true from rfl) hR_5 g_9 (rfl : (0 : Int32).toInt = 0) rfl rfl ?_
  intro m_9 H_9
  refine r_p hq 2 (pc' := 12) (L' := [(0, .ref 143), (1, .int X1)]) (st' := [.ref 143, .ref 143]) rfl ?_
  refine r_gR (b := 144) (pc' := 15) (L' := [(0, .ref 143), (1, .int X1)]) H_9 hq (z_at.mk 3 rfl rfl) rfl rfl rfl rfl ?_
  refine r_p hq 1 (pc' := 16) (L' := [(0, .ref 143), (1, .int X1)]) (st' := [.int X1, .ref 144, .ref 143]) rfl ?_
  obtain ⟨o_16, h_16, h⟩ := Option.bind_eq_some_iff.mp h
  refine r_csI (pc' := 19) (L' := [(0, .ref 143), (1, .int X1)]) (As := [.int X1]) (rest := [.ref 144, .ref 143]) (j := 174) hq (z_at.mk 3 rfl rfl) (Or.inl ⟨rfl, rfl⟩) rfl rfl (by omega) (g_m_rowAt_ok hx1 H_9 h_16) rfl rfl ?_
  intro R_16 m_16 p_16 e_16 hR_16 H_16
  subst e_16
  refine r_p hq 2 (pc' := 21) (L' := [(0, .ref 143), (1, .int X1)]) (st' := [.int (R_16 + ((1 : Int32))), .ref 144, .ref 143]) rfl ?_
  obtain ⟨g_21, h⟩ := z_ifo_some h
  refine r_ia (pc' := 22) (L' := [(0, .ref 143), (1, .int X1)]) H_16 hq (z_at.mk 1 rfl rfl) (show zAr 144 0 2740 = true from rfl) (tx_iadd hR_16 (rfl : (1 : Int32).toInt = 1)) g_21 rfl rfl ?_
  intro V_21 hV_21
  refine r_p hq 1 (pc' := 23) (L' := [(0, .ref 143), (1, .int X1)]) (st' := [.ref 143, .int V_21, .ref 143]) rfl ?_
  refine r_gR (b := 144) (pc' := 26) (L' := [(0, .ref 143), (1, .int X1)]) H_16 hq (z_at.mk 3 rfl rfl) rfl rfl rfl rfl ?_
  refine r_p hq 1 (pc' := 27) (L' := [(0, .ref 143), (1, .int X1)]) (st' := [.int X1, .ref 144, .int V_21, .ref 143]) rfl ?_
  obtain ⟨o_27, h_27, h⟩ := Option.bind_eq_some_iff.mp h
  refine r_csI (pc' := 30) (L' := [(0, .ref 143), (1, .int X1)]) (As := [.int X1]) (rest := [.ref 144, .int V_21, .ref 143]) (j := 174) hq (z_at.mk 3 rfl rfl) (Or.inl ⟨rfl, rfl⟩) rfl rfl (by omega) (g_m_rowAt_ok hx1 H_16 h_27) rfl rfl ?_
  intro R_27 m_27 p_27 e_27 hR_27 H_27
  subst e_27
  refine r_p hq 2 (pc' := 32) (L' := [(0, .ref 143), (1, .int X1)]) (st' := [.int (R_27 + ((2 : Int32))), .ref 144, .int V_21, .ref 143]) rfl ?_
  obtain ⟨g_32, h⟩ := z_ifo_some h
  refine r_ia (pc' := 33) (L' := [(0, .ref 143), (1, .int X1)]) H_27 hq (z_at.mk 1 rfl rfl) (show zAr 144 0 2740 = true from rfl) (tx_iadd hR_27 (rfl : (2 : Int32).toInt = 2)) g_32 rfl rfl ?_
  intro V_32 hV_32
  obtain ⟨o_33, h_33, h⟩ := Option.bind_eq_some_iff.mp h
  refine r_cvV (pc' := 36) (L' := [(0, .ref 143), (1, .int X1)]) (Ps := [.int V_21, .int V_32]) (rest := []) hq (z_at.mk 3 rfl rfl) (Or.inl ⟨rfl, rfl⟩) rfl rfl (by decide) (by decide) rfl (Nat.not_lt.mpr (Nat.le_of_ble_eq_true rfl)) rfl rfl (z_cat_le 0 rfl (by decide)) (z_lgl_le 3 rfl (by decide)) (by decide) (H_27.tg rfl) (by omega) (g_m_writes_ok hV_21 hV_32 H_27 h_33) rfl rfl ?_
  intro m_33 p_33 e_33 H_33
  subst e_33
  cases h
  exact r_rv hq (z_at.mk 1 rfl rfl) rfl rfl H_33
def g_m_put_L72 (x1 : Int) (x2 : Int) (x3 : Int) (y4 : Int) (σ : zS) : Option (Int × zS) :=
  (g_m_rowAt x1 σ).bind fun o_77 =>
  if 0 ≤ o_77.1 ∧ o_77.1 < 2740 then
  let s_81 := zu o_77.2 144 o_77.1 1
  (g_m_rowAt x1 s_81).bind fun o_87 =>
  if 0 ≤ w32 (o_87.1 + 1) ∧ w32 (o_87.1 + 1) < 2740 then
  let s_93 := zu o_87.2 144 (w32 (o_87.1 + 1)) x2
  (g_m_rowAt x1 s_93).bind fun o_99 =>
  if 0 ≤ w32 (o_99.1 + 2) ∧ w32 (o_99.1 + 2) < 2740 then
  let s_105 := zu o_99.2 144 (w32 (o_99.1 + 2)) x3
  if 0 ≤ w32 (1 + x1) ∧ w32 (1 + x1) < 361 then
  let s_115 := zu s_105 147 (w32 (1 + x1)) y4
  (g_m_writes x2 x3 s_115).bind fun o_119 =>
  (g_m_behind o_119.2).bind fun o_123 =>
  some (o_123.1, o_123.2)
  else none
  else none
  else none
  else none
set_option maxHeartbeats 4000000 in
theorem g_m_put_L72_ok {xl : Nat} {xs : Nat → Int32} {X1 : Int32} {x1 : Int} (hx1 : X1.toInt = x1) {X2 : Int32} {x2 : Int} (hx2 : X2.toInt = x2) {X3 : Int32} {x3 : Int} (hx3 : X3.toInt = x3) {Y4 : Int64} {y4 : Int} (hy4 : Y4.toInt = y4) {σ : zS} {p : Nat} {m : zM} {o : Int × zS} (H : zRep xl xs p m σ) (h : g_m_put_L72 x1 x2 x3 y4 σ = some o) : zGo xl xs (fun p' => p = p') 508 206 72 [(0, .ref 143), (1, .int X1), (2, .int X2), (3, .int X3), (4, .long Y4)] [] m (vI o.1) o.2 := by
  have hq : z_mth 206 = some z_r206 := rfl
  unfold g_m_put_L72 at h
  refine r_p hq 1 (pc' := 73) (L' := [(0, .ref 143), (1, .int X1), (2, .int X2), (3, .int X3), (4, .long Y4)]) (st' := [.ref 143]) rfl ?_
  refine r_gR (b := 144) (pc' := 76) (L' := [(0, .ref 143), (1, .int X1), (2, .int X2), (3, .int X3), (4, .long Y4)]) H hq (z_at.mk 3 rfl rfl) rfl rfl rfl rfl ?_
  refine r_p hq 1 (pc' := 77) (L' := [(0, .ref 143), (1, .int X1), (2, .int X2), (3, .int X3), (4, .long Y4)]) (st' := [.int X1, .ref 144]) rfl ?_
  obtain ⟨o_77, h_77, h⟩ := Option.bind_eq_some_iff.mp h
  refine r_csI (pc' := 80) (L' := [(0, .ref 143), (1, .int X1), (2, .int X2), (3, .int X3), (4, .long Y4)]) (As := [.int X1]) (rest := [.ref 144]) (j := 174) hq (z_at.mk 3 rfl rfl) (Or.inl ⟨rfl, rfl⟩) rfl rfl (by omega) (g_m_rowAt_ok hx1 H h_77) rfl rfl ?_
  intro R_77 m_77 p_77 e_77 hR_77 H_77
  subst e_77
  refine r_p hq 1 (pc' := 81) (L' := [(0, .ref 143), (1, .int X1), (2, .int X2), (3, .int X3), (4, .long Y4)]) (st' := [.int ((1 : Int32)), .int R_77, .ref 144]) rfl ?_
  obtain ⟨g_81, h⟩ := z_ifo_some h
  refine r_is (pc' := 82) (L' := [(0, .ref 143), (1, .int X1), (2, .int X2), (3, .int X3), (4, .long Y4)]) H_77 hq (z_at.mk 1 rfl rfl) (show zAr 144 0 2740 = true from rfl) hR_77 g_81 (rfl : (1 : Int32).toInt = 1) rfl rfl ?_
  intro m_81 H_81
  refine r_p hq 1 (pc' := 83) (L' := [(0, .ref 143), (1, .int X1), (2, .int X2), (3, .int X3), (4, .long Y4)]) (st' := [.ref 143]) rfl ?_
  refine r_gR (b := 144) (pc' := 86) (L' := [(0, .ref 143), (1, .int X1), (2, .int X2), (3, .int X3), (4, .long Y4)]) H_81 hq (z_at.mk 3 rfl rfl) rfl rfl rfl rfl ?_
  refine r_p hq 1 (pc' := 87) (L' := [(0, .ref 143), (1, .int X1), (2, .int X2), (3, .int X3), (4, .long Y4)]) (st' := [.int X1, .ref 144]) rfl ?_
  obtain ⟨o_87, h_87, h⟩ := Option.bind_eq_some_iff.mp h
  refine r_csI (pc' := 90) (L' := [(0, .ref 143), (1, .int X1), (2, .int X2), (3, .int X3), (4, .long Y4)]) (As := [.int X1]) (rest := [.ref 144]) (j := 174) hq (z_at.mk 3 rfl rfl) (Or.inl ⟨rfl, rfl⟩) rfl rfl (by omega) (g_m_rowAt_ok hx1 H_81 h_87) rfl rfl ?_
  intro R_87 m_87 p_87 e_87 hR_87 H_87
  subst e_87
  refine r_p hq 3 (pc' := 93) (L' := [(0, .ref 143), (1, .int X1), (2, .int X2), (3, .int X3), (4, .long Y4)]) (st' := [.int X2, .int (R_87 + ((1 : Int32))), .ref 144]) rfl ?_
  obtain ⟨g_93, h⟩ := z_ifo_some h
  refine r_is (pc' := 94) (L' := [(0, .ref 143), (1, .int X1), (2, .int X2), (3, .int X3), (4, .long Y4)]) H_87 hq (z_at.mk 1 rfl rfl) (show zAr 144 0 2740 = true from rfl) (tx_iadd hR_87 (rfl : (1 : Int32).toInt = 1)) g_93 hx2 rfl rfl ?_
  intro m_93 H_93
  refine r_p hq 1 (pc' := 95) (L' := [(0, .ref 143), (1, .int X1), (2, .int X2), (3, .int X3), (4, .long Y4)]) (st' := [.ref 143]) rfl ?_
  refine r_gR (b := 144) (pc' := 98) (L' := [(0, .ref 143), (1, .int X1), (2, .int X2), (3, .int X3), (4, .long Y4)]) H_93 hq (z_at.mk 3 rfl rfl) rfl rfl rfl rfl ?_
  refine r_p hq 1 (pc' := 99) (L' := [(0, .ref 143), (1, .int X1), (2, .int X2), (3, .int X3), (4, .long Y4)]) (st' := [.int X1, .ref 144]) rfl ?_
  obtain ⟨o_99, h_99, h⟩ := Option.bind_eq_some_iff.mp h
  refine r_csI (pc' := 102) (L' := [(0, .ref 143), (1, .int X1), (2, .int X2), (3, .int X3), (4, .long Y4)]) (As := [.int X1]) (rest := [.ref 144]) (j := 174) hq (z_at.mk 3 rfl rfl) (Or.inl ⟨rfl, rfl⟩) rfl rfl (by omega) (g_m_rowAt_ok hx1 H_93 h_99) rfl rfl ?_
  intro R_99 m_99 p_99 e_99 hR_99 H_99
  subst e_99
  refine r_p hq 3 (pc' := 105) (L' := [(0, .ref 143), (1, .int X1), (2, .int X2), (3, .int X3), (4, .long Y4)]) (st' := [.int X3, .int (R_99 + ((2 : Int32))), .ref 144]) rfl ?_
  obtain ⟨g_105, h⟩ := z_ifo_some h
  refine r_is (pc' := 106) (L' := [(0, .ref 143), (1, .int X1), (2, .int X2), (3, .int X3), (4, .long Y4)]) H_99 hq (z_at.mk 1 rfl rfl) (show zAr 144 0 2740 = true from rfl) (tx_iadd hR_99 (rfl : (2 : Int32).toInt = 2)) g_105 hx3 rfl rfl ?_
  intro m_105 H_105
  refine r_p hq 1 (pc' := 107) (L' := [(0, .ref 143), (1, .int X1), (2, .int X2), (3, .int X3), (4, .long Y4)]) (st' := [.ref 143]) rfl ?_
  refine r_gR (b := 147) (pc' := 110) (L' := [(0, .ref 143), (1, .int X1), (2, .int X2), (3, .int X3), (4, .long Y4)]) H_105 hq (z_at.mk 3 rfl rfl) rfl rfl rfl rfl ?_
  refine r_p hq 4 (pc' := 115) (L' := [(0, .ref 143), (1, .int X1), (2, .int X2), (3, .int X3), (4, .long Y4)]) (st' := [.long Y4, .int (((1 : Int32)) + X1), .ref 147]) rfl ?_
  obtain ⟨g_115, h⟩ := z_ifo_some h
  refine r_ls (pc' := 116) (L' := [(0, .ref 143), (1, .int X1), (2, .int X2), (3, .int X3), (4, .long Y4)]) H_105 hq (z_at.mk 1 rfl rfl) (show zAr 147 1 361 = true from rfl) (tx_iadd (rfl : (1 : Int32).toInt = 1) hx1) g_115 hy4 rfl rfl ?_
  intro m_115 H_115
  refine r_p hq 3 (pc' := 119) (L' := [(0, .ref 143), (1, .int X1), (2, .int X2), (3, .int X3), (4, .long Y4)]) (st' := [.int X3, .int X2, .ref 143]) rfl ?_
  obtain ⟨o_119, h_119, h⟩ := Option.bind_eq_some_iff.mp h
  refine r_cvV (pc' := 122) (L' := [(0, .ref 143), (1, .int X1), (2, .int X2), (3, .int X3), (4, .long Y4)]) (Ps := [.int X2, .int X3]) (rest := []) hq (z_at.mk 3 rfl rfl) (Or.inl ⟨rfl, rfl⟩) rfl rfl (by decide) (by decide) rfl (Nat.not_lt.mpr (Nat.le_of_ble_eq_true rfl)) rfl rfl (z_cat_le 0 rfl (by decide)) (z_lgl_le 3 rfl (by decide)) (by decide) (H_115.tg rfl) (by omega) (g_m_writes_ok hx2 hx3 H_115 h_119) rfl rfl ?_
  intro m_119 p_119 e_119 H_119
  subst e_119
  refine r_p hq 1 (pc' := 123) (L' := [(0, .ref 143), (1, .int X1), (2, .int X2), (3, .int X3), (4, .long Y4)]) (st' := [.ref 143]) rfl ?_
  obtain ⟨o_123, h_123, h⟩ := Option.bind_eq_some_iff.mp h
  refine r_cvI (pc' := 126) (L' := [(0, .ref 143), (1, .int X1), (2, .int X2), (3, .int X3), (4, .long Y4)]) (Ps := []) (rest := []) hq (z_at.mk 3 rfl rfl) (Or.inl ⟨rfl, rfl⟩) rfl rfl (by decide) (by decide) rfl (Nat.not_lt.mpr (Nat.le_of_ble_eq_true rfl)) rfl rfl (z_cat_le 0 rfl (by decide)) (z_lgl_le 1 rfl (by decide)) (by decide) (H_119.tg rfl) (by omega) (g_m_behind_ok H_119 h_123) rfl rfl ?_
  intro R_123 m_123 p_123 e_123 hR_123 H_123
  subst e_123
  cases h
  exact r_ri hq (z_at.mk 1 rfl rfl) rfl rfl hR_123 rfl H_123
def g_m_put (x1 : Int) (x2 : Int) (x3 : Int) (y4 : Int) (σ : zS) : Option (Int × zS) :=
  (g_m_isRow x1 σ).bind fun o_1 =>
  if o_1.1 ≠ 0 then
    (g_m_isIn x2 0 31 o_1.2).bind fun o_13 =>
    if o_13.1 = 0 then
      some (-2, o_13.2)
    else
      (g_m_isIn x3 0 31 o_13.2).bind fun o_23 =>
      if o_23.1 = 0 then
        some (-2, o_23.2)
      else
        if lCmp y4 (-9223372036854775808) = 0 then
          some (-2, o_23.2)
        else
          if lCmp y4 (-9223372036854775807) ≠ 0 then
            (g_m_values o_23.2).bind fun o_51 =>
            (g_m_rowAt x1 o_51.2).bind fun o_59 =>
            if 0 ≤ o_59.1 ∧ o_59.1 < 2740 then
            let v_62 := o_59.2 144 o_59.1
            if v_62 ≠ 1 then
              g_m_put_L72 x1 x2 x3 y4 o_59.2
            else
              (g_m_out x1 o_59.2).bind fun o_69 =>
              g_m_put_L72 x1 x2 x3 y4 o_69.2
            else none
          else
            some (-2, o_23.2)
  else
    some (-1, o_1.2)
set_option maxHeartbeats 4000000 in
theorem g_m_put_ok {xl : Nat} {xs : Nat → Int32} {X1 : Int32} {x1 : Int} (hx1 : X1.toInt = x1) {X2 : Int32} {x2 : Int} (hx2 : X2.toInt = x2) {X3 : Int32} {x3 : Int} (hx3 : X3.toInt = x3) {Y4 : Int64} {y4 : Int} (hy4 : Y4.toInt = y4) {σ : zS} {p : Nat} {m : zM} {o : Int × zS} (H : zRep xl xs p m σ) (h : g_m_put x1 x2 x3 y4 σ = some o) : zGo xl xs (fun p' => p = p') 508 206 0 (z_can 206 0 (lv_args 0 [.ref 143, .int X1, .int X2, .int X3, .long Y4])) [] m (vI o.1) o.2 := by
  have hq : z_mth 206 = some z_r206 := rfl
  unfold g_m_put at h
  show zGo xl xs (fun p' => p = p') 508 206 0 [(0, .ref 143), (1, .int X1), (2, .int X2), (3, .int X3), (4, .long Y4)] [] m (vI o.1) o.2
  refine r_p hq 1 (pc' := 1) (L' := [(0, .ref 143), (1, .int X1), (2, .int X2), (3, .int X3), (4, .long Y4)]) (st' := [.int X1]) rfl ?_
  obtain ⟨o_1, h_1, h⟩ := Option.bind_eq_some_iff.mp h
  refine r_csI (pc' := 4) (L' := [(0, .ref 143), (1, .int X1), (2, .int X2), (3, .int X3), (4, .long Y4)]) (As := [.int X1]) (rest := []) (j := 204) hq (z_at.mk 3 rfl rfl) (Or.inl ⟨rfl, rfl⟩) rfl rfl (by omega) (g_m_isRow_ok hx1 H h_1) rfl rfl ?_
  intro R_1 m_1 p_1 e_1 hR_1 H_1
  subst e_1
  rcases z_ite h with ⟨c_4, h⟩ | ⟨c_4, h⟩
  · refine r_t1 (pc' := 9) (L' := [(0, .ref 143), (1, .int X1), (2, .int X2), (3, .int X3), (4, .long Y4)]) hq (z_at.mk 3 rfl rfl) rfl hR_1 c_4 rfl rfl ?_
    refine r_p hq 3 (pc' := 13) (L' := [(0, .ref 143), (1, .int X1), (2, .int X2), (3, .int X3), (4, .long Y4)]) (st' := [.int ((31 : Int32)), .int ((0 : Int32)), .int X2]) rfl ?_
    obtain ⟨o_13, h_13, h⟩ := Option.bind_eq_some_iff.mp h
    refine r_csI (pc' := 16) (L' := [(0, .ref 143), (1, .int X1), (2, .int X2), (3, .int X3), (4, .long Y4)]) (As := [.int X2, .int ((0 : Int32)), .int ((31 : Int32))]) (rest := []) (j := 159) hq (z_at.mk 3 rfl rfl) (Or.inl ⟨rfl, rfl⟩) rfl rfl (by omega) (g_m_isIn_ok hx2 (rfl : (0 : Int32).toInt = 0) (rfl : (31 : Int32).toInt = 31) H_1 h_13) rfl rfl ?_
    intro R_13 m_13 p_13 e_13 hR_13 H_13
    subst e_13
    rcases z_ite h with ⟨c_16, h⟩ | ⟨c_16, h⟩
    · refine r_t1 (pc' := 47) (L' := []) hq (z_at.mk 3 rfl rfl) rfl hR_13 c_16 rfl rfl ?_
      refine r_p hq 1 (pc' := 49) (L' := []) (st' := [.int ((-2 : Int32))]) rfl ?_
      cases h
      exact r_ri hq (z_at.mk 1 rfl rfl) rfl rfl (rfl : (-2 : Int32).toInt = -2) rfl H_13
    · refine r_f1 (pc' := 19) (L' := [(0, .ref 143), (1, .int X1), (2, .int X2), (3, .int X3), (4, .long Y4)]) hq (z_at.mk 3 rfl rfl) rfl hR_13 c_16 rfl rfl ?_
      refine r_p hq 3 (pc' := 23) (L' := [(0, .ref 143), (1, .int X1), (2, .int X2), (3, .int X3), (4, .long Y4)]) (st' := [.int ((31 : Int32)), .int ((0 : Int32)), .int X3]) rfl ?_
      obtain ⟨o_23, h_23, h⟩ := Option.bind_eq_some_iff.mp h
      refine r_csI (pc' := 26) (L' := [(0, .ref 143), (1, .int X1), (2, .int X2), (3, .int X3), (4, .long Y4)]) (As := [.int X3, .int ((0 : Int32)), .int ((31 : Int32))]) (rest := []) (j := 159) hq (z_at.mk 3 rfl rfl) (Or.inl ⟨rfl, rfl⟩) rfl rfl (by omega) (g_m_isIn_ok hx3 (rfl : (0 : Int32).toInt = 0) (rfl : (31 : Int32).toInt = 31) H_13 h_23) rfl rfl ?_
      intro R_23 m_23 p_23 e_23 hR_23 H_23
      subst e_23
      rcases z_ite h with ⟨c_26, h⟩ | ⟨c_26, h⟩
      · refine r_t1 (pc' := 47) (L' := []) hq (z_at.mk 3 rfl rfl) rfl hR_23 c_26 rfl rfl ?_
        refine r_p hq 1 (pc' := 49) (L' := []) (st' := [.int ((-2 : Int32))]) rfl ?_
        cases h
        exact r_ri hq (z_at.mk 1 rfl rfl) rfl rfl (rfl : (-2 : Int32).toInt = -2) rfl H_23
      · refine r_f1 (pc' := 29) (L' := [(0, .ref 143), (1, .int X1), (2, .int X2), (3, .int X3), (4, .long Y4)]) hq (z_at.mk 3 rfl rfl) rfl hR_23 c_26 rfl rfl ?_
        refine r_p hq 3 (pc' := 35) (L' := [(0, .ref 143), (1, .int X1), (2, .int X2), (3, .int X3), (4, .long Y4)]) (st' := [.int (lg_cmp Y4 ((-9223372036854775808 : Int64)))]) rfl ?_
        rcases z_ite h with ⟨c_35, h⟩ | ⟨c_35, h⟩
        · refine r_t1 (pc' := 47) (L' := []) hq (z_at.mk 3 rfl rfl) rfl (tx_lcmp hy4 (rfl : (-9223372036854775808 : Int64).toInt = -9223372036854775808)) c_35 rfl rfl ?_
          refine r_p hq 1 (pc' := 49) (L' := []) (st' := [.int ((-2 : Int32))]) rfl ?_
          cases h
          exact r_ri hq (z_at.mk 1 rfl rfl) rfl rfl (rfl : (-2 : Int32).toInt = -2) rfl H_23
        · refine r_f1 (pc' := 38) (L' := [(0, .ref 143), (1, .int X1), (2, .int X2), (3, .int X3), (4, .long Y4)]) hq (z_at.mk 3 rfl rfl) rfl (tx_lcmp hy4 (rfl : (-9223372036854775808 : Int64).toInt = -9223372036854775808)) c_35 rfl rfl ?_
          refine r_p hq 3 (pc' := 44) (L' := [(0, .ref 143), (1, .int X1), (2, .int X2), (3, .int X3), (4, .long Y4)]) (st' := [.int (lg_cmp Y4 ((-9223372036854775807 : Int64)))]) rfl ?_
          rcases z_ite h with ⟨c_44, h⟩ | ⟨c_44, h⟩
          · refine r_t1 (pc' := 50) (L' := [(0, .ref 143), (1, .int X1), (2, .int X2), (3, .int X3), (4, .long Y4)]) hq (z_at.mk 3 rfl rfl) rfl (tx_lcmp hy4 (rfl : (-9223372036854775807 : Int64).toInt = -9223372036854775807)) c_44 rfl rfl ?_
            refine r_p hq 1 (pc' := 51) (L' := [(0, .ref 143), (1, .int X1), (2, .int X2), (3, .int X3), (4, .long Y4)]) (st' := [.ref 143]) rfl ?_
            obtain ⟨o_51, h_51, h⟩ := Option.bind_eq_some_iff.mp h
            refine r_cvV (pc' := 54) (L' := [(0, .ref 143), (1, .int X1), (2, .int X2), (3, .int X3), (4, .long Y4)]) (Ps := []) (rest := []) hq (z_at.mk 3 rfl rfl) (Or.inl ⟨rfl, rfl⟩) rfl rfl (by decide) (by decide) rfl (Nat.not_lt.mpr (Nat.le_of_ble_eq_true rfl)) rfl rfl (z_cat_le 0 rfl (by decide)) (z_lgl_le 1 rfl (by decide)) (by decide) (H_23.tg rfl) (by omega) (g_m_values_ok H_23 h_51) rfl rfl ?_
            intro m_51 p_51 e_51 H_51
            subst e_51
            refine r_p hq 1 (pc' := 55) (L' := [(0, .ref 143), (1, .int X1), (2, .int X2), (3, .int X3), (4, .long Y4)]) (st' := [.ref 143]) rfl ?_
            refine r_gR (b := 144) (pc' := 58) (L' := [(0, .ref 143), (1, .int X1), (2, .int X2), (3, .int X3), (4, .long Y4)]) H_51 hq (z_at.mk 3 rfl rfl) rfl rfl rfl rfl ?_
            refine r_p hq 1 (pc' := 59) (L' := [(0, .ref 143), (1, .int X1), (2, .int X2), (3, .int X3), (4, .long Y4)]) (st' := [.int X1, .ref 144]) rfl ?_
            obtain ⟨o_59, h_59, h⟩ := Option.bind_eq_some_iff.mp h
            refine r_csI (pc' := 62) (L' := [(0, .ref 143), (1, .int X1), (2, .int X2), (3, .int X3), (4, .long Y4)]) (As := [.int X1]) (rest := [.ref 144]) (j := 174) hq (z_at.mk 3 rfl rfl) (Or.inl ⟨rfl, rfl⟩) rfl rfl (by omega) (g_m_rowAt_ok hx1 H_51 h_59) rfl rfl ?_
            intro R_59 m_59 p_59 e_59 hR_59 H_59
            subst e_59
            obtain ⟨g_62, h⟩ := z_ifo_some h
            refine r_ia (pc' := 63) (L' := [(0, .ref 143), (1, .int X1), (2, .int X2), (3, .int X3), (4, .long Y4)]) H_59 hq (z_at.mk 1 rfl rfl) (show zAr 144 0 2740 = true from rfl) hR_59 g_62 rfl rfl ?_
            intro V_62 hV_62
            refine r_p hq 1 (pc' := 64) (L' := [(0, .ref 143), (1, .int X1), (2, .int X2), (3, .int X3), (4, .long Y4)]) (st' := [.int ((1 : Int32)), .int V_62]) rfl ?_
            rcases z_ite h with ⟨c_64, h⟩ | ⟨c_64, h⟩
            · refine r_t2 (pc' := 72) (L' := [(0, .ref 143), (1, .int X1), (2, .int X2), (3, .int X3), (4, .long Y4)]) hq (z_at.mk 3 rfl rfl) rfl hV_62 (rfl : (1 : Int32).toInt = 1) c_64 rfl rfl ?_
              exact g_m_put_L72_ok hx1 hx2 hx3 hy4 H_59 h
            · refine r_f2 (pc' := 67) (L' := [(0, .ref 143), (1, .int X1), (2, .int X2), (3, .int X3), (4, .long Y4)]) hq (z_at.mk 3 rfl rfl) rfl hV_62 (rfl : (1 : Int32).toInt = 1) c_64 rfl rfl ?_
              refine r_p hq 2 (pc' := 69) (L' := [(0, .ref 143), (1, .int X1), (2, .int X2), (3, .int X3), (4, .long Y4)]) (st' := [.int X1, .ref 143]) rfl ?_
              obtain ⟨o_69, h_69, h⟩ := Option.bind_eq_some_iff.mp h
              refine r_cvV (pc' := 72) (L' := [(0, .ref 143), (1, .int X1), (2, .int X2), (3, .int X3), (4, .long Y4)]) (Ps := [.int X1]) (rest := []) hq (z_at.mk 3 rfl rfl) (Or.inl ⟨rfl, rfl⟩) rfl rfl (by decide) (by decide) rfl (Nat.not_lt.mpr (Nat.le_of_ble_eq_true rfl)) rfl rfl (z_cat_le 0 rfl (by decide)) (z_lgl_le 2 rfl (by decide)) (by decide) (H_59.tg rfl) (by omega) (g_m_out_ok hx1 H_59 h_69) rfl rfl ?_
              intro m_69 p_69 e_69 H_69
              subst e_69
              exact g_m_put_L72_ok hx1 hx2 hx3 hy4 H_69 h
          · refine r_f1 (pc' := 47) (L' := []) hq (z_at.mk 3 rfl rfl) rfl (tx_lcmp hy4 (rfl : (-9223372036854775807 : Int64).toInt = -9223372036854775807)) c_44 rfl rfl ?_
            refine r_p hq 1 (pc' := 49) (L' := []) (st' := [.int ((-2 : Int32))]) rfl ?_
            cases h
            exact r_ri hq (z_at.mk 1 rfl rfl) rfl rfl (rfl : (-2 : Int32).toInt = -2) rfl H_23
  · refine r_f1 (pc' := 7) (L' := [(0, .ref 143), (1, .int X1), (2, .int X2), (3, .int X3), (4, .long Y4)]) hq (z_at.mk 3 rfl rfl) rfl hR_1 c_4 rfl rfl ?_
    refine r_p hq 1 (pc' := 8) (L' := [(0, .ref 143), (1, .int X1), (2, .int X2), (3, .int X3), (4, .long Y4)]) (st' := [.int ((-1 : Int32))]) rfl ?_
    cases h
    exact r_ri hq (z_at.mk 1 rfl rfl) rfl rfl (rfl : (-1 : Int32).toInt = -1) rfl H_1
