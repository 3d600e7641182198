/-! THE PAPER GROWS: AbstractStringBuilder.ensureCapacityInternal, by hand over the small memory -/
def zgw (σ : zS) (x : Int) : zS := fun a i => if a = 169 ∧ i = 0 then (if x ≤ 2 * σ 169 0 + 2 then 2 * σ 169 0 + 2 else x) else if a = 168 ∧ ¬ (0 ≤ i ∧ i < σ 169 0) then 0 else σ a i
def g_sb_ensure (x : Int) (σ : zS) : Option (Unit × zS) := if 0 ≤ x ∧ x ≤ 60000 ∧ σ 129 1 = 0 then (if x ≤ σ 169 0 then some ((), σ) else some ((), zgw σ x)) else none
theorem w32_id {x : Int} (h1 : -2147483648 ≤ x) (h2 : x < 2147483648) : w32 x = x := by
  unfold w32 Int.bmod
  simp only [Nat.reducePow]
  split <;> omega
theorem iShl0 {x : Int} (h1 : -2147483648 ≤ x) (h2 : x < 2147483648) : iShl x 0 = x := by
  unfold iShl
  have h : (Int32.ofInt 0 &&& 31) = 0 := rfl
  rw [h]
  have h3 : Int32.ofInt x <<< (0 : Int32) = Int32.ofInt x := by simp
  rw [h3, Int32.toInt_ofInt]
  exact w32_id h1 h2
theorem iShr0 {x : Int} (h1 : -2147483648 ≤ x) (h2 : x < 2147483648) : iShr x 0 = x := by
  unfold iShr
  have h : (Int32.ofInt 0 &&& 31) = 0 := rfl
  rw [h]
  have h3 : Int32.ofInt x >>> (0 : Int32) = Int32.ofInt x := by simp
  rw [h3, Int32.toInt_ofInt]
  exact w32_id h1 h2
theorem g_cap_run {x : Int} {σ : zS} (h1 : 0 ≤ σ 169 0) (h2 : σ 169 0 < x) (h3 : x ≤ 60000) (h4 : σ 129 1 = 0) : g_jAbstractStringBuilder_newCapacity x σ = some (if x ≤ 2 * σ 169 0 + 2 then 2 * σ 169 0 + 2 else x, σ) := by
  unfold g_jAbstractStringBuilder_newCapacity g_jArraysSupport_newLength g_jMath_max_289
  simp only [h4]
  rw [iShl0 (by omega) (by omega), iShl0 (x := 2) (by omega) (by omega)]
  rw [w32_id (x := x - σ 169 0) (by omega) (by omega), w32_id (x := σ 169 0 + 2) (by omega) (by omega)]
  by_cases hc : x - σ 169 0 < σ 169 0 + 2
  · rw [if_pos hc, Option.bind_some, w32_id (by omega) (by omega), if_neg (by omega), if_neg (by omega), Option.bind_some, if_pos (by show σ 169 0 + (σ 169 0 + 2) ≠ 2147483647; omega)]
    show some (iShr (σ 169 0 + (σ 169 0 + 2)) (σ 129 1), σ) = _
    rw [h4, iShr0 (by show _ ≤ σ 169 0 + (σ 169 0 + 2); omega) (by show σ 169 0 + (σ 169 0 + 2) < _; omega), if_pos (by omega)]
    show some (σ 169 0 + (σ 169 0 + 2), σ) = _
    rw [show σ 169 0 + (σ 169 0 + 2) = 2 * σ 169 0 + 2 by omega]
  · rw [if_neg hc, Option.bind_some, w32_id (by omega) (by omega), if_neg (by omega), if_neg (by omega), Option.bind_some, if_pos (by show σ 169 0 + (x - σ 169 0) ≠ 2147483647; omega)]
    show some (iShr (σ 169 0 + (x - σ 169 0)) (σ 129 1), σ) = _
    rw [h4, iShr0 (by show _ ≤ σ 169 0 + (x - σ 169 0); omega) (by show σ 169 0 + (x - σ 169 0) < _; omega)]
    show some (σ 169 0 + (x - σ 169 0), σ) = _
    by_cases he : x ≤ 2 * σ 169 0 + 2
    · rw [if_pos he, show σ 169 0 + (x - σ 169 0) = 2 * σ 169 0 + 2 by omega]
    · rw [if_neg he, show σ 169 0 + (x - σ 169 0) = x by omega]
theorem min_ev {A B : Int32} {μ : zM} (h : A.toInt ≤ B.toInt) : z_Ev 1 291 0 (z_can 291 0 (lv_args 0 [.int A, .int B])) [] μ (some (.int A)) μ := by
  have hq : z_mth 291 = some z_r291 := rfl
  show z_Ev 1 291 0 [(0, .int A), (1, .int B)] [] μ (some (.int A)) μ
  refine ev_r hq 2 (pc' := 2) (L' := [(0, .int A), (1, .int B)]) (st' := [.int B, .int A]) (μ2 := μ) rfl ?_
  refine ev_f2 (pc' := 5) (L' := [(0, .int A), (1, .int B)]) hq (z_at.mk 3 rfl rfl) rfl (Bool.eq_false_iff.mpr (fun hh => ?_)) rfl rfl ?_
  · have : B.toInt < A.toInt := (zP_c (o := .gt) rfl rfl).mp hh
    omega
  · refine ev_r hq 2 (pc' := 10) (L' := []) (st' := [.int A]) (μ2 := μ) rfl ?_
    exact ev_ri hq (z_at.mk 1 rfl rfl) rfl rfl
theorem copyOf_ev {m : zM} {p cap n : Nat} {N : Int32} (hp : m.1[p]? = some (2, cap)) (hN : N.toInt = n) (hc : cap < n) (hn : n ≤ 200000) (hl : 39 ≤ m.1.length) : z_Ev 5 316 0 (z_can 316 0 (lv_args 0 [.ref p, .int N])) [] m (some (.ref m.1.length)) (m.1 ++ [(2, n)], z_nw (z_nw m.2 m.1.length (fun _ => .int 0)) m.1.length (z_cpy (m.2 p) (fun _ => .int 0) 0 0 cap)) := by
  have hq : z_mth 316 = some z_r316 := rfl
  have hN' : N.toNatClampNeg = n := by
    show N.toInt.toNat = n
    omega
  have hpl : p < m.1.length := (List.getElem?_eq_some_iff.mp hp).1
  have t1 : z_tg m p = 2 := by unfold z_tg; rw [hp]; rfl
  have n1 : z_n m p = cap := by unfold z_n; rw [hp]; rfl
  have hle : z_le m p = some (Int32.ofNat cap) := by unfold z_le; rw [t1, n1]; rfl
  have hci : (Int32.ofNat cap).toInt = cap := Int32.toInt_ofNat_of_lt (by omega)
  show z_Ev 5 316 0 [(0, .ref p), (1, .int N)] [] m _ _
  refine ev_r hq 2 (pc' := 2) (L' := [(0, .ref p), (1, .int N)]) (st' := [.ref p, .int N]) (μ2 := m) rfl ?_
  refine ev_le (pc' := 3) (L' := [(0, .ref p), (1, .int N)]) hq (z_at.mk 1 rfl rfl) hle rfl rfl ?_
  refine ev_t2 (pc' := 14) (L' := [(0, .ref p), (1, .int N)]) hq (z_at.mk 3 rfl rfl) rfl ((zP_c (o := .ne) hN hci).mpr (show (n : Int) ≠ cap by omega)) rfl rfl ?_
  refine ev_r hq 1 (pc' := 15) (L' := [(0, .ref p), (1, .int N)]) (st' := [.int N]) (μ2 := m) rfl ?_
  refine ev_ma (t := .byte) (ti := 2) (o := (m.1.length, z_al m 2 n (fun _ => .int 0))) (pc' := 17) (L' := [(0, .ref p), (1, .int N)]) hq (z_at.mk 2 rfl rfl) rfl (by unfold z_ma; rw [if_pos ⟨by omega, by omega⟩, hN']; rfl) rfl rfl ?_
  generalize hm1 : z_al m 2 n (fun _ => .int 0) = m1
  have hp1 : m1.1[p]? = some (2, cap) := by
    rw [← hm1]
    show (m.1 ++ [_])[p]? = _
    rw [List.getElem?_append_left hpl]; exact hp
  have hq1 : m1.1[m.1.length]? = some (2, n) := by
    rw [← hm1]
    show (m.1 ++ [_])[m.1.length]? = _
    rw [List.getElem?_append_right (Nat.le_refl _), Nat.sub_self]; rfl
  have t2 : z_tg m1 p = 2 := by unfold z_tg; rw [hp1]; rfl
  have n2 : z_n m1 p = cap := by unfold z_n; rw [hp1]; rfl
  have t3 : z_tg m1 m.1.length = 2 := by unfold z_tg; rw [hq1]; rfl
  have n3 : z_n m1 m.1.length = n := by unfold z_n; rw [hq1]; rfl
  have hle1 : z_le m1 p = some (Int32.ofNat cap) := by unfold z_le; rw [t2, n2]; rfl
  have hc' : (Int32.ofNat cap).toNatClampNeg = cap := by
    show (Int32.ofNat cap).toInt.toNat = cap
    omega
  refine ev_r hq 6 (pc' := 23) (L' := [(2, .ref m.1.length), (0, .ref p), (1, .int N)]) (st' := [.ref p, .int (0 : Int32), .ref m.1.length, .int (0 : Int32), .ref p]) (μ2 := m1) rfl ?_
  refine ev_le (pc' := 24) (L' := [(2, .ref m.1.length), (0, .ref p), (1, .int N)]) hq (z_at.mk 1 rfl rfl) hle1 rfl rfl ?_
  refine ev_r hq 1 (pc' := 25) (L' := [(2, .ref m.1.length), (0, .ref p), (1, .int N)]) (st' := [.int N, .int (Int32.ofNat cap), .int (0 : Int32), .ref m.1.length, .int (0 : Int32), .ref p]) (μ2 := m1) rfl ?_
  refine ev_cs (dc := 1) (pc' := 28) (L' := [(2, .ref m.1.length), (0, .ref p), (1, .int N)]) (st' := [.int (Int32.ofNat cap), .int (0 : Int32), .ref m.1.length, .int (0 : Int32), .ref p]) (As := [.int (Int32.ofNat cap), .int N]) (rest := [.int (0 : Int32), .ref m.1.length, .int (0 : Int32), .ref p]) (j := 291) (u := some (.int (Int32.ofNat cap))) (μ2 := m1) hq (z_at.mk 3 rfl rfl) (Or.inl ⟨rfl, rfl⟩) rfl rfl (by omega) (min_ev (by omega)) rfl rfl rfl ?_
  refine ev_cp (pc' := 31) (L' := [(2, .ref m.1.length), (0, .ref p), (1, .int N)]) (μ2 := (m1.1, z_nw m1.2 m.1.length (z_cpy (m1.2 p) (m1.2 m.1.length) 0 0 cap))) hq (z_at.mk 3 rfl rfl) rfl (by decide) (by unfold z_cp; rw [hc', t2, t3, n2, n3, if_pos ⟨hl, rfl, by decide, by decide, by decide, by omega, by show 0 + cap ≤ cap; omega, by show 0 + cap ≤ n; omega⟩]; rfl) rfl rfl ?_
  refine ev_r hq 1 (pc' := 32) (L' := [(2, .ref m.1.length), (0, .ref p), (1, .int N)]) (st' := [.ref m.1.length]) (μ2 := (m1.1, z_nw m1.2 m.1.length (z_cpy (m1.2 p) (m1.2 m.1.length) 0 0 cap))) rfl ?_
  have hfin : (m1.1, z_nw m1.2 m.1.length (z_cpy (m1.2 p) (m1.2 m.1.length) 0 0 cap)) = ((m.1 ++ [(2, n)], z_nw (z_nw m.2 m.1.length (fun _ => .int 0)) m.1.length (z_cpy (m.2 p) (fun _ => .int 0) 0 0 cap)) : zM) := by
    rw [← hm1]
    have e1 : (z_al m 2 n (fun _ => Value.int 0)).2 p = m.2 p := funext fun j => if_neg (by omega)
    have e2 : (z_al m 2 n (fun _ => Value.int 0)).2 m.1.length = (fun _ => Value.int 0) := funext fun j => if_pos rfl
    rw [e1, e2]
    rfl
  rw [hfin]
  exact ev_ra hq (z_at.mk 1 rfl rfl) rfl
theorem z_slt_app (m : zM) (n : Nat) (g : Nat → Nat → Value) : z_slt (m.1 ++ [(2, n)], g) = z_slt m + n := by
  have := z_slt_al m 2 n (fun _ => .int 0)
  exact this
set_option maxHeartbeats 4000000 in
theorem g_sb_ensure_ok {xl : Nat} {xs : Nat → Int32} {X1 : Int32} {x1 : Int} (hx1 : X1.toInt = x1) {σ : zS} {p : Nat} {m : zM} {o : Unit × zS} (H : zRep xl xs p m σ) (h : g_sb_ensure x1 σ = some o) : zGo xl xs (fun _ => True) 10 274 0 (z_can 274 0 (lv_args 0 [.ref 129, .int X1])) [] m vV o.2 := by
  have hq : z_mth 274 = some z_r274 := rfl
  have hpg := H.pg
  unfold g_sb_ensure at h
  obtain ⟨⟨b1, b2, b3⟩, h⟩ := z_ifo_some h
  show zGo xl xs (fun _ => True) 10 274 0 [(0, .ref 129), (1, .int X1)] [] m vV o.2
  refine r_p hq 1 (pc' := 1) (L' := [(0, .ref 129), (1, .int X1)]) (st' := [.ref 129]) rfl ?_
  refine r_gP (pc' := 4) (L' := [(0, .ref 129), (1, .int X1)]) H hq (z_at.mk 3 rfl rfl) rfl rfl rfl ?_
  refine r_leP (pc' := 5) (L' := [(0, .ref 129), (1, .int X1)]) H hq (z_at.mk 1 rfl rfl) rfl rfl ?_
  intro V hV
  refine r_p hq 1 (pc' := 6) (L' := [(0, .ref 129), (1, .int X1)]) (st' := [.ref 129, .int V]) rfl ?_
  refine r_gI (pc' := 9) (L' := [(0, .ref 129), (1, .int X1)]) H hq (z_at.mk 3 rfl rfl) rfl rfl rfl rfl ?_
  intro C hC
  obtain rfl : C = 0 := zi_lit (hC.trans b3) rfl
  refine r_p hq 5 (pc' := 14) (L' := [(2, .int (V >>> ((0 : Int32) &&& 31))), (0, .ref 129), (1, .int X1)]) (st' := [.int (X1 - (V >>> ((0 : Int32) &&& 31)))]) rfl ?_
  have hS : (V >>> ((0 : Int32) &&& 31)).toInt = σ 169 0 := (tx_ishr hV (rfl : (0 : Int32).toInt = 0)).trans (iShr0 (by omega) (by omega))
  by_cases hx : x1 ≤ σ 169 0
  · rw [if_pos hx] at h
    cases h
    refine r_t1 (pc' := 38) (L' := []) hq (z_at.mk 3 rfl rfl) rfl (tx_isub hx1 hS) (show w32 (x1 - σ 169 0) ≤ 0 by rw [w32_id (by omega) (by omega)]; omega) rfl rfl ?_
    exact r_rv hq (z_at.mk 1 rfl rfl) rfl trivial H
  · rw [if_neg hx] at h
    cases h
    refine r_f1 (pc' := 17) (L' := [(2, .int (V >>> ((0 : Int32) &&& 31))), (0, .ref 129), (1, .int X1)]) hq (z_at.mk 3 rfl rfl) rfl (tx_isub hx1 hS) (show ¬ w32 (x1 - σ 169 0) ≤ 0 by rw [w32_id (by omega) (by omega)]; omega) rfl rfl ?_
    refine r_p hq 2 (pc' := 19) (L' := [(2, .int (V >>> ((0 : Int32) &&& 31))), (0, .ref 129), (1, .int X1)]) (st' := [.ref 129, .ref 129]) rfl ?_
    refine r_gP (pc' := 22) (L' := [(2, .int (V >>> ((0 : Int32) &&& 31))), (0, .ref 129), (1, .int X1)]) H hq (z_at.mk 3 rfl rfl) rfl rfl rfl ?_
    refine r_p hq 2 (pc' := 24) (L' := [(2, .int (V >>> ((0 : Int32) &&& 31))), (0, .ref 129), (1, .int X1)]) (st' := [.int X1, .ref 129, .ref p, .ref 129]) rfl ?_
    obtain ⟨cap, g1, g2, g3, g4, g5, g6, g7, g8, g9⟩ := id H.2.2.2
    have hrun := g_cap_run (x := x1) (σ := σ) (by omega) (by omega) b2 b3
    refine r_cvI (pc' := 27) (L' := [(2, .int (V >>> ((0 : Int32) &&& 31))), (0, .ref 129), (1, .int X1)]) (Ps := [.int X1]) (rest := [.ref p, .ref 129]) hq (z_at.mk 3 rfl rfl) (Or.inl ⟨rfl, rfl⟩) rfl rfl (by decide) (by decide) rfl (Nat.not_lt.mpr (Nat.le_of_ble_eq_true rfl)) rfl rfl (z_cat_le 2 rfl (by decide)) (z_lgl_le 2 rfl (by decide)) (by decide) (H.tg rfl) (by omega) (g_jAbstractStringBuilder_newCapacity_ok hx1 H hrun) rfl rfl ?_
    intro R m1 p1 e1 hR H1
    subst e1
    generalize hn : (if x1 ≤ 2 * σ 169 0 + 2 then 2 * σ 169 0 + 2 else x1) = n at hR
    have hn1 : σ 169 0 < n ∧ n ≤ 120002 ∧ 3 * σ 169 0 ≤ 2 * n := by
      rw [← hn]
      split <;> omega
    refine r_p hq 1 (pc' := 28) (L' := [(2, .int (V >>> ((0 : Int32) &&& 31))), (0, .ref 129), (1, .int X1)]) (st' := [.ref 129, .int R, .ref p, .ref 129]) rfl ?_
    refine r_gI (pc' := 31) (L' := [(2, .int (V >>> ((0 : Int32) &&& 31))), (0, .ref 129), (1, .int X1)]) H1 hq (z_at.mk 3 rfl rfl) rfl rfl rfl rfl ?_
    intro C2 hC2
    obtain rfl : C2 = 0 := zi_lit (hC2.trans b3) rfl
    refine r_p hq 1 (pc' := 32) (L' := [(2, .int (V >>> ((0 : Int32) &&& 31))), (0, .ref 129), (1, .int X1)]) (st' := [.int (R <<< ((0 : Int32) &&& 31)), .ref p, .ref 129]) rfl ?_
    have hR2 : (R <<< ((0 : Int32) &&& 31)).toInt = n := (tx_ishl hR (rfl : (0 : Int32).toInt = 0)).trans (iShl0 (by omega) (by omega))
    generalize R <<< ((0 : Int32) &&& 31) = N at hR2
    replace H1 : zRep xl xs p m1 σ := H1
    obtain ⟨H11, H12, H13, cap1, k1, k2, k3, k4, k5, k6, k7, k8, k9⟩ := H1
    have hcp := copyOf_ev (n := n.toNat) k3 (hR2.trans (by omega)) (by omega) (by omega) (by omega)
    generalize hm2 : ((m1.1 ++ [(2, n.toNat)], z_nw (z_nw m1.2 m1.1.length (fun _ => .int 0)) m1.1.length (z_cpy (m1.2 p) (fun _ => .int 0) 0 0 cap1)) : zM) = m2 at hcp
    have sh2 : ∀ b, b < m1.1.length → m2.1[b]? = m1.1[b]? := fun b hb => by rw [← hm2]; exact List.getElem?_append_left hb
    have ct2 : ∀ b, b ≠ m1.1.length → m2.2 b = m1.2 b := fun b hb => by
      rw [← hm2]
      exact funext fun j => (if_neg hb).trans (if_neg hb)
    have tg2 : z_tg m2 129 = 23 := by
      unfold z_tg
      rw [sh2 129 (by omega), H12 129 (by omega) (by omega) (by omega)]
      rfl
    refine ⟨none, z_wr m2 129 0 (.ref m1.1.length), m1.1.length, ?_, rfl, trivial, ?_⟩
    · refine ev_cs (dc := 5) (pc' := 35) (L' := [(2, .int (V >>> ((0 : Int32) &&& 31))), (0, .ref 129), (1, .int X1)]) (st' := [.ref m1.1.length, .ref 129]) (As := [.ref p, .int N]) (rest := [.ref 129]) (j := 316) (u := some (.ref m1.1.length)) (μ2 := m2) hq (z_at.mk 3 rfl rfl) (Or.inl ⟨rfl, rfl⟩) rfl rfl (by omega) hcp rfl rfl rfl ?_
      refine ev_pf (pc' := 38) (L' := []) hq (z_at.mk 3 rfl rfl) rfl (by decide) rfl (Or.inl rfl) (show z_pf m2 23 129 0 (.ref m1.1.length) = some (z_wr m2 129 0 (.ref m1.1.length)) from if_pos ⟨by decide, tg2⟩) rfl rfl ?_
      exact ev_rv hq (z_at.mk 1 rfl rfl) rfl
    · show zRep xl xs m1.1.length (z_wr m2 129 0 (.ref m1.1.length)) (zgw σ x1)
      have ew : ∀ b, b ≠ 129 → (z_wr m2 129 0 (.ref m1.1.length)).2 b = m2.2 b := fun b hb => funext fun j => if_neg hb
      refine ⟨fun b hb => ⟨?_, fun j => ?_⟩, fun b hb1 hb2 hb3 => ?_, fun b hb1 hb2 hb3 i hi => ?_, n.toNat, ?_, Or.inr k7, ?_, ?_, fun j hj => ?_, by omega, ?_, ?_, ?_⟩
      · show m2.1[b]? = _
        rw [sh2 b (by omega)]; exact (H11 b hb).1
      · rw [ew b (by omega), ct2 b (by omega)]; exact (H11 b hb).2 j
      · show m2.1[b]? = _
        rw [sh2 b (by omega)]; exact H12 b hb1 hb2 hb3
      · have ez : zgw σ x1 b i = σ b i := by
          unfold zgw
          rw [if_neg (fun h => by omega), if_neg (fun h => by omega)]
        rw [ez]
        by_cases h129 : b = 129
        · subst h129
          show zCell _ (if 129 = 129 then (if i = 0 then .ref m1.1.length else m2.2 129 i) else m2.2 129 i) _
          rw [if_pos rfl]
          by_cases hi0 : i = 0
          · subst hi0
            exact trivial
          · rw [if_neg hi0, ct2 129 (by omega)]; exact H13 129 hb1 hb2 hb3 i hi
        · rw [ew b h129, ct2 b (by omega)]; exact H13 b hb1 hb2 hb3 i hi
      · show (if 129 = 129 then (if 0 = 0 then Value.ref m1.1.length else m2.2 129 0) else m2.2 129 0) = _
        rw [if_pos rfl, if_pos rfl]
      · show m2.1[m1.1.length]? = _
        rw [← hm2]
        show (m1.1 ++ [_])[m1.1.length]? = _
        rw [List.getElem?_append_right (Nat.le_refl _), Nat.sub_self]; rfl
      · show _ = zgw σ x1 169 0
        unfold zgw
        rw [if_pos ⟨rfl, rfl⟩, hn]
        omega
      · rw [ew _ (by omega)]
        have e1 : m2.2 m1.1.length j = (if 0 ≤ j ∧ j < 0 + cap1 then m1.2 p (0 + (j - 0)) else Value.int 0) := by
          rw [← hm2]
          show (if m1.1.length = m1.1.length then _ else _) = _
          rw [if_pos rfl]
          rfl
        rw [e1]
        show ∃ X, _ = Value.int X ∧ X.toInt = (if (168 : Nat) = 169 ∧ (j : Int) = 0 then _ else if 168 = 168 ∧ ¬ (0 ≤ (j : Int) ∧ (j : Int) < σ 169 0) then 0 else σ 168 j)
        rw [if_neg (show ¬ ((168 : Nat) = 169 ∧ (j : Int) = 0) from fun h => absurd h.1 (by decide))]
        by_cases hj2 : j < cap1
        · rw [if_pos (show 0 ≤ j ∧ j < 0 + cap1 from ⟨by omega, by omega⟩), if_neg (show ¬ (168 = 168 ∧ ¬ (0 ≤ (j : Int) ∧ (j : Int) < σ 169 0)) from fun h => h.2 ⟨by omega, by omega⟩), show 0 + (j - 0) = j by omega]
          exact k5 j hj2
        · rw [if_neg (show ¬ (0 ≤ j ∧ j < 0 + cap1) from fun h => hj2 (by omega)), if_pos (show 168 = 168 ∧ ¬ (0 ≤ (j : Int) ∧ (j : Int) < σ 169 0) from ⟨rfl, fun h => hj2 (by omega)⟩)]
          exact ⟨0, rfl, rfl⟩
      · show 168 ≤ m2.1.length
        rw [← hm2]; simp; omega
      · show m2.1.length ≤ _
        rw [← hm2]; simp; omega
      · show z_slt m2 ≤ _
        rw [← hm2, z_slt_app]
        omega
