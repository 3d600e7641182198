/-! THE ROADS of calls 4, 5, 21, 36, 9, 13, 15, 17, 19, 22 on a fresh object (by wip/px_cmd.py) -/
set_option maxHeartbeats 400000000 in
set_option maxRecDepth 20000 in
theorem w_c4 {xs : Nat → Int32} {m : zM} {Q : Option Value → zM → Prop} (H : w_ok 6 xs 168 63950 w_T0 m) (hQ : ∀ N S T m, w_ok 6 xs N S T m → N ≤ 600039 → S ≤ 7302250 → Q (some (.int 1)) m) : z_W 1000 1000 359 [(0, .ref 0), (1, .ref 39), (2, .ref 143), (3, .int (0 : Int32))] [] m Q := by
  have b1 := zi_bd (xs 1)
  have b2 := zi_bd (xs 2)
  have b3 := zi_bd (xs 3)
  have b4 := zi_bd (xs 4)
  have b5 := zi_bd (xs 5)
  refine w_p h_m1000 5 (pc' := 364) (L' := [(0, .ref 0), (1, .ref 39), (2, .ref 143), (3, .int (0 : Int32))]) (st' := [.int (1 : Int32), .ref 0, .ref 39]) rfl ?_
  refine w_ae H (j := 1) (pc' := 365) (L' := [(0, .ref 0), (1, .ref 39), (2, .ref 143), (3, .int (0 : Int32))]) h_m1000 (z_at.mk 1 rfl rfl) rfl rfl rfl (by decide) rfl (by decide) rfl rfl rfl ?_
  refine w_cv (H.t rfl) (pc' := 368) (L' := [(0, .ref 0), (1, .ref 39), (2, .ref 143), (3, .int (0 : Int32))]) (rest := []) (Ps := [.int (xs 1)]) (L0 := [(0, .ref 39), (1, .int (xs 1))]) h_m1000 (z_at.mk 3 rfl rfl) (Or.inl ⟨rfl, rfl⟩) rfl rfl (by decide) (by decide) rfl rfl rfl rfl rfl rfl (by decide) rfl rfl rfl ?_
  refine w_p h_m120 2 (pc' := 2) (L' := [(0, .ref 39), (1, .int (xs 1))]) (st' := [.int (1 : Int32), .int (xs 1)]) rfl ?_
  by_cases c_1 : (xs 1).toInt < 1
  · refine w_t2 (pc' := 11) (L' := []) h_m120 (z_at.mk 3 rfl rfl) rfl (zc (a := (xs 1).toInt) (b := 1) rfl rfl (decide_eq_true (by omega))) rfl rfl ?_
    refine w_p h_m120 1 (pc' := 13) (L' := []) (st' := [.int (-2 : Int32)]) rfl ?_
    refine w_ri h_m120 (z_at.mk 1 rfl rfl) rfl rfl ?_
    show z_W 1000 1000 368 [(0, .ref 0), (1, .ref 39), (2, .ref 143), (3, .int (0 : Int32))] [.int (-2 : Int32)] m _
    refine w_p h_m1000 5 (pc' := 373) (L' := [(0, .ref 0), (1, .ref 39), (2, .ref 143), (3, .int (0 : Int32))]) (st' := [.int (1 : Int32), .ref 0, .ref 143, .int (-2 : Int32)]) rfl ?_
    refine w_ae H (j := 1) (pc' := 374) (L' := [(0, .ref 0), (1, .ref 39), (2, .ref 143), (3, .int (0 : Int32))]) h_m1000 (z_at.mk 1 rfl rfl) rfl rfl rfl (by decide) rfl (by decide) rfl rfl rfl ?_
    refine w_cv (H.t rfl) (pc' := 377) (L' := [(0, .ref 0), (1, .ref 39), (2, .ref 143), (3, .int (0 : Int32))]) (rest := [.int (-2 : Int32)]) (Ps := [.int (xs 1)]) (L0 := [(0, .ref 143), (1, .int (xs 1))]) h_m1000 (z_at.mk 3 rfl rfl) (Or.inl ⟨rfl, rfl⟩) rfl rfl (by decide) (by decide) rfl rfl rfl rfl rfl rfl (by decide) rfl rfl rfl ?_
    refine w_p h_m210 3 (pc' := 4) (L' := [(0, .ref 143), (1, .int (xs 1))]) (st' := [.int (127 : Int32), .int (1 : Int32), .int (xs 1)]) rfl ?_
    refine w_cs (As := [.int (xs 1), .int (1 : Int32), .int (127 : Int32)]) (rest := []) (j := 159) (L0 := [(0, .int (xs 1)), (1, .int (1 : Int32)), (2, .int (127 : Int32))]) (pc' := 7) (L' := [(0, .ref 143), (1, .int (xs 1))]) h_m210 (z_at.mk 3 rfl rfl) (Or.inl ⟨rfl, rfl⟩) rfl rfl rfl rfl rfl ?_
    refine w_p h_m159 2 (pc' := 2) (L' := [(0, .int (xs 1)), (1, .int (1 : Int32)), (2, .int (127 : Int32))]) (st' := [.int (1 : Int32), .int (xs 1)]) rfl ?_
    refine w_t2 (pc' := 14) (L' := []) h_m159 (z_at.mk 3 rfl rfl) rfl (zc (a := (xs 1).toInt) (b := 1) rfl rfl (decide_eq_true (by omega))) rfl rfl ?_
    refine w_p h_m159 1 (pc' := 15) (L' := []) (st' := [.int (0 : Int32)]) rfl ?_
    refine w_ri h_m159 (z_at.mk 1 rfl rfl) rfl rfl ?_
    show z_W 999 210 7 [(0, .ref 143), (1, .int (xs 1))] [.int (0 : Int32)] m _
    refine w_p h_m210 2 (pc' := 12) (L' := [(0, .ref 143), (1, .int (xs 1))]) (st' := [.int (-2 : Int32)]) rfl ?_
    refine w_ri h_m210 (z_at.mk 1 rfl rfl) rfl rfl ?_
    show z_W 1000 1000 377 [(0, .ref 0), (1, .ref 39), (2, .ref 143), (3, .int (0 : Int32))] [.int (-2 : Int32), .int (-2 : Int32)] m _
    refine w_p h_m1000 5 (pc' := 20) (L' := [(0, .ref 0), (1, .ref 39), (2, .ref 143), (3, .int (6 : Int32))]) (st' := [.ref 0, .int (6 : Int32)]) rfl ?_
    refine w_lene H (x := (6 : Int32)) (pc' := 21) (L' := [(0, .ref 0), (1, .ref 39), (2, .ref 143), (3, .int (6 : Int32))]) h_m1000 (z_at.mk 1 rfl rfl) (by decide) rfl (by decide) rfl rfl rfl ?_
    refine w_p h_m1000 4 (pc' := 1381) (L' := [(0, .ref 0), (1, .ref 39), (2, .ref 143), (3, .int (6 : Int32))]) (st' := [.int (1 : Int32)]) rfl ?_
    refine w_ri h_m1000 (z_at.mk 1 rfl rfl) rfl rfl ?_
    exact hQ _ _ _ _ H (by decide) (by decide)
  · refine w_f2 (pc' := 5) (L' := [(0, .ref 39), (1, .int (xs 1))]) h_m120 (z_at.mk 3 rfl rfl) rfl (zc (a := (xs 1).toInt) (b := 1) rfl rfl (decide_eq_false (by omega))) rfl rfl ?_
    refine w_p h_m120 2 (pc' := 8) (L' := [(0, .ref 39), (1, .int (xs 1))]) (st' := [.int (127 : Int32), .int (xs 1)]) rfl ?_
    by_cases c_2 : (xs 1).toInt ≤ 127
    · refine w_t2 (pc' := 14) (L' := [(0, .ref 39), (1, .int (xs 1))]) h_m120 (z_at.mk 3 rfl rfl) rfl (zc (a := (xs 1).toInt) (b := 127) rfl rfl (decide_eq_true (by omega))) rfl rfl ?_
      refine w_p h_m120 1 (pc' := 15) (L' := [(0, .ref 39), (1, .int (xs 1))]) (st' := [.ref 39]) rfl ?_
      refine w_gf H (pc' := 18) (L' := [(0, .ref 39), (1, .int (xs 1))]) h_m120 (z_at.mk 3 rfl rfl) rfl (u := .ref 120) rfl rfl rfl ?_
      refine w_p h_m120 1 (pc' := 19) (L' := [(0, .ref 39), (1, .int (xs 1))]) (st' := [.int (xs 1), .ref 120]) rfl ?_
      refine w_cv (H.t rfl) (pc' := 22) (L' := [(0, .ref 39), (1, .int (xs 1))]) (rest := []) (Ps := [.int (xs 1)]) (L0 := [(0, .ref 120), (1, .int (xs 1))]) h_m120 (z_at.mk 3 rfl rfl) (Or.inl ⟨rfl, rfl⟩) rfl rfl (by decide) (by decide) rfl rfl rfl rfl rfl rfl (by decide) rfl rfl rfl ?_
      refine w_p h_m91 1 (pc' := 1) (L' := [(0, .ref 120), (1, .int (xs 1))]) (st' := [.ref 120]) rfl ?_
      refine w_gf H (pc' := 4) (L' := [(0, .ref 120), (1, .int (xs 1))]) h_m91 (z_at.mk 3 rfl rfl) rfl (u := .int (0 : Int32)) rfl rfl rfl ?_
      refine w_p h_m91 3 (pc' := 13) (L' := [(0, .ref 120), (1, .int (xs 1))]) (st' := [.ref 120]) rfl ?_
      refine w_gf H (pc' := 16) (L' := [(0, .ref 120), (1, .int (xs 1))]) h_m91 (z_at.mk 3 rfl rfl) rfl (u := .ref 121) rfl rfl rfl ?_
      refine w_p h_m91 1 (pc' := 17) (L' := [(0, .ref 120), (1, .int (xs 1))]) (st' := [.ref 120, .ref 121]) rfl ?_
      refine w_gf H (pc' := 20) (L' := [(0, .ref 120), (1, .int (xs 1))]) h_m91 (z_at.mk 3 rfl rfl) rfl (u := .int (0 : Int32)) rfl rfl rfl ?_
      refine w_p h_m91 2 (pc' := 22) (L' := [(0, .ref 120), (1, .int (xs 1))]) (st' := [.int ((xs 1).toInt8.toInt32), .int (0 : Int32), .ref 121]) rfl ?_
      refine w_as H (t := 2) (j := 0) (u := .int (((xs 1).toInt8.toInt32).toInt8.toInt32)) (2, 160, [(0, .int (((xs 1).toInt8.toInt32).toInt8.toInt32))], some (.int (0 : Int32))) (pc' := 23) (L' := [(0, .ref 120), (1, .int (xs 1))]) h_m91 (z_at.mk 1 rfl rfl) rfl rfl (w_ui _ _ (by decide)) rfl rfl rfl rfl ?_
      clear H m; intro m H
      refine w_p h_m91 2 (pc' := 25) (L' := [(0, .ref 120), (1, .int (xs 1))]) (st' := [.ref 120, .ref 120]) rfl ?_
      refine w_gf H (pc' := 28) (L' := [(0, .ref 120), (1, .int (xs 1))]) h_m91 (z_at.mk 3 rfl rfl) rfl (u := .int (0 : Int32)) rfl rfl rfl ?_
      refine w_p h_m91 2 (pc' := 30) (L' := [(0, .ref 120), (1, .int (xs 1))]) (st' := [.int (1 : Int32), .ref 120]) rfl ?_
      refine w_pf H (19, 4, [(1, .int (1 : Int32)), (3, .int (-1 : Int32)), (2, .int (0 : Int32)), (0, .ref 121)], none) (pc' := 33) (L' := [(0, .ref 120), (1, .int (xs 1))]) h_m91 (z_at.mk 3 rfl rfl) rfl (by decide) rfl (Or.inl rfl) rfl rfl rfl ?_
      clear H m; intro m H
      refine w_p h_m91 1 (pc' := 34) (L' := [(0, .ref 120), (1, .int (xs 1))]) (st' := [.int (1 : Int32)]) rfl ?_
      refine w_ri h_m91 (z_at.mk 1 rfl rfl) rfl rfl ?_
      show z_W 999 120 22 [(0, .ref 39), (1, .int (xs 1))] [.int (1 : Int32)] m _
      refine w_p h_m120 2 (pc' := 26) (L' := [(0, .ref 39), (1, .int (xs 1))]) (st' := [.ref 39]) rfl ?_
      refine w_gf H (pc' := 29) (L' := [(0, .ref 39), (1, .int (xs 1))]) h_m120 (z_at.mk 3 rfl rfl) rfl (u := .ref 120) rfl rfl rfl ?_
      refine w_gf H (pc' := 32) (L' := [(0, .ref 39), (1, .int (xs 1))]) h_m120 (z_at.mk 3 rfl rfl) rfl (u := .int (1 : Int32)) rfl rfl rfl ?_
      refine w_p h_m120 1 (pc' := 37) (L' := []) (st' := [.int (1 : Int32)]) rfl ?_
      refine w_ri h_m120 (z_at.mk 1 rfl rfl) rfl rfl ?_
      show z_W 1000 1000 368 [(0, .ref 0), (1, .ref 39), (2, .ref 143), (3, .int (0 : Int32))] [.int (1 : Int32)] m _
      refine w_p h_m1000 5 (pc' := 373) (L' := [(0, .ref 0), (1, .ref 39), (2, .ref 143), (3, .int (0 : Int32))]) (st' := [.int (1 : Int32), .ref 0, .ref 143, .int (1 : Int32)]) rfl ?_
      refine w_ae H (j := 1) (pc' := 374) (L' := [(0, .ref 0), (1, .ref 39), (2, .ref 143), (3, .int (0 : Int32))]) h_m1000 (z_at.mk 1 rfl rfl) rfl rfl rfl (by decide) rfl (by decide) rfl rfl rfl ?_
      refine w_cv (H.t rfl) (pc' := 377) (L' := [(0, .ref 0), (1, .ref 39), (2, .ref 143), (3, .int (0 : Int32))]) (rest := [.int (1 : Int32)]) (Ps := [.int (xs 1)]) (L0 := [(0, .ref 143), (1, .int (xs 1))]) h_m1000 (z_at.mk 3 rfl rfl) (Or.inl ⟨rfl, rfl⟩) rfl rfl (by decide) (by decide) rfl rfl rfl rfl rfl rfl (by decide) rfl rfl rfl ?_
      refine w_p h_m210 3 (pc' := 4) (L' := [(0, .ref 143), (1, .int (xs 1))]) (st' := [.int (127 : Int32), .int (1 : Int32), .int (xs 1)]) rfl ?_
      refine w_cs (As := [.int (xs 1), .int (1 : Int32), .int (127 : Int32)]) (rest := []) (j := 159) (L0 := [(0, .int (xs 1)), (1, .int (1 : Int32)), (2, .int (127 : Int32))]) (pc' := 7) (L' := [(0, .ref 143), (1, .int (xs 1))]) h_m210 (z_at.mk 3 rfl rfl) (Or.inl ⟨rfl, rfl⟩) rfl rfl rfl rfl rfl ?_
      refine w_p h_m159 2 (pc' := 2) (L' := [(0, .int (xs 1)), (1, .int (1 : Int32)), (2, .int (127 : Int32))]) (st' := [.int (1 : Int32), .int (xs 1)]) rfl ?_
      refine w_f2 (pc' := 5) (L' := [(0, .int (xs 1)), (1, .int (1 : Int32)), (2, .int (127 : Int32))]) h_m159 (z_at.mk 3 rfl rfl) rfl (zc (a := (xs 1).toInt) (b := 1) rfl rfl (decide_eq_false (by omega))) rfl rfl ?_
      refine w_p h_m159 2 (pc' := 7) (L' := [(0, .int (xs 1)), (1, .int (1 : Int32)), (2, .int (127 : Int32))]) (st' := [.int (127 : Int32), .int (xs 1)]) rfl ?_
      refine w_f2 (pc' := 10) (L' := [(0, .int (xs 1)), (1, .int (1 : Int32)), (2, .int (127 : Int32))]) h_m159 (z_at.mk 3 rfl rfl) rfl (zc (a := (xs 1).toInt) (b := 127) rfl rfl (decide_eq_false (by omega))) rfl rfl ?_
      refine w_p h_m159 2 (pc' := 15) (L' := []) (st' := [.int (1 : Int32)]) rfl ?_
      refine w_ri h_m159 (z_at.mk 1 rfl rfl) rfl rfl ?_
      show z_W 999 210 7 [(0, .ref 143), (1, .int (xs 1))] [.int (1 : Int32)] m _
      refine w_p h_m210 2 (pc' := 14) (L' := [(0, .ref 143), (1, .int (xs 1))]) (st' := [.ref 143]) rfl ?_
      refine w_gf H (pc' := 17) (L' := [(0, .ref 143), (1, .int (xs 1))]) h_m210 (z_at.mk 3 rfl rfl) rfl (u := .int (0 : Int32)) rfl rfl rfl ?_
      refine w_p h_m210 3 (pc' := 27) (L' := [(0, .ref 143), (1, .int (xs 1))]) (st' := [.ref 143]) rfl ?_
      refine w_gf H (pc' := 30) (L' := [(0, .ref 143), (1, .int (xs 1))]) h_m210 (z_at.mk 3 rfl rfl) rfl (u := .ref 159) rfl rfl rfl ?_
      refine w_p h_m210 1 (pc' := 31) (L' := [(0, .ref 143), (1, .int (xs 1))]) (st' := [.ref 143, .ref 159]) rfl ?_
      refine w_gf H (pc' := 34) (L' := [(0, .ref 143), (1, .int (xs 1))]) h_m210 (z_at.mk 3 rfl rfl) rfl (u := .int (0 : Int32)) rfl rfl rfl ?_
      refine w_p h_m210 1 (pc' := 35) (L' := [(0, .ref 143), (1, .int (xs 1))]) (st' := [.int (xs 1), .int (0 : Int32), .ref 159]) rfl ?_
      refine w_as H (t := 0) (j := 0) (u := .int (xs 1)) (0, 160, [(0, .int (xs 1))], some (.int (0 : Int32))) (pc' := 36) (L' := [(0, .ref 143), (1, .int (xs 1))]) h_m210 (z_at.mk 1 rfl rfl) rfl rfl (w_ui _ _ (by decide)) rfl rfl rfl rfl ?_
      clear H m; intro m H
      refine w_p h_m210 2 (pc' := 38) (L' := [(0, .ref 143), (1, .int (xs 1))]) (st' := [.ref 143, .ref 143]) rfl ?_
      refine w_gf H (pc' := 41) (L' := [(0, .ref 143), (1, .int (xs 1))]) h_m210 (z_at.mk 3 rfl rfl) rfl (u := .int (0 : Int32)) rfl rfl rfl ?_
      refine w_p h_m210 2 (pc' := 43) (L' := [(0, .ref 143), (1, .int (xs 1))]) (st' := [.int (1 : Int32), .ref 143]) rfl ?_
      refine w_pf H (22, 35, [(20, .int (1 : Int32)), (34, .ref 167), (33, .ref 166), (31, .ref 165), (30, .ref 164), (28, .ref 163), (26, .ref 162), (25, .ref 161), (24, .ref 160), (19, .ref 159), (18, .ref 158), (17, .ref 157), (16, .ref 156), (13, .ref 155), (12, .ref 154), (11, .ref 153), (9, .ref 152), (8, .ref 151), (7, .ref 150), (5, .ref 149), (4, .ref 148), (3, .ref 147), (2, .ref 146), (1, .ref 145), (0, .ref 144), (6, .int (0 : Int32)), (10, .int (0 : Int32)), (14, .int (0 : Int32)), (15, .int (0 : Int32)), (21, .int (0 : Int32)), (22, .int (0 : Int32)), (23, .int (0 : Int32)), (27, .int (0 : Int32)), (29, .int (0 : Int32)), (32, .int (0 : Int32))], none) (pc' := 46) (L' := [(0, .ref 143), (1, .int (xs 1))]) h_m210 (z_at.mk 3 rfl rfl) rfl (by decide) rfl (Or.inl rfl) rfl rfl rfl ?_
      clear H m; intro m H
      refine w_p h_m210 1 (pc' := 47) (L' := [(0, .ref 143), (1, .int (xs 1))]) (st' := [.ref 143]) rfl ?_
      refine w_gf H (pc' := 50) (L' := [(0, .ref 143), (1, .int (xs 1))]) h_m210 (z_at.mk 3 rfl rfl) rfl (u := .int (1 : Int32)) rfl rfl rfl ?_
      refine w_ri h_m210 (z_at.mk 1 rfl rfl) rfl rfl ?_
      show z_W 1000 1000 377 [(0, .ref 0), (1, .ref 39), (2, .ref 143), (3, .int (0 : Int32))] [.int (1 : Int32), .int (1 : Int32)] m _
      refine w_p h_m1000 5 (pc' := 20) (L' := [(0, .ref 0), (1, .ref 39), (2, .ref 143), (3, .int (6 : Int32))]) (st' := [.ref 0, .int (6 : Int32)]) rfl ?_
      refine w_lene H (x := (6 : Int32)) (pc' := 21) (L' := [(0, .ref 0), (1, .ref 39), (2, .ref 143), (3, .int (6 : Int32))]) h_m1000 (z_at.mk 1 rfl rfl) (by decide) rfl (by decide) rfl rfl rfl ?_
      refine w_p h_m1000 4 (pc' := 1381) (L' := [(0, .ref 0), (1, .ref 39), (2, .ref 143), (3, .int (6 : Int32))]) (st' := [.int (1 : Int32)]) rfl ?_
      refine w_ri h_m1000 (z_at.mk 1 rfl rfl) rfl rfl ?_
      exact hQ _ _ _ _ H (by decide) (by decide)
    · refine w_f2 (pc' := 11) (L' := []) h_m120 (z_at.mk 3 rfl rfl) rfl (zc (a := (xs 1).toInt) (b := 127) rfl rfl (decide_eq_false (by omega))) rfl rfl ?_
      refine w_p h_m120 1 (pc' := 13) (L' := []) (st' := [.int (-2 : Int32)]) rfl ?_
      refine w_ri h_m120 (z_at.mk 1 rfl rfl) rfl rfl ?_
      show z_W 1000 1000 368 [(0, .ref 0), (1, .ref 39), (2, .ref 143), (3, .int (0 : Int32))] [.int (-2 : Int32)] m _
      refine w_p h_m1000 5 (pc' := 373) (L' := [(0, .ref 0), (1, .ref 39), (2, .ref 143), (3, .int (0 : Int32))]) (st' := [.int (1 : Int32), .ref 0, .ref 143, .int (-2 : Int32)]) rfl ?_
      refine w_ae H (j := 1) (pc' := 374) (L' := [(0, .ref 0), (1, .ref 39), (2, .ref 143), (3, .int (0 : Int32))]) h_m1000 (z_at.mk 1 rfl rfl) rfl rfl rfl (by decide) rfl (by decide) rfl rfl rfl ?_
      refine w_cv (H.t rfl) (pc' := 377) (L' := [(0, .ref 0), (1, .ref 39), (2, .ref 143), (3, .int (0 : Int32))]) (rest := [.int (-2 : Int32)]) (Ps := [.int (xs 1)]) (L0 := [(0, .ref 143), (1, .int (xs 1))]) h_m1000 (z_at.mk 3 rfl rfl) (Or.inl ⟨rfl, rfl⟩) rfl rfl (by decide) (by decide) rfl rfl rfl rfl rfl rfl (by decide) rfl rfl rfl ?_
      refine w_p h_m210 3 (pc' := 4) (L' := [(0, .ref 143), (1, .int (xs 1))]) (st' := [.int (127 : Int32), .int (1 : Int32), .int (xs 1)]) rfl ?_
      refine w_cs (As := [.int (xs 1), .int (1 : Int32), .int (127 : Int32)]) (rest := []) (j := 159) (L0 := [(0, .int (xs 1)), (1, .int (1 : Int32)), (2, .int (127 : Int32))]) (pc' := 7) (L' := [(0, .ref 143), (1, .int (xs 1))]) h_m210 (z_at.mk 3 rfl rfl) (Or.inl ⟨rfl, rfl⟩) rfl rfl rfl rfl rfl ?_
      refine w_p h_m159 2 (pc' := 2) (L' := [(0, .int (xs 1)), (1, .int (1 : Int32)), (2, .int (127 : Int32))]) (st' := [.int (1 : Int32), .int (xs 1)]) rfl ?_
      refine w_f2 (pc' := 5) (L' := [(0, .int (xs 1)), (1, .int (1 : Int32)), (2, .int (127 : Int32))]) h_m159 (z_at.mk 3 rfl rfl) rfl (zc (a := (xs 1).toInt) (b := 1) rfl rfl (decide_eq_false (by omega))) rfl rfl ?_
      refine w_p h_m159 2 (pc' := 7) (L' := [(0, .int (xs 1)), (1, .int (1 : Int32)), (2, .int (127 : Int32))]) (st' := [.int (127 : Int32), .int (xs 1)]) rfl ?_
      refine w_t2 (pc' := 14) (L' := []) h_m159 (z_at.mk 3 rfl rfl) rfl (zc (a := (xs 1).toInt) (b := 127) rfl rfl (decide_eq_true (by omega))) rfl rfl ?_
      refine w_p h_m159 1 (pc' := 15) (L' := []) (st' := [.int (0 : Int32)]) rfl ?_
      refine w_ri h_m159 (z_at.mk 1 rfl rfl) rfl rfl ?_
      show z_W 999 210 7 [(0, .ref 143), (1, .int (xs 1))] [.int (0 : Int32)] m _
      refine w_p h_m210 2 (pc' := 12) (L' := [(0, .ref 143), (1, .int (xs 1))]) (st' := [.int (-2 : Int32)]) rfl ?_
      refine w_ri h_m210 (z_at.mk 1 rfl rfl) rfl rfl ?_
      show z_W 1000 1000 377 [(0, .ref 0), (1, .ref 39), (2, .ref 143), (3, .int (0 : Int32))] [.int (-2 : Int32), .int (-2 : Int32)] m _
      refine w_p h_m1000 5 (pc' := 20) (L' := [(0, .ref 0), (1, .ref 39), (2, .ref 143), (3, .int (6 : Int32))]) (st' := [.ref 0, .int (6 : Int32)]) rfl ?_
      refine w_lene H (x := (6 : Int32)) (pc' := 21) (L' := [(0, .ref 0), (1, .ref 39), (2, .ref 143), (3, .int (6 : Int32))]) h_m1000 (z_at.mk 1 rfl rfl) (by decide) rfl (by decide) rfl rfl rfl ?_
      refine w_p h_m1000 4 (pc' := 1381) (L' := [(0, .ref 0), (1, .ref 39), (2, .ref 143), (3, .int (6 : Int32))]) (st' := [.int (1 : Int32)]) rfl ?_
      refine w_ri h_m1000 (z_at.mk 1 rfl rfl) rfl rfl ?_
      exact hQ _ _ _ _ H (by decide) (by decide)
set_option maxHeartbeats 400000000 in
set_option maxRecDepth 20000 in
theorem w_c5 {xs : Nat → Int32} {m : zM} {Q : Option Value → zM → Prop} (H : w_ok 6 xs 168 63950 w_T0 m) (hQ : ∀ N S T m, w_ok 6 xs N S T m → N ≤ 600039 → S ≤ 7302250 → Q (some (.int 1)) m) : z_W 1000 1000 382 [(0, .ref 0), (1, .ref 39), (2, .ref 143), (3, .int (0 : Int32))] [] m Q := by
  have b1 := zi_bd (xs 1)
  have b2 := zi_bd (xs 2)
  have b3 := zi_bd (xs 3)
  have b4 := zi_bd (xs 4)
  have b5 := zi_bd (xs 5)
  refine w_p h_m1000 1 (pc' := 383) (L' := [(0, .ref 0), (1, .ref 39), (2, .ref 143), (3, .int (0 : Int32))]) (st' := [.ref 39]) rfl ?_
  refine w_cv (H.t rfl) (pc' := 386) (L' := [(0, .ref 0), (1, .ref 39), (2, .ref 143), (3, .int (0 : Int32))]) (rest := []) (Ps := []) (L0 := [(0, .ref 39)]) h_m1000 (z_at.mk 3 rfl rfl) (Or.inl ⟨rfl, rfl⟩) rfl rfl (by decide) (by decide) rfl rfl rfl rfl rfl rfl (by decide) rfl rfl rfl ?_
  refine w_p h_m121 1 (pc' := 1) (L' := [(0, .ref 39)]) (st' := [.ref 39]) rfl ?_
  refine w_gf H (pc' := 4) (L' := [(0, .ref 39)]) h_m121 (z_at.mk 3 rfl rfl) rfl (u := .ref 120) rfl rfl rfl ?_
  refine w_gf H (pc' := 7) (L' := [(0, .ref 39)]) h_m121 (z_at.mk 3 rfl rfl) rfl (u := .int (0 : Int32)) rfl rfl rfl ?_
  refine w_p h_m121 2 (pc' := 9) (L' := [(1, .int (0 : Int32)), (0, .ref 39)]) (st' := [.ref 39]) rfl ?_
  refine w_gf H (pc' := 12) (L' := [(1, .int (0 : Int32)), (0, .ref 39)]) h_m121 (z_at.mk 3 rfl rfl) rfl (u := .ref 120) rfl rfl rfl ?_
  refine w_p h_m121 1 (pc' := 13) (L' := [(1, .int (0 : Int32)), (0, .ref 39)]) (st' := [.int (0 : Int32), .ref 120]) rfl ?_
  refine w_pf H (19, 4, [(1, .int (0 : Int32)), (3, .int (-1 : Int32)), (2, .int (0 : Int32)), (0, .ref 121)], none) (pc' := 16) (L' := [(1, .int (0 : Int32)), (0, .ref 39)]) h_m121 (z_at.mk 3 rfl rfl) rfl (by decide) rfl (Or.inl rfl) rfl rfl rfl ?_
  clear H m; intro m H
  refine w_p h_m121 1 (pc' := 17) (L' := [(1, .int (0 : Int32)), (0, .ref 39)]) (st' := [.int (0 : Int32)]) rfl ?_
  refine w_ri h_m121 (z_at.mk 1 rfl rfl) rfl rfl ?_
  show z_W 1000 1000 386 [(0, .ref 0), (1, .ref 39), (2, .ref 143), (3, .int (0 : Int32))] [.int (0 : Int32)] m _
  refine w_p h_m1000 1 (pc' := 387) (L' := [(0, .ref 0), (1, .ref 39), (2, .ref 143), (3, .int (0 : Int32))]) (st' := [.ref 143, .int (0 : Int32)]) rfl ?_
  refine w_cv (H.t rfl) (pc' := 390) (L' := [(0, .ref 0), (1, .ref 39), (2, .ref 143), (3, .int (0 : Int32))]) (rest := [.int (0 : Int32)]) (Ps := []) (L0 := [(0, .ref 143)]) h_m1000 (z_at.mk 3 rfl rfl) (Or.inl ⟨rfl, rfl⟩) rfl rfl (by decide) (by decide) rfl rfl rfl rfl rfl rfl (by decide) rfl rfl rfl ?_
  refine w_p h_m211 1 (pc' := 1) (L' := [(0, .ref 143)]) (st' := [.ref 143]) rfl ?_
  refine w_gf H (pc' := 4) (L' := [(0, .ref 143)]) h_m211 (z_at.mk 3 rfl rfl) rfl (u := .int (0 : Int32)) rfl rfl rfl ?_
  refine w_p h_m211 3 (pc' := 7) (L' := [(1, .int (0 : Int32)), (0, .ref 143)]) (st' := [.int (0 : Int32), .ref 143]) rfl ?_
  refine w_pf H (22, 35, [(20, .int (0 : Int32)), (34, .ref 167), (33, .ref 166), (31, .ref 165), (30, .ref 164), (28, .ref 163), (26, .ref 162), (25, .ref 161), (24, .ref 160), (19, .ref 159), (18, .ref 158), (17, .ref 157), (16, .ref 156), (13, .ref 155), (12, .ref 154), (11, .ref 153), (9, .ref 152), (8, .ref 151), (7, .ref 150), (5, .ref 149), (4, .ref 148), (3, .ref 147), (2, .ref 146), (1, .ref 145), (0, .ref 144), (6, .int (0 : Int32)), (10, .int (0 : Int32)), (14, .int (0 : Int32)), (15, .int (0 : Int32)), (21, .int (0 : Int32)), (22, .int (0 : Int32)), (23, .int (0 : Int32)), (27, .int (0 : Int32)), (29, .int (0 : Int32)), (32, .int (0 : Int32))], none) (pc' := 10) (L' := [(1, .int (0 : Int32)), (0, .ref 143)]) h_m211 (z_at.mk 3 rfl rfl) rfl (by decide) rfl (Or.inl rfl) rfl rfl rfl ?_
  clear H m; intro m H
  refine w_p h_m211 1 (pc' := 11) (L' := [(1, .int (0 : Int32)), (0, .ref 143)]) (st' := [.int (0 : Int32)]) rfl ?_
  refine w_ri h_m211 (z_at.mk 1 rfl rfl) rfl rfl ?_
  show z_W 1000 1000 390 [(0, .ref 0), (1, .ref 39), (2, .ref 143), (3, .int (0 : Int32))] [.int (0 : Int32), .int (0 : Int32)] m _
  refine w_p h_m1000 5 (pc' := 20) (L' := [(0, .ref 0), (1, .ref 39), (2, .ref 143), (3, .int (6 : Int32))]) (st' := [.ref 0, .int (6 : Int32)]) rfl ?_
  refine w_lene H (x := (6 : Int32)) (pc' := 21) (L' := [(0, .ref 0), (1, .ref 39), (2, .ref 143), (3, .int (6 : Int32))]) h_m1000 (z_at.mk 1 rfl rfl) (by decide) rfl (by decide) rfl rfl rfl ?_
  refine w_p h_m1000 4 (pc' := 1381) (L' := [(0, .ref 0), (1, .ref 39), (2, .ref 143), (3, .int (6 : Int32))]) (st' := [.int (1 : Int32)]) rfl ?_
  refine w_ri h_m1000 (z_at.mk 1 rfl rfl) rfl rfl ?_
  exact hQ _ _ _ _ H (by decide) (by decide)
set_option maxHeartbeats 400000000 in
set_option maxRecDepth 20000 in
theorem w_c21 {xs : Nat → Int32} {m : zM} {Q : Option Value → zM → Prop} (H : w_ok 6 xs 168 63950 w_T0 m) (hQ : ∀ N S T m, w_ok 6 xs N S T m → N ≤ 600039 → S ≤ 7302250 → Q (some (.int 1)) m) : z_W 1000 1000 824 [(0, .ref 0), (1, .ref 39), (2, .ref 143), (3, .int (0 : Int32))] [] m Q := by
  have b1 := zi_bd (xs 1)
  have b2 := zi_bd (xs 2)
  have b3 := zi_bd (xs 3)
  have b4 := zi_bd (xs 4)
  have b5 := zi_bd (xs 5)
  refine w_p h_m1000 1 (pc' := 825) (L' := [(0, .ref 0), (1, .ref 39), (2, .ref 143), (3, .int (0 : Int32))]) (st' := [.ref 39]) rfl ?_
  refine w_cv (H.t rfl) (pc' := 828) (L' := [(0, .ref 0), (1, .ref 39), (2, .ref 143), (3, .int (0 : Int32))]) (rest := []) (Ps := []) (L0 := [(0, .ref 39)]) h_m1000 (z_at.mk 3 rfl rfl) (Or.inl ⟨rfl, rfl⟩) rfl rfl (by decide) (by decide) rfl rfl rfl rfl rfl rfl (by decide) rfl rfl rfl ?_
  refine w_p h_m141 1 (pc' := 1) (L' := [(0, .ref 39)]) (st' := [.ref 39]) rfl ?_
  refine w_gf H (pc' := 4) (L' := [(0, .ref 39)]) h_m141 (z_at.mk 3 rfl rfl) rfl (u := .ref 40) rfl rfl rfl ?_
  refine w_gf H (pc' := 7) (L' := [(0, .ref 39)]) h_m141 (z_at.mk 3 rfl rfl) rfl (u := .ref 48) rfl rfl rfl ?_
  refine w_gf H (pc' := 10) (L' := [(0, .ref 39)]) h_m141 (z_at.mk 3 rfl rfl) rfl (u := .int (0 : Int32)) rfl rfl rfl ?_
  refine w_p h_m141 2 (pc' := 12) (L' := [(1, .int (0 : Int32)), (0, .ref 39)]) (st' := [.ref 39]) rfl ?_
  refine w_gf H (pc' := 15) (L' := [(1, .int (0 : Int32)), (0, .ref 39)]) h_m141 (z_at.mk 3 rfl rfl) rfl (u := .ref 40) rfl rfl rfl ?_
  refine w_gf H (pc' := 18) (L' := [(1, .int (0 : Int32)), (0, .ref 39)]) h_m141 (z_at.mk 3 rfl rfl) rfl (u := .ref 48) rfl rfl rfl ?_
  refine w_p h_m141 1 (pc' := 19) (L' := [(1, .int (0 : Int32)), (0, .ref 39)]) (st' := [.int (0 : Int32), .ref 48]) rfl ?_
  refine w_pf H (12, 18, [(2, .int (0 : Int32)), (0, .ref 41), (17, .ref 58), (16, .ref 56), (15, .int (0 : Int32)), (14, .int (0 : Int32)), (13, .int (0 : Int32)), (12, .int (0 : Int32)), (11, .int (0 : Int32)), (10, .int (0 : Int32)), (9, .long (0 : Int64)), (8, .int (0 : Int32)), (7, .ref 55), (6, .ref 54), (5, .ref 53), (4, .ref 52), (3, .ref 51), (1, .ref 49)], none) (pc' := 22) (L' := [(1, .int (0 : Int32)), (0, .ref 39)]) h_m141 (z_at.mk 3 rfl rfl) rfl (by decide) rfl (Or.inl rfl) rfl rfl rfl ?_
  clear H m; intro m H
  refine w_p h_m141 1 (pc' := 23) (L' := [(1, .int (0 : Int32)), (0, .ref 39)]) (st' := [.int (0 : Int32)]) rfl ?_
  refine w_ri h_m141 (z_at.mk 1 rfl rfl) rfl rfl ?_
  show z_W 1000 1000 828 [(0, .ref 0), (1, .ref 39), (2, .ref 143), (3, .int (0 : Int32))] [.int (0 : Int32)] m _
  refine w_p h_m1000 1 (pc' := 829) (L' := [(0, .ref 0), (1, .ref 39), (2, .ref 143), (3, .int (0 : Int32))]) (st' := [.ref 143, .int (0 : Int32)]) rfl ?_
  refine w_cv (H.t rfl) (pc' := 832) (L' := [(0, .ref 0), (1, .ref 39), (2, .ref 143), (3, .int (0 : Int32))]) (rest := [.int (0 : Int32)]) (Ps := []) (L0 := [(0, .ref 143)]) h_m1000 (z_at.mk 3 rfl rfl) (Or.inl ⟨rfl, rfl⟩) rfl rfl (by decide) (by decide) rfl rfl rfl rfl rfl rfl (by decide) rfl rfl rfl ?_
  refine w_p h_m252 1 (pc' := 1) (L' := [(0, .ref 143)]) (st' := [.ref 143]) rfl ?_
  refine w_gf H (pc' := 4) (L' := [(0, .ref 143)]) h_m252 (z_at.mk 3 rfl rfl) rfl (u := .ref 144) rfl rfl rfl ?_
  refine w_p h_m252 1 (pc' := 5) (L' := [(0, .ref 143)]) (st' := [.int (0 : Int32), .ref 144]) rfl ?_
  refine w_al H (t := 0) (j := 0) (pc' := 6) (L' := [(0, .ref 143)]) h_m252 (z_at.mk 1 rfl rfl) rfl rfl rfl (u := .int (0 : Int32)) rfl rfl rfl ?_
  refine w_p h_m252 2 (pc' := 8) (L' := [(1, .int (0 : Int32)), (0, .ref 143)]) (st' := [.ref 143]) rfl ?_
  refine w_gf H (pc' := 11) (L' := [(1, .int (0 : Int32)), (0, .ref 143)]) h_m252 (z_at.mk 3 rfl rfl) rfl (u := .ref 144) rfl rfl rfl ?_
  refine w_p h_m252 2 (pc' := 13) (L' := [(1, .int (0 : Int32)), (0, .ref 143)]) (st' := [.int (0 : Int32), .int (0 : Int32), .ref 144]) rfl ?_
  refine w_as H (t := 0) (j := 0) (u := .int (0 : Int32)) (0, 2740, [(0, .int (0 : Int32)), (17, .int (1024 : Int32)), (16, .int (1 : Int32)), (15, .int (1 : Int32)), (13, .int (12 : Int32)), (12, .int (40 : Int32)), (11, .int (10 : Int32))], some (.int (0 : Int32))) (pc' := 14) (L' := [(1, .int (0 : Int32)), (0, .ref 143)]) h_m252 (z_at.mk 1 rfl rfl) rfl rfl (w_ui _ _ (by decide)) rfl rfl rfl rfl ?_
  clear H m; intro m H
  refine w_p h_m252 1 (pc' := 15) (L' := [(1, .int (0 : Int32)), (0, .ref 143)]) (st' := [.int (0 : Int32)]) rfl ?_
  refine w_ri h_m252 (z_at.mk 1 rfl rfl) rfl rfl ?_
  show z_W 1000 1000 832 [(0, .ref 0), (1, .ref 39), (2, .ref 143), (3, .int (0 : Int32))] [.int (0 : Int32), .int (0 : Int32)] m _
  refine w_p h_m1000 5 (pc' := 20) (L' := [(0, .ref 0), (1, .ref 39), (2, .ref 143), (3, .int (6 : Int32))]) (st' := [.ref 0, .int (6 : Int32)]) rfl ?_
  refine w_lene H (x := (6 : Int32)) (pc' := 21) (L' := [(0, .ref 0), (1, .ref 39), (2, .ref 143), (3, .int (6 : Int32))]) h_m1000 (z_at.mk 1 rfl rfl) (by decide) rfl (by decide) rfl rfl rfl ?_
  refine w_p h_m1000 4 (pc' := 1381) (L' := [(0, .ref 0), (1, .ref 39), (2, .ref 143), (3, .int (6 : Int32))]) (st' := [.int (1 : Int32)]) rfl ?_
  refine w_ri h_m1000 (z_at.mk 1 rfl rfl) rfl rfl ?_
  exact hQ _ _ _ _ H (by decide) (by decide)
set_option maxHeartbeats 400000000 in
set_option maxRecDepth 20000 in
theorem w_c36 {xs : Nat → Int32} {m : zM} {Q : Option Value → zM → Prop} (H : w_ok 6 xs 168 63950 w_T0 m) (hQ : ∀ N S T m, w_ok 6 xs N S T m → N ≤ 600039 → S ≤ 7302250 → Q (some (.int 1)) m) : z_W 1000 1000 1361 [(0, .ref 0), (1, .ref 39), (2, .ref 143), (3, .int (0 : Int32))] [] m Q := by
  have b1 := zi_bd (xs 1)
  have b2 := zi_bd (xs 2)
  have b3 := zi_bd (xs 3)
  have b4 := zi_bd (xs 4)
  have b5 := zi_bd (xs 5)
  refine w_p h_m1000 1 (pc' := 1362) (L' := [(0, .ref 0), (1, .ref 39), (2, .ref 143), (3, .int (0 : Int32))]) (st' := [.ref 39]) rfl ?_
  refine w_cv (H.t rfl) (pc' := 1365) (L' := [(0, .ref 0), (1, .ref 39), (2, .ref 143), (3, .int (0 : Int32))]) (rest := []) (Ps := []) (L0 := [(0, .ref 39)]) h_m1000 (z_at.mk 3 rfl rfl) (Or.inl ⟨rfl, rfl⟩) rfl rfl (by decide) (by decide) rfl rfl rfl rfl rfl rfl (by decide) rfl rfl rfl ?_
  refine w_p h_m157 1 (pc' := 1) (L' := [(0, .ref 39)]) (st' := [.ref 39]) rfl ?_
  refine w_gf H (pc' := 4) (L' := [(0, .ref 39)]) h_m157 (z_at.mk 3 rfl rfl) rfl (u := .int (0 : Int32)) rfl rfl rfl ?_
  refine w_p h_m157 2 (pc' := 9) (L' := [(0, .ref 39)]) (st' := [.int (-3 : Int32)]) rfl ?_
  refine w_ri h_m157 (z_at.mk 1 rfl rfl) rfl rfl ?_
  show z_W 1000 1000 1365 [(0, .ref 0), (1, .ref 39), (2, .ref 143), (3, .int (0 : Int32))] [.int (-3 : Int32)] m _
  refine w_p h_m1000 1 (pc' := 1366) (L' := [(0, .ref 0), (1, .ref 39), (2, .ref 143), (3, .int (0 : Int32))]) (st' := [.ref 143, .int (-3 : Int32)]) rfl ?_
  refine w_cv (H.t rfl) (pc' := 1369) (L' := [(0, .ref 0), (1, .ref 39), (2, .ref 143), (3, .int (0 : Int32))]) (rest := [.int (-3 : Int32)]) (Ps := []) (L0 := [(0, .ref 143)]) h_m1000 (z_at.mk 3 rfl rfl) (Or.inl ⟨rfl, rfl⟩) rfl rfl (by decide) (by decide) rfl rfl rfl rfl rfl rfl (by decide) rfl rfl rfl ?_
  refine w_p h_m271 1 (pc' := 1) (L' := [(0, .ref 143)]) (st' := [.ref 143]) rfl ?_
  refine w_gf H (pc' := 4) (L' := [(0, .ref 143)]) h_m271 (z_at.mk 3 rfl rfl) rfl (u := .int (0 : Int32)) rfl rfl rfl ?_
  refine w_p h_m271 2 (pc' := 9) (L' := [(0, .ref 143)]) (st' := [.int (-3 : Int32)]) rfl ?_
  refine w_ri h_m271 (z_at.mk 1 rfl rfl) rfl rfl ?_
  show z_W 1000 1000 1369 [(0, .ref 0), (1, .ref 39), (2, .ref 143), (3, .int (0 : Int32))] [.int (-3 : Int32), .int (-3 : Int32)] m _
  refine w_p h_m1000 5 (pc' := 20) (L' := [(0, .ref 0), (1, .ref 39), (2, .ref 143), (3, .int (6 : Int32))]) (st' := [.ref 0, .int (6 : Int32)]) rfl ?_
  refine w_lene H (x := (6 : Int32)) (pc' := 21) (L' := [(0, .ref 0), (1, .ref 39), (2, .ref 143), (3, .int (6 : Int32))]) h_m1000 (z_at.mk 1 rfl rfl) (by decide) rfl (by decide) rfl rfl rfl ?_
  refine w_p h_m1000 4 (pc' := 1381) (L' := [(0, .ref 0), (1, .ref 39), (2, .ref 143), (3, .int (6 : Int32))]) (st' := [.int (1 : Int32)]) rfl ?_
  refine w_ri h_m1000 (z_at.mk 1 rfl rfl) rfl rfl ?_
  exact hQ _ _ _ _ H (by decide) (by decide)
set_option maxHeartbeats 400000000 in
set_option maxRecDepth 20000 in
theorem w_c9 {xs : Nat → Int32} {m : zM} {Q : Option Value → zM → Prop} (H : w_ok 6 xs 168 63950 w_T0 m) (hQ : ∀ N S T m, w_ok 6 xs N S T m → N ≤ 600039 → S ≤ 7302250 → Q (some (.int 1)) m) : z_W 1000 1000 444 [(0, .ref 0), (1, .ref 39), (2, .ref 143), (3, .int (0 : Int32))] [] m Q := by
  have b1 := zi_bd (xs 1)
  have b2 := zi_bd (xs 2)
  have b3 := zi_bd (xs 3)
  have b4 := zi_bd (xs 4)
  have b5 := zi_bd (xs 5)
  refine w_p h_m1000 5 (pc' := 449) (L' := [(0, .ref 0), (1, .ref 39), (2, .ref 143), (3, .int (0 : Int32))]) (st' := [.int (1 : Int32), .ref 0, .ref 39]) rfl ?_
  refine w_ae H (j := 1) (pc' := 450) (L' := [(0, .ref 0), (1, .ref 39), (2, .ref 143), (3, .int (0 : Int32))]) h_m1000 (z_at.mk 1 rfl rfl) rfl rfl rfl (by decide) rfl (by decide) rfl rfl rfl ?_
  refine w_cv (H.t rfl) (pc' := 453) (L' := [(0, .ref 0), (1, .ref 39), (2, .ref 143), (3, .int (0 : Int32))]) (rest := []) (Ps := [.int (xs 1)]) (L0 := [(0, .ref 39), (1, .int (xs 1))]) h_m1000 (z_at.mk 3 rfl rfl) (Or.inl ⟨rfl, rfl⟩) rfl rfl (by decide) (by decide) rfl rfl rfl rfl rfl rfl (by decide) rfl rfl rfl ?_
  refine w_p h_m126 1 (pc' := 1) (L' := [(0, .ref 39), (1, .int (xs 1))]) (st' := [.int (xs 1)]) rfl ?_
  by_cases c_1 : (xs 1).toInt < 0
  · refine w_t1 (pc' := 30) (L' := []) h_m126 (z_at.mk 3 rfl rfl) rfl (zc (a := (xs 1).toInt) (b := 0) rfl rfl (decide_eq_true (by omega))) rfl rfl ?_
    refine w_p h_m126 1 (pc' := 33) (L' := []) (st' := [.long (-9223372036854775808 : Int64)]) rfl ?_
    refine w_rl h_m126 (z_at.mk 1 rfl rfl) rfl ?_
    show z_W 1000 1000 453 [(0, .ref 0), (1, .ref 39), (2, .ref 143), (3, .int (0 : Int32))] [.long (-9223372036854775808 : Int64)] m _
    refine w_p h_m1000 5 (pc' := 458) (L' := [(0, .ref 0), (1, .ref 39), (2, .ref 143), (3, .int (0 : Int32))]) (st' := [.int (1 : Int32), .ref 0, .ref 143, .long (-9223372036854775808 : Int64)]) rfl ?_
    refine w_ae H (j := 1) (pc' := 459) (L' := [(0, .ref 0), (1, .ref 39), (2, .ref 143), (3, .int (0 : Int32))]) h_m1000 (z_at.mk 1 rfl rfl) rfl rfl rfl (by decide) rfl (by decide) rfl rfl rfl ?_
    refine w_cv (H.t rfl) (pc' := 462) (L' := [(0, .ref 0), (1, .ref 39), (2, .ref 143), (3, .int (0 : Int32))]) (rest := [.long (-9223372036854775808 : Int64)]) (Ps := [.int (xs 1)]) (L0 := [(0, .ref 143), (1, .int (xs 1))]) h_m1000 (z_at.mk 3 rfl rfl) (Or.inl ⟨rfl, rfl⟩) rfl rfl (by decide) (by decide) rfl rfl rfl rfl rfl rfl (by decide) rfl rfl rfl ?_
    refine w_p h_m230 3 (pc' := 3) (L' := [(0, .ref 143), (1, .int (xs 1))]) (st' := [.ref 143, .int (0 : Int32), .int (xs 1)]) rfl ?_
    refine w_gf H (pc' := 6) (L' := [(0, .ref 143), (1, .int (xs 1))]) h_m230 (z_at.mk 3 rfl rfl) rfl (u := .int (0 : Int32)) rfl rfl rfl ?_
    refine w_p h_m230 2 (pc' := 8) (L' := [(0, .ref 143), (1, .int (xs 1))]) (st' := [.int (-1 : Int32), .int (0 : Int32), .int (xs 1)]) rfl ?_
    refine w_cs (As := [.int (xs 1), .int (0 : Int32), .int (-1 : Int32)]) (rest := []) (j := 159) (L0 := [(0, .int (xs 1)), (1, .int (0 : Int32)), (2, .int (-1 : Int32))]) (pc' := 11) (L' := [(0, .ref 143), (1, .int (xs 1))]) h_m230 (z_at.mk 3 rfl rfl) (Or.inl ⟨rfl, rfl⟩) rfl rfl rfl rfl rfl ?_
    refine w_p h_m159 2 (pc' := 2) (L' := [(0, .int (xs 1)), (1, .int (0 : Int32)), (2, .int (-1 : Int32))]) (st' := [.int (0 : Int32), .int (xs 1)]) rfl ?_
    refine w_t2 (pc' := 14) (L' := []) h_m159 (z_at.mk 3 rfl rfl) rfl (zc (a := (xs 1).toInt) (b := 0) rfl rfl (decide_eq_true (by omega))) rfl rfl ?_
    refine w_p h_m159 1 (pc' := 15) (L' := []) (st' := [.int (0 : Int32)]) rfl ?_
    refine w_ri h_m159 (z_at.mk 1 rfl rfl) rfl rfl ?_
    show z_W 999 230 11 [(0, .ref 143), (1, .int (xs 1))] [.int (0 : Int32)] m _
    refine w_p h_m230 2 (pc' := 26) (L' := []) (st' := [.long (-9223372036854775808 : Int64)]) rfl ?_
    refine w_rl h_m230 (z_at.mk 1 rfl rfl) rfl ?_
    show z_W 1000 1000 462 [(0, .ref 0), (1, .ref 39), (2, .ref 143), (3, .int (0 : Int32))] [.long (-9223372036854775808 : Int64), .long (-9223372036854775808 : Int64)] m _
    refine w_p h_m1000 6 (pc' := 20) (L' := [(0, .ref 0), (1, .ref 39), (2, .ref 143), (3, .int (6 : Int32))]) (st' := [.ref 0, .int (6 : Int32)]) rfl ?_
    refine w_lene H (x := (6 : Int32)) (pc' := 21) (L' := [(0, .ref 0), (1, .ref 39), (2, .ref 143), (3, .int (6 : Int32))]) h_m1000 (z_at.mk 1 rfl rfl) (by decide) rfl (by decide) rfl rfl rfl ?_
    refine w_p h_m1000 4 (pc' := 1381) (L' := [(0, .ref 0), (1, .ref 39), (2, .ref 143), (3, .int (6 : Int32))]) (st' := [.int (1 : Int32)]) rfl ?_
    refine w_ri h_m1000 (z_at.mk 1 rfl rfl) rfl rfl ?_
    exact hQ _ _ _ _ H (by decide) (by decide)
  · refine w_f1 (pc' := 4) (L' := [(0, .ref 39), (1, .int (xs 1))]) h_m126 (z_at.mk 3 rfl rfl) rfl (zc (a := (xs 1).toInt) (b := 0) rfl rfl (decide_eq_false (by omega))) rfl rfl ?_
    refine w_p h_m126 2 (pc' := 6) (L' := [(0, .ref 39), (1, .int (xs 1))]) (st' := [.ref 39, .int (xs 1)]) rfl ?_
    refine w_gf H (pc' := 9) (L' := [(0, .ref 39), (1, .int (xs 1))]) h_m126 (z_at.mk 3 rfl rfl) rfl (u := .int (0 : Int32)) rfl rfl rfl ?_
    refine w_t2 (pc' := 30) (L' := []) h_m126 (z_at.mk 3 rfl rfl) rfl (zc (a := (xs 1).toInt) (b := 0) rfl rfl (decide_eq_true (by omega))) rfl rfl ?_
    refine w_p h_m126 1 (pc' := 33) (L' := []) (st' := [.long (-9223372036854775808 : Int64)]) rfl ?_
    refine w_rl h_m126 (z_at.mk 1 rfl rfl) rfl ?_
    show z_W 1000 1000 453 [(0, .ref 0), (1, .ref 39), (2, .ref 143), (3, .int (0 : Int32))] [.long (-9223372036854775808 : Int64)] m _
    refine w_p h_m1000 5 (pc' := 458) (L' := [(0, .ref 0), (1, .ref 39), (2, .ref 143), (3, .int (0 : Int32))]) (st' := [.int (1 : Int32), .ref 0, .ref 143, .long (-9223372036854775808 : Int64)]) rfl ?_
    refine w_ae H (j := 1) (pc' := 459) (L' := [(0, .ref 0), (1, .ref 39), (2, .ref 143), (3, .int (0 : Int32))]) h_m1000 (z_at.mk 1 rfl rfl) rfl rfl rfl (by decide) rfl (by decide) rfl rfl rfl ?_
    refine w_cv (H.t rfl) (pc' := 462) (L' := [(0, .ref 0), (1, .ref 39), (2, .ref 143), (3, .int (0 : Int32))]) (rest := [.long (-9223372036854775808 : Int64)]) (Ps := [.int (xs 1)]) (L0 := [(0, .ref 143), (1, .int (xs 1))]) h_m1000 (z_at.mk 3 rfl rfl) (Or.inl ⟨rfl, rfl⟩) rfl rfl (by decide) (by decide) rfl rfl rfl rfl rfl rfl (by decide) rfl rfl rfl ?_
    refine w_p h_m230 3 (pc' := 3) (L' := [(0, .ref 143), (1, .int (xs 1))]) (st' := [.ref 143, .int (0 : Int32), .int (xs 1)]) rfl ?_
    refine w_gf H (pc' := 6) (L' := [(0, .ref 143), (1, .int (xs 1))]) h_m230 (z_at.mk 3 rfl rfl) rfl (u := .int (0 : Int32)) rfl rfl rfl ?_
    refine w_p h_m230 2 (pc' := 8) (L' := [(0, .ref 143), (1, .int (xs 1))]) (st' := [.int (-1 : Int32), .int (0 : Int32), .int (xs 1)]) rfl ?_
    refine w_cs (As := [.int (xs 1), .int (0 : Int32), .int (-1 : Int32)]) (rest := []) (j := 159) (L0 := [(0, .int (xs 1)), (1, .int (0 : Int32)), (2, .int (-1 : Int32))]) (pc' := 11) (L' := [(0, .ref 143), (1, .int (xs 1))]) h_m230 (z_at.mk 3 rfl rfl) (Or.inl ⟨rfl, rfl⟩) rfl rfl rfl rfl rfl ?_
    refine w_p h_m159 2 (pc' := 2) (L' := [(0, .int (xs 1)), (1, .int (0 : Int32)), (2, .int (-1 : Int32))]) (st' := [.int (0 : Int32), .int (xs 1)]) rfl ?_
    refine w_f2 (pc' := 5) (L' := [(0, .int (xs 1)), (1, .int (0 : Int32)), (2, .int (-1 : Int32))]) h_m159 (z_at.mk 3 rfl rfl) rfl (zc (a := (xs 1).toInt) (b := 0) rfl rfl (decide_eq_false (by omega))) rfl rfl ?_
    refine w_p h_m159 2 (pc' := 7) (L' := [(0, .int (xs 1)), (1, .int (0 : Int32)), (2, .int (-1 : Int32))]) (st' := [.int (-1 : Int32), .int (xs 1)]) rfl ?_
    refine w_t2 (pc' := 14) (L' := []) h_m159 (z_at.mk 3 rfl rfl) rfl (zc (a := (xs 1).toInt) (b := (-1)) rfl rfl (decide_eq_true (by omega))) rfl rfl ?_
    refine w_p h_m159 1 (pc' := 15) (L' := []) (st' := [.int (0 : Int32)]) rfl ?_
    refine w_ri h_m159 (z_at.mk 1 rfl rfl) rfl rfl ?_
    show z_W 999 230 11 [(0, .ref 143), (1, .int (xs 1))] [.int (0 : Int32)] m _
    refine w_p h_m230 2 (pc' := 26) (L' := []) (st' := [.long (-9223372036854775808 : Int64)]) rfl ?_
    refine w_rl h_m230 (z_at.mk 1 rfl rfl) rfl ?_
    show z_W 1000 1000 462 [(0, .ref 0), (1, .ref 39), (2, .ref 143), (3, .int (0 : Int32))] [.long (-9223372036854775808 : Int64), .long (-9223372036854775808 : Int64)] m _
    refine w_p h_m1000 6 (pc' := 20) (L' := [(0, .ref 0), (1, .ref 39), (2, .ref 143), (3, .int (6 : Int32))]) (st' := [.ref 0, .int (6 : Int32)]) rfl ?_
    refine w_lene H (x := (6 : Int32)) (pc' := 21) (L' := [(0, .ref 0), (1, .ref 39), (2, .ref 143), (3, .int (6 : Int32))]) h_m1000 (z_at.mk 1 rfl rfl) (by decide) rfl (by decide) rfl rfl rfl ?_
    refine w_p h_m1000 4 (pc' := 1381) (L' := [(0, .ref 0), (1, .ref 39), (2, .ref 143), (3, .int (6 : Int32))]) (st' := [.int (1 : Int32)]) rfl ?_
    refine w_ri h_m1000 (z_at.mk 1 rfl rfl) rfl rfl ?_
    exact hQ _ _ _ _ H (by decide) (by decide)
set_option maxHeartbeats 400000000 in
set_option maxRecDepth 20000 in
theorem w_c13 {xs : Nat → Int32} {m : zM} {Q : Option Value → zM → Prop} (H : w_ok 6 xs 168 63950 w_T0 m) (hQ : ∀ N S T m, w_ok 6 xs N S T m → N ≤ 600039 → S ≤ 7302250 → Q (some (.int 1)) m) : z_W 1000 1000 547 [(0, .ref 0), (1, .ref 39), (2, .ref 143), (3, .int (0 : Int32))] [] m Q := by
  have b1 := zi_bd (xs 1)
  have b2 := zi_bd (xs 2)
  have b3 := zi_bd (xs 3)
  have b4 := zi_bd (xs 4)
  have b5 := zi_bd (xs 5)
  refine w_p h_m1000 5 (pc' := 552) (L' := [(0, .ref 0), (1, .ref 39), (2, .ref 143), (3, .int (0 : Int32))]) (st' := [.int (1 : Int32), .ref 0, .ref 39]) rfl ?_
  refine w_ae H (j := 1) (pc' := 553) (L' := [(0, .ref 0), (1, .ref 39), (2, .ref 143), (3, .int (0 : Int32))]) h_m1000 (z_at.mk 1 rfl rfl) rfl rfl rfl (by decide) rfl (by decide) rfl rfl rfl ?_
  refine w_cv (H.t rfl) (pc' := 556) (L' := [(0, .ref 0), (1, .ref 39), (2, .ref 143), (3, .int (0 : Int32))]) (rest := []) (Ps := [.int (xs 1)]) (L0 := [(0, .ref 39), (1, .int (xs 1))]) h_m1000 (z_at.mk 3 rfl rfl) (Or.inl ⟨rfl, rfl⟩) rfl rfl (by decide) (by decide) rfl rfl rfl rfl rfl rfl (by decide) rfl rfl rfl ?_
  refine w_p h_m132 1 (pc' := 1) (L' := [(0, .ref 39), (1, .int (xs 1))]) (st' := [.int (xs 1)]) rfl ?_
  by_cases c_1 : (xs 1).toInt < 0
  · refine w_t1 (pc' := 26) (L' := []) h_m132 (z_at.mk 3 rfl rfl) rfl (zc (a := (xs 1).toInt) (b := 0) rfl rfl (decide_eq_true (by omega))) rfl rfl ?_
    refine w_p h_m132 1 (pc' := 27) (L' := []) (st' := [.int (-1 : Int32)]) rfl ?_
    refine w_ri h_m132 (z_at.mk 1 rfl rfl) rfl rfl ?_
    show z_W 1000 1000 556 [(0, .ref 0), (1, .ref 39), (2, .ref 143), (3, .int (0 : Int32))] [.int (-1 : Int32)] m _
    refine w_p h_m1000 5 (pc' := 561) (L' := [(0, .ref 0), (1, .ref 39), (2, .ref 143), (3, .int (0 : Int32))]) (st' := [.int (1 : Int32), .ref 0, .ref 143, .int (-1 : Int32)]) rfl ?_
    refine w_ae H (j := 1) (pc' := 562) (L' := [(0, .ref 0), (1, .ref 39), (2, .ref 143), (3, .int (0 : Int32))]) h_m1000 (z_at.mk 1 rfl rfl) rfl rfl rfl (by decide) rfl (by decide) rfl rfl rfl ?_
    refine w_cv (H.t rfl) (pc' := 565) (L' := [(0, .ref 0), (1, .ref 39), (2, .ref 143), (3, .int (0 : Int32))]) (rest := [.int (-1 : Int32)]) (Ps := [.int (xs 1)]) (L0 := [(0, .ref 143), (1, .int (xs 1))]) h_m1000 (z_at.mk 3 rfl rfl) (Or.inl ⟨rfl, rfl⟩) rfl rfl (by decide) (by decide) rfl rfl rfl rfl rfl rfl (by decide) rfl rfl rfl ?_
    refine w_p h_m240 3 (pc' := 3) (L' := [(0, .ref 143), (1, .int (xs 1))]) (st' := [.ref 143, .int (0 : Int32), .int (xs 1)]) rfl ?_
    refine w_gf H (pc' := 6) (L' := [(0, .ref 143), (1, .int (xs 1))]) h_m240 (z_at.mk 3 rfl rfl) rfl (u := .int (0 : Int32)) rfl rfl rfl ?_
    refine w_p h_m240 2 (pc' := 8) (L' := [(0, .ref 143), (1, .int (xs 1))]) (st' := [.int (-1 : Int32), .int (0 : Int32), .int (xs 1)]) rfl ?_
    refine w_cs (As := [.int (xs 1), .int (0 : Int32), .int (-1 : Int32)]) (rest := []) (j := 159) (L0 := [(0, .int (xs 1)), (1, .int (0 : Int32)), (2, .int (-1 : Int32))]) (pc' := 11) (L' := [(0, .ref 143), (1, .int (xs 1))]) h_m240 (z_at.mk 3 rfl rfl) (Or.inl ⟨rfl, rfl⟩) rfl rfl rfl rfl rfl ?_
    refine w_p h_m159 2 (pc' := 2) (L' := [(0, .int (xs 1)), (1, .int (0 : Int32)), (2, .int (-1 : Int32))]) (st' := [.int (0 : Int32), .int (xs 1)]) rfl ?_
    refine w_t2 (pc' := 14) (L' := []) h_m159 (z_at.mk 3 rfl rfl) rfl (zc (a := (xs 1).toInt) (b := 0) rfl rfl (decide_eq_true (by omega))) rfl rfl ?_
    refine w_p h_m159 1 (pc' := 15) (L' := []) (st' := [.int (0 : Int32)]) rfl ?_
    refine w_ri h_m159 (z_at.mk 1 rfl rfl) rfl rfl ?_
    show z_W 999 240 11 [(0, .ref 143), (1, .int (xs 1))] [.int (0 : Int32)] m _
    refine w_p h_m240 2 (pc' := 24) (L' := []) (st' := [.int (-1 : Int32)]) rfl ?_
    refine w_ri h_m240 (z_at.mk 1 rfl rfl) rfl rfl ?_
    show z_W 1000 1000 565 [(0, .ref 0), (1, .ref 39), (2, .ref 143), (3, .int (0 : Int32))] [.int (-1 : Int32), .int (-1 : Int32)] m _
    refine w_p h_m1000 5 (pc' := 20) (L' := [(0, .ref 0), (1, .ref 39), (2, .ref 143), (3, .int (6 : Int32))]) (st' := [.ref 0, .int (6 : Int32)]) rfl ?_
    refine w_lene H (x := (6 : Int32)) (pc' := 21) (L' := [(0, .ref 0), (1, .ref 39), (2, .ref 143), (3, .int (6 : Int32))]) h_m1000 (z_at.mk 1 rfl rfl) (by decide) rfl (by decide) rfl rfl rfl ?_
    refine w_p h_m1000 4 (pc' := 1381) (L' := [(0, .ref 0), (1, .ref 39), (2, .ref 143), (3, .int (6 : Int32))]) (st' := [.int (1 : Int32)]) rfl ?_
    refine w_ri h_m1000 (z_at.mk 1 rfl rfl) rfl rfl ?_
    exact hQ _ _ _ _ H (by decide) (by decide)
  · refine w_f1 (pc' := 4) (L' := [(0, .ref 39), (1, .int (xs 1))]) h_m132 (z_at.mk 3 rfl rfl) rfl (zc (a := (xs 1).toInt) (b := 0) rfl rfl (decide_eq_false (by omega))) rfl rfl ?_
    refine w_p h_m132 2 (pc' := 6) (L' := [(0, .ref 39), (1, .int (xs 1))]) (st' := [.ref 39, .int (xs 1)]) rfl ?_
    refine w_gf H (pc' := 9) (L' := [(0, .ref 39), (1, .int (xs 1))]) h_m132 (z_at.mk 3 rfl rfl) rfl (u := .ref 129) rfl rfl rfl ?_
    refine w_cv (H.t rfl) (pc' := 12) (L' := [(0, .ref 39), (1, .int (xs 1))]) (rest := [.int (xs 1)]) (Ps := []) (L0 := [(0, .ref 129)]) h_m132 (z_at.mk 3 rfl rfl) (Or.inl ⟨rfl, rfl⟩) rfl rfl (by decide) (by decide) rfl rfl rfl rfl rfl rfl (by decide) rfl rfl rfl ?_
    refine w_p h_m307 1 (pc' := 1) (L' := [(0, .ref 129)]) (st' := [.ref 129]) rfl ?_
    refine w_cv (H.t rfl) (pc' := 4) (L' := [(0, .ref 129)]) (rest := []) (Ps := []) (L0 := [(0, .ref 129)]) h_m307 (z_at.mk 3 rfl rfl) (Or.inr ⟨rfl, rfl, rfl⟩) rfl rfl (by decide) (by decide) rfl rfl rfl rfl rfl rfl (by decide) rfl rfl rfl ?_
    refine w_p h_m273 1 (pc' := 1) (L' := [(0, .ref 129)]) (st' := [.ref 129]) rfl ?_
    refine w_gf H (pc' := 4) (L' := [(0, .ref 129)]) h_m273 (z_at.mk 3 rfl rfl) rfl (u := .int (0 : Int32)) rfl rfl rfl ?_
    refine w_ri h_m273 (z_at.mk 1 rfl rfl) rfl rfl ?_
    show z_W 998 307 4 [(0, .ref 129)] [.int (0 : Int32)] m _
    refine w_ri h_m307 (z_at.mk 1 rfl rfl) rfl rfl ?_
    show z_W 999 132 12 [(0, .ref 39), (1, .int (xs 1))] [.int (0 : Int32), .int (xs 1)] m _
    refine w_t2 (pc' := 26) (L' := []) h_m132 (z_at.mk 3 rfl rfl) rfl (zc (a := (xs 1).toInt) (b := 0) rfl rfl (decide_eq_true (by omega))) rfl rfl ?_
    refine w_p h_m132 1 (pc' := 27) (L' := []) (st' := [.int (-1 : Int32)]) rfl ?_
    refine w_ri h_m132 (z_at.mk 1 rfl rfl) rfl rfl ?_
    show z_W 1000 1000 556 [(0, .ref 0), (1, .ref 39), (2, .ref 143), (3, .int (0 : Int32))] [.int (-1 : Int32)] m _
    refine w_p h_m1000 5 (pc' := 561) (L' := [(0, .ref 0), (1, .ref 39), (2, .ref 143), (3, .int (0 : Int32))]) (st' := [.int (1 : Int32), .ref 0, .ref 143, .int (-1 : Int32)]) rfl ?_
    refine w_ae H (j := 1) (pc' := 562) (L' := [(0, .ref 0), (1, .ref 39), (2, .ref 143), (3, .int (0 : Int32))]) h_m1000 (z_at.mk 1 rfl rfl) rfl rfl rfl (by decide) rfl (by decide) rfl rfl rfl ?_
    refine w_cv (H.t rfl) (pc' := 565) (L' := [(0, .ref 0), (1, .ref 39), (2, .ref 143), (3, .int (0 : Int32))]) (rest := [.int (-1 : Int32)]) (Ps := [.int (xs 1)]) (L0 := [(0, .ref 143), (1, .int (xs 1))]) h_m1000 (z_at.mk 3 rfl rfl) (Or.inl ⟨rfl, rfl⟩) rfl rfl (by decide) (by decide) rfl rfl rfl rfl rfl rfl (by decide) rfl rfl rfl ?_
    refine w_p h_m240 3 (pc' := 3) (L' := [(0, .ref 143), (1, .int (xs 1))]) (st' := [.ref 143, .int (0 : Int32), .int (xs 1)]) rfl ?_
    refine w_gf H (pc' := 6) (L' := [(0, .ref 143), (1, .int (xs 1))]) h_m240 (z_at.mk 3 rfl rfl) rfl (u := .int (0 : Int32)) rfl rfl rfl ?_
    refine w_p h_m240 2 (pc' := 8) (L' := [(0, .ref 143), (1, .int (xs 1))]) (st' := [.int (-1 : Int32), .int (0 : Int32), .int (xs 1)]) rfl ?_
    refine w_cs (As := [.int (xs 1), .int (0 : Int32), .int (-1 : Int32)]) (rest := []) (j := 159) (L0 := [(0, .int (xs 1)), (1, .int (0 : Int32)), (2, .int (-1 : Int32))]) (pc' := 11) (L' := [(0, .ref 143), (1, .int (xs 1))]) h_m240 (z_at.mk 3 rfl rfl) (Or.inl ⟨rfl, rfl⟩) rfl rfl rfl rfl rfl ?_
    refine w_p h_m159 2 (pc' := 2) (L' := [(0, .int (xs 1)), (1, .int (0 : Int32)), (2, .int (-1 : Int32))]) (st' := [.int (0 : Int32), .int (xs 1)]) rfl ?_
    refine w_f2 (pc' := 5) (L' := [(0, .int (xs 1)), (1, .int (0 : Int32)), (2, .int (-1 : Int32))]) h_m159 (z_at.mk 3 rfl rfl) rfl (zc (a := (xs 1).toInt) (b := 0) rfl rfl (decide_eq_false (by omega))) rfl rfl ?_
    refine w_p h_m159 2 (pc' := 7) (L' := [(0, .int (xs 1)), (1, .int (0 : Int32)), (2, .int (-1 : Int32))]) (st' := [.int (-1 : Int32), .int (xs 1)]) rfl ?_
    refine w_t2 (pc' := 14) (L' := []) h_m159 (z_at.mk 3 rfl rfl) rfl (zc (a := (xs 1).toInt) (b := (-1)) rfl rfl (decide_eq_true (by omega))) rfl rfl ?_
    refine w_p h_m159 1 (pc' := 15) (L' := []) (st' := [.int (0 : Int32)]) rfl ?_
    refine w_ri h_m159 (z_at.mk 1 rfl rfl) rfl rfl ?_
    show z_W 999 240 11 [(0, .ref 143), (1, .int (xs 1))] [.int (0 : Int32)] m _
    refine w_p h_m240 2 (pc' := 24) (L' := []) (st' := [.int (-1 : Int32)]) rfl ?_
    refine w_ri h_m240 (z_at.mk 1 rfl rfl) rfl rfl ?_
    show z_W 1000 1000 565 [(0, .ref 0), (1, .ref 39), (2, .ref 143), (3, .int (0 : Int32))] [.int (-1 : Int32), .int (-1 : Int32)] m _
    refine w_p h_m1000 5 (pc' := 20) (L' := [(0, .ref 0), (1, .ref 39), (2, .ref 143), (3, .int (6 : Int32))]) (st' := [.ref 0, .int (6 : Int32)]) rfl ?_
    refine w_lene H (x := (6 : Int32)) (pc' := 21) (L' := [(0, .ref 0), (1, .ref 39), (2, .ref 143), (3, .int (6 : Int32))]) h_m1000 (z_at.mk 1 rfl rfl) (by decide) rfl (by decide) rfl rfl rfl ?_
    refine w_p h_m1000 4 (pc' := 1381) (L' := [(0, .ref 0), (1, .ref 39), (2, .ref 143), (3, .int (6 : Int32))]) (st' := [.int (1 : Int32)]) rfl ?_
    refine w_ri h_m1000 (z_at.mk 1 rfl rfl) rfl rfl ?_
    exact hQ _ _ _ _ H (by decide) (by decide)
set_option maxHeartbeats 400000000 in
set_option maxRecDepth 20000 in
theorem w_c15 {xs : Nat → Int32} {m : zM} {Q : Option Value → zM → Prop} (H : w_ok 6 xs 168 63950 w_T0 m) (hQ : ∀ N S T m, w_ok 6 xs N S T m → N ≤ 600039 → S ≤ 7302250 → Q (some (.int 1)) m) : z_W 1000 1000 634 [(0, .ref 0), (1, .ref 39), (2, .ref 143), (3, .int (0 : Int32))] [] m Q := by
  have b1 := zi_bd (xs 1)
  have b2 := zi_bd (xs 2)
  have b3 := zi_bd (xs 3)
  have b4 := zi_bd (xs 4)
  have b5 := zi_bd (xs 5)
  refine w_p h_m1000 5 (pc' := 639) (L' := [(0, .ref 0), (1, .ref 39), (2, .ref 143), (3, .int (0 : Int32))]) (st' := [.int (1 : Int32), .ref 0, .ref 39]) rfl ?_
  refine w_ae H (j := 1) (pc' := 640) (L' := [(0, .ref 0), (1, .ref 39), (2, .ref 143), (3, .int (0 : Int32))]) h_m1000 (z_at.mk 1 rfl rfl) rfl rfl rfl (by decide) rfl (by decide) rfl rfl rfl ?_
  refine w_cv (H.t rfl) (pc' := 643) (L' := [(0, .ref 0), (1, .ref 39), (2, .ref 143), (3, .int (0 : Int32))]) (rest := []) (Ps := [.int (xs 1)]) (L0 := [(0, .ref 39), (1, .int (xs 1))]) h_m1000 (z_at.mk 3 rfl rfl) (Or.inl ⟨rfl, rfl⟩) rfl rfl (by decide) (by decide) rfl rfl rfl rfl rfl rfl (by decide) rfl rfl rfl ?_
  refine w_p h_m134 2 (pc' := 2) (L' := [(0, .ref 39), (1, .int (xs 1))]) (st' := [.int (-1 : Int32), .int (xs 1)]) rfl ?_
  by_cases c_1 : (xs 1).toInt = (-1)
  · refine w_f2 (pc' := 5) (L' := [(0, .ref 39), (1, .int (xs 1))]) h_m134 (z_at.mk 3 rfl rfl) rfl (zc (a := (xs 1).toInt) (b := (-1)) rfl rfl (decide_eq_false (by omega))) rfl rfl ?_
    refine w_p h_m134 1 (pc' := 6) (L' := [(0, .ref 39), (1, .int (xs 1))]) (st' := [.ref 39]) rfl ?_
    refine w_gf H (pc' := 9) (L' := [(0, .ref 39), (1, .int (xs 1))]) h_m134 (z_at.mk 3 rfl rfl) rfl (u := .ref 40) rfl rfl rfl ?_
    refine w_gf H (pc' := 12) (L' := [(0, .ref 39), (1, .int (xs 1))]) h_m134 (z_at.mk 3 rfl rfl) rfl (u := .ref 60) rfl rfl rfl ?_
    refine w_gf H (pc' := 15) (L' := [(0, .ref 39), (1, .int (xs 1))]) h_m134 (z_at.mk 3 rfl rfl) rfl (u := .int (0 : Int32)) rfl rfl rfl ?_
    refine w_ri h_m134 (z_at.mk 1 rfl rfl) rfl rfl ?_
    show z_W 1000 1000 643 [(0, .ref 0), (1, .ref 39), (2, .ref 143), (3, .int (0 : Int32))] [.int (0 : Int32)] m _
    refine w_p h_m1000 5 (pc' := 648) (L' := [(0, .ref 0), (1, .ref 39), (2, .ref 143), (3, .int (0 : Int32))]) (st' := [.int (1 : Int32), .ref 0, .ref 143, .int (0 : Int32)]) rfl ?_
    refine w_ae H (j := 1) (pc' := 649) (L' := [(0, .ref 0), (1, .ref 39), (2, .ref 143), (3, .int (0 : Int32))]) h_m1000 (z_at.mk 1 rfl rfl) rfl rfl rfl (by decide) rfl (by decide) rfl rfl rfl ?_
    refine w_cv (H.t rfl) (pc' := 652) (L' := [(0, .ref 0), (1, .ref 39), (2, .ref 143), (3, .int (0 : Int32))]) (rest := [.int (0 : Int32)]) (Ps := [.int (xs 1)]) (L0 := [(0, .ref 143), (1, .int (xs 1))]) h_m1000 (z_at.mk 3 rfl rfl) (Or.inl ⟨rfl, rfl⟩) rfl rfl (by decide) (by decide) rfl rfl rfl rfl rfl rfl (by decide) rfl rfl rfl ?_
    refine w_p h_m245 2 (pc' := 2) (L' := [(0, .ref 143), (1, .int (xs 1))]) (st' := [.int (-1 : Int32), .int (xs 1)]) rfl ?_
    refine w_f2 (pc' := 5) (L' := [(0, .ref 143), (1, .int (xs 1))]) h_m245 (z_at.mk 3 rfl rfl) rfl (zc (a := (xs 1).toInt) (b := (-1)) rfl rfl (decide_eq_false (by omega))) rfl rfl ?_
    refine w_p h_m245 1 (pc' := 6) (L' := [(0, .ref 143), (1, .int (xs 1))]) (st' := [.ref 143]) rfl ?_
    refine w_gf H (pc' := 9) (L' := [(0, .ref 143), (1, .int (xs 1))]) h_m245 (z_at.mk 3 rfl rfl) rfl (u := .ref 144) rfl rfl rfl ?_
    refine w_p h_m245 1 (pc' := 11) (L' := [(0, .ref 143), (1, .int (xs 1))]) (st' := [.int (8 : Int32), .ref 144]) rfl ?_
    refine w_al H (t := 0) (j := 8) (pc' := 12) (L' := [(0, .ref 143), (1, .int (xs 1))]) h_m245 (z_at.mk 1 rfl rfl) rfl rfl rfl (u := .int (0 : Int32)) rfl rfl rfl ?_
    refine w_p h_m245 1 (pc' := 46) (L' := []) (st' := [.int (0 : Int32)]) rfl ?_
    refine w_ri h_m245 (z_at.mk 1 rfl rfl) rfl rfl ?_
    show z_W 1000 1000 652 [(0, .ref 0), (1, .ref 39), (2, .ref 143), (3, .int (0 : Int32))] [.int (0 : Int32), .int (0 : Int32)] m _
    refine w_p h_m1000 5 (pc' := 20) (L' := [(0, .ref 0), (1, .ref 39), (2, .ref 143), (3, .int (6 : Int32))]) (st' := [.ref 0, .int (6 : Int32)]) rfl ?_
    refine w_lene H (x := (6 : Int32)) (pc' := 21) (L' := [(0, .ref 0), (1, .ref 39), (2, .ref 143), (3, .int (6 : Int32))]) h_m1000 (z_at.mk 1 rfl rfl) (by decide) rfl (by decide) rfl rfl rfl ?_
    refine w_p h_m1000 4 (pc' := 1381) (L' := [(0, .ref 0), (1, .ref 39), (2, .ref 143), (3, .int (6 : Int32))]) (st' := [.int (1 : Int32)]) rfl ?_
    refine w_ri h_m1000 (z_at.mk 1 rfl rfl) rfl rfl ?_
    exact hQ _ _ _ _ H (by decide) (by decide)
  · refine w_t2 (pc' := 16) (L' := [(0, .ref 39), (1, .int (xs 1))]) h_m134 (z_at.mk 3 rfl rfl) rfl (zc (a := (xs 1).toInt) (b := (-1)) rfl rfl (decide_eq_true (by omega))) rfl rfl ?_
    refine w_p h_m134 1 (pc' := 17) (L' := [(0, .ref 39), (1, .int (xs 1))]) (st' := [.int (xs 1)]) rfl ?_
    by_cases c_2 : (xs 1).toInt < 0
    · refine w_t1 (pc' := 49) (L' := []) h_m134 (z_at.mk 3 rfl rfl) rfl (zc (a := (xs 1).toInt) (b := 0) rfl rfl (decide_eq_true (by omega))) rfl rfl ?_
      refine w_p h_m134 1 (pc' := 50) (L' := []) (st' := [.int (-1 : Int32)]) rfl ?_
      refine w_ri h_m134 (z_at.mk 1 rfl rfl) rfl rfl ?_
      show z_W 1000 1000 643 [(0, .ref 0), (1, .ref 39), (2, .ref 143), (3, .int (0 : Int32))] [.int (-1 : Int32)] m _
      refine w_p h_m1000 5 (pc' := 648) (L' := [(0, .ref 0), (1, .ref 39), (2, .ref 143), (3, .int (0 : Int32))]) (st' := [.int (1 : Int32), .ref 0, .ref 143, .int (-1 : Int32)]) rfl ?_
      refine w_ae H (j := 1) (pc' := 649) (L' := [(0, .ref 0), (1, .ref 39), (2, .ref 143), (3, .int (0 : Int32))]) h_m1000 (z_at.mk 1 rfl rfl) rfl rfl rfl (by decide) rfl (by decide) rfl rfl rfl ?_
      refine w_cv (H.t rfl) (pc' := 652) (L' := [(0, .ref 0), (1, .ref 39), (2, .ref 143), (3, .int (0 : Int32))]) (rest := [.int (-1 : Int32)]) (Ps := [.int (xs 1)]) (L0 := [(0, .ref 143), (1, .int (xs 1))]) h_m1000 (z_at.mk 3 rfl rfl) (Or.inl ⟨rfl, rfl⟩) rfl rfl (by decide) (by decide) rfl rfl rfl rfl rfl rfl (by decide) rfl rfl rfl ?_
      refine w_p h_m245 2 (pc' := 2) (L' := [(0, .ref 143), (1, .int (xs 1))]) (st' := [.int (-1 : Int32), .int (xs 1)]) rfl ?_
      refine w_t2 (pc' := 15) (L' := [(0, .ref 143), (1, .int (xs 1))]) h_m245 (z_at.mk 3 rfl rfl) rfl (zc (a := (xs 1).toInt) (b := (-1)) rfl rfl (decide_eq_true (by omega))) rfl rfl ?_
      refine w_p h_m245 3 (pc' := 18) (L' := [(0, .ref 143), (1, .int (xs 1))]) (st' := [.ref 143, .int (0 : Int32), .int (xs 1)]) rfl ?_
      refine w_gf H (pc' := 21) (L' := [(0, .ref 143), (1, .int (xs 1))]) h_m245 (z_at.mk 3 rfl rfl) rfl (u := .ref 144) rfl rfl rfl ?_
      refine w_p h_m245 1 (pc' := 23) (L' := [(0, .ref 143), (1, .int (xs 1))]) (st' := [.int (8 : Int32), .ref 144, .int (0 : Int32), .int (xs 1)]) rfl ?_
      refine w_al H (t := 0) (j := 8) (pc' := 24) (L' := [(0, .ref 143), (1, .int (xs 1))]) h_m245 (z_at.mk 1 rfl rfl) rfl rfl rfl (u := .int (0 : Int32)) rfl rfl rfl ?_
      refine w_p h_m245 2 (pc' := 26) (L' := [(0, .ref 143), (1, .int (xs 1))]) (st' := [.int (-1 : Int32), .int (0 : Int32), .int (xs 1)]) rfl ?_
      refine w_cs (As := [.int (xs 1), .int (0 : Int32), .int (-1 : Int32)]) (rest := []) (j := 159) (L0 := [(0, .int (xs 1)), (1, .int (0 : Int32)), (2, .int (-1 : Int32))]) (pc' := 29) (L' := [(0, .ref 143), (1, .int (xs 1))]) h_m245 (z_at.mk 3 rfl rfl) (Or.inl ⟨rfl, rfl⟩) rfl rfl rfl rfl rfl ?_
      refine w_p h_m159 2 (pc' := 2) (L' := [(0, .int (xs 1)), (1, .int (0 : Int32)), (2, .int (-1 : Int32))]) (st' := [.int (0 : Int32), .int (xs 1)]) rfl ?_
      refine w_t2 (pc' := 14) (L' := []) h_m159 (z_at.mk 3 rfl rfl) rfl (zc (a := (xs 1).toInt) (b := 0) rfl rfl (decide_eq_true (by omega))) rfl rfl ?_
      refine w_p h_m159 1 (pc' := 15) (L' := []) (st' := [.int (0 : Int32)]) rfl ?_
      refine w_ri h_m159 (z_at.mk 1 rfl rfl) rfl rfl ?_
      show z_W 999 245 29 [(0, .ref 143), (1, .int (xs 1))] [.int (0 : Int32)] m _
      refine w_p h_m245 2 (pc' := 46) (L' := []) (st' := [.int (-1 : Int32)]) rfl ?_
      refine w_ri h_m245 (z_at.mk 1 rfl rfl) rfl rfl ?_
      show z_W 1000 1000 652 [(0, .ref 0), (1, .ref 39), (2, .ref 143), (3, .int (0 : Int32))] [.int (-1 : Int32), .int (-1 : Int32)] m _
      refine w_p h_m1000 5 (pc' := 20) (L' := [(0, .ref 0), (1, .ref 39), (2, .ref 143), (3, .int (6 : Int32))]) (st' := [.ref 0, .int (6 : Int32)]) rfl ?_
      refine w_lene H (x := (6 : Int32)) (pc' := 21) (L' := [(0, .ref 0), (1, .ref 39), (2, .ref 143), (3, .int (6 : Int32))]) h_m1000 (z_at.mk 1 rfl rfl) (by decide) rfl (by decide) rfl rfl rfl ?_
      refine w_p h_m1000 4 (pc' := 1381) (L' := [(0, .ref 0), (1, .ref 39), (2, .ref 143), (3, .int (6 : Int32))]) (st' := [.int (1 : Int32)]) rfl ?_
      refine w_ri h_m1000 (z_at.mk 1 rfl rfl) rfl rfl ?_
      exact hQ _ _ _ _ H (by decide) (by decide)
    · refine w_f1 (pc' := 20) (L' := [(0, .ref 39), (1, .int (xs 1))]) h_m134 (z_at.mk 3 rfl rfl) rfl (zc (a := (xs 1).toInt) (b := 0) rfl rfl (decide_eq_false (by omega))) rfl rfl ?_
      refine w_p h_m134 2 (pc' := 22) (L' := [(0, .ref 39), (1, .int (xs 1))]) (st' := [.ref 39, .int (xs 1)]) rfl ?_
      refine w_gf H (pc' := 25) (L' := [(0, .ref 39), (1, .int (xs 1))]) h_m134 (z_at.mk 3 rfl rfl) rfl (u := .ref 40) rfl rfl rfl ?_
      refine w_gf H (pc' := 28) (L' := [(0, .ref 39), (1, .int (xs 1))]) h_m134 (z_at.mk 3 rfl rfl) rfl (u := .ref 60) rfl rfl rfl ?_
      refine w_gf H (pc' := 31) (L' := [(0, .ref 39), (1, .int (xs 1))]) h_m134 (z_at.mk 3 rfl rfl) rfl (u := .int (0 : Int32)) rfl rfl rfl ?_
      refine w_t2 (pc' := 49) (L' := []) h_m134 (z_at.mk 3 rfl rfl) rfl (zc (a := (xs 1).toInt) (b := 0) rfl rfl (decide_eq_true (by omega))) rfl rfl ?_
      refine w_p h_m134 1 (pc' := 50) (L' := []) (st' := [.int (-1 : Int32)]) rfl ?_
      refine w_ri h_m134 (z_at.mk 1 rfl rfl) rfl rfl ?_
      show z_W 1000 1000 643 [(0, .ref 0), (1, .ref 39), (2, .ref 143), (3, .int (0 : Int32))] [.int (-1 : Int32)] m _
      refine w_p h_m1000 5 (pc' := 648) (L' := [(0, .ref 0), (1, .ref 39), (2, .ref 143), (3, .int (0 : Int32))]) (st' := [.int (1 : Int32), .ref 0, .ref 143, .int (-1 : Int32)]) rfl ?_
      refine w_ae H (j := 1) (pc' := 649) (L' := [(0, .ref 0), (1, .ref 39), (2, .ref 143), (3, .int (0 : Int32))]) h_m1000 (z_at.mk 1 rfl rfl) rfl rfl rfl (by decide) rfl (by decide) rfl rfl rfl ?_
      refine w_cv (H.t rfl) (pc' := 652) (L' := [(0, .ref 0), (1, .ref 39), (2, .ref 143), (3, .int (0 : Int32))]) (rest := [.int (-1 : Int32)]) (Ps := [.int (xs 1)]) (L0 := [(0, .ref 143), (1, .int (xs 1))]) h_m1000 (z_at.mk 3 rfl rfl) (Or.inl ⟨rfl, rfl⟩) rfl rfl (by decide) (by decide) rfl rfl rfl rfl rfl rfl (by decide) rfl rfl rfl ?_
      refine w_p h_m245 2 (pc' := 2) (L' := [(0, .ref 143), (1, .int (xs 1))]) (st' := [.int (-1 : Int32), .int (xs 1)]) rfl ?_
      refine w_t2 (pc' := 15) (L' := [(0, .ref 143), (1, .int (xs 1))]) h_m245 (z_at.mk 3 rfl rfl) rfl (zc (a := (xs 1).toInt) (b := (-1)) rfl rfl (decide_eq_true (by omega))) rfl rfl ?_
      refine w_p h_m245 3 (pc' := 18) (L' := [(0, .ref 143), (1, .int (xs 1))]) (st' := [.ref 143, .int (0 : Int32), .int (xs 1)]) rfl ?_
      refine w_gf H (pc' := 21) (L' := [(0, .ref 143), (1, .int (xs 1))]) h_m245 (z_at.mk 3 rfl rfl) rfl (u := .ref 144) rfl rfl rfl ?_
      refine w_p h_m245 1 (pc' := 23) (L' := [(0, .ref 143), (1, .int (xs 1))]) (st' := [.int (8 : Int32), .ref 144, .int (0 : Int32), .int (xs 1)]) rfl ?_
      refine w_al H (t := 0) (j := 8) (pc' := 24) (L' := [(0, .ref 143), (1, .int (xs 1))]) h_m245 (z_at.mk 1 rfl rfl) rfl rfl rfl (u := .int (0 : Int32)) rfl rfl rfl ?_
      refine w_p h_m245 2 (pc' := 26) (L' := [(0, .ref 143), (1, .int (xs 1))]) (st' := [.int (-1 : Int32), .int (0 : Int32), .int (xs 1)]) rfl ?_
      refine w_cs (As := [.int (xs 1), .int (0 : Int32), .int (-1 : Int32)]) (rest := []) (j := 159) (L0 := [(0, .int (xs 1)), (1, .int (0 : Int32)), (2, .int (-1 : Int32))]) (pc' := 29) (L' := [(0, .ref 143), (1, .int (xs 1))]) h_m245 (z_at.mk 3 rfl rfl) (Or.inl ⟨rfl, rfl⟩) rfl rfl rfl rfl rfl ?_
      refine w_p h_m159 2 (pc' := 2) (L' := [(0, .int (xs 1)), (1, .int (0 : Int32)), (2, .int (-1 : Int32))]) (st' := [.int (0 : Int32), .int (xs 1)]) rfl ?_
      refine w_f2 (pc' := 5) (L' := [(0, .int (xs 1)), (1, .int (0 : Int32)), (2, .int (-1 : Int32))]) h_m159 (z_at.mk 3 rfl rfl) rfl (zc (a := (xs 1).toInt) (b := 0) rfl rfl (decide_eq_false (by omega))) rfl rfl ?_
      refine w_p h_m159 2 (pc' := 7) (L' := [(0, .int (xs 1)), (1, .int (0 : Int32)), (2, .int (-1 : Int32))]) (st' := [.int (-1 : Int32), .int (xs 1)]) rfl ?_
      refine w_t2 (pc' := 14) (L' := []) h_m159 (z_at.mk 3 rfl rfl) rfl (zc (a := (xs 1).toInt) (b := (-1)) rfl rfl (decide_eq_true (by omega))) rfl rfl ?_
      refine w_p h_m159 1 (pc' := 15) (L' := []) (st' := [.int (0 : Int32)]) rfl ?_
      refine w_ri h_m159 (z_at.mk 1 rfl rfl) rfl rfl ?_
      show z_W 999 245 29 [(0, .ref 143), (1, .int (xs 1))] [.int (0 : Int32)] m _
      refine w_p h_m245 2 (pc' := 46) (L' := []) (st' := [.int (-1 : Int32)]) rfl ?_
      refine w_ri h_m245 (z_at.mk 1 rfl rfl) rfl rfl ?_
      show z_W 1000 1000 652 [(0, .ref 0), (1, .ref 39), (2, .ref 143), (3, .int (0 : Int32))] [.int (-1 : Int32), .int (-1 : Int32)] m _
      refine w_p h_m1000 5 (pc' := 20) (L' := [(0, .ref 0), (1, .ref 39), (2, .ref 143), (3, .int (6 : Int32))]) (st' := [.ref 0, .int (6 : Int32)]) rfl ?_
      refine w_lene H (x := (6 : Int32)) (pc' := 21) (L' := [(0, .ref 0), (1, .ref 39), (2, .ref 143), (3, .int (6 : Int32))]) h_m1000 (z_at.mk 1 rfl rfl) (by decide) rfl (by decide) rfl rfl rfl ?_
      refine w_p h_m1000 4 (pc' := 1381) (L' := [(0, .ref 0), (1, .ref 39), (2, .ref 143), (3, .int (6 : Int32))]) (st' := [.int (1 : Int32)]) rfl ?_
      refine w_ri h_m1000 (z_at.mk 1 rfl rfl) rfl rfl ?_
      exact hQ _ _ _ _ H (by decide) (by decide)
set_option maxHeartbeats 400000000 in
set_option maxRecDepth 20000 in
theorem w_c17 {xs : Nat → Int32} {m : zM} {Q : Option Value → zM → Prop} (H : w_ok 6 xs 168 63950 w_T0 m) (hQ : ∀ N S T m, w_ok 6 xs N S T m → N ≤ 600039 → S ≤ 7302250 → Q (some (.int 1)) m) : z_W 1000 1000 710 [(0, .ref 0), (1, .ref 39), (2, .ref 143), (3, .int (0 : Int32))] [] m Q := by
  have b1 := zi_bd (xs 1)
  have b2 := zi_bd (xs 2)
  have b3 := zi_bd (xs 3)
  have b4 := zi_bd (xs 4)
  have b5 := zi_bd (xs 5)
  refine w_p h_m1000 5 (pc' := 715) (L' := [(0, .ref 0), (1, .ref 39), (2, .ref 143), (3, .int (0 : Int32))]) (st' := [.int (1 : Int32), .ref 0, .ref 39]) rfl ?_
  refine w_ae H (j := 1) (pc' := 716) (L' := [(0, .ref 0), (1, .ref 39), (2, .ref 143), (3, .int (0 : Int32))]) h_m1000 (z_at.mk 1 rfl rfl) rfl rfl rfl (by decide) rfl (by decide) rfl rfl rfl ?_
  refine w_p h_m1000 4 (pc' := 720) (L' := [(0, .ref 0), (1, .ref 39), (2, .ref 143), (3, .int (0 : Int32))]) (st' := [.int (2 : Int32), .ref 0, .int (xs 1), .ref 39]) rfl ?_
  refine w_ae H (j := 2) (pc' := 721) (L' := [(0, .ref 0), (1, .ref 39), (2, .ref 143), (3, .int (0 : Int32))]) h_m1000 (z_at.mk 1 rfl rfl) rfl rfl rfl (by decide) rfl (by decide) rfl rfl rfl ?_
  refine w_cv (H.t rfl) (pc' := 724) (L' := [(0, .ref 0), (1, .ref 39), (2, .ref 143), (3, .int (0 : Int32))]) (rest := []) (Ps := [.int (xs 1), .int (xs 2)]) (L0 := [(0, .ref 39), (1, .int (xs 1)), (2, .int (xs 2))]) h_m1000 (z_at.mk 3 rfl rfl) (Or.inl ⟨rfl, rfl⟩) rfl rfl (by decide) (by decide) rfl rfl rfl rfl rfl rfl (by decide) rfl rfl rfl ?_
  refine w_p h_m137 1 (pc' := 1) (L' := [(0, .ref 39), (1, .int (xs 1)), (2, .int (xs 2))]) (st' := [.int (xs 1)]) rfl ?_
  by_cases c_1 : (xs 1).toInt < 0
  · refine w_t1 (pc' := 24) (L' := []) h_m137 (z_at.mk 3 rfl rfl) rfl (zc (a := (xs 1).toInt) (b := 0) rfl rfl (decide_eq_true (by omega))) rfl rfl ?_
    refine w_p h_m137 1 (pc' := 25) (L' := []) (st' := [.int (-1 : Int32)]) rfl ?_
    refine w_ri h_m137 (z_at.mk 1 rfl rfl) rfl rfl ?_
    show z_W 1000 1000 724 [(0, .ref 0), (1, .ref 39), (2, .ref 143), (3, .int (0 : Int32))] [.int (-1 : Int32)] m _
    refine w_p h_m1000 5 (pc' := 729) (L' := [(0, .ref 0), (1, .ref 39), (2, .ref 143), (3, .int (0 : Int32))]) (st' := [.int (1 : Int32), .ref 0, .ref 143, .int (-1 : Int32)]) rfl ?_
    refine w_ae H (j := 1) (pc' := 730) (L' := [(0, .ref 0), (1, .ref 39), (2, .ref 143), (3, .int (0 : Int32))]) h_m1000 (z_at.mk 1 rfl rfl) rfl rfl rfl (by decide) rfl (by decide) rfl rfl rfl ?_
    refine w_p h_m1000 4 (pc' := 734) (L' := [(0, .ref 0), (1, .ref 39), (2, .ref 143), (3, .int (0 : Int32))]) (st' := [.int (2 : Int32), .ref 0, .int (xs 1), .ref 143, .int (-1 : Int32)]) rfl ?_
    refine w_ae H (j := 2) (pc' := 735) (L' := [(0, .ref 0), (1, .ref 39), (2, .ref 143), (3, .int (0 : Int32))]) h_m1000 (z_at.mk 1 rfl rfl) rfl rfl rfl (by decide) rfl (by decide) rfl rfl rfl ?_
    refine w_cv (H.t rfl) (pc' := 738) (L' := [(0, .ref 0), (1, .ref 39), (2, .ref 143), (3, .int (0 : Int32))]) (rest := [.int (-1 : Int32)]) (Ps := [.int (xs 1), .int (xs 2)]) (L0 := [(0, .ref 143), (1, .int (xs 1)), (2, .int (xs 2))]) h_m1000 (z_at.mk 3 rfl rfl) (Or.inl ⟨rfl, rfl⟩) rfl rfl (by decide) (by decide) rfl rfl rfl rfl rfl rfl (by decide) rfl rfl rfl ?_
    refine w_p h_m247 3 (pc' := 3) (L' := [(0, .ref 143), (1, .int (xs 1)), (2, .int (xs 2))]) (st' := [.ref 143, .int (0 : Int32), .int (xs 1)]) rfl ?_
    refine w_gf H (pc' := 6) (L' := [(0, .ref 143), (1, .int (xs 1)), (2, .int (xs 2))]) h_m247 (z_at.mk 3 rfl rfl) rfl (u := .int (0 : Int32)) rfl rfl rfl ?_
    refine w_p h_m247 2 (pc' := 8) (L' := [(0, .ref 143), (1, .int (xs 1)), (2, .int (xs 2))]) (st' := [.int (-1 : Int32), .int (0 : Int32), .int (xs 1)]) rfl ?_
    refine w_cs (As := [.int (xs 1), .int (0 : Int32), .int (-1 : Int32)]) (rest := []) (j := 159) (L0 := [(0, .int (xs 1)), (1, .int (0 : Int32)), (2, .int (-1 : Int32))]) (pc' := 11) (L' := [(0, .ref 143), (1, .int (xs 1)), (2, .int (xs 2))]) h_m247 (z_at.mk 3 rfl rfl) (Or.inl ⟨rfl, rfl⟩) rfl rfl rfl rfl rfl ?_
    refine w_p h_m159 2 (pc' := 2) (L' := [(0, .int (xs 1)), (1, .int (0 : Int32)), (2, .int (-1 : Int32))]) (st' := [.int (0 : Int32), .int (xs 1)]) rfl ?_
    refine w_t2 (pc' := 14) (L' := []) h_m159 (z_at.mk 3 rfl rfl) rfl (zc (a := (xs 1).toInt) (b := 0) rfl rfl (decide_eq_true (by omega))) rfl rfl ?_
    refine w_p h_m159 1 (pc' := 15) (L' := []) (st' := [.int (0 : Int32)]) rfl ?_
    refine w_ri h_m159 (z_at.mk 1 rfl rfl) rfl rfl ?_
    show z_W 999 247 11 [(0, .ref 143), (1, .int (xs 1)), (2, .int (xs 2))] [.int (0 : Int32)] m _
    refine w_p h_m247 2 (pc' := 37) (L' := []) (st' := [.int (-1 : Int32)]) rfl ?_
    refine w_ri h_m247 (z_at.mk 1 rfl rfl) rfl rfl ?_
    show z_W 1000 1000 738 [(0, .ref 0), (1, .ref 39), (2, .ref 143), (3, .int (0 : Int32))] [.int (-1 : Int32), .int (-1 : Int32)] m _
    refine w_p h_m1000 5 (pc' := 20) (L' := [(0, .ref 0), (1, .ref 39), (2, .ref 143), (3, .int (6 : Int32))]) (st' := [.ref 0, .int (6 : Int32)]) rfl ?_
    refine w_lene H (x := (6 : Int32)) (pc' := 21) (L' := [(0, .ref 0), (1, .ref 39), (2, .ref 143), (3, .int (6 : Int32))]) h_m1000 (z_at.mk 1 rfl rfl) (by decide) rfl (by decide) rfl rfl rfl ?_
    refine w_p h_m1000 4 (pc' := 1381) (L' := [(0, .ref 0), (1, .ref 39), (2, .ref 143), (3, .int (6 : Int32))]) (st' := [.int (1 : Int32)]) rfl ?_
    refine w_ri h_m1000 (z_at.mk 1 rfl rfl) rfl rfl ?_
    exact hQ _ _ _ _ H (by decide) (by decide)
  · refine w_f1 (pc' := 4) (L' := [(0, .ref 39), (1, .int (xs 1)), (2, .int (xs 2))]) h_m137 (z_at.mk 3 rfl rfl) rfl (zc (a := (xs 1).toInt) (b := 0) rfl rfl (decide_eq_false (by omega))) rfl rfl ?_
    refine w_p h_m137 2 (pc' := 6) (L' := [(0, .ref 39), (1, .int (xs 1)), (2, .int (xs 2))]) (st' := [.ref 39, .int (xs 1)]) rfl ?_
    refine w_gf H (pc' := 9) (L' := [(0, .ref 39), (1, .int (xs 1)), (2, .int (xs 2))]) h_m137 (z_at.mk 3 rfl rfl) rfl (u := .ref 131) rfl rfl rfl ?_
    refine w_gf H (pc' := 12) (L' := [(0, .ref 39), (1, .int (xs 1)), (2, .int (xs 2))]) h_m137 (z_at.mk 3 rfl rfl) rfl (u := .int (0 : Int32)) rfl rfl rfl ?_
    refine w_t2 (pc' := 24) (L' := []) h_m137 (z_at.mk 3 rfl rfl) rfl (zc (a := (xs 1).toInt) (b := 0) rfl rfl (decide_eq_true (by omega))) rfl rfl ?_
    refine w_p h_m137 1 (pc' := 25) (L' := []) (st' := [.int (-1 : Int32)]) rfl ?_
    refine w_ri h_m137 (z_at.mk 1 rfl rfl) rfl rfl ?_
    show z_W 1000 1000 724 [(0, .ref 0), (1, .ref 39), (2, .ref 143), (3, .int (0 : Int32))] [.int (-1 : Int32)] m _
    refine w_p h_m1000 5 (pc' := 729) (L' := [(0, .ref 0), (1, .ref 39), (2, .ref 143), (3, .int (0 : Int32))]) (st' := [.int (1 : Int32), .ref 0, .ref 143, .int (-1 : Int32)]) rfl ?_
    refine w_ae H (j := 1) (pc' := 730) (L' := [(0, .ref 0), (1, .ref 39), (2, .ref 143), (3, .int (0 : Int32))]) h_m1000 (z_at.mk 1 rfl rfl) rfl rfl rfl (by decide) rfl (by decide) rfl rfl rfl ?_
    refine w_p h_m1000 4 (pc' := 734) (L' := [(0, .ref 0), (1, .ref 39), (2, .ref 143), (3, .int (0 : Int32))]) (st' := [.int (2 : Int32), .ref 0, .int (xs 1), .ref 143, .int (-1 : Int32)]) rfl ?_
    refine w_ae H (j := 2) (pc' := 735) (L' := [(0, .ref 0), (1, .ref 39), (2, .ref 143), (3, .int (0 : Int32))]) h_m1000 (z_at.mk 1 rfl rfl) rfl rfl rfl (by decide) rfl (by decide) rfl rfl rfl ?_
    refine w_cv (H.t rfl) (pc' := 738) (L' := [(0, .ref 0), (1, .ref 39), (2, .ref 143), (3, .int (0 : Int32))]) (rest := [.int (-1 : Int32)]) (Ps := [.int (xs 1), .int (xs 2)]) (L0 := [(0, .ref 143), (1, .int (xs 1)), (2, .int (xs 2))]) h_m1000 (z_at.mk 3 rfl rfl) (Or.inl ⟨rfl, rfl⟩) rfl rfl (by decide) (by decide) rfl rfl rfl rfl rfl rfl (by decide) rfl rfl rfl ?_
    refine w_p h_m247 3 (pc' := 3) (L' := [(0, .ref 143), (1, .int (xs 1)), (2, .int (xs 2))]) (st' := [.ref 143, .int (0 : Int32), .int (xs 1)]) rfl ?_
    refine w_gf H (pc' := 6) (L' := [(0, .ref 143), (1, .int (xs 1)), (2, .int (xs 2))]) h_m247 (z_at.mk 3 rfl rfl) rfl (u := .int (0 : Int32)) rfl rfl rfl ?_
    refine w_p h_m247 2 (pc' := 8) (L' := [(0, .ref 143), (1, .int (xs 1)), (2, .int (xs 2))]) (st' := [.int (-1 : Int32), .int (0 : Int32), .int (xs 1)]) rfl ?_
    refine w_cs (As := [.int (xs 1), .int (0 : Int32), .int (-1 : Int32)]) (rest := []) (j := 159) (L0 := [(0, .int (xs 1)), (1, .int (0 : Int32)), (2, .int (-1 : Int32))]) (pc' := 11) (L' := [(0, .ref 143), (1, .int (xs 1)), (2, .int (xs 2))]) h_m247 (z_at.mk 3 rfl rfl) (Or.inl ⟨rfl, rfl⟩) rfl rfl rfl rfl rfl ?_
    refine w_p h_m159 2 (pc' := 2) (L' := [(0, .int (xs 1)), (1, .int (0 : Int32)), (2, .int (-1 : Int32))]) (st' := [.int (0 : Int32), .int (xs 1)]) rfl ?_
    refine w_f2 (pc' := 5) (L' := [(0, .int (xs 1)), (1, .int (0 : Int32)), (2, .int (-1 : Int32))]) h_m159 (z_at.mk 3 rfl rfl) rfl (zc (a := (xs 1).toInt) (b := 0) rfl rfl (decide_eq_false (by omega))) rfl rfl ?_
    refine w_p h_m159 2 (pc' := 7) (L' := [(0, .int (xs 1)), (1, .int (0 : Int32)), (2, .int (-1 : Int32))]) (st' := [.int (-1 : Int32), .int (xs 1)]) rfl ?_
    refine w_t2 (pc' := 14) (L' := []) h_m159 (z_at.mk 3 rfl rfl) rfl (zc (a := (xs 1).toInt) (b := (-1)) rfl rfl (decide_eq_true (by omega))) rfl rfl ?_
    refine w_p h_m159 1 (pc' := 15) (L' := []) (st' := [.int (0 : Int32)]) rfl ?_
    refine w_ri h_m159 (z_at.mk 1 rfl rfl) rfl rfl ?_
    show z_W 999 247 11 [(0, .ref 143), (1, .int (xs 1)), (2, .int (xs 2))] [.int (0 : Int32)] m _
    refine w_p h_m247 2 (pc' := 37) (L' := []) (st' := [.int (-1 : Int32)]) rfl ?_
    refine w_ri h_m247 (z_at.mk 1 rfl rfl) rfl rfl ?_
    show z_W 1000 1000 738 [(0, .ref 0), (1, .ref 39), (2, .ref 143), (3, .int (0 : Int32))] [.int (-1 : Int32), .int (-1 : Int32)] m _
    refine w_p h_m1000 5 (pc' := 20) (L' := [(0, .ref 0), (1, .ref 39), (2, .ref 143), (3, .int (6 : Int32))]) (st' := [.ref 0, .int (6 : Int32)]) rfl ?_
    refine w_lene H (x := (6 : Int32)) (pc' := 21) (L' := [(0, .ref 0), (1, .ref 39), (2, .ref 143), (3, .int (6 : Int32))]) h_m1000 (z_at.mk 1 rfl rfl) (by decide) rfl (by decide) rfl rfl rfl ?_
    refine w_p h_m1000 4 (pc' := 1381) (L' := [(0, .ref 0), (1, .ref 39), (2, .ref 143), (3, .int (6 : Int32))]) (st' := [.int (1 : Int32)]) rfl ?_
    refine w_ri h_m1000 (z_at.mk 1 rfl rfl) rfl rfl ?_
    exact hQ _ _ _ _ H (by decide) (by decide)
set_option maxHeartbeats 400000000 in
set_option maxRecDepth 20000 in
theorem w_c19 {xs : Nat → Int32} {m : zM} {Q : Option Value → zM → Prop} (H : w_ok 6 xs 168 63950 w_T0 m) (hQ : ∀ N S T m, w_ok 6 xs N S T m → N ≤ 600039 → S ≤ 7302250 → Q (some (.int 1)) m) : z_W 1000 1000 776 [(0, .ref 0), (1, .ref 39), (2, .ref 143), (3, .int (0 : Int32))] [] m Q := by
  have b1 := zi_bd (xs 1)
  have b2 := zi_bd (xs 2)
  have b3 := zi_bd (xs 3)
  have b4 := zi_bd (xs 4)
  have b5 := zi_bd (xs 5)
  refine w_p h_m1000 5 (pc' := 781) (L' := [(0, .ref 0), (1, .ref 39), (2, .ref 143), (3, .int (0 : Int32))]) (st' := [.int (1 : Int32), .ref 0, .ref 39]) rfl ?_
  refine w_ae H (j := 1) (pc' := 782) (L' := [(0, .ref 0), (1, .ref 39), (2, .ref 143), (3, .int (0 : Int32))]) h_m1000 (z_at.mk 1 rfl rfl) rfl rfl rfl (by decide) rfl (by decide) rfl rfl rfl ?_
  refine w_cv (H.t rfl) (pc' := 785) (L' := [(0, .ref 0), (1, .ref 39), (2, .ref 143), (3, .int (0 : Int32))]) (rest := []) (Ps := [.int (xs 1)]) (L0 := [(0, .ref 39), (1, .int (xs 1))]) h_m1000 (z_at.mk 3 rfl rfl) (Or.inl ⟨rfl, rfl⟩) rfl rfl (by decide) (by decide) rfl rfl rfl rfl rfl rfl (by decide) rfl rfl rfl ?_
  refine w_p h_m139 1 (pc' := 1) (L' := [(0, .ref 39), (1, .int (xs 1))]) (st' := [.int (xs 1)]) rfl ?_
  by_cases c_1 : (xs 1).toInt < 0
  · refine w_t1 (pc' := 33) (L' := []) h_m139 (z_at.mk 3 rfl rfl) rfl (zc (a := (xs 1).toInt) (b := 0) rfl rfl (decide_eq_true (by omega))) rfl rfl ?_
    refine w_p h_m139 1 (pc' := 36) (L' := []) (st' := [.long (-9223372036854775808 : Int64)]) rfl ?_
    refine w_rl h_m139 (z_at.mk 1 rfl rfl) rfl ?_
    show z_W 1000 1000 785 [(0, .ref 0), (1, .ref 39), (2, .ref 143), (3, .int (0 : Int32))] [.long (-9223372036854775808 : Int64)] m _
    refine w_p h_m1000 5 (pc' := 790) (L' := [(0, .ref 0), (1, .ref 39), (2, .ref 143), (3, .int (0 : Int32))]) (st' := [.int (1 : Int32), .ref 0, .ref 143, .long (-9223372036854775808 : Int64)]) rfl ?_
    refine w_ae H (j := 1) (pc' := 791) (L' := [(0, .ref 0), (1, .ref 39), (2, .ref 143), (3, .int (0 : Int32))]) h_m1000 (z_at.mk 1 rfl rfl) rfl rfl rfl (by decide) rfl (by decide) rfl rfl rfl ?_
    refine w_cv (H.t rfl) (pc' := 794) (L' := [(0, .ref 0), (1, .ref 39), (2, .ref 143), (3, .int (0 : Int32))]) (rest := [.long (-9223372036854775808 : Int64)]) (Ps := [.int (xs 1)]) (L0 := [(0, .ref 143), (1, .int (xs 1))]) h_m1000 (z_at.mk 3 rfl rfl) (Or.inl ⟨rfl, rfl⟩) rfl rfl (by decide) (by decide) rfl rfl rfl rfl rfl rfl (by decide) rfl rfl rfl ?_
    refine w_p h_m249 3 (pc' := 3) (L' := [(0, .ref 143), (1, .int (xs 1))]) (st' := [.ref 143, .int (0 : Int32), .int (xs 1)]) rfl ?_
    refine w_gf H (pc' := 6) (L' := [(0, .ref 143), (1, .int (xs 1))]) h_m249 (z_at.mk 3 rfl rfl) rfl (u := .ref 144) rfl rfl rfl ?_
    refine w_p h_m249 1 (pc' := 7) (L' := [(0, .ref 143), (1, .int (xs 1))]) (st' := [.int (0 : Int32), .ref 144, .int (0 : Int32), .int (xs 1)]) rfl ?_
    refine w_al H (t := 0) (j := 0) (pc' := 8) (L' := [(0, .ref 143), (1, .int (xs 1))]) h_m249 (z_at.mk 1 rfl rfl) rfl rfl rfl (u := .int (0 : Int32)) rfl rfl rfl ?_
    refine w_p h_m249 2 (pc' := 10) (L' := [(0, .ref 143), (1, .int (xs 1))]) (st' := [.int (-1 : Int32), .int (0 : Int32), .int (xs 1)]) rfl ?_
    refine w_cs (As := [.int (xs 1), .int (0 : Int32), .int (-1 : Int32)]) (rest := []) (j := 159) (L0 := [(0, .int (xs 1)), (1, .int (0 : Int32)), (2, .int (-1 : Int32))]) (pc' := 13) (L' := [(0, .ref 143), (1, .int (xs 1))]) h_m249 (z_at.mk 3 rfl rfl) (Or.inl ⟨rfl, rfl⟩) rfl rfl rfl rfl rfl ?_
    refine w_p h_m159 2 (pc' := 2) (L' := [(0, .int (xs 1)), (1, .int (0 : Int32)), (2, .int (-1 : Int32))]) (st' := [.int (0 : Int32), .int (xs 1)]) rfl ?_
    refine w_t2 (pc' := 14) (L' := []) h_m159 (z_at.mk 3 rfl rfl) rfl (zc (a := (xs 1).toInt) (b := 0) rfl rfl (decide_eq_true (by omega))) rfl rfl ?_
    refine w_p h_m159 1 (pc' := 15) (L' := []) (st' := [.int (0 : Int32)]) rfl ?_
    refine w_ri h_m159 (z_at.mk 1 rfl rfl) rfl rfl ?_
    show z_W 999 249 13 [(0, .ref 143), (1, .int (xs 1))] [.int (0 : Int32)] m _
    refine w_p h_m249 2 (pc' := 31) (L' := []) (st' := [.long (-9223372036854775808 : Int64)]) rfl ?_
    refine w_rl h_m249 (z_at.mk 1 rfl rfl) rfl ?_
    show z_W 1000 1000 794 [(0, .ref 0), (1, .ref 39), (2, .ref 143), (3, .int (0 : Int32))] [.long (-9223372036854775808 : Int64), .long (-9223372036854775808 : Int64)] m _
    refine w_p h_m1000 6 (pc' := 20) (L' := [(0, .ref 0), (1, .ref 39), (2, .ref 143), (3, .int (6 : Int32))]) (st' := [.ref 0, .int (6 : Int32)]) rfl ?_
    refine w_lene H (x := (6 : Int32)) (pc' := 21) (L' := [(0, .ref 0), (1, .ref 39), (2, .ref 143), (3, .int (6 : Int32))]) h_m1000 (z_at.mk 1 rfl rfl) (by decide) rfl (by decide) rfl rfl rfl ?_
    refine w_p h_m1000 4 (pc' := 1381) (L' := [(0, .ref 0), (1, .ref 39), (2, .ref 143), (3, .int (6 : Int32))]) (st' := [.int (1 : Int32)]) rfl ?_
    refine w_ri h_m1000 (z_at.mk 1 rfl rfl) rfl rfl ?_
    exact hQ _ _ _ _ H (by decide) (by decide)
  · refine w_f1 (pc' := 4) (L' := [(0, .ref 39), (1, .int (xs 1))]) h_m139 (z_at.mk 3 rfl rfl) rfl (zc (a := (xs 1).toInt) (b := 0) rfl rfl (decide_eq_false (by omega))) rfl rfl ?_
    refine w_p h_m139 2 (pc' := 6) (L' := [(0, .ref 39), (1, .int (xs 1))]) (st' := [.ref 39, .int (xs 1)]) rfl ?_
    refine w_gf H (pc' := 9) (L' := [(0, .ref 39), (1, .int (xs 1))]) h_m139 (z_at.mk 3 rfl rfl) rfl (u := .ref 40) rfl rfl rfl ?_
    refine w_gf H (pc' := 12) (L' := [(0, .ref 39), (1, .int (xs 1))]) h_m139 (z_at.mk 3 rfl rfl) rfl (u := .ref 48) rfl rfl rfl ?_
    refine w_gf H (pc' := 15) (L' := [(0, .ref 39), (1, .int (xs 1))]) h_m139 (z_at.mk 3 rfl rfl) rfl (u := .int (0 : Int32)) rfl rfl rfl ?_
    refine w_t2 (pc' := 33) (L' := []) h_m139 (z_at.mk 3 rfl rfl) rfl (zc (a := (xs 1).toInt) (b := 0) rfl rfl (decide_eq_true (by omega))) rfl rfl ?_
    refine w_p h_m139 1 (pc' := 36) (L' := []) (st' := [.long (-9223372036854775808 : Int64)]) rfl ?_
    refine w_rl h_m139 (z_at.mk 1 rfl rfl) rfl ?_
    show z_W 1000 1000 785 [(0, .ref 0), (1, .ref 39), (2, .ref 143), (3, .int (0 : Int32))] [.long (-9223372036854775808 : Int64)] m _
    refine w_p h_m1000 5 (pc' := 790) (L' := [(0, .ref 0), (1, .ref 39), (2, .ref 143), (3, .int (0 : Int32))]) (st' := [.int (1 : Int32), .ref 0, .ref 143, .long (-9223372036854775808 : Int64)]) rfl ?_
    refine w_ae H (j := 1) (pc' := 791) (L' := [(0, .ref 0), (1, .ref 39), (2, .ref 143), (3, .int (0 : Int32))]) h_m1000 (z_at.mk 1 rfl rfl) rfl rfl rfl (by decide) rfl (by decide) rfl rfl rfl ?_
    refine w_cv (H.t rfl) (pc' := 794) (L' := [(0, .ref 0), (1, .ref 39), (2, .ref 143), (3, .int (0 : Int32))]) (rest := [.long (-9223372036854775808 : Int64)]) (Ps := [.int (xs 1)]) (L0 := [(0, .ref 143), (1, .int (xs 1))]) h_m1000 (z_at.mk 3 rfl rfl) (Or.inl ⟨rfl, rfl⟩) rfl rfl (by decide) (by decide) rfl rfl rfl rfl rfl rfl (by decide) rfl rfl rfl ?_
    refine w_p h_m249 3 (pc' := 3) (L' := [(0, .ref 143), (1, .int (xs 1))]) (st' := [.ref 143, .int (0 : Int32), .int (xs 1)]) rfl ?_
    refine w_gf H (pc' := 6) (L' := [(0, .ref 143), (1, .int (xs 1))]) h_m249 (z_at.mk 3 rfl rfl) rfl (u := .ref 144) rfl rfl rfl ?_
    refine w_p h_m249 1 (pc' := 7) (L' := [(0, .ref 143), (1, .int (xs 1))]) (st' := [.int (0 : Int32), .ref 144, .int (0 : Int32), .int (xs 1)]) rfl ?_
    refine w_al H (t := 0) (j := 0) (pc' := 8) (L' := [(0, .ref 143), (1, .int (xs 1))]) h_m249 (z_at.mk 1 rfl rfl) rfl rfl rfl (u := .int (0 : Int32)) rfl rfl rfl ?_
    refine w_p h_m249 2 (pc' := 10) (L' := [(0, .ref 143), (1, .int (xs 1))]) (st' := [.int (-1 : Int32), .int (0 : Int32), .int (xs 1)]) rfl ?_
    refine w_cs (As := [.int (xs 1), .int (0 : Int32), .int (-1 : Int32)]) (rest := []) (j := 159) (L0 := [(0, .int (xs 1)), (1, .int (0 : Int32)), (2, .int (-1 : Int32))]) (pc' := 13) (L' := [(0, .ref 143), (1, .int (xs 1))]) h_m249 (z_at.mk 3 rfl rfl) (Or.inl ⟨rfl, rfl⟩) rfl rfl rfl rfl rfl ?_
    refine w_p h_m159 2 (pc' := 2) (L' := [(0, .int (xs 1)), (1, .int (0 : Int32)), (2, .int (-1 : Int32))]) (st' := [.int (0 : Int32), .int (xs 1)]) rfl ?_
    refine w_f2 (pc' := 5) (L' := [(0, .int (xs 1)), (1, .int (0 : Int32)), (2, .int (-1 : Int32))]) h_m159 (z_at.mk 3 rfl rfl) rfl (zc (a := (xs 1).toInt) (b := 0) rfl rfl (decide_eq_false (by omega))) rfl rfl ?_
    refine w_p h_m159 2 (pc' := 7) (L' := [(0, .int (xs 1)), (1, .int (0 : Int32)), (2, .int (-1 : Int32))]) (st' := [.int (-1 : Int32), .int (xs 1)]) rfl ?_
    refine w_t2 (pc' := 14) (L' := []) h_m159 (z_at.mk 3 rfl rfl) rfl (zc (a := (xs 1).toInt) (b := (-1)) rfl rfl (decide_eq_true (by omega))) rfl rfl ?_
    refine w_p h_m159 1 (pc' := 15) (L' := []) (st' := [.int (0 : Int32)]) rfl ?_
    refine w_ri h_m159 (z_at.mk 1 rfl rfl) rfl rfl ?_
    show z_W 999 249 13 [(0, .ref 143), (1, .int (xs 1))] [.int (0 : Int32)] m _
    refine w_p h_m249 2 (pc' := 31) (L' := []) (st' := [.long (-9223372036854775808 : Int64)]) rfl ?_
    refine w_rl h_m249 (z_at.mk 1 rfl rfl) rfl ?_
    show z_W 1000 1000 794 [(0, .ref 0), (1, .ref 39), (2, .ref 143), (3, .int (0 : Int32))] [.long (-9223372036854775808 : Int64), .long (-9223372036854775808 : Int64)] m _
    refine w_p h_m1000 6 (pc' := 20) (L' := [(0, .ref 0), (1, .ref 39), (2, .ref 143), (3, .int (6 : Int32))]) (st' := [.ref 0, .int (6 : Int32)]) rfl ?_
    refine w_lene H (x := (6 : Int32)) (pc' := 21) (L' := [(0, .ref 0), (1, .ref 39), (2, .ref 143), (3, .int (6 : Int32))]) h_m1000 (z_at.mk 1 rfl rfl) (by decide) rfl (by decide) rfl rfl rfl ?_
    refine w_p h_m1000 4 (pc' := 1381) (L' := [(0, .ref 0), (1, .ref 39), (2, .ref 143), (3, .int (6 : Int32))]) (st' := [.int (1 : Int32)]) rfl ?_
    refine w_ri h_m1000 (z_at.mk 1 rfl rfl) rfl rfl ?_
    exact hQ _ _ _ _ H (by decide) (by decide)
set_option maxHeartbeats 400000000 in
set_option maxRecDepth 20000 in
theorem w_c22 {xs : Nat → Int32} {m : zM} {Q : Option Value → zM → Prop} (H : w_ok 6 xs 168 63950 w_T0 m) (hQ : ∀ N S T m, w_ok 6 xs N S T m → N ≤ 600039 → S ≤ 7302250 → Q (some (.int 1)) m) : z_W 1000 1000 837 [(0, .ref 0), (1, .ref 39), (2, .ref 143), (3, .int (0 : Int32))] [] m Q := by
  have b1 := zi_bd (xs 1)
  have b2 := zi_bd (xs 2)
  have b3 := zi_bd (xs 3)
  have b4 := zi_bd (xs 4)
  have b5 := zi_bd (xs 5)
  refine w_p h_m1000 5 (pc' := 842) (L' := [(0, .ref 0), (1, .ref 39), (2, .ref 143), (3, .int (0 : Int32))]) (st' := [.int (1 : Int32), .ref 0, .ref 39]) rfl ?_
  refine w_ae H (j := 1) (pc' := 843) (L' := [(0, .ref 0), (1, .ref 39), (2, .ref 143), (3, .int (0 : Int32))]) h_m1000 (z_at.mk 1 rfl rfl) rfl rfl rfl (by decide) rfl (by decide) rfl rfl rfl ?_
  refine w_cv (H.t rfl) (pc' := 846) (L' := [(0, .ref 0), (1, .ref 39), (2, .ref 143), (3, .int (0 : Int32))]) (rest := []) (Ps := [.int (xs 1)]) (L0 := [(0, .ref 39), (1, .int (xs 1))]) h_m1000 (z_at.mk 3 rfl rfl) (Or.inl ⟨rfl, rfl⟩) rfl rfl (by decide) (by decide) rfl rfl rfl rfl rfl rfl (by decide) rfl rfl rfl ?_
  refine w_p h_m142 1 (pc' := 1) (L' := [(0, .ref 39), (1, .int (xs 1))]) (st' := [.int (xs 1)]) rfl ?_
  by_cases c_1 : (xs 1).toInt < 0
  · refine w_f1 (pc' := 4) (L' := [(0, .ref 39), (1, .int (xs 1))]) h_m142 (z_at.mk 3 rfl rfl) rfl (zc (a := (xs 1).toInt) (b := 0) rfl rfl (decide_eq_false (by omega))) rfl rfl ?_
    refine w_p h_m142 2 (pc' := 20) (L' := []) (st' := [.int (-2 : Int32)]) rfl ?_
    refine w_ri h_m142 (z_at.mk 1 rfl rfl) rfl rfl ?_
    show z_W 1000 1000 846 [(0, .ref 0), (1, .ref 39), (2, .ref 143), (3, .int (0 : Int32))] [.int (-2 : Int32)] m _
    refine w_p h_m1000 5 (pc' := 851) (L' := [(0, .ref 0), (1, .ref 39), (2, .ref 143), (3, .int (0 : Int32))]) (st' := [.int (1 : Int32), .ref 0, .ref 143, .int (-2 : Int32)]) rfl ?_
    refine w_ae H (j := 1) (pc' := 852) (L' := [(0, .ref 0), (1, .ref 39), (2, .ref 143), (3, .int (0 : Int32))]) h_m1000 (z_at.mk 1 rfl rfl) rfl rfl rfl (by decide) rfl (by decide) rfl rfl rfl ?_
    refine w_cv (H.t rfl) (pc' := 855) (L' := [(0, .ref 0), (1, .ref 39), (2, .ref 143), (3, .int (0 : Int32))]) (rest := [.int (-2 : Int32)]) (Ps := [.int (xs 1)]) (L0 := [(0, .ref 143), (1, .int (xs 1))]) h_m1000 (z_at.mk 3 rfl rfl) (Or.inl ⟨rfl, rfl⟩) rfl rfl (by decide) (by decide) rfl rfl rfl rfl rfl rfl (by decide) rfl rfl rfl ?_
    refine w_p h_m253 1 (pc' := 1) (L' := [(0, .ref 143), (1, .int (xs 1))]) (st' := [.int (xs 1)]) rfl ?_
    refine w_f1 (pc' := 4) (L' := [(0, .ref 143), (1, .int (xs 1))]) h_m253 (z_at.mk 3 rfl rfl) rfl (zc (a := (xs 1).toInt) (b := 0) rfl rfl (decide_eq_false (by omega))) rfl rfl ?_
    refine w_p h_m253 1 (pc' := 6) (L' := [(0, .ref 143), (1, .int (xs 1))]) (st' := [.int (-2 : Int32)]) rfl ?_
    refine w_ri h_m253 (z_at.mk 1 rfl rfl) rfl rfl ?_
    show z_W 1000 1000 855 [(0, .ref 0), (1, .ref 39), (2, .ref 143), (3, .int (0 : Int32))] [.int (-2 : Int32), .int (-2 : Int32)] m _
    refine w_p h_m1000 5 (pc' := 20) (L' := [(0, .ref 0), (1, .ref 39), (2, .ref 143), (3, .int (6 : Int32))]) (st' := [.ref 0, .int (6 : Int32)]) rfl ?_
    refine w_lene H (x := (6 : Int32)) (pc' := 21) (L' := [(0, .ref 0), (1, .ref 39), (2, .ref 143), (3, .int (6 : Int32))]) h_m1000 (z_at.mk 1 rfl rfl) (by decide) rfl (by decide) rfl rfl rfl ?_
    refine w_p h_m1000 4 (pc' := 1381) (L' := [(0, .ref 0), (1, .ref 39), (2, .ref 143), (3, .int (6 : Int32))]) (st' := [.int (1 : Int32)]) rfl ?_
    refine w_ri h_m1000 (z_at.mk 1 rfl rfl) rfl rfl ?_
    exact hQ _ _ _ _ H (by decide) (by decide)
  · refine w_t1 (pc' := 9) (L' := [(0, .ref 39), (1, .int (xs 1))]) h_m142 (z_at.mk 3 rfl rfl) rfl (zc (a := (xs 1).toInt) (b := 0) rfl rfl (decide_eq_true (by omega))) rfl rfl ?_
    refine w_p h_m142 1 (pc' := 10) (L' := [(0, .ref 39), (1, .int (xs 1))]) (st' := [.ref 39]) rfl ?_
    refine w_gf H (pc' := 13) (L' := [(0, .ref 39), (1, .int (xs 1))]) h_m142 (z_at.mk 3 rfl rfl) rfl (u := .ref 40) rfl rfl rfl ?_
    refine w_gf H (pc' := 16) (L' := [(0, .ref 39), (1, .int (xs 1))]) h_m142 (z_at.mk 3 rfl rfl) rfl (u := .ref 48) rfl rfl rfl ?_
    refine w_p h_m142 1 (pc' := 17) (L' := [(0, .ref 39), (1, .int (xs 1))]) (st' := [.int (xs 1), .ref 48]) rfl ?_
    refine w_cv (H.t rfl) (pc' := 20) (L' := []) (rest := []) (Ps := [.int (xs 1)]) (L0 := [(0, .ref 48), (1, .int (xs 1))]) h_m142 (z_at.mk 3 rfl rfl) (Or.inl ⟨rfl, rfl⟩) rfl rfl (by decide) (by decide) rfl rfl rfl rfl rfl rfl (by decide) rfl rfl rfl ?_
    refine w_p h_m44 9 (pc' := 11) (L' := [(0, .ref 48), (1, .int (xs 1)), (2, .int (0 : Int32)), (3, .long (0 : Int64)), (5, .int (1 : Int32))]) (st' := [.ref 48, .int (1 : Int32), .int (1 : Int32)]) rfl ?_
    refine w_gf H (pc' := 14) (L' := [(0, .ref 48), (1, .int (xs 1)), (2, .int (0 : Int32)), (3, .long (0 : Int64)), (5, .int (1 : Int32))]) h_m44 (z_at.mk 3 rfl rfl) rfl (u := .int (0 : Int32)) rfl rfl rfl ?_
    refine w_p h_m44 1 (pc' := 16) (L' := [(0, .ref 48), (1, .int (xs 1)), (2, .int (0 : Int32)), (3, .long (0 : Int64)), (5, .int (1 : Int32))]) (st' := [.int (12 : Int32), .int (0 : Int32), .int (1 : Int32), .int (1 : Int32)]) rfl ?_
    refine w_cs (As := [.int (0 : Int32), .int (12 : Int32)]) (rest := [.int (1 : Int32), .int (1 : Int32)]) (j := 291) (L0 := [(0, .int (0 : Int32)), (1, .int (12 : Int32))]) (pc' := 19) (L' := [(0, .ref 48), (1, .int (xs 1)), (2, .int (0 : Int32)), (3, .long (0 : Int64)), (5, .int (1 : Int32))]) h_m44 (z_at.mk 3 rfl rfl) (Or.inl ⟨rfl, rfl⟩) rfl rfl rfl rfl rfl ?_
    refine w_p h_m291 5 (pc' := 10) (L' := []) (st' := [.int (0 : Int32)]) rfl ?_
    refine w_ri h_m291 (z_at.mk 1 rfl rfl) rfl rfl ?_
    show z_W 998 44 19 [(0, .ref 48), (1, .int (xs 1)), (2, .int (0 : Int32)), (3, .long (0 : Int64)), (5, .int (1 : Int32))] [.int (0 : Int32), .int (1 : Int32), .int (1 : Int32)] m _
    refine w_p h_m44 3 (pc' := 148) (L' := [(0, .ref 48), (1, .int (xs 1)), (2, .int (0 : Int32)), (3, .long (0 : Int64)), (5, .int (1 : Int32))]) (st' := [.int (0 : Int32)]) rfl ?_
    refine w_ri h_m44 (z_at.mk 1 rfl rfl) rfl rfl ?_
    show z_W 999 142 20 [] [.int (0 : Int32)] m _
    refine w_ri h_m142 (z_at.mk 1 rfl rfl) rfl rfl ?_
    show z_W 1000 1000 846 [(0, .ref 0), (1, .ref 39), (2, .ref 143), (3, .int (0 : Int32))] [.int (0 : Int32)] m _
    refine w_p h_m1000 5 (pc' := 851) (L' := [(0, .ref 0), (1, .ref 39), (2, .ref 143), (3, .int (0 : Int32))]) (st' := [.int (1 : Int32), .ref 0, .ref 143, .int (0 : Int32)]) rfl ?_
    refine w_ae H (j := 1) (pc' := 852) (L' := [(0, .ref 0), (1, .ref 39), (2, .ref 143), (3, .int (0 : Int32))]) h_m1000 (z_at.mk 1 rfl rfl) rfl rfl rfl (by decide) rfl (by decide) rfl rfl rfl ?_
    refine w_cv (H.t rfl) (pc' := 855) (L' := [(0, .ref 0), (1, .ref 39), (2, .ref 143), (3, .int (0 : Int32))]) (rest := [.int (0 : Int32)]) (Ps := [.int (xs 1)]) (L0 := [(0, .ref 143), (1, .int (xs 1))]) h_m1000 (z_at.mk 3 rfl rfl) (Or.inl ⟨rfl, rfl⟩) rfl rfl (by decide) (by decide) rfl rfl rfl rfl rfl rfl (by decide) rfl rfl rfl ?_
    refine w_p h_m253 1 (pc' := 1) (L' := [(0, .ref 143), (1, .int (xs 1))]) (st' := [.int (xs 1)]) rfl ?_
    refine w_t1 (pc' := 7) (L' := [(0, .ref 143), (1, .int (xs 1))]) h_m253 (z_at.mk 3 rfl rfl) rfl (zc (a := (xs 1).toInt) (b := 0) rfl rfl (decide_eq_true (by omega))) rfl rfl ?_
    refine w_p h_m253 9 (pc' := 18) (L' := [(0, .ref 143), (1, .int (xs 1)), (2, .int (0 : Int32)), (3, .long (0 : Int64)), (5, .int (1 : Int32))]) (st' := [.ref 143, .int (1 : Int32), .int (1 : Int32)]) rfl ?_
    refine w_gf H (pc' := 21) (L' := [(0, .ref 143), (1, .int (xs 1)), (2, .int (0 : Int32)), (3, .long (0 : Int64)), (5, .int (1 : Int32))]) h_m253 (z_at.mk 3 rfl rfl) rfl (u := .ref 144) rfl rfl rfl ?_
    refine w_p h_m253 1 (pc' := 22) (L' := [(0, .ref 143), (1, .int (xs 1)), (2, .int (0 : Int32)), (3, .long (0 : Int64)), (5, .int (1 : Int32))]) (st' := [.int (0 : Int32), .ref 144, .int (1 : Int32), .int (1 : Int32)]) rfl ?_
    refine w_al H (t := 0) (j := 0) (pc' := 23) (L' := [(0, .ref 143), (1, .int (xs 1)), (2, .int (0 : Int32)), (3, .long (0 : Int64)), (5, .int (1 : Int32))]) h_m253 (z_at.mk 1 rfl rfl) rfl rfl rfl (u := .int (0 : Int32)) rfl rfl rfl ?_
    refine w_p h_m253 3 (pc' := 142) (L' := [(0, .ref 143), (1, .int (xs 1)), (2, .int (0 : Int32)), (3, .long (0 : Int64)), (5, .int (1 : Int32))]) (st' := [.int (0 : Int32)]) rfl ?_
    refine w_ri h_m253 (z_at.mk 1 rfl rfl) rfl rfl ?_
    show z_W 1000 1000 855 [(0, .ref 0), (1, .ref 39), (2, .ref 143), (3, .int (0 : Int32))] [.int (0 : Int32), .int (0 : Int32)] m _
    refine w_p h_m1000 5 (pc' := 20) (L' := [(0, .ref 0), (1, .ref 39), (2, .ref 143), (3, .int (6 : Int32))]) (st' := [.ref 0, .int (6 : Int32)]) rfl ?_
    refine w_lene H (x := (6 : Int32)) (pc' := 21) (L' := [(0, .ref 0), (1, .ref 39), (2, .ref 143), (3, .int (6 : Int32))]) h_m1000 (z_at.mk 1 rfl rfl) (by decide) rfl (by decide) rfl rfl rfl ?_
    refine w_p h_m1000 4 (pc' := 1381) (L' := [(0, .ref 0), (1, .ref 39), (2, .ref 143), (3, .int (6 : Int32))]) (st' := [.int (1 : Int32)]) rfl ?_
    refine w_ri h_m1000 (z_at.mk 1 rfl rfl) rfl rfl ?_
    exact hQ _ _ _ _ H (by decide) (by decide)
