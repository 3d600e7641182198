/-! THE ROADS of calls 12 on a fresh object (by wip/px_cmd.py) -/
def w_TM : wT := [(143, (22, 35, [(34, .ref 167), (33, .ref 166), (31, .ref 165), (30, .ref 164), (28, .ref 163), (26, .ref 162), (25, .ref 161), (24, .ref 160), (19, .ref 159), (18, .ref 158), (17, .ref 157), (16, .ref 156), (13, .ref 155), (12, .ref 154), (11, .ref 153), (9, .ref 152), (8, .ref 151), (7, .ref 150), (5, .ref 149), (4, .ref 148), (3, .ref 147), (2, .ref 146), (1, .ref 145), (0, .ref 144), (6, .int (0 : Int32)), (10, .int (0 : Int32)), (14, .int (0 : Int32)), (15, .int (0 : Int32)), (20, .int (0 : Int32)), (21, .int (0 : Int32)), (22, .int (0 : Int32)), (23, .int (0 : Int32)), (27, .int (0 : Int32)), (29, .int (0 : Int32)), (32, .int (0 : Int32))], none)), (144, (0, 2740, [(17, .int (1024 : Int32)), (16, .int (1 : Int32)), (15, .int (1 : Int32)), (13, .int (12 : Int32)), (12, .int (40 : Int32)), (11, .int (10 : Int32))], some (.int (0 : Int32)))), (145, (0, 2740, [], some (.int (0 : Int32)))), (146, (0, 2740, [], some (.int (0 : Int32)))), (147, (1, 361, [], some (.long (0 : Int64)))), (148, (1, 361, [], some (.long (0 : Int64)))), (149, (1, 361, [], some (.long (0 : Int64)))), (150, (0, 2400, [], some (.int (0 : Int32)))), (151, (0, 2400, [], some (.int (0 : Int32)))), (152, (0, 4, [], some (.int (0 : Int32)))), (153, (0, 4, [], some (.int (0 : Int32)))), (154, (0, 60, [], some (.int (0 : Int32)))), (155, (1, 60, [], some (.long (0 : Int64)))), (156, (0, 10, [], some (.int (0 : Int32)))), (157, (0, 4, [], some (.int (0 : Int32)))), (158, (1, 6, [], some (.long (0 : Int64)))), (159, (0, 160, [], some (.int (0 : Int32)))), (160, (0, 7, [], some (.int (0 : Int32)))), (161, (0, 48, [], some (.int (0 : Int32)))), (162, (1, 8, [], some (.long (0 : Int64)))), (163, (0, 40000, [], some (.int (0 : Int32)))), (164, (0, 48, [], some (.int (0 : Int32)))), (165, (0, 3000, [], some (.int (0 : Int32)))), (166, (0, 6, [], some (.int (-1 : Int32)))), (167, (1, 360, [], some (.long (0 : Int64))))]
theorem w_sub_n {T : wT} : w_sub T [] := trivial
theorem w_sub_c {T l : wT} {a : Nat} {r : wR} (h : w_row T a = some r) (hl : w_sub T l) : w_sub T ((a, r) :: l) := ⟨h, hl⟩
set_option maxHeartbeats 400000000 in
set_option maxRecDepth 20000 in
theorem w_rest12_0 {xs : Nat → Int32} {m : zM} {Q : Option Value → zM → Prop} {N S : Nat} (H : w_ok 6 xs N S w_TM m) (hN : N ≤ 600039) (hS : S ≤ 7302250) (hQ : ∀ N S T m, w_ok 6 xs N S T m → N ≤ 600039 → S ≤ 7302250 → Q (some (.int 1)) m) (c_1 : ¬ ((xs 1).toInt < 0)) (c_2 : (xs 1).toInt < 32) (c_3 : ¬ ((xs 3).toInt < 0)) (c_4 : (xs 3).toInt < 32) (c_5 : ¬ ((xs 2).toInt < 0)) (c_6 : (xs 2).toInt < 32) (c_7 : ¬ ((xs 4).toInt < 0)) (c_8 : (xs 4).toInt < 32) (c_9 : (xs 1).toInt ≤ (xs 2).toInt) (c_10 : (xs 3).toInt ≤ (xs 4).toInt) (c_11 : (-1) * (xs 1).toInt ≤ (-10)) (c_16 : (-1) * (xs 3).toInt ≤ (-10)) : z_W 1000 1000 518 [(0, .ref 0), (1, .ref 39), (2, .ref 143), (3, .int (0 : Int32))] [.int (25 : Int32)] m Q := by
  have b1 := zi_bd (xs 1)
  have b2 := zi_bd (xs 2)
  have b3 := zi_bd (xs 3)
  have b4 := zi_bd (xs 4)
  have b5 := zi_bd (xs 5)
  refine w_p h_m1000 5 (pc' := 523) (L' := [(0, .ref 0), (1, .ref 39), (2, .ref 143), (3, .int (0 : Int32))]) (st' := [.int (1 : Int32), .ref 0, .ref 143, .int (25 : Int32)]) rfl ?_
  refine w_ae H (j := 1) (pc' := 524) (L' := [(0, .ref 0), (1, .ref 39), (2, .ref 143), (3, .int (0 : Int32))]) h_m1000 (z_at.mk 1 rfl rfl) rfl rfl rfl (by decide) rfl (by decide) rfl rfl rfl ?_
  refine w_p h_m1000 4 (pc' := 528) (L' := [(0, .ref 0), (1, .ref 39), (2, .ref 143), (3, .int (0 : Int32))]) (st' := [.int (2 : Int32), .ref 0, .int (xs 1), .ref 143, .int (25 : Int32)]) rfl ?_
  refine w_ae H (j := 2) (pc' := 529) (L' := [(0, .ref 0), (1, .ref 39), (2, .ref 143), (3, .int (0 : Int32))]) h_m1000 (z_at.mk 1 rfl rfl) rfl rfl rfl (by decide) rfl (by decide) rfl rfl rfl ?_
  refine w_p h_m1000 4 (pc' := 533) (L' := [(0, .ref 0), (1, .ref 39), (2, .ref 143), (3, .int (0 : Int32))]) (st' := [.int (3 : Int32), .ref 0, .int (xs 2), .int (xs 1), .ref 143, .int (25 : Int32)]) rfl ?_
  refine w_ae H (j := 3) (pc' := 534) (L' := [(0, .ref 0), (1, .ref 39), (2, .ref 143), (3, .int (0 : Int32))]) h_m1000 (z_at.mk 1 rfl rfl) rfl rfl rfl (by decide) rfl (by decide) rfl rfl rfl ?_
  refine w_p h_m1000 4 (pc' := 538) (L' := [(0, .ref 0), (1, .ref 39), (2, .ref 143), (3, .int (0 : Int32))]) (st' := [.int (4 : Int32), .ref 0, .int (xs 3), .int (xs 2), .int (xs 1), .ref 143, .int (25 : Int32)]) rfl ?_
  refine w_ae H (j := 4) (pc' := 539) (L' := [(0, .ref 0), (1, .ref 39), (2, .ref 143), (3, .int (0 : Int32))]) h_m1000 (z_at.mk 1 rfl rfl) rfl rfl rfl (by decide) rfl (by decide) rfl rfl rfl ?_
  refine w_cv (H.t rfl) (pc' := 542) (L' := [(0, .ref 0), (1, .ref 39), (2, .ref 143), (3, .int (0 : Int32))]) (rest := [.int (25 : Int32)]) (Ps := [.int (xs 1), .int (xs 2), .int (xs 3), .int (xs 4)]) (L0 := [(0, .ref 143), (1, .int (xs 1)), (2, .int (xs 2)), (3, .int (xs 3)), (4, .int (xs 4))]) h_m1000 (z_at.mk 3 rfl rfl) (Or.inl ⟨rfl, rfl⟩) rfl rfl (by decide) (by decide) rfl rfl rfl rfl rfl rfl (by decide) rfl rfl rfl ?_
  refine w_p h_m239 4 (pc' := 5) (L' := [(0, .ref 143), (1, .int (xs 1)), (2, .int (xs 2)), (3, .int (xs 3)), (4, .int (xs 4))]) (st' := [.int (xs 4), .int (xs 3), .int (xs 2), .int (xs 1)]) rfl ?_
  refine w_cs (As := [.int (xs 1), .int (xs 2), .int (xs 3), .int (xs 4)]) (rest := []) (j := 164) (L0 := [(0, .int (xs 1)), (1, .int (xs 2)), (2, .int (xs 3)), (3, .int (xs 4))]) (pc' := 8) (L' := [(0, .ref 143), (1, .int (xs 1)), (2, .int (xs 2)), (3, .int (xs 3)), (4, .int (xs 4))]) h_m239 (z_at.mk 3 rfl rfl) (Or.inl ⟨rfl, rfl⟩) rfl rfl rfl rfl rfl ?_
  refine w_p h_m164 3 (pc' := 4) (L' := [(0, .int (xs 1)), (1, .int (xs 2)), (2, .int (xs 3)), (3, .int (xs 4))]) (st' := [.int (31 : Int32), .int (0 : Int32), .int (xs 1)]) rfl ?_
  refine w_cs (As := [.int (xs 1), .int (0 : Int32), .int (31 : Int32)]) (rest := []) (j := 159) (L0 := [(0, .int (xs 1)), (1, .int (0 : Int32)), (2, .int (31 : Int32))]) (pc' := 7) (L' := [(0, .int (xs 1)), (1, .int (xs 2)), (2, .int (xs 3)), (3, .int (xs 4))]) h_m164 (z_at.mk 3 rfl rfl) (Or.inl ⟨rfl, rfl⟩) rfl rfl rfl rfl rfl ?_
  refine w_p h_m159 2 (pc' := 2) (L' := [(0, .int (xs 1)), (1, .int (0 : Int32)), (2, .int (31 : Int32))]) (st' := [.int (0 : Int32), .int (xs 1)]) rfl ?_
  refine w_f2 (pc' := 5) (L' := [(0, .int (xs 1)), (1, .int (0 : Int32)), (2, .int (31 : Int32))]) h_m159 (z_at.mk 3 rfl rfl) rfl (zc (a := (xs 1).toInt) (b := 0) rfl rfl (decide_eq_false (by omega))) rfl rfl ?_
  refine w_p h_m159 2 (pc' := 7) (L' := [(0, .int (xs 1)), (1, .int (0 : Int32)), (2, .int (31 : Int32))]) (st' := [.int (31 : Int32), .int (xs 1)]) rfl ?_
  refine w_f2 (pc' := 10) (L' := [(0, .int (xs 1)), (1, .int (0 : Int32)), (2, .int (31 : Int32))]) h_m159 (z_at.mk 3 rfl rfl) rfl (zc (a := (xs 1).toInt) (b := 31) rfl rfl (decide_eq_false (by omega))) rfl rfl ?_
  refine w_p h_m159 2 (pc' := 15) (L' := []) (st' := [.int (1 : Int32)]) rfl ?_
  refine w_ri h_m159 (z_at.mk 1 rfl rfl) rfl rfl ?_
  show z_W 998 164 7 [(0, .int (xs 1)), (1, .int (xs 2)), (2, .int (xs 3)), (3, .int (xs 4))] [.int (1 : Int32)] m _
  refine w_p h_m164 4 (pc' := 14) (L' := [(0, .int (xs 1)), (1, .int (xs 2)), (2, .int (xs 3)), (3, .int (xs 4))]) (st' := [.int (31 : Int32), .int (xs 1), .int (xs 2)]) rfl ?_
  refine w_cs (As := [.int (xs 2), .int (xs 1), .int (31 : Int32)]) (rest := []) (j := 159) (L0 := [(0, .int (xs 2)), (1, .int (xs 1)), (2, .int (31 : Int32))]) (pc' := 17) (L' := [(0, .int (xs 1)), (1, .int (xs 2)), (2, .int (xs 3)), (3, .int (xs 4))]) h_m164 (z_at.mk 3 rfl rfl) (Or.inl ⟨rfl, rfl⟩) rfl rfl rfl rfl rfl ?_
  refine w_p h_m159 2 (pc' := 2) (L' := [(0, .int (xs 2)), (1, .int (xs 1)), (2, .int (31 : Int32))]) (st' := [.int (xs 1), .int (xs 2)]) rfl ?_
  refine w_f2 (pc' := 5) (L' := [(0, .int (xs 2)), (1, .int (xs 1)), (2, .int (31 : Int32))]) h_m159 (z_at.mk 3 rfl rfl) rfl (zc (a := (xs 2).toInt) (b := (xs 1).toInt) rfl rfl (decide_eq_false (by omega))) rfl rfl ?_
  refine w_p h_m159 2 (pc' := 7) (L' := [(0, .int (xs 2)), (1, .int (xs 1)), (2, .int (31 : Int32))]) (st' := [.int (31 : Int32), .int (xs 2)]) rfl ?_
  refine w_f2 (pc' := 10) (L' := [(0, .int (xs 2)), (1, .int (xs 1)), (2, .int (31 : Int32))]) h_m159 (z_at.mk 3 rfl rfl) rfl (zc (a := (xs 2).toInt) (b := 31) rfl rfl (decide_eq_false (by omega))) rfl rfl ?_
  refine w_p h_m159 2 (pc' := 15) (L' := []) (st' := [.int (1 : Int32)]) rfl ?_
  refine w_ri h_m159 (z_at.mk 1 rfl rfl) rfl rfl ?_
  show z_W 998 164 17 [(0, .int (xs 1)), (1, .int (xs 2)), (2, .int (xs 3)), (3, .int (xs 4))] [.int (1 : Int32)] m _
  refine w_p h_m164 4 (pc' := 24) (L' := [(0, .int (xs 1)), (1, .int (xs 2)), (2, .int (xs 3)), (3, .int (xs 4))]) (st' := [.int (31 : Int32), .int (0 : Int32), .int (xs 3)]) rfl ?_
  refine w_cs (As := [.int (xs 3), .int (0 : Int32), .int (31 : Int32)]) (rest := []) (j := 159) (L0 := [(0, .int (xs 3)), (1, .int (0 : Int32)), (2, .int (31 : Int32))]) (pc' := 27) (L' := [(0, .int (xs 1)), (1, .int (xs 2)), (2, .int (xs 3)), (3, .int (xs 4))]) h_m164 (z_at.mk 3 rfl rfl) (Or.inl ⟨rfl, rfl⟩) rfl rfl rfl rfl rfl ?_
  refine w_p h_m159 2 (pc' := 2) (L' := [(0, .int (xs 3)), (1, .int (0 : Int32)), (2, .int (31 : Int32))]) (st' := [.int (0 : Int32), .int (xs 3)]) rfl ?_
  refine w_f2 (pc' := 5) (L' := [(0, .int (xs 3)), (1, .int (0 : Int32)), (2, .int (31 : Int32))]) h_m159 (z_at.mk 3 rfl rfl) rfl (zc (a := (xs 3).toInt) (b := 0) rfl rfl (decide_eq_false (by omega))) rfl rfl ?_
  refine w_p h_m159 2 (pc' := 7) (L' := [(0, .int (xs 3)), (1, .int (0 : Int32)), (2, .int (31 : Int32))]) (st' := [.int (31 : Int32), .int (xs 3)]) rfl ?_
  refine w_f2 (pc' := 10) (L' := [(0, .int (xs 3)), (1, .int (0 : Int32)), (2, .int (31 : Int32))]) h_m159 (z_at.mk 3 rfl rfl) rfl (zc (a := (xs 3).toInt) (b := 31) rfl rfl (decide_eq_false (by omega))) rfl rfl ?_
  refine w_p h_m159 2 (pc' := 15) (L' := []) (st' := [.int (1 : Int32)]) rfl ?_
  refine w_ri h_m159 (z_at.mk 1 rfl rfl) rfl rfl ?_
  show z_W 998 164 27 [(0, .int (xs 1)), (1, .int (xs 2)), (2, .int (xs 3)), (3, .int (xs 4))] [.int (1 : Int32)] m _
  refine w_p h_m164 4 (pc' := 34) (L' := [(0, .int (xs 1)), (1, .int (xs 2)), (2, .int (xs 3)), (3, .int (xs 4))]) (st' := [.int (31 : Int32), .int (xs 3), .int (xs 4)]) rfl ?_
  refine w_cs (As := [.int (xs 4), .int (xs 3), .int (31 : Int32)]) (rest := []) (j := 159) (L0 := [(0, .int (xs 4)), (1, .int (xs 3)), (2, .int (31 : Int32))]) (pc' := 37) (L' := [(0, .int (xs 1)), (1, .int (xs 2)), (2, .int (xs 3)), (3, .int (xs 4))]) h_m164 (z_at.mk 3 rfl rfl) (Or.inl ⟨rfl, rfl⟩) rfl rfl rfl rfl rfl ?_
  refine w_p h_m159 2 (pc' := 2) (L' := [(0, .int (xs 4)), (1, .int (xs 3)), (2, .int (31 : Int32))]) (st' := [.int (xs 3), .int (xs 4)]) rfl ?_
  refine w_f2 (pc' := 5) (L' := [(0, .int (xs 4)), (1, .int (xs 3)), (2, .int (31 : Int32))]) h_m159 (z_at.mk 3 rfl rfl) rfl (zc (a := (xs 4).toInt) (b := (xs 3).toInt) rfl rfl (decide_eq_false (by omega))) rfl rfl ?_
  refine w_p h_m159 2 (pc' := 7) (L' := [(0, .int (xs 4)), (1, .int (xs 3)), (2, .int (31 : Int32))]) (st' := [.int (31 : Int32), .int (xs 4)]) rfl ?_
  refine w_f2 (pc' := 10) (L' := [(0, .int (xs 4)), (1, .int (xs 3)), (2, .int (31 : Int32))]) h_m159 (z_at.mk 3 rfl rfl) rfl (zc (a := (xs 4).toInt) (b := 31) rfl rfl (decide_eq_false (by omega))) rfl rfl ?_
  refine w_p h_m159 2 (pc' := 15) (L' := []) (st' := [.int (1 : Int32)]) rfl ?_
  refine w_ri h_m159 (z_at.mk 1 rfl rfl) rfl rfl ?_
  show z_W 998 164 37 [(0, .int (xs 1)), (1, .int (xs 2)), (2, .int (xs 3)), (3, .int (xs 4))] [.int (1 : Int32)] m _
  refine w_p h_m164 3 (pc' := 45) (L' := []) (st' := [.int (1 : Int32)]) rfl ?_
  refine w_ri h_m164 (z_at.mk 1 rfl rfl) rfl rfl ?_
  show z_W 999 239 8 [(0, .ref 143), (1, .int (xs 1)), (2, .int (xs 2)), (3, .int (xs 3)), (4, .int (xs 4))] [.int (1 : Int32)] m _
  refine w_p h_m239 2 (pc' := 15) (L' := [(0, .ref 143), (1, .int (xs 1)), (2, .int (xs 2)), (3, .int (xs 3)), (4, .int (xs 4))]) (st' := [.ref 143]) rfl ?_
  refine w_gf H (pc' := 18) (L' := [(0, .ref 143), (1, .int (xs 1)), (2, .int (xs 2)), (3, .int (xs 3)), (4, .int (xs 4))]) h_m239 (z_at.mk 3 rfl rfl) rfl (u := .ref 152) rfl rfl rfl ?_
  refine w_p h_m239 5 (pc' := 24) (L' := [(0, .ref 143), (1, .int (xs 1)), (2, .int (xs 2)), (3, .int (xs 3)), (4, .int (xs 4))]) (st' := [.int (xs 4), .int (xs 3), .int (xs 2), .int (xs 1), .int (0 : Int32), .ref 152]) rfl ?_
  refine w_cs (As := [.ref 152, .int (0 : Int32), .int (xs 1), .int (xs 2), .int (xs 3), .int (xs 4)]) (rest := []) (j := 165) (L0 := [(0, .ref 152), (1, .int (0 : Int32)), (2, .int (xs 1)), (3, .int (xs 2)), (4, .int (xs 3)), (5, .int (xs 4))]) (pc' := 27) (L' := [(0, .ref 143), (1, .int (xs 1)), (2, .int (xs 2)), (3, .int (xs 3)), (4, .int (xs 4))]) h_m239 (z_at.mk 3 rfl rfl) (Or.inl ⟨rfl, rfl⟩) rfl rfl rfl rfl rfl ?_
  refine w_p h_m165 3 (pc' := 3) (L' := [(0, .ref 152), (1, .int (0 : Int32)), (2, .int (xs 1)), (3, .int (xs 2)), (4, .int (xs 3)), (5, .int (xs 4))]) (st' := [.int (xs 1), .int (0 : Int32), .ref 152]) rfl ?_
  refine w_as H (t := 0) (j := 0) (u := .int (xs 1)) (0, 4, [(0, .int (xs 1))], some (.int (0 : Int32))) (pc' := 4) (L' := [(0, .ref 152), (1, .int (0 : Int32)), (2, .int (xs 1)), (3, .int (xs 2)), (4, .int (xs 3)), (5, .int (xs 4))]) h_m165 (z_at.mk 1 rfl rfl) rfl rfl (w_ui _ _ (by decide)) rfl rfl rfl rfl ?_
  clear H m; intro m H
  refine w_p h_m165 5 (pc' := 9) (L' := [(0, .ref 152), (1, .int (0 : Int32)), (2, .int (xs 1)), (3, .int (xs 2)), (4, .int (xs 3)), (5, .int (xs 4))]) (st' := [.int (xs 2), .int (1 : Int32), .ref 152]) rfl ?_
  refine w_as H (t := 0) (j := 1) (u := .int (xs 2)) (0, 4, [(1, .int (xs 2)), (0, .int (xs 1))], some (.int (0 : Int32))) (pc' := 10) (L' := [(0, .ref 152), (1, .int (0 : Int32)), (2, .int (xs 1)), (3, .int (xs 2)), (4, .int (xs 3)), (5, .int (xs 4))]) h_m165 (z_at.mk 1 rfl rfl) rfl rfl (w_ui _ _ (by decide)) rfl rfl rfl rfl ?_
  clear H m; intro m H
  refine w_p h_m165 5 (pc' := 16) (L' := [(0, .ref 152), (1, .int (0 : Int32)), (2, .int (xs 1)), (3, .int (xs 2)), (4, .int (xs 3)), (5, .int (xs 4))]) (st' := [.int (xs 3), .int (2 : Int32), .ref 152]) rfl ?_
  refine w_as H (t := 0) (j := 2) (u := .int (xs 3)) (0, 4, [(2, .int (xs 3)), (1, .int (xs 2)), (0, .int (xs 1))], some (.int (0 : Int32))) (pc' := 17) (L' := [(0, .ref 152), (1, .int (0 : Int32)), (2, .int (xs 1)), (3, .int (xs 2)), (4, .int (xs 3)), (5, .int (xs 4))]) h_m165 (z_at.mk 1 rfl rfl) rfl rfl (w_ui _ _ (by decide)) rfl rfl rfl rfl ?_
  clear H m; intro m H
  refine w_p h_m165 5 (pc' := 23) (L' := [(0, .ref 152), (1, .int (0 : Int32)), (2, .int (xs 1)), (3, .int (xs 2)), (4, .int (xs 3)), (5, .int (xs 4))]) (st' := [.int (xs 4), .int (3 : Int32), .ref 152]) rfl ?_
  refine w_as H (t := 0) (j := 3) (u := .int (xs 4)) (0, 4, [(3, .int (xs 4)), (2, .int (xs 3)), (1, .int (xs 2)), (0, .int (xs 1))], some (.int (0 : Int32))) (pc' := 24) (L' := [(0, .ref 152), (1, .int (0 : Int32)), (2, .int (xs 1)), (3, .int (xs 2)), (4, .int (xs 3)), (5, .int (xs 4))]) h_m165 (z_at.mk 1 rfl rfl) rfl rfl (w_ui _ _ (by decide)) rfl rfl rfl rfl ?_
  clear H m; intro m H
  refine w_rv h_m165 (z_at.mk 1 rfl rfl) rfl ?_
  show z_W 999 239 27 [(0, .ref 143), (1, .int (xs 1)), (2, .int (xs 2)), (3, .int (xs 3)), (4, .int (xs 4))] [] m _
  refine w_p h_m239 1 (pc' := 28) (L' := [(0, .ref 143), (1, .int (xs 1)), (2, .int (xs 2)), (3, .int (xs 3)), (4, .int (xs 4))]) (st' := [.ref 143]) rfl ?_
  refine w_cv (H.t rfl) (pc' := 31) (L' := [(0, .ref 143), (1, .int (xs 1)), (2, .int (xs 2)), (3, .int (xs 3)), (4, .int (xs 4))]) (rest := []) (Ps := []) (L0 := [(0, .ref 143)]) h_m239 (z_at.mk 3 rfl rfl) (Or.inl ⟨rfl, rfl⟩) rfl rfl (by decide) (by decide) rfl rfl rfl rfl rfl rfl (by decide) rfl rfl rfl ?_
  refine w_p h_m181 1 (pc' := 1) (L' := [(0, .ref 143)]) (st' := [.ref 143]) rfl ?_
  refine w_gf H (pc' := 4) (L' := [(0, .ref 143)]) h_m181 (z_at.mk 3 rfl rfl) rfl (u := .ref 152) rfl rfl rfl ?_
  refine w_p h_m181 2 (pc' := 6) (L' := [(0, .ref 143)]) (st' := [.ref 143, .int (0 : Int32), .ref 152]) rfl ?_
  refine w_gf H (pc' := 9) (L' := [(0, .ref 143)]) h_m181 (z_at.mk 3 rfl rfl) rfl (u := .ref 150) rfl rfl rfl ?_
  refine w_p h_m181 1 (pc' := 10) (L' := [(0, .ref 143)]) (st' := [.int (0 : Int32), .ref 150, .int (0 : Int32), .ref 152]) rfl ?_
  refine w_cs (As := [.ref 152, .int (0 : Int32), .ref 150, .int (0 : Int32)]) (rest := []) (j := 166) (L0 := [(0, .ref 152), (1, .int (0 : Int32)), (2, .ref 150), (3, .int (0 : Int32))]) (pc' := 13) (L' := [(0, .ref 143)]) h_m181 (z_at.mk 3 rfl rfl) (Or.inl ⟨rfl, rfl⟩) rfl rfl rfl rfl rfl ?_
  refine w_p h_m166 4 (pc' := 4) (L' := [(0, .ref 152), (1, .int (0 : Int32)), (2, .ref 150), (3, .int (0 : Int32))]) (st' := [.int (0 : Int32), .ref 152, .int (0 : Int32), .ref 150]) rfl ?_
  refine w_al H (t := 0) (j := 0) (pc' := 5) (L' := [(0, .ref 152), (1, .int (0 : Int32)), (2, .ref 150), (3, .int (0 : Int32))]) h_m166 (z_at.mk 1 rfl rfl) rfl rfl rfl (u := .int (xs 1)) rfl rfl rfl ?_
  refine w_p h_m166 4 (pc' := 9) (L' := [(0, .ref 152), (1, .int (0 : Int32)), (2, .ref 150), (3, .int (0 : Int32))]) (st' := [.int (1 : Int32), .ref 152, .int (xs 1), .int (0 : Int32), .ref 150]) rfl ?_
  refine w_al H (t := 0) (j := 1) (pc' := 10) (L' := [(0, .ref 152), (1, .int (0 : Int32)), (2, .ref 150), (3, .int (0 : Int32))]) h_m166 (z_at.mk 1 rfl rfl) rfl rfl rfl (u := .int (xs 2)) rfl rfl rfl ?_
  refine w_p h_m166 4 (pc' := 14) (L' := [(0, .ref 152), (1, .int (0 : Int32)), (2, .ref 150), (3, .int (0 : Int32))]) (st' := [.int (2 : Int32), .ref 152, .int (xs 2), .int (xs 1), .int (0 : Int32), .ref 150]) rfl ?_
  refine w_al H (t := 0) (j := 2) (pc' := 15) (L' := [(0, .ref 152), (1, .int (0 : Int32)), (2, .ref 150), (3, .int (0 : Int32))]) h_m166 (z_at.mk 1 rfl rfl) rfl rfl rfl (u := .int (xs 3)) rfl rfl rfl ?_
  refine w_p h_m166 4 (pc' := 19) (L' := [(0, .ref 152), (1, .int (0 : Int32)), (2, .ref 150), (3, .int (0 : Int32))]) (st' := [.int (3 : Int32), .ref 152, .int (xs 3), .int (xs 2), .int (xs 1), .int (0 : Int32), .ref 150]) rfl ?_
  refine w_al H (t := 0) (j := 3) (pc' := 20) (L' := [(0, .ref 152), (1, .int (0 : Int32)), (2, .ref 150), (3, .int (0 : Int32))]) h_m166 (z_at.mk 1 rfl rfl) rfl rfl rfl (u := .int (xs 4)) rfl rfl rfl ?_
  refine w_cs (As := [.ref 150, .int (0 : Int32), .int (xs 1), .int (xs 2), .int (xs 3), .int (xs 4)]) (rest := []) (j := 165) (L0 := [(0, .ref 150), (1, .int (0 : Int32)), (2, .int (xs 1)), (3, .int (xs 2)), (4, .int (xs 3)), (5, .int (xs 4))]) (pc' := 23) (L' := [(0, .ref 152), (1, .int (0 : Int32)), (2, .ref 150), (3, .int (0 : Int32))]) h_m166 (z_at.mk 3 rfl rfl) (Or.inl ⟨rfl, rfl⟩) rfl rfl rfl rfl rfl ?_
  refine w_p h_m165 3 (pc' := 3) (L' := [(0, .ref 150), (1, .int (0 : Int32)), (2, .int (xs 1)), (3, .int (xs 2)), (4, .int (xs 3)), (5, .int (xs 4))]) (st' := [.int (xs 1), .int (0 : Int32), .ref 150]) rfl ?_
  refine w_as H (t := 0) (j := 0) (u := .int (xs 1)) (0, 2400, [(0, .int (xs 1))], some (.int (0 : Int32))) (pc' := 4) (L' := [(0, .ref 150), (1, .int (0 : Int32)), (2, .int (xs 1)), (3, .int (xs 2)), (4, .int (xs 3)), (5, .int (xs 4))]) h_m165 (z_at.mk 1 rfl rfl) rfl rfl (w_ui _ _ (by decide)) rfl rfl rfl rfl ?_
  clear H m; intro m H
  refine w_p h_m165 5 (pc' := 9) (L' := [(0, .ref 150), (1, .int (0 : Int32)), (2, .int (xs 1)), (3, .int (xs 2)), (4, .int (xs 3)), (5, .int (xs 4))]) (st' := [.int (xs 2), .int (1 : Int32), .ref 150]) rfl ?_
  refine w_as H (t := 0) (j := 1) (u := .int (xs 2)) (0, 2400, [(1, .int (xs 2)), (0, .int (xs 1))], some (.int (0 : Int32))) (pc' := 10) (L' := [(0, .ref 150), (1, .int (0 : Int32)), (2, .int (xs 1)), (3, .int (xs 2)), (4, .int (xs 3)), (5, .int (xs 4))]) h_m165 (z_at.mk 1 rfl rfl) rfl rfl (w_ui _ _ (by decide)) rfl rfl rfl rfl ?_
  clear H m; intro m H
  refine w_p h_m165 5 (pc' := 16) (L' := [(0, .ref 150), (1, .int (0 : Int32)), (2, .int (xs 1)), (3, .int (xs 2)), (4, .int (xs 3)), (5, .int (xs 4))]) (st' := [.int (xs 3), .int (2 : Int32), .ref 150]) rfl ?_
  refine w_as H (t := 0) (j := 2) (u := .int (xs 3)) (0, 2400, [(2, .int (xs 3)), (1, .int (xs 2)), (0, .int (xs 1))], some (.int (0 : Int32))) (pc' := 17) (L' := [(0, .ref 150), (1, .int (0 : Int32)), (2, .int (xs 1)), (3, .int (xs 2)), (4, .int (xs 3)), (5, .int (xs 4))]) h_m165 (z_at.mk 1 rfl rfl) rfl rfl (w_ui _ _ (by decide)) rfl rfl rfl rfl ?_
  clear H m; intro m H
  refine w_p h_m165 5 (pc' := 23) (L' := [(0, .ref 150), (1, .int (0 : Int32)), (2, .int (xs 1)), (3, .int (xs 2)), (4, .int (xs 3)), (5, .int (xs 4))]) (st' := [.int (xs 4), .int (3 : Int32), .ref 150]) rfl ?_
  refine w_as H (t := 0) (j := 3) (u := .int (xs 4)) (0, 2400, [(3, .int (xs 4)), (2, .int (xs 3)), (1, .int (xs 2)), (0, .int (xs 1))], some (.int (0 : Int32))) (pc' := 24) (L' := [(0, .ref 150), (1, .int (0 : Int32)), (2, .int (xs 1)), (3, .int (xs 2)), (4, .int (xs 3)), (5, .int (xs 4))]) h_m165 (z_at.mk 1 rfl rfl) rfl rfl (w_ui _ _ (by decide)) rfl rfl rfl rfl ?_
  clear H m; intro m H
  refine w_rv h_m165 (z_at.mk 1 rfl rfl) rfl ?_
  show z_W 997 166 23 [(0, .ref 152), (1, .int (0 : Int32)), (2, .ref 150), (3, .int (0 : Int32))] [] m _
  refine w_rv h_m166 (z_at.mk 1 rfl rfl) rfl ?_
  show z_W 998 181 13 [(0, .ref 143)] [] m _
  refine w_p h_m181 2 (pc' := 15) (L' := [(0, .ref 143)]) (st' := [.int (1 : Int32), .ref 143]) rfl ?_
  refine w_pf H (22, 35, [(10, .int (1 : Int32)), (34, .ref 167), (33, .ref 166), (31, .ref 165), (30, .ref 164), (28, .ref 163), (26, .ref 162), (25, .ref 161), (24, .ref 160), (19, .ref 159), (18, .ref 158), (17, .ref 157), (16, .ref 156), (13, .ref 155), (12, .ref 154), (11, .ref 153), (9, .ref 152), (8, .ref 151), (7, .ref 150), (5, .ref 149), (4, .ref 148), (3, .ref 147), (2, .ref 146), (1, .ref 145), (0, .ref 144), (6, .int (0 : Int32)), (14, .int (0 : Int32)), (15, .int (0 : Int32)), (20, .int (0 : Int32)), (21, .int (0 : Int32)), (22, .int (0 : Int32)), (23, .int (0 : Int32)), (27, .int (0 : Int32)), (29, .int (0 : Int32)), (32, .int (0 : Int32))], none) (pc' := 18) (L' := [(0, .ref 143)]) h_m181 (z_at.mk 3 rfl rfl) rfl (by decide) rfl (Or.inl rfl) rfl rfl rfl ?_
  clear H m; intro m H
  refine w_p h_m181 4 (pc' := 22) (L' := [(0, .ref 143), (1, .int (0 : Int32))]) (st' := [.ref 143, .int (0 : Int32)]) rfl ?_
  refine w_gf H (pc' := 25) (L' := [(0, .ref 143), (1, .int (0 : Int32))]) h_m181 (z_at.mk 3 rfl rfl) rfl (u := .ref 144) rfl rfl rfl ?_
  refine w_p h_m181 1 (pc' := 26) (L' := [(0, .ref 143), (1, .int (0 : Int32))]) (st' := [.int (0 : Int32), .ref 144, .int (0 : Int32)]) rfl ?_
  refine w_al H (t := 0) (j := 0) (pc' := 27) (L' := [(0, .ref 143), (1, .int (0 : Int32))]) h_m181 (z_at.mk 1 rfl rfl) rfl rfl rfl (u := .int (0 : Int32)) rfl rfl rfl ?_
  refine w_p h_m181 1 (pc' := 114) (L' := [(0, .ref 143), (1, .int (0 : Int32))]) (st' := []) rfl ?_
  refine w_rv h_m181 (z_at.mk 1 rfl rfl) rfl ?_
  show z_W 999 239 31 [(0, .ref 143), (1, .int (xs 1)), (2, .int (xs 2)), (3, .int (xs 3)), (4, .int (xs 4))] [] m _
  refine w_p h_m239 2 (pc' := 33) (L' := [(0, .ref 143), (1, .int (xs 1)), (2, .int (xs 2)), (3, .int (xs 3)), (4, .int (xs 4))]) (st' := [.int (0 : Int32), .ref 143]) rfl ?_
  refine w_pf H (22, 35, [(29, .int (0 : Int32)), (10, .int (1 : Int32)), (34, .ref 167), (33, .ref 166), (31, .ref 165), (30, .ref 164), (28, .ref 163), (26, .ref 162), (25, .ref 161), (24, .ref 160), (19, .ref 159), (18, .ref 158), (17, .ref 157), (16, .ref 156), (13, .ref 155), (12, .ref 154), (11, .ref 153), (9, .ref 152), (8, .ref 151), (7, .ref 150), (5, .ref 149), (4, .ref 148), (3, .ref 147), (2, .ref 146), (1, .ref 145), (0, .ref 144), (6, .int (0 : Int32)), (14, .int (0 : Int32)), (15, .int (0 : Int32)), (20, .int (0 : Int32)), (21, .int (0 : Int32)), (22, .int (0 : Int32)), (23, .int (0 : Int32)), (27, .int (0 : Int32)), (32, .int (0 : Int32))], none) (pc' := 36) (L' := [(0, .ref 143), (1, .int (xs 1)), (2, .int (xs 2)), (3, .int (xs 3)), (4, .int (xs 4))]) h_m239 (z_at.mk 3 rfl rfl) rfl (by decide) rfl (Or.inl rfl) rfl rfl rfl ?_
  clear H m; intro m H
  refine w_p h_m239 4 (pc' := 42) (L' := [(0, .ref 143), (5, .int (0 : Int32))]) (st' := [.ref 143, .int (0 : Int32)]) rfl ?_
  refine w_gf H (pc' := 45) (L' := [(0, .ref 143), (5, .int (0 : Int32))]) h_m239 (z_at.mk 3 rfl rfl) rfl (u := .ref 144) rfl rfl rfl ?_
  refine w_p h_m239 1 (pc' := 46) (L' := [(0, .ref 143), (5, .int (0 : Int32))]) (st' := [.int (0 : Int32), .ref 144, .int (0 : Int32)]) rfl ?_
  refine w_al H (t := 0) (j := 0) (pc' := 47) (L' := [(0, .ref 143), (5, .int (0 : Int32))]) h_m239 (z_at.mk 1 rfl rfl) rfl rfl rfl (u := .int (0 : Int32)) rfl rfl rfl ?_
  refine w_p h_m239 7 (pc' := 155) (L' := [(0, .ref 143), (5, .int (0 : Int32)), (6, .int (0 : Int32))]) (st' := [.ref 143, .int (0 : Int32)]) rfl ?_
  refine w_gf H (pc' := 158) (L' := [(0, .ref 143), (5, .int (0 : Int32)), (6, .int (0 : Int32))]) h_m239 (z_at.mk 3 rfl rfl) rfl (u := .int (1 : Int32)) rfl rfl rfl ?_
  refine w_p h_m239 3 (pc' := 165) (L' := [(0, .ref 143), (5, .int (0 : Int32)), (6, .int (0 : Int32))]) (st' := [.ref 17, .ref 143]) rfl ?_
  refine w_cv (H.t rfl) (pc' := 168) (L' := [(0, .ref 143), (5, .int (0 : Int32)), (6, .int (0 : Int32))]) (rest := []) (Ps := [.ref 17]) (L0 := [(0, .ref 143), (1, .ref 17)]) h_m239 (z_at.mk 3 rfl rfl) (Or.inl ⟨rfl, rfl⟩) rfl rfl (by decide) (by decide) rfl rfl rfl rfl rfl rfl (by decide) rfl rfl rfl ?_
  refine w_p h_m235 4 (pc' := 4) (L' := [(0, .ref 143), (1, .ref 17), (2, .int (0 : Int32))]) (st' := [.ref 17, .int (0 : Int32)]) rfl ?_
  refine w_cv (H.te (by decide) rfl).1 (pc' := 7) (L' := [(0, .ref 143), (1, .ref 17), (2, .int (0 : Int32))]) (rest := [.int (0 : Int32)]) (Ps := []) (L0 := [(0, .ref 17)]) h_m235 (z_at.mk 3 rfl rfl) (Or.inl ⟨rfl, rfl⟩) rfl rfl (by decide) (by decide) rfl rfl rfl rfl rfl rfl (by decide) rfl rfl rfl ?_
  refine w_p h_m293 1 (pc' := 1) (L' := [(0, .ref 17)]) (st' := [.ref 17]) rfl ?_
  refine w_gs H (pc' := 4) (L' := [(0, .ref 17)]) h_m293 (z_at.mk 3 rfl rfl) rfl (by decide) rfl rfl rfl rfl ?_
  refine w_lene H (x := (4 : Int32)) (pc' := 5) (L' := [(0, .ref 17)]) h_m293 (z_at.mk 1 rfl rfl) (by decide) rfl (by decide) rfl rfl rfl ?_
  refine w_p h_m293 1 (pc' := 6) (L' := [(0, .ref 17)]) (st' := [.ref 17, .int (4 : Int32)]) rfl ?_
  refine w_cv (H.te (by decide) rfl).1 (pc' := 9) (L' := [(0, .ref 17)]) (rest := [.int (4 : Int32)]) (Ps := []) (L0 := [(0, .ref 17)]) h_m293 (z_at.mk 3 rfl rfl) (Or.inl ⟨rfl, rfl⟩) rfl rfl (by decide) (by decide) rfl rfl rfl rfl rfl rfl (by decide) rfl rfl rfl ?_
  refine w_p h_m298 3 (pc' := 7) (L' := [(0, .ref 17)]) (st' := [.ref 17]) rfl ?_
  refine w_gs H (pc' := 10) (L' := [(0, .ref 17)]) h_m298 (z_at.mk 3 rfl rfl) rfl (by decide) rfl rfl rfl rfl ?_
  refine w_p h_m298 1 (pc' := 14) (L' := []) (st' := [.int (0 : Int32)]) rfl ?_
  refine w_ri h_m298 (z_at.mk 1 rfl rfl) rfl rfl ?_
  show z_W 997 293 9 [(0, .ref 17)] [.int (0 : Int32), .int (4 : Int32)] m _
  refine w_p h_m293 1 (pc' := 10) (L' := [(0, .ref 17)]) (st' := [.int (4 : Int32)]) rfl ?_
  refine w_ri h_m293 (z_at.mk 1 rfl rfl) rfl rfl ?_
  show z_W 998 235 7 [(0, .ref 143), (1, .ref 17), (2, .int (0 : Int32))] [.int (4 : Int32), .int (0 : Int32)] m _
  refine w_p h_m235 4 (pc' := 13) (L' := [(0, .ref 143), (1, .ref 17), (2, .int (0 : Int32))]) (st' := [.int (0 : Int32), .ref 17, .ref 143]) rfl ?_
  refine w_cv (H.te (by decide) rfl).1 (pc' := 16) (L' := [(0, .ref 143), (1, .ref 17), (2, .int (0 : Int32))]) (rest := [.ref 143]) (Ps := [.int (0 : Int32)]) (L0 := [(0, .ref 17), (1, .int (0 : Int32))]) h_m235 (z_at.mk 3 rfl rfl) (Or.inl ⟨rfl, rfl⟩) rfl rfl (by decide) (by decide) rfl rfl rfl rfl rfl rfl (by decide) rfl rfl rfl ?_
  refine w_p h_m294 1 (pc' := 1) (L' := [(0, .ref 17), (1, .int (0 : Int32))]) (st' := [.ref 17]) rfl ?_
  refine w_cv (H.te (by decide) rfl).1 (pc' := 4) (L' := [(0, .ref 17), (1, .int (0 : Int32))]) (rest := []) (Ps := []) (L0 := [(0, .ref 17)]) h_m294 (z_at.mk 3 rfl rfl) (Or.inl ⟨rfl, rfl⟩) rfl rfl (by decide) (by decide) rfl rfl rfl rfl rfl rfl (by decide) rfl rfl rfl ?_
  refine w_p h_m299 3 (pc' := 7) (L' := [(0, .ref 17)]) (st' := [.ref 17]) rfl ?_
  refine w_gs H (pc' := 10) (L' := [(0, .ref 17)]) h_m299 (z_at.mk 3 rfl rfl) rfl (by decide) rfl rfl rfl rfl ?_
  refine w_p h_m299 3 (pc' := 18) (L' := []) (st' := [.int (1 : Int32)]) rfl ?_
  refine w_ri h_m299 (z_at.mk 1 rfl rfl) rfl rfl ?_
  show z_W 997 294 4 [(0, .ref 17), (1, .int (0 : Int32))] [.int (1 : Int32)] m _
  refine w_p h_m294 2 (pc' := 8) (L' := [(0, .ref 17), (1, .int (0 : Int32))]) (st' := [.ref 17]) rfl ?_
  refine w_gs H (pc' := 11) (L' := [(0, .ref 17), (1, .int (0 : Int32))]) h_m294 (z_at.mk 3 rfl rfl) rfl (by decide) rfl rfl rfl rfl ?_
  refine w_p h_m294 1 (pc' := 12) (L' := [(0, .ref 17), (1, .int (0 : Int32))]) (st' := [.int (0 : Int32), .ref 35]) rfl ?_
  refine w_cs (As := [.ref 35, .int (0 : Int32)]) (rest := []) (j := 308) (L0 := [(0, .ref 35), (1, .int (0 : Int32))]) (pc' := 15) (L' := [(0, .ref 17), (1, .int (0 : Int32))]) h_m294 (z_at.mk 3 rfl rfl) (Or.inl ⟨rfl, rfl⟩) rfl rfl rfl rfl rfl ?_
  refine w_p h_m308 2 (pc' := 2) (L' := [(0, .ref 35), (1, .int (0 : Int32))]) (st' := [.ref 35, .int (0 : Int32)]) rfl ?_
  refine w_lene H (x := (4 : Int32)) (pc' := 3) (L' := [(0, .ref 35), (1, .int (0 : Int32))]) h_m308 (z_at.mk 1 rfl rfl) (by decide) rfl (by decide) rfl rfl rfl ?_
  refine w_ci (pc' := 6) (L' := [(0, .ref 35), (1, .int (0 : Int32))]) h_m308 (z_at.mk 3 rfl rfl) rfl (z_cat_le 0 rfl (by decide)) ⟨by decide, by decide⟩ rfl rfl ?_
  refine w_p h_m308 2 (pc' := 8) (L' := [(0, .ref 35), (1, .int (0 : Int32))]) (st' := [.int (0 : Int32), .ref 35]) rfl ?_
  refine w_ae H (j := 0) (pc' := 9) (L' := [(0, .ref 35), (1, .int (0 : Int32))]) h_m308 (z_at.mk 1 rfl rfl) rfl rfl rfl (by decide) rfl (by decide) rfl rfl rfl ?_
  refine w_p h_m308 3 (pc' := 14) (L' := [(0, .ref 35), (1, .int (0 : Int32))]) (st' := [.int (97 : Int32)]) rfl ?_
  refine w_ri h_m308 (z_at.mk 1 rfl rfl) rfl rfl ?_
  show z_W 997 294 15 [(0, .ref 17), (1, .int (0 : Int32))] [.int (97 : Int32)] m _
  refine w_ri h_m294 (z_at.mk 1 rfl rfl) rfl rfl ?_
  show z_W 998 235 16 [(0, .ref 143), (1, .ref 17), (2, .int (0 : Int32))] [.int (97 : Int32), .ref 143] m _
  refine w_cv (H.t rfl) (pc' := 19) (L' := [(0, .ref 143), (1, .ref 17), (2, .int (0 : Int32))]) (rest := []) (Ps := [.int (97 : Int32)]) (L0 := [(0, .ref 143), (1, .int (97 : Int32))]) h_m235 (z_at.mk 3 rfl rfl) (Or.inl ⟨rfl, rfl⟩) rfl rfl (by decide) (by decide) rfl rfl rfl rfl rfl rfl (by decide) rfl rfl rfl ?_
  refine w_p h_m234 1 (pc' := 1) (L' := [(0, .ref 143), (1, .int (97 : Int32))]) (st' := [.ref 143]) rfl ?_
  refine w_gf H (pc' := 4) (L' := [(0, .ref 143), (1, .int (97 : Int32))]) h_m234 (z_at.mk 3 rfl rfl) rfl (u := .ref 163) rfl rfl rfl ?_
  refine w_p h_m234 1 (pc' := 5) (L' := [(0, .ref 143), (1, .int (97 : Int32))]) (st' := [.ref 143, .ref 163]) rfl ?_
  refine w_gf H (pc' := 8) (L' := [(0, .ref 143), (1, .int (97 : Int32))]) h_m234 (z_at.mk 3 rfl rfl) rfl (u := .int (0 : Int32)) rfl rfl rfl ?_
  refine w_p h_m234 1 (pc' := 9) (L' := [(0, .ref 143), (1, .int (97 : Int32))]) (st' := [.int (97 : Int32), .int (0 : Int32), .ref 163]) rfl ?_
  refine w_as H (t := 0) (j := 0) (u := .int (97 : Int32)) (0, 40000, [(0, .int (97 : Int32))], some (.int (0 : Int32))) (pc' := 10) (L' := [(0, .ref 143), (1, .int (97 : Int32))]) h_m234 (z_at.mk 1 rfl rfl) rfl rfl (w_ui _ _ (by decide)) rfl rfl rfl rfl ?_
  clear H m; intro m H
  refine w_p h_m234 2 (pc' := 12) (L' := [(0, .ref 143), (1, .int (97 : Int32))]) (st' := [.ref 143, .ref 143]) rfl ?_
  refine w_gf H (pc' := 15) (L' := [(0, .ref 143), (1, .int (97 : Int32))]) h_m234 (z_at.mk 3 rfl rfl) rfl (u := .int (0 : Int32)) rfl rfl rfl ?_
  refine w_p h_m234 2 (pc' := 17) (L' := [(0, .ref 143), (1, .int (97 : Int32))]) (st' := [.int (1 : Int32), .ref 143]) rfl ?_
  refine w_pf H (22, 35, [(29, .int (1 : Int32)), (10, .int (1 : Int32)), (34, .ref 167), (33, .ref 166), (31, .ref 165), (30, .ref 164), (28, .ref 163), (26, .ref 162), (25, .ref 161), (24, .ref 160), (19, .ref 159), (18, .ref 158), (17, .ref 157), (16, .ref 156), (13, .ref 155), (12, .ref 154), (11, .ref 153), (9, .ref 152), (8, .ref 151), (7, .ref 150), (5, .ref 149), (4, .ref 148), (3, .ref 147), (2, .ref 146), (1, .ref 145), (0, .ref 144), (6, .int (0 : Int32)), (14, .int (0 : Int32)), (15, .int (0 : Int32)), (20, .int (0 : Int32)), (21, .int (0 : Int32)), (22, .int (0 : Int32)), (23, .int (0 : Int32)), (27, .int (0 : Int32)), (32, .int (0 : Int32))], none) (pc' := 20) (L' := [(0, .ref 143), (1, .int (97 : Int32))]) h_m234 (z_at.mk 3 rfl rfl) rfl (by decide) rfl (Or.inl rfl) rfl rfl rfl ?_
  clear H m; intro m H
  refine w_rv h_m234 (z_at.mk 1 rfl rfl) rfl ?_
  show z_W 998 235 19 [(0, .ref 143), (1, .ref 17), (2, .int (0 : Int32))] [] m _
  refine w_p h_m235 4 (pc' := 4) (L' := [(0, .ref 143), (1, .ref 17), (2, .int (1 : Int32))]) (st' := [.ref 17, .int (1 : Int32)]) rfl ?_
  refine w_cv (H.te (by decide) rfl).1 (pc' := 7) (L' := [(0, .ref 143), (1, .ref 17), (2, .int (1 : Int32))]) (rest := [.int (1 : Int32)]) (Ps := []) (L0 := [(0, .ref 17)]) h_m235 (z_at.mk 3 rfl rfl) (Or.inl ⟨rfl, rfl⟩) rfl rfl (by decide) (by decide) rfl rfl rfl rfl rfl rfl (by decide) rfl rfl rfl ?_
  refine w_p h_m293 1 (pc' := 1) (L' := [(0, .ref 17)]) (st' := [.ref 17]) rfl ?_
  refine w_gs H (pc' := 4) (L' := [(0, .ref 17)]) h_m293 (z_at.mk 3 rfl rfl) rfl (by decide) rfl rfl rfl rfl ?_
  refine w_lene H (x := (4 : Int32)) (pc' := 5) (L' := [(0, .ref 17)]) h_m293 (z_at.mk 1 rfl rfl) (by decide) rfl (by decide) rfl rfl rfl ?_
  refine w_p h_m293 1 (pc' := 6) (L' := [(0, .ref 17)]) (st' := [.ref 17, .int (4 : Int32)]) rfl ?_
  refine w_cv (H.te (by decide) rfl).1 (pc' := 9) (L' := [(0, .ref 17)]) (rest := [.int (4 : Int32)]) (Ps := []) (L0 := [(0, .ref 17)]) h_m293 (z_at.mk 3 rfl rfl) (Or.inl ⟨rfl, rfl⟩) rfl rfl (by decide) (by decide) rfl rfl rfl rfl rfl rfl (by decide) rfl rfl rfl ?_
  refine w_p h_m298 3 (pc' := 7) (L' := [(0, .ref 17)]) (st' := [.ref 17]) rfl ?_
  refine w_gs H (pc' := 10) (L' := [(0, .ref 17)]) h_m298 (z_at.mk 3 rfl rfl) rfl (by decide) rfl rfl rfl rfl ?_
  refine w_p h_m298 1 (pc' := 14) (L' := []) (st' := [.int (0 : Int32)]) rfl ?_
  refine w_ri h_m298 (z_at.mk 1 rfl rfl) rfl rfl ?_
  show z_W 997 293 9 [(0, .ref 17)] [.int (0 : Int32), .int (4 : Int32)] m _
  refine w_p h_m293 1 (pc' := 10) (L' := [(0, .ref 17)]) (st' := [.int (4 : Int32)]) rfl ?_
  refine w_ri h_m293 (z_at.mk 1 rfl rfl) rfl rfl ?_
  show z_W 998 235 7 [(0, .ref 143), (1, .ref 17), (2, .int (1 : Int32))] [.int (4 : Int32), .int (1 : Int32)] m _
  refine w_p h_m235 4 (pc' := 13) (L' := [(0, .ref 143), (1, .ref 17), (2, .int (1 : Int32))]) (st' := [.int (1 : Int32), .ref 17, .ref 143]) rfl ?_
  refine w_cv (H.te (by decide) rfl).1 (pc' := 16) (L' := [(0, .ref 143), (1, .ref 17), (2, .int (1 : Int32))]) (rest := [.ref 143]) (Ps := [.int (1 : Int32)]) (L0 := [(0, .ref 17), (1, .int (1 : Int32))]) h_m235 (z_at.mk 3 rfl rfl) (Or.inl ⟨rfl, rfl⟩) rfl rfl (by decide) (by decide) rfl rfl rfl rfl rfl rfl (by decide) rfl rfl rfl ?_
  refine w_p h_m294 1 (pc' := 1) (L' := [(0, .ref 17), (1, .int (1 : Int32))]) (st' := [.ref 17]) rfl ?_
  refine w_cv (H.te (by decide) rfl).1 (pc' := 4) (L' := [(0, .ref 17), (1, .int (1 : Int32))]) (rest := []) (Ps := []) (L0 := [(0, .ref 17)]) h_m294 (z_at.mk 3 rfl rfl) (Or.inl ⟨rfl, rfl⟩) rfl rfl (by decide) (by decide) rfl rfl rfl rfl rfl rfl (by decide) rfl rfl rfl ?_
  refine w_p h_m299 3 (pc' := 7) (L' := [(0, .ref 17)]) (st' := [.ref 17]) rfl ?_
  refine w_gs H (pc' := 10) (L' := [(0, .ref 17)]) h_m299 (z_at.mk 3 rfl rfl) rfl (by decide) rfl rfl rfl rfl ?_
  refine w_p h_m299 3 (pc' := 18) (L' := []) (st' := [.int (1 : Int32)]) rfl ?_
  refine w_ri h_m299 (z_at.mk 1 rfl rfl) rfl rfl ?_
  show z_W 997 294 4 [(0, .ref 17), (1, .int (1 : Int32))] [.int (1 : Int32)] m _
  refine w_p h_m294 2 (pc' := 8) (L' := [(0, .ref 17), (1, .int (1 : Int32))]) (st' := [.ref 17]) rfl ?_
  refine w_gs H (pc' := 11) (L' := [(0, .ref 17), (1, .int (1 : Int32))]) h_m294 (z_at.mk 3 rfl rfl) rfl (by decide) rfl rfl rfl rfl ?_
  refine w_p h_m294 1 (pc' := 12) (L' := [(0, .ref 17), (1, .int (1 : Int32))]) (st' := [.int (1 : Int32), .ref 35]) rfl ?_
  refine w_cs (As := [.ref 35, .int (1 : Int32)]) (rest := []) (j := 308) (L0 := [(0, .ref 35), (1, .int (1 : Int32))]) (pc' := 15) (L' := [(0, .ref 17), (1, .int (1 : Int32))]) h_m294 (z_at.mk 3 rfl rfl) (Or.inl ⟨rfl, rfl⟩) rfl rfl rfl rfl rfl ?_
  refine w_p h_m308 2 (pc' := 2) (L' := [(0, .ref 35), (1, .int (1 : Int32))]) (st' := [.ref 35, .int (1 : Int32)]) rfl ?_
  refine w_lene H (x := (4 : Int32)) (pc' := 3) (L' := [(0, .ref 35), (1, .int (1 : Int32))]) h_m308 (z_at.mk 1 rfl rfl) (by decide) rfl (by decide) rfl rfl rfl ?_
  refine w_ci (pc' := 6) (L' := [(0, .ref 35), (1, .int (1 : Int32))]) h_m308 (z_at.mk 3 rfl rfl) rfl (z_cat_le 0 rfl (by decide)) ⟨by decide, by decide⟩ rfl rfl ?_
  refine w_p h_m308 2 (pc' := 8) (L' := [(0, .ref 35), (1, .int (1 : Int32))]) (st' := [.int (1 : Int32), .ref 35]) rfl ?_
  refine w_ae H (j := 1) (pc' := 9) (L' := [(0, .ref 35), (1, .int (1 : Int32))]) h_m308 (z_at.mk 1 rfl rfl) rfl rfl rfl (by decide) rfl (by decide) rfl rfl rfl ?_
  refine w_p h_m308 3 (pc' := 14) (L' := [(0, .ref 35), (1, .int (1 : Int32))]) (st' := [.int (115 : Int32)]) rfl ?_
  refine w_ri h_m308 (z_at.mk 1 rfl rfl) rfl rfl ?_
  show z_W 997 294 15 [(0, .ref 17), (1, .int (1 : Int32))] [.int (115 : Int32)] m _
  refine w_ri h_m294 (z_at.mk 1 rfl rfl) rfl rfl ?_
  show z_W 998 235 16 [(0, .ref 143), (1, .ref 17), (2, .int (1 : Int32))] [.int (115 : Int32), .ref 143] m _
  refine w_cv (H.t rfl) (pc' := 19) (L' := [(0, .ref 143), (1, .ref 17), (2, .int (1 : Int32))]) (rest := []) (Ps := [.int (115 : Int32)]) (L0 := [(0, .ref 143), (1, .int (115 : Int32))]) h_m235 (z_at.mk 3 rfl rfl) (Or.inl ⟨rfl, rfl⟩) rfl rfl (by decide) (by decide) rfl rfl rfl rfl rfl rfl (by decide) rfl rfl rfl ?_
  refine w_p h_m234 1 (pc' := 1) (L' := [(0, .ref 143), (1, .int (115 : Int32))]) (st' := [.ref 143]) rfl ?_
  refine w_gf H (pc' := 4) (L' := [(0, .ref 143), (1, .int (115 : Int32))]) h_m234 (z_at.mk 3 rfl rfl) rfl (u := .ref 163) rfl rfl rfl ?_
  refine w_p h_m234 1 (pc' := 5) (L' := [(0, .ref 143), (1, .int (115 : Int32))]) (st' := [.ref 143, .ref 163]) rfl ?_
  refine w_gf H (pc' := 8) (L' := [(0, .ref 143), (1, .int (115 : Int32))]) h_m234 (z_at.mk 3 rfl rfl) rfl (u := .int (1 : Int32)) rfl rfl rfl ?_
  refine w_p h_m234 1 (pc' := 9) (L' := [(0, .ref 143), (1, .int (115 : Int32))]) (st' := [.int (115 : Int32), .int (1 : Int32), .ref 163]) rfl ?_
  refine w_as H (t := 0) (j := 1) (u := .int (115 : Int32)) (0, 40000, [(1, .int (115 : Int32)), (0, .int (97 : Int32))], some (.int (0 : Int32))) (pc' := 10) (L' := [(0, .ref 143), (1, .int (115 : Int32))]) h_m234 (z_at.mk 1 rfl rfl) rfl rfl (w_ui _ _ (by decide)) rfl rfl rfl rfl ?_
  clear H m; intro m H
  refine w_p h_m234 2 (pc' := 12) (L' := [(0, .ref 143), (1, .int (115 : Int32))]) (st' := [.ref 143, .ref 143]) rfl ?_
  refine w_gf H (pc' := 15) (L' := [(0, .ref 143), (1, .int (115 : Int32))]) h_m234 (z_at.mk 3 rfl rfl) rfl (u := .int (1 : Int32)) rfl rfl rfl ?_
  refine w_p h_m234 2 (pc' := 17) (L' := [(0, .ref 143), (1, .int (115 : Int32))]) (st' := [.int (2 : Int32), .ref 143]) rfl ?_
  refine w_pf H (22, 35, [(29, .int (2 : Int32)), (10, .int (1 : Int32)), (34, .ref 167), (33, .ref 166), (31, .ref 165), (30, .ref 164), (28, .ref 163), (26, .ref 162), (25, .ref 161), (24, .ref 160), (19, .ref 159), (18, .ref 158), (17, .ref 157), (16, .ref 156), (13, .ref 155), (12, .ref 154), (11, .ref 153), (9, .ref 152), (8, .ref 151), (7, .ref 150), (5, .ref 149), (4, .ref 148), (3, .ref 147), (2, .ref 146), (1, .ref 145), (0, .ref 144), (6, .int (0 : Int32)), (14, .int (0 : Int32)), (15, .int (0 : Int32)), (20, .int (0 : Int32)), (21, .int (0 : Int32)), (22, .int (0 : Int32)), (23, .int (0 : Int32)), (27, .int (0 : Int32)), (32, .int (0 : Int32))], none) (pc' := 20) (L' := [(0, .ref 143), (1, .int (115 : Int32))]) h_m234 (z_at.mk 3 rfl rfl) rfl (by decide) rfl (Or.inl rfl) rfl rfl rfl ?_
  clear H m; intro m H
  refine w_rv h_m234 (z_at.mk 1 rfl rfl) rfl ?_
  show z_W 998 235 19 [(0, .ref 143), (1, .ref 17), (2, .int (1 : Int32))] [] m _
  refine w_p h_m235 4 (pc' := 4) (L' := [(0, .ref 143), (1, .ref 17), (2, .int (2 : Int32))]) (st' := [.ref 17, .int (2 : Int32)]) rfl ?_
  refine w_cv (H.te (by decide) rfl).1 (pc' := 7) (L' := [(0, .ref 143), (1, .ref 17), (2, .int (2 : Int32))]) (rest := [.int (2 : Int32)]) (Ps := []) (L0 := [(0, .ref 17)]) h_m235 (z_at.mk 3 rfl rfl) (Or.inl ⟨rfl, rfl⟩) rfl rfl (by decide) (by decide) rfl rfl rfl rfl rfl rfl (by decide) rfl rfl rfl ?_
  refine w_p h_m293 1 (pc' := 1) (L' := [(0, .ref 17)]) (st' := [.ref 17]) rfl ?_
  refine w_gs H (pc' := 4) (L' := [(0, .ref 17)]) h_m293 (z_at.mk 3 rfl rfl) rfl (by decide) rfl rfl rfl rfl ?_
  refine w_lene H (x := (4 : Int32)) (pc' := 5) (L' := [(0, .ref 17)]) h_m293 (z_at.mk 1 rfl rfl) (by decide) rfl (by decide) rfl rfl rfl ?_
  refine w_p h_m293 1 (pc' := 6) (L' := [(0, .ref 17)]) (st' := [.ref 17, .int (4 : Int32)]) rfl ?_
  refine w_cv (H.te (by decide) rfl).1 (pc' := 9) (L' := [(0, .ref 17)]) (rest := [.int (4 : Int32)]) (Ps := []) (L0 := [(0, .ref 17)]) h_m293 (z_at.mk 3 rfl rfl) (Or.inl ⟨rfl, rfl⟩) rfl rfl (by decide) (by decide) rfl rfl rfl rfl rfl rfl (by decide) rfl rfl rfl ?_
  refine w_p h_m298 3 (pc' := 7) (L' := [(0, .ref 17)]) (st' := [.ref 17]) rfl ?_
  refine w_gs H (pc' := 10) (L' := [(0, .ref 17)]) h_m298 (z_at.mk 3 rfl rfl) rfl (by decide) rfl rfl rfl rfl ?_
  refine w_p h_m298 1 (pc' := 14) (L' := []) (st' := [.int (0 : Int32)]) rfl ?_
  refine w_ri h_m298 (z_at.mk 1 rfl rfl) rfl rfl ?_
  show z_W 997 293 9 [(0, .ref 17)] [.int (0 : Int32), .int (4 : Int32)] m _
  refine w_p h_m293 1 (pc' := 10) (L' := [(0, .ref 17)]) (st' := [.int (4 : Int32)]) rfl ?_
  refine w_ri h_m293 (z_at.mk 1 rfl rfl) rfl rfl ?_
  show z_W 998 235 7 [(0, .ref 143), (1, .ref 17), (2, .int (2 : Int32))] [.int (4 : Int32), .int (2 : Int32)] m _
  refine w_p h_m235 4 (pc' := 13) (L' := [(0, .ref 143), (1, .ref 17), (2, .int (2 : Int32))]) (st' := [.int (2 : Int32), .ref 17, .ref 143]) rfl ?_
  refine w_cv (H.te (by decide) rfl).1 (pc' := 16) (L' := [(0, .ref 143), (1, .ref 17), (2, .int (2 : Int32))]) (rest := [.ref 143]) (Ps := [.int (2 : Int32)]) (L0 := [(0, .ref 17), (1, .int (2 : Int32))]) h_m235 (z_at.mk 3 rfl rfl) (Or.inl ⟨rfl, rfl⟩) rfl rfl (by decide) (by decide) rfl rfl rfl rfl rfl rfl (by decide) rfl rfl rfl ?_
  refine w_p h_m294 1 (pc' := 1) (L' := [(0, .ref 17), (1, .int (2 : Int32))]) (st' := [.ref 17]) rfl ?_
  refine w_cv (H.te (by decide) rfl).1 (pc' := 4) (L' := [(0, .ref 17), (1, .int (2 : Int32))]) (rest := []) (Ps := []) (L0 := [(0, .ref 17)]) h_m294 (z_at.mk 3 rfl rfl) (Or.inl ⟨rfl, rfl⟩) rfl rfl (by decide) (by decide) rfl rfl rfl rfl rfl rfl (by decide) rfl rfl rfl ?_
  refine w_p h_m299 3 (pc' := 7) (L' := [(0, .ref 17)]) (st' := [.ref 17]) rfl ?_
  refine w_gs H (pc' := 10) (L' := [(0, .ref 17)]) h_m299 (z_at.mk 3 rfl rfl) rfl (by decide) rfl rfl rfl rfl ?_
  refine w_p h_m299 3 (pc' := 18) (L' := []) (st' := [.int (1 : Int32)]) rfl ?_
  refine w_ri h_m299 (z_at.mk 1 rfl rfl) rfl rfl ?_
  show z_W 997 294 4 [(0, .ref 17), (1, .int (2 : Int32))] [.int (1 : Int32)] m _
  refine w_p h_m294 2 (pc' := 8) (L' := [(0, .ref 17), (1, .int (2 : Int32))]) (st' := [.ref 17]) rfl ?_
  refine w_gs H (pc' := 11) (L' := [(0, .ref 17), (1, .int (2 : Int32))]) h_m294 (z_at.mk 3 rfl rfl) rfl (by decide) rfl rfl rfl rfl ?_
  refine w_p h_m294 1 (pc' := 12) (L' := [(0, .ref 17), (1, .int (2 : Int32))]) (st' := [.int (2 : Int32), .ref 35]) rfl ?_
  refine w_cs (As := [.ref 35, .int (2 : Int32)]) (rest := []) (j := 308) (L0 := [(0, .ref 35), (1, .int (2 : Int32))]) (pc' := 15) (L' := [(0, .ref 17), (1, .int (2 : Int32))]) h_m294 (z_at.mk 3 rfl rfl) (Or.inl ⟨rfl, rfl⟩) rfl rfl rfl rfl rfl ?_
  refine w_p h_m308 2 (pc' := 2) (L' := [(0, .ref 35), (1, .int (2 : Int32))]) (st' := [.ref 35, .int (2 : Int32)]) rfl ?_
  refine w_lene H (x := (4 : Int32)) (pc' := 3) (L' := [(0, .ref 35), (1, .int (2 : Int32))]) h_m308 (z_at.mk 1 rfl rfl) (by decide) rfl (by decide) rfl rfl rfl ?_
  refine w_ci (pc' := 6) (L' := [(0, .ref 35), (1, .int (2 : Int32))]) h_m308 (z_at.mk 3 rfl rfl) rfl (z_cat_le 0 rfl (by decide)) ⟨by decide, by decide⟩ rfl rfl ?_
  refine w_p h_m308 2 (pc' := 8) (L' := [(0, .ref 35), (1, .int (2 : Int32))]) (st' := [.int (2 : Int32), .ref 35]) rfl ?_
  refine w_ae H (j := 2) (pc' := 9) (L' := [(0, .ref 35), (1, .int (2 : Int32))]) h_m308 (z_at.mk 1 rfl rfl) rfl rfl rfl (by decide) rfl (by decide) rfl rfl rfl ?_
  refine w_p h_m308 3 (pc' := 14) (L' := [(0, .ref 35), (1, .int (2 : Int32))]) (st' := [.int (107 : Int32)]) rfl ?_
  refine w_ri h_m308 (z_at.mk 1 rfl rfl) rfl rfl ?_
  show z_W 997 294 15 [(0, .ref 17), (1, .int (2 : Int32))] [.int (107 : Int32)] m _
  refine w_ri h_m294 (z_at.mk 1 rfl rfl) rfl rfl ?_
  show z_W 998 235 16 [(0, .ref 143), (1, .ref 17), (2, .int (2 : Int32))] [.int (107 : Int32), .ref 143] m _
  refine w_cv (H.t rfl) (pc' := 19) (L' := [(0, .ref 143), (1, .ref 17), (2, .int (2 : Int32))]) (rest := []) (Ps := [.int (107 : Int32)]) (L0 := [(0, .ref 143), (1, .int (107 : Int32))]) h_m235 (z_at.mk 3 rfl rfl) (Or.inl ⟨rfl, rfl⟩) rfl rfl (by decide) (by decide) rfl rfl rfl rfl rfl rfl (by decide) rfl rfl rfl ?_
  refine w_p h_m234 1 (pc' := 1) (L' := [(0, .ref 143), (1, .int (107 : Int32))]) (st' := [.ref 143]) rfl ?_
  refine w_gf H (pc' := 4) (L' := [(0, .ref 143), (1, .int (107 : Int32))]) h_m234 (z_at.mk 3 rfl rfl) rfl (u := .ref 163) rfl rfl rfl ?_
  refine w_p h_m234 1 (pc' := 5) (L' := [(0, .ref 143), (1, .int (107 : Int32))]) (st' := [.ref 143, .ref 163]) rfl ?_
  refine w_gf H (pc' := 8) (L' := [(0, .ref 143), (1, .int (107 : Int32))]) h_m234 (z_at.mk 3 rfl rfl) rfl (u := .int (2 : Int32)) rfl rfl rfl ?_
  refine w_p h_m234 1 (pc' := 9) (L' := [(0, .ref 143), (1, .int (107 : Int32))]) (st' := [.int (107 : Int32), .int (2 : Int32), .ref 163]) rfl ?_
  refine w_as H (t := 0) (j := 2) (u := .int (107 : Int32)) (0, 40000, [(2, .int (107 : Int32)), (1, .int (115 : Int32)), (0, .int (97 : Int32))], some (.int (0 : Int32))) (pc' := 10) (L' := [(0, .ref 143), (1, .int (107 : Int32))]) h_m234 (z_at.mk 1 rfl rfl) rfl rfl (w_ui _ _ (by decide)) rfl rfl rfl rfl ?_
  clear H m; intro m H
  refine w_p h_m234 2 (pc' := 12) (L' := [(0, .ref 143), (1, .int (107 : Int32))]) (st' := [.ref 143, .ref 143]) rfl ?_
  refine w_gf H (pc' := 15) (L' := [(0, .ref 143), (1, .int (107 : Int32))]) h_m234 (z_at.mk 3 rfl rfl) rfl (u := .int (2 : Int32)) rfl rfl rfl ?_
  refine w_p h_m234 2 (pc' := 17) (L' := [(0, .ref 143), (1, .int (107 : Int32))]) (st' := [.int (3 : Int32), .ref 143]) rfl ?_
  refine w_pf H (22, 35, [(29, .int (3 : Int32)), (10, .int (1 : Int32)), (34, .ref 167), (33, .ref 166), (31, .ref 165), (30, .ref 164), (28, .ref 163), (26, .ref 162), (25, .ref 161), (24, .ref 160), (19, .ref 159), (18, .ref 158), (17, .ref 157), (16, .ref 156), (13, .ref 155), (12, .ref 154), (11, .ref 153), (9, .ref 152), (8, .ref 151), (7, .ref 150), (5, .ref 149), (4, .ref 148), (3, .ref 147), (2, .ref 146), (1, .ref 145), (0, .ref 144), (6, .int (0 : Int32)), (14, .int (0 : Int32)), (15, .int (0 : Int32)), (20, .int (0 : Int32)), (21, .int (0 : Int32)), (22, .int (0 : Int32)), (23, .int (0 : Int32)), (27, .int (0 : Int32)), (32, .int (0 : Int32))], none) (pc' := 20) (L' := [(0, .ref 143), (1, .int (107 : Int32))]) h_m234 (z_at.mk 3 rfl rfl) rfl (by decide) rfl (Or.inl rfl) rfl rfl rfl ?_
  clear H m; intro m H
  refine w_rv h_m234 (z_at.mk 1 rfl rfl) rfl ?_
  show z_W 998 235 19 [(0, .ref 143), (1, .ref 17), (2, .int (2 : Int32))] [] m _
  refine w_p h_m235 4 (pc' := 4) (L' := [(0, .ref 143), (1, .ref 17), (2, .int (3 : Int32))]) (st' := [.ref 17, .int (3 : Int32)]) rfl ?_
  refine w_cv (H.te (by decide) rfl).1 (pc' := 7) (L' := [(0, .ref 143), (1, .ref 17), (2, .int (3 : Int32))]) (rest := [.int (3 : Int32)]) (Ps := []) (L0 := [(0, .ref 17)]) h_m235 (z_at.mk 3 rfl rfl) (Or.inl ⟨rfl, rfl⟩) rfl rfl (by decide) (by decide) rfl rfl rfl rfl rfl rfl (by decide) rfl rfl rfl ?_
  refine w_p h_m293 1 (pc' := 1) (L' := [(0, .ref 17)]) (st' := [.ref 17]) rfl ?_
  refine w_gs H (pc' := 4) (L' := [(0, .ref 17)]) h_m293 (z_at.mk 3 rfl rfl) rfl (by decide) rfl rfl rfl rfl ?_
  refine w_lene H (x := (4 : Int32)) (pc' := 5) (L' := [(0, .ref 17)]) h_m293 (z_at.mk 1 rfl rfl) (by decide) rfl (by decide) rfl rfl rfl ?_
  refine w_p h_m293 1 (pc' := 6) (L' := [(0, .ref 17)]) (st' := [.ref 17, .int (4 : Int32)]) rfl ?_
  refine w_cv (H.te (by decide) rfl).1 (pc' := 9) (L' := [(0, .ref 17)]) (rest := [.int (4 : Int32)]) (Ps := []) (L0 := [(0, .ref 17)]) h_m293 (z_at.mk 3 rfl rfl) (Or.inl ⟨rfl, rfl⟩) rfl rfl (by decide) (by decide) rfl rfl rfl rfl rfl rfl (by decide) rfl rfl rfl ?_
  refine w_p h_m298 3 (pc' := 7) (L' := [(0, .ref 17)]) (st' := [.ref 17]) rfl ?_
  refine w_gs H (pc' := 10) (L' := [(0, .ref 17)]) h_m298 (z_at.mk 3 rfl rfl) rfl (by decide) rfl rfl rfl rfl ?_
  refine w_p h_m298 1 (pc' := 14) (L' := []) (st' := [.int (0 : Int32)]) rfl ?_
  refine w_ri h_m298 (z_at.mk 1 rfl rfl) rfl rfl ?_
  show z_W 997 293 9 [(0, .ref 17)] [.int (0 : Int32), .int (4 : Int32)] m _
  refine w_p h_m293 1 (pc' := 10) (L' := [(0, .ref 17)]) (st' := [.int (4 : Int32)]) rfl ?_
  refine w_ri h_m293 (z_at.mk 1 rfl rfl) rfl rfl ?_
  show z_W 998 235 7 [(0, .ref 143), (1, .ref 17), (2, .int (3 : Int32))] [.int (4 : Int32), .int (3 : Int32)] m _
  refine w_p h_m235 4 (pc' := 13) (L' := [(0, .ref 143), (1, .ref 17), (2, .int (3 : Int32))]) (st' := [.int (3 : Int32), .ref 17, .ref 143]) rfl ?_
  refine w_cv (H.te (by decide) rfl).1 (pc' := 16) (L' := [(0, .ref 143), (1, .ref 17), (2, .int (3 : Int32))]) (rest := [.ref 143]) (Ps := [.int (3 : Int32)]) (L0 := [(0, .ref 17), (1, .int (3 : Int32))]) h_m235 (z_at.mk 3 rfl rfl) (Or.inl ⟨rfl, rfl⟩) rfl rfl (by decide) (by decide) rfl rfl rfl rfl rfl rfl (by decide) rfl rfl rfl ?_
  refine w_p h_m294 1 (pc' := 1) (L' := [(0, .ref 17), (1, .int (3 : Int32))]) (st' := [.ref 17]) rfl ?_
  refine w_cv (H.te (by decide) rfl).1 (pc' := 4) (L' := [(0, .ref 17), (1, .int (3 : Int32))]) (rest := []) (Ps := []) (L0 := [(0, .ref 17)]) h_m294 (z_at.mk 3 rfl rfl) (Or.inl ⟨rfl, rfl⟩) rfl rfl (by decide) (by decide) rfl rfl rfl rfl rfl rfl (by decide) rfl rfl rfl ?_
  refine w_p h_m299 3 (pc' := 7) (L' := [(0, .ref 17)]) (st' := [.ref 17]) rfl ?_
  refine w_gs H (pc' := 10) (L' := [(0, .ref 17)]) h_m299 (z_at.mk 3 rfl rfl) rfl (by decide) rfl rfl rfl rfl ?_
  refine w_p h_m299 3 (pc' := 18) (L' := []) (st' := [.int (1 : Int32)]) rfl ?_
  refine w_ri h_m299 (z_at.mk 1 rfl rfl) rfl rfl ?_
  show z_W 997 294 4 [(0, .ref 17), (1, .int (3 : Int32))] [.int (1 : Int32)] m _
  refine w_p h_m294 2 (pc' := 8) (L' := [(0, .ref 17), (1, .int (3 : Int32))]) (st' := [.ref 17]) rfl ?_
  refine w_gs H (pc' := 11) (L' := [(0, .ref 17), (1, .int (3 : Int32))]) h_m294 (z_at.mk 3 rfl rfl) rfl (by decide) rfl rfl rfl rfl ?_
  refine w_p h_m294 1 (pc' := 12) (L' := [(0, .ref 17), (1, .int (3 : Int32))]) (st' := [.int (3 : Int32), .ref 35]) rfl ?_
  refine w_cs (As := [.ref 35, .int (3 : Int32)]) (rest := []) (j := 308) (L0 := [(0, .ref 35), (1, .int (3 : Int32))]) (pc' := 15) (L' := [(0, .ref 17), (1, .int (3 : Int32))]) h_m294 (z_at.mk 3 rfl rfl) (Or.inl ⟨rfl, rfl⟩) rfl rfl rfl rfl rfl ?_
  refine w_p h_m308 2 (pc' := 2) (L' := [(0, .ref 35), (1, .int (3 : Int32))]) (st' := [.ref 35, .int (3 : Int32)]) rfl ?_
  refine w_lene H (x := (4 : Int32)) (pc' := 3) (L' := [(0, .ref 35), (1, .int (3 : Int32))]) h_m308 (z_at.mk 1 rfl rfl) (by decide) rfl (by decide) rfl rfl rfl ?_
  refine w_ci (pc' := 6) (L' := [(0, .ref 35), (1, .int (3 : Int32))]) h_m308 (z_at.mk 3 rfl rfl) rfl (z_cat_le 0 rfl (by decide)) ⟨by decide, by decide⟩ rfl rfl ?_
  refine w_p h_m308 2 (pc' := 8) (L' := [(0, .ref 35), (1, .int (3 : Int32))]) (st' := [.int (3 : Int32), .ref 35]) rfl ?_
  refine w_ae H (j := 3) (pc' := 9) (L' := [(0, .ref 35), (1, .int (3 : Int32))]) h_m308 (z_at.mk 1 rfl rfl) rfl rfl rfl (by decide) rfl (by decide) rfl rfl rfl ?_
  refine w_p h_m308 3 (pc' := 14) (L' := [(0, .ref 35), (1, .int (3 : Int32))]) (st' := [.int (32 : Int32)]) rfl ?_
  refine w_ri h_m308 (z_at.mk 1 rfl rfl) rfl rfl ?_
  show z_W 997 294 15 [(0, .ref 17), (1, .int (3 : Int32))] [.int (32 : Int32)] m _
  refine w_ri h_m294 (z_at.mk 1 rfl rfl) rfl rfl ?_
  show z_W 998 235 16 [(0, .ref 143), (1, .ref 17), (2, .int (3 : Int32))] [.int (32 : Int32), .ref 143] m _
  refine w_cv (H.t rfl) (pc' := 19) (L' := [(0, .ref 143), (1, .ref 17), (2, .int (3 : Int32))]) (rest := []) (Ps := [.int (32 : Int32)]) (L0 := [(0, .ref 143), (1, .int (32 : Int32))]) h_m235 (z_at.mk 3 rfl rfl) (Or.inl ⟨rfl, rfl⟩) rfl rfl (by decide) (by decide) rfl rfl rfl rfl rfl rfl (by decide) rfl rfl rfl ?_
  refine w_p h_m234 1 (pc' := 1) (L' := [(0, .ref 143), (1, .int (32 : Int32))]) (st' := [.ref 143]) rfl ?_
  refine w_gf H (pc' := 4) (L' := [(0, .ref 143), (1, .int (32 : Int32))]) h_m234 (z_at.mk 3 rfl rfl) rfl (u := .ref 163) rfl rfl rfl ?_
  refine w_p h_m234 1 (pc' := 5) (L' := [(0, .ref 143), (1, .int (32 : Int32))]) (st' := [.ref 143, .ref 163]) rfl ?_
  refine w_gf H (pc' := 8) (L' := [(0, .ref 143), (1, .int (32 : Int32))]) h_m234 (z_at.mk 3 rfl rfl) rfl (u := .int (3 : Int32)) rfl rfl rfl ?_
  refine w_p h_m234 1 (pc' := 9) (L' := [(0, .ref 143), (1, .int (32 : Int32))]) (st' := [.int (32 : Int32), .int (3 : Int32), .ref 163]) rfl ?_
  refine w_as H (t := 0) (j := 3) (u := .int (32 : Int32)) (0, 40000, [(3, .int (32 : Int32)), (2, .int (107 : Int32)), (1, .int (115 : Int32)), (0, .int (97 : Int32))], some (.int (0 : Int32))) (pc' := 10) (L' := [(0, .ref 143), (1, .int (32 : Int32))]) h_m234 (z_at.mk 1 rfl rfl) rfl rfl (w_ui _ _ (by decide)) rfl rfl rfl rfl ?_
  clear H m; intro m H
  refine w_p h_m234 2 (pc' := 12) (L' := [(0, .ref 143), (1, .int (32 : Int32))]) (st' := [.ref 143, .ref 143]) rfl ?_
  refine w_gf H (pc' := 15) (L' := [(0, .ref 143), (1, .int (32 : Int32))]) h_m234 (z_at.mk 3 rfl rfl) rfl (u := .int (3 : Int32)) rfl rfl rfl ?_
  refine w_p h_m234 2 (pc' := 17) (L' := [(0, .ref 143), (1, .int (32 : Int32))]) (st' := [.int (4 : Int32), .ref 143]) rfl ?_
  refine w_pf H (22, 35, [(29, .int (4 : Int32)), (10, .int (1 : Int32)), (34, .ref 167), (33, .ref 166), (31, .ref 165), (30, .ref 164), (28, .ref 163), (26, .ref 162), (25, .ref 161), (24, .ref 160), (19, .ref 159), (18, .ref 158), (17, .ref 157), (16, .ref 156), (13, .ref 155), (12, .ref 154), (11, .ref 153), (9, .ref 152), (8, .ref 151), (7, .ref 150), (5, .ref 149), (4, .ref 148), (3, .ref 147), (2, .ref 146), (1, .ref 145), (0, .ref 144), (6, .int (0 : Int32)), (14, .int (0 : Int32)), (15, .int (0 : Int32)), (20, .int (0 : Int32)), (21, .int (0 : Int32)), (22, .int (0 : Int32)), (23, .int (0 : Int32)), (27, .int (0 : Int32)), (32, .int (0 : Int32))], none) (pc' := 20) (L' := [(0, .ref 143), (1, .int (32 : Int32))]) h_m234 (z_at.mk 3 rfl rfl) rfl (by decide) rfl (Or.inl rfl) rfl rfl rfl ?_
  clear H m; intro m H
  refine w_rv h_m234 (z_at.mk 1 rfl rfl) rfl ?_
  show z_W 998 235 19 [(0, .ref 143), (1, .ref 17), (2, .int (3 : Int32))] [] m _
  refine w_p h_m235 4 (pc' := 4) (L' := [(0, .ref 143), (1, .ref 17), (2, .int (4 : Int32))]) (st' := [.ref 17, .int (4 : Int32)]) rfl ?_
  refine w_cv (H.te (by decide) rfl).1 (pc' := 7) (L' := [(0, .ref 143), (1, .ref 17), (2, .int (4 : Int32))]) (rest := [.int (4 : Int32)]) (Ps := []) (L0 := [(0, .ref 17)]) h_m235 (z_at.mk 3 rfl rfl) (Or.inl ⟨rfl, rfl⟩) rfl rfl (by decide) (by decide) rfl rfl rfl rfl rfl rfl (by decide) rfl rfl rfl ?_
  refine w_p h_m293 1 (pc' := 1) (L' := [(0, .ref 17)]) (st' := [.ref 17]) rfl ?_
  refine w_gs H (pc' := 4) (L' := [(0, .ref 17)]) h_m293 (z_at.mk 3 rfl rfl) rfl (by decide) rfl rfl rfl rfl ?_
  refine w_lene H (x := (4 : Int32)) (pc' := 5) (L' := [(0, .ref 17)]) h_m293 (z_at.mk 1 rfl rfl) (by decide) rfl (by decide) rfl rfl rfl ?_
  refine w_p h_m293 1 (pc' := 6) (L' := [(0, .ref 17)]) (st' := [.ref 17, .int (4 : Int32)]) rfl ?_
  refine w_cv (H.te (by decide) rfl).1 (pc' := 9) (L' := [(0, .ref 17)]) (rest := [.int (4 : Int32)]) (Ps := []) (L0 := [(0, .ref 17)]) h_m293 (z_at.mk 3 rfl rfl) (Or.inl ⟨rfl, rfl⟩) rfl rfl (by decide) (by decide) rfl rfl rfl rfl rfl rfl (by decide) rfl rfl rfl ?_
  refine w_p h_m298 3 (pc' := 7) (L' := [(0, .ref 17)]) (st' := [.ref 17]) rfl ?_
  refine w_gs H (pc' := 10) (L' := [(0, .ref 17)]) h_m298 (z_at.mk 3 rfl rfl) rfl (by decide) rfl rfl rfl rfl ?_
  refine w_p h_m298 1 (pc' := 14) (L' := []) (st' := [.int (0 : Int32)]) rfl ?_
  refine w_ri h_m298 (z_at.mk 1 rfl rfl) rfl rfl ?_
  show z_W 997 293 9 [(0, .ref 17)] [.int (0 : Int32), .int (4 : Int32)] m _
  refine w_p h_m293 1 (pc' := 10) (L' := [(0, .ref 17)]) (st' := [.int (4 : Int32)]) rfl ?_
  refine w_ri h_m293 (z_at.mk 1 rfl rfl) rfl rfl ?_
  show z_W 998 235 7 [(0, .ref 143), (1, .ref 17), (2, .int (4 : Int32))] [.int (4 : Int32), .int (4 : Int32)] m _
  refine w_p h_m235 1 (pc' := 25) (L' := [(0, .ref 143), (1, .ref 17), (2, .int (4 : Int32))]) (st' := []) rfl ?_
  refine w_rv h_m235 (z_at.mk 1 rfl rfl) rfl ?_
  show z_W 999 239 168 [(0, .ref 143), (5, .int (0 : Int32)), (6, .int (0 : Int32))] [] m _
  refine w_p h_m239 2 (pc' := 170) (L' := [(0, .ref 143), (5, .int (0 : Int32)), (6, .int (0 : Int32))]) (st' := [.ref 143, .ref 143]) rfl ?_
  refine w_gf H (pc' := 173) (L' := [(0, .ref 143), (5, .int (0 : Int32)), (6, .int (0 : Int32))]) h_m239 (z_at.mk 3 rfl rfl) rfl (u := .ref 150) rfl rfl rfl ?_
  refine w_p h_m239 3 (pc' := 177) (L' := [(0, .ref 143), (5, .int (0 : Int32)), (6, .int (0 : Int32))]) (st' := [.int (0 : Int32), .ref 150, .ref 143]) rfl ?_
  refine w_cv (H.t rfl) (pc' := 180) (L' := [(0, .ref 143), (5, .int (0 : Int32)), (6, .int (0 : Int32))]) (rest := []) (Ps := [.ref 150, .int (0 : Int32)]) (L0 := [(0, .ref 143), (1, .ref 150), (2, .int (0 : Int32))]) h_m239 (z_at.mk 3 rfl rfl) (Or.inl ⟨rfl, rfl⟩) rfl rfl (by decide) (by decide) rfl rfl rfl rfl rfl rfl (by decide) rfl rfl rfl ?_
  refine w_p h_m237 3 (pc' := 3) (L' := [(0, .ref 143), (1, .ref 150), (2, .int (0 : Int32))]) (st' := [.int (0 : Int32), .ref 150, .ref 143]) rfl ?_
  refine w_al H (t := 0) (j := 0) (pc' := 4) (L' := [(0, .ref 143), (1, .ref 150), (2, .int (0 : Int32))]) h_m237 (z_at.mk 1 rfl rfl) rfl rfl rfl (u := .int (xs 1)) rfl rfl rfl ?_
  refine w_cv (H.t rfl) (pc' := 7) (L' := [(0, .ref 143), (1, .ref 150), (2, .int (0 : Int32))]) (rest := []) (Ps := [.int (xs 1)]) (L0 := [(0, .ref 143), (1, .int (xs 1))]) h_m237 (z_at.mk 3 rfl rfl) (Or.inl ⟨rfl, rfl⟩) rfl rfl (by decide) (by decide) rfl rfl rfl rfl rfl rfl (by decide) rfl rfl rfl ?_
  refine w_p h_m236 2 (pc' := 3) (L' := [(0, .ref 143), (1, .int (xs 1))]) (st' := [.int (9 : Int32), .int (xs 1)]) rfl ?_
  refine w_f2 (pc' := 6) (L' := [(0, .ref 143), (1, .int (xs 1))]) h_m236 (z_at.mk 3 rfl rfl) rfl (zc (a := (xs 1).toInt) (b := 9) rfl rfl (decide_eq_false (by omega))) rfl rfl ?_
  refine w_p h_m236 4 (pc' := 11) (L' := [(0, .ref 143), (1, .int (xs 1))]) (st' := [.int ((xs 1) / (10 : Int32)), .ref 143]) rfl ?_
  have k_21 := zi_div (x := xs 1) (y := (10 : Int32)) (a := (xs 1).toInt) (b := 10) rfl rfl (by omega) (by omega)
  refine w_cv (H.t rfl) (pc' := 14) (L' := [(0, .ref 143), (1, .int (xs 1))]) (rest := []) (Ps := [.int ((xs 1) / (10 : Int32))]) (L0 := [(0, .ref 143), (1, .int ((xs 1) / (10 : Int32)))]) h_m236 (z_at.mk 3 rfl rfl) (Or.inl ⟨rfl, rfl⟩) rfl rfl (by decide) (by decide) rfl rfl rfl rfl rfl rfl (by decide) rfl rfl rfl ?_
  refine w_p h_m236 2 (pc' := 3) (L' := [(0, .ref 143), (1, .int ((xs 1) / (10 : Int32)))]) (st' := [.int (9 : Int32), .int ((xs 1) / (10 : Int32))]) rfl ?_
  refine w_t2 (pc' := 14) (L' := [(0, .ref 143), (1, .int ((xs 1) / (10 : Int32)))]) h_m236 (z_at.mk 3 rfl rfl) rfl (zc (a := ((xs 1) / (10 : Int32)).toInt) (b := 9) rfl rfl (decide_eq_true (by omega))) rfl rfl ?_
  refine w_p h_m236 6 (pc' := 22) (L' := [(0, .ref 143), (1, .int ((xs 1) / (10 : Int32)))]) (st' := [.int ((48 : Int32) + (((xs 1) / (10 : Int32)) - ((xs 1) / (10 : Int32)) / (10 : Int32) * (10 : Int32))), .ref 143]) rfl ?_
  refine w_cv (H.t rfl) (pc' := 25) (L' := [(0, .ref 143), (1, .int ((xs 1) / (10 : Int32)))]) (rest := []) (Ps := [.int ((48 : Int32) + (((xs 1) / (10 : Int32)) - ((xs 1) / (10 : Int32)) / (10 : Int32) * (10 : Int32)))]) (L0 := [(0, .ref 143), (1, .int ((48 : Int32) + (((xs 1) / (10 : Int32)) - ((xs 1) / (10 : Int32)) / (10 : Int32) * (10 : Int32))))]) h_m236 (z_at.mk 3 rfl rfl) (Or.inl ⟨rfl, rfl⟩) rfl rfl (by decide) (by decide) rfl rfl rfl rfl rfl rfl (by decide) rfl rfl rfl ?_
  refine w_p h_m234 1 (pc' := 1) (L' := [(0, .ref 143), (1, .int ((48 : Int32) + (((xs 1) / (10 : Int32)) - ((xs 1) / (10 : Int32)) / (10 : Int32) * (10 : Int32))))]) (st' := [.ref 143]) rfl ?_
  refine w_gf H (pc' := 4) (L' := [(0, .ref 143), (1, .int ((48 : Int32) + (((xs 1) / (10 : Int32)) - ((xs 1) / (10 : Int32)) / (10 : Int32) * (10 : Int32))))]) h_m234 (z_at.mk 3 rfl rfl) rfl (u := .ref 163) rfl rfl rfl ?_
  refine w_p h_m234 1 (pc' := 5) (L' := [(0, .ref 143), (1, .int ((48 : Int32) + (((xs 1) / (10 : Int32)) - ((xs 1) / (10 : Int32)) / (10 : Int32) * (10 : Int32))))]) (st' := [.ref 143, .ref 163]) rfl ?_
  refine w_gf H (pc' := 8) (L' := [(0, .ref 143), (1, .int ((48 : Int32) + (((xs 1) / (10 : Int32)) - ((xs 1) / (10 : Int32)) / (10 : Int32) * (10 : Int32))))]) h_m234 (z_at.mk 3 rfl rfl) rfl (u := .int (4 : Int32)) rfl rfl rfl ?_
  refine w_p h_m234 1 (pc' := 9) (L' := [(0, .ref 143), (1, .int ((48 : Int32) + (((xs 1) / (10 : Int32)) - ((xs 1) / (10 : Int32)) / (10 : Int32) * (10 : Int32))))]) (st' := [.int ((48 : Int32) + (((xs 1) / (10 : Int32)) - ((xs 1) / (10 : Int32)) / (10 : Int32) * (10 : Int32))), .int (4 : Int32), .ref 163]) rfl ?_
  refine w_as H (t := 0) (j := 4) (u := .int ((48 : Int32) + (((xs 1) / (10 : Int32)) - ((xs 1) / (10 : Int32)) / (10 : Int32) * (10 : Int32)))) (0, 40000, [(4, .int ((48 : Int32) + (((xs 1) / (10 : Int32)) - ((xs 1) / (10 : Int32)) / (10 : Int32) * (10 : Int32)))), (3, .int (32 : Int32)), (2, .int (107 : Int32)), (1, .int (115 : Int32)), (0, .int (97 : Int32))], some (.int (0 : Int32))) (pc' := 10) (L' := [(0, .ref 143), (1, .int ((48 : Int32) + (((xs 1) / (10 : Int32)) - ((xs 1) / (10 : Int32)) / (10 : Int32) * (10 : Int32))))]) h_m234 (z_at.mk 1 rfl rfl) rfl rfl (w_ui _ _ (by decide)) rfl rfl rfl rfl ?_
  clear H m; intro m H
  refine w_p h_m234 2 (pc' := 12) (L' := [(0, .ref 143), (1, .int ((48 : Int32) + (((xs 1) / (10 : Int32)) - ((xs 1) / (10 : Int32)) / (10 : Int32) * (10 : Int32))))]) (st' := [.ref 143, .ref 143]) rfl ?_
  refine w_gf H (pc' := 15) (L' := [(0, .ref 143), (1, .int ((48 : Int32) + (((xs 1) / (10 : Int32)) - ((xs 1) / (10 : Int32)) / (10 : Int32) * (10 : Int32))))]) h_m234 (z_at.mk 3 rfl rfl) rfl (u := .int (4 : Int32)) rfl rfl rfl ?_
  refine w_p h_m234 2 (pc' := 17) (L' := [(0, .ref 143), (1, .int ((48 : Int32) + (((xs 1) / (10 : Int32)) - ((xs 1) / (10 : Int32)) / (10 : Int32) * (10 : Int32))))]) (st' := [.int (5 : Int32), .ref 143]) rfl ?_
  refine w_pf H (22, 35, [(29, .int (5 : Int32)), (10, .int (1 : Int32)), (34, .ref 167), (33, .ref 166), (31, .ref 165), (30, .ref 164), (28, .ref 163), (26, .ref 162), (25, .ref 161), (24, .ref 160), (19, .ref 159), (18, .ref 158), (17, .ref 157), (16, .ref 156), (13, .ref 155), (12, .ref 154), (11, .ref 153), (9, .ref 152), (8, .ref 151), (7, .ref 150), (5, .ref 149), (4, .ref 148), (3, .ref 147), (2, .ref 146), (1, .ref 145), (0, .ref 144), (6, .int (0 : Int32)), (14, .int (0 : Int32)), (15, .int (0 : Int32)), (20, .int (0 : Int32)), (21, .int (0 : Int32)), (22, .int (0 : Int32)), (23, .int (0 : Int32)), (27, .int (0 : Int32)), (32, .int (0 : Int32))], none) (pc' := 20) (L' := [(0, .ref 143), (1, .int ((48 : Int32) + (((xs 1) / (10 : Int32)) - ((xs 1) / (10 : Int32)) / (10 : Int32) * (10 : Int32))))]) h_m234 (z_at.mk 3 rfl rfl) rfl (by decide) rfl (Or.inl rfl) rfl rfl rfl ?_
  clear H m; intro m H
  refine w_rv h_m234 (z_at.mk 1 rfl rfl) rfl ?_
  show z_W 996 236 25 [(0, .ref 143), (1, .int ((xs 1) / (10 : Int32)))] [] m _
  refine w_rv h_m236 (z_at.mk 1 rfl rfl) rfl ?_
  show z_W 997 236 14 [(0, .ref 143), (1, .int (xs 1))] [] m _
  refine w_p h_m236 6 (pc' := 22) (L' := [(0, .ref 143), (1, .int (xs 1))]) (st' := [.int ((48 : Int32) + ((xs 1) - (xs 1) / (10 : Int32) * (10 : Int32))), .ref 143]) rfl ?_
  refine w_cv (H.t rfl) (pc' := 25) (L' := [(0, .ref 143), (1, .int (xs 1))]) (rest := []) (Ps := [.int ((48 : Int32) + ((xs 1) - (xs 1) / (10 : Int32) * (10 : Int32)))]) (L0 := [(0, .ref 143), (1, .int ((48 : Int32) + ((xs 1) - (xs 1) / (10 : Int32) * (10 : Int32))))]) h_m236 (z_at.mk 3 rfl rfl) (Or.inl ⟨rfl, rfl⟩) rfl rfl (by decide) (by decide) rfl rfl rfl rfl rfl rfl (by decide) rfl rfl rfl ?_
  refine w_p h_m234 1 (pc' := 1) (L' := [(0, .ref 143), (1, .int ((48 : Int32) + ((xs 1) - (xs 1) / (10 : Int32) * (10 : Int32))))]) (st' := [.ref 143]) rfl ?_
  refine w_gf H (pc' := 4) (L' := [(0, .ref 143), (1, .int ((48 : Int32) + ((xs 1) - (xs 1) / (10 : Int32) * (10 : Int32))))]) h_m234 (z_at.mk 3 rfl rfl) rfl (u := .ref 163) rfl rfl rfl ?_
  refine w_p h_m234 1 (pc' := 5) (L' := [(0, .ref 143), (1, .int ((48 : Int32) + ((xs 1) - (xs 1) / (10 : Int32) * (10 : Int32))))]) (st' := [.ref 143, .ref 163]) rfl ?_
  refine w_gf H (pc' := 8) (L' := [(0, .ref 143), (1, .int ((48 : Int32) + ((xs 1) - (xs 1) / (10 : Int32) * (10 : Int32))))]) h_m234 (z_at.mk 3 rfl rfl) rfl (u := .int (5 : Int32)) rfl rfl rfl ?_
  refine w_p h_m234 1 (pc' := 9) (L' := [(0, .ref 143), (1, .int ((48 : Int32) + ((xs 1) - (xs 1) / (10 : Int32) * (10 : Int32))))]) (st' := [.int ((48 : Int32) + ((xs 1) - (xs 1) / (10 : Int32) * (10 : Int32))), .int (5 : Int32), .ref 163]) rfl ?_
  refine w_as H (t := 0) (j := 5) (u := .int ((48 : Int32) + ((xs 1) - (xs 1) / (10 : Int32) * (10 : Int32)))) (0, 40000, [(5, .int ((48 : Int32) + ((xs 1) - (xs 1) / (10 : Int32) * (10 : Int32)))), (4, .int ((48 : Int32) + (((xs 1) / (10 : Int32)) - ((xs 1) / (10 : Int32)) / (10 : Int32) * (10 : Int32)))), (3, .int (32 : Int32)), (2, .int (107 : Int32)), (1, .int (115 : Int32)), (0, .int (97 : Int32))], some (.int (0 : Int32))) (pc' := 10) (L' := [(0, .ref 143), (1, .int ((48 : Int32) + ((xs 1) - (xs 1) / (10 : Int32) * (10 : Int32))))]) h_m234 (z_at.mk 1 rfl rfl) rfl rfl (w_ui _ _ (by decide)) rfl rfl rfl rfl ?_
  clear H m; intro m H
  refine w_p h_m234 2 (pc' := 12) (L' := [(0, .ref 143), (1, .int ((48 : Int32) + ((xs 1) - (xs 1) / (10 : Int32) * (10 : Int32))))]) (st' := [.ref 143, .ref 143]) rfl ?_
  refine w_gf H (pc' := 15) (L' := [(0, .ref 143), (1, .int ((48 : Int32) + ((xs 1) - (xs 1) / (10 : Int32) * (10 : Int32))))]) h_m234 (z_at.mk 3 rfl rfl) rfl (u := .int (5 : Int32)) rfl rfl rfl ?_
  refine w_p h_m234 2 (pc' := 17) (L' := [(0, .ref 143), (1, .int ((48 : Int32) + ((xs 1) - (xs 1) / (10 : Int32) * (10 : Int32))))]) (st' := [.int (6 : Int32), .ref 143]) rfl ?_
  refine w_pf H (22, 35, [(29, .int (6 : Int32)), (10, .int (1 : Int32)), (34, .ref 167), (33, .ref 166), (31, .ref 165), (30, .ref 164), (28, .ref 163), (26, .ref 162), (25, .ref 161), (24, .ref 160), (19, .ref 159), (18, .ref 158), (17, .ref 157), (16, .ref 156), (13, .ref 155), (12, .ref 154), (11, .ref 153), (9, .ref 152), (8, .ref 151), (7, .ref 150), (5, .ref 149), (4, .ref 148), (3, .ref 147), (2, .ref 146), (1, .ref 145), (0, .ref 144), (6, .int (0 : Int32)), (14, .int (0 : Int32)), (15, .int (0 : Int32)), (20, .int (0 : Int32)), (21, .int (0 : Int32)), (22, .int (0 : Int32)), (23, .int (0 : Int32)), (27, .int (0 : Int32)), (32, .int (0 : Int32))], none) (pc' := 20) (L' := [(0, .ref 143), (1, .int ((48 : Int32) + ((xs 1) - (xs 1) / (10 : Int32) * (10 : Int32))))]) h_m234 (z_at.mk 3 rfl rfl) rfl (by decide) rfl (Or.inl rfl) rfl rfl rfl ?_
  clear H m; intro m H
  refine w_rv h_m234 (z_at.mk 1 rfl rfl) rfl ?_
  show z_W 997 236 25 [(0, .ref 143), (1, .int (xs 1))] [] m _
  refine w_rv h_m236 (z_at.mk 1 rfl rfl) rfl ?_
  show z_W 998 237 7 [(0, .ref 143), (1, .ref 150), (2, .int (0 : Int32))] [] m _
  refine w_p h_m237 2 (pc' := 10) (L' := [(0, .ref 143), (1, .ref 150), (2, .int (0 : Int32))]) (st' := [.int (45 : Int32), .ref 143]) rfl ?_
  refine w_cv (H.t rfl) (pc' := 13) (L' := [(0, .ref 143), (1, .ref 150), (2, .int (0 : Int32))]) (rest := []) (Ps := [.int (45 : Int32)]) (L0 := [(0, .ref 143), (1, .int (45 : Int32))]) h_m237 (z_at.mk 3 rfl rfl) (Or.inl ⟨rfl, rfl⟩) rfl rfl (by decide) (by decide) rfl rfl rfl rfl rfl rfl (by decide) rfl rfl rfl ?_
  refine w_p h_m234 1 (pc' := 1) (L' := [(0, .ref 143), (1, .int (45 : Int32))]) (st' := [.ref 143]) rfl ?_
  refine w_gf H (pc' := 4) (L' := [(0, .ref 143), (1, .int (45 : Int32))]) h_m234 (z_at.mk 3 rfl rfl) rfl (u := .ref 163) rfl rfl rfl ?_
  refine w_p h_m234 1 (pc' := 5) (L' := [(0, .ref 143), (1, .int (45 : Int32))]) (st' := [.ref 143, .ref 163]) rfl ?_
  refine w_gf H (pc' := 8) (L' := [(0, .ref 143), (1, .int (45 : Int32))]) h_m234 (z_at.mk 3 rfl rfl) rfl (u := .int (6 : Int32)) rfl rfl rfl ?_
  refine w_p h_m234 1 (pc' := 9) (L' := [(0, .ref 143), (1, .int (45 : Int32))]) (st' := [.int (45 : Int32), .int (6 : Int32), .ref 163]) rfl ?_
  refine w_as H (t := 0) (j := 6) (u := .int (45 : Int32)) (0, 40000, [(6, .int (45 : Int32)), (5, .int ((48 : Int32) + ((xs 1) - (xs 1) / (10 : Int32) * (10 : Int32)))), (4, .int ((48 : Int32) + (((xs 1) / (10 : Int32)) - ((xs 1) / (10 : Int32)) / (10 : Int32) * (10 : Int32)))), (3, .int (32 : Int32)), (2, .int (107 : Int32)), (1, .int (115 : Int32)), (0, .int (97 : Int32))], some (.int (0 : Int32))) (pc' := 10) (L' := [(0, .ref 143), (1, .int (45 : Int32))]) h_m234 (z_at.mk 1 rfl rfl) rfl rfl (w_ui _ _ (by decide)) rfl rfl rfl rfl ?_
  clear H m; intro m H
  refine w_p h_m234 2 (pc' := 12) (L' := [(0, .ref 143), (1, .int (45 : Int32))]) (st' := [.ref 143, .ref 143]) rfl ?_
  refine w_gf H (pc' := 15) (L' := [(0, .ref 143), (1, .int (45 : Int32))]) h_m234 (z_at.mk 3 rfl rfl) rfl (u := .int (6 : Int32)) rfl rfl rfl ?_
  refine w_p h_m234 2 (pc' := 17) (L' := [(0, .ref 143), (1, .int (45 : Int32))]) (st' := [.int (7 : Int32), .ref 143]) rfl ?_
  refine w_pf H (22, 35, [(29, .int (7 : Int32)), (10, .int (1 : Int32)), (34, .ref 167), (33, .ref 166), (31, .ref 165), (30, .ref 164), (28, .ref 163), (26, .ref 162), (25, .ref 161), (24, .ref 160), (19, .ref 159), (18, .ref 158), (17, .ref 157), (16, .ref 156), (13, .ref 155), (12, .ref 154), (11, .ref 153), (9, .ref 152), (8, .ref 151), (7, .ref 150), (5, .ref 149), (4, .ref 148), (3, .ref 147), (2, .ref 146), (1, .ref 145), (0, .ref 144), (6, .int (0 : Int32)), (14, .int (0 : Int32)), (15, .int (0 : Int32)), (20, .int (0 : Int32)), (21, .int (0 : Int32)), (22, .int (0 : Int32)), (23, .int (0 : Int32)), (27, .int (0 : Int32)), (32, .int (0 : Int32))], none) (pc' := 20) (L' := [(0, .ref 143), (1, .int (45 : Int32))]) h_m234 (z_at.mk 3 rfl rfl) rfl (by decide) rfl (Or.inl rfl) rfl rfl rfl ?_
  clear H m; intro m H
  refine w_rv h_m234 (z_at.mk 1 rfl rfl) rfl ?_
  show z_W 998 237 13 [(0, .ref 143), (1, .ref 150), (2, .int (0 : Int32))] [] m _
  refine w_p h_m237 5 (pc' := 18) (L' := [(0, .ref 143), (1, .ref 150), (2, .int (0 : Int32))]) (st' := [.int (1 : Int32), .ref 150, .ref 143]) rfl ?_
  refine w_al H (t := 0) (j := 1) (pc' := 19) (L' := [(0, .ref 143), (1, .ref 150), (2, .int (0 : Int32))]) h_m237 (z_at.mk 1 rfl rfl) rfl rfl rfl (u := .int (xs 2)) rfl rfl rfl ?_
  refine w_cv (H.t rfl) (pc' := 22) (L' := [(0, .ref 143), (1, .ref 150), (2, .int (0 : Int32))]) (rest := []) (Ps := [.int (xs 2)]) (L0 := [(0, .ref 143), (1, .int (xs 2))]) h_m237 (z_at.mk 3 rfl rfl) (Or.inl ⟨rfl, rfl⟩) rfl rfl (by decide) (by decide) rfl rfl rfl rfl rfl rfl (by decide) rfl rfl rfl ?_
  refine w_p h_m236 2 (pc' := 3) (L' := [(0, .ref 143), (1, .int (xs 2))]) (st' := [.int (9 : Int32), .int (xs 2)]) rfl ?_
  refine w_f2 (pc' := 6) (L' := [(0, .ref 143), (1, .int (xs 2))]) h_m236 (z_at.mk 3 rfl rfl) rfl (zc (a := (xs 2).toInt) (b := 9) rfl rfl (decide_eq_false (by omega))) rfl rfl ?_
  refine w_p h_m236 4 (pc' := 11) (L' := [(0, .ref 143), (1, .int (xs 2))]) (st' := [.int ((xs 2) / (10 : Int32)), .ref 143]) rfl ?_
  have k_22 := zi_div (x := xs 2) (y := (10 : Int32)) (a := (xs 2).toInt) (b := 10) rfl rfl (by omega) (by omega)
  refine w_cv (H.t rfl) (pc' := 14) (L' := [(0, .ref 143), (1, .int (xs 2))]) (rest := []) (Ps := [.int ((xs 2) / (10 : Int32))]) (L0 := [(0, .ref 143), (1, .int ((xs 2) / (10 : Int32)))]) h_m236 (z_at.mk 3 rfl rfl) (Or.inl ⟨rfl, rfl⟩) rfl rfl (by decide) (by decide) rfl rfl rfl rfl rfl rfl (by decide) rfl rfl rfl ?_
  refine w_p h_m236 2 (pc' := 3) (L' := [(0, .ref 143), (1, .int ((xs 2) / (10 : Int32)))]) (st' := [.int (9 : Int32), .int ((xs 2) / (10 : Int32))]) rfl ?_
  refine w_t2 (pc' := 14) (L' := [(0, .ref 143), (1, .int ((xs 2) / (10 : Int32)))]) h_m236 (z_at.mk 3 rfl rfl) rfl (zc (a := ((xs 2) / (10 : Int32)).toInt) (b := 9) rfl rfl (decide_eq_true (by omega))) rfl rfl ?_
  refine w_p h_m236 6 (pc' := 22) (L' := [(0, .ref 143), (1, .int ((xs 2) / (10 : Int32)))]) (st' := [.int ((48 : Int32) + (((xs 2) / (10 : Int32)) - ((xs 2) / (10 : Int32)) / (10 : Int32) * (10 : Int32))), .ref 143]) rfl ?_
  refine w_cv (H.t rfl) (pc' := 25) (L' := [(0, .ref 143), (1, .int ((xs 2) / (10 : Int32)))]) (rest := []) (Ps := [.int ((48 : Int32) + (((xs 2) / (10 : Int32)) - ((xs 2) / (10 : Int32)) / (10 : Int32) * (10 : Int32)))]) (L0 := [(0, .ref 143), (1, .int ((48 : Int32) + (((xs 2) / (10 : Int32)) - ((xs 2) / (10 : Int32)) / (10 : Int32) * (10 : Int32))))]) h_m236 (z_at.mk 3 rfl rfl) (Or.inl ⟨rfl, rfl⟩) rfl rfl (by decide) (by decide) rfl rfl rfl rfl rfl rfl (by decide) rfl rfl rfl ?_
  refine w_p h_m234 1 (pc' := 1) (L' := [(0, .ref 143), (1, .int ((48 : Int32) + (((xs 2) / (10 : Int32)) - ((xs 2) / (10 : Int32)) / (10 : Int32) * (10 : Int32))))]) (st' := [.ref 143]) rfl ?_
  refine w_gf H (pc' := 4) (L' := [(0, .ref 143), (1, .int ((48 : Int32) + (((xs 2) / (10 : Int32)) - ((xs 2) / (10 : Int32)) / (10 : Int32) * (10 : Int32))))]) h_m234 (z_at.mk 3 rfl rfl) rfl (u := .ref 163) rfl rfl rfl ?_
  refine w_p h_m234 1 (pc' := 5) (L' := [(0, .ref 143), (1, .int ((48 : Int32) + (((xs 2) / (10 : Int32)) - ((xs 2) / (10 : Int32)) / (10 : Int32) * (10 : Int32))))]) (st' := [.ref 143, .ref 163]) rfl ?_
  refine w_gf H (pc' := 8) (L' := [(0, .ref 143), (1, .int ((48 : Int32) + (((xs 2) / (10 : Int32)) - ((xs 2) / (10 : Int32)) / (10 : Int32) * (10 : Int32))))]) h_m234 (z_at.mk 3 rfl rfl) rfl (u := .int (7 : Int32)) rfl rfl rfl ?_
  refine w_p h_m234 1 (pc' := 9) (L' := [(0, .ref 143), (1, .int ((48 : Int32) + (((xs 2) / (10 : Int32)) - ((xs 2) / (10 : Int32)) / (10 : Int32) * (10 : Int32))))]) (st' := [.int ((48 : Int32) + (((xs 2) / (10 : Int32)) - ((xs 2) / (10 : Int32)) / (10 : Int32) * (10 : Int32))), .int (7 : Int32), .ref 163]) rfl ?_
  refine w_as H (t := 0) (j := 7) (u := .int ((48 : Int32) + (((xs 2) / (10 : Int32)) - ((xs 2) / (10 : Int32)) / (10 : Int32) * (10 : Int32)))) (0, 40000, [(7, .int ((48 : Int32) + (((xs 2) / (10 : Int32)) - ((xs 2) / (10 : Int32)) / (10 : Int32) * (10 : Int32)))), (6, .int (45 : Int32)), (5, .int ((48 : Int32) + ((xs 1) - (xs 1) / (10 : Int32) * (10 : Int32)))), (4, .int ((48 : Int32) + (((xs 1) / (10 : Int32)) - ((xs 1) / (10 : Int32)) / (10 : Int32) * (10 : Int32)))), (3, .int (32 : Int32)), (2, .int (107 : Int32)), (1, .int (115 : Int32)), (0, .int (97 : Int32))], some (.int (0 : Int32))) (pc' := 10) (L' := [(0, .ref 143), (1, .int ((48 : Int32) + (((xs 2) / (10 : Int32)) - ((xs 2) / (10 : Int32)) / (10 : Int32) * (10 : Int32))))]) h_m234 (z_at.mk 1 rfl rfl) rfl rfl (w_ui _ _ (by decide)) rfl rfl rfl rfl ?_
  clear H m; intro m H
  refine w_p h_m234 2 (pc' := 12) (L' := [(0, .ref 143), (1, .int ((48 : Int32) + (((xs 2) / (10 : Int32)) - ((xs 2) / (10 : Int32)) / (10 : Int32) * (10 : Int32))))]) (st' := [.ref 143, .ref 143]) rfl ?_
  refine w_gf H (pc' := 15) (L' := [(0, .ref 143), (1, .int ((48 : Int32) + (((xs 2) / (10 : Int32)) - ((xs 2) / (10 : Int32)) / (10 : Int32) * (10 : Int32))))]) h_m234 (z_at.mk 3 rfl rfl) rfl (u := .int (7 : Int32)) rfl rfl rfl ?_
  refine w_p h_m234 2 (pc' := 17) (L' := [(0, .ref 143), (1, .int ((48 : Int32) + (((xs 2) / (10 : Int32)) - ((xs 2) / (10 : Int32)) / (10 : Int32) * (10 : Int32))))]) (st' := [.int (8 : Int32), .ref 143]) rfl ?_
  refine w_pf H (22, 35, [(29, .int (8 : Int32)), (10, .int (1 : Int32)), (34, .ref 167), (33, .ref 166), (31, .ref 165), (30, .ref 164), (28, .ref 163), (26, .ref 162), (25, .ref 161), (24, .ref 160), (19, .ref 159), (18, .ref 158), (17, .ref 157), (16, .ref 156), (13, .ref 155), (12, .ref 154), (11, .ref 153), (9, .ref 152), (8, .ref 151), (7, .ref 150), (5, .ref 149), (4, .ref 148), (3, .ref 147), (2, .ref 146), (1, .ref 145), (0, .ref 144), (6, .int (0 : Int32)), (14, .int (0 : Int32)), (15, .int (0 : Int32)), (20, .int (0 : Int32)), (21, .int (0 : Int32)), (22, .int (0 : Int32)), (23, .int (0 : Int32)), (27, .int (0 : Int32)), (32, .int (0 : Int32))], none) (pc' := 20) (L' := [(0, .ref 143), (1, .int ((48 : Int32) + (((xs 2) / (10 : Int32)) - ((xs 2) / (10 : Int32)) / (10 : Int32) * (10 : Int32))))]) h_m234 (z_at.mk 3 rfl rfl) rfl (by decide) rfl (Or.inl rfl) rfl rfl rfl ?_
  clear H m; intro m H
  refine w_rv h_m234 (z_at.mk 1 rfl rfl) rfl ?_
  show z_W 996 236 25 [(0, .ref 143), (1, .int ((xs 2) / (10 : Int32)))] [] m _
  refine w_rv h_m236 (z_at.mk 1 rfl rfl) rfl ?_
  show z_W 997 236 14 [(0, .ref 143), (1, .int (xs 2))] [] m _
  refine w_p h_m236 6 (pc' := 22) (L' := [(0, .ref 143), (1, .int (xs 2))]) (st' := [.int ((48 : Int32) + ((xs 2) - (xs 2) / (10 : Int32) * (10 : Int32))), .ref 143]) rfl ?_
  refine w_cv (H.t rfl) (pc' := 25) (L' := [(0, .ref 143), (1, .int (xs 2))]) (rest := []) (Ps := [.int ((48 : Int32) + ((xs 2) - (xs 2) / (10 : Int32) * (10 : Int32)))]) (L0 := [(0, .ref 143), (1, .int ((48 : Int32) + ((xs 2) - (xs 2) / (10 : Int32) * (10 : Int32))))]) h_m236 (z_at.mk 3 rfl rfl) (Or.inl ⟨rfl, rfl⟩) rfl rfl (by decide) (by decide) rfl rfl rfl rfl rfl rfl (by decide) rfl rfl rfl ?_
  refine w_p h_m234 1 (pc' := 1) (L' := [(0, .ref 143), (1, .int ((48 : Int32) + ((xs 2) - (xs 2) / (10 : Int32) * (10 : Int32))))]) (st' := [.ref 143]) rfl ?_
  refine w_gf H (pc' := 4) (L' := [(0, .ref 143), (1, .int ((48 : Int32) + ((xs 2) - (xs 2) / (10 : Int32) * (10 : Int32))))]) h_m234 (z_at.mk 3 rfl rfl) rfl (u := .ref 163) rfl rfl rfl ?_
  refine w_p h_m234 1 (pc' := 5) (L' := [(0, .ref 143), (1, .int ((48 : Int32) + ((xs 2) - (xs 2) / (10 : Int32) * (10 : Int32))))]) (st' := [.ref 143, .ref 163]) rfl ?_
  refine w_gf H (pc' := 8) (L' := [(0, .ref 143), (1, .int ((48 : Int32) + ((xs 2) - (xs 2) / (10 : Int32) * (10 : Int32))))]) h_m234 (z_at.mk 3 rfl rfl) rfl (u := .int (8 : Int32)) rfl rfl rfl ?_
  refine w_p h_m234 1 (pc' := 9) (L' := [(0, .ref 143), (1, .int ((48 : Int32) + ((xs 2) - (xs 2) / (10 : Int32) * (10 : Int32))))]) (st' := [.int ((48 : Int32) + ((xs 2) - (xs 2) / (10 : Int32) * (10 : Int32))), .int (8 : Int32), .ref 163]) rfl ?_
  refine w_as H (t := 0) (j := 8) (u := .int ((48 : Int32) + ((xs 2) - (xs 2) / (10 : Int32) * (10 : Int32)))) (0, 40000, [(8, .int ((48 : Int32) + ((xs 2) - (xs 2) / (10 : Int32) * (10 : Int32)))), (7, .int ((48 : Int32) + (((xs 2) / (10 : Int32)) - ((xs 2) / (10 : Int32)) / (10 : Int32) * (10 : Int32)))), (6, .int (45 : Int32)), (5, .int ((48 : Int32) + ((xs 1) - (xs 1) / (10 : Int32) * (10 : Int32)))), (4, .int ((48 : Int32) + (((xs 1) / (10 : Int32)) - ((xs 1) / (10 : Int32)) / (10 : Int32) * (10 : Int32)))), (3, .int (32 : Int32)), (2, .int (107 : Int32)), (1, .int (115 : Int32)), (0, .int (97 : Int32))], some (.int (0 : Int32))) (pc' := 10) (L' := [(0, .ref 143), (1, .int ((48 : Int32) + ((xs 2) - (xs 2) / (10 : Int32) * (10 : Int32))))]) h_m234 (z_at.mk 1 rfl rfl) rfl rfl (w_ui _ _ (by decide)) rfl rfl rfl rfl ?_
  clear H m; intro m H
  refine w_p h_m234 2 (pc' := 12) (L' := [(0, .ref 143), (1, .int ((48 : Int32) + ((xs 2) - (xs 2) / (10 : Int32) * (10 : Int32))))]) (st' := [.ref 143, .ref 143]) rfl ?_
  refine w_gf H (pc' := 15) (L' := [(0, .ref 143), (1, .int ((48 : Int32) + ((xs 2) - (xs 2) / (10 : Int32) * (10 : Int32))))]) h_m234 (z_at.mk 3 rfl rfl) rfl (u := .int (8 : Int32)) rfl rfl rfl ?_
  refine w_p h_m234 2 (pc' := 17) (L' := [(0, .ref 143), (1, .int ((48 : Int32) + ((xs 2) - (xs 2) / (10 : Int32) * (10 : Int32))))]) (st' := [.int (9 : Int32), .ref 143]) rfl ?_
  refine w_pf H (22, 35, [(29, .int (9 : Int32)), (10, .int (1 : Int32)), (34, .ref 167), (33, .ref 166), (31, .ref 165), (30, .ref 164), (28, .ref 163), (26, .ref 162), (25, .ref 161), (24, .ref 160), (19, .ref 159), (18, .ref 158), (17, .ref 157), (16, .ref 156), (13, .ref 155), (12, .ref 154), (11, .ref 153), (9, .ref 152), (8, .ref 151), (7, .ref 150), (5, .ref 149), (4, .ref 148), (3, .ref 147), (2, .ref 146), (1, .ref 145), (0, .ref 144), (6, .int (0 : Int32)), (14, .int (0 : Int32)), (15, .int (0 : Int32)), (20, .int (0 : Int32)), (21, .int (0 : Int32)), (22, .int (0 : Int32)), (23, .int (0 : Int32)), (27, .int (0 : Int32)), (32, .int (0 : Int32))], none) (pc' := 20) (L' := [(0, .ref 143), (1, .int ((48 : Int32) + ((xs 2) - (xs 2) / (10 : Int32) * (10 : Int32))))]) h_m234 (z_at.mk 3 rfl rfl) rfl (by decide) rfl (Or.inl rfl) rfl rfl rfl ?_
  clear H m; intro m H
  refine w_rv h_m234 (z_at.mk 1 rfl rfl) rfl ?_
  show z_W 997 236 25 [(0, .ref 143), (1, .int (xs 2))] [] m _
  refine w_rv h_m236 (z_at.mk 1 rfl rfl) rfl ?_
  show z_W 998 237 22 [(0, .ref 143), (1, .ref 150), (2, .int (0 : Int32))] [] m _
  refine w_p h_m237 2 (pc' := 25) (L' := [(0, .ref 143), (1, .ref 150), (2, .int (0 : Int32))]) (st' := [.int (44 : Int32), .ref 143]) rfl ?_
  refine w_cv (H.t rfl) (pc' := 28) (L' := [(0, .ref 143), (1, .ref 150), (2, .int (0 : Int32))]) (rest := []) (Ps := [.int (44 : Int32)]) (L0 := [(0, .ref 143), (1, .int (44 : Int32))]) h_m237 (z_at.mk 3 rfl rfl) (Or.inl ⟨rfl, rfl⟩) rfl rfl (by decide) (by decide) rfl rfl rfl rfl rfl rfl (by decide) rfl rfl rfl ?_
  refine w_p h_m234 1 (pc' := 1) (L' := [(0, .ref 143), (1, .int (44 : Int32))]) (st' := [.ref 143]) rfl ?_
  refine w_gf H (pc' := 4) (L' := [(0, .ref 143), (1, .int (44 : Int32))]) h_m234 (z_at.mk 3 rfl rfl) rfl (u := .ref 163) rfl rfl rfl ?_
  refine w_p h_m234 1 (pc' := 5) (L' := [(0, .ref 143), (1, .int (44 : Int32))]) (st' := [.ref 143, .ref 163]) rfl ?_
  refine w_gf H (pc' := 8) (L' := [(0, .ref 143), (1, .int (44 : Int32))]) h_m234 (z_at.mk 3 rfl rfl) rfl (u := .int (9 : Int32)) rfl rfl rfl ?_
  refine w_p h_m234 1 (pc' := 9) (L' := [(0, .ref 143), (1, .int (44 : Int32))]) (st' := [.int (44 : Int32), .int (9 : Int32), .ref 163]) rfl ?_
  refine w_as H (t := 0) (j := 9) (u := .int (44 : Int32)) (0, 40000, [(9, .int (44 : Int32)), (8, .int ((48 : Int32) + ((xs 2) - (xs 2) / (10 : Int32) * (10 : Int32)))), (7, .int ((48 : Int32) + (((xs 2) / (10 : Int32)) - ((xs 2) / (10 : Int32)) / (10 : Int32) * (10 : Int32)))), (6, .int (45 : Int32)), (5, .int ((48 : Int32) + ((xs 1) - (xs 1) / (10 : Int32) * (10 : Int32)))), (4, .int ((48 : Int32) + (((xs 1) / (10 : Int32)) - ((xs 1) / (10 : Int32)) / (10 : Int32) * (10 : Int32)))), (3, .int (32 : Int32)), (2, .int (107 : Int32)), (1, .int (115 : Int32)), (0, .int (97 : Int32))], some (.int (0 : Int32))) (pc' := 10) (L' := [(0, .ref 143), (1, .int (44 : Int32))]) h_m234 (z_at.mk 1 rfl rfl) rfl rfl (w_ui _ _ (by decide)) rfl rfl rfl rfl ?_
  clear H m; intro m H
  refine w_p h_m234 2 (pc' := 12) (L' := [(0, .ref 143), (1, .int (44 : Int32))]) (st' := [.ref 143, .ref 143]) rfl ?_
  refine w_gf H (pc' := 15) (L' := [(0, .ref 143), (1, .int (44 : Int32))]) h_m234 (z_at.mk 3 rfl rfl) rfl (u := .int (9 : Int32)) rfl rfl rfl ?_
  refine w_p h_m234 2 (pc' := 17) (L' := [(0, .ref 143), (1, .int (44 : Int32))]) (st' := [.int (10 : Int32), .ref 143]) rfl ?_
  refine w_pf H (22, 35, [(29, .int (10 : Int32)), (10, .int (1 : Int32)), (34, .ref 167), (33, .ref 166), (31, .ref 165), (30, .ref 164), (28, .ref 163), (26, .ref 162), (25, .ref 161), (24, .ref 160), (19, .ref 159), (18, .ref 158), (17, .ref 157), (16, .ref 156), (13, .ref 155), (12, .ref 154), (11, .ref 153), (9, .ref 152), (8, .ref 151), (7, .ref 150), (5, .ref 149), (4, .ref 148), (3, .ref 147), (2, .ref 146), (1, .ref 145), (0, .ref 144), (6, .int (0 : Int32)), (14, .int (0 : Int32)), (15, .int (0 : Int32)), (20, .int (0 : Int32)), (21, .int (0 : Int32)), (22, .int (0 : Int32)), (23, .int (0 : Int32)), (27, .int (0 : Int32)), (32, .int (0 : Int32))], none) (pc' := 20) (L' := [(0, .ref 143), (1, .int (44 : Int32))]) h_m234 (z_at.mk 3 rfl rfl) rfl (by decide) rfl (Or.inl rfl) rfl rfl rfl ?_
  clear H m; intro m H
  refine w_rv h_m234 (z_at.mk 1 rfl rfl) rfl ?_
  show z_W 998 237 28 [(0, .ref 143), (1, .ref 150), (2, .int (0 : Int32))] [] m _
  refine w_p h_m237 5 (pc' := 33) (L' := [(0, .ref 143), (1, .ref 150), (2, .int (0 : Int32))]) (st' := [.int (2 : Int32), .ref 150, .ref 143]) rfl ?_
  refine w_al H (t := 0) (j := 2) (pc' := 34) (L' := [(0, .ref 143), (1, .ref 150), (2, .int (0 : Int32))]) h_m237 (z_at.mk 1 rfl rfl) rfl rfl rfl (u := .int (xs 3)) rfl rfl rfl ?_
  refine w_cv (H.t rfl) (pc' := 37) (L' := [(0, .ref 143), (1, .ref 150), (2, .int (0 : Int32))]) (rest := []) (Ps := [.int (xs 3)]) (L0 := [(0, .ref 143), (1, .int (xs 3))]) h_m237 (z_at.mk 3 rfl rfl) (Or.inl ⟨rfl, rfl⟩) rfl rfl (by decide) (by decide) rfl rfl rfl rfl rfl rfl (by decide) rfl rfl rfl ?_
  refine w_p h_m236 2 (pc' := 3) (L' := [(0, .ref 143), (1, .int (xs 3))]) (st' := [.int (9 : Int32), .int (xs 3)]) rfl ?_
  refine w_f2 (pc' := 6) (L' := [(0, .ref 143), (1, .int (xs 3))]) h_m236 (z_at.mk 3 rfl rfl) rfl (zc (a := (xs 3).toInt) (b := 9) rfl rfl (decide_eq_false (by omega))) rfl rfl ?_
  refine w_p h_m236 4 (pc' := 11) (L' := [(0, .ref 143), (1, .int (xs 3))]) (st' := [.int ((xs 3) / (10 : Int32)), .ref 143]) rfl ?_
  have k_23 := zi_div (x := xs 3) (y := (10 : Int32)) (a := (xs 3).toInt) (b := 10) rfl rfl (by omega) (by omega)
  refine w_cv (H.t rfl) (pc' := 14) (L' := [(0, .ref 143), (1, .int (xs 3))]) (rest := []) (Ps := [.int ((xs 3) / (10 : Int32))]) (L0 := [(0, .ref 143), (1, .int ((xs 3) / (10 : Int32)))]) h_m236 (z_at.mk 3 rfl rfl) (Or.inl ⟨rfl, rfl⟩) rfl rfl (by decide) (by decide) rfl rfl rfl rfl rfl rfl (by decide) rfl rfl rfl ?_
  refine w_p h_m236 2 (pc' := 3) (L' := [(0, .ref 143), (1, .int ((xs 3) / (10 : Int32)))]) (st' := [.int (9 : Int32), .int ((xs 3) / (10 : Int32))]) rfl ?_
  refine w_t2 (pc' := 14) (L' := [(0, .ref 143), (1, .int ((xs 3) / (10 : Int32)))]) h_m236 (z_at.mk 3 rfl rfl) rfl (zc (a := ((xs 3) / (10 : Int32)).toInt) (b := 9) rfl rfl (decide_eq_true (by omega))) rfl rfl ?_
  refine w_p h_m236 6 (pc' := 22) (L' := [(0, .ref 143), (1, .int ((xs 3) / (10 : Int32)))]) (st' := [.int ((48 : Int32) + (((xs 3) / (10 : Int32)) - ((xs 3) / (10 : Int32)) / (10 : Int32) * (10 : Int32))), .ref 143]) rfl ?_
  refine w_cv (H.t rfl) (pc' := 25) (L' := [(0, .ref 143), (1, .int ((xs 3) / (10 : Int32)))]) (rest := []) (Ps := [.int ((48 : Int32) + (((xs 3) / (10 : Int32)) - ((xs 3) / (10 : Int32)) / (10 : Int32) * (10 : Int32)))]) (L0 := [(0, .ref 143), (1, .int ((48 : Int32) + (((xs 3) / (10 : Int32)) - ((xs 3) / (10 : Int32)) / (10 : Int32) * (10 : Int32))))]) h_m236 (z_at.mk 3 rfl rfl) (Or.inl ⟨rfl, rfl⟩) rfl rfl (by decide) (by decide) rfl rfl rfl rfl rfl rfl (by decide) rfl rfl rfl ?_
  refine w_p h_m234 1 (pc' := 1) (L' := [(0, .ref 143), (1, .int ((48 : Int32) + (((xs 3) / (10 : Int32)) - ((xs 3) / (10 : Int32)) / (10 : Int32) * (10 : Int32))))]) (st' := [.ref 143]) rfl ?_
  refine w_gf H (pc' := 4) (L' := [(0, .ref 143), (1, .int ((48 : Int32) + (((xs 3) / (10 : Int32)) - ((xs 3) / (10 : Int32)) / (10 : Int32) * (10 : Int32))))]) h_m234 (z_at.mk 3 rfl rfl) rfl (u := .ref 163) rfl rfl rfl ?_
  refine w_p h_m234 1 (pc' := 5) (L' := [(0, .ref 143), (1, .int ((48 : Int32) + (((xs 3) / (10 : Int32)) - ((xs 3) / (10 : Int32)) / (10 : Int32) * (10 : Int32))))]) (st' := [.ref 143, .ref 163]) rfl ?_
  refine w_gf H (pc' := 8) (L' := [(0, .ref 143), (1, .int ((48 : Int32) + (((xs 3) / (10 : Int32)) - ((xs 3) / (10 : Int32)) / (10 : Int32) * (10 : Int32))))]) h_m234 (z_at.mk 3 rfl rfl) rfl (u := .int (10 : Int32)) rfl rfl rfl ?_
  refine w_p h_m234 1 (pc' := 9) (L' := [(0, .ref 143), (1, .int ((48 : Int32) + (((xs 3) / (10 : Int32)) - ((xs 3) / (10 : Int32)) / (10 : Int32) * (10 : Int32))))]) (st' := [.int ((48 : Int32) + (((xs 3) / (10 : Int32)) - ((xs 3) / (10 : Int32)) / (10 : Int32) * (10 : Int32))), .int (10 : Int32), .ref 163]) rfl ?_
  refine w_as H (t := 0) (j := 10) (u := .int ((48 : Int32) + (((xs 3) / (10 : Int32)) - ((xs 3) / (10 : Int32)) / (10 : Int32) * (10 : Int32)))) (0, 40000, [(10, .int ((48 : Int32) + (((xs 3) / (10 : Int32)) - ((xs 3) / (10 : Int32)) / (10 : Int32) * (10 : Int32)))), (9, .int (44 : Int32)), (8, .int ((48 : Int32) + ((xs 2) - (xs 2) / (10 : Int32) * (10 : Int32)))), (7, .int ((48 : Int32) + (((xs 2) / (10 : Int32)) - ((xs 2) / (10 : Int32)) / (10 : Int32) * (10 : Int32)))), (6, .int (45 : Int32)), (5, .int ((48 : Int32) + ((xs 1) - (xs 1) / (10 : Int32) * (10 : Int32)))), (4, .int ((48 : Int32) + (((xs 1) / (10 : Int32)) - ((xs 1) / (10 : Int32)) / (10 : Int32) * (10 : Int32)))), (3, .int (32 : Int32)), (2, .int (107 : Int32)), (1, .int (115 : Int32)), (0, .int (97 : Int32))], some (.int (0 : Int32))) (pc' := 10) (L' := [(0, .ref 143), (1, .int ((48 : Int32) + (((xs 3) / (10 : Int32)) - ((xs 3) / (10 : Int32)) / (10 : Int32) * (10 : Int32))))]) h_m234 (z_at.mk 1 rfl rfl) rfl rfl (w_ui _ _ (by decide)) rfl rfl rfl rfl ?_
  clear H m; intro m H
  refine w_p h_m234 2 (pc' := 12) (L' := [(0, .ref 143), (1, .int ((48 : Int32) + (((xs 3) / (10 : Int32)) - ((xs 3) / (10 : Int32)) / (10 : Int32) * (10 : Int32))))]) (st' := [.ref 143, .ref 143]) rfl ?_
  refine w_gf H (pc' := 15) (L' := [(0, .ref 143), (1, .int ((48 : Int32) + (((xs 3) / (10 : Int32)) - ((xs 3) / (10 : Int32)) / (10 : Int32) * (10 : Int32))))]) h_m234 (z_at.mk 3 rfl rfl) rfl (u := .int (10 : Int32)) rfl rfl rfl ?_
  refine w_p h_m234 2 (pc' := 17) (L' := [(0, .ref 143), (1, .int ((48 : Int32) + (((xs 3) / (10 : Int32)) - ((xs 3) / (10 : Int32)) / (10 : Int32) * (10 : Int32))))]) (st' := [.int (11 : Int32), .ref 143]) rfl ?_
  refine w_pf H (22, 35, [(29, .int (11 : Int32)), (10, .int (1 : Int32)), (34, .ref 167), (33, .ref 166), (31, .ref 165), (30, .ref 164), (28, .ref 163), (26, .ref 162), (25, .ref 161), (24, .ref 160), (19, .ref 159), (18, .ref 158), (17, .ref 157), (16, .ref 156), (13, .ref 155), (12, .ref 154), (11, .ref 153), (9, .ref 152), (8, .ref 151), (7, .ref 150), (5, .ref 149), (4, .ref 148), (3, .ref 147), (2, .ref 146), (1, .ref 145), (0, .ref 144), (6, .int (0 : Int32)), (14, .int (0 : Int32)), (15, .int (0 : Int32)), (20, .int (0 : Int32)), (21, .int (0 : Int32)), (22, .int (0 : Int32)), (23, .int (0 : Int32)), (27, .int (0 : Int32)), (32, .int (0 : Int32))], none) (pc' := 20) (L' := [(0, .ref 143), (1, .int ((48 : Int32) + (((xs 3) / (10 : Int32)) - ((xs 3) / (10 : Int32)) / (10 : Int32) * (10 : Int32))))]) h_m234 (z_at.mk 3 rfl rfl) rfl (by decide) rfl (Or.inl rfl) rfl rfl rfl ?_
  clear H m; intro m H
  refine w_rv h_m234 (z_at.mk 1 rfl rfl) rfl ?_
  show z_W 996 236 25 [(0, .ref 143), (1, .int ((xs 3) / (10 : Int32)))] [] m _
  refine w_rv h_m236 (z_at.mk 1 rfl rfl) rfl ?_
  show z_W 997 236 14 [(0, .ref 143), (1, .int (xs 3))] [] m _
  refine w_p h_m236 6 (pc' := 22) (L' := [(0, .ref 143), (1, .int (xs 3))]) (st' := [.int ((48 : Int32) + ((xs 3) - (xs 3) / (10 : Int32) * (10 : Int32))), .ref 143]) rfl ?_
  refine w_cv (H.t rfl) (pc' := 25) (L' := [(0, .ref 143), (1, .int (xs 3))]) (rest := []) (Ps := [.int ((48 : Int32) + ((xs 3) - (xs 3) / (10 : Int32) * (10 : Int32)))]) (L0 := [(0, .ref 143), (1, .int ((48 : Int32) + ((xs 3) - (xs 3) / (10 : Int32) * (10 : Int32))))]) h_m236 (z_at.mk 3 rfl rfl) (Or.inl ⟨rfl, rfl⟩) rfl rfl (by decide) (by decide) rfl rfl rfl rfl rfl rfl (by decide) rfl rfl rfl ?_
  refine w_p h_m234 1 (pc' := 1) (L' := [(0, .ref 143), (1, .int ((48 : Int32) + ((xs 3) - (xs 3) / (10 : Int32) * (10 : Int32))))]) (st' := [.ref 143]) rfl ?_
  refine w_gf H (pc' := 4) (L' := [(0, .ref 143), (1, .int ((48 : Int32) + ((xs 3) - (xs 3) / (10 : Int32) * (10 : Int32))))]) h_m234 (z_at.mk 3 rfl rfl) rfl (u := .ref 163) rfl rfl rfl ?_
  refine w_p h_m234 1 (pc' := 5) (L' := [(0, .ref 143), (1, .int ((48 : Int32) + ((xs 3) - (xs 3) / (10 : Int32) * (10 : Int32))))]) (st' := [.ref 143, .ref 163]) rfl ?_
  refine w_gf H (pc' := 8) (L' := [(0, .ref 143), (1, .int ((48 : Int32) + ((xs 3) - (xs 3) / (10 : Int32) * (10 : Int32))))]) h_m234 (z_at.mk 3 rfl rfl) rfl (u := .int (11 : Int32)) rfl rfl rfl ?_
  refine w_p h_m234 1 (pc' := 9) (L' := [(0, .ref 143), (1, .int ((48 : Int32) + ((xs 3) - (xs 3) / (10 : Int32) * (10 : Int32))))]) (st' := [.int ((48 : Int32) + ((xs 3) - (xs 3) / (10 : Int32) * (10 : Int32))), .int (11 : Int32), .ref 163]) rfl ?_
  refine w_as H (t := 0) (j := 11) (u := .int ((48 : Int32) + ((xs 3) - (xs 3) / (10 : Int32) * (10 : Int32)))) (0, 40000, [(11, .int ((48 : Int32) + ((xs 3) - (xs 3) / (10 : Int32) * (10 : Int32)))), (10, .int ((48 : Int32) + (((xs 3) / (10 : Int32)) - ((xs 3) / (10 : Int32)) / (10 : Int32) * (10 : Int32)))), (9, .int (44 : Int32)), (8, .int ((48 : Int32) + ((xs 2) - (xs 2) / (10 : Int32) * (10 : Int32)))), (7, .int ((48 : Int32) + (((xs 2) / (10 : Int32)) - ((xs 2) / (10 : Int32)) / (10 : Int32) * (10 : Int32)))), (6, .int (45 : Int32)), (5, .int ((48 : Int32) + ((xs 1) - (xs 1) / (10 : Int32) * (10 : Int32)))), (4, .int ((48 : Int32) + (((xs 1) / (10 : Int32)) - ((xs 1) / (10 : Int32)) / (10 : Int32) * (10 : Int32)))), (3, .int (32 : Int32)), (2, .int (107 : Int32)), (1, .int (115 : Int32)), (0, .int (97 : Int32))], some (.int (0 : Int32))) (pc' := 10) (L' := [(0, .ref 143), (1, .int ((48 : Int32) + ((xs 3) - (xs 3) / (10 : Int32) * (10 : Int32))))]) h_m234 (z_at.mk 1 rfl rfl) rfl rfl (w_ui _ _ (by decide)) rfl rfl rfl rfl ?_
  clear H m; intro m H
  refine w_p h_m234 2 (pc' := 12) (L' := [(0, .ref 143), (1, .int ((48 : Int32) + ((xs 3) - (xs 3) / (10 : Int32) * (10 : Int32))))]) (st' := [.ref 143, .ref 143]) rfl ?_
  refine w_gf H (pc' := 15) (L' := [(0, .ref 143), (1, .int ((48 : Int32) + ((xs 3) - (xs 3) / (10 : Int32) * (10 : Int32))))]) h_m234 (z_at.mk 3 rfl rfl) rfl (u := .int (11 : Int32)) rfl rfl rfl ?_
  refine w_p h_m234 2 (pc' := 17) (L' := [(0, .ref 143), (1, .int ((48 : Int32) + ((xs 3) - (xs 3) / (10 : Int32) * (10 : Int32))))]) (st' := [.int (12 : Int32), .ref 143]) rfl ?_
  refine w_pf H (22, 35, [(29, .int (12 : Int32)), (10, .int (1 : Int32)), (34, .ref 167), (33, .ref 166), (31, .ref 165), (30, .ref 164), (28, .ref 163), (26, .ref 162), (25, .ref 161), (24, .ref 160), (19, .ref 159), (18, .ref 158), (17, .ref 157), (16, .ref 156), (13, .ref 155), (12, .ref 154), (11, .ref 153), (9, .ref 152), (8, .ref 151), (7, .ref 150), (5, .ref 149), (4, .ref 148), (3, .ref 147), (2, .ref 146), (1, .ref 145), (0, .ref 144), (6, .int (0 : Int32)), (14, .int (0 : Int32)), (15, .int (0 : Int32)), (20, .int (0 : Int32)), (21, .int (0 : Int32)), (22, .int (0 : Int32)), (23, .int (0 : Int32)), (27, .int (0 : Int32)), (32, .int (0 : Int32))], none) (pc' := 20) (L' := [(0, .ref 143), (1, .int ((48 : Int32) + ((xs 3) - (xs 3) / (10 : Int32) * (10 : Int32))))]) h_m234 (z_at.mk 3 rfl rfl) rfl (by decide) rfl (Or.inl rfl) rfl rfl rfl ?_
  clear H m; intro m H
  refine w_rv h_m234 (z_at.mk 1 rfl rfl) rfl ?_
  show z_W 997 236 25 [(0, .ref 143), (1, .int (xs 3))] [] m _
  refine w_rv h_m236 (z_at.mk 1 rfl rfl) rfl ?_
  show z_W 998 237 37 [(0, .ref 143), (1, .ref 150), (2, .int (0 : Int32))] [] m _
  refine w_p h_m237 2 (pc' := 40) (L' := [(0, .ref 143), (1, .ref 150), (2, .int (0 : Int32))]) (st' := [.int (45 : Int32), .ref 143]) rfl ?_
  refine w_cv (H.t rfl) (pc' := 43) (L' := [(0, .ref 143), (1, .ref 150), (2, .int (0 : Int32))]) (rest := []) (Ps := [.int (45 : Int32)]) (L0 := [(0, .ref 143), (1, .int (45 : Int32))]) h_m237 (z_at.mk 3 rfl rfl) (Or.inl ⟨rfl, rfl⟩) rfl rfl (by decide) (by decide) rfl rfl rfl rfl rfl rfl (by decide) rfl rfl rfl ?_
  refine w_p h_m234 1 (pc' := 1) (L' := [(0, .ref 143), (1, .int (45 : Int32))]) (st' := [.ref 143]) rfl ?_
  refine w_gf H (pc' := 4) (L' := [(0, .ref 143), (1, .int (45 : Int32))]) h_m234 (z_at.mk 3 rfl rfl) rfl (u := .ref 163) rfl rfl rfl ?_
  refine w_p h_m234 1 (pc' := 5) (L' := [(0, .ref 143), (1, .int (45 : Int32))]) (st' := [.ref 143, .ref 163]) rfl ?_
  refine w_gf H (pc' := 8) (L' := [(0, .ref 143), (1, .int (45 : Int32))]) h_m234 (z_at.mk 3 rfl rfl) rfl (u := .int (12 : Int32)) rfl rfl rfl ?_
  refine w_p h_m234 1 (pc' := 9) (L' := [(0, .ref 143), (1, .int (45 : Int32))]) (st' := [.int (45 : Int32), .int (12 : Int32), .ref 163]) rfl ?_
  refine w_as H (t := 0) (j := 12) (u := .int (45 : Int32)) (0, 40000, [(12, .int (45 : Int32)), (11, .int ((48 : Int32) + ((xs 3) - (xs 3) / (10 : Int32) * (10 : Int32)))), (10, .int ((48 : Int32) + (((xs 3) / (10 : Int32)) - ((xs 3) / (10 : Int32)) / (10 : Int32) * (10 : Int32)))), (9, .int (44 : Int32)), (8, .int ((48 : Int32) + ((xs 2) - (xs 2) / (10 : Int32) * (10 : Int32)))), (7, .int ((48 : Int32) + (((xs 2) / (10 : Int32)) - ((xs 2) / (10 : Int32)) / (10 : Int32) * (10 : Int32)))), (6, .int (45 : Int32)), (5, .int ((48 : Int32) + ((xs 1) - (xs 1) / (10 : Int32) * (10 : Int32)))), (4, .int ((48 : Int32) + (((xs 1) / (10 : Int32)) - ((xs 1) / (10 : Int32)) / (10 : Int32) * (10 : Int32)))), (3, .int (32 : Int32)), (2, .int (107 : Int32)), (1, .int (115 : Int32)), (0, .int (97 : Int32))], some (.int (0 : Int32))) (pc' := 10) (L' := [(0, .ref 143), (1, .int (45 : Int32))]) h_m234 (z_at.mk 1 rfl rfl) rfl rfl (w_ui _ _ (by decide)) rfl rfl rfl rfl ?_
  clear H m; intro m H
  refine w_p h_m234 2 (pc' := 12) (L' := [(0, .ref 143), (1, .int (45 : Int32))]) (st' := [.ref 143, .ref 143]) rfl ?_
  refine w_gf H (pc' := 15) (L' := [(0, .ref 143), (1, .int (45 : Int32))]) h_m234 (z_at.mk 3 rfl rfl) rfl (u := .int (12 : Int32)) rfl rfl rfl ?_
  refine w_p h_m234 2 (pc' := 17) (L' := [(0, .ref 143), (1, .int (45 : Int32))]) (st' := [.int (13 : Int32), .ref 143]) rfl ?_
  refine w_pf H (22, 35, [(29, .int (13 : Int32)), (10, .int (1 : Int32)), (34, .ref 167), (33, .ref 166), (31, .ref 165), (30, .ref 164), (28, .ref 163), (26, .ref 162), (25, .ref 161), (24, .ref 160), (19, .ref 159), (18, .ref 158), (17, .ref 157), (16, .ref 156), (13, .ref 155), (12, .ref 154), (11, .ref 153), (9, .ref 152), (8, .ref 151), (7, .ref 150), (5, .ref 149), (4, .ref 148), (3, .ref 147), (2, .ref 146), (1, .ref 145), (0, .ref 144), (6, .int (0 : Int32)), (14, .int (0 : Int32)), (15, .int (0 : Int32)), (20, .int (0 : Int32)), (21, .int (0 : Int32)), (22, .int (0 : Int32)), (23, .int (0 : Int32)), (27, .int (0 : Int32)), (32, .int (0 : Int32))], none) (pc' := 20) (L' := [(0, .ref 143), (1, .int (45 : Int32))]) h_m234 (z_at.mk 3 rfl rfl) rfl (by decide) rfl (Or.inl rfl) rfl rfl rfl ?_
  clear H m; intro m H
  refine w_rv h_m234 (z_at.mk 1 rfl rfl) rfl ?_
  show z_W 998 237 43 [(0, .ref 143), (1, .ref 150), (2, .int (0 : Int32))] [] m _
  refine w_p h_m237 5 (pc' := 48) (L' := [(0, .ref 143), (1, .ref 150), (2, .int (0 : Int32))]) (st' := [.int (3 : Int32), .ref 150, .ref 143]) rfl ?_
  refine w_al H (t := 0) (j := 3) (pc' := 49) (L' := [(0, .ref 143), (1, .ref 150), (2, .int (0 : Int32))]) h_m237 (z_at.mk 1 rfl rfl) rfl rfl rfl (u := .int (xs 4)) rfl rfl rfl ?_
  refine w_cv (H.t rfl) (pc' := 52) (L' := [(0, .ref 143), (1, .ref 150), (2, .int (0 : Int32))]) (rest := []) (Ps := [.int (xs 4)]) (L0 := [(0, .ref 143), (1, .int (xs 4))]) h_m237 (z_at.mk 3 rfl rfl) (Or.inl ⟨rfl, rfl⟩) rfl rfl (by decide) (by decide) rfl rfl rfl rfl rfl rfl (by decide) rfl rfl rfl ?_
  refine w_p h_m236 2 (pc' := 3) (L' := [(0, .ref 143), (1, .int (xs 4))]) (st' := [.int (9 : Int32), .int (xs 4)]) rfl ?_
  refine w_f2 (pc' := 6) (L' := [(0, .ref 143), (1, .int (xs 4))]) h_m236 (z_at.mk 3 rfl rfl) rfl (zc (a := (xs 4).toInt) (b := 9) rfl rfl (decide_eq_false (by omega))) rfl rfl ?_
  refine w_p h_m236 4 (pc' := 11) (L' := [(0, .ref 143), (1, .int (xs 4))]) (st' := [.int ((xs 4) / (10 : Int32)), .ref 143]) rfl ?_
  have k_24 := zi_div (x := xs 4) (y := (10 : Int32)) (a := (xs 4).toInt) (b := 10) rfl rfl (by omega) (by omega)
  refine w_cv (H.t rfl) (pc' := 14) (L' := [(0, .ref 143), (1, .int (xs 4))]) (rest := []) (Ps := [.int ((xs 4) / (10 : Int32))]) (L0 := [(0, .ref 143), (1, .int ((xs 4) / (10 : Int32)))]) h_m236 (z_at.mk 3 rfl rfl) (Or.inl ⟨rfl, rfl⟩) rfl rfl (by decide) (by decide) rfl rfl rfl rfl rfl rfl (by decide) rfl rfl rfl ?_
  refine w_p h_m236 2 (pc' := 3) (L' := [(0, .ref 143), (1, .int ((xs 4) / (10 : Int32)))]) (st' := [.int (9 : Int32), .int ((xs 4) / (10 : Int32))]) rfl ?_
  refine w_t2 (pc' := 14) (L' := [(0, .ref 143), (1, .int ((xs 4) / (10 : Int32)))]) h_m236 (z_at.mk 3 rfl rfl) rfl (zc (a := ((xs 4) / (10 : Int32)).toInt) (b := 9) rfl rfl (decide_eq_true (by omega))) rfl rfl ?_
  refine w_p h_m236 6 (pc' := 22) (L' := [(0, .ref 143), (1, .int ((xs 4) / (10 : Int32)))]) (st' := [.int ((48 : Int32) + (((xs 4) / (10 : Int32)) - ((xs 4) / (10 : Int32)) / (10 : Int32) * (10 : Int32))), .ref 143]) rfl ?_
  refine w_cv (H.t rfl) (pc' := 25) (L' := [(0, .ref 143), (1, .int ((xs 4) / (10 : Int32)))]) (rest := []) (Ps := [.int ((48 : Int32) + (((xs 4) / (10 : Int32)) - ((xs 4) / (10 : Int32)) / (10 : Int32) * (10 : Int32)))]) (L0 := [(0, .ref 143), (1, .int ((48 : Int32) + (((xs 4) / (10 : Int32)) - ((xs 4) / (10 : Int32)) / (10 : Int32) * (10 : Int32))))]) h_m236 (z_at.mk 3 rfl rfl) (Or.inl ⟨rfl, rfl⟩) rfl rfl (by decide) (by decide) rfl rfl rfl rfl rfl rfl (by decide) rfl rfl rfl ?_
  refine w_p h_m234 1 (pc' := 1) (L' := [(0, .ref 143), (1, .int ((48 : Int32) + (((xs 4) / (10 : Int32)) - ((xs 4) / (10 : Int32)) / (10 : Int32) * (10 : Int32))))]) (st' := [.ref 143]) rfl ?_
  refine w_gf H (pc' := 4) (L' := [(0, .ref 143), (1, .int ((48 : Int32) + (((xs 4) / (10 : Int32)) - ((xs 4) / (10 : Int32)) / (10 : Int32) * (10 : Int32))))]) h_m234 (z_at.mk 3 rfl rfl) rfl (u := .ref 163) rfl rfl rfl ?_
  refine w_p h_m234 1 (pc' := 5) (L' := [(0, .ref 143), (1, .int ((48 : Int32) + (((xs 4) / (10 : Int32)) - ((xs 4) / (10 : Int32)) / (10 : Int32) * (10 : Int32))))]) (st' := [.ref 143, .ref 163]) rfl ?_
  refine w_gf H (pc' := 8) (L' := [(0, .ref 143), (1, .int ((48 : Int32) + (((xs 4) / (10 : Int32)) - ((xs 4) / (10 : Int32)) / (10 : Int32) * (10 : Int32))))]) h_m234 (z_at.mk 3 rfl rfl) rfl (u := .int (13 : Int32)) rfl rfl rfl ?_
  refine w_p h_m234 1 (pc' := 9) (L' := [(0, .ref 143), (1, .int ((48 : Int32) + (((xs 4) / (10 : Int32)) - ((xs 4) / (10 : Int32)) / (10 : Int32) * (10 : Int32))))]) (st' := [.int ((48 : Int32) + (((xs 4) / (10 : Int32)) - ((xs 4) / (10 : Int32)) / (10 : Int32) * (10 : Int32))), .int (13 : Int32), .ref 163]) rfl ?_
  refine w_as H (t := 0) (j := 13) (u := .int ((48 : Int32) + (((xs 4) / (10 : Int32)) - ((xs 4) / (10 : Int32)) / (10 : Int32) * (10 : Int32)))) (0, 40000, [(13, .int ((48 : Int32) + (((xs 4) / (10 : Int32)) - ((xs 4) / (10 : Int32)) / (10 : Int32) * (10 : Int32)))), (12, .int (45 : Int32)), (11, .int ((48 : Int32) + ((xs 3) - (xs 3) / (10 : Int32) * (10 : Int32)))), (10, .int ((48 : Int32) + (((xs 3) / (10 : Int32)) - ((xs 3) / (10 : Int32)) / (10 : Int32) * (10 : Int32)))), (9, .int (44 : Int32)), (8, .int ((48 : Int32) + ((xs 2) - (xs 2) / (10 : Int32) * (10 : Int32)))), (7, .int ((48 : Int32) + (((xs 2) / (10 : Int32)) - ((xs 2) / (10 : Int32)) / (10 : Int32) * (10 : Int32)))), (6, .int (45 : Int32)), (5, .int ((48 : Int32) + ((xs 1) - (xs 1) / (10 : Int32) * (10 : Int32)))), (4, .int ((48 : Int32) + (((xs 1) / (10 : Int32)) - ((xs 1) / (10 : Int32)) / (10 : Int32) * (10 : Int32)))), (3, .int (32 : Int32)), (2, .int (107 : Int32)), (1, .int (115 : Int32)), (0, .int (97 : Int32))], some (.int (0 : Int32))) (pc' := 10) (L' := [(0, .ref 143), (1, .int ((48 : Int32) + (((xs 4) / (10 : Int32)) - ((xs 4) / (10 : Int32)) / (10 : Int32) * (10 : Int32))))]) h_m234 (z_at.mk 1 rfl rfl) rfl rfl (w_ui _ _ (by decide)) rfl rfl rfl rfl ?_
  clear H m; intro m H
  refine w_p h_m234 2 (pc' := 12) (L' := [(0, .ref 143), (1, .int ((48 : Int32) + (((xs 4) / (10 : Int32)) - ((xs 4) / (10 : Int32)) / (10 : Int32) * (10 : Int32))))]) (st' := [.ref 143, .ref 143]) rfl ?_
  refine w_gf H (pc' := 15) (L' := [(0, .ref 143), (1, .int ((48 : Int32) + (((xs 4) / (10 : Int32)) - ((xs 4) / (10 : Int32)) / (10 : Int32) * (10 : Int32))))]) h_m234 (z_at.mk 3 rfl rfl) rfl (u := .int (13 : Int32)) rfl rfl rfl ?_
  refine w_p h_m234 2 (pc' := 17) (L' := [(0, .ref 143), (1, .int ((48 : Int32) + (((xs 4) / (10 : Int32)) - ((xs 4) / (10 : Int32)) / (10 : Int32) * (10 : Int32))))]) (st' := [.int (14 : Int32), .ref 143]) rfl ?_
  refine w_pf H (22, 35, [(29, .int (14 : Int32)), (10, .int (1 : Int32)), (34, .ref 167), (33, .ref 166), (31, .ref 165), (30, .ref 164), (28, .ref 163), (26, .ref 162), (25, .ref 161), (24, .ref 160), (19, .ref 159), (18, .ref 158), (17, .ref 157), (16, .ref 156), (13, .ref 155), (12, .ref 154), (11, .ref 153), (9, .ref 152), (8, .ref 151), (7, .ref 150), (5, .ref 149), (4, .ref 148), (3, .ref 147), (2, .ref 146), (1, .ref 145), (0, .ref 144), (6, .int (0 : Int32)), (14, .int (0 : Int32)), (15, .int (0 : Int32)), (20, .int (0 : Int32)), (21, .int (0 : Int32)), (22, .int (0 : Int32)), (23, .int (0 : Int32)), (27, .int (0 : Int32)), (32, .int (0 : Int32))], none) (pc' := 20) (L' := [(0, .ref 143), (1, .int ((48 : Int32) + (((xs 4) / (10 : Int32)) - ((xs 4) / (10 : Int32)) / (10 : Int32) * (10 : Int32))))]) h_m234 (z_at.mk 3 rfl rfl) rfl (by decide) rfl (Or.inl rfl) rfl rfl rfl ?_
  clear H m; intro m H
  refine w_rv h_m234 (z_at.mk 1 rfl rfl) rfl ?_
  show z_W 996 236 25 [(0, .ref 143), (1, .int ((xs 4) / (10 : Int32)))] [] m _
  refine w_rv h_m236 (z_at.mk 1 rfl rfl) rfl ?_
  show z_W 997 236 14 [(0, .ref 143), (1, .int (xs 4))] [] m _
  refine w_p h_m236 6 (pc' := 22) (L' := [(0, .ref 143), (1, .int (xs 4))]) (st' := [.int ((48 : Int32) + ((xs 4) - (xs 4) / (10 : Int32) * (10 : Int32))), .ref 143]) rfl ?_
  refine w_cv (H.t rfl) (pc' := 25) (L' := [(0, .ref 143), (1, .int (xs 4))]) (rest := []) (Ps := [.int ((48 : Int32) + ((xs 4) - (xs 4) / (10 : Int32) * (10 : Int32)))]) (L0 := [(0, .ref 143), (1, .int ((48 : Int32) + ((xs 4) - (xs 4) / (10 : Int32) * (10 : Int32))))]) h_m236 (z_at.mk 3 rfl rfl) (Or.inl ⟨rfl, rfl⟩) rfl rfl (by decide) (by decide) rfl rfl rfl rfl rfl rfl (by decide) rfl rfl rfl ?_
  refine w_p h_m234 1 (pc' := 1) (L' := [(0, .ref 143), (1, .int ((48 : Int32) + ((xs 4) - (xs 4) / (10 : Int32) * (10 : Int32))))]) (st' := [.ref 143]) rfl ?_
  refine w_gf H (pc' := 4) (L' := [(0, .ref 143), (1, .int ((48 : Int32) + ((xs 4) - (xs 4) / (10 : Int32) * (10 : Int32))))]) h_m234 (z_at.mk 3 rfl rfl) rfl (u := .ref 163) rfl rfl rfl ?_
  refine w_p h_m234 1 (pc' := 5) (L' := [(0, .ref 143), (1, .int ((48 : Int32) + ((xs 4) - (xs 4) / (10 : Int32) * (10 : Int32))))]) (st' := [.ref 143, .ref 163]) rfl ?_
  refine w_gf H (pc' := 8) (L' := [(0, .ref 143), (1, .int ((48 : Int32) + ((xs 4) - (xs 4) / (10 : Int32) * (10 : Int32))))]) h_m234 (z_at.mk 3 rfl rfl) rfl (u := .int (14 : Int32)) rfl rfl rfl ?_
  refine w_p h_m234 1 (pc' := 9) (L' := [(0, .ref 143), (1, .int ((48 : Int32) + ((xs 4) - (xs 4) / (10 : Int32) * (10 : Int32))))]) (st' := [.int ((48 : Int32) + ((xs 4) - (xs 4) / (10 : Int32) * (10 : Int32))), .int (14 : Int32), .ref 163]) rfl ?_
  refine w_as H (t := 0) (j := 14) (u := .int ((48 : Int32) + ((xs 4) - (xs 4) / (10 : Int32) * (10 : Int32)))) (0, 40000, [(14, .int ((48 : Int32) + ((xs 4) - (xs 4) / (10 : Int32) * (10 : Int32)))), (13, .int ((48 : Int32) + (((xs 4) / (10 : Int32)) - ((xs 4) / (10 : Int32)) / (10 : Int32) * (10 : Int32)))), (12, .int (45 : Int32)), (11, .int ((48 : Int32) + ((xs 3) - (xs 3) / (10 : Int32) * (10 : Int32)))), (10, .int ((48 : Int32) + (((xs 3) / (10 : Int32)) - ((xs 3) / (10 : Int32)) / (10 : Int32) * (10 : Int32)))), (9, .int (44 : Int32)), (8, .int ((48 : Int32) + ((xs 2) - (xs 2) / (10 : Int32) * (10 : Int32)))), (7, .int ((48 : Int32) + (((xs 2) / (10 : Int32)) - ((xs 2) / (10 : Int32)) / (10 : Int32) * (10 : Int32)))), (6, .int (45 : Int32)), (5, .int ((48 : Int32) + ((xs 1) - (xs 1) / (10 : Int32) * (10 : Int32)))), (4, .int ((48 : Int32) + (((xs 1) / (10 : Int32)) - ((xs 1) / (10 : Int32)) / (10 : Int32) * (10 : Int32)))), (3, .int (32 : Int32)), (2, .int (107 : Int32)), (1, .int (115 : Int32)), (0, .int (97 : Int32))], some (.int (0 : Int32))) (pc' := 10) (L' := [(0, .ref 143), (1, .int ((48 : Int32) + ((xs 4) - (xs 4) / (10 : Int32) * (10 : Int32))))]) h_m234 (z_at.mk 1 rfl rfl) rfl rfl (w_ui _ _ (by decide)) rfl rfl rfl rfl ?_
  clear H m; intro m H
  refine w_p h_m234 2 (pc' := 12) (L' := [(0, .ref 143), (1, .int ((48 : Int32) + ((xs 4) - (xs 4) / (10 : Int32) * (10 : Int32))))]) (st' := [.ref 143, .ref 143]) rfl ?_
  refine w_gf H (pc' := 15) (L' := [(0, .ref 143), (1, .int ((48 : Int32) + ((xs 4) - (xs 4) / (10 : Int32) * (10 : Int32))))]) h_m234 (z_at.mk 3 rfl rfl) rfl (u := .int (14 : Int32)) rfl rfl rfl ?_
  refine w_p h_m234 2 (pc' := 17) (L' := [(0, .ref 143), (1, .int ((48 : Int32) + ((xs 4) - (xs 4) / (10 : Int32) * (10 : Int32))))]) (st' := [.int (15 : Int32), .ref 143]) rfl ?_
  refine w_pf H (22, 35, [(29, .int (15 : Int32)), (10, .int (1 : Int32)), (34, .ref 167), (33, .ref 166), (31, .ref 165), (30, .ref 164), (28, .ref 163), (26, .ref 162), (25, .ref 161), (24, .ref 160), (19, .ref 159), (18, .ref 158), (17, .ref 157), (16, .ref 156), (13, .ref 155), (12, .ref 154), (11, .ref 153), (9, .ref 152), (8, .ref 151), (7, .ref 150), (5, .ref 149), (4, .ref 148), (3, .ref 147), (2, .ref 146), (1, .ref 145), (0, .ref 144), (6, .int (0 : Int32)), (14, .int (0 : Int32)), (15, .int (0 : Int32)), (20, .int (0 : Int32)), (21, .int (0 : Int32)), (22, .int (0 : Int32)), (23, .int (0 : Int32)), (27, .int (0 : Int32)), (32, .int (0 : Int32))], none) (pc' := 20) (L' := [(0, .ref 143), (1, .int ((48 : Int32) + ((xs 4) - (xs 4) / (10 : Int32) * (10 : Int32))))]) h_m234 (z_at.mk 3 rfl rfl) rfl (by decide) rfl (Or.inl rfl) rfl rfl rfl ?_
  clear H m; intro m H
  refine w_rv h_m234 (z_at.mk 1 rfl rfl) rfl ?_
  show z_W 997 236 25 [(0, .ref 143), (1, .int (xs 4))] [] m _
  refine w_rv h_m236 (z_at.mk 1 rfl rfl) rfl ?_
  show z_W 998 237 52 [(0, .ref 143), (1, .ref 150), (2, .int (0 : Int32))] [] m _
  refine w_rv h_m237 (z_at.mk 1 rfl rfl) rfl ?_
  show z_W 999 239 180 [(0, .ref 143), (5, .int (0 : Int32)), (6, .int (0 : Int32))] [] m _
  refine w_p h_m239 2 (pc' := 183) (L' := [(0, .ref 143), (5, .int (0 : Int32)), (6, .int (0 : Int32))]) (st' := [.int (32 : Int32), .ref 143]) rfl ?_
  refine w_cv (H.t rfl) (pc' := 186) (L' := [(0, .ref 143), (5, .int (0 : Int32)), (6, .int (0 : Int32))]) (rest := []) (Ps := [.int (32 : Int32)]) (L0 := [(0, .ref 143), (1, .int (32 : Int32))]) h_m239 (z_at.mk 3 rfl rfl) (Or.inl ⟨rfl, rfl⟩) rfl rfl (by decide) (by decide) rfl rfl rfl rfl rfl rfl (by decide) rfl rfl rfl ?_
  refine w_p h_m234 1 (pc' := 1) (L' := [(0, .ref 143), (1, .int (32 : Int32))]) (st' := [.ref 143]) rfl ?_
  refine w_gf H (pc' := 4) (L' := [(0, .ref 143), (1, .int (32 : Int32))]) h_m234 (z_at.mk 3 rfl rfl) rfl (u := .ref 163) rfl rfl rfl ?_
  refine w_p h_m234 1 (pc' := 5) (L' := [(0, .ref 143), (1, .int (32 : Int32))]) (st' := [.ref 143, .ref 163]) rfl ?_
  refine w_gf H (pc' := 8) (L' := [(0, .ref 143), (1, .int (32 : Int32))]) h_m234 (z_at.mk 3 rfl rfl) rfl (u := .int (15 : Int32)) rfl rfl rfl ?_
  refine w_p h_m234 1 (pc' := 9) (L' := [(0, .ref 143), (1, .int (32 : Int32))]) (st' := [.int (32 : Int32), .int (15 : Int32), .ref 163]) rfl ?_
  refine w_as H (t := 0) (j := 15) (u := .int (32 : Int32)) (0, 40000, [(15, .int (32 : Int32)), (14, .int ((48 : Int32) + ((xs 4) - (xs 4) / (10 : Int32) * (10 : Int32)))), (13, .int ((48 : Int32) + (((xs 4) / (10 : Int32)) - ((xs 4) / (10 : Int32)) / (10 : Int32) * (10 : Int32)))), (12, .int (45 : Int32)), (11, .int ((48 : Int32) + ((xs 3) - (xs 3) / (10 : Int32) * (10 : Int32)))), (10, .int ((48 : Int32) + (((xs 3) / (10 : Int32)) - ((xs 3) / (10 : Int32)) / (10 : Int32) * (10 : Int32)))), (9, .int (44 : Int32)), (8, .int ((48 : Int32) + ((xs 2) - (xs 2) / (10 : Int32) * (10 : Int32)))), (7, .int ((48 : Int32) + (((xs 2) / (10 : Int32)) - ((xs 2) / (10 : Int32)) / (10 : Int32) * (10 : Int32)))), (6, .int (45 : Int32)), (5, .int ((48 : Int32) + ((xs 1) - (xs 1) / (10 : Int32) * (10 : Int32)))), (4, .int ((48 : Int32) + (((xs 1) / (10 : Int32)) - ((xs 1) / (10 : Int32)) / (10 : Int32) * (10 : Int32)))), (3, .int (32 : Int32)), (2, .int (107 : Int32)), (1, .int (115 : Int32)), (0, .int (97 : Int32))], some (.int (0 : Int32))) (pc' := 10) (L' := [(0, .ref 143), (1, .int (32 : Int32))]) h_m234 (z_at.mk 1 rfl rfl) rfl rfl (w_ui _ _ (by decide)) rfl rfl rfl rfl ?_
  clear H m; intro m H
  refine w_p h_m234 2 (pc' := 12) (L' := [(0, .ref 143), (1, .int (32 : Int32))]) (st' := [.ref 143, .ref 143]) rfl ?_
  refine w_gf H (pc' := 15) (L' := [(0, .ref 143), (1, .int (32 : Int32))]) h_m234 (z_at.mk 3 rfl rfl) rfl (u := .int (15 : Int32)) rfl rfl rfl ?_
  refine w_p h_m234 2 (pc' := 17) (L' := [(0, .ref 143), (1, .int (32 : Int32))]) (st' := [.int (16 : Int32), .ref 143]) rfl ?_
  refine w_pf H (22, 35, [(29, .int (16 : Int32)), (10, .int (1 : Int32)), (34, .ref 167), (33, .ref 166), (31, .ref 165), (30, .ref 164), (28, .ref 163), (26, .ref 162), (25, .ref 161), (24, .ref 160), (19, .ref 159), (18, .ref 158), (17, .ref 157), (16, .ref 156), (13, .ref 155), (12, .ref 154), (11, .ref 153), (9, .ref 152), (8, .ref 151), (7, .ref 150), (5, .ref 149), (4, .ref 148), (3, .ref 147), (2, .ref 146), (1, .ref 145), (0, .ref 144), (6, .int (0 : Int32)), (14, .int (0 : Int32)), (15, .int (0 : Int32)), (20, .int (0 : Int32)), (21, .int (0 : Int32)), (22, .int (0 : Int32)), (23, .int (0 : Int32)), (27, .int (0 : Int32)), (32, .int (0 : Int32))], none) (pc' := 20) (L' := [(0, .ref 143), (1, .int (32 : Int32))]) h_m234 (z_at.mk 3 rfl rfl) rfl (by decide) rfl (Or.inl rfl) rfl rfl rfl ?_
  clear H m; intro m H
  refine w_rv h_m234 (z_at.mk 1 rfl rfl) rfl ?_
  show z_W 999 239 186 [(0, .ref 143), (5, .int (0 : Int32)), (6, .int (0 : Int32))] [] m _
  refine w_p h_m239 3 (pc' := 189) (L' := [(0, .ref 143), (5, .int (0 : Int32)), (6, .int (0 : Int32))]) (st' := [.ref 143, .ref 143, .ref 143]) rfl ?_
  refine w_gf H (pc' := 192) (L' := [(0, .ref 143), (5, .int (0 : Int32)), (6, .int (0 : Int32))]) h_m239 (z_at.mk 3 rfl rfl) rfl (u := .ref 150) rfl rfl rfl ?_
  refine w_p h_m239 3 (pc' := 196) (L' := [(0, .ref 143), (5, .int (0 : Int32)), (6, .int (0 : Int32))]) (st' := [.int (0 : Int32), .ref 150, .ref 143, .ref 143]) rfl ?_
  refine w_cv (H.t rfl) (pc' := 199) (L' := [(0, .ref 143), (5, .int (0 : Int32)), (6, .int (0 : Int32))]) (rest := [.ref 143]) (Ps := [.ref 150, .int (0 : Int32)]) (L0 := [(0, .ref 143), (1, .ref 150), (2, .int (0 : Int32))]) h_m239 (z_at.mk 3 rfl rfl) (Or.inl ⟨rfl, rfl⟩) rfl rfl (by decide) (by decide) rfl rfl rfl rfl rfl rfl (by decide) rfl rfl rfl ?_
  refine w_p h_m177 1 (pc' := 1) (L' := [(0, .ref 143), (1, .ref 150), (2, .int (0 : Int32))]) (st' := [.ref 143]) rfl ?_
  refine w_gf H (pc' := 4) (L' := [(0, .ref 143), (1, .ref 150), (2, .int (0 : Int32))]) h_m177 (z_at.mk 3 rfl rfl) rfl (u := .ref 144) rfl rfl rfl ?_
  refine w_p h_m177 1 (pc' := 6) (L' := [(0, .ref 143), (1, .ref 150), (2, .int (0 : Int32))]) (st' := [.int (11 : Int32), .ref 144]) rfl ?_
  refine w_al H (t := 0) (j := 11) (pc' := 7) (L' := [(0, .ref 143), (1, .ref 150), (2, .int (0 : Int32))]) h_m177 (z_at.mk 1 rfl rfl) rfl rfl rfl (u := .int (10 : Int32)) rfl rfl rfl ?_
  refine w_p h_m177 3 (pc' := 10) (L' := [(0, .ref 143), (1, .ref 150), (2, .int (0 : Int32))]) (st' := [.int (0 : Int32), .ref 150, .ref 143, .int (10 : Int32)]) rfl ?_
  refine w_cv (H.t rfl) (pc' := 13) (L' := [(0, .ref 143), (1, .ref 150), (2, .int (0 : Int32))]) (rest := [.int (10 : Int32)]) (Ps := [.ref 150, .int (0 : Int32)]) (L0 := [(0, .ref 143), (1, .ref 150), (2, .int (0 : Int32))]) h_m177 (z_at.mk 3 rfl rfl) (Or.inl ⟨rfl, rfl⟩) rfl rfl (by decide) (by decide) rfl rfl rfl rfl rfl rfl (by decide) rfl rfl rfl ?_
  refine w_ri0 H rfl rfl rfl ?_
  clear H m; intro m H
  show z_W 998 177 13 [(0, .ref 143), (1, .ref 150), (2, .int (0 : Int32))] [.int (0 : Int32), .int (10 : Int32)] m _
  refine w_p h_m177 1 (pc' := 14) (L' := [(0, .ref 143), (1, .ref 150), (2, .int (0 : Int32))]) (st' := [.int (10 : Int32)]) rfl ?_
  refine w_ri h_m177 (z_at.mk 1 rfl rfl) rfl rfl ?_
  show z_W 999 239 199 [(0, .ref 143), (5, .int (0 : Int32)), (6, .int (0 : Int32))] [.int (10 : Int32), .ref 143] m _
  refine w_cv (H.t rfl) (pc' := 202) (L' := [(0, .ref 143), (5, .int (0 : Int32)), (6, .int (0 : Int32))]) (rest := []) (Ps := [.int (10 : Int32)]) (L0 := [(0, .ref 143), (1, .int (10 : Int32))]) h_m239 (z_at.mk 3 rfl rfl) (Or.inl ⟨rfl, rfl⟩) rfl rfl (by decide) (by decide) rfl rfl rfl rfl rfl rfl (by decide) rfl rfl rfl ?_
  refine w_p h_m236 7 (pc' := 11) (L' := [(0, .ref 143), (1, .int (10 : Int32))]) (st' := [.int (1 : Int32), .ref 143]) rfl ?_
  refine w_cv (H.t rfl) (pc' := 14) (L' := [(0, .ref 143), (1, .int (10 : Int32))]) (rest := []) (Ps := [.int (1 : Int32)]) (L0 := [(0, .ref 143), (1, .int (1 : Int32))]) h_m236 (z_at.mk 3 rfl rfl) (Or.inl ⟨rfl, rfl⟩) rfl rfl (by decide) (by decide) rfl rfl rfl rfl rfl rfl (by decide) rfl rfl rfl ?_
  refine w_p h_m236 9 (pc' := 22) (L' := [(0, .ref 143), (1, .int (1 : Int32))]) (st' := [.int (49 : Int32), .ref 143]) rfl ?_
  refine w_cv (H.t rfl) (pc' := 25) (L' := [(0, .ref 143), (1, .int (1 : Int32))]) (rest := []) (Ps := [.int (49 : Int32)]) (L0 := [(0, .ref 143), (1, .int (49 : Int32))]) h_m236 (z_at.mk 3 rfl rfl) (Or.inl ⟨rfl, rfl⟩) rfl rfl (by decide) (by decide) rfl rfl rfl rfl rfl rfl (by decide) rfl rfl rfl ?_
  refine w_p h_m234 1 (pc' := 1) (L' := [(0, .ref 143), (1, .int (49 : Int32))]) (st' := [.ref 143]) rfl ?_
  refine w_gf H (pc' := 4) (L' := [(0, .ref 143), (1, .int (49 : Int32))]) h_m234 (z_at.mk 3 rfl rfl) rfl (u := .ref 163) rfl rfl rfl ?_
  refine w_p h_m234 1 (pc' := 5) (L' := [(0, .ref 143), (1, .int (49 : Int32))]) (st' := [.ref 143, .ref 163]) rfl ?_
  refine w_gf H (pc' := 8) (L' := [(0, .ref 143), (1, .int (49 : Int32))]) h_m234 (z_at.mk 3 rfl rfl) rfl (u := .int (16 : Int32)) rfl rfl rfl ?_
  refine w_p h_m234 1 (pc' := 9) (L' := [(0, .ref 143), (1, .int (49 : Int32))]) (st' := [.int (49 : Int32), .int (16 : Int32), .ref 163]) rfl ?_
  refine w_as H (t := 0) (j := 16) (u := .int (49 : Int32)) (0, 40000, [(16, .int (49 : Int32)), (15, .int (32 : Int32)), (14, .int ((48 : Int32) + ((xs 4) - (xs 4) / (10 : Int32) * (10 : Int32)))), (13, .int ((48 : Int32) + (((xs 4) / (10 : Int32)) - ((xs 4) / (10 : Int32)) / (10 : Int32) * (10 : Int32)))), (12, .int (45 : Int32)), (11, .int ((48 : Int32) + ((xs 3) - (xs 3) / (10 : Int32) * (10 : Int32)))), (10, .int ((48 : Int32) + (((xs 3) / (10 : Int32)) - ((xs 3) / (10 : Int32)) / (10 : Int32) * (10 : Int32)))), (9, .int (44 : Int32)), (8, .int ((48 : Int32) + ((xs 2) - (xs 2) / (10 : Int32) * (10 : Int32)))), (7, .int ((48 : Int32) + (((xs 2) / (10 : Int32)) - ((xs 2) / (10 : Int32)) / (10 : Int32) * (10 : Int32)))), (6, .int (45 : Int32)), (5, .int ((48 : Int32) + ((xs 1) - (xs 1) / (10 : Int32) * (10 : Int32)))), (4, .int ((48 : Int32) + (((xs 1) / (10 : Int32)) - ((xs 1) / (10 : Int32)) / (10 : Int32) * (10 : Int32)))), (3, .int (32 : Int32)), (2, .int (107 : Int32)), (1, .int (115 : Int32)), (0, .int (97 : Int32))], some (.int (0 : Int32))) (pc' := 10) (L' := [(0, .ref 143), (1, .int (49 : Int32))]) h_m234 (z_at.mk 1 rfl rfl) rfl rfl (w_ui _ _ (by decide)) rfl rfl rfl rfl ?_
  clear H m; intro m H
  refine w_p h_m234 2 (pc' := 12) (L' := [(0, .ref 143), (1, .int (49 : Int32))]) (st' := [.ref 143, .ref 143]) rfl ?_
  refine w_gf H (pc' := 15) (L' := [(0, .ref 143), (1, .int (49 : Int32))]) h_m234 (z_at.mk 3 rfl rfl) rfl (u := .int (16 : Int32)) rfl rfl rfl ?_
  refine w_p h_m234 2 (pc' := 17) (L' := [(0, .ref 143), (1, .int (49 : Int32))]) (st' := [.int (17 : Int32), .ref 143]) rfl ?_
  refine w_pf H (22, 35, [(29, .int (17 : Int32)), (10, .int (1 : Int32)), (34, .ref 167), (33, .ref 166), (31, .ref 165), (30, .ref 164), (28, .ref 163), (26, .ref 162), (25, .ref 161), (24, .ref 160), (19, .ref 159), (18, .ref 158), (17, .ref 157), (16, .ref 156), (13, .ref 155), (12, .ref 154), (11, .ref 153), (9, .ref 152), (8, .ref 151), (7, .ref 150), (5, .ref 149), (4, .ref 148), (3, .ref 147), (2, .ref 146), (1, .ref 145), (0, .ref 144), (6, .int (0 : Int32)), (14, .int (0 : Int32)), (15, .int (0 : Int32)), (20, .int (0 : Int32)), (21, .int (0 : Int32)), (22, .int (0 : Int32)), (23, .int (0 : Int32)), (27, .int (0 : Int32)), (32, .int (0 : Int32))], none) (pc' := 20) (L' := [(0, .ref 143), (1, .int (49 : Int32))]) h_m234 (z_at.mk 3 rfl rfl) rfl (by decide) rfl (Or.inl rfl) rfl rfl rfl ?_
  clear H m; intro m H
  refine w_rv h_m234 (z_at.mk 1 rfl rfl) rfl ?_
  show z_W 997 236 25 [(0, .ref 143), (1, .int (1 : Int32))] [] m _
  refine w_rv h_m236 (z_at.mk 1 rfl rfl) rfl ?_
  show z_W 998 236 14 [(0, .ref 143), (1, .int (10 : Int32))] [] m _
  refine w_p h_m236 6 (pc' := 22) (L' := [(0, .ref 143), (1, .int (10 : Int32))]) (st' := [.int (48 : Int32), .ref 143]) rfl ?_
  refine w_cv (H.t rfl) (pc' := 25) (L' := [(0, .ref 143), (1, .int (10 : Int32))]) (rest := []) (Ps := [.int (48 : Int32)]) (L0 := [(0, .ref 143), (1, .int (48 : Int32))]) h_m236 (z_at.mk 3 rfl rfl) (Or.inl ⟨rfl, rfl⟩) rfl rfl (by decide) (by decide) rfl rfl rfl rfl rfl rfl (by decide) rfl rfl rfl ?_
  refine w_p h_m234 1 (pc' := 1) (L' := [(0, .ref 143), (1, .int (48 : Int32))]) (st' := [.ref 143]) rfl ?_
  refine w_gf H (pc' := 4) (L' := [(0, .ref 143), (1, .int (48 : Int32))]) h_m234 (z_at.mk 3 rfl rfl) rfl (u := .ref 163) rfl rfl rfl ?_
  refine w_p h_m234 1 (pc' := 5) (L' := [(0, .ref 143), (1, .int (48 : Int32))]) (st' := [.ref 143, .ref 163]) rfl ?_
  refine w_gf H (pc' := 8) (L' := [(0, .ref 143), (1, .int (48 : Int32))]) h_m234 (z_at.mk 3 rfl rfl) rfl (u := .int (17 : Int32)) rfl rfl rfl ?_
  refine w_p h_m234 1 (pc' := 9) (L' := [(0, .ref 143), (1, .int (48 : Int32))]) (st' := [.int (48 : Int32), .int (17 : Int32), .ref 163]) rfl ?_
  refine w_as H (t := 0) (j := 17) (u := .int (48 : Int32)) (0, 40000, [(17, .int (48 : Int32)), (16, .int (49 : Int32)), (15, .int (32 : Int32)), (14, .int ((48 : Int32) + ((xs 4) - (xs 4) / (10 : Int32) * (10 : Int32)))), (13, .int ((48 : Int32) + (((xs 4) / (10 : Int32)) - ((xs 4) / (10 : Int32)) / (10 : Int32) * (10 : Int32)))), (12, .int (45 : Int32)), (11, .int ((48 : Int32) + ((xs 3) - (xs 3) / (10 : Int32) * (10 : Int32)))), (10, .int ((48 : Int32) + (((xs 3) / (10 : Int32)) - ((xs 3) / (10 : Int32)) / (10 : Int32) * (10 : Int32)))), (9, .int (44 : Int32)), (8, .int ((48 : Int32) + ((xs 2) - (xs 2) / (10 : Int32) * (10 : Int32)))), (7, .int ((48 : Int32) + (((xs 2) / (10 : Int32)) - ((xs 2) / (10 : Int32)) / (10 : Int32) * (10 : Int32)))), (6, .int (45 : Int32)), (5, .int ((48 : Int32) + ((xs 1) - (xs 1) / (10 : Int32) * (10 : Int32)))), (4, .int ((48 : Int32) + (((xs 1) / (10 : Int32)) - ((xs 1) / (10 : Int32)) / (10 : Int32) * (10 : Int32)))), (3, .int (32 : Int32)), (2, .int (107 : Int32)), (1, .int (115 : Int32)), (0, .int (97 : Int32))], some (.int (0 : Int32))) (pc' := 10) (L' := [(0, .ref 143), (1, .int (48 : Int32))]) h_m234 (z_at.mk 1 rfl rfl) rfl rfl (w_ui _ _ (by decide)) rfl rfl rfl rfl ?_
  clear H m; intro m H
  refine w_p h_m234 2 (pc' := 12) (L' := [(0, .ref 143), (1, .int (48 : Int32))]) (st' := [.ref 143, .ref 143]) rfl ?_
  refine w_gf H (pc' := 15) (L' := [(0, .ref 143), (1, .int (48 : Int32))]) h_m234 (z_at.mk 3 rfl rfl) rfl (u := .int (17 : Int32)) rfl rfl rfl ?_
  refine w_p h_m234 2 (pc' := 17) (L' := [(0, .ref 143), (1, .int (48 : Int32))]) (st' := [.int (18 : Int32), .ref 143]) rfl ?_
  refine w_pf H (22, 35, [(29, .int (18 : Int32)), (10, .int (1 : Int32)), (34, .ref 167), (33, .ref 166), (31, .ref 165), (30, .ref 164), (28, .ref 163), (26, .ref 162), (25, .ref 161), (24, .ref 160), (19, .ref 159), (18, .ref 158), (17, .ref 157), (16, .ref 156), (13, .ref 155), (12, .ref 154), (11, .ref 153), (9, .ref 152), (8, .ref 151), (7, .ref 150), (5, .ref 149), (4, .ref 148), (3, .ref 147), (2, .ref 146), (1, .ref 145), (0, .ref 144), (6, .int (0 : Int32)), (14, .int (0 : Int32)), (15, .int (0 : Int32)), (20, .int (0 : Int32)), (21, .int (0 : Int32)), (22, .int (0 : Int32)), (23, .int (0 : Int32)), (27, .int (0 : Int32)), (32, .int (0 : Int32))], none) (pc' := 20) (L' := [(0, .ref 143), (1, .int (48 : Int32))]) h_m234 (z_at.mk 3 rfl rfl) rfl (by decide) rfl (Or.inl rfl) rfl rfl rfl ?_
  clear H m; intro m H
  refine w_rv h_m234 (z_at.mk 1 rfl rfl) rfl ?_
  show z_W 998 236 25 [(0, .ref 143), (1, .int (10 : Int32))] [] m _
  refine w_rv h_m236 (z_at.mk 1 rfl rfl) rfl ?_
  show z_W 999 239 202 [(0, .ref 143), (5, .int (0 : Int32)), (6, .int (0 : Int32))] [] m _
  refine w_p h_m239 3 (pc' := 206) (L' := [(0, .ref 143), (5, .int (0 : Int32)), (6, .int (0 : Int32))]) (st' := [.ref 143, .ref 143, .int (0 : Int32)]) rfl ?_
  refine w_gf H (pc' := 209) (L' := [(0, .ref 143), (5, .int (0 : Int32)), (6, .int (0 : Int32))]) h_m239 (z_at.mk 3 rfl rfl) rfl (u := .ref 150) rfl rfl rfl ?_
  refine w_p h_m239 3 (pc' := 213) (L' := [(0, .ref 143), (5, .int (0 : Int32)), (6, .int (0 : Int32))]) (st' := [.int (0 : Int32), .ref 150, .ref 143, .int (0 : Int32)]) rfl ?_
  refine w_cv (H.t rfl) (pc' := 216) (L' := [(0, .ref 143), (5, .int (0 : Int32)), (6, .int (0 : Int32))]) (rest := [.int (0 : Int32)]) (Ps := [.ref 150, .int (0 : Int32)]) (L0 := [(0, .ref 143), (1, .ref 150), (2, .int (0 : Int32))]) h_m239 (z_at.mk 3 rfl rfl) (Or.inl ⟨rfl, rfl⟩) rfl rfl (by decide) (by decide) rfl rfl rfl rfl rfl rfl (by decide) rfl rfl rfl ?_
  refine w_p h_m177 1 (pc' := 1) (L' := [(0, .ref 143), (1, .ref 150), (2, .int (0 : Int32))]) (st' := [.ref 143]) rfl ?_
  refine w_gf H (pc' := 4) (L' := [(0, .ref 143), (1, .ref 150), (2, .int (0 : Int32))]) h_m177 (z_at.mk 3 rfl rfl) rfl (u := .ref 144) rfl rfl rfl ?_
  refine w_p h_m177 1 (pc' := 6) (L' := [(0, .ref 143), (1, .ref 150), (2, .int (0 : Int32))]) (st' := [.int (11 : Int32), .ref 144]) rfl ?_
  refine w_al H (t := 0) (j := 11) (pc' := 7) (L' := [(0, .ref 143), (1, .ref 150), (2, .int (0 : Int32))]) h_m177 (z_at.mk 1 rfl rfl) rfl rfl rfl (u := .int (10 : Int32)) rfl rfl rfl ?_
  refine w_p h_m177 3 (pc' := 10) (L' := [(0, .ref 143), (1, .ref 150), (2, .int (0 : Int32))]) (st' := [.int (0 : Int32), .ref 150, .ref 143, .int (10 : Int32)]) rfl ?_
  refine w_cv (H.t rfl) (pc' := 13) (L' := [(0, .ref 143), (1, .ref 150), (2, .int (0 : Int32))]) (rest := [.int (10 : Int32)]) (Ps := [.ref 150, .int (0 : Int32)]) (L0 := [(0, .ref 143), (1, .ref 150), (2, .int (0 : Int32))]) h_m177 (z_at.mk 3 rfl rfl) (Or.inl ⟨rfl, rfl⟩) rfl rfl (by decide) (by decide) rfl rfl rfl rfl rfl rfl (by decide) rfl rfl rfl ?_
  refine w_ri0 H rfl rfl rfl ?_
  clear H m; intro m H
  show z_W 998 177 13 [(0, .ref 143), (1, .ref 150), (2, .int (0 : Int32))] [.int (0 : Int32), .int (10 : Int32)] m _
  refine w_p h_m177 1 (pc' := 14) (L' := [(0, .ref 143), (1, .ref 150), (2, .int (0 : Int32))]) (st' := [.int (10 : Int32)]) rfl ?_
  refine w_ri h_m177 (z_at.mk 1 rfl rfl) rfl rfl ?_
  show z_W 999 239 216 [(0, .ref 143), (5, .int (0 : Int32)), (6, .int (0 : Int32))] [.int (10 : Int32), .int (0 : Int32)] m _
  refine w_p h_m239 4 (pc' := 222) (L' := [(5, .int (10 : Int32)), (0, .ref 143), (6, .int (0 : Int32))]) (st' := [.int (59 : Int32), .ref 143]) rfl ?_
  refine w_cv (H.t rfl) (pc' := 225) (L' := [(5, .int (10 : Int32)), (0, .ref 143), (6, .int (0 : Int32))]) (rest := []) (Ps := [.int (59 : Int32)]) (L0 := [(0, .ref 143), (1, .int (59 : Int32))]) h_m239 (z_at.mk 3 rfl rfl) (Or.inl ⟨rfl, rfl⟩) rfl rfl (by decide) (by decide) rfl rfl rfl rfl rfl rfl (by decide) rfl rfl rfl ?_
  refine w_p h_m234 1 (pc' := 1) (L' := [(0, .ref 143), (1, .int (59 : Int32))]) (st' := [.ref 143]) rfl ?_
  refine w_gf H (pc' := 4) (L' := [(0, .ref 143), (1, .int (59 : Int32))]) h_m234 (z_at.mk 3 rfl rfl) rfl (u := .ref 163) rfl rfl rfl ?_
  refine w_p h_m234 1 (pc' := 5) (L' := [(0, .ref 143), (1, .int (59 : Int32))]) (st' := [.ref 143, .ref 163]) rfl ?_
  refine w_gf H (pc' := 8) (L' := [(0, .ref 143), (1, .int (59 : Int32))]) h_m234 (z_at.mk 3 rfl rfl) rfl (u := .int (18 : Int32)) rfl rfl rfl ?_
  refine w_p h_m234 1 (pc' := 9) (L' := [(0, .ref 143), (1, .int (59 : Int32))]) (st' := [.int (59 : Int32), .int (18 : Int32), .ref 163]) rfl ?_
  refine w_as H (t := 0) (j := 18) (u := .int (59 : Int32)) (0, 40000, [(18, .int (59 : Int32)), (17, .int (48 : Int32)), (16, .int (49 : Int32)), (15, .int (32 : Int32)), (14, .int ((48 : Int32) + ((xs 4) - (xs 4) / (10 : Int32) * (10 : Int32)))), (13, .int ((48 : Int32) + (((xs 4) / (10 : Int32)) - ((xs 4) / (10 : Int32)) / (10 : Int32) * (10 : Int32)))), (12, .int (45 : Int32)), (11, .int ((48 : Int32) + ((xs 3) - (xs 3) / (10 : Int32) * (10 : Int32)))), (10, .int ((48 : Int32) + (((xs 3) / (10 : Int32)) - ((xs 3) / (10 : Int32)) / (10 : Int32) * (10 : Int32)))), (9, .int (44 : Int32)), (8, .int ((48 : Int32) + ((xs 2) - (xs 2) / (10 : Int32) * (10 : Int32)))), (7, .int ((48 : Int32) + (((xs 2) / (10 : Int32)) - ((xs 2) / (10 : Int32)) / (10 : Int32) * (10 : Int32)))), (6, .int (45 : Int32)), (5, .int ((48 : Int32) + ((xs 1) - (xs 1) / (10 : Int32) * (10 : Int32)))), (4, .int ((48 : Int32) + (((xs 1) / (10 : Int32)) - ((xs 1) / (10 : Int32)) / (10 : Int32) * (10 : Int32)))), (3, .int (32 : Int32)), (2, .int (107 : Int32)), (1, .int (115 : Int32)), (0, .int (97 : Int32))], some (.int (0 : Int32))) (pc' := 10) (L' := [(0, .ref 143), (1, .int (59 : Int32))]) h_m234 (z_at.mk 1 rfl rfl) rfl rfl (w_ui _ _ (by decide)) rfl rfl rfl rfl ?_
  clear H m; intro m H
  refine w_p h_m234 2 (pc' := 12) (L' := [(0, .ref 143), (1, .int (59 : Int32))]) (st' := [.ref 143, .ref 143]) rfl ?_
  refine w_gf H (pc' := 15) (L' := [(0, .ref 143), (1, .int (59 : Int32))]) h_m234 (z_at.mk 3 rfl rfl) rfl (u := .int (18 : Int32)) rfl rfl rfl ?_
  refine w_p h_m234 2 (pc' := 17) (L' := [(0, .ref 143), (1, .int (59 : Int32))]) (st' := [.int (19 : Int32), .ref 143]) rfl ?_
  refine w_pf H (22, 35, [(29, .int (19 : Int32)), (10, .int (1 : Int32)), (34, .ref 167), (33, .ref 166), (31, .ref 165), (30, .ref 164), (28, .ref 163), (26, .ref 162), (25, .ref 161), (24, .ref 160), (19, .ref 159), (18, .ref 158), (17, .ref 157), (16, .ref 156), (13, .ref 155), (12, .ref 154), (11, .ref 153), (9, .ref 152), (8, .ref 151), (7, .ref 150), (5, .ref 149), (4, .ref 148), (3, .ref 147), (2, .ref 146), (1, .ref 145), (0, .ref 144), (6, .int (0 : Int32)), (14, .int (0 : Int32)), (15, .int (0 : Int32)), (20, .int (0 : Int32)), (21, .int (0 : Int32)), (22, .int (0 : Int32)), (23, .int (0 : Int32)), (27, .int (0 : Int32)), (32, .int (0 : Int32))], none) (pc' := 20) (L' := [(0, .ref 143), (1, .int (59 : Int32))]) h_m234 (z_at.mk 3 rfl rfl) rfl (by decide) rfl (Or.inl rfl) rfl rfl rfl ?_
  clear H m; intro m H
  refine w_rv h_m234 (z_at.mk 1 rfl rfl) rfl ?_
  show z_W 999 239 225 [(5, .int (10 : Int32)), (0, .ref 143), (6, .int (0 : Int32))] [] m _
  refine w_p h_m239 4 (pc' := 155) (L' := [(0, .ref 143), (5, .int (10 : Int32)), (6, .int (1 : Int32))]) (st' := [.ref 143, .int (1 : Int32)]) rfl ?_
  refine w_gf H (pc' := 158) (L' := [(0, .ref 143), (5, .int (10 : Int32)), (6, .int (1 : Int32))]) h_m239 (z_at.mk 3 rfl rfl) rfl (u := .int (1 : Int32)) rfl rfl rfl ?_
  refine w_p h_m239 3 (pc' := 235) (L' := [(0, .ref 143), (5, .int (10 : Int32)), (6, .int (1 : Int32))]) (st' := [.ref 18, .ref 143]) rfl ?_
  refine w_cv (H.t rfl) (pc' := 238) (L' := [(0, .ref 143), (5, .int (10 : Int32)), (6, .int (1 : Int32))]) (rest := []) (Ps := [.ref 18]) (L0 := [(0, .ref 143), (1, .ref 18)]) h_m239 (z_at.mk 3 rfl rfl) (Or.inl ⟨rfl, rfl⟩) rfl rfl (by decide) (by decide) rfl rfl rfl rfl rfl rfl (by decide) rfl rfl rfl ?_
  refine w_p h_m235 4 (pc' := 4) (L' := [(0, .ref 143), (1, .ref 18), (2, .int (0 : Int32))]) (st' := [.ref 18, .int (0 : Int32)]) rfl ?_
  refine w_cv (H.te (by decide) rfl).1 (pc' := 7) (L' := [(0, .ref 143), (1, .ref 18), (2, .int (0 : Int32))]) (rest := [.int (0 : Int32)]) (Ps := []) (L0 := [(0, .ref 18)]) h_m235 (z_at.mk 3 rfl rfl) (Or.inl ⟨rfl, rfl⟩) rfl rfl (by decide) (by decide) rfl rfl rfl rfl rfl rfl (by decide) rfl rfl rfl ?_
  refine w_p h_m293 1 (pc' := 1) (L' := [(0, .ref 18)]) (st' := [.ref 18]) rfl ?_
  refine w_gs H (pc' := 4) (L' := [(0, .ref 18)]) h_m293 (z_at.mk 3 rfl rfl) rfl (by decide) rfl rfl rfl rfl ?_
  refine w_lene H (x := (4 : Int32)) (pc' := 5) (L' := [(0, .ref 18)]) h_m293 (z_at.mk 1 rfl rfl) (by decide) rfl (by decide) rfl rfl rfl ?_
  refine w_p h_m293 1 (pc' := 6) (L' := [(0, .ref 18)]) (st' := [.ref 18, .int (4 : Int32)]) rfl ?_
  refine w_cv (H.te (by decide) rfl).1 (pc' := 9) (L' := [(0, .ref 18)]) (rest := [.int (4 : Int32)]) (Ps := []) (L0 := [(0, .ref 18)]) h_m293 (z_at.mk 3 rfl rfl) (Or.inl ⟨rfl, rfl⟩) rfl rfl (by decide) (by decide) rfl rfl rfl rfl rfl rfl (by decide) rfl rfl rfl ?_
  refine w_p h_m298 3 (pc' := 7) (L' := [(0, .ref 18)]) (st' := [.ref 18]) rfl ?_
  refine w_gs H (pc' := 10) (L' := [(0, .ref 18)]) h_m298 (z_at.mk 3 rfl rfl) rfl (by decide) rfl rfl rfl rfl ?_
  refine w_p h_m298 1 (pc' := 14) (L' := []) (st' := [.int (0 : Int32)]) rfl ?_
  refine w_ri h_m298 (z_at.mk 1 rfl rfl) rfl rfl ?_
  show z_W 997 293 9 [(0, .ref 18)] [.int (0 : Int32), .int (4 : Int32)] m _
  refine w_p h_m293 1 (pc' := 10) (L' := [(0, .ref 18)]) (st' := [.int (4 : Int32)]) rfl ?_
  refine w_ri h_m293 (z_at.mk 1 rfl rfl) rfl rfl ?_
  show z_W 998 235 7 [(0, .ref 143), (1, .ref 18), (2, .int (0 : Int32))] [.int (4 : Int32), .int (0 : Int32)] m _
  refine w_p h_m235 4 (pc' := 13) (L' := [(0, .ref 143), (1, .ref 18), (2, .int (0 : Int32))]) (st' := [.int (0 : Int32), .ref 18, .ref 143]) rfl ?_
  refine w_cv (H.te (by decide) rfl).1 (pc' := 16) (L' := [(0, .ref 143), (1, .ref 18), (2, .int (0 : Int32))]) (rest := [.ref 143]) (Ps := [.int (0 : Int32)]) (L0 := [(0, .ref 18), (1, .int (0 : Int32))]) h_m235 (z_at.mk 3 rfl rfl) (Or.inl ⟨rfl, rfl⟩) rfl rfl (by decide) (by decide) rfl rfl rfl rfl rfl rfl (by decide) rfl rfl rfl ?_
  refine w_p h_m294 1 (pc' := 1) (L' := [(0, .ref 18), (1, .int (0 : Int32))]) (st' := [.ref 18]) rfl ?_
  refine w_cv (H.te (by decide) rfl).1 (pc' := 4) (L' := [(0, .ref 18), (1, .int (0 : Int32))]) (rest := []) (Ps := []) (L0 := [(0, .ref 18)]) h_m294 (z_at.mk 3 rfl rfl) (Or.inl ⟨rfl, rfl⟩) rfl rfl (by decide) (by decide) rfl rfl rfl rfl rfl rfl (by decide) rfl rfl rfl ?_
  refine w_p h_m299 3 (pc' := 7) (L' := [(0, .ref 18)]) (st' := [.ref 18]) rfl ?_
  refine w_gs H (pc' := 10) (L' := [(0, .ref 18)]) h_m299 (z_at.mk 3 rfl rfl) rfl (by decide) rfl rfl rfl rfl ?_
  refine w_p h_m299 3 (pc' := 18) (L' := []) (st' := [.int (1 : Int32)]) rfl ?_
  refine w_ri h_m299 (z_at.mk 1 rfl rfl) rfl rfl ?_
  show z_W 997 294 4 [(0, .ref 18), (1, .int (0 : Int32))] [.int (1 : Int32)] m _
  refine w_p h_m294 2 (pc' := 8) (L' := [(0, .ref 18), (1, .int (0 : Int32))]) (st' := [.ref 18]) rfl ?_
  refine w_gs H (pc' := 11) (L' := [(0, .ref 18), (1, .int (0 : Int32))]) h_m294 (z_at.mk 3 rfl rfl) rfl (by decide) rfl rfl rfl rfl ?_
  refine w_p h_m294 1 (pc' := 12) (L' := [(0, .ref 18), (1, .int (0 : Int32))]) (st' := [.int (0 : Int32), .ref 36]) rfl ?_
  refine w_cs (As := [.ref 36, .int (0 : Int32)]) (rest := []) (j := 308) (L0 := [(0, .ref 36), (1, .int (0 : Int32))]) (pc' := 15) (L' := [(0, .ref 18), (1, .int (0 : Int32))]) h_m294 (z_at.mk 3 rfl rfl) (Or.inl ⟨rfl, rfl⟩) rfl rfl rfl rfl rfl ?_
  refine w_p h_m308 2 (pc' := 2) (L' := [(0, .ref 36), (1, .int (0 : Int32))]) (st' := [.ref 36, .int (0 : Int32)]) rfl ?_
  refine w_lene H (x := (4 : Int32)) (pc' := 3) (L' := [(0, .ref 36), (1, .int (0 : Int32))]) h_m308 (z_at.mk 1 rfl rfl) (by decide) rfl (by decide) rfl rfl rfl ?_
  refine w_ci (pc' := 6) (L' := [(0, .ref 36), (1, .int (0 : Int32))]) h_m308 (z_at.mk 3 rfl rfl) rfl (z_cat_le 0 rfl (by decide)) ⟨by decide, by decide⟩ rfl rfl ?_
  refine w_p h_m308 2 (pc' := 8) (L' := [(0, .ref 36), (1, .int (0 : Int32))]) (st' := [.int (0 : Int32), .ref 36]) rfl ?_
  refine w_ae H (j := 0) (pc' := 9) (L' := [(0, .ref 36), (1, .int (0 : Int32))]) h_m308 (z_at.mk 1 rfl rfl) rfl rfl rfl (by decide) rfl (by decide) rfl rfl rfl ?_
  refine w_p h_m308 3 (pc' := 14) (L' := [(0, .ref 36), (1, .int (0 : Int32))]) (st' := [.int (112 : Int32)]) rfl ?_
  refine w_ri h_m308 (z_at.mk 1 rfl rfl) rfl rfl ?_
  show z_W 997 294 15 [(0, .ref 18), (1, .int (0 : Int32))] [.int (112 : Int32)] m _
  refine w_ri h_m294 (z_at.mk 1 rfl rfl) rfl rfl ?_
  show z_W 998 235 16 [(0, .ref 143), (1, .ref 18), (2, .int (0 : Int32))] [.int (112 : Int32), .ref 143] m _
  refine w_cv (H.t rfl) (pc' := 19) (L' := [(0, .ref 143), (1, .ref 18), (2, .int (0 : Int32))]) (rest := []) (Ps := [.int (112 : Int32)]) (L0 := [(0, .ref 143), (1, .int (112 : Int32))]) h_m235 (z_at.mk 3 rfl rfl) (Or.inl ⟨rfl, rfl⟩) rfl rfl (by decide) (by decide) rfl rfl rfl rfl rfl rfl (by decide) rfl rfl rfl ?_
  refine w_p h_m234 1 (pc' := 1) (L' := [(0, .ref 143), (1, .int (112 : Int32))]) (st' := [.ref 143]) rfl ?_
  refine w_gf H (pc' := 4) (L' := [(0, .ref 143), (1, .int (112 : Int32))]) h_m234 (z_at.mk 3 rfl rfl) rfl (u := .ref 163) rfl rfl rfl ?_
  refine w_p h_m234 1 (pc' := 5) (L' := [(0, .ref 143), (1, .int (112 : Int32))]) (st' := [.ref 143, .ref 163]) rfl ?_
  refine w_gf H (pc' := 8) (L' := [(0, .ref 143), (1, .int (112 : Int32))]) h_m234 (z_at.mk 3 rfl rfl) rfl (u := .int (19 : Int32)) rfl rfl rfl ?_
  refine w_p h_m234 1 (pc' := 9) (L' := [(0, .ref 143), (1, .int (112 : Int32))]) (st' := [.int (112 : Int32), .int (19 : Int32), .ref 163]) rfl ?_
  refine w_as H (t := 0) (j := 19) (u := .int (112 : Int32)) (0, 40000, [(19, .int (112 : Int32)), (18, .int (59 : Int32)), (17, .int (48 : Int32)), (16, .int (49 : Int32)), (15, .int (32 : Int32)), (14, .int ((48 : Int32) + ((xs 4) - (xs 4) / (10 : Int32) * (10 : Int32)))), (13, .int ((48 : Int32) + (((xs 4) / (10 : Int32)) - ((xs 4) / (10 : Int32)) / (10 : Int32) * (10 : Int32)))), (12, .int (45 : Int32)), (11, .int ((48 : Int32) + ((xs 3) - (xs 3) / (10 : Int32) * (10 : Int32)))), (10, .int ((48 : Int32) + (((xs 3) / (10 : Int32)) - ((xs 3) / (10 : Int32)) / (10 : Int32) * (10 : Int32)))), (9, .int (44 : Int32)), (8, .int ((48 : Int32) + ((xs 2) - (xs 2) / (10 : Int32) * (10 : Int32)))), (7, .int ((48 : Int32) + (((xs 2) / (10 : Int32)) - ((xs 2) / (10 : Int32)) / (10 : Int32) * (10 : Int32)))), (6, .int (45 : Int32)), (5, .int ((48 : Int32) + ((xs 1) - (xs 1) / (10 : Int32) * (10 : Int32)))), (4, .int ((48 : Int32) + (((xs 1) / (10 : Int32)) - ((xs 1) / (10 : Int32)) / (10 : Int32) * (10 : Int32)))), (3, .int (32 : Int32)), (2, .int (107 : Int32)), (1, .int (115 : Int32)), (0, .int (97 : Int32))], some (.int (0 : Int32))) (pc' := 10) (L' := [(0, .ref 143), (1, .int (112 : Int32))]) h_m234 (z_at.mk 1 rfl rfl) rfl rfl (w_ui _ _ (by decide)) rfl rfl rfl rfl ?_
  clear H m; intro m H
  refine w_p h_m234 2 (pc' := 12) (L' := [(0, .ref 143), (1, .int (112 : Int32))]) (st' := [.ref 143, .ref 143]) rfl ?_
  refine w_gf H (pc' := 15) (L' := [(0, .ref 143), (1, .int (112 : Int32))]) h_m234 (z_at.mk 3 rfl rfl) rfl (u := .int (19 : Int32)) rfl rfl rfl ?_
  refine w_p h_m234 2 (pc' := 17) (L' := [(0, .ref 143), (1, .int (112 : Int32))]) (st' := [.int (20 : Int32), .ref 143]) rfl ?_
  refine w_pf H (22, 35, [(29, .int (20 : Int32)), (10, .int (1 : Int32)), (34, .ref 167), (33, .ref 166), (31, .ref 165), (30, .ref 164), (28, .ref 163), (26, .ref 162), (25, .ref 161), (24, .ref 160), (19, .ref 159), (18, .ref 158), (17, .ref 157), (16, .ref 156), (13, .ref 155), (12, .ref 154), (11, .ref 153), (9, .ref 152), (8, .ref 151), (7, .ref 150), (5, .ref 149), (4, .ref 148), (3, .ref 147), (2, .ref 146), (1, .ref 145), (0, .ref 144), (6, .int (0 : Int32)), (14, .int (0 : Int32)), (15, .int (0 : Int32)), (20, .int (0 : Int32)), (21, .int (0 : Int32)), (22, .int (0 : Int32)), (23, .int (0 : Int32)), (27, .int (0 : Int32)), (32, .int (0 : Int32))], none) (pc' := 20) (L' := [(0, .ref 143), (1, .int (112 : Int32))]) h_m234 (z_at.mk 3 rfl rfl) rfl (by decide) rfl (Or.inl rfl) rfl rfl rfl ?_
  clear H m; intro m H
  refine w_rv h_m234 (z_at.mk 1 rfl rfl) rfl ?_
  show z_W 998 235 19 [(0, .ref 143), (1, .ref 18), (2, .int (0 : Int32))] [] m _
  refine w_p h_m235 4 (pc' := 4) (L' := [(0, .ref 143), (1, .ref 18), (2, .int (1 : Int32))]) (st' := [.ref 18, .int (1 : Int32)]) rfl ?_
  refine w_cv (H.te (by decide) rfl).1 (pc' := 7) (L' := [(0, .ref 143), (1, .ref 18), (2, .int (1 : Int32))]) (rest := [.int (1 : Int32)]) (Ps := []) (L0 := [(0, .ref 18)]) h_m235 (z_at.mk 3 rfl rfl) (Or.inl ⟨rfl, rfl⟩) rfl rfl (by decide) (by decide) rfl rfl rfl rfl rfl rfl (by decide) rfl rfl rfl ?_
  refine w_p h_m293 1 (pc' := 1) (L' := [(0, .ref 18)]) (st' := [.ref 18]) rfl ?_
  refine w_gs H (pc' := 4) (L' := [(0, .ref 18)]) h_m293 (z_at.mk 3 rfl rfl) rfl (by decide) rfl rfl rfl rfl ?_
  refine w_lene H (x := (4 : Int32)) (pc' := 5) (L' := [(0, .ref 18)]) h_m293 (z_at.mk 1 rfl rfl) (by decide) rfl (by decide) rfl rfl rfl ?_
  refine w_p h_m293 1 (pc' := 6) (L' := [(0, .ref 18)]) (st' := [.ref 18, .int (4 : Int32)]) rfl ?_
  refine w_cv (H.te (by decide) rfl).1 (pc' := 9) (L' := [(0, .ref 18)]) (rest := [.int (4 : Int32)]) (Ps := []) (L0 := [(0, .ref 18)]) h_m293 (z_at.mk 3 rfl rfl) (Or.inl ⟨rfl, rfl⟩) rfl rfl (by decide) (by decide) rfl rfl rfl rfl rfl rfl (by decide) rfl rfl rfl ?_
  refine w_p h_m298 3 (pc' := 7) (L' := [(0, .ref 18)]) (st' := [.ref 18]) rfl ?_
  refine w_gs H (pc' := 10) (L' := [(0, .ref 18)]) h_m298 (z_at.mk 3 rfl rfl) rfl (by decide) rfl rfl rfl rfl ?_
  refine w_p h_m298 1 (pc' := 14) (L' := []) (st' := [.int (0 : Int32)]) rfl ?_
  refine w_ri h_m298 (z_at.mk 1 rfl rfl) rfl rfl ?_
  show z_W 997 293 9 [(0, .ref 18)] [.int (0 : Int32), .int (4 : Int32)] m _
  refine w_p h_m293 1 (pc' := 10) (L' := [(0, .ref 18)]) (st' := [.int (4 : Int32)]) rfl ?_
  refine w_ri h_m293 (z_at.mk 1 rfl rfl) rfl rfl ?_
  show z_W 998 235 7 [(0, .ref 143), (1, .ref 18), (2, .int (1 : Int32))] [.int (4 : Int32), .int (1 : Int32)] m _
  refine w_p h_m235 4 (pc' := 13) (L' := [(0, .ref 143), (1, .ref 18), (2, .int (1 : Int32))]) (st' := [.int (1 : Int32), .ref 18, .ref 143]) rfl ?_
  refine w_cv (H.te (by decide) rfl).1 (pc' := 16) (L' := [(0, .ref 143), (1, .ref 18), (2, .int (1 : Int32))]) (rest := [.ref 143]) (Ps := [.int (1 : Int32)]) (L0 := [(0, .ref 18), (1, .int (1 : Int32))]) h_m235 (z_at.mk 3 rfl rfl) (Or.inl ⟨rfl, rfl⟩) rfl rfl (by decide) (by decide) rfl rfl rfl rfl rfl rfl (by decide) rfl rfl rfl ?_
  refine w_p h_m294 1 (pc' := 1) (L' := [(0, .ref 18), (1, .int (1 : Int32))]) (st' := [.ref 18]) rfl ?_
  refine w_cv (H.te (by decide) rfl).1 (pc' := 4) (L' := [(0, .ref 18), (1, .int (1 : Int32))]) (rest := []) (Ps := []) (L0 := [(0, .ref 18)]) h_m294 (z_at.mk 3 rfl rfl) (Or.inl ⟨rfl, rfl⟩) rfl rfl (by decide) (by decide) rfl rfl rfl rfl rfl rfl (by decide) rfl rfl rfl ?_
  refine w_p h_m299 3 (pc' := 7) (L' := [(0, .ref 18)]) (st' := [.ref 18]) rfl ?_
  refine w_gs H (pc' := 10) (L' := [(0, .ref 18)]) h_m299 (z_at.mk 3 rfl rfl) rfl (by decide) rfl rfl rfl rfl ?_
  refine w_p h_m299 3 (pc' := 18) (L' := []) (st' := [.int (1 : Int32)]) rfl ?_
  refine w_ri h_m299 (z_at.mk 1 rfl rfl) rfl rfl ?_
  show z_W 997 294 4 [(0, .ref 18), (1, .int (1 : Int32))] [.int (1 : Int32)] m _
  refine w_p h_m294 2 (pc' := 8) (L' := [(0, .ref 18), (1, .int (1 : Int32))]) (st' := [.ref 18]) rfl ?_
  refine w_gs H (pc' := 11) (L' := [(0, .ref 18), (1, .int (1 : Int32))]) h_m294 (z_at.mk 3 rfl rfl) rfl (by decide) rfl rfl rfl rfl ?_
  refine w_p h_m294 1 (pc' := 12) (L' := [(0, .ref 18), (1, .int (1 : Int32))]) (st' := [.int (1 : Int32), .ref 36]) rfl ?_
  refine w_cs (As := [.ref 36, .int (1 : Int32)]) (rest := []) (j := 308) (L0 := [(0, .ref 36), (1, .int (1 : Int32))]) (pc' := 15) (L' := [(0, .ref 18), (1, .int (1 : Int32))]) h_m294 (z_at.mk 3 rfl rfl) (Or.inl ⟨rfl, rfl⟩) rfl rfl rfl rfl rfl ?_
  refine w_p h_m308 2 (pc' := 2) (L' := [(0, .ref 36), (1, .int (1 : Int32))]) (st' := [.ref 36, .int (1 : Int32)]) rfl ?_
  refine w_lene H (x := (4 : Int32)) (pc' := 3) (L' := [(0, .ref 36), (1, .int (1 : Int32))]) h_m308 (z_at.mk 1 rfl rfl) (by decide) rfl (by decide) rfl rfl rfl ?_
  refine w_ci (pc' := 6) (L' := [(0, .ref 36), (1, .int (1 : Int32))]) h_m308 (z_at.mk 3 rfl rfl) rfl (z_cat_le 0 rfl (by decide)) ⟨by decide, by decide⟩ rfl rfl ?_
  refine w_p h_m308 2 (pc' := 8) (L' := [(0, .ref 36), (1, .int (1 : Int32))]) (st' := [.int (1 : Int32), .ref 36]) rfl ?_
  refine w_ae H (j := 1) (pc' := 9) (L' := [(0, .ref 36), (1, .int (1 : Int32))]) h_m308 (z_at.mk 1 rfl rfl) rfl rfl rfl (by decide) rfl (by decide) rfl rfl rfl ?_
  refine w_p h_m308 3 (pc' := 14) (L' := [(0, .ref 36), (1, .int (1 : Int32))]) (st' := [.int (97 : Int32)]) rfl ?_
  refine w_ri h_m308 (z_at.mk 1 rfl rfl) rfl rfl ?_
  show z_W 997 294 15 [(0, .ref 18), (1, .int (1 : Int32))] [.int (97 : Int32)] m _
  refine w_ri h_m294 (z_at.mk 1 rfl rfl) rfl rfl ?_
  show z_W 998 235 16 [(0, .ref 143), (1, .ref 18), (2, .int (1 : Int32))] [.int (97 : Int32), .ref 143] m _
  refine w_cv (H.t rfl) (pc' := 19) (L' := [(0, .ref 143), (1, .ref 18), (2, .int (1 : Int32))]) (rest := []) (Ps := [.int (97 : Int32)]) (L0 := [(0, .ref 143), (1, .int (97 : Int32))]) h_m235 (z_at.mk 3 rfl rfl) (Or.inl ⟨rfl, rfl⟩) rfl rfl (by decide) (by decide) rfl rfl rfl rfl rfl rfl (by decide) rfl rfl rfl ?_
  refine w_p h_m234 1 (pc' := 1) (L' := [(0, .ref 143), (1, .int (97 : Int32))]) (st' := [.ref 143]) rfl ?_
  refine w_gf H (pc' := 4) (L' := [(0, .ref 143), (1, .int (97 : Int32))]) h_m234 (z_at.mk 3 rfl rfl) rfl (u := .ref 163) rfl rfl rfl ?_
  refine w_p h_m234 1 (pc' := 5) (L' := [(0, .ref 143), (1, .int (97 : Int32))]) (st' := [.ref 143, .ref 163]) rfl ?_
  refine w_gf H (pc' := 8) (L' := [(0, .ref 143), (1, .int (97 : Int32))]) h_m234 (z_at.mk 3 rfl rfl) rfl (u := .int (20 : Int32)) rfl rfl rfl ?_
  refine w_p h_m234 1 (pc' := 9) (L' := [(0, .ref 143), (1, .int (97 : Int32))]) (st' := [.int (97 : Int32), .int (20 : Int32), .ref 163]) rfl ?_
  refine w_as H (t := 0) (j := 20) (u := .int (97 : Int32)) (0, 40000, [(20, .int (97 : Int32)), (19, .int (112 : Int32)), (18, .int (59 : Int32)), (17, .int (48 : Int32)), (16, .int (49 : Int32)), (15, .int (32 : Int32)), (14, .int ((48 : Int32) + ((xs 4) - (xs 4) / (10 : Int32) * (10 : Int32)))), (13, .int ((48 : Int32) + (((xs 4) / (10 : Int32)) - ((xs 4) / (10 : Int32)) / (10 : Int32) * (10 : Int32)))), (12, .int (45 : Int32)), (11, .int ((48 : Int32) + ((xs 3) - (xs 3) / (10 : Int32) * (10 : Int32)))), (10, .int ((48 : Int32) + (((xs 3) / (10 : Int32)) - ((xs 3) / (10 : Int32)) / (10 : Int32) * (10 : Int32)))), (9, .int (44 : Int32)), (8, .int ((48 : Int32) + ((xs 2) - (xs 2) / (10 : Int32) * (10 : Int32)))), (7, .int ((48 : Int32) + (((xs 2) / (10 : Int32)) - ((xs 2) / (10 : Int32)) / (10 : Int32) * (10 : Int32)))), (6, .int (45 : Int32)), (5, .int ((48 : Int32) + ((xs 1) - (xs 1) / (10 : Int32) * (10 : Int32)))), (4, .int ((48 : Int32) + (((xs 1) / (10 : Int32)) - ((xs 1) / (10 : Int32)) / (10 : Int32) * (10 : Int32)))), (3, .int (32 : Int32)), (2, .int (107 : Int32)), (1, .int (115 : Int32)), (0, .int (97 : Int32))], some (.int (0 : Int32))) (pc' := 10) (L' := [(0, .ref 143), (1, .int (97 : Int32))]) h_m234 (z_at.mk 1 rfl rfl) rfl rfl (w_ui _ _ (by decide)) rfl rfl rfl rfl ?_
  clear H m; intro m H
  refine w_p h_m234 2 (pc' := 12) (L' := [(0, .ref 143), (1, .int (97 : Int32))]) (st' := [.ref 143, .ref 143]) rfl ?_
  refine w_gf H (pc' := 15) (L' := [(0, .ref 143), (1, .int (97 : Int32))]) h_m234 (z_at.mk 3 rfl rfl) rfl (u := .int (20 : Int32)) rfl rfl rfl ?_
  refine w_p h_m234 2 (pc' := 17) (L' := [(0, .ref 143), (1, .int (97 : Int32))]) (st' := [.int (21 : Int32), .ref 143]) rfl ?_
  refine w_pf H (22, 35, [(29, .int (21 : Int32)), (10, .int (1 : Int32)), (34, .ref 167), (33, .ref 166), (31, .ref 165), (30, .ref 164), (28, .ref 163), (26, .ref 162), (25, .ref 161), (24, .ref 160), (19, .ref 159), (18, .ref 158), (17, .ref 157), (16, .ref 156), (13, .ref 155), (12, .ref 154), (11, .ref 153), (9, .ref 152), (8, .ref 151), (7, .ref 150), (5, .ref 149), (4, .ref 148), (3, .ref 147), (2, .ref 146), (1, .ref 145), (0, .ref 144), (6, .int (0 : Int32)), (14, .int (0 : Int32)), (15, .int (0 : Int32)), (20, .int (0 : Int32)), (21, .int (0 : Int32)), (22, .int (0 : Int32)), (23, .int (0 : Int32)), (27, .int (0 : Int32)), (32, .int (0 : Int32))], none) (pc' := 20) (L' := [(0, .ref 143), (1, .int (97 : Int32))]) h_m234 (z_at.mk 3 rfl rfl) rfl (by decide) rfl (Or.inl rfl) rfl rfl rfl ?_
  clear H m; intro m H
  refine w_rv h_m234 (z_at.mk 1 rfl rfl) rfl ?_
  show z_W 998 235 19 [(0, .ref 143), (1, .ref 18), (2, .int (1 : Int32))] [] m _
  refine w_p h_m235 4 (pc' := 4) (L' := [(0, .ref 143), (1, .ref 18), (2, .int (2 : Int32))]) (st' := [.ref 18, .int (2 : Int32)]) rfl ?_
  refine w_cv (H.te (by decide) rfl).1 (pc' := 7) (L' := [(0, .ref 143), (1, .ref 18), (2, .int (2 : Int32))]) (rest := [.int (2 : Int32)]) (Ps := []) (L0 := [(0, .ref 18)]) h_m235 (z_at.mk 3 rfl rfl) (Or.inl ⟨rfl, rfl⟩) rfl rfl (by decide) (by decide) rfl rfl rfl rfl rfl rfl (by decide) rfl rfl rfl ?_
  refine w_p h_m293 1 (pc' := 1) (L' := [(0, .ref 18)]) (st' := [.ref 18]) rfl ?_
  refine w_gs H (pc' := 4) (L' := [(0, .ref 18)]) h_m293 (z_at.mk 3 rfl rfl) rfl (by decide) rfl rfl rfl rfl ?_
  refine w_lene H (x := (4 : Int32)) (pc' := 5) (L' := [(0, .ref 18)]) h_m293 (z_at.mk 1 rfl rfl) (by decide) rfl (by decide) rfl rfl rfl ?_
  refine w_p h_m293 1 (pc' := 6) (L' := [(0, .ref 18)]) (st' := [.ref 18, .int (4 : Int32)]) rfl ?_
  refine w_cv (H.te (by decide) rfl).1 (pc' := 9) (L' := [(0, .ref 18)]) (rest := [.int (4 : Int32)]) (Ps := []) (L0 := [(0, .ref 18)]) h_m293 (z_at.mk 3 rfl rfl) (Or.inl ⟨rfl, rfl⟩) rfl rfl (by decide) (by decide) rfl rfl rfl rfl rfl rfl (by decide) rfl rfl rfl ?_
  refine w_p h_m298 3 (pc' := 7) (L' := [(0, .ref 18)]) (st' := [.ref 18]) rfl ?_
  refine w_gs H (pc' := 10) (L' := [(0, .ref 18)]) h_m298 (z_at.mk 3 rfl rfl) rfl (by decide) rfl rfl rfl rfl ?_
  refine w_p h_m298 1 (pc' := 14) (L' := []) (st' := [.int (0 : Int32)]) rfl ?_
  refine w_ri h_m298 (z_at.mk 1 rfl rfl) rfl rfl ?_
  show z_W 997 293 9 [(0, .ref 18)] [.int (0 : Int32), .int (4 : Int32)] m _
  refine w_p h_m293 1 (pc' := 10) (L' := [(0, .ref 18)]) (st' := [.int (4 : Int32)]) rfl ?_
  refine w_ri h_m293 (z_at.mk 1 rfl rfl) rfl rfl ?_
  show z_W 998 235 7 [(0, .ref 143), (1, .ref 18), (2, .int (2 : Int32))] [.int (4 : Int32), .int (2 : Int32)] m _
  refine w_p h_m235 4 (pc' := 13) (L' := [(0, .ref 143), (1, .ref 18), (2, .int (2 : Int32))]) (st' := [.int (2 : Int32), .ref 18, .ref 143]) rfl ?_
  refine w_cv (H.te (by decide) rfl).1 (pc' := 16) (L' := [(0, .ref 143), (1, .ref 18), (2, .int (2 : Int32))]) (rest := [.ref 143]) (Ps := [.int (2 : Int32)]) (L0 := [(0, .ref 18), (1, .int (2 : Int32))]) h_m235 (z_at.mk 3 rfl rfl) (Or.inl ⟨rfl, rfl⟩) rfl rfl (by decide) (by decide) rfl rfl rfl rfl rfl rfl (by decide) rfl rfl rfl ?_
  refine w_p h_m294 1 (pc' := 1) (L' := [(0, .ref 18), (1, .int (2 : Int32))]) (st' := [.ref 18]) rfl ?_
  refine w_cv (H.te (by decide) rfl).1 (pc' := 4) (L' := [(0, .ref 18), (1, .int (2 : Int32))]) (rest := []) (Ps := []) (L0 := [(0, .ref 18)]) h_m294 (z_at.mk 3 rfl rfl) (Or.inl ⟨rfl, rfl⟩) rfl rfl (by decide) (by decide) rfl rfl rfl rfl rfl rfl (by decide) rfl rfl rfl ?_
  refine w_p h_m299 3 (pc' := 7) (L' := [(0, .ref 18)]) (st' := [.ref 18]) rfl ?_
  refine w_gs H (pc' := 10) (L' := [(0, .ref 18)]) h_m299 (z_at.mk 3 rfl rfl) rfl (by decide) rfl rfl rfl rfl ?_
  refine w_p h_m299 3 (pc' := 18) (L' := []) (st' := [.int (1 : Int32)]) rfl ?_
  refine w_ri h_m299 (z_at.mk 1 rfl rfl) rfl rfl ?_
  show z_W 997 294 4 [(0, .ref 18), (1, .int (2 : Int32))] [.int (1 : Int32)] m _
  refine w_p h_m294 2 (pc' := 8) (L' := [(0, .ref 18), (1, .int (2 : Int32))]) (st' := [.ref 18]) rfl ?_
  refine w_gs H (pc' := 11) (L' := [(0, .ref 18), (1, .int (2 : Int32))]) h_m294 (z_at.mk 3 rfl rfl) rfl (by decide) rfl rfl rfl rfl ?_
  refine w_p h_m294 1 (pc' := 12) (L' := [(0, .ref 18), (1, .int (2 : Int32))]) (st' := [.int (2 : Int32), .ref 36]) rfl ?_
  refine w_cs (As := [.ref 36, .int (2 : Int32)]) (rest := []) (j := 308) (L0 := [(0, .ref 36), (1, .int (2 : Int32))]) (pc' := 15) (L' := [(0, .ref 18), (1, .int (2 : Int32))]) h_m294 (z_at.mk 3 rfl rfl) (Or.inl ⟨rfl, rfl⟩) rfl rfl rfl rfl rfl ?_
  refine w_p h_m308 2 (pc' := 2) (L' := [(0, .ref 36), (1, .int (2 : Int32))]) (st' := [.ref 36, .int (2 : Int32)]) rfl ?_
  refine w_lene H (x := (4 : Int32)) (pc' := 3) (L' := [(0, .ref 36), (1, .int (2 : Int32))]) h_m308 (z_at.mk 1 rfl rfl) (by decide) rfl (by decide) rfl rfl rfl ?_
  refine w_ci (pc' := 6) (L' := [(0, .ref 36), (1, .int (2 : Int32))]) h_m308 (z_at.mk 3 rfl rfl) rfl (z_cat_le 0 rfl (by decide)) ⟨by decide, by decide⟩ rfl rfl ?_
  refine w_p h_m308 2 (pc' := 8) (L' := [(0, .ref 36), (1, .int (2 : Int32))]) (st' := [.int (2 : Int32), .ref 36]) rfl ?_
  refine w_ae H (j := 2) (pc' := 9) (L' := [(0, .ref 36), (1, .int (2 : Int32))]) h_m308 (z_at.mk 1 rfl rfl) rfl rfl rfl (by decide) rfl (by decide) rfl rfl rfl ?_
  refine w_p h_m308 3 (pc' := 14) (L' := [(0, .ref 36), (1, .int (2 : Int32))]) (st' := [.int (121 : Int32)]) rfl ?_
  refine w_ri h_m308 (z_at.mk 1 rfl rfl) rfl rfl ?_
  show z_W 997 294 15 [(0, .ref 18), (1, .int (2 : Int32))] [.int (121 : Int32)] m _
  refine w_ri h_m294 (z_at.mk 1 rfl rfl) rfl rfl ?_
  show z_W 998 235 16 [(0, .ref 143), (1, .ref 18), (2, .int (2 : Int32))] [.int (121 : Int32), .ref 143] m _
  refine w_cv (H.t rfl) (pc' := 19) (L' := [(0, .ref 143), (1, .ref 18), (2, .int (2 : Int32))]) (rest := []) (Ps := [.int (121 : Int32)]) (L0 := [(0, .ref 143), (1, .int (121 : Int32))]) h_m235 (z_at.mk 3 rfl rfl) (Or.inl ⟨rfl, rfl⟩) rfl rfl (by decide) (by decide) rfl rfl rfl rfl rfl rfl (by decide) rfl rfl rfl ?_
  refine w_p h_m234 1 (pc' := 1) (L' := [(0, .ref 143), (1, .int (121 : Int32))]) (st' := [.ref 143]) rfl ?_
  refine w_gf H (pc' := 4) (L' := [(0, .ref 143), (1, .int (121 : Int32))]) h_m234 (z_at.mk 3 rfl rfl) rfl (u := .ref 163) rfl rfl rfl ?_
  refine w_p h_m234 1 (pc' := 5) (L' := [(0, .ref 143), (1, .int (121 : Int32))]) (st' := [.ref 143, .ref 163]) rfl ?_
  refine w_gf H (pc' := 8) (L' := [(0, .ref 143), (1, .int (121 : Int32))]) h_m234 (z_at.mk 3 rfl rfl) rfl (u := .int (21 : Int32)) rfl rfl rfl ?_
  refine w_p h_m234 1 (pc' := 9) (L' := [(0, .ref 143), (1, .int (121 : Int32))]) (st' := [.int (121 : Int32), .int (21 : Int32), .ref 163]) rfl ?_
  refine w_as H (t := 0) (j := 21) (u := .int (121 : Int32)) (0, 40000, [(21, .int (121 : Int32)), (20, .int (97 : Int32)), (19, .int (112 : Int32)), (18, .int (59 : Int32)), (17, .int (48 : Int32)), (16, .int (49 : Int32)), (15, .int (32 : Int32)), (14, .int ((48 : Int32) + ((xs 4) - (xs 4) / (10 : Int32) * (10 : Int32)))), (13, .int ((48 : Int32) + (((xs 4) / (10 : Int32)) - ((xs 4) / (10 : Int32)) / (10 : Int32) * (10 : Int32)))), (12, .int (45 : Int32)), (11, .int ((48 : Int32) + ((xs 3) - (xs 3) / (10 : Int32) * (10 : Int32)))), (10, .int ((48 : Int32) + (((xs 3) / (10 : Int32)) - ((xs 3) / (10 : Int32)) / (10 : Int32) * (10 : Int32)))), (9, .int (44 : Int32)), (8, .int ((48 : Int32) + ((xs 2) - (xs 2) / (10 : Int32) * (10 : Int32)))), (7, .int ((48 : Int32) + (((xs 2) / (10 : Int32)) - ((xs 2) / (10 : Int32)) / (10 : Int32) * (10 : Int32)))), (6, .int (45 : Int32)), (5, .int ((48 : Int32) + ((xs 1) - (xs 1) / (10 : Int32) * (10 : Int32)))), (4, .int ((48 : Int32) + (((xs 1) / (10 : Int32)) - ((xs 1) / (10 : Int32)) / (10 : Int32) * (10 : Int32)))), (3, .int (32 : Int32)), (2, .int (107 : Int32)), (1, .int (115 : Int32)), (0, .int (97 : Int32))], some (.int (0 : Int32))) (pc' := 10) (L' := [(0, .ref 143), (1, .int (121 : Int32))]) h_m234 (z_at.mk 1 rfl rfl) rfl rfl (w_ui _ _ (by decide)) rfl rfl rfl rfl ?_
  clear H m; intro m H
  refine w_p h_m234 2 (pc' := 12) (L' := [(0, .ref 143), (1, .int (121 : Int32))]) (st' := [.ref 143, .ref 143]) rfl ?_
  refine w_gf H (pc' := 15) (L' := [(0, .ref 143), (1, .int (121 : Int32))]) h_m234 (z_at.mk 3 rfl rfl) rfl (u := .int (21 : Int32)) rfl rfl rfl ?_
  refine w_p h_m234 2 (pc' := 17) (L' := [(0, .ref 143), (1, .int (121 : Int32))]) (st' := [.int (22 : Int32), .ref 143]) rfl ?_
  refine w_pf H (22, 35, [(29, .int (22 : Int32)), (10, .int (1 : Int32)), (34, .ref 167), (33, .ref 166), (31, .ref 165), (30, .ref 164), (28, .ref 163), (26, .ref 162), (25, .ref 161), (24, .ref 160), (19, .ref 159), (18, .ref 158), (17, .ref 157), (16, .ref 156), (13, .ref 155), (12, .ref 154), (11, .ref 153), (9, .ref 152), (8, .ref 151), (7, .ref 150), (5, .ref 149), (4, .ref 148), (3, .ref 147), (2, .ref 146), (1, .ref 145), (0, .ref 144), (6, .int (0 : Int32)), (14, .int (0 : Int32)), (15, .int (0 : Int32)), (20, .int (0 : Int32)), (21, .int (0 : Int32)), (22, .int (0 : Int32)), (23, .int (0 : Int32)), (27, .int (0 : Int32)), (32, .int (0 : Int32))], none) (pc' := 20) (L' := [(0, .ref 143), (1, .int (121 : Int32))]) h_m234 (z_at.mk 3 rfl rfl) rfl (by decide) rfl (Or.inl rfl) rfl rfl rfl ?_
  clear H m; intro m H
  refine w_rv h_m234 (z_at.mk 1 rfl rfl) rfl ?_
  show z_W 998 235 19 [(0, .ref 143), (1, .ref 18), (2, .int (2 : Int32))] [] m _
  refine w_p h_m235 4 (pc' := 4) (L' := [(0, .ref 143), (1, .ref 18), (2, .int (3 : Int32))]) (st' := [.ref 18, .int (3 : Int32)]) rfl ?_
  refine w_cv (H.te (by decide) rfl).1 (pc' := 7) (L' := [(0, .ref 143), (1, .ref 18), (2, .int (3 : Int32))]) (rest := [.int (3 : Int32)]) (Ps := []) (L0 := [(0, .ref 18)]) h_m235 (z_at.mk 3 rfl rfl) (Or.inl ⟨rfl, rfl⟩) rfl rfl (by decide) (by decide) rfl rfl rfl rfl rfl rfl (by decide) rfl rfl rfl ?_
  refine w_p h_m293 1 (pc' := 1) (L' := [(0, .ref 18)]) (st' := [.ref 18]) rfl ?_
  refine w_gs H (pc' := 4) (L' := [(0, .ref 18)]) h_m293 (z_at.mk 3 rfl rfl) rfl (by decide) rfl rfl rfl rfl ?_
  refine w_lene H (x := (4 : Int32)) (pc' := 5) (L' := [(0, .ref 18)]) h_m293 (z_at.mk 1 rfl rfl) (by decide) rfl (by decide) rfl rfl rfl ?_
  refine w_p h_m293 1 (pc' := 6) (L' := [(0, .ref 18)]) (st' := [.ref 18, .int (4 : Int32)]) rfl ?_
  refine w_cv (H.te (by decide) rfl).1 (pc' := 9) (L' := [(0, .ref 18)]) (rest := [.int (4 : Int32)]) (Ps := []) (L0 := [(0, .ref 18)]) h_m293 (z_at.mk 3 rfl rfl) (Or.inl ⟨rfl, rfl⟩) rfl rfl (by decide) (by decide) rfl rfl rfl rfl rfl rfl (by decide) rfl rfl rfl ?_
  refine w_p h_m298 3 (pc' := 7) (L' := [(0, .ref 18)]) (st' := [.ref 18]) rfl ?_
  refine w_gs H (pc' := 10) (L' := [(0, .ref 18)]) h_m298 (z_at.mk 3 rfl rfl) rfl (by decide) rfl rfl rfl rfl ?_
  refine w_p h_m298 1 (pc' := 14) (L' := []) (st' := [.int (0 : Int32)]) rfl ?_
  refine w_ri h_m298 (z_at.mk 1 rfl rfl) rfl rfl ?_
  show z_W 997 293 9 [(0, .ref 18)] [.int (0 : Int32), .int (4 : Int32)] m _
  refine w_p h_m293 1 (pc' := 10) (L' := [(0, .ref 18)]) (st' := [.int (4 : Int32)]) rfl ?_
  refine w_ri h_m293 (z_at.mk 1 rfl rfl) rfl rfl ?_
  show z_W 998 235 7 [(0, .ref 143), (1, .ref 18), (2, .int (3 : Int32))] [.int (4 : Int32), .int (3 : Int32)] m _
  refine w_p h_m235 4 (pc' := 13) (L' := [(0, .ref 143), (1, .ref 18), (2, .int (3 : Int32))]) (st' := [.int (3 : Int32), .ref 18, .ref 143]) rfl ?_
  refine w_cv (H.te (by decide) rfl).1 (pc' := 16) (L' := [(0, .ref 143), (1, .ref 18), (2, .int (3 : Int32))]) (rest := [.ref 143]) (Ps := [.int (3 : Int32)]) (L0 := [(0, .ref 18), (1, .int (3 : Int32))]) h_m235 (z_at.mk 3 rfl rfl) (Or.inl ⟨rfl, rfl⟩) rfl rfl (by decide) (by decide) rfl rfl rfl rfl rfl rfl (by decide) rfl rfl rfl ?_
  refine w_p h_m294 1 (pc' := 1) (L' := [(0, .ref 18), (1, .int (3 : Int32))]) (st' := [.ref 18]) rfl ?_
  refine w_cv (H.te (by decide) rfl).1 (pc' := 4) (L' := [(0, .ref 18), (1, .int (3 : Int32))]) (rest := []) (Ps := []) (L0 := [(0, .ref 18)]) h_m294 (z_at.mk 3 rfl rfl) (Or.inl ⟨rfl, rfl⟩) rfl rfl (by decide) (by decide) rfl rfl rfl rfl rfl rfl (by decide) rfl rfl rfl ?_
  refine w_p h_m299 3 (pc' := 7) (L' := [(0, .ref 18)]) (st' := [.ref 18]) rfl ?_
  refine w_gs H (pc' := 10) (L' := [(0, .ref 18)]) h_m299 (z_at.mk 3 rfl rfl) rfl (by decide) rfl rfl rfl rfl ?_
  refine w_p h_m299 3 (pc' := 18) (L' := []) (st' := [.int (1 : Int32)]) rfl ?_
  refine w_ri h_m299 (z_at.mk 1 rfl rfl) rfl rfl ?_
  show z_W 997 294 4 [(0, .ref 18), (1, .int (3 : Int32))] [.int (1 : Int32)] m _
  refine w_p h_m294 2 (pc' := 8) (L' := [(0, .ref 18), (1, .int (3 : Int32))]) (st' := [.ref 18]) rfl ?_
  refine w_gs H (pc' := 11) (L' := [(0, .ref 18), (1, .int (3 : Int32))]) h_m294 (z_at.mk 3 rfl rfl) rfl (by decide) rfl rfl rfl rfl ?_
  refine w_p h_m294 1 (pc' := 12) (L' := [(0, .ref 18), (1, .int (3 : Int32))]) (st' := [.int (3 : Int32), .ref 36]) rfl ?_
  refine w_cs (As := [.ref 36, .int (3 : Int32)]) (rest := []) (j := 308) (L0 := [(0, .ref 36), (1, .int (3 : Int32))]) (pc' := 15) (L' := [(0, .ref 18), (1, .int (3 : Int32))]) h_m294 (z_at.mk 3 rfl rfl) (Or.inl ⟨rfl, rfl⟩) rfl rfl rfl rfl rfl ?_
  refine w_p h_m308 2 (pc' := 2) (L' := [(0, .ref 36), (1, .int (3 : Int32))]) (st' := [.ref 36, .int (3 : Int32)]) rfl ?_
  refine w_lene H (x := (4 : Int32)) (pc' := 3) (L' := [(0, .ref 36), (1, .int (3 : Int32))]) h_m308 (z_at.mk 1 rfl rfl) (by decide) rfl (by decide) rfl rfl rfl ?_
  refine w_ci (pc' := 6) (L' := [(0, .ref 36), (1, .int (3 : Int32))]) h_m308 (z_at.mk 3 rfl rfl) rfl (z_cat_le 0 rfl (by decide)) ⟨by decide, by decide⟩ rfl rfl ?_
  refine w_p h_m308 2 (pc' := 8) (L' := [(0, .ref 36), (1, .int (3 : Int32))]) (st' := [.int (3 : Int32), .ref 36]) rfl ?_
  refine w_ae H (j := 3) (pc' := 9) (L' := [(0, .ref 36), (1, .int (3 : Int32))]) h_m308 (z_at.mk 1 rfl rfl) rfl rfl rfl (by decide) rfl (by decide) rfl rfl rfl ?_
  refine w_p h_m308 3 (pc' := 14) (L' := [(0, .ref 36), (1, .int (3 : Int32))]) (st' := [.int (32 : Int32)]) rfl ?_
  refine w_ri h_m308 (z_at.mk 1 rfl rfl) rfl rfl ?_
  show z_W 997 294 15 [(0, .ref 18), (1, .int (3 : Int32))] [.int (32 : Int32)] m _
  refine w_ri h_m294 (z_at.mk 1 rfl rfl) rfl rfl ?_
  show z_W 998 235 16 [(0, .ref 143), (1, .ref 18), (2, .int (3 : Int32))] [.int (32 : Int32), .ref 143] m _
  refine w_cv (H.t rfl) (pc' := 19) (L' := [(0, .ref 143), (1, .ref 18), (2, .int (3 : Int32))]) (rest := []) (Ps := [.int (32 : Int32)]) (L0 := [(0, .ref 143), (1, .int (32 : Int32))]) h_m235 (z_at.mk 3 rfl rfl) (Or.inl ⟨rfl, rfl⟩) rfl rfl (by decide) (by decide) rfl rfl rfl rfl rfl rfl (by decide) rfl rfl rfl ?_
  refine w_p h_m234 1 (pc' := 1) (L' := [(0, .ref 143), (1, .int (32 : Int32))]) (st' := [.ref 143]) rfl ?_
  refine w_gf H (pc' := 4) (L' := [(0, .ref 143), (1, .int (32 : Int32))]) h_m234 (z_at.mk 3 rfl rfl) rfl (u := .ref 163) rfl rfl rfl ?_
  refine w_p h_m234 1 (pc' := 5) (L' := [(0, .ref 143), (1, .int (32 : Int32))]) (st' := [.ref 143, .ref 163]) rfl ?_
  refine w_gf H (pc' := 8) (L' := [(0, .ref 143), (1, .int (32 : Int32))]) h_m234 (z_at.mk 3 rfl rfl) rfl (u := .int (22 : Int32)) rfl rfl rfl ?_
  refine w_p h_m234 1 (pc' := 9) (L' := [(0, .ref 143), (1, .int (32 : Int32))]) (st' := [.int (32 : Int32), .int (22 : Int32), .ref 163]) rfl ?_
  refine w_as H (t := 0) (j := 22) (u := .int (32 : Int32)) (0, 40000, [(22, .int (32 : Int32)), (21, .int (121 : Int32)), (20, .int (97 : Int32)), (19, .int (112 : Int32)), (18, .int (59 : Int32)), (17, .int (48 : Int32)), (16, .int (49 : Int32)), (15, .int (32 : Int32)), (14, .int ((48 : Int32) + ((xs 4) - (xs 4) / (10 : Int32) * (10 : Int32)))), (13, .int ((48 : Int32) + (((xs 4) / (10 : Int32)) - ((xs 4) / (10 : Int32)) / (10 : Int32) * (10 : Int32)))), (12, .int (45 : Int32)), (11, .int ((48 : Int32) + ((xs 3) - (xs 3) / (10 : Int32) * (10 : Int32)))), (10, .int ((48 : Int32) + (((xs 3) / (10 : Int32)) - ((xs 3) / (10 : Int32)) / (10 : Int32) * (10 : Int32)))), (9, .int (44 : Int32)), (8, .int ((48 : Int32) + ((xs 2) - (xs 2) / (10 : Int32) * (10 : Int32)))), (7, .int ((48 : Int32) + (((xs 2) / (10 : Int32)) - ((xs 2) / (10 : Int32)) / (10 : Int32) * (10 : Int32)))), (6, .int (45 : Int32)), (5, .int ((48 : Int32) + ((xs 1) - (xs 1) / (10 : Int32) * (10 : Int32)))), (4, .int ((48 : Int32) + (((xs 1) / (10 : Int32)) - ((xs 1) / (10 : Int32)) / (10 : Int32) * (10 : Int32)))), (3, .int (32 : Int32)), (2, .int (107 : Int32)), (1, .int (115 : Int32)), (0, .int (97 : Int32))], some (.int (0 : Int32))) (pc' := 10) (L' := [(0, .ref 143), (1, .int (32 : Int32))]) h_m234 (z_at.mk 1 rfl rfl) rfl rfl (w_ui _ _ (by decide)) rfl rfl rfl rfl ?_
  clear H m; intro m H
  refine w_p h_m234 2 (pc' := 12) (L' := [(0, .ref 143), (1, .int (32 : Int32))]) (st' := [.ref 143, .ref 143]) rfl ?_
  refine w_gf H (pc' := 15) (L' := [(0, .ref 143), (1, .int (32 : Int32))]) h_m234 (z_at.mk 3 rfl rfl) rfl (u := .int (22 : Int32)) rfl rfl rfl ?_
  refine w_p h_m234 2 (pc' := 17) (L' := [(0, .ref 143), (1, .int (32 : Int32))]) (st' := [.int (23 : Int32), .ref 143]) rfl ?_
  refine w_pf H (22, 35, [(29, .int (23 : Int32)), (10, .int (1 : Int32)), (34, .ref 167), (33, .ref 166), (31, .ref 165), (30, .ref 164), (28, .ref 163), (26, .ref 162), (25, .ref 161), (24, .ref 160), (19, .ref 159), (18, .ref 158), (17, .ref 157), (16, .ref 156), (13, .ref 155), (12, .ref 154), (11, .ref 153), (9, .ref 152), (8, .ref 151), (7, .ref 150), (5, .ref 149), (4, .ref 148), (3, .ref 147), (2, .ref 146), (1, .ref 145), (0, .ref 144), (6, .int (0 : Int32)), (14, .int (0 : Int32)), (15, .int (0 : Int32)), (20, .int (0 : Int32)), (21, .int (0 : Int32)), (22, .int (0 : Int32)), (23, .int (0 : Int32)), (27, .int (0 : Int32)), (32, .int (0 : Int32))], none) (pc' := 20) (L' := [(0, .ref 143), (1, .int (32 : Int32))]) h_m234 (z_at.mk 3 rfl rfl) rfl (by decide) rfl (Or.inl rfl) rfl rfl rfl ?_
  clear H m; intro m H
  refine w_rv h_m234 (z_at.mk 1 rfl rfl) rfl ?_
  show z_W 998 235 19 [(0, .ref 143), (1, .ref 18), (2, .int (3 : Int32))] [] m _
  refine w_p h_m235 4 (pc' := 4) (L' := [(0, .ref 143), (1, .ref 18), (2, .int (4 : Int32))]) (st' := [.ref 18, .int (4 : Int32)]) rfl ?_
  refine w_cv (H.te (by decide) rfl).1 (pc' := 7) (L' := [(0, .ref 143), (1, .ref 18), (2, .int (4 : Int32))]) (rest := [.int (4 : Int32)]) (Ps := []) (L0 := [(0, .ref 18)]) h_m235 (z_at.mk 3 rfl rfl) (Or.inl ⟨rfl, rfl⟩) rfl rfl (by decide) (by decide) rfl rfl rfl rfl rfl rfl (by decide) rfl rfl rfl ?_
  refine w_p h_m293 1 (pc' := 1) (L' := [(0, .ref 18)]) (st' := [.ref 18]) rfl ?_
  refine w_gs H (pc' := 4) (L' := [(0, .ref 18)]) h_m293 (z_at.mk 3 rfl rfl) rfl (by decide) rfl rfl rfl rfl ?_
  refine w_lene H (x := (4 : Int32)) (pc' := 5) (L' := [(0, .ref 18)]) h_m293 (z_at.mk 1 rfl rfl) (by decide) rfl (by decide) rfl rfl rfl ?_
  refine w_p h_m293 1 (pc' := 6) (L' := [(0, .ref 18)]) (st' := [.ref 18, .int (4 : Int32)]) rfl ?_
  refine w_cv (H.te (by decide) rfl).1 (pc' := 9) (L' := [(0, .ref 18)]) (rest := [.int (4 : Int32)]) (Ps := []) (L0 := [(0, .ref 18)]) h_m293 (z_at.mk 3 rfl rfl) (Or.inl ⟨rfl, rfl⟩) rfl rfl (by decide) (by decide) rfl rfl rfl rfl rfl rfl (by decide) rfl rfl rfl ?_
  refine w_p h_m298 3 (pc' := 7) (L' := [(0, .ref 18)]) (st' := [.ref 18]) rfl ?_
  refine w_gs H (pc' := 10) (L' := [(0, .ref 18)]) h_m298 (z_at.mk 3 rfl rfl) rfl (by decide) rfl rfl rfl rfl ?_
  refine w_p h_m298 1 (pc' := 14) (L' := []) (st' := [.int (0 : Int32)]) rfl ?_
  refine w_ri h_m298 (z_at.mk 1 rfl rfl) rfl rfl ?_
  show z_W 997 293 9 [(0, .ref 18)] [.int (0 : Int32), .int (4 : Int32)] m _
  refine w_p h_m293 1 (pc' := 10) (L' := [(0, .ref 18)]) (st' := [.int (4 : Int32)]) rfl ?_
  refine w_ri h_m293 (z_at.mk 1 rfl rfl) rfl rfl ?_
  show z_W 998 235 7 [(0, .ref 143), (1, .ref 18), (2, .int (4 : Int32))] [.int (4 : Int32), .int (4 : Int32)] m _
  refine w_p h_m235 1 (pc' := 25) (L' := [(0, .ref 143), (1, .ref 18), (2, .int (4 : Int32))]) (st' := []) rfl ?_
  refine w_rv h_m235 (z_at.mk 1 rfl rfl) rfl ?_
  show z_W 999 239 238 [(0, .ref 143), (5, .int (10 : Int32)), (6, .int (1 : Int32))] [] m _
  refine w_p h_m239 2 (pc' := 241) (L' := [(0, .ref 143), (5, .int (10 : Int32)), (6, .int (1 : Int32))]) (st' := [.int (10 : Int32), .ref 143]) rfl ?_
  refine w_cv (H.t rfl) (pc' := 244) (L' := [(0, .ref 143), (5, .int (10 : Int32)), (6, .int (1 : Int32))]) (rest := []) (Ps := [.int (10 : Int32)]) (L0 := [(0, .ref 143), (1, .int (10 : Int32))]) h_m239 (z_at.mk 3 rfl rfl) (Or.inl ⟨rfl, rfl⟩) rfl rfl (by decide) (by decide) rfl rfl rfl rfl rfl rfl (by decide) rfl rfl rfl ?_
  refine w_p h_m236 7 (pc' := 11) (L' := [(0, .ref 143), (1, .int (10 : Int32))]) (st' := [.int (1 : Int32), .ref 143]) rfl ?_
  refine w_cv (H.t rfl) (pc' := 14) (L' := [(0, .ref 143), (1, .int (10 : Int32))]) (rest := []) (Ps := [.int (1 : Int32)]) (L0 := [(0, .ref 143), (1, .int (1 : Int32))]) h_m236 (z_at.mk 3 rfl rfl) (Or.inl ⟨rfl, rfl⟩) rfl rfl (by decide) (by decide) rfl rfl rfl rfl rfl rfl (by decide) rfl rfl rfl ?_
  refine w_p h_m236 9 (pc' := 22) (L' := [(0, .ref 143), (1, .int (1 : Int32))]) (st' := [.int (49 : Int32), .ref 143]) rfl ?_
  refine w_cv (H.t rfl) (pc' := 25) (L' := [(0, .ref 143), (1, .int (1 : Int32))]) (rest := []) (Ps := [.int (49 : Int32)]) (L0 := [(0, .ref 143), (1, .int (49 : Int32))]) h_m236 (z_at.mk 3 rfl rfl) (Or.inl ⟨rfl, rfl⟩) rfl rfl (by decide) (by decide) rfl rfl rfl rfl rfl rfl (by decide) rfl rfl rfl ?_
  refine w_p h_m234 1 (pc' := 1) (L' := [(0, .ref 143), (1, .int (49 : Int32))]) (st' := [.ref 143]) rfl ?_
  refine w_gf H (pc' := 4) (L' := [(0, .ref 143), (1, .int (49 : Int32))]) h_m234 (z_at.mk 3 rfl rfl) rfl (u := .ref 163) rfl rfl rfl ?_
  refine w_p h_m234 1 (pc' := 5) (L' := [(0, .ref 143), (1, .int (49 : Int32))]) (st' := [.ref 143, .ref 163]) rfl ?_
  refine w_gf H (pc' := 8) (L' := [(0, .ref 143), (1, .int (49 : Int32))]) h_m234 (z_at.mk 3 rfl rfl) rfl (u := .int (23 : Int32)) rfl rfl rfl ?_
  refine w_p h_m234 1 (pc' := 9) (L' := [(0, .ref 143), (1, .int (49 : Int32))]) (st' := [.int (49 : Int32), .int (23 : Int32), .ref 163]) rfl ?_
  refine w_as H (t := 0) (j := 23) (u := .int (49 : Int32)) (0, 40000, [(23, .int (49 : Int32)), (22, .int (32 : Int32)), (21, .int (121 : Int32)), (20, .int (97 : Int32)), (19, .int (112 : Int32)), (18, .int (59 : Int32)), (17, .int (48 : Int32)), (16, .int (49 : Int32)), (15, .int (32 : Int32)), (14, .int ((48 : Int32) + ((xs 4) - (xs 4) / (10 : Int32) * (10 : Int32)))), (13, .int ((48 : Int32) + (((xs 4) / (10 : Int32)) - ((xs 4) / (10 : Int32)) / (10 : Int32) * (10 : Int32)))), (12, .int (45 : Int32)), (11, .int ((48 : Int32) + ((xs 3) - (xs 3) / (10 : Int32) * (10 : Int32)))), (10, .int ((48 : Int32) + (((xs 3) / (10 : Int32)) - ((xs 3) / (10 : Int32)) / (10 : Int32) * (10 : Int32)))), (9, .int (44 : Int32)), (8, .int ((48 : Int32) + ((xs 2) - (xs 2) / (10 : Int32) * (10 : Int32)))), (7, .int ((48 : Int32) + (((xs 2) / (10 : Int32)) - ((xs 2) / (10 : Int32)) / (10 : Int32) * (10 : Int32)))), (6, .int (45 : Int32)), (5, .int ((48 : Int32) + ((xs 1) - (xs 1) / (10 : Int32) * (10 : Int32)))), (4, .int ((48 : Int32) + (((xs 1) / (10 : Int32)) - ((xs 1) / (10 : Int32)) / (10 : Int32) * (10 : Int32)))), (3, .int (32 : Int32)), (2, .int (107 : Int32)), (1, .int (115 : Int32)), (0, .int (97 : Int32))], some (.int (0 : Int32))) (pc' := 10) (L' := [(0, .ref 143), (1, .int (49 : Int32))]) h_m234 (z_at.mk 1 rfl rfl) rfl rfl (w_ui _ _ (by decide)) rfl rfl rfl rfl ?_
  clear H m; intro m H
  refine w_p h_m234 2 (pc' := 12) (L' := [(0, .ref 143), (1, .int (49 : Int32))]) (st' := [.ref 143, .ref 143]) rfl ?_
  refine w_gf H (pc' := 15) (L' := [(0, .ref 143), (1, .int (49 : Int32))]) h_m234 (z_at.mk 3 rfl rfl) rfl (u := .int (23 : Int32)) rfl rfl rfl ?_
  refine w_p h_m234 2 (pc' := 17) (L' := [(0, .ref 143), (1, .int (49 : Int32))]) (st' := [.int (24 : Int32), .ref 143]) rfl ?_
  refine w_pf H (22, 35, [(29, .int (24 : Int32)), (10, .int (1 : Int32)), (34, .ref 167), (33, .ref 166), (31, .ref 165), (30, .ref 164), (28, .ref 163), (26, .ref 162), (25, .ref 161), (24, .ref 160), (19, .ref 159), (18, .ref 158), (17, .ref 157), (16, .ref 156), (13, .ref 155), (12, .ref 154), (11, .ref 153), (9, .ref 152), (8, .ref 151), (7, .ref 150), (5, .ref 149), (4, .ref 148), (3, .ref 147), (2, .ref 146), (1, .ref 145), (0, .ref 144), (6, .int (0 : Int32)), (14, .int (0 : Int32)), (15, .int (0 : Int32)), (20, .int (0 : Int32)), (21, .int (0 : Int32)), (22, .int (0 : Int32)), (23, .int (0 : Int32)), (27, .int (0 : Int32)), (32, .int (0 : Int32))], none) (pc' := 20) (L' := [(0, .ref 143), (1, .int (49 : Int32))]) h_m234 (z_at.mk 3 rfl rfl) rfl (by decide) rfl (Or.inl rfl) rfl rfl rfl ?_
  clear H m; intro m H
  refine w_rv h_m234 (z_at.mk 1 rfl rfl) rfl ?_
  show z_W 997 236 25 [(0, .ref 143), (1, .int (1 : Int32))] [] m _
  refine w_rv h_m236 (z_at.mk 1 rfl rfl) rfl ?_
  show z_W 998 236 14 [(0, .ref 143), (1, .int (10 : Int32))] [] m _
  refine w_p h_m236 6 (pc' := 22) (L' := [(0, .ref 143), (1, .int (10 : Int32))]) (st' := [.int (48 : Int32), .ref 143]) rfl ?_
  refine w_cv (H.t rfl) (pc' := 25) (L' := [(0, .ref 143), (1, .int (10 : Int32))]) (rest := []) (Ps := [.int (48 : Int32)]) (L0 := [(0, .ref 143), (1, .int (48 : Int32))]) h_m236 (z_at.mk 3 rfl rfl) (Or.inl ⟨rfl, rfl⟩) rfl rfl (by decide) (by decide) rfl rfl rfl rfl rfl rfl (by decide) rfl rfl rfl ?_
  refine w_p h_m234 1 (pc' := 1) (L' := [(0, .ref 143), (1, .int (48 : Int32))]) (st' := [.ref 143]) rfl ?_
  refine w_gf H (pc' := 4) (L' := [(0, .ref 143), (1, .int (48 : Int32))]) h_m234 (z_at.mk 3 rfl rfl) rfl (u := .ref 163) rfl rfl rfl ?_
  refine w_p h_m234 1 (pc' := 5) (L' := [(0, .ref 143), (1, .int (48 : Int32))]) (st' := [.ref 143, .ref 163]) rfl ?_
  refine w_gf H (pc' := 8) (L' := [(0, .ref 143), (1, .int (48 : Int32))]) h_m234 (z_at.mk 3 rfl rfl) rfl (u := .int (24 : Int32)) rfl rfl rfl ?_
  refine w_p h_m234 1 (pc' := 9) (L' := [(0, .ref 143), (1, .int (48 : Int32))]) (st' := [.int (48 : Int32), .int (24 : Int32), .ref 163]) rfl ?_
  refine w_as H (t := 0) (j := 24) (u := .int (48 : Int32)) (0, 40000, [(24, .int (48 : Int32)), (23, .int (49 : Int32)), (22, .int (32 : Int32)), (21, .int (121 : Int32)), (20, .int (97 : Int32)), (19, .int (112 : Int32)), (18, .int (59 : Int32)), (17, .int (48 : Int32)), (16, .int (49 : Int32)), (15, .int (32 : Int32)), (14, .int ((48 : Int32) + ((xs 4) - (xs 4) / (10 : Int32) * (10 : Int32)))), (13, .int ((48 : Int32) + (((xs 4) / (10 : Int32)) - ((xs 4) / (10 : Int32)) / (10 : Int32) * (10 : Int32)))), (12, .int (45 : Int32)), (11, .int ((48 : Int32) + ((xs 3) - (xs 3) / (10 : Int32) * (10 : Int32)))), (10, .int ((48 : Int32) + (((xs 3) / (10 : Int32)) - ((xs 3) / (10 : Int32)) / (10 : Int32) * (10 : Int32)))), (9, .int (44 : Int32)), (8, .int ((48 : Int32) + ((xs 2) - (xs 2) / (10 : Int32) * (10 : Int32)))), (7, .int ((48 : Int32) + (((xs 2) / (10 : Int32)) - ((xs 2) / (10 : Int32)) / (10 : Int32) * (10 : Int32)))), (6, .int (45 : Int32)), (5, .int ((48 : Int32) + ((xs 1) - (xs 1) / (10 : Int32) * (10 : Int32)))), (4, .int ((48 : Int32) + (((xs 1) / (10 : Int32)) - ((xs 1) / (10 : Int32)) / (10 : Int32) * (10 : Int32)))), (3, .int (32 : Int32)), (2, .int (107 : Int32)), (1, .int (115 : Int32)), (0, .int (97 : Int32))], some (.int (0 : Int32))) (pc' := 10) (L' := [(0, .ref 143), (1, .int (48 : Int32))]) h_m234 (z_at.mk 1 rfl rfl) rfl rfl (w_ui _ _ (by decide)) rfl rfl rfl rfl ?_
  clear H m; intro m H
  refine w_p h_m234 2 (pc' := 12) (L' := [(0, .ref 143), (1, .int (48 : Int32))]) (st' := [.ref 143, .ref 143]) rfl ?_
  refine w_gf H (pc' := 15) (L' := [(0, .ref 143), (1, .int (48 : Int32))]) h_m234 (z_at.mk 3 rfl rfl) rfl (u := .int (24 : Int32)) rfl rfl rfl ?_
  refine w_p h_m234 2 (pc' := 17) (L' := [(0, .ref 143), (1, .int (48 : Int32))]) (st' := [.int (25 : Int32), .ref 143]) rfl ?_
  refine w_pf H (22, 35, [(29, .int (25 : Int32)), (10, .int (1 : Int32)), (34, .ref 167), (33, .ref 166), (31, .ref 165), (30, .ref 164), (28, .ref 163), (26, .ref 162), (25, .ref 161), (24, .ref 160), (19, .ref 159), (18, .ref 158), (17, .ref 157), (16, .ref 156), (13, .ref 155), (12, .ref 154), (11, .ref 153), (9, .ref 152), (8, .ref 151), (7, .ref 150), (5, .ref 149), (4, .ref 148), (3, .ref 147), (2, .ref 146), (1, .ref 145), (0, .ref 144), (6, .int (0 : Int32)), (14, .int (0 : Int32)), (15, .int (0 : Int32)), (20, .int (0 : Int32)), (21, .int (0 : Int32)), (22, .int (0 : Int32)), (23, .int (0 : Int32)), (27, .int (0 : Int32)), (32, .int (0 : Int32))], none) (pc' := 20) (L' := [(0, .ref 143), (1, .int (48 : Int32))]) h_m234 (z_at.mk 3 rfl rfl) rfl (by decide) rfl (Or.inl rfl) rfl rfl rfl ?_
  clear H m; intro m H
  refine w_rv h_m234 (z_at.mk 1 rfl rfl) rfl ?_
  show z_W 998 236 25 [(0, .ref 143), (1, .int (10 : Int32))] [] m _
  refine w_rv h_m236 (z_at.mk 1 rfl rfl) rfl ?_
  show z_W 999 239 244 [(0, .ref 143), (5, .int (10 : Int32)), (6, .int (1 : Int32))] [] m _
  refine w_p h_m239 1 (pc' := 245) (L' := [(0, .ref 143), (5, .int (10 : Int32)), (6, .int (1 : Int32))]) (st' := [.ref 143]) rfl ?_
  refine w_gf H (pc' := 248) (L' := [(0, .ref 143), (5, .int (10 : Int32)), (6, .int (1 : Int32))]) h_m239 (z_at.mk 3 rfl rfl) rfl (u := .int (25 : Int32)) rfl rfl rfl ?_
  refine w_ri h_m239 (z_at.mk 1 rfl rfl) rfl rfl ?_
  show z_W 1000 1000 542 [(0, .ref 0), (1, .ref 39), (2, .ref 143), (3, .int (0 : Int32))] [.int (25 : Int32), .int (25 : Int32)] m _
  refine w_p h_m1000 5 (pc' := 20) (L' := [(0, .ref 0), (1, .ref 39), (2, .ref 143), (3, .int (6 : Int32))]) (st' := [.ref 0, .int (6 : Int32)]) rfl ?_
  refine w_lene H (x := (6 : Int32)) (pc' := 21) (L' := [(0, .ref 0), (1, .ref 39), (2, .ref 143), (3, .int (6 : Int32))]) h_m1000 (z_at.mk 1 rfl rfl) (by decide) rfl (by decide) rfl rfl rfl ?_
  refine w_p h_m1000 4 (pc' := 1381) (L' := [(0, .ref 0), (1, .ref 39), (2, .ref 143), (3, .int (6 : Int32))]) (st' := [.int (1 : Int32)]) rfl ?_
  refine w_ri h_m1000 (z_at.mk 1 rfl rfl) rfl rfl ?_
  exact hQ _ _ _ _ H hN hS
set_option maxHeartbeats 400000000 in
set_option maxRecDepth 20000 in
theorem w_rest12_1 {xs : Nat → Int32} {m : zM} {Q : Option Value → zM → Prop} {N S : Nat} (H : w_ok 6 xs N S w_TM m) (hN : N ≤ 600039) (hS : S ≤ 7302250) (hQ : ∀ N S T m, w_ok 6 xs N S T m → N ≤ 600039 → S ≤ 7302250 → Q (some (.int 1)) m) (c_1 : ¬ ((xs 1).toInt < 0)) (c_2 : (xs 1).toInt < 32) (c_3 : ¬ ((xs 3).toInt < 0)) (c_4 : (xs 3).toInt < 32) (c_5 : ¬ ((xs 2).toInt < 0)) (c_6 : (xs 2).toInt < 32) (c_7 : ¬ ((xs 4).toInt < 0)) (c_8 : (xs 4).toInt < 32) (c_9 : (xs 1).toInt ≤ (xs 2).toInt) (c_10 : (xs 3).toInt ≤ (xs 4).toInt) (c_11 : (-1) * (xs 1).toInt ≤ (-10)) (c_16 : ¬ ((-1) * (xs 3).toInt ≤ (-10))) (c_18 : (-1) * (xs 4).toInt ≤ (-10)) : z_W 1000 1000 518 [(0, .ref 0), (1, .ref 39), (2, .ref 143), (3, .int (0 : Int32))] [.int (24 : Int32)] m Q := by
  have b1 := zi_bd (xs 1)
  have b2 := zi_bd (xs 2)
  have b3 := zi_bd (xs 3)
  have b4 := zi_bd (xs 4)
  have b5 := zi_bd (xs 5)
  refine w_p h_m1000 5 (pc' := 523) (L' := [(0, .ref 0), (1, .ref 39), (2, .ref 143), (3, .int (0 : Int32))]) (st' := [.int (1 : Int32), .ref 0, .ref 143, .int (24 : Int32)]) rfl ?_
  refine w_ae H (j := 1) (pc' := 524) (L' := [(0, .ref 0), (1, .ref 39), (2, .ref 143), (3, .int (0 : Int32))]) h_m1000 (z_at.mk 1 rfl rfl) rfl rfl rfl (by decide) rfl (by decide) rfl rfl rfl ?_
  refine w_p h_m1000 4 (pc' := 528) (L' := [(0, .ref 0), (1, .ref 39), (2, .ref 143), (3, .int (0 : Int32))]) (st' := [.int (2 : Int32), .ref 0, .int (xs 1), .ref 143, .int (24 : Int32)]) rfl ?_
  refine w_ae H (j := 2) (pc' := 529) (L' := [(0, .ref 0), (1, .ref 39), (2, .ref 143), (3, .int (0 : Int32))]) h_m1000 (z_at.mk 1 rfl rfl) rfl rfl rfl (by decide) rfl (by decide) rfl rfl rfl ?_
  refine w_p h_m1000 4 (pc' := 533) (L' := [(0, .ref 0), (1, .ref 39), (2, .ref 143), (3, .int (0 : Int32))]) (st' := [.int (3 : Int32), .ref 0, .int (xs 2), .int (xs 1), .ref 143, .int (24 : Int32)]) rfl ?_
  refine w_ae H (j := 3) (pc' := 534) (L' := [(0, .ref 0), (1, .ref 39), (2, .ref 143), (3, .int (0 : Int32))]) h_m1000 (z_at.mk 1 rfl rfl) rfl rfl rfl (by decide) rfl (by decide) rfl rfl rfl ?_
  refine w_p h_m1000 4 (pc' := 538) (L' := [(0, .ref 0), (1, .ref 39), (2, .ref 143), (3, .int (0 : Int32))]) (st' := [.int (4 : Int32), .ref 0, .int (xs 3), .int (xs 2), .int (xs 1), .ref 143, .int (24 : Int32)]) rfl ?_
  refine w_ae H (j := 4) (pc' := 539) (L' := [(0, .ref 0), (1, .ref 39), (2, .ref 143), (3, .int (0 : Int32))]) h_m1000 (z_at.mk 1 rfl rfl) rfl rfl rfl (by decide) rfl (by decide) rfl rfl rfl ?_
  refine w_cv (H.t rfl) (pc' := 542) (L' := [(0, .ref 0), (1, .ref 39), (2, .ref 143), (3, .int (0 : Int32))]) (rest := [.int (24 : Int32)]) (Ps := [.int (xs 1), .int (xs 2), .int (xs 3), .int (xs 4)]) (L0 := [(0, .ref 143), (1, .int (xs 1)), (2, .int (xs 2)), (3, .int (xs 3)), (4, .int (xs 4))]) h_m1000 (z_at.mk 3 rfl rfl) (Or.inl ⟨rfl, rfl⟩) rfl rfl (by decide) (by decide) rfl rfl rfl rfl rfl rfl (by decide) rfl rfl rfl ?_
  refine w_p h_m239 4 (pc' := 5) (L' := [(0, .ref 143), (1, .int (xs 1)), (2, .int (xs 2)), (3, .int (xs 3)), (4, .int (xs 4))]) (st' := [.int (xs 4), .int (xs 3), .int (xs 2), .int (xs 1)]) rfl ?_
  refine w_cs (As := [.int (xs 1), .int (xs 2), .int (xs 3), .int (xs 4)]) (rest := []) (j := 164) (L0 := [(0, .int (xs 1)), (1, .int (xs 2)), (2, .int (xs 3)), (3, .int (xs 4))]) (pc' := 8) (L' := [(0, .ref 143), (1, .int (xs 1)), (2, .int (xs 2)), (3, .int (xs 3)), (4, .int (xs 4))]) h_m239 (z_at.mk 3 rfl rfl) (Or.inl ⟨rfl, rfl⟩) rfl rfl rfl rfl rfl ?_
  refine w_p h_m164 3 (pc' := 4) (L' := [(0, .int (xs 1)), (1, .int (xs 2)), (2, .int (xs 3)), (3, .int (xs 4))]) (st' := [.int (31 : Int32), .int (0 : Int32), .int (xs 1)]) rfl ?_
  refine w_cs (As := [.int (xs 1), .int (0 : Int32), .int (31 : Int32)]) (rest := []) (j := 159) (L0 := [(0, .int (xs 1)), (1, .int (0 : Int32)), (2, .int (31 : Int32))]) (pc' := 7) (L' := [(0, .int (xs 1)), (1, .int (xs 2)), (2, .int (xs 3)), (3, .int (xs 4))]) h_m164 (z_at.mk 3 rfl rfl) (Or.inl ⟨rfl, rfl⟩) rfl rfl rfl rfl rfl ?_
  refine w_p h_m159 2 (pc' := 2) (L' := [(0, .int (xs 1)), (1, .int (0 : Int32)), (2, .int (31 : Int32))]) (st' := [.int (0 : Int32), .int (xs 1)]) rfl ?_
  refine w_f2 (pc' := 5) (L' := [(0, .int (xs 1)), (1, .int (0 : Int32)), (2, .int (31 : Int32))]) h_m159 (z_at.mk 3 rfl rfl) rfl (zc (a := (xs 1).toInt) (b := 0) rfl rfl (decide_eq_false (by omega))) rfl rfl ?_
  refine w_p h_m159 2 (pc' := 7) (L' := [(0, .int (xs 1)), (1, .int (0 : Int32)), (2, .int (31 : Int32))]) (st' := [.int (31 : Int32), .int (xs 1)]) rfl ?_
  refine w_f2 (pc' := 10) (L' := [(0, .int (xs 1)), (1, .int (0 : Int32)), (2, .int (31 : Int32))]) h_m159 (z_at.mk 3 rfl rfl) rfl (zc (a := (xs 1).toInt) (b := 31) rfl rfl (decide_eq_false (by omega))) rfl rfl ?_
  refine w_p h_m159 2 (pc' := 15) (L' := []) (st' := [.int (1 : Int32)]) rfl ?_
  refine w_ri h_m159 (z_at.mk 1 rfl rfl) rfl rfl ?_
  show z_W 998 164 7 [(0, .int (xs 1)), (1, .int (xs 2)), (2, .int (xs 3)), (3, .int (xs 4))] [.int (1 : Int32)] m _
  refine w_p h_m164 4 (pc' := 14) (L' := [(0, .int (xs 1)), (1, .int (xs 2)), (2, .int (xs 3)), (3, .int (xs 4))]) (st' := [.int (31 : Int32), .int (xs 1), .int (xs 2)]) rfl ?_
  refine w_cs (As := [.int (xs 2), .int (xs 1), .int (31 : Int32)]) (rest := []) (j := 159) (L0 := [(0, .int (xs 2)), (1, .int (xs 1)), (2, .int (31 : Int32))]) (pc' := 17) (L' := [(0, .int (xs 1)), (1, .int (xs 2)), (2, .int (xs 3)), (3, .int (xs 4))]) h_m164 (z_at.mk 3 rfl rfl) (Or.inl ⟨rfl, rfl⟩) rfl rfl rfl rfl rfl ?_
  refine w_p h_m159 2 (pc' := 2) (L' := [(0, .int (xs 2)), (1, .int (xs 1)), (2, .int (31 : Int32))]) (st' := [.int (xs 1), .int (xs 2)]) rfl ?_
  refine w_f2 (pc' := 5) (L' := [(0, .int (xs 2)), (1, .int (xs 1)), (2, .int (31 : Int32))]) h_m159 (z_at.mk 3 rfl rfl) rfl (zc (a := (xs 2).toInt) (b := (xs 1).toInt) rfl rfl (decide_eq_false (by omega))) rfl rfl ?_
  refine w_p h_m159 2 (pc' := 7) (L' := [(0, .int (xs 2)), (1, .int (xs 1)), (2, .int (31 : Int32))]) (st' := [.int (31 : Int32), .int (xs 2)]) rfl ?_
  refine w_f2 (pc' := 10) (L' := [(0, .int (xs 2)), (1, .int (xs 1)), (2, .int (31 : Int32))]) h_m159 (z_at.mk 3 rfl rfl) rfl (zc (a := (xs 2).toInt) (b := 31) rfl rfl (decide_eq_false (by omega))) rfl rfl ?_
  refine w_p h_m159 2 (pc' := 15) (L' := []) (st' := [.int (1 : Int32)]) rfl ?_
  refine w_ri h_m159 (z_at.mk 1 rfl rfl) rfl rfl ?_
  show z_W 998 164 17 [(0, .int (xs 1)), (1, .int (xs 2)), (2, .int (xs 3)), (3, .int (xs 4))] [.int (1 : Int32)] m _
  refine w_p h_m164 4 (pc' := 24) (L' := [(0, .int (xs 1)), (1, .int (xs 2)), (2, .int (xs 3)), (3, .int (xs 4))]) (st' := [.int (31 : Int32), .int (0 : Int32), .int (xs 3)]) rfl ?_
  refine w_cs (As := [.int (xs 3), .int (0 : Int32), .int (31 : Int32)]) (rest := []) (j := 159) (L0 := [(0, .int (xs 3)), (1, .int (0 : Int32)), (2, .int (31 : Int32))]) (pc' := 27) (L' := [(0, .int (xs 1)), (1, .int (xs 2)), (2, .int (xs 3)), (3, .int (xs 4))]) h_m164 (z_at.mk 3 rfl rfl) (Or.inl ⟨rfl, rfl⟩) rfl rfl rfl rfl rfl ?_
  refine w_p h_m159 2 (pc' := 2) (L' := [(0, .int (xs 3)), (1, .int (0 : Int32)), (2, .int (31 : Int32))]) (st' := [.int (0 : Int32), .int (xs 3)]) rfl ?_
  refine w_f2 (pc' := 5) (L' := [(0, .int (xs 3)), (1, .int (0 : Int32)), (2, .int (31 : Int32))]) h_m159 (z_at.mk 3 rfl rfl) rfl (zc (a := (xs 3).toInt) (b := 0) rfl rfl (decide_eq_false (by omega))) rfl rfl ?_
  refine w_p h_m159 2 (pc' := 7) (L' := [(0, .int (xs 3)), (1, .int (0 : Int32)), (2, .int (31 : Int32))]) (st' := [.int (31 : Int32), .int (xs 3)]) rfl ?_
  refine w_f2 (pc' := 10) (L' := [(0, .int (xs 3)), (1, .int (0 : Int32)), (2, .int (31 : Int32))]) h_m159 (z_at.mk 3 rfl rfl) rfl (zc (a := (xs 3).toInt) (b := 31) rfl rfl (decide_eq_false (by omega))) rfl rfl ?_
  refine w_p h_m159 2 (pc' := 15) (L' := []) (st' := [.int (1 : Int32)]) rfl ?_
  refine w_ri h_m159 (z_at.mk 1 rfl rfl) rfl rfl ?_
  show z_W 998 164 27 [(0, .int (xs 1)), (1, .int (xs 2)), (2, .int (xs 3)), (3, .int (xs 4))] [.int (1 : Int32)] m _
  refine w_p h_m164 4 (pc' := 34) (L' := [(0, .int (xs 1)), (1, .int (xs 2)), (2, .int (xs 3)), (3, .int (xs 4))]) (st' := [.int (31 : Int32), .int (xs 3), .int (xs 4)]) rfl ?_
  refine w_cs (As := [.int (xs 4), .int (xs 3), .int (31 : Int32)]) (rest := []) (j := 159) (L0 := [(0, .int (xs 4)), (1, .int (xs 3)), (2, .int (31 : Int32))]) (pc' := 37) (L' := [(0, .int (xs 1)), (1, .int (xs 2)), (2, .int (xs 3)), (3, .int (xs 4))]) h_m164 (z_at.mk 3 rfl rfl) (Or.inl ⟨rfl, rfl⟩) rfl rfl rfl rfl rfl ?_
  refine w_p h_m159 2 (pc' := 2) (L' := [(0, .int (xs 4)), (1, .int (xs 3)), (2, .int (31 : Int32))]) (st' := [.int (xs 3), .int (xs 4)]) rfl ?_
  refine w_f2 (pc' := 5) (L' := [(0, .int (xs 4)), (1, .int (xs 3)), (2, .int (31 : Int32))]) h_m159 (z_at.mk 3 rfl rfl) rfl (zc (a := (xs 4).toInt) (b := (xs 3).toInt) rfl rfl (decide_eq_false (by omega))) rfl rfl ?_
  refine w_p h_m159 2 (pc' := 7) (L' := [(0, .int (xs 4)), (1, .int (xs 3)), (2, .int (31 : Int32))]) (st' := [.int (31 : Int32), .int (xs 4)]) rfl ?_
  refine w_f2 (pc' := 10) (L' := [(0, .int (xs 4)), (1, .int (xs 3)), (2, .int (31 : Int32))]) h_m159 (z_at.mk 3 rfl rfl) rfl (zc (a := (xs 4).toInt) (b := 31) rfl rfl (decide_eq_false (by omega))) rfl rfl ?_
  refine w_p h_m159 2 (pc' := 15) (L' := []) (st' := [.int (1 : Int32)]) rfl ?_
  refine w_ri h_m159 (z_at.mk 1 rfl rfl) rfl rfl ?_
  show z_W 998 164 37 [(0, .int (xs 1)), (1, .int (xs 2)), (2, .int (xs 3)), (3, .int (xs 4))] [.int (1 : Int32)] m _
  refine w_p h_m164 3 (pc' := 45) (L' := []) (st' := [.int (1 : Int32)]) rfl ?_
  refine w_ri h_m164 (z_at.mk 1 rfl rfl) rfl rfl ?_
  show z_W 999 239 8 [(0, .ref 143), (1, .int (xs 1)), (2, .int (xs 2)), (3, .int (xs 3)), (4, .int (xs 4))] [.int (1 : Int32)] m _
  refine w_p h_m239 2 (pc' := 15) (L' := [(0, .ref 143), (1, .int (xs 1)), (2, .int (xs 2)), (3, .int (xs 3)), (4, .int (xs 4))]) (st' := [.ref 143]) rfl ?_
  refine w_gf H (pc' := 18) (L' := [(0, .ref 143), (1, .int (xs 1)), (2, .int (xs 2)), (3, .int (xs 3)), (4, .int (xs 4))]) h_m239 (z_at.mk 3 rfl rfl) rfl (u := .ref 152) rfl rfl rfl ?_
  refine w_p h_m239 5 (pc' := 24) (L' := [(0, .ref 143), (1, .int (xs 1)), (2, .int (xs 2)), (3, .int (xs 3)), (4, .int (xs 4))]) (st' := [.int (xs 4), .int (xs 3), .int (xs 2), .int (xs 1), .int (0 : Int32), .ref 152]) rfl ?_
  refine w_cs (As := [.ref 152, .int (0 : Int32), .int (xs 1), .int (xs 2), .int (xs 3), .int (xs 4)]) (rest := []) (j := 165) (L0 := [(0, .ref 152), (1, .int (0 : Int32)), (2, .int (xs 1)), (3, .int (xs 2)), (4, .int (xs 3)), (5, .int (xs 4))]) (pc' := 27) (L' := [(0, .ref 143), (1, .int (xs 1)), (2, .int (xs 2)), (3, .int (xs 3)), (4, .int (xs 4))]) h_m239 (z_at.mk 3 rfl rfl) (Or.inl ⟨rfl, rfl⟩) rfl rfl rfl rfl rfl ?_
  refine w_p h_m165 3 (pc' := 3) (L' := [(0, .ref 152), (1, .int (0 : Int32)), (2, .int (xs 1)), (3, .int (xs 2)), (4, .int (xs 3)), (5, .int (xs 4))]) (st' := [.int (xs 1), .int (0 : Int32), .ref 152]) rfl ?_
  refine w_as H (t := 0) (j := 0) (u := .int (xs 1)) (0, 4, [(0, .int (xs 1))], some (.int (0 : Int32))) (pc' := 4) (L' := [(0, .ref 152), (1, .int (0 : Int32)), (2, .int (xs 1)), (3, .int (xs 2)), (4, .int (xs 3)), (5, .int (xs 4))]) h_m165 (z_at.mk 1 rfl rfl) rfl rfl (w_ui _ _ (by decide)) rfl rfl rfl rfl ?_
  clear H m; intro m H
  refine w_p h_m165 5 (pc' := 9) (L' := [(0, .ref 152), (1, .int (0 : Int32)), (2, .int (xs 1)), (3, .int (xs 2)), (4, .int (xs 3)), (5, .int (xs 4))]) (st' := [.int (xs 2), .int (1 : Int32), .ref 152]) rfl ?_
  refine w_as H (t := 0) (j := 1) (u := .int (xs 2)) (0, 4, [(1, .int (xs 2)), (0, .int (xs 1))], some (.int (0 : Int32))) (pc' := 10) (L' := [(0, .ref 152), (1, .int (0 : Int32)), (2, .int (xs 1)), (3, .int (xs 2)), (4, .int (xs 3)), (5, .int (xs 4))]) h_m165 (z_at.mk 1 rfl rfl) rfl rfl (w_ui _ _ (by decide)) rfl rfl rfl rfl ?_
  clear H m; intro m H
  refine w_p h_m165 5 (pc' := 16) (L' := [(0, .ref 152), (1, .int (0 : Int32)), (2, .int (xs 1)), (3, .int (xs 2)), (4, .int (xs 3)), (5, .int (xs 4))]) (st' := [.int (xs 3), .int (2 : Int32), .ref 152]) rfl ?_
  refine w_as H (t := 0) (j := 2) (u := .int (xs 3)) (0, 4, [(2, .int (xs 3)), (1, .int (xs 2)), (0, .int (xs 1))], some (.int (0 : Int32))) (pc' := 17) (L' := [(0, .ref 152), (1, .int (0 : Int32)), (2, .int (xs 1)), (3, .int (xs 2)), (4, .int (xs 3)), (5, .int (xs 4))]) h_m165 (z_at.mk 1 rfl rfl) rfl rfl (w_ui _ _ (by decide)) rfl rfl rfl rfl ?_
  clear H m; intro m H
  refine w_p h_m165 5 (pc' := 23) (L' := [(0, .ref 152), (1, .int (0 : Int32)), (2, .int (xs 1)), (3, .int (xs 2)), (4, .int (xs 3)), (5, .int (xs 4))]) (st' := [.int (xs 4), .int (3 : Int32), .ref 152]) rfl ?_
  refine w_as H (t := 0) (j := 3) (u := .int (xs 4)) (0, 4, [(3, .int (xs 4)), (2, .int (xs 3)), (1, .int (xs 2)), (0, .int (xs 1))], some (.int (0 : Int32))) (pc' := 24) (L' := [(0, .ref 152), (1, .int (0 : Int32)), (2, .int (xs 1)), (3, .int (xs 2)), (4, .int (xs 3)), (5, .int (xs 4))]) h_m165 (z_at.mk 1 rfl rfl) rfl rfl (w_ui _ _ (by decide)) rfl rfl rfl rfl ?_
  clear H m; intro m H
  refine w_rv h_m165 (z_at.mk 1 rfl rfl) rfl ?_
  show z_W 999 239 27 [(0, .ref 143), (1, .int (xs 1)), (2, .int (xs 2)), (3, .int (xs 3)), (4, .int (xs 4))] [] m _
  refine w_p h_m239 1 (pc' := 28) (L' := [(0, .ref 143), (1, .int (xs 1)), (2, .int (xs 2)), (3, .int (xs 3)), (4, .int (xs 4))]) (st' := [.ref 143]) rfl ?_
  refine w_cv (H.t rfl) (pc' := 31) (L' := [(0, .ref 143), (1, .int (xs 1)), (2, .int (xs 2)), (3, .int (xs 3)), (4, .int (xs 4))]) (rest := []) (Ps := []) (L0 := [(0, .ref 143)]) h_m239 (z_at.mk 3 rfl rfl) (Or.inl ⟨rfl, rfl⟩) rfl rfl (by decide) (by decide) rfl rfl rfl rfl rfl rfl (by decide) rfl rfl rfl ?_
  refine w_p h_m181 1 (pc' := 1) (L' := [(0, .ref 143)]) (st' := [.ref 143]) rfl ?_
  refine w_gf H (pc' := 4) (L' := [(0, .ref 143)]) h_m181 (z_at.mk 3 rfl rfl) rfl (u := .ref 152) rfl rfl rfl ?_
  refine w_p h_m181 2 (pc' := 6) (L' := [(0, .ref 143)]) (st' := [.ref 143, .int (0 : Int32), .ref 152]) rfl ?_
  refine w_gf H (pc' := 9) (L' := [(0, .ref 143)]) h_m181 (z_at.mk 3 rfl rfl) rfl (u := .ref 150) rfl rfl rfl ?_
  refine w_p h_m181 1 (pc' := 10) (L' := [(0, .ref 143)]) (st' := [.int (0 : Int32), .ref 150, .int (0 : Int32), .ref 152]) rfl ?_
  refine w_cs (As := [.ref 152, .int (0 : Int32), .ref 150, .int (0 : Int32)]) (rest := []) (j := 166) (L0 := [(0, .ref 152), (1, .int (0 : Int32)), (2, .ref 150), (3, .int (0 : Int32))]) (pc' := 13) (L' := [(0, .ref 143)]) h_m181 (z_at.mk 3 rfl rfl) (Or.inl ⟨rfl, rfl⟩) rfl rfl rfl rfl rfl ?_
  refine w_p h_m166 4 (pc' := 4) (L' := [(0, .ref 152), (1, .int (0 : Int32)), (2, .ref 150), (3, .int (0 : Int32))]) (st' := [.int (0 : Int32), .ref 152, .int (0 : Int32), .ref 150]) rfl ?_
  refine w_al H (t := 0) (j := 0) (pc' := 5) (L' := [(0, .ref 152), (1, .int (0 : Int32)), (2, .ref 150), (3, .int (0 : Int32))]) h_m166 (z_at.mk 1 rfl rfl) rfl rfl rfl (u := .int (xs 1)) rfl rfl rfl ?_
  refine w_p h_m166 4 (pc' := 9) (L' := [(0, .ref 152), (1, .int (0 : Int32)), (2, .ref 150), (3, .int (0 : Int32))]) (st' := [.int (1 : Int32), .ref 152, .int (xs 1), .int (0 : Int32), .ref 150]) rfl ?_
  refine w_al H (t := 0) (j := 1) (pc' := 10) (L' := [(0, .ref 152), (1, .int (0 : Int32)), (2, .ref 150), (3, .int (0 : Int32))]) h_m166 (z_at.mk 1 rfl rfl) rfl rfl rfl (u := .int (xs 2)) rfl rfl rfl ?_
  refine w_p h_m166 4 (pc' := 14) (L' := [(0, .ref 152), (1, .int (0 : Int32)), (2, .ref 150), (3, .int (0 : Int32))]) (st' := [.int (2 : Int32), .ref 152, .int (xs 2), .int (xs 1), .int (0 : Int32), .ref 150]) rfl ?_
  refine w_al H (t := 0) (j := 2) (pc' := 15) (L' := [(0, .ref 152), (1, .int (0 : Int32)), (2, .ref 150), (3, .int (0 : Int32))]) h_m166 (z_at.mk 1 rfl rfl) rfl rfl rfl (u := .int (xs 3)) rfl rfl rfl ?_
  refine w_p h_m166 4 (pc' := 19) (L' := [(0, .ref 152), (1, .int (0 : Int32)), (2, .ref 150), (3, .int (0 : Int32))]) (st' := [.int (3 : Int32), .ref 152, .int (xs 3), .int (xs 2), .int (xs 1), .int (0 : Int32), .ref 150]) rfl ?_
  refine w_al H (t := 0) (j := 3) (pc' := 20) (L' := [(0, .ref 152), (1, .int (0 : Int32)), (2, .ref 150), (3, .int (0 : Int32))]) h_m166 (z_at.mk 1 rfl rfl) rfl rfl rfl (u := .int (xs 4)) rfl rfl rfl ?_
  refine w_cs (As := [.ref 150, .int (0 : Int32), .int (xs 1), .int (xs 2), .int (xs 3), .int (xs 4)]) (rest := []) (j := 165) (L0 := [(0, .ref 150), (1, .int (0 : Int32)), (2, .int (xs 1)), (3, .int (xs 2)), (4, .int (xs 3)), (5, .int (xs 4))]) (pc' := 23) (L' := [(0, .ref 152), (1, .int (0 : Int32)), (2, .ref 150), (3, .int (0 : Int32))]) h_m166 (z_at.mk 3 rfl rfl) (Or.inl ⟨rfl, rfl⟩) rfl rfl rfl rfl rfl ?_
  refine w_p h_m165 3 (pc' := 3) (L' := [(0, .ref 150), (1, .int (0 : Int32)), (2, .int (xs 1)), (3, .int (xs 2)), (4, .int (xs 3)), (5, .int (xs 4))]) (st' := [.int (xs 1), .int (0 : Int32), .ref 150]) rfl ?_
  refine w_as H (t := 0) (j := 0) (u := .int (xs 1)) (0, 2400, [(0, .int (xs 1))], some (.int (0 : Int32))) (pc' := 4) (L' := [(0, .ref 150), (1, .int (0 : Int32)), (2, .int (xs 1)), (3, .int (xs 2)), (4, .int (xs 3)), (5, .int (xs 4))]) h_m165 (z_at.mk 1 rfl rfl) rfl rfl (w_ui _ _ (by decide)) rfl rfl rfl rfl ?_
  clear H m; intro m H
  refine w_p h_m165 5 (pc' := 9) (L' := [(0, .ref 150), (1, .int (0 : Int32)), (2, .int (xs 1)), (3, .int (xs 2)), (4, .int (xs 3)), (5, .int (xs 4))]) (st' := [.int (xs 2), .int (1 : Int32), .ref 150]) rfl ?_
  refine w_as H (t := 0) (j := 1) (u := .int (xs 2)) (0, 2400, [(1, .int (xs 2)), (0, .int (xs 1))], some (.int (0 : Int32))) (pc' := 10) (L' := [(0, .ref 150), (1, .int (0 : Int32)), (2, .int (xs 1)), (3, .int (xs 2)), (4, .int (xs 3)), (5, .int (xs 4))]) h_m165 (z_at.mk 1 rfl rfl) rfl rfl (w_ui _ _ (by decide)) rfl rfl rfl rfl ?_
  clear H m; intro m H
  refine w_p h_m165 5 (pc' := 16) (L' := [(0, .ref 150), (1, .int (0 : Int32)), (2, .int (xs 1)), (3, .int (xs 2)), (4, .int (xs 3)), (5, .int (xs 4))]) (st' := [.int (xs 3), .int (2 : Int32), .ref 150]) rfl ?_
  refine w_as H (t := 0) (j := 2) (u := .int (xs 3)) (0, 2400, [(2, .int (xs 3)), (1, .int (xs 2)), (0, .int (xs 1))], some (.int (0 : Int32))) (pc' := 17) (L' := [(0, .ref 150), (1, .int (0 : Int32)), (2, .int (xs 1)), (3, .int (xs 2)), (4, .int (xs 3)), (5, .int (xs 4))]) h_m165 (z_at.mk 1 rfl rfl) rfl rfl (w_ui _ _ (by decide)) rfl rfl rfl rfl ?_
  clear H m; intro m H
  refine w_p h_m165 5 (pc' := 23) (L' := [(0, .ref 150), (1, .int (0 : Int32)), (2, .int (xs 1)), (3, .int (xs 2)), (4, .int (xs 3)), (5, .int (xs 4))]) (st' := [.int (xs 4), .int (3 : Int32), .ref 150]) rfl ?_
  refine w_as H (t := 0) (j := 3) (u := .int (xs 4)) (0, 2400, [(3, .int (xs 4)), (2, .int (xs 3)), (1, .int (xs 2)), (0, .int (xs 1))], some (.int (0 : Int32))) (pc' := 24) (L' := [(0, .ref 150), (1, .int (0 : Int32)), (2, .int (xs 1)), (3, .int (xs 2)), (4, .int (xs 3)), (5, .int (xs 4))]) h_m165 (z_at.mk 1 rfl rfl) rfl rfl (w_ui _ _ (by decide)) rfl rfl rfl rfl ?_
  clear H m; intro m H
  refine w_rv h_m165 (z_at.mk 1 rfl rfl) rfl ?_
  show z_W 997 166 23 [(0, .ref 152), (1, .int (0 : Int32)), (2, .ref 150), (3, .int (0 : Int32))] [] m _
  refine w_rv h_m166 (z_at.mk 1 rfl rfl) rfl ?_
  show z_W 998 181 13 [(0, .ref 143)] [] m _
  refine w_p h_m181 2 (pc' := 15) (L' := [(0, .ref 143)]) (st' := [.int (1 : Int32), .ref 143]) rfl ?_
  refine w_pf H (22, 35, [(10, .int (1 : Int32)), (34, .ref 167), (33, .ref 166), (31, .ref 165), (30, .ref 164), (28, .ref 163), (26, .ref 162), (25, .ref 161), (24, .ref 160), (19, .ref 159), (18, .ref 158), (17, .ref 157), (16, .ref 156), (13, .ref 155), (12, .ref 154), (11, .ref 153), (9, .ref 152), (8, .ref 151), (7, .ref 150), (5, .ref 149), (4, .ref 148), (3, .ref 147), (2, .ref 146), (1, .ref 145), (0, .ref 144), (6, .int (0 : Int32)), (14, .int (0 : Int32)), (15, .int (0 : Int32)), (20, .int (0 : Int32)), (21, .int (0 : Int32)), (22, .int (0 : Int32)), (23, .int (0 : Int32)), (27, .int (0 : Int32)), (29, .int (0 : Int32)), (32, .int (0 : Int32))], none) (pc' := 18) (L' := [(0, .ref 143)]) h_m181 (z_at.mk 3 rfl rfl) rfl (by decide) rfl (Or.inl rfl) rfl rfl rfl ?_
  clear H m; intro m H
  refine w_p h_m181 4 (pc' := 22) (L' := [(0, .ref 143), (1, .int (0 : Int32))]) (st' := [.ref 143, .int (0 : Int32)]) rfl ?_
  refine w_gf H (pc' := 25) (L' := [(0, .ref 143), (1, .int (0 : Int32))]) h_m181 (z_at.mk 3 rfl rfl) rfl (u := .ref 144) rfl rfl rfl ?_
  refine w_p h_m181 1 (pc' := 26) (L' := [(0, .ref 143), (1, .int (0 : Int32))]) (st' := [.int (0 : Int32), .ref 144, .int (0 : Int32)]) rfl ?_
  refine w_al H (t := 0) (j := 0) (pc' := 27) (L' := [(0, .ref 143), (1, .int (0 : Int32))]) h_m181 (z_at.mk 1 rfl rfl) rfl rfl rfl (u := .int (0 : Int32)) rfl rfl rfl ?_
  refine w_p h_m181 1 (pc' := 114) (L' := [(0, .ref 143), (1, .int (0 : Int32))]) (st' := []) rfl ?_
  refine w_rv h_m181 (z_at.mk 1 rfl rfl) rfl ?_
  show z_W 999 239 31 [(0, .ref 143), (1, .int (xs 1)), (2, .int (xs 2)), (3, .int (xs 3)), (4, .int (xs 4))] [] m _
  refine w_p h_m239 2 (pc' := 33) (L' := [(0, .ref 143), (1, .int (xs 1)), (2, .int (xs 2)), (3, .int (xs 3)), (4, .int (xs 4))]) (st' := [.int (0 : Int32), .ref 143]) rfl ?_
  refine w_pf H (22, 35, [(29, .int (0 : Int32)), (10, .int (1 : Int32)), (34, .ref 167), (33, .ref 166), (31, .ref 165), (30, .ref 164), (28, .ref 163), (26, .ref 162), (25, .ref 161), (24, .ref 160), (19, .ref 159), (18, .ref 158), (17, .ref 157), (16, .ref 156), (13, .ref 155), (12, .ref 154), (11, .ref 153), (9, .ref 152), (8, .ref 151), (7, .ref 150), (5, .ref 149), (4, .ref 148), (3, .ref 147), (2, .ref 146), (1, .ref 145), (0, .ref 144), (6, .int (0 : Int32)), (14, .int (0 : Int32)), (15, .int (0 : Int32)), (20, .int (0 : Int32)), (21, .int (0 : Int32)), (22, .int (0 : Int32)), (23, .int (0 : Int32)), (27, .int (0 : Int32)), (32, .int (0 : Int32))], none) (pc' := 36) (L' := [(0, .ref 143), (1, .int (xs 1)), (2, .int (xs 2)), (3, .int (xs 3)), (4, .int (xs 4))]) h_m239 (z_at.mk 3 rfl rfl) rfl (by decide) rfl (Or.inl rfl) rfl rfl rfl ?_
  clear H m; intro m H
  refine w_p h_m239 4 (pc' := 42) (L' := [(0, .ref 143), (5, .int (0 : Int32))]) (st' := [.ref 143, .int (0 : Int32)]) rfl ?_
  refine w_gf H (pc' := 45) (L' := [(0, .ref 143), (5, .int (0 : Int32))]) h_m239 (z_at.mk 3 rfl rfl) rfl (u := .ref 144) rfl rfl rfl ?_
  refine w_p h_m239 1 (pc' := 46) (L' := [(0, .ref 143), (5, .int (0 : Int32))]) (st' := [.int (0 : Int32), .ref 144, .int (0 : Int32)]) rfl ?_
  refine w_al H (t := 0) (j := 0) (pc' := 47) (L' := [(0, .ref 143), (5, .int (0 : Int32))]) h_m239 (z_at.mk 1 rfl rfl) rfl rfl rfl (u := .int (0 : Int32)) rfl rfl rfl ?_
  refine w_p h_m239 7 (pc' := 155) (L' := [(0, .ref 143), (5, .int (0 : Int32)), (6, .int (0 : Int32))]) (st' := [.ref 143, .int (0 : Int32)]) rfl ?_
  refine w_gf H (pc' := 158) (L' := [(0, .ref 143), (5, .int (0 : Int32)), (6, .int (0 : Int32))]) h_m239 (z_at.mk 3 rfl rfl) rfl (u := .int (1 : Int32)) rfl rfl rfl ?_
  refine w_p h_m239 3 (pc' := 165) (L' := [(0, .ref 143), (5, .int (0 : Int32)), (6, .int (0 : Int32))]) (st' := [.ref 17, .ref 143]) rfl ?_
  refine w_cv (H.t rfl) (pc' := 168) (L' := [(0, .ref 143), (5, .int (0 : Int32)), (6, .int (0 : Int32))]) (rest := []) (Ps := [.ref 17]) (L0 := [(0, .ref 143), (1, .ref 17)]) h_m239 (z_at.mk 3 rfl rfl) (Or.inl ⟨rfl, rfl⟩) rfl rfl (by decide) (by decide) rfl rfl rfl rfl rfl rfl (by decide) rfl rfl rfl ?_
  refine w_p h_m235 4 (pc' := 4) (L' := [(0, .ref 143), (1, .ref 17), (2, .int (0 : Int32))]) (st' := [.ref 17, .int (0 : Int32)]) rfl ?_
  refine w_cv (H.te (by decide) rfl).1 (pc' := 7) (L' := [(0, .ref 143), (1, .ref 17), (2, .int (0 : Int32))]) (rest := [.int (0 : Int32)]) (Ps := []) (L0 := [(0, .ref 17)]) h_m235 (z_at.mk 3 rfl rfl) (Or.inl ⟨rfl, rfl⟩) rfl rfl (by decide) (by decide) rfl rfl rfl rfl rfl rfl (by decide) rfl rfl rfl ?_
  refine w_p h_m293 1 (pc' := 1) (L' := [(0, .ref 17)]) (st' := [.ref 17]) rfl ?_
  refine w_gs H (pc' := 4) (L' := [(0, .ref 17)]) h_m293 (z_at.mk 3 rfl rfl) rfl (by decide) rfl rfl rfl rfl ?_
  refine w_lene H (x := (4 : Int32)) (pc' := 5) (L' := [(0, .ref 17)]) h_m293 (z_at.mk 1 rfl rfl) (by decide) rfl (by decide) rfl rfl rfl ?_
  refine w_p h_m293 1 (pc' := 6) (L' := [(0, .ref 17)]) (st' := [.ref 17, .int (4 : Int32)]) rfl ?_
  refine w_cv (H.te (by decide) rfl).1 (pc' := 9) (L' := [(0, .ref 17)]) (rest := [.int (4 : Int32)]) (Ps := []) (L0 := [(0, .ref 17)]) h_m293 (z_at.mk 3 rfl rfl) (Or.inl ⟨rfl, rfl⟩) rfl rfl (by decide) (by decide) rfl rfl rfl rfl rfl rfl (by decide) rfl rfl rfl ?_
  refine w_p h_m298 3 (pc' := 7) (L' := [(0, .ref 17)]) (st' := [.ref 17]) rfl ?_
  refine w_gs H (pc' := 10) (L' := [(0, .ref 17)]) h_m298 (z_at.mk 3 rfl rfl) rfl (by decide) rfl rfl rfl rfl ?_
  refine w_p h_m298 1 (pc' := 14) (L' := []) (st' := [.int (0 : Int32)]) rfl ?_
  refine w_ri h_m298 (z_at.mk 1 rfl rfl) rfl rfl ?_
  show z_W 997 293 9 [(0, .ref 17)] [.int (0 : Int32), .int (4 : Int32)] m _
  refine w_p h_m293 1 (pc' := 10) (L' := [(0, .ref 17)]) (st' := [.int (4 : Int32)]) rfl ?_
  refine w_ri h_m293 (z_at.mk 1 rfl rfl) rfl rfl ?_
  show z_W 998 235 7 [(0, .ref 143), (1, .ref 17), (2, .int (0 : Int32))] [.int (4 : Int32), .int (0 : Int32)] m _
  refine w_p h_m235 4 (pc' := 13) (L' := [(0, .ref 143), (1, .ref 17), (2, .int (0 : Int32))]) (st' := [.int (0 : Int32), .ref 17, .ref 143]) rfl ?_
  refine w_cv (H.te (by decide) rfl).1 (pc' := 16) (L' := [(0, .ref 143), (1, .ref 17), (2, .int (0 : Int32))]) (rest := [.ref 143]) (Ps := [.int (0 : Int32)]) (L0 := [(0, .ref 17), (1, .int (0 : Int32))]) h_m235 (z_at.mk 3 rfl rfl) (Or.inl ⟨rfl, rfl⟩) rfl rfl (by decide) (by decide) rfl rfl rfl rfl rfl rfl (by decide) rfl rfl rfl ?_
  refine w_p h_m294 1 (pc' := 1) (L' := [(0, .ref 17), (1, .int (0 : Int32))]) (st' := [.ref 17]) rfl ?_
  refine w_cv (H.te (by decide) rfl).1 (pc' := 4) (L' := [(0, .ref 17), (1, .int (0 : Int32))]) (rest := []) (Ps := []) (L0 := [(0, .ref 17)]) h_m294 (z_at.mk 3 rfl rfl) (Or.inl ⟨rfl, rfl⟩) rfl rfl (by decide) (by decide) rfl rfl rfl rfl rfl rfl (by decide) rfl rfl rfl ?_
  refine w_p h_m299 3 (pc' := 7) (L' := [(0, .ref 17)]) (st' := [.ref 17]) rfl ?_
  refine w_gs H (pc' := 10) (L' := [(0, .ref 17)]) h_m299 (z_at.mk 3 rfl rfl) rfl (by decide) rfl rfl rfl rfl ?_
  refine w_p h_m299 3 (pc' := 18) (L' := []) (st' := [.int (1 : Int32)]) rfl ?_
  refine w_ri h_m299 (z_at.mk 1 rfl rfl) rfl rfl ?_
  show z_W 997 294 4 [(0, .ref 17), (1, .int (0 : Int32))] [.int (1 : Int32)] m _
  refine w_p h_m294 2 (pc' := 8) (L' := [(0, .ref 17), (1, .int (0 : Int32))]) (st' := [.ref 17]) rfl ?_
  refine w_gs H (pc' := 11) (L' := [(0, .ref 17), (1, .int (0 : Int32))]) h_m294 (z_at.mk 3 rfl rfl) rfl (by decide) rfl rfl rfl rfl ?_
  refine w_p h_m294 1 (pc' := 12) (L' := [(0, .ref 17), (1, .int (0 : Int32))]) (st' := [.int (0 : Int32), .ref 35]) rfl ?_
  refine w_cs (As := [.ref 35, .int (0 : Int32)]) (rest := []) (j := 308) (L0 := [(0, .ref 35), (1, .int (0 : Int32))]) (pc' := 15) (L' := [(0, .ref 17), (1, .int (0 : Int32))]) h_m294 (z_at.mk 3 rfl rfl) (Or.inl ⟨rfl, rfl⟩) rfl rfl rfl rfl rfl ?_
  refine w_p h_m308 2 (pc' := 2) (L' := [(0, .ref 35), (1, .int (0 : Int32))]) (st' := [.ref 35, .int (0 : Int32)]) rfl ?_
  refine w_lene H (x := (4 : Int32)) (pc' := 3) (L' := [(0, .ref 35), (1, .int (0 : Int32))]) h_m308 (z_at.mk 1 rfl rfl) (by decide) rfl (by decide) rfl rfl rfl ?_
  refine w_ci (pc' := 6) (L' := [(0, .ref 35), (1, .int (0 : Int32))]) h_m308 (z_at.mk 3 rfl rfl) rfl (z_cat_le 0 rfl (by decide)) ⟨by decide, by decide⟩ rfl rfl ?_
  refine w_p h_m308 2 (pc' := 8) (L' := [(0, .ref 35), (1, .int (0 : Int32))]) (st' := [.int (0 : Int32), .ref 35]) rfl ?_
  refine w_ae H (j := 0) (pc' := 9) (L' := [(0, .ref 35), (1, .int (0 : Int32))]) h_m308 (z_at.mk 1 rfl rfl) rfl rfl rfl (by decide) rfl (by decide) rfl rfl rfl ?_
  refine w_p h_m308 3 (pc' := 14) (L' := [(0, .ref 35), (1, .int (0 : Int32))]) (st' := [.int (97 : Int32)]) rfl ?_
  refine w_ri h_m308 (z_at.mk 1 rfl rfl) rfl rfl ?_
  show z_W 997 294 15 [(0, .ref 17), (1, .int (0 : Int32))] [.int (97 : Int32)] m _
  refine w_ri h_m294 (z_at.mk 1 rfl rfl) rfl rfl ?_
  show z_W 998 235 16 [(0, .ref 143), (1, .ref 17), (2, .int (0 : Int32))] [.int (97 : Int32), .ref 143] m _
  refine w_cv (H.t rfl) (pc' := 19) (L' := [(0, .ref 143), (1, .ref 17), (2, .int (0 : Int32))]) (rest := []) (Ps := [.int (97 : Int32)]) (L0 := [(0, .ref 143), (1, .int (97 : Int32))]) h_m235 (z_at.mk 3 rfl rfl) (Or.inl ⟨rfl, rfl⟩) rfl rfl (by decide) (by decide) rfl rfl rfl rfl rfl rfl (by decide) rfl rfl rfl ?_
  refine w_p h_m234 1 (pc' := 1) (L' := [(0, .ref 143), (1, .int (97 : Int32))]) (st' := [.ref 143]) rfl ?_
  refine w_gf H (pc' := 4) (L' := [(0, .ref 143), (1, .int (97 : Int32))]) h_m234 (z_at.mk 3 rfl rfl) rfl (u := .ref 163) rfl rfl rfl ?_
  refine w_p h_m234 1 (pc' := 5) (L' := [(0, .ref 143), (1, .int (97 : Int32))]) (st' := [.ref 143, .ref 163]) rfl ?_
  refine w_gf H (pc' := 8) (L' := [(0, .ref 143), (1, .int (97 : Int32))]) h_m234 (z_at.mk 3 rfl rfl) rfl (u := .int (0 : Int32)) rfl rfl rfl ?_
  refine w_p h_m234 1 (pc' := 9) (L' := [(0, .ref 143), (1, .int (97 : Int32))]) (st' := [.int (97 : Int32), .int (0 : Int32), .ref 163]) rfl ?_
  refine w_as H (t := 0) (j := 0) (u := .int (97 : Int32)) (0, 40000, [(0, .int (97 : Int32))], some (.int (0 : Int32))) (pc' := 10) (L' := [(0, .ref 143), (1, .int (97 : Int32))]) h_m234 (z_at.mk 1 rfl rfl) rfl rfl (w_ui _ _ (by decide)) rfl rfl rfl rfl ?_
  clear H m; intro m H
  refine w_p h_m234 2 (pc' := 12) (L' := [(0, .ref 143), (1, .int (97 : Int32))]) (st' := [.ref 143, .ref 143]) rfl ?_
  refine w_gf H (pc' := 15) (L' := [(0, .ref 143), (1, .int (97 : Int32))]) h_m234 (z_at.mk 3 rfl rfl) rfl (u := .int (0 : Int32)) rfl rfl rfl ?_
  refine w_p h_m234 2 (pc' := 17) (L' := [(0, .ref 143), (1, .int (97 : Int32))]) (st' := [.int (1 : Int32), .ref 143]) rfl ?_
  refine w_pf H (22, 35, [(29, .int (1 : Int32)), (10, .int (1 : Int32)), (34, .ref 167), (33, .ref 166), (31, .ref 165), (30, .ref 164), (28, .ref 163), (26, .ref 162), (25, .ref 161), (24, .ref 160), (19, .ref 159), (18, .ref 158), (17, .ref 157), (16, .ref 156), (13, .ref 155), (12, .ref 154), (11, .ref 153), (9, .ref 152), (8, .ref 151), (7, .ref 150), (5, .ref 149), (4, .ref 148), (3, .ref 147), (2, .ref 146), (1, .ref 145), (0, .ref 144), (6, .int (0 : Int32)), (14, .int (0 : Int32)), (15, .int (0 : Int32)), (20, .int (0 : Int32)), (21, .int (0 : Int32)), (22, .int (0 : Int32)), (23, .int (0 : Int32)), (27, .int (0 : Int32)), (32, .int (0 : Int32))], none) (pc' := 20) (L' := [(0, .ref 143), (1, .int (97 : Int32))]) h_m234 (z_at.mk 3 rfl rfl) rfl (by decide) rfl (Or.inl rfl) rfl rfl rfl ?_
  clear H m; intro m H
  refine w_rv h_m234 (z_at.mk 1 rfl rfl) rfl ?_
  show z_W 998 235 19 [(0, .ref 143), (1, .ref 17), (2, .int (0 : Int32))] [] m _
  refine w_p h_m235 4 (pc' := 4) (L' := [(0, .ref 143), (1, .ref 17), (2, .int (1 : Int32))]) (st' := [.ref 17, .int (1 : Int32)]) rfl ?_
  refine w_cv (H.te (by decide) rfl).1 (pc' := 7) (L' := [(0, .ref 143), (1, .ref 17), (2, .int (1 : Int32))]) (rest := [.int (1 : Int32)]) (Ps := []) (L0 := [(0, .ref 17)]) h_m235 (z_at.mk 3 rfl rfl) (Or.inl ⟨rfl, rfl⟩) rfl rfl (by decide) (by decide) rfl rfl rfl rfl rfl rfl (by decide) rfl rfl rfl ?_
  refine w_p h_m293 1 (pc' := 1) (L' := [(0, .ref 17)]) (st' := [.ref 17]) rfl ?_
  refine w_gs H (pc' := 4) (L' := [(0, .ref 17)]) h_m293 (z_at.mk 3 rfl rfl) rfl (by decide) rfl rfl rfl rfl ?_
  refine w_lene H (x := (4 : Int32)) (pc' := 5) (L' := [(0, .ref 17)]) h_m293 (z_at.mk 1 rfl rfl) (by decide) rfl (by decide) rfl rfl rfl ?_
  refine w_p h_m293 1 (pc' := 6) (L' := [(0, .ref 17)]) (st' := [.ref 17, .int (4 : Int32)]) rfl ?_
  refine w_cv (H.te (by decide) rfl).1 (pc' := 9) (L' := [(0, .ref 17)]) (rest := [.int (4 : Int32)]) (Ps := []) (L0 := [(0, .ref 17)]) h_m293 (z_at.mk 3 rfl rfl) (Or.inl ⟨rfl, rfl⟩) rfl rfl (by decide) (by decide) rfl rfl rfl rfl rfl rfl (by decide) rfl rfl rfl ?_
  refine w_p h_m298 3 (pc' := 7) (L' := [(0, .ref 17)]) (st' := [.ref 17]) rfl ?_
  refine w_gs H (pc' := 10) (L' := [(0, .ref 17)]) h_m298 (z_at.mk 3 rfl rfl) rfl (by decide) rfl rfl rfl rfl ?_
  refine w_p h_m298 1 (pc' := 14) (L' := []) (st' := [.int (0 : Int32)]) rfl ?_
  refine w_ri h_m298 (z_at.mk 1 rfl rfl) rfl rfl ?_
  show z_W 997 293 9 [(0, .ref 17)] [.int (0 : Int32), .int (4 : Int32)] m _
  refine w_p h_m293 1 (pc' := 10) (L' := [(0, .ref 17)]) (st' := [.int (4 : Int32)]) rfl ?_
  refine w_ri h_m293 (z_at.mk 1 rfl rfl) rfl rfl ?_
  show z_W 998 235 7 [(0, .ref 143), (1, .ref 17), (2, .int (1 : Int32))] [.int (4 : Int32), .int (1 : Int32)] m _
  refine w_p h_m235 4 (pc' := 13) (L' := [(0, .ref 143), (1, .ref 17), (2, .int (1 : Int32))]) (st' := [.int (1 : Int32), .ref 17, .ref 143]) rfl ?_
  refine w_cv (H.te (by decide) rfl).1 (pc' := 16) (L' := [(0, .ref 143), (1, .ref 17), (2, .int (1 : Int32))]) (rest := [.ref 143]) (Ps := [.int (1 : Int32)]) (L0 := [(0, .ref 17), (1, .int (1 : Int32))]) h_m235 (z_at.mk 3 rfl rfl) (Or.inl ⟨rfl, rfl⟩) rfl rfl (by decide) (by decide) rfl rfl rfl rfl rfl rfl (by decide) rfl rfl rfl ?_
  refine w_p h_m294 1 (pc' := 1) (L' := [(0, .ref 17), (1, .int (1 : Int32))]) (st' := [.ref 17]) rfl ?_
  refine w_cv (H.te (by decide) rfl).1 (pc' := 4) (L' := [(0, .ref 17), (1, .int (1 : Int32))]) (rest := []) (Ps := []) (L0 := [(0, .ref 17)]) h_m294 (z_at.mk 3 rfl rfl) (Or.inl ⟨rfl, rfl⟩) rfl rfl (by decide) (by decide) rfl rfl rfl rfl rfl rfl (by decide) rfl rfl rfl ?_
  refine w_p h_m299 3 (pc' := 7) (L' := [(0, .ref 17)]) (st' := [.ref 17]) rfl ?_
  refine w_gs H (pc' := 10) (L' := [(0, .ref 17)]) h_m299 (z_at.mk 3 rfl rfl) rfl (by decide) rfl rfl rfl rfl ?_
  refine w_p h_m299 3 (pc' := 18) (L' := []) (st' := [.int (1 : Int32)]) rfl ?_
  refine w_ri h_m299 (z_at.mk 1 rfl rfl) rfl rfl ?_
  show z_W 997 294 4 [(0, .ref 17), (1, .int (1 : Int32))] [.int (1 : Int32)] m _
  refine w_p h_m294 2 (pc' := 8) (L' := [(0, .ref 17), (1, .int (1 : Int32))]) (st' := [.ref 17]) rfl ?_
  refine w_gs H (pc' := 11) (L' := [(0, .ref 17), (1, .int (1 : Int32))]) h_m294 (z_at.mk 3 rfl rfl) rfl (by decide) rfl rfl rfl rfl ?_
  refine w_p h_m294 1 (pc' := 12) (L' := [(0, .ref 17), (1, .int (1 : Int32))]) (st' := [.int (1 : Int32), .ref 35]) rfl ?_
  refine w_cs (As := [.ref 35, .int (1 : Int32)]) (rest := []) (j := 308) (L0 := [(0, .ref 35), (1, .int (1 : Int32))]) (pc' := 15) (L' := [(0, .ref 17), (1, .int (1 : Int32))]) h_m294 (z_at.mk 3 rfl rfl) (Or.inl ⟨rfl, rfl⟩) rfl rfl rfl rfl rfl ?_
  refine w_p h_m308 2 (pc' := 2) (L' := [(0, .ref 35), (1, .int (1 : Int32))]) (st' := [.ref 35, .int (1 : Int32)]) rfl ?_
  refine w_lene H (x := (4 : Int32)) (pc' := 3) (L' := [(0, .ref 35), (1, .int (1 : Int32))]) h_m308 (z_at.mk 1 rfl rfl) (by decide) rfl (by decide) rfl rfl rfl ?_
  refine w_ci (pc' := 6) (L' := [(0, .ref 35), (1, .int (1 : Int32))]) h_m308 (z_at.mk 3 rfl rfl) rfl (z_cat_le 0 rfl (by decide)) ⟨by decide, by decide⟩ rfl rfl ?_
  refine w_p h_m308 2 (pc' := 8) (L' := [(0, .ref 35), (1, .int (1 : Int32))]) (st' := [.int (1 : Int32), .ref 35]) rfl ?_
  refine w_ae H (j := 1) (pc' := 9) (L' := [(0, .ref 35), (1, .int (1 : Int32))]) h_m308 (z_at.mk 1 rfl rfl) rfl rfl rfl (by decide) rfl (by decide) rfl rfl rfl ?_
  refine w_p h_m308 3 (pc' := 14) (L' := [(0, .ref 35), (1, .int (1 : Int32))]) (st' := [.int (115 : Int32)]) rfl ?_
  refine w_ri h_m308 (z_at.mk 1 rfl rfl) rfl rfl ?_
  show z_W 997 294 15 [(0, .ref 17), (1, .int (1 : Int32))] [.int (115 : Int32)] m _
  refine w_ri h_m294 (z_at.mk 1 rfl rfl) rfl rfl ?_
  show z_W 998 235 16 [(0, .ref 143), (1, .ref 17), (2, .int (1 : Int32))] [.int (115 : Int32), .ref 143] m _
  refine w_cv (H.t rfl) (pc' := 19) (L' := [(0, .ref 143), (1, .ref 17), (2, .int (1 : Int32))]) (rest := []) (Ps := [.int (115 : Int32)]) (L0 := [(0, .ref 143), (1, .int (115 : Int32))]) h_m235 (z_at.mk 3 rfl rfl) (Or.inl ⟨rfl, rfl⟩) rfl rfl (by decide) (by decide) rfl rfl rfl rfl rfl rfl (by decide) rfl rfl rfl ?_
  refine w_p h_m234 1 (pc' := 1) (L' := [(0, .ref 143), (1, .int (115 : Int32))]) (st' := [.ref 143]) rfl ?_
  refine w_gf H (pc' := 4) (L' := [(0, .ref 143), (1, .int (115 : Int32))]) h_m234 (z_at.mk 3 rfl rfl) rfl (u := .ref 163) rfl rfl rfl ?_
  refine w_p h_m234 1 (pc' := 5) (L' := [(0, .ref 143), (1, .int (115 : Int32))]) (st' := [.ref 143, .ref 163]) rfl ?_
  refine w_gf H (pc' := 8) (L' := [(0, .ref 143), (1, .int (115 : Int32))]) h_m234 (z_at.mk 3 rfl rfl) rfl (u := .int (1 : Int32)) rfl rfl rfl ?_
  refine w_p h_m234 1 (pc' := 9) (L' := [(0, .ref 143), (1, .int (115 : Int32))]) (st' := [.int (115 : Int32), .int (1 : Int32), .ref 163]) rfl ?_
  refine w_as H (t := 0) (j := 1) (u := .int (115 : Int32)) (0, 40000, [(1, .int (115 : Int32)), (0, .int (97 : Int32))], some (.int (0 : Int32))) (pc' := 10) (L' := [(0, .ref 143), (1, .int (115 : Int32))]) h_m234 (z_at.mk 1 rfl rfl) rfl rfl (w_ui _ _ (by decide)) rfl rfl rfl rfl ?_
  clear H m; intro m H
  refine w_p h_m234 2 (pc' := 12) (L' := [(0, .ref 143), (1, .int (115 : Int32))]) (st' := [.ref 143, .ref 143]) rfl ?_
  refine w_gf H (pc' := 15) (L' := [(0, .ref 143), (1, .int (115 : Int32))]) h_m234 (z_at.mk 3 rfl rfl) rfl (u := .int (1 : Int32)) rfl rfl rfl ?_
  refine w_p h_m234 2 (pc' := 17) (L' := [(0, .ref 143), (1, .int (115 : Int32))]) (st' := [.int (2 : Int32), .ref 143]) rfl ?_
  refine w_pf H (22, 35, [(29, .int (2 : Int32)), (10, .int (1 : Int32)), (34, .ref 167), (33, .ref 166), (31, .ref 165), (30, .ref 164), (28, .ref 163), (26, .ref 162), (25, .ref 161), (24, .ref 160), (19, .ref 159), (18, .ref 158), (17, .ref 157), (16, .ref 156), (13, .ref 155), (12, .ref 154), (11, .ref 153), (9, .ref 152), (8, .ref 151), (7, .ref 150), (5, .ref 149), (4, .ref 148), (3, .ref 147), (2, .ref 146), (1, .ref 145), (0, .ref 144), (6, .int (0 : Int32)), (14, .int (0 : Int32)), (15, .int (0 : Int32)), (20, .int (0 : Int32)), (21, .int (0 : Int32)), (22, .int (0 : Int32)), (23, .int (0 : Int32)), (27, .int (0 : Int32)), (32, .int (0 : Int32))], none) (pc' := 20) (L' := [(0, .ref 143), (1, .int (115 : Int32))]) h_m234 (z_at.mk 3 rfl rfl) rfl (by decide) rfl (Or.inl rfl) rfl rfl rfl ?_
  clear H m; intro m H
  refine w_rv h_m234 (z_at.mk 1 rfl rfl) rfl ?_
  show z_W 998 235 19 [(0, .ref 143), (1, .ref 17), (2, .int (1 : Int32))] [] m _
  refine w_p h_m235 4 (pc' := 4) (L' := [(0, .ref 143), (1, .ref 17), (2, .int (2 : Int32))]) (st' := [.ref 17, .int (2 : Int32)]) rfl ?_
  refine w_cv (H.te (by decide) rfl).1 (pc' := 7) (L' := [(0, .ref 143), (1, .ref 17), (2, .int (2 : Int32))]) (rest := [.int (2 : Int32)]) (Ps := []) (L0 := [(0, .ref 17)]) h_m235 (z_at.mk 3 rfl rfl) (Or.inl ⟨rfl, rfl⟩) rfl rfl (by decide) (by decide) rfl rfl rfl rfl rfl rfl (by decide) rfl rfl rfl ?_
  refine w_p h_m293 1 (pc' := 1) (L' := [(0, .ref 17)]) (st' := [.ref 17]) rfl ?_
  refine w_gs H (pc' := 4) (L' := [(0, .ref 17)]) h_m293 (z_at.mk 3 rfl rfl) rfl (by decide) rfl rfl rfl rfl ?_
  refine w_lene H (x := (4 : Int32)) (pc' := 5) (L' := [(0, .ref 17)]) h_m293 (z_at.mk 1 rfl rfl) (by decide) rfl (by decide) rfl rfl rfl ?_
  refine w_p h_m293 1 (pc' := 6) (L' := [(0, .ref 17)]) (st' := [.ref 17, .int (4 : Int32)]) rfl ?_
  refine w_cv (H.te (by decide) rfl).1 (pc' := 9) (L' := [(0, .ref 17)]) (rest := [.int (4 : Int32)]) (Ps := []) (L0 := [(0, .ref 17)]) h_m293 (z_at.mk 3 rfl rfl) (Or.inl ⟨rfl, rfl⟩) rfl rfl (by decide) (by decide) rfl rfl rfl rfl rfl rfl (by decide) rfl rfl rfl ?_
  refine w_p h_m298 3 (pc' := 7) (L' := [(0, .ref 17)]) (st' := [.ref 17]) rfl ?_
  refine w_gs H (pc' := 10) (L' := [(0, .ref 17)]) h_m298 (z_at.mk 3 rfl rfl) rfl (by decide) rfl rfl rfl rfl ?_
  refine w_p h_m298 1 (pc' := 14) (L' := []) (st' := [.int (0 : Int32)]) rfl ?_
  refine w_ri h_m298 (z_at.mk 1 rfl rfl) rfl rfl ?_
  show z_W 997 293 9 [(0, .ref 17)] [.int (0 : Int32), .int (4 : Int32)] m _
  refine w_p h_m293 1 (pc' := 10) (L' := [(0, .ref 17)]) (st' := [.int (4 : Int32)]) rfl ?_
  refine w_ri h_m293 (z_at.mk 1 rfl rfl) rfl rfl ?_
  show z_W 998 235 7 [(0, .ref 143), (1, .ref 17), (2, .int (2 : Int32))] [.int (4 : Int32), .int (2 : Int32)] m _
  refine w_p h_m235 4 (pc' := 13) (L' := [(0, .ref 143), (1, .ref 17), (2, .int (2 : Int32))]) (st' := [.int (2 : Int32), .ref 17, .ref 143]) rfl ?_
  refine w_cv (H.te (by decide) rfl).1 (pc' := 16) (L' := [(0, .ref 143), (1, .ref 17), (2, .int (2 : Int32))]) (rest := [.ref 143]) (Ps := [.int (2 : Int32)]) (L0 := [(0, .ref 17), (1, .int (2 : Int32))]) h_m235 (z_at.mk 3 rfl rfl) (Or.inl ⟨rfl, rfl⟩) rfl rfl (by decide) (by decide) rfl rfl rfl rfl rfl rfl (by decide) rfl rfl rfl ?_
  refine w_p h_m294 1 (pc' := 1) (L' := [(0, .ref 17), (1, .int (2 : Int32))]) (st' := [.ref 17]) rfl ?_
  refine w_cv (H.te (by decide) rfl).1 (pc' := 4) (L' := [(0, .ref 17), (1, .int (2 : Int32))]) (rest := []) (Ps := []) (L0 := [(0, .ref 17)]) h_m294 (z_at.mk 3 rfl rfl) (Or.inl ⟨rfl, rfl⟩) rfl rfl (by decide) (by decide) rfl rfl rfl rfl rfl rfl (by decide) rfl rfl rfl ?_
  refine w_p h_m299 3 (pc' := 7) (L' := [(0, .ref 17)]) (st' := [.ref 17]) rfl ?_
  refine w_gs H (pc' := 10) (L' := [(0, .ref 17)]) h_m299 (z_at.mk 3 rfl rfl) rfl (by decide) rfl rfl rfl rfl ?_
  refine w_p h_m299 3 (pc' := 18) (L' := []) (st' := [.int (1 : Int32)]) rfl ?_
  refine w_ri h_m299 (z_at.mk 1 rfl rfl) rfl rfl ?_
  show z_W 997 294 4 [(0, .ref 17), (1, .int (2 : Int32))] [.int (1 : Int32)] m _
  refine w_p h_m294 2 (pc' := 8) (L' := [(0, .ref 17), (1, .int (2 : Int32))]) (st' := [.ref 17]) rfl ?_
  refine w_gs H (pc' := 11) (L' := [(0, .ref 17), (1, .int (2 : Int32))]) h_m294 (z_at.mk 3 rfl rfl) rfl (by decide) rfl rfl rfl rfl ?_
  refine w_p h_m294 1 (pc' := 12) (L' := [(0, .ref 17), (1, .int (2 : Int32))]) (st' := [.int (2 : Int32), .ref 35]) rfl ?_
  refine w_cs (As := [.ref 35, .int (2 : Int32)]) (rest := []) (j := 308) (L0 := [(0, .ref 35), (1, .int (2 : Int32))]) (pc' := 15) (L' := [(0, .ref 17), (1, .int (2 : Int32))]) h_m294 (z_at.mk 3 rfl rfl) (Or.inl ⟨rfl, rfl⟩) rfl rfl rfl rfl rfl ?_
  refine w_p h_m308 2 (pc' := 2) (L' := [(0, .ref 35), (1, .int (2 : Int32))]) (st' := [.ref 35, .int (2 : Int32)]) rfl ?_
  refine w_lene H (x := (4 : Int32)) (pc' := 3) (L' := [(0, .ref 35), (1, .int (2 : Int32))]) h_m308 (z_at.mk 1 rfl rfl) (by decide) rfl (by decide) rfl rfl rfl ?_
  refine w_ci (pc' := 6) (L' := [(0, .ref 35), (1, .int (2 : Int32))]) h_m308 (z_at.mk 3 rfl rfl) rfl (z_cat_le 0 rfl (by decide)) ⟨by decide, by decide⟩ rfl rfl ?_
  refine w_p h_m308 2 (pc' := 8) (L' := [(0, .ref 35), (1, .int (2 : Int32))]) (st' := [.int (2 : Int32), .ref 35]) rfl ?_
  refine w_ae H (j := 2) (pc' := 9) (L' := [(0, .ref 35), (1, .int (2 : Int32))]) h_m308 (z_at.mk 1 rfl rfl) rfl rfl rfl (by decide) rfl (by decide) rfl rfl rfl ?_
  refine w_p h_m308 3 (pc' := 14) (L' := [(0, .ref 35), (1, .int (2 : Int32))]) (st' := [.int (107 : Int32)]) rfl ?_
  refine w_ri h_m308 (z_at.mk 1 rfl rfl) rfl rfl ?_
  show z_W 997 294 15 [(0, .ref 17), (1, .int (2 : Int32))] [.int (107 : Int32)] m _
  refine w_ri h_m294 (z_at.mk 1 rfl rfl) rfl rfl ?_
  show z_W 998 235 16 [(0, .ref 143), (1, .ref 17), (2, .int (2 : Int32))] [.int (107 : Int32), .ref 143] m _
  refine w_cv (H.t rfl) (pc' := 19) (L' := [(0, .ref 143), (1, .ref 17), (2, .int (2 : Int32))]) (rest := []) (Ps := [.int (107 : Int32)]) (L0 := [(0, .ref 143), (1, .int (107 : Int32))]) h_m235 (z_at.mk 3 rfl rfl) (Or.inl ⟨rfl, rfl⟩) rfl rfl (by decide) (by decide) rfl rfl rfl rfl rfl rfl (by decide) rfl rfl rfl ?_
  refine w_p h_m234 1 (pc' := 1) (L' := [(0, .ref 143), (1, .int (107 : Int32))]) (st' := [.ref 143]) rfl ?_
  refine w_gf H (pc' := 4) (L' := [(0, .ref 143), (1, .int (107 : Int32))]) h_m234 (z_at.mk 3 rfl rfl) rfl (u := .ref 163) rfl rfl rfl ?_
  refine w_p h_m234 1 (pc' := 5) (L' := [(0, .ref 143), (1, .int (107 : Int32))]) (st' := [.ref 143, .ref 163]) rfl ?_
  refine w_gf H (pc' := 8) (L' := [(0, .ref 143), (1, .int (107 : Int32))]) h_m234 (z_at.mk 3 rfl rfl) rfl (u := .int (2 : Int32)) rfl rfl rfl ?_
  refine w_p h_m234 1 (pc' := 9) (L' := [(0, .ref 143), (1, .int (107 : Int32))]) (st' := [.int (107 : Int32), .int (2 : Int32), .ref 163]) rfl ?_
  refine w_as H (t := 0) (j := 2) (u := .int (107 : Int32)) (0, 40000, [(2, .int (107 : Int32)), (1, .int (115 : Int32)), (0, .int (97 : Int32))], some (.int (0 : Int32))) (pc' := 10) (L' := [(0, .ref 143), (1, .int (107 : Int32))]) h_m234 (z_at.mk 1 rfl rfl) rfl rfl (w_ui _ _ (by decide)) rfl rfl rfl rfl ?_
  clear H m; intro m H
  refine w_p h_m234 2 (pc' := 12) (L' := [(0, .ref 143), (1, .int (107 : Int32))]) (st' := [.ref 143, .ref 143]) rfl ?_
  refine w_gf H (pc' := 15) (L' := [(0, .ref 143), (1, .int (107 : Int32))]) h_m234 (z_at.mk 3 rfl rfl) rfl (u := .int (2 : Int32)) rfl rfl rfl ?_
  refine w_p h_m234 2 (pc' := 17) (L' := [(0, .ref 143), (1, .int (107 : Int32))]) (st' := [.int (3 : Int32), .ref 143]) rfl ?_
  refine w_pf H (22, 35, [(29, .int (3 : Int32)), (10, .int (1 : Int32)), (34, .ref 167), (33, .ref 166), (31, .ref 165), (30, .ref 164), (28, .ref 163), (26, .ref 162), (25, .ref 161), (24, .ref 160), (19, .ref 159), (18, .ref 158), (17, .ref 157), (16, .ref 156), (13, .ref 155), (12, .ref 154), (11, .ref 153), (9, .ref 152), (8, .ref 151), (7, .ref 150), (5, .ref 149), (4, .ref 148), (3, .ref 147), (2, .ref 146), (1, .ref 145), (0, .ref 144), (6, .int (0 : Int32)), (14, .int (0 : Int32)), (15, .int (0 : Int32)), (20, .int (0 : Int32)), (21, .int (0 : Int32)), (22, .int (0 : Int32)), (23, .int (0 : Int32)), (27, .int (0 : Int32)), (32, .int (0 : Int32))], none) (pc' := 20) (L' := [(0, .ref 143), (1, .int (107 : Int32))]) h_m234 (z_at.mk 3 rfl rfl) rfl (by decide) rfl (Or.inl rfl) rfl rfl rfl ?_
  clear H m; intro m H
  refine w_rv h_m234 (z_at.mk 1 rfl rfl) rfl ?_
  show z_W 998 235 19 [(0, .ref 143), (1, .ref 17), (2, .int (2 : Int32))] [] m _
  refine w_p h_m235 4 (pc' := 4) (L' := [(0, .ref 143), (1, .ref 17), (2, .int (3 : Int32))]) (st' := [.ref 17, .int (3 : Int32)]) rfl ?_
  refine w_cv (H.te (by decide) rfl).1 (pc' := 7) (L' := [(0, .ref 143), (1, .ref 17), (2, .int (3 : Int32))]) (rest := [.int (3 : Int32)]) (Ps := []) (L0 := [(0, .ref 17)]) h_m235 (z_at.mk 3 rfl rfl) (Or.inl ⟨rfl, rfl⟩) rfl rfl (by decide) (by decide) rfl rfl rfl rfl rfl rfl (by decide) rfl rfl rfl ?_
  refine w_p h_m293 1 (pc' := 1) (L' := [(0, .ref 17)]) (st' := [.ref 17]) rfl ?_
  refine w_gs H (pc' := 4) (L' := [(0, .ref 17)]) h_m293 (z_at.mk 3 rfl rfl) rfl (by decide) rfl rfl rfl rfl ?_
  refine w_lene H (x := (4 : Int32)) (pc' := 5) (L' := [(0, .ref 17)]) h_m293 (z_at.mk 1 rfl rfl) (by decide) rfl (by decide) rfl rfl rfl ?_
  refine w_p h_m293 1 (pc' := 6) (L' := [(0, .ref 17)]) (st' := [.ref 17, .int (4 : Int32)]) rfl ?_
  refine w_cv (H.te (by decide) rfl).1 (pc' := 9) (L' := [(0, .ref 17)]) (rest := [.int (4 : Int32)]) (Ps := []) (L0 := [(0, .ref 17)]) h_m293 (z_at.mk 3 rfl rfl) (Or.inl ⟨rfl, rfl⟩) rfl rfl (by decide) (by decide) rfl rfl rfl rfl rfl rfl (by decide) rfl rfl rfl ?_
  refine w_p h_m298 3 (pc' := 7) (L' := [(0, .ref 17)]) (st' := [.ref 17]) rfl ?_
  refine w_gs H (pc' := 10) (L' := [(0, .ref 17)]) h_m298 (z_at.mk 3 rfl rfl) rfl (by decide) rfl rfl rfl rfl ?_
  refine w_p h_m298 1 (pc' := 14) (L' := []) (st' := [.int (0 : Int32)]) rfl ?_
  refine w_ri h_m298 (z_at.mk 1 rfl rfl) rfl rfl ?_
  show z_W 997 293 9 [(0, .ref 17)] [.int (0 : Int32), .int (4 : Int32)] m _
  refine w_p h_m293 1 (pc' := 10) (L' := [(0, .ref 17)]) (st' := [.int (4 : Int32)]) rfl ?_
  refine w_ri h_m293 (z_at.mk 1 rfl rfl) rfl rfl ?_
  show z_W 998 235 7 [(0, .ref 143), (1, .ref 17), (2, .int (3 : Int32))] [.int (4 : Int32), .int (3 : Int32)] m _
  refine w_p h_m235 4 (pc' := 13) (L' := [(0, .ref 143), (1, .ref 17), (2, .int (3 : Int32))]) (st' := [.int (3 : Int32), .ref 17, .ref 143]) rfl ?_
  refine w_cv (H.te (by decide) rfl).1 (pc' := 16) (L' := [(0, .ref 143), (1, .ref 17), (2, .int (3 : Int32))]) (rest := [.ref 143]) (Ps := [.int (3 : Int32)]) (L0 := [(0, .ref 17), (1, .int (3 : Int32))]) h_m235 (z_at.mk 3 rfl rfl) (Or.inl ⟨rfl, rfl⟩) rfl rfl (by decide) (by decide) rfl rfl rfl rfl rfl rfl (by decide) rfl rfl rfl ?_
  refine w_p h_m294 1 (pc' := 1) (L' := [(0, .ref 17), (1, .int (3 : Int32))]) (st' := [.ref 17]) rfl ?_
  refine w_cv (H.te (by decide) rfl).1 (pc' := 4) (L' := [(0, .ref 17), (1, .int (3 : Int32))]) (rest := []) (Ps := []) (L0 := [(0, .ref 17)]) h_m294 (z_at.mk 3 rfl rfl) (Or.inl ⟨rfl, rfl⟩) rfl rfl (by decide) (by decide) rfl rfl rfl rfl rfl rfl (by decide) rfl rfl rfl ?_
  refine w_p h_m299 3 (pc' := 7) (L' := [(0, .ref 17)]) (st' := [.ref 17]) rfl ?_
  refine w_gs H (pc' := 10) (L' := [(0, .ref 17)]) h_m299 (z_at.mk 3 rfl rfl) rfl (by decide) rfl rfl rfl rfl ?_
  refine w_p h_m299 3 (pc' := 18) (L' := []) (st' := [.int (1 : Int32)]) rfl ?_
  refine w_ri h_m299 (z_at.mk 1 rfl rfl) rfl rfl ?_
  show z_W 997 294 4 [(0, .ref 17), (1, .int (3 : Int32))] [.int (1 : Int32)] m _
  refine w_p h_m294 2 (pc' := 8) (L' := [(0, .ref 17), (1, .int (3 : Int32))]) (st' := [.ref 17]) rfl ?_
  refine w_gs H (pc' := 11) (L' := [(0, .ref 17), (1, .int (3 : Int32))]) h_m294 (z_at.mk 3 rfl rfl) rfl (by decide) rfl rfl rfl rfl ?_
  refine w_p h_m294 1 (pc' := 12) (L' := [(0, .ref 17), (1, .int (3 : Int32))]) (st' := [.int (3 : Int32), .ref 35]) rfl ?_
  refine w_cs (As := [.ref 35, .int (3 : Int32)]) (rest := []) (j := 308) (L0 := [(0, .ref 35), (1, .int (3 : Int32))]) (pc' := 15) (L' := [(0, .ref 17), (1, .int (3 : Int32))]) h_m294 (z_at.mk 3 rfl rfl) (Or.inl ⟨rfl, rfl⟩) rfl rfl rfl rfl rfl ?_
  refine w_p h_m308 2 (pc' := 2) (L' := [(0, .ref 35), (1, .int (3 : Int32))]) (st' := [.ref 35, .int (3 : Int32)]) rfl ?_
  refine w_lene H (x := (4 : Int32)) (pc' := 3) (L' := [(0, .ref 35), (1, .int (3 : Int32))]) h_m308 (z_at.mk 1 rfl rfl) (by decide) rfl (by decide) rfl rfl rfl ?_
  refine w_ci (pc' := 6) (L' := [(0, .ref 35), (1, .int (3 : Int32))]) h_m308 (z_at.mk 3 rfl rfl) rfl (z_cat_le 0 rfl (by decide)) ⟨by decide, by decide⟩ rfl rfl ?_
  refine w_p h_m308 2 (pc' := 8) (L' := [(0, .ref 35), (1, .int (3 : Int32))]) (st' := [.int (3 : Int32), .ref 35]) rfl ?_
  refine w_ae H (j := 3) (pc' := 9) (L' := [(0, .ref 35), (1, .int (3 : Int32))]) h_m308 (z_at.mk 1 rfl rfl) rfl rfl rfl (by decide) rfl (by decide) rfl rfl rfl ?_
  refine w_p h_m308 3 (pc' := 14) (L' := [(0, .ref 35), (1, .int (3 : Int32))]) (st' := [.int (32 : Int32)]) rfl ?_
  refine w_ri h_m308 (z_at.mk 1 rfl rfl) rfl rfl ?_
  show z_W 997 294 15 [(0, .ref 17), (1, .int (3 : Int32))] [.int (32 : Int32)] m _
  refine w_ri h_m294 (z_at.mk 1 rfl rfl) rfl rfl ?_
  show z_W 998 235 16 [(0, .ref 143), (1, .ref 17), (2, .int (3 : Int32))] [.int (32 : Int32), .ref 143] m _
  refine w_cv (H.t rfl) (pc' := 19) (L' := [(0, .ref 143), (1, .ref 17), (2, .int (3 : Int32))]) (rest := []) (Ps := [.int (32 : Int32)]) (L0 := [(0, .ref 143), (1, .int (32 : Int32))]) h_m235 (z_at.mk 3 rfl rfl) (Or.inl ⟨rfl, rfl⟩) rfl rfl (by decide) (by decide) rfl rfl rfl rfl rfl rfl (by decide) rfl rfl rfl ?_
  refine w_p h_m234 1 (pc' := 1) (L' := [(0, .ref 143), (1, .int (32 : Int32))]) (st' := [.ref 143]) rfl ?_
  refine w_gf H (pc' := 4) (L' := [(0, .ref 143), (1, .int (32 : Int32))]) h_m234 (z_at.mk 3 rfl rfl) rfl (u := .ref 163) rfl rfl rfl ?_
  refine w_p h_m234 1 (pc' := 5) (L' := [(0, .ref 143), (1, .int (32 : Int32))]) (st' := [.ref 143, .ref 163]) rfl ?_
  refine w_gf H (pc' := 8) (L' := [(0, .ref 143), (1, .int (32 : Int32))]) h_m234 (z_at.mk 3 rfl rfl) rfl (u := .int (3 : Int32)) rfl rfl rfl ?_
  refine w_p h_m234 1 (pc' := 9) (L' := [(0, .ref 143), (1, .int (32 : Int32))]) (st' := [.int (32 : Int32), .int (3 : Int32), .ref 163]) rfl ?_
  refine w_as H (t := 0) (j := 3) (u := .int (32 : Int32)) (0, 40000, [(3, .int (32 : Int32)), (2, .int (107 : Int32)), (1, .int (115 : Int32)), (0, .int (97 : Int32))], some (.int (0 : Int32))) (pc' := 10) (L' := [(0, .ref 143), (1, .int (32 : Int32))]) h_m234 (z_at.mk 1 rfl rfl) rfl rfl (w_ui _ _ (by decide)) rfl rfl rfl rfl ?_
  clear H m; intro m H
  refine w_p h_m234 2 (pc' := 12) (L' := [(0, .ref 143), (1, .int (32 : Int32))]) (st' := [.ref 143, .ref 143]) rfl ?_
  refine w_gf H (pc' := 15) (L' := [(0, .ref 143), (1, .int (32 : Int32))]) h_m234 (z_at.mk 3 rfl rfl) rfl (u := .int (3 : Int32)) rfl rfl rfl ?_
  refine w_p h_m234 2 (pc' := 17) (L' := [(0, .ref 143), (1, .int (32 : Int32))]) (st' := [.int (4 : Int32), .ref 143]) rfl ?_
  refine w_pf H (22, 35, [(29, .int (4 : Int32)), (10, .int (1 : Int32)), (34, .ref 167), (33, .ref 166), (31, .ref 165), (30, .ref 164), (28, .ref 163), (26, .ref 162), (25, .ref 161), (24, .ref 160), (19, .ref 159), (18, .ref 158), (17, .ref 157), (16, .ref 156), (13, .ref 155), (12, .ref 154), (11, .ref 153), (9, .ref 152), (8, .ref 151), (7, .ref 150), (5, .ref 149), (4, .ref 148), (3, .ref 147), (2, .ref 146), (1, .ref 145), (0, .ref 144), (6, .int (0 : Int32)), (14, .int (0 : Int32)), (15, .int (0 : Int32)), (20, .int (0 : Int32)), (21, .int (0 : Int32)), (22, .int (0 : Int32)), (23, .int (0 : Int32)), (27, .int (0 : Int32)), (32, .int (0 : Int32))], none) (pc' := 20) (L' := [(0, .ref 143), (1, .int (32 : Int32))]) h_m234 (z_at.mk 3 rfl rfl) rfl (by decide) rfl (Or.inl rfl) rfl rfl rfl ?_
  clear H m; intro m H
  refine w_rv h_m234 (z_at.mk 1 rfl rfl) rfl ?_
  show z_W 998 235 19 [(0, .ref 143), (1, .ref 17), (2, .int (3 : Int32))] [] m _
  refine w_p h_m235 4 (pc' := 4) (L' := [(0, .ref 143), (1, .ref 17), (2, .int (4 : Int32))]) (st' := [.ref 17, .int (4 : Int32)]) rfl ?_
  refine w_cv (H.te (by decide) rfl).1 (pc' := 7) (L' := [(0, .ref 143), (1, .ref 17), (2, .int (4 : Int32))]) (rest := [.int (4 : Int32)]) (Ps := []) (L0 := [(0, .ref 17)]) h_m235 (z_at.mk 3 rfl rfl) (Or.inl ⟨rfl, rfl⟩) rfl rfl (by decide) (by decide) rfl rfl rfl rfl rfl rfl (by decide) rfl rfl rfl ?_
  refine w_p h_m293 1 (pc' := 1) (L' := [(0, .ref 17)]) (st' := [.ref 17]) rfl ?_
  refine w_gs H (pc' := 4) (L' := [(0, .ref 17)]) h_m293 (z_at.mk 3 rfl rfl) rfl (by decide) rfl rfl rfl rfl ?_
  refine w_lene H (x := (4 : Int32)) (pc' := 5) (L' := [(0, .ref 17)]) h_m293 (z_at.mk 1 rfl rfl) (by decide) rfl (by decide) rfl rfl rfl ?_
  refine w_p h_m293 1 (pc' := 6) (L' := [(0, .ref 17)]) (st' := [.ref 17, .int (4 : Int32)]) rfl ?_
  refine w_cv (H.te (by decide) rfl).1 (pc' := 9) (L' := [(0, .ref 17)]) (rest := [.int (4 : Int32)]) (Ps := []) (L0 := [(0, .ref 17)]) h_m293 (z_at.mk 3 rfl rfl) (Or.inl ⟨rfl, rfl⟩) rfl rfl (by decide) (by decide) rfl rfl rfl rfl rfl rfl (by decide) rfl rfl rfl ?_
  refine w_p h_m298 3 (pc' := 7) (L' := [(0, .ref 17)]) (st' := [.ref 17]) rfl ?_
  refine w_gs H (pc' := 10) (L' := [(0, .ref 17)]) h_m298 (z_at.mk 3 rfl rfl) rfl (by decide) rfl rfl rfl rfl ?_
  refine w_p h_m298 1 (pc' := 14) (L' := []) (st' := [.int (0 : Int32)]) rfl ?_
  refine w_ri h_m298 (z_at.mk 1 rfl rfl) rfl rfl ?_
  show z_W 997 293 9 [(0, .ref 17)] [.int (0 : Int32), .int (4 : Int32)] m _
  refine w_p h_m293 1 (pc' := 10) (L' := [(0, .ref 17)]) (st' := [.int (4 : Int32)]) rfl ?_
  refine w_ri h_m293 (z_at.mk 1 rfl rfl) rfl rfl ?_
  show z_W 998 235 7 [(0, .ref 143), (1, .ref 17), (2, .int (4 : Int32))] [.int (4 : Int32), .int (4 : Int32)] m _
  refine w_p h_m235 1 (pc' := 25) (L' := [(0, .ref 143), (1, .ref 17), (2, .int (4 : Int32))]) (st' := []) rfl ?_
  refine w_rv h_m235 (z_at.mk 1 rfl rfl) rfl ?_
  show z_W 999 239 168 [(0, .ref 143), (5, .int (0 : Int32)), (6, .int (0 : Int32))] [] m _
  refine w_p h_m239 2 (pc' := 170) (L' := [(0, .ref 143), (5, .int (0 : Int32)), (6, .int (0 : Int32))]) (st' := [.ref 143, .ref 143]) rfl ?_
  refine w_gf H (pc' := 173) (L' := [(0, .ref 143), (5, .int (0 : Int32)), (6, .int (0 : Int32))]) h_m239 (z_at.mk 3 rfl rfl) rfl (u := .ref 150) rfl rfl rfl ?_
  refine w_p h_m239 3 (pc' := 177) (L' := [(0, .ref 143), (5, .int (0 : Int32)), (6, .int (0 : Int32))]) (st' := [.int (0 : Int32), .ref 150, .ref 143]) rfl ?_
  refine w_cv (H.t rfl) (pc' := 180) (L' := [(0, .ref 143), (5, .int (0 : Int32)), (6, .int (0 : Int32))]) (rest := []) (Ps := [.ref 150, .int (0 : Int32)]) (L0 := [(0, .ref 143), (1, .ref 150), (2, .int (0 : Int32))]) h_m239 (z_at.mk 3 rfl rfl) (Or.inl ⟨rfl, rfl⟩) rfl rfl (by decide) (by decide) rfl rfl rfl rfl rfl rfl (by decide) rfl rfl rfl ?_
  refine w_p h_m237 3 (pc' := 3) (L' := [(0, .ref 143), (1, .ref 150), (2, .int (0 : Int32))]) (st' := [.int (0 : Int32), .ref 150, .ref 143]) rfl ?_
  refine w_al H (t := 0) (j := 0) (pc' := 4) (L' := [(0, .ref 143), (1, .ref 150), (2, .int (0 : Int32))]) h_m237 (z_at.mk 1 rfl rfl) rfl rfl rfl (u := .int (xs 1)) rfl rfl rfl ?_
  refine w_cv (H.t rfl) (pc' := 7) (L' := [(0, .ref 143), (1, .ref 150), (2, .int (0 : Int32))]) (rest := []) (Ps := [.int (xs 1)]) (L0 := [(0, .ref 143), (1, .int (xs 1))]) h_m237 (z_at.mk 3 rfl rfl) (Or.inl ⟨rfl, rfl⟩) rfl rfl (by decide) (by decide) rfl rfl rfl rfl rfl rfl (by decide) rfl rfl rfl ?_
  refine w_p h_m236 2 (pc' := 3) (L' := [(0, .ref 143), (1, .int (xs 1))]) (st' := [.int (9 : Int32), .int (xs 1)]) rfl ?_
  refine w_f2 (pc' := 6) (L' := [(0, .ref 143), (1, .int (xs 1))]) h_m236 (z_at.mk 3 rfl rfl) rfl (zc (a := (xs 1).toInt) (b := 9) rfl rfl (decide_eq_false (by omega))) rfl rfl ?_
  refine w_p h_m236 4 (pc' := 11) (L' := [(0, .ref 143), (1, .int (xs 1))]) (st' := [.int ((xs 1) / (10 : Int32)), .ref 143]) rfl ?_
  have k_21 := zi_div (x := xs 1) (y := (10 : Int32)) (a := (xs 1).toInt) (b := 10) rfl rfl (by omega) (by omega)
  refine w_cv (H.t rfl) (pc' := 14) (L' := [(0, .ref 143), (1, .int (xs 1))]) (rest := []) (Ps := [.int ((xs 1) / (10 : Int32))]) (L0 := [(0, .ref 143), (1, .int ((xs 1) / (10 : Int32)))]) h_m236 (z_at.mk 3 rfl rfl) (Or.inl ⟨rfl, rfl⟩) rfl rfl (by decide) (by decide) rfl rfl rfl rfl rfl rfl (by decide) rfl rfl rfl ?_
  refine w_p h_m236 2 (pc' := 3) (L' := [(0, .ref 143), (1, .int ((xs 1) / (10 : Int32)))]) (st' := [.int (9 : Int32), .int ((xs 1) / (10 : Int32))]) rfl ?_
  refine w_t2 (pc' := 14) (L' := [(0, .ref 143), (1, .int ((xs 1) / (10 : Int32)))]) h_m236 (z_at.mk 3 rfl rfl) rfl (zc (a := ((xs 1) / (10 : Int32)).toInt) (b := 9) rfl rfl (decide_eq_true (by omega))) rfl rfl ?_
  refine w_p h_m236 6 (pc' := 22) (L' := [(0, .ref 143), (1, .int ((xs 1) / (10 : Int32)))]) (st' := [.int ((48 : Int32) + (((xs 1) / (10 : Int32)) - ((xs 1) / (10 : Int32)) / (10 : Int32) * (10 : Int32))), .ref 143]) rfl ?_
  refine w_cv (H.t rfl) (pc' := 25) (L' := [(0, .ref 143), (1, .int ((xs 1) / (10 : Int32)))]) (rest := []) (Ps := [.int ((48 : Int32) + (((xs 1) / (10 : Int32)) - ((xs 1) / (10 : Int32)) / (10 : Int32) * (10 : Int32)))]) (L0 := [(0, .ref 143), (1, .int ((48 : Int32) + (((xs 1) / (10 : Int32)) - ((xs 1) / (10 : Int32)) / (10 : Int32) * (10 : Int32))))]) h_m236 (z_at.mk 3 rfl rfl) (Or.inl ⟨rfl, rfl⟩) rfl rfl (by decide) (by decide) rfl rfl rfl rfl rfl rfl (by decide) rfl rfl rfl ?_
  refine w_p h_m234 1 (pc' := 1) (L' := [(0, .ref 143), (1, .int ((48 : Int32) + (((xs 1) / (10 : Int32)) - ((xs 1) / (10 : Int32)) / (10 : Int32) * (10 : Int32))))]) (st' := [.ref 143]) rfl ?_
  refine w_gf H (pc' := 4) (L' := [(0, .ref 143), (1, .int ((48 : Int32) + (((xs 1) / (10 : Int32)) - ((xs 1) / (10 : Int32)) / (10 : Int32) * (10 : Int32))))]) h_m234 (z_at.mk 3 rfl rfl) rfl (u := .ref 163) rfl rfl rfl ?_
  refine w_p h_m234 1 (pc' := 5) (L' := [(0, .ref 143), (1, .int ((48 : Int32) + (((xs 1) / (10 : Int32)) - ((xs 1) / (10 : Int32)) / (10 : Int32) * (10 : Int32))))]) (st' := [.ref 143, .ref 163]) rfl ?_
  refine w_gf H (pc' := 8) (L' := [(0, .ref 143), (1, .int ((48 : Int32) + (((xs 1) / (10 : Int32)) - ((xs 1) / (10 : Int32)) / (10 : Int32) * (10 : Int32))))]) h_m234 (z_at.mk 3 rfl rfl) rfl (u := .int (4 : Int32)) rfl rfl rfl ?_
  refine w_p h_m234 1 (pc' := 9) (L' := [(0, .ref 143), (1, .int ((48 : Int32) + (((xs 1) / (10 : Int32)) - ((xs 1) / (10 : Int32)) / (10 : Int32) * (10 : Int32))))]) (st' := [.int ((48 : Int32) + (((xs 1) / (10 : Int32)) - ((xs 1) / (10 : Int32)) / (10 : Int32) * (10 : Int32))), .int (4 : Int32), .ref 163]) rfl ?_
  refine w_as H (t := 0) (j := 4) (u := .int ((48 : Int32) + (((xs 1) / (10 : Int32)) - ((xs 1) / (10 : Int32)) / (10 : Int32) * (10 : Int32)))) (0, 40000, [(4, .int ((48 : Int32) + (((xs 1) / (10 : Int32)) - ((xs 1) / (10 : Int32)) / (10 : Int32) * (10 : Int32)))), (3, .int (32 : Int32)), (2, .int (107 : Int32)), (1, .int (115 : Int32)), (0, .int (97 : Int32))], some (.int (0 : Int32))) (pc' := 10) (L' := [(0, .ref 143), (1, .int ((48 : Int32) + (((xs 1) / (10 : Int32)) - ((xs 1) / (10 : Int32)) / (10 : Int32) * (10 : Int32))))]) h_m234 (z_at.mk 1 rfl rfl) rfl rfl (w_ui _ _ (by decide)) rfl rfl rfl rfl ?_
  clear H m; intro m H
  refine w_p h_m234 2 (pc' := 12) (L' := [(0, .ref 143), (1, .int ((48 : Int32) + (((xs 1) / (10 : Int32)) - ((xs 1) / (10 : Int32)) / (10 : Int32) * (10 : Int32))))]) (st' := [.ref 143, .ref 143]) rfl ?_
  refine w_gf H (pc' := 15) (L' := [(0, .ref 143), (1, .int ((48 : Int32) + (((xs 1) / (10 : Int32)) - ((xs 1) / (10 : Int32)) / (10 : Int32) * (10 : Int32))))]) h_m234 (z_at.mk 3 rfl rfl) rfl (u := .int (4 : Int32)) rfl rfl rfl ?_
  refine w_p h_m234 2 (pc' := 17) (L' := [(0, .ref 143), (1, .int ((48 : Int32) + (((xs 1) / (10 : Int32)) - ((xs 1) / (10 : Int32)) / (10 : Int32) * (10 : Int32))))]) (st' := [.int (5 : Int32), .ref 143]) rfl ?_
  refine w_pf H (22, 35, [(29, .int (5 : Int32)), (10, .int (1 : Int32)), (34, .ref 167), (33, .ref 166), (31, .ref 165), (30, .ref 164), (28, .ref 163), (26, .ref 162), (25, .ref 161), (24, .ref 160), (19, .ref 159), (18, .ref 158), (17, .ref 157), (16, .ref 156), (13, .ref 155), (12, .ref 154), (11, .ref 153), (9, .ref 152), (8, .ref 151), (7, .ref 150), (5, .ref 149), (4, .ref 148), (3, .ref 147), (2, .ref 146), (1, .ref 145), (0, .ref 144), (6, .int (0 : Int32)), (14, .int (0 : Int32)), (15, .int (0 : Int32)), (20, .int (0 : Int32)), (21, .int (0 : Int32)), (22, .int (0 : Int32)), (23, .int (0 : Int32)), (27, .int (0 : Int32)), (32, .int (0 : Int32))], none) (pc' := 20) (L' := [(0, .ref 143), (1, .int ((48 : Int32) + (((xs 1) / (10 : Int32)) - ((xs 1) / (10 : Int32)) / (10 : Int32) * (10 : Int32))))]) h_m234 (z_at.mk 3 rfl rfl) rfl (by decide) rfl (Or.inl rfl) rfl rfl rfl ?_
  clear H m; intro m H
  refine w_rv h_m234 (z_at.mk 1 rfl rfl) rfl ?_
  show z_W 996 236 25 [(0, .ref 143), (1, .int ((xs 1) / (10 : Int32)))] [] m _
  refine w_rv h_m236 (z_at.mk 1 rfl rfl) rfl ?_
  show z_W 997 236 14 [(0, .ref 143), (1, .int (xs 1))] [] m _
  refine w_p h_m236 6 (pc' := 22) (L' := [(0, .ref 143), (1, .int (xs 1))]) (st' := [.int ((48 : Int32) + ((xs 1) - (xs 1) / (10 : Int32) * (10 : Int32))), .ref 143]) rfl ?_
  refine w_cv (H.t rfl) (pc' := 25) (L' := [(0, .ref 143), (1, .int (xs 1))]) (rest := []) (Ps := [.int ((48 : Int32) + ((xs 1) - (xs 1) / (10 : Int32) * (10 : Int32)))]) (L0 := [(0, .ref 143), (1, .int ((48 : Int32) + ((xs 1) - (xs 1) / (10 : Int32) * (10 : Int32))))]) h_m236 (z_at.mk 3 rfl rfl) (Or.inl ⟨rfl, rfl⟩) rfl rfl (by decide) (by decide) rfl rfl rfl rfl rfl rfl (by decide) rfl rfl rfl ?_
  refine w_p h_m234 1 (pc' := 1) (L' := [(0, .ref 143), (1, .int ((48 : Int32) + ((xs 1) - (xs 1) / (10 : Int32) * (10 : Int32))))]) (st' := [.ref 143]) rfl ?_
  refine w_gf H (pc' := 4) (L' := [(0, .ref 143), (1, .int ((48 : Int32) + ((xs 1) - (xs 1) / (10 : Int32) * (10 : Int32))))]) h_m234 (z_at.mk 3 rfl rfl) rfl (u := .ref 163) rfl rfl rfl ?_
  refine w_p h_m234 1 (pc' := 5) (L' := [(0, .ref 143), (1, .int ((48 : Int32) + ((xs 1) - (xs 1) / (10 : Int32) * (10 : Int32))))]) (st' := [.ref 143, .ref 163]) rfl ?_
  refine w_gf H (pc' := 8) (L' := [(0, .ref 143), (1, .int ((48 : Int32) + ((xs 1) - (xs 1) / (10 : Int32) * (10 : Int32))))]) h_m234 (z_at.mk 3 rfl rfl) rfl (u := .int (5 : Int32)) rfl rfl rfl ?_
  refine w_p h_m234 1 (pc' := 9) (L' := [(0, .ref 143), (1, .int ((48 : Int32) + ((xs 1) - (xs 1) / (10 : Int32) * (10 : Int32))))]) (st' := [.int ((48 : Int32) + ((xs 1) - (xs 1) / (10 : Int32) * (10 : Int32))), .int (5 : Int32), .ref 163]) rfl ?_
  refine w_as H (t := 0) (j := 5) (u := .int ((48 : Int32) + ((xs 1) - (xs 1) / (10 : Int32) * (10 : Int32)))) (0, 40000, [(5, .int ((48 : Int32) + ((xs 1) - (xs 1) / (10 : Int32) * (10 : Int32)))), (4, .int ((48 : Int32) + (((xs 1) / (10 : Int32)) - ((xs 1) / (10 : Int32)) / (10 : Int32) * (10 : Int32)))), (3, .int (32 : Int32)), (2, .int (107 : Int32)), (1, .int (115 : Int32)), (0, .int (97 : Int32))], some (.int (0 : Int32))) (pc' := 10) (L' := [(0, .ref 143), (1, .int ((48 : Int32) + ((xs 1) - (xs 1) / (10 : Int32) * (10 : Int32))))]) h_m234 (z_at.mk 1 rfl rfl) rfl rfl (w_ui _ _ (by decide)) rfl rfl rfl rfl ?_
  clear H m; intro m H
  refine w_p h_m234 2 (pc' := 12) (L' := [(0, .ref 143), (1, .int ((48 : Int32) + ((xs 1) - (xs 1) / (10 : Int32) * (10 : Int32))))]) (st' := [.ref 143, .ref 143]) rfl ?_
  refine w_gf H (pc' := 15) (L' := [(0, .ref 143), (1, .int ((48 : Int32) + ((xs 1) - (xs 1) / (10 : Int32) * (10 : Int32))))]) h_m234 (z_at.mk 3 rfl rfl) rfl (u := .int (5 : Int32)) rfl rfl rfl ?_
  refine w_p h_m234 2 (pc' := 17) (L' := [(0, .ref 143), (1, .int ((48 : Int32) + ((xs 1) - (xs 1) / (10 : Int32) * (10 : Int32))))]) (st' := [.int (6 : Int32), .ref 143]) rfl ?_
  refine w_pf H (22, 35, [(29, .int (6 : Int32)), (10, .int (1 : Int32)), (34, .ref 167), (33, .ref 166), (31, .ref 165), (30, .ref 164), (28, .ref 163), (26, .ref 162), (25, .ref 161), (24, .ref 160), (19, .ref 159), (18, .ref 158), (17, .ref 157), (16, .ref 156), (13, .ref 155), (12, .ref 154), (11, .ref 153), (9, .ref 152), (8, .ref 151), (7, .ref 150), (5, .ref 149), (4, .ref 148), (3, .ref 147), (2, .ref 146), (1, .ref 145), (0, .ref 144), (6, .int (0 : Int32)), (14, .int (0 : Int32)), (15, .int (0 : Int32)), (20, .int (0 : Int32)), (21, .int (0 : Int32)), (22, .int (0 : Int32)), (23, .int (0 : Int32)), (27, .int (0 : Int32)), (32, .int (0 : Int32))], none) (pc' := 20) (L' := [(0, .ref 143), (1, .int ((48 : Int32) + ((xs 1) - (xs 1) / (10 : Int32) * (10 : Int32))))]) h_m234 (z_at.mk 3 rfl rfl) rfl (by decide) rfl (Or.inl rfl) rfl rfl rfl ?_
  clear H m; intro m H
  refine w_rv h_m234 (z_at.mk 1 rfl rfl) rfl ?_
  show z_W 997 236 25 [(0, .ref 143), (1, .int (xs 1))] [] m _
  refine w_rv h_m236 (z_at.mk 1 rfl rfl) rfl ?_
  show z_W 998 237 7 [(0, .ref 143), (1, .ref 150), (2, .int (0 : Int32))] [] m _
  refine w_p h_m237 2 (pc' := 10) (L' := [(0, .ref 143), (1, .ref 150), (2, .int (0 : Int32))]) (st' := [.int (45 : Int32), .ref 143]) rfl ?_
  refine w_cv (H.t rfl) (pc' := 13) (L' := [(0, .ref 143), (1, .ref 150), (2, .int (0 : Int32))]) (rest := []) (Ps := [.int (45 : Int32)]) (L0 := [(0, .ref 143), (1, .int (45 : Int32))]) h_m237 (z_at.mk 3 rfl rfl) (Or.inl ⟨rfl, rfl⟩) rfl rfl (by decide) (by decide) rfl rfl rfl rfl rfl rfl (by decide) rfl rfl rfl ?_
  refine w_p h_m234 1 (pc' := 1) (L' := [(0, .ref 143), (1, .int (45 : Int32))]) (st' := [.ref 143]) rfl ?_
  refine w_gf H (pc' := 4) (L' := [(0, .ref 143), (1, .int (45 : Int32))]) h_m234 (z_at.mk 3 rfl rfl) rfl (u := .ref 163) rfl rfl rfl ?_
  refine w_p h_m234 1 (pc' := 5) (L' := [(0, .ref 143), (1, .int (45 : Int32))]) (st' := [.ref 143, .ref 163]) rfl ?_
  refine w_gf H (pc' := 8) (L' := [(0, .ref 143), (1, .int (45 : Int32))]) h_m234 (z_at.mk 3 rfl rfl) rfl (u := .int (6 : Int32)) rfl rfl rfl ?_
  refine w_p h_m234 1 (pc' := 9) (L' := [(0, .ref 143), (1, .int (45 : Int32))]) (st' := [.int (45 : Int32), .int (6 : Int32), .ref 163]) rfl ?_
  refine w_as H (t := 0) (j := 6) (u := .int (45 : Int32)) (0, 40000, [(6, .int (45 : Int32)), (5, .int ((48 : Int32) + ((xs 1) - (xs 1) / (10 : Int32) * (10 : Int32)))), (4, .int ((48 : Int32) + (((xs 1) / (10 : Int32)) - ((xs 1) / (10 : Int32)) / (10 : Int32) * (10 : Int32)))), (3, .int (32 : Int32)), (2, .int (107 : Int32)), (1, .int (115 : Int32)), (0, .int (97 : Int32))], some (.int (0 : Int32))) (pc' := 10) (L' := [(0, .ref 143), (1, .int (45 : Int32))]) h_m234 (z_at.mk 1 rfl rfl) rfl rfl (w_ui _ _ (by decide)) rfl rfl rfl rfl ?_
  clear H m; intro m H
  refine w_p h_m234 2 (pc' := 12) (L' := [(0, .ref 143), (1, .int (45 : Int32))]) (st' := [.ref 143, .ref 143]) rfl ?_
  refine w_gf H (pc' := 15) (L' := [(0, .ref 143), (1, .int (45 : Int32))]) h_m234 (z_at.mk 3 rfl rfl) rfl (u := .int (6 : Int32)) rfl rfl rfl ?_
  refine w_p h_m234 2 (pc' := 17) (L' := [(0, .ref 143), (1, .int (45 : Int32))]) (st' := [.int (7 : Int32), .ref 143]) rfl ?_
  refine w_pf H (22, 35, [(29, .int (7 : Int32)), (10, .int (1 : Int32)), (34, .ref 167), (33, .ref 166), (31, .ref 165), (30, .ref 164), (28, .ref 163), (26, .ref 162), (25, .ref 161), (24, .ref 160), (19, .ref 159), (18, .ref 158), (17, .ref 157), (16, .ref 156), (13, .ref 155), (12, .ref 154), (11, .ref 153), (9, .ref 152), (8, .ref 151), (7, .ref 150), (5, .ref 149), (4, .ref 148), (3, .ref 147), (2, .ref 146), (1, .ref 145), (0, .ref 144), (6, .int (0 : Int32)), (14, .int (0 : Int32)), (15, .int (0 : Int32)), (20, .int (0 : Int32)), (21, .int (0 : Int32)), (22, .int (0 : Int32)), (23, .int (0 : Int32)), (27, .int (0 : Int32)), (32, .int (0 : Int32))], none) (pc' := 20) (L' := [(0, .ref 143), (1, .int (45 : Int32))]) h_m234 (z_at.mk 3 rfl rfl) rfl (by decide) rfl (Or.inl rfl) rfl rfl rfl ?_
  clear H m; intro m H
  refine w_rv h_m234 (z_at.mk 1 rfl rfl) rfl ?_
  show z_W 998 237 13 [(0, .ref 143), (1, .ref 150), (2, .int (0 : Int32))] [] m _
  refine w_p h_m237 5 (pc' := 18) (L' := [(0, .ref 143), (1, .ref 150), (2, .int (0 : Int32))]) (st' := [.int (1 : Int32), .ref 150, .ref 143]) rfl ?_
  refine w_al H (t := 0) (j := 1) (pc' := 19) (L' := [(0, .ref 143), (1, .ref 150), (2, .int (0 : Int32))]) h_m237 (z_at.mk 1 rfl rfl) rfl rfl rfl (u := .int (xs 2)) rfl rfl rfl ?_
  refine w_cv (H.t rfl) (pc' := 22) (L' := [(0, .ref 143), (1, .ref 150), (2, .int (0 : Int32))]) (rest := []) (Ps := [.int (xs 2)]) (L0 := [(0, .ref 143), (1, .int (xs 2))]) h_m237 (z_at.mk 3 rfl rfl) (Or.inl ⟨rfl, rfl⟩) rfl rfl (by decide) (by decide) rfl rfl rfl rfl rfl rfl (by decide) rfl rfl rfl ?_
  refine w_p h_m236 2 (pc' := 3) (L' := [(0, .ref 143), (1, .int (xs 2))]) (st' := [.int (9 : Int32), .int (xs 2)]) rfl ?_
  refine w_f2 (pc' := 6) (L' := [(0, .ref 143), (1, .int (xs 2))]) h_m236 (z_at.mk 3 rfl rfl) rfl (zc (a := (xs 2).toInt) (b := 9) rfl rfl (decide_eq_false (by omega))) rfl rfl ?_
  refine w_p h_m236 4 (pc' := 11) (L' := [(0, .ref 143), (1, .int (xs 2))]) (st' := [.int ((xs 2) / (10 : Int32)), .ref 143]) rfl ?_
  have k_22 := zi_div (x := xs 2) (y := (10 : Int32)) (a := (xs 2).toInt) (b := 10) rfl rfl (by omega) (by omega)
  refine w_cv (H.t rfl) (pc' := 14) (L' := [(0, .ref 143), (1, .int (xs 2))]) (rest := []) (Ps := [.int ((xs 2) / (10 : Int32))]) (L0 := [(0, .ref 143), (1, .int ((xs 2) / (10 : Int32)))]) h_m236 (z_at.mk 3 rfl rfl) (Or.inl ⟨rfl, rfl⟩) rfl rfl (by decide) (by decide) rfl rfl rfl rfl rfl rfl (by decide) rfl rfl rfl ?_
  refine w_p h_m236 2 (pc' := 3) (L' := [(0, .ref 143), (1, .int ((xs 2) / (10 : Int32)))]) (st' := [.int (9 : Int32), .int ((xs 2) / (10 : Int32))]) rfl ?_
  refine w_t2 (pc' := 14) (L' := [(0, .ref 143), (1, .int ((xs 2) / (10 : Int32)))]) h_m236 (z_at.mk 3 rfl rfl) rfl (zc (a := ((xs 2) / (10 : Int32)).toInt) (b := 9) rfl rfl (decide_eq_true (by omega))) rfl rfl ?_
  refine w_p h_m236 6 (pc' := 22) (L' := [(0, .ref 143), (1, .int ((xs 2) / (10 : Int32)))]) (st' := [.int ((48 : Int32) + (((xs 2) / (10 : Int32)) - ((xs 2) / (10 : Int32)) / (10 : Int32) * (10 : Int32))), .ref 143]) rfl ?_
  refine w_cv (H.t rfl) (pc' := 25) (L' := [(0, .ref 143), (1, .int ((xs 2) / (10 : Int32)))]) (rest := []) (Ps := [.int ((48 : Int32) + (((xs 2) / (10 : Int32)) - ((xs 2) / (10 : Int32)) / (10 : Int32) * (10 : Int32)))]) (L0 := [(0, .ref 143), (1, .int ((48 : Int32) + (((xs 2) / (10 : Int32)) - ((xs 2) / (10 : Int32)) / (10 : Int32) * (10 : Int32))))]) h_m236 (z_at.mk 3 rfl rfl) (Or.inl ⟨rfl, rfl⟩) rfl rfl (by decide) (by decide) rfl rfl rfl rfl rfl rfl (by decide) rfl rfl rfl ?_
  refine w_p h_m234 1 (pc' := 1) (L' := [(0, .ref 143), (1, .int ((48 : Int32) + (((xs 2) / (10 : Int32)) - ((xs 2) / (10 : Int32)) / (10 : Int32) * (10 : Int32))))]) (st' := [.ref 143]) rfl ?_
  refine w_gf H (pc' := 4) (L' := [(0, .ref 143), (1, .int ((48 : Int32) + (((xs 2) / (10 : Int32)) - ((xs 2) / (10 : Int32)) / (10 : Int32) * (10 : Int32))))]) h_m234 (z_at.mk 3 rfl rfl) rfl (u := .ref 163) rfl rfl rfl ?_
  refine w_p h_m234 1 (pc' := 5) (L' := [(0, .ref 143), (1, .int ((48 : Int32) + (((xs 2) / (10 : Int32)) - ((xs 2) / (10 : Int32)) / (10 : Int32) * (10 : Int32))))]) (st' := [.ref 143, .ref 163]) rfl ?_
  refine w_gf H (pc' := 8) (L' := [(0, .ref 143), (1, .int ((48 : Int32) + (((xs 2) / (10 : Int32)) - ((xs 2) / (10 : Int32)) / (10 : Int32) * (10 : Int32))))]) h_m234 (z_at.mk 3 rfl rfl) rfl (u := .int (7 : Int32)) rfl rfl rfl ?_
  refine w_p h_m234 1 (pc' := 9) (L' := [(0, .ref 143), (1, .int ((48 : Int32) + (((xs 2) / (10 : Int32)) - ((xs 2) / (10 : Int32)) / (10 : Int32) * (10 : Int32))))]) (st' := [.int ((48 : Int32) + (((xs 2) / (10 : Int32)) - ((xs 2) / (10 : Int32)) / (10 : Int32) * (10 : Int32))), .int (7 : Int32), .ref 163]) rfl ?_
  refine w_as H (t := 0) (j := 7) (u := .int ((48 : Int32) + (((xs 2) / (10 : Int32)) - ((xs 2) / (10 : Int32)) / (10 : Int32) * (10 : Int32)))) (0, 40000, [(7, .int ((48 : Int32) + (((xs 2) / (10 : Int32)) - ((xs 2) / (10 : Int32)) / (10 : Int32) * (10 : Int32)))), (6, .int (45 : Int32)), (5, .int ((48 : Int32) + ((xs 1) - (xs 1) / (10 : Int32) * (10 : Int32)))), (4, .int ((48 : Int32) + (((xs 1) / (10 : Int32)) - ((xs 1) / (10 : Int32)) / (10 : Int32) * (10 : Int32)))), (3, .int (32 : Int32)), (2, .int (107 : Int32)), (1, .int (115 : Int32)), (0, .int (97 : Int32))], some (.int (0 : Int32))) (pc' := 10) (L' := [(0, .ref 143), (1, .int ((48 : Int32) + (((xs 2) / (10 : Int32)) - ((xs 2) / (10 : Int32)) / (10 : Int32) * (10 : Int32))))]) h_m234 (z_at.mk 1 rfl rfl) rfl rfl (w_ui _ _ (by decide)) rfl rfl rfl rfl ?_
  clear H m; intro m H
  refine w_p h_m234 2 (pc' := 12) (L' := [(0, .ref 143), (1, .int ((48 : Int32) + (((xs 2) / (10 : Int32)) - ((xs 2) / (10 : Int32)) / (10 : Int32) * (10 : Int32))))]) (st' := [.ref 143, .ref 143]) rfl ?_
  refine w_gf H (pc' := 15) (L' := [(0, .ref 143), (1, .int ((48 : Int32) + (((xs 2) / (10 : Int32)) - ((xs 2) / (10 : Int32)) / (10 : Int32) * (10 : Int32))))]) h_m234 (z_at.mk 3 rfl rfl) rfl (u := .int (7 : Int32)) rfl rfl rfl ?_
  refine w_p h_m234 2 (pc' := 17) (L' := [(0, .ref 143), (1, .int ((48 : Int32) + (((xs 2) / (10 : Int32)) - ((xs 2) / (10 : Int32)) / (10 : Int32) * (10 : Int32))))]) (st' := [.int (8 : Int32), .ref 143]) rfl ?_
  refine w_pf H (22, 35, [(29, .int (8 : Int32)), (10, .int (1 : Int32)), (34, .ref 167), (33, .ref 166), (31, .ref 165), (30, .ref 164), (28, .ref 163), (26, .ref 162), (25, .ref 161), (24, .ref 160), (19, .ref 159), (18, .ref 158), (17, .ref 157), (16, .ref 156), (13, .ref 155), (12, .ref 154), (11, .ref 153), (9, .ref 152), (8, .ref 151), (7, .ref 150), (5, .ref 149), (4, .ref 148), (3, .ref 147), (2, .ref 146), (1, .ref 145), (0, .ref 144), (6, .int (0 : Int32)), (14, .int (0 : Int32)), (15, .int (0 : Int32)), (20, .int (0 : Int32)), (21, .int (0 : Int32)), (22, .int (0 : Int32)), (23, .int (0 : Int32)), (27, .int (0 : Int32)), (32, .int (0 : Int32))], none) (pc' := 20) (L' := [(0, .ref 143), (1, .int ((48 : Int32) + (((xs 2) / (10 : Int32)) - ((xs 2) / (10 : Int32)) / (10 : Int32) * (10 : Int32))))]) h_m234 (z_at.mk 3 rfl rfl) rfl (by decide) rfl (Or.inl rfl) rfl rfl rfl ?_
  clear H m; intro m H
  refine w_rv h_m234 (z_at.mk 1 rfl rfl) rfl ?_
  show z_W 996 236 25 [(0, .ref 143), (1, .int ((xs 2) / (10 : Int32)))] [] m _
  refine w_rv h_m236 (z_at.mk 1 rfl rfl) rfl ?_
  show z_W 997 236 14 [(0, .ref 143), (1, .int (xs 2))] [] m _
  refine w_p h_m236 6 (pc' := 22) (L' := [(0, .ref 143), (1, .int (xs 2))]) (st' := [.int ((48 : Int32) + ((xs 2) - (xs 2) / (10 : Int32) * (10 : Int32))), .ref 143]) rfl ?_
  refine w_cv (H.t rfl) (pc' := 25) (L' := [(0, .ref 143), (1, .int (xs 2))]) (rest := []) (Ps := [.int ((48 : Int32) + ((xs 2) - (xs 2) / (10 : Int32) * (10 : Int32)))]) (L0 := [(0, .ref 143), (1, .int ((48 : Int32) + ((xs 2) - (xs 2) / (10 : Int32) * (10 : Int32))))]) h_m236 (z_at.mk 3 rfl rfl) (Or.inl ⟨rfl, rfl⟩) rfl rfl (by decide) (by decide) rfl rfl rfl rfl rfl rfl (by decide) rfl rfl rfl ?_
  refine w_p h_m234 1 (pc' := 1) (L' := [(0, .ref 143), (1, .int ((48 : Int32) + ((xs 2) - (xs 2) / (10 : Int32) * (10 : Int32))))]) (st' := [.ref 143]) rfl ?_
  refine w_gf H (pc' := 4) (L' := [(0, .ref 143), (1, .int ((48 : Int32) + ((xs 2) - (xs 2) / (10 : Int32) * (10 : Int32))))]) h_m234 (z_at.mk 3 rfl rfl) rfl (u := .ref 163) rfl rfl rfl ?_
  refine w_p h_m234 1 (pc' := 5) (L' := [(0, .ref 143), (1, .int ((48 : Int32) + ((xs 2) - (xs 2) / (10 : Int32) * (10 : Int32))))]) (st' := [.ref 143, .ref 163]) rfl ?_
  refine w_gf H (pc' := 8) (L' := [(0, .ref 143), (1, .int ((48 : Int32) + ((xs 2) - (xs 2) / (10 : Int32) * (10 : Int32))))]) h_m234 (z_at.mk 3 rfl rfl) rfl (u := .int (8 : Int32)) rfl rfl rfl ?_
  refine w_p h_m234 1 (pc' := 9) (L' := [(0, .ref 143), (1, .int ((48 : Int32) + ((xs 2) - (xs 2) / (10 : Int32) * (10 : Int32))))]) (st' := [.int ((48 : Int32) + ((xs 2) - (xs 2) / (10 : Int32) * (10 : Int32))), .int (8 : Int32), .ref 163]) rfl ?_
  refine w_as H (t := 0) (j := 8) (u := .int ((48 : Int32) + ((xs 2) - (xs 2) / (10 : Int32) * (10 : Int32)))) (0, 40000, [(8, .int ((48 : Int32) + ((xs 2) - (xs 2) / (10 : Int32) * (10 : Int32)))), (7, .int ((48 : Int32) + (((xs 2) / (10 : Int32)) - ((xs 2) / (10 : Int32)) / (10 : Int32) * (10 : Int32)))), (6, .int (45 : Int32)), (5, .int ((48 : Int32) + ((xs 1) - (xs 1) / (10 : Int32) * (10 : Int32)))), (4, .int ((48 : Int32) + (((xs 1) / (10 : Int32)) - ((xs 1) / (10 : Int32)) / (10 : Int32) * (10 : Int32)))), (3, .int (32 : Int32)), (2, .int (107 : Int32)), (1, .int (115 : Int32)), (0, .int (97 : Int32))], some (.int (0 : Int32))) (pc' := 10) (L' := [(0, .ref 143), (1, .int ((48 : Int32) + ((xs 2) - (xs 2) / (10 : Int32) * (10 : Int32))))]) h_m234 (z_at.mk 1 rfl rfl) rfl rfl (w_ui _ _ (by decide)) rfl rfl rfl rfl ?_
  clear H m; intro m H
  refine w_p h_m234 2 (pc' := 12) (L' := [(0, .ref 143), (1, .int ((48 : Int32) + ((xs 2) - (xs 2) / (10 : Int32) * (10 : Int32))))]) (st' := [.ref 143, .ref 143]) rfl ?_
  refine w_gf H (pc' := 15) (L' := [(0, .ref 143), (1, .int ((48 : Int32) + ((xs 2) - (xs 2) / (10 : Int32) * (10 : Int32))))]) h_m234 (z_at.mk 3 rfl rfl) rfl (u := .int (8 : Int32)) rfl rfl rfl ?_
  refine w_p h_m234 2 (pc' := 17) (L' := [(0, .ref 143), (1, .int ((48 : Int32) + ((xs 2) - (xs 2) / (10 : Int32) * (10 : Int32))))]) (st' := [.int (9 : Int32), .ref 143]) rfl ?_
  refine w_pf H (22, 35, [(29, .int (9 : Int32)), (10, .int (1 : Int32)), (34, .ref 167), (33, .ref 166), (31, .ref 165), (30, .ref 164), (28, .ref 163), (26, .ref 162), (25, .ref 161), (24, .ref 160), (19, .ref 159), (18, .ref 158), (17, .ref 157), (16, .ref 156), (13, .ref 155), (12, .ref 154), (11, .ref 153), (9, .ref 152), (8, .ref 151), (7, .ref 150), (5, .ref 149), (4, .ref 148), (3, .ref 147), (2, .ref 146), (1, .ref 145), (0, .ref 144), (6, .int (0 : Int32)), (14, .int (0 : Int32)), (15, .int (0 : Int32)), (20, .int (0 : Int32)), (21, .int (0 : Int32)), (22, .int (0 : Int32)), (23, .int (0 : Int32)), (27, .int (0 : Int32)), (32, .int (0 : Int32))], none) (pc' := 20) (L' := [(0, .ref 143), (1, .int ((48 : Int32) + ((xs 2) - (xs 2) / (10 : Int32) * (10 : Int32))))]) h_m234 (z_at.mk 3 rfl rfl) rfl (by decide) rfl (Or.inl rfl) rfl rfl rfl ?_
  clear H m; intro m H
  refine w_rv h_m234 (z_at.mk 1 rfl rfl) rfl ?_
  show z_W 997 236 25 [(0, .ref 143), (1, .int (xs 2))] [] m _
  refine w_rv h_m236 (z_at.mk 1 rfl rfl) rfl ?_
  show z_W 998 237 22 [(0, .ref 143), (1, .ref 150), (2, .int (0 : Int32))] [] m _
  refine w_p h_m237 2 (pc' := 25) (L' := [(0, .ref 143), (1, .ref 150), (2, .int (0 : Int32))]) (st' := [.int (44 : Int32), .ref 143]) rfl ?_
  refine w_cv (H.t rfl) (pc' := 28) (L' := [(0, .ref 143), (1, .ref 150), (2, .int (0 : Int32))]) (rest := []) (Ps := [.int (44 : Int32)]) (L0 := [(0, .ref 143), (1, .int (44 : Int32))]) h_m237 (z_at.mk 3 rfl rfl) (Or.inl ⟨rfl, rfl⟩) rfl rfl (by decide) (by decide) rfl rfl rfl rfl rfl rfl (by decide) rfl rfl rfl ?_
  refine w_p h_m234 1 (pc' := 1) (L' := [(0, .ref 143), (1, .int (44 : Int32))]) (st' := [.ref 143]) rfl ?_
  refine w_gf H (pc' := 4) (L' := [(0, .ref 143), (1, .int (44 : Int32))]) h_m234 (z_at.mk 3 rfl rfl) rfl (u := .ref 163) rfl rfl rfl ?_
  refine w_p h_m234 1 (pc' := 5) (L' := [(0, .ref 143), (1, .int (44 : Int32))]) (st' := [.ref 143, .ref 163]) rfl ?_
  refine w_gf H (pc' := 8) (L' := [(0, .ref 143), (1, .int (44 : Int32))]) h_m234 (z_at.mk 3 rfl rfl) rfl (u := .int (9 : Int32)) rfl rfl rfl ?_
  refine w_p h_m234 1 (pc' := 9) (L' := [(0, .ref 143), (1, .int (44 : Int32))]) (st' := [.int (44 : Int32), .int (9 : Int32), .ref 163]) rfl ?_
  refine w_as H (t := 0) (j := 9) (u := .int (44 : Int32)) (0, 40000, [(9, .int (44 : Int32)), (8, .int ((48 : Int32) + ((xs 2) - (xs 2) / (10 : Int32) * (10 : Int32)))), (7, .int ((48 : Int32) + (((xs 2) / (10 : Int32)) - ((xs 2) / (10 : Int32)) / (10 : Int32) * (10 : Int32)))), (6, .int (45 : Int32)), (5, .int ((48 : Int32) + ((xs 1) - (xs 1) / (10 : Int32) * (10 : Int32)))), (4, .int ((48 : Int32) + (((xs 1) / (10 : Int32)) - ((xs 1) / (10 : Int32)) / (10 : Int32) * (10 : Int32)))), (3, .int (32 : Int32)), (2, .int (107 : Int32)), (1, .int (115 : Int32)), (0, .int (97 : Int32))], some (.int (0 : Int32))) (pc' := 10) (L' := [(0, .ref 143), (1, .int (44 : Int32))]) h_m234 (z_at.mk 1 rfl rfl) rfl rfl (w_ui _ _ (by decide)) rfl rfl rfl rfl ?_
  clear H m; intro m H
  refine w_p h_m234 2 (pc' := 12) (L' := [(0, .ref 143), (1, .int (44 : Int32))]) (st' := [.ref 143, .ref 143]) rfl ?_
  refine w_gf H (pc' := 15) (L' := [(0, .ref 143), (1, .int (44 : Int32))]) h_m234 (z_at.mk 3 rfl rfl) rfl (u := .int (9 : Int32)) rfl rfl rfl ?_
  refine w_p h_m234 2 (pc' := 17) (L' := [(0, .ref 143), (1, .int (44 : Int32))]) (st' := [.int (10 : Int32), .ref 143]) rfl ?_
  refine w_pf H (22, 35, [(29, .int (10 : Int32)), (10, .int (1 : Int32)), (34, .ref 167), (33, .ref 166), (31, .ref 165), (30, .ref 164), (28, .ref 163), (26, .ref 162), (25, .ref 161), (24, .ref 160), (19, .ref 159), (18, .ref 158), (17, .ref 157), (16, .ref 156), (13, .ref 155), (12, .ref 154), (11, .ref 153), (9, .ref 152), (8, .ref 151), (7, .ref 150), (5, .ref 149), (4, .ref 148), (3, .ref 147), (2, .ref 146), (1, .ref 145), (0, .ref 144), (6, .int (0 : Int32)), (14, .int (0 : Int32)), (15, .int (0 : Int32)), (20, .int (0 : Int32)), (21, .int (0 : Int32)), (22, .int (0 : Int32)), (23, .int (0 : Int32)), (27, .int (0 : Int32)), (32, .int (0 : Int32))], none) (pc' := 20) (L' := [(0, .ref 143), (1, .int (44 : Int32))]) h_m234 (z_at.mk 3 rfl rfl) rfl (by decide) rfl (Or.inl rfl) rfl rfl rfl ?_
  clear H m; intro m H
  refine w_rv h_m234 (z_at.mk 1 rfl rfl) rfl ?_
  show z_W 998 237 28 [(0, .ref 143), (1, .ref 150), (2, .int (0 : Int32))] [] m _
  refine w_p h_m237 5 (pc' := 33) (L' := [(0, .ref 143), (1, .ref 150), (2, .int (0 : Int32))]) (st' := [.int (2 : Int32), .ref 150, .ref 143]) rfl ?_
  refine w_al H (t := 0) (j := 2) (pc' := 34) (L' := [(0, .ref 143), (1, .ref 150), (2, .int (0 : Int32))]) h_m237 (z_at.mk 1 rfl rfl) rfl rfl rfl (u := .int (xs 3)) rfl rfl rfl ?_
  refine w_cv (H.t rfl) (pc' := 37) (L' := [(0, .ref 143), (1, .ref 150), (2, .int (0 : Int32))]) (rest := []) (Ps := [.int (xs 3)]) (L0 := [(0, .ref 143), (1, .int (xs 3))]) h_m237 (z_at.mk 3 rfl rfl) (Or.inl ⟨rfl, rfl⟩) rfl rfl (by decide) (by decide) rfl rfl rfl rfl rfl rfl (by decide) rfl rfl rfl ?_
  refine w_p h_m236 2 (pc' := 3) (L' := [(0, .ref 143), (1, .int (xs 3))]) (st' := [.int (9 : Int32), .int (xs 3)]) rfl ?_
  refine w_t2 (pc' := 14) (L' := [(0, .ref 143), (1, .int (xs 3))]) h_m236 (z_at.mk 3 rfl rfl) rfl (zc (a := (xs 3).toInt) (b := 9) rfl rfl (decide_eq_true (by omega))) rfl rfl ?_
  refine w_p h_m236 6 (pc' := 22) (L' := [(0, .ref 143), (1, .int (xs 3))]) (st' := [.int ((48 : Int32) + ((xs 3) - (xs 3) / (10 : Int32) * (10 : Int32))), .ref 143]) rfl ?_
  refine w_cv (H.t rfl) (pc' := 25) (L' := [(0, .ref 143), (1, .int (xs 3))]) (rest := []) (Ps := [.int ((48 : Int32) + ((xs 3) - (xs 3) / (10 : Int32) * (10 : Int32)))]) (L0 := [(0, .ref 143), (1, .int ((48 : Int32) + ((xs 3) - (xs 3) / (10 : Int32) * (10 : Int32))))]) h_m236 (z_at.mk 3 rfl rfl) (Or.inl ⟨rfl, rfl⟩) rfl rfl (by decide) (by decide) rfl rfl rfl rfl rfl rfl (by decide) rfl rfl rfl ?_
  refine w_p h_m234 1 (pc' := 1) (L' := [(0, .ref 143), (1, .int ((48 : Int32) + ((xs 3) - (xs 3) / (10 : Int32) * (10 : Int32))))]) (st' := [.ref 143]) rfl ?_
  refine w_gf H (pc' := 4) (L' := [(0, .ref 143), (1, .int ((48 : Int32) + ((xs 3) - (xs 3) / (10 : Int32) * (10 : Int32))))]) h_m234 (z_at.mk 3 rfl rfl) rfl (u := .ref 163) rfl rfl rfl ?_
  refine w_p h_m234 1 (pc' := 5) (L' := [(0, .ref 143), (1, .int ((48 : Int32) + ((xs 3) - (xs 3) / (10 : Int32) * (10 : Int32))))]) (st' := [.ref 143, .ref 163]) rfl ?_
  refine w_gf H (pc' := 8) (L' := [(0, .ref 143), (1, .int ((48 : Int32) + ((xs 3) - (xs 3) / (10 : Int32) * (10 : Int32))))]) h_m234 (z_at.mk 3 rfl rfl) rfl (u := .int (10 : Int32)) rfl rfl rfl ?_
  refine w_p h_m234 1 (pc' := 9) (L' := [(0, .ref 143), (1, .int ((48 : Int32) + ((xs 3) - (xs 3) / (10 : Int32) * (10 : Int32))))]) (st' := [.int ((48 : Int32) + ((xs 3) - (xs 3) / (10 : Int32) * (10 : Int32))), .int (10 : Int32), .ref 163]) rfl ?_
  refine w_as H (t := 0) (j := 10) (u := .int ((48 : Int32) + ((xs 3) - (xs 3) / (10 : Int32) * (10 : Int32)))) (0, 40000, [(10, .int ((48 : Int32) + ((xs 3) - (xs 3) / (10 : Int32) * (10 : Int32)))), (9, .int (44 : Int32)), (8, .int ((48 : Int32) + ((xs 2) - (xs 2) / (10 : Int32) * (10 : Int32)))), (7, .int ((48 : Int32) + (((xs 2) / (10 : Int32)) - ((xs 2) / (10 : Int32)) / (10 : Int32) * (10 : Int32)))), (6, .int (45 : Int32)), (5, .int ((48 : Int32) + ((xs 1) - (xs 1) / (10 : Int32) * (10 : Int32)))), (4, .int ((48 : Int32) + (((xs 1) / (10 : Int32)) - ((xs 1) / (10 : Int32)) / (10 : Int32) * (10 : Int32)))), (3, .int (32 : Int32)), (2, .int (107 : Int32)), (1, .int (115 : Int32)), (0, .int (97 : Int32))], some (.int (0 : Int32))) (pc' := 10) (L' := [(0, .ref 143), (1, .int ((48 : Int32) + ((xs 3) - (xs 3) / (10 : Int32) * (10 : Int32))))]) h_m234 (z_at.mk 1 rfl rfl) rfl rfl (w_ui _ _ (by decide)) rfl rfl rfl rfl ?_
  clear H m; intro m H
  refine w_p h_m234 2 (pc' := 12) (L' := [(0, .ref 143), (1, .int ((48 : Int32) + ((xs 3) - (xs 3) / (10 : Int32) * (10 : Int32))))]) (st' := [.ref 143, .ref 143]) rfl ?_
  refine w_gf H (pc' := 15) (L' := [(0, .ref 143), (1, .int ((48 : Int32) + ((xs 3) - (xs 3) / (10 : Int32) * (10 : Int32))))]) h_m234 (z_at.mk 3 rfl rfl) rfl (u := .int (10 : Int32)) rfl rfl rfl ?_
  refine w_p h_m234 2 (pc' := 17) (L' := [(0, .ref 143), (1, .int ((48 : Int32) + ((xs 3) - (xs 3) / (10 : Int32) * (10 : Int32))))]) (st' := [.int (11 : Int32), .ref 143]) rfl ?_
  refine w_pf H (22, 35, [(29, .int (11 : Int32)), (10, .int (1 : Int32)), (34, .ref 167), (33, .ref 166), (31, .ref 165), (30, .ref 164), (28, .ref 163), (26, .ref 162), (25, .ref 161), (24, .ref 160), (19, .ref 159), (18, .ref 158), (17, .ref 157), (16, .ref 156), (13, .ref 155), (12, .ref 154), (11, .ref 153), (9, .ref 152), (8, .ref 151), (7, .ref 150), (5, .ref 149), (4, .ref 148), (3, .ref 147), (2, .ref 146), (1, .ref 145), (0, .ref 144), (6, .int (0 : Int32)), (14, .int (0 : Int32)), (15, .int (0 : Int32)), (20, .int (0 : Int32)), (21, .int (0 : Int32)), (22, .int (0 : Int32)), (23, .int (0 : Int32)), (27, .int (0 : Int32)), (32, .int (0 : Int32))], none) (pc' := 20) (L' := [(0, .ref 143), (1, .int ((48 : Int32) + ((xs 3) - (xs 3) / (10 : Int32) * (10 : Int32))))]) h_m234 (z_at.mk 3 rfl rfl) rfl (by decide) rfl (Or.inl rfl) rfl rfl rfl ?_
  clear H m; intro m H
  refine w_rv h_m234 (z_at.mk 1 rfl rfl) rfl ?_
  show z_W 997 236 25 [(0, .ref 143), (1, .int (xs 3))] [] m _
  refine w_rv h_m236 (z_at.mk 1 rfl rfl) rfl ?_
  show z_W 998 237 37 [(0, .ref 143), (1, .ref 150), (2, .int (0 : Int32))] [] m _
  refine w_p h_m237 2 (pc' := 40) (L' := [(0, .ref 143), (1, .ref 150), (2, .int (0 : Int32))]) (st' := [.int (45 : Int32), .ref 143]) rfl ?_
  refine w_cv (H.t rfl) (pc' := 43) (L' := [(0, .ref 143), (1, .ref 150), (2, .int (0 : Int32))]) (rest := []) (Ps := [.int (45 : Int32)]) (L0 := [(0, .ref 143), (1, .int (45 : Int32))]) h_m237 (z_at.mk 3 rfl rfl) (Or.inl ⟨rfl, rfl⟩) rfl rfl (by decide) (by decide) rfl rfl rfl rfl rfl rfl (by decide) rfl rfl rfl ?_
  refine w_p h_m234 1 (pc' := 1) (L' := [(0, .ref 143), (1, .int (45 : Int32))]) (st' := [.ref 143]) rfl ?_
  refine w_gf H (pc' := 4) (L' := [(0, .ref 143), (1, .int (45 : Int32))]) h_m234 (z_at.mk 3 rfl rfl) rfl (u := .ref 163) rfl rfl rfl ?_
  refine w_p h_m234 1 (pc' := 5) (L' := [(0, .ref 143), (1, .int (45 : Int32))]) (st' := [.ref 143, .ref 163]) rfl ?_
  refine w_gf H (pc' := 8) (L' := [(0, .ref 143), (1, .int (45 : Int32))]) h_m234 (z_at.mk 3 rfl rfl) rfl (u := .int (11 : Int32)) rfl rfl rfl ?_
  refine w_p h_m234 1 (pc' := 9) (L' := [(0, .ref 143), (1, .int (45 : Int32))]) (st' := [.int (45 : Int32), .int (11 : Int32), .ref 163]) rfl ?_
  refine w_as H (t := 0) (j := 11) (u := .int (45 : Int32)) (0, 40000, [(11, .int (45 : Int32)), (10, .int ((48 : Int32) + ((xs 3) - (xs 3) / (10 : Int32) * (10 : Int32)))), (9, .int (44 : Int32)), (8, .int ((48 : Int32) + ((xs 2) - (xs 2) / (10 : Int32) * (10 : Int32)))), (7, .int ((48 : Int32) + (((xs 2) / (10 : Int32)) - ((xs 2) / (10 : Int32)) / (10 : Int32) * (10 : Int32)))), (6, .int (45 : Int32)), (5, .int ((48 : Int32) + ((xs 1) - (xs 1) / (10 : Int32) * (10 : Int32)))), (4, .int ((48 : Int32) + (((xs 1) / (10 : Int32)) - ((xs 1) / (10 : Int32)) / (10 : Int32) * (10 : Int32)))), (3, .int (32 : Int32)), (2, .int (107 : Int32)), (1, .int (115 : Int32)), (0, .int (97 : Int32))], some (.int (0 : Int32))) (pc' := 10) (L' := [(0, .ref 143), (1, .int (45 : Int32))]) h_m234 (z_at.mk 1 rfl rfl) rfl rfl (w_ui _ _ (by decide)) rfl rfl rfl rfl ?_
  clear H m; intro m H
  refine w_p h_m234 2 (pc' := 12) (L' := [(0, .ref 143), (1, .int (45 : Int32))]) (st' := [.ref 143, .ref 143]) rfl ?_
  refine w_gf H (pc' := 15) (L' := [(0, .ref 143), (1, .int (45 : Int32))]) h_m234 (z_at.mk 3 rfl rfl) rfl (u := .int (11 : Int32)) rfl rfl rfl ?_
  refine w_p h_m234 2 (pc' := 17) (L' := [(0, .ref 143), (1, .int (45 : Int32))]) (st' := [.int (12 : Int32), .ref 143]) rfl ?_
  refine w_pf H (22, 35, [(29, .int (12 : Int32)), (10, .int (1 : Int32)), (34, .ref 167), (33, .ref 166), (31, .ref 165), (30, .ref 164), (28, .ref 163), (26, .ref 162), (25, .ref 161), (24, .ref 160), (19, .ref 159), (18, .ref 158), (17, .ref 157), (16, .ref 156), (13, .ref 155), (12, .ref 154), (11, .ref 153), (9, .ref 152), (8, .ref 151), (7, .ref 150), (5, .ref 149), (4, .ref 148), (3, .ref 147), (2, .ref 146), (1, .ref 145), (0, .ref 144), (6, .int (0 : Int32)), (14, .int (0 : Int32)), (15, .int (0 : Int32)), (20, .int (0 : Int32)), (21, .int (0 : Int32)), (22, .int (0 : Int32)), (23, .int (0 : Int32)), (27, .int (0 : Int32)), (32, .int (0 : Int32))], none) (pc' := 20) (L' := [(0, .ref 143), (1, .int (45 : Int32))]) h_m234 (z_at.mk 3 rfl rfl) rfl (by decide) rfl (Or.inl rfl) rfl rfl rfl ?_
  clear H m; intro m H
  refine w_rv h_m234 (z_at.mk 1 rfl rfl) rfl ?_
  show z_W 998 237 43 [(0, .ref 143), (1, .ref 150), (2, .int (0 : Int32))] [] m _
  refine w_p h_m237 5 (pc' := 48) (L' := [(0, .ref 143), (1, .ref 150), (2, .int (0 : Int32))]) (st' := [.int (3 : Int32), .ref 150, .ref 143]) rfl ?_
  refine w_al H (t := 0) (j := 3) (pc' := 49) (L' := [(0, .ref 143), (1, .ref 150), (2, .int (0 : Int32))]) h_m237 (z_at.mk 1 rfl rfl) rfl rfl rfl (u := .int (xs 4)) rfl rfl rfl ?_
  refine w_cv (H.t rfl) (pc' := 52) (L' := [(0, .ref 143), (1, .ref 150), (2, .int (0 : Int32))]) (rest := []) (Ps := [.int (xs 4)]) (L0 := [(0, .ref 143), (1, .int (xs 4))]) h_m237 (z_at.mk 3 rfl rfl) (Or.inl ⟨rfl, rfl⟩) rfl rfl (by decide) (by decide) rfl rfl rfl rfl rfl rfl (by decide) rfl rfl rfl ?_
  refine w_p h_m236 2 (pc' := 3) (L' := [(0, .ref 143), (1, .int (xs 4))]) (st' := [.int (9 : Int32), .int (xs 4)]) rfl ?_
  refine w_f2 (pc' := 6) (L' := [(0, .ref 143), (1, .int (xs 4))]) h_m236 (z_at.mk 3 rfl rfl) rfl (zc (a := (xs 4).toInt) (b := 9) rfl rfl (decide_eq_false (by omega))) rfl rfl ?_
  refine w_p h_m236 4 (pc' := 11) (L' := [(0, .ref 143), (1, .int (xs 4))]) (st' := [.int ((xs 4) / (10 : Int32)), .ref 143]) rfl ?_
  have k_23 := zi_div (x := xs 4) (y := (10 : Int32)) (a := (xs 4).toInt) (b := 10) rfl rfl (by omega) (by omega)
  refine w_cv (H.t rfl) (pc' := 14) (L' := [(0, .ref 143), (1, .int (xs 4))]) (rest := []) (Ps := [.int ((xs 4) / (10 : Int32))]) (L0 := [(0, .ref 143), (1, .int ((xs 4) / (10 : Int32)))]) h_m236 (z_at.mk 3 rfl rfl) (Or.inl ⟨rfl, rfl⟩) rfl rfl (by decide) (by decide) rfl rfl rfl rfl rfl rfl (by decide) rfl rfl rfl ?_
  refine w_p h_m236 2 (pc' := 3) (L' := [(0, .ref 143), (1, .int ((xs 4) / (10 : Int32)))]) (st' := [.int (9 : Int32), .int ((xs 4) / (10 : Int32))]) rfl ?_
  refine w_t2 (pc' := 14) (L' := [(0, .ref 143), (1, .int ((xs 4) / (10 : Int32)))]) h_m236 (z_at.mk 3 rfl rfl) rfl (zc (a := ((xs 4) / (10 : Int32)).toInt) (b := 9) rfl rfl (decide_eq_true (by omega))) rfl rfl ?_
  refine w_p h_m236 6 (pc' := 22) (L' := [(0, .ref 143), (1, .int ((xs 4) / (10 : Int32)))]) (st' := [.int ((48 : Int32) + (((xs 4) / (10 : Int32)) - ((xs 4) / (10 : Int32)) / (10 : Int32) * (10 : Int32))), .ref 143]) rfl ?_
  refine w_cv (H.t rfl) (pc' := 25) (L' := [(0, .ref 143), (1, .int ((xs 4) / (10 : Int32)))]) (rest := []) (Ps := [.int ((48 : Int32) + (((xs 4) / (10 : Int32)) - ((xs 4) / (10 : Int32)) / (10 : Int32) * (10 : Int32)))]) (L0 := [(0, .ref 143), (1, .int ((48 : Int32) + (((xs 4) / (10 : Int32)) - ((xs 4) / (10 : Int32)) / (10 : Int32) * (10 : Int32))))]) h_m236 (z_at.mk 3 rfl rfl) (Or.inl ⟨rfl, rfl⟩) rfl rfl (by decide) (by decide) rfl rfl rfl rfl rfl rfl (by decide) rfl rfl rfl ?_
  refine w_p h_m234 1 (pc' := 1) (L' := [(0, .ref 143), (1, .int ((48 : Int32) + (((xs 4) / (10 : Int32)) - ((xs 4) / (10 : Int32)) / (10 : Int32) * (10 : Int32))))]) (st' := [.ref 143]) rfl ?_
  refine w_gf H (pc' := 4) (L' := [(0, .ref 143), (1, .int ((48 : Int32) + (((xs 4) / (10 : Int32)) - ((xs 4) / (10 : Int32)) / (10 : Int32) * (10 : Int32))))]) h_m234 (z_at.mk 3 rfl rfl) rfl (u := .ref 163) rfl rfl rfl ?_
  refine w_p h_m234 1 (pc' := 5) (L' := [(0, .ref 143), (1, .int ((48 : Int32) + (((xs 4) / (10 : Int32)) - ((xs 4) / (10 : Int32)) / (10 : Int32) * (10 : Int32))))]) (st' := [.ref 143, .ref 163]) rfl ?_
  refine w_gf H (pc' := 8) (L' := [(0, .ref 143), (1, .int ((48 : Int32) + (((xs 4) / (10 : Int32)) - ((xs 4) / (10 : Int32)) / (10 : Int32) * (10 : Int32))))]) h_m234 (z_at.mk 3 rfl rfl) rfl (u := .int (12 : Int32)) rfl rfl rfl ?_
  refine w_p h_m234 1 (pc' := 9) (L' := [(0, .ref 143), (1, .int ((48 : Int32) + (((xs 4) / (10 : Int32)) - ((xs 4) / (10 : Int32)) / (10 : Int32) * (10 : Int32))))]) (st' := [.int ((48 : Int32) + (((xs 4) / (10 : Int32)) - ((xs 4) / (10 : Int32)) / (10 : Int32) * (10 : Int32))), .int (12 : Int32), .ref 163]) rfl ?_
  refine w_as H (t := 0) (j := 12) (u := .int ((48 : Int32) + (((xs 4) / (10 : Int32)) - ((xs 4) / (10 : Int32)) / (10 : Int32) * (10 : Int32)))) (0, 40000, [(12, .int ((48 : Int32) + (((xs 4) / (10 : Int32)) - ((xs 4) / (10 : Int32)) / (10 : Int32) * (10 : Int32)))), (11, .int (45 : Int32)), (10, .int ((48 : Int32) + ((xs 3) - (xs 3) / (10 : Int32) * (10 : Int32)))), (9, .int (44 : Int32)), (8, .int ((48 : Int32) + ((xs 2) - (xs 2) / (10 : Int32) * (10 : Int32)))), (7, .int ((48 : Int32) + (((xs 2) / (10 : Int32)) - ((xs 2) / (10 : Int32)) / (10 : Int32) * (10 : Int32)))), (6, .int (45 : Int32)), (5, .int ((48 : Int32) + ((xs 1) - (xs 1) / (10 : Int32) * (10 : Int32)))), (4, .int ((48 : Int32) + (((xs 1) / (10 : Int32)) - ((xs 1) / (10 : Int32)) / (10 : Int32) * (10 : Int32)))), (3, .int (32 : Int32)), (2, .int (107 : Int32)), (1, .int (115 : Int32)), (0, .int (97 : Int32))], some (.int (0 : Int32))) (pc' := 10) (L' := [(0, .ref 143), (1, .int ((48 : Int32) + (((xs 4) / (10 : Int32)) - ((xs 4) / (10 : Int32)) / (10 : Int32) * (10 : Int32))))]) h_m234 (z_at.mk 1 rfl rfl) rfl rfl (w_ui _ _ (by decide)) rfl rfl rfl rfl ?_
  clear H m; intro m H
  refine w_p h_m234 2 (pc' := 12) (L' := [(0, .ref 143), (1, .int ((48 : Int32) + (((xs 4) / (10 : Int32)) - ((xs 4) / (10 : Int32)) / (10 : Int32) * (10 : Int32))))]) (st' := [.ref 143, .ref 143]) rfl ?_
  refine w_gf H (pc' := 15) (L' := [(0, .ref 143), (1, .int ((48 : Int32) + (((xs 4) / (10 : Int32)) - ((xs 4) / (10 : Int32)) / (10 : Int32) * (10 : Int32))))]) h_m234 (z_at.mk 3 rfl rfl) rfl (u := .int (12 : Int32)) rfl rfl rfl ?_
  refine w_p h_m234 2 (pc' := 17) (L' := [(0, .ref 143), (1, .int ((48 : Int32) + (((xs 4) / (10 : Int32)) - ((xs 4) / (10 : Int32)) / (10 : Int32) * (10 : Int32))))]) (st' := [.int (13 : Int32), .ref 143]) rfl ?_
  refine w_pf H (22, 35, [(29, .int (13 : Int32)), (10, .int (1 : Int32)), (34, .ref 167), (33, .ref 166), (31, .ref 165), (30, .ref 164), (28, .ref 163), (26, .ref 162), (25, .ref 161), (24, .ref 160), (19, .ref 159), (18, .ref 158), (17, .ref 157), (16, .ref 156), (13, .ref 155), (12, .ref 154), (11, .ref 153), (9, .ref 152), (8, .ref 151), (7, .ref 150), (5, .ref 149), (4, .ref 148), (3, .ref 147), (2, .ref 146), (1, .ref 145), (0, .ref 144), (6, .int (0 : Int32)), (14, .int (0 : Int32)), (15, .int (0 : Int32)), (20, .int (0 : Int32)), (21, .int (0 : Int32)), (22, .int (0 : Int32)), (23, .int (0 : Int32)), (27, .int (0 : Int32)), (32, .int (0 : Int32))], none) (pc' := 20) (L' := [(0, .ref 143), (1, .int ((48 : Int32) + (((xs 4) / (10 : Int32)) - ((xs 4) / (10 : Int32)) / (10 : Int32) * (10 : Int32))))]) h_m234 (z_at.mk 3 rfl rfl) rfl (by decide) rfl (Or.inl rfl) rfl rfl rfl ?_
  clear H m; intro m H
  refine w_rv h_m234 (z_at.mk 1 rfl rfl) rfl ?_
  show z_W 996 236 25 [(0, .ref 143), (1, .int ((xs 4) / (10 : Int32)))] [] m _
  refine w_rv h_m236 (z_at.mk 1 rfl rfl) rfl ?_
  show z_W 997 236 14 [(0, .ref 143), (1, .int (xs 4))] [] m _
  refine w_p h_m236 6 (pc' := 22) (L' := [(0, .ref 143), (1, .int (xs 4))]) (st' := [.int ((48 : Int32) + ((xs 4) - (xs 4) / (10 : Int32) * (10 : Int32))), .ref 143]) rfl ?_
  refine w_cv (H.t rfl) (pc' := 25) (L' := [(0, .ref 143), (1, .int (xs 4))]) (rest := []) (Ps := [.int ((48 : Int32) + ((xs 4) - (xs 4) / (10 : Int32) * (10 : Int32)))]) (L0 := [(0, .ref 143), (1, .int ((48 : Int32) + ((xs 4) - (xs 4) / (10 : Int32) * (10 : Int32))))]) h_m236 (z_at.mk 3 rfl rfl) (Or.inl ⟨rfl, rfl⟩) rfl rfl (by decide) (by decide) rfl rfl rfl rfl rfl rfl (by decide) rfl rfl rfl ?_
  refine w_p h_m234 1 (pc' := 1) (L' := [(0, .ref 143), (1, .int ((48 : Int32) + ((xs 4) - (xs 4) / (10 : Int32) * (10 : Int32))))]) (st' := [.ref 143]) rfl ?_
  refine w_gf H (pc' := 4) (L' := [(0, .ref 143), (1, .int ((48 : Int32) + ((xs 4) - (xs 4) / (10 : Int32) * (10 : Int32))))]) h_m234 (z_at.mk 3 rfl rfl) rfl (u := .ref 163) rfl rfl rfl ?_
  refine w_p h_m234 1 (pc' := 5) (L' := [(0, .ref 143), (1, .int ((48 : Int32) + ((xs 4) - (xs 4) / (10 : Int32) * (10 : Int32))))]) (st' := [.ref 143, .ref 163]) rfl ?_
  refine w_gf H (pc' := 8) (L' := [(0, .ref 143), (1, .int ((48 : Int32) + ((xs 4) - (xs 4) / (10 : Int32) * (10 : Int32))))]) h_m234 (z_at.mk 3 rfl rfl) rfl (u := .int (13 : Int32)) rfl rfl rfl ?_
  refine w_p h_m234 1 (pc' := 9) (L' := [(0, .ref 143), (1, .int ((48 : Int32) + ((xs 4) - (xs 4) / (10 : Int32) * (10 : Int32))))]) (st' := [.int ((48 : Int32) + ((xs 4) - (xs 4) / (10 : Int32) * (10 : Int32))), .int (13 : Int32), .ref 163]) rfl ?_
  refine w_as H (t := 0) (j := 13) (u := .int ((48 : Int32) + ((xs 4) - (xs 4) / (10 : Int32) * (10 : Int32)))) (0, 40000, [(13, .int ((48 : Int32) + ((xs 4) - (xs 4) / (10 : Int32) * (10 : Int32)))), (12, .int ((48 : Int32) + (((xs 4) / (10 : Int32)) - ((xs 4) / (10 : Int32)) / (10 : Int32) * (10 : Int32)))), (11, .int (45 : Int32)), (10, .int ((48 : Int32) + ((xs 3) - (xs 3) / (10 : Int32) * (10 : Int32)))), (9, .int (44 : Int32)), (8, .int ((48 : Int32) + ((xs 2) - (xs 2) / (10 : Int32) * (10 : Int32)))), (7, .int ((48 : Int32) + (((xs 2) / (10 : Int32)) - ((xs 2) / (10 : Int32)) / (10 : Int32) * (10 : Int32)))), (6, .int (45 : Int32)), (5, .int ((48 : Int32) + ((xs 1) - (xs 1) / (10 : Int32) * (10 : Int32)))), (4, .int ((48 : Int32) + (((xs 1) / (10 : Int32)) - ((xs 1) / (10 : Int32)) / (10 : Int32) * (10 : Int32)))), (3, .int (32 : Int32)), (2, .int (107 : Int32)), (1, .int (115 : Int32)), (0, .int (97 : Int32))], some (.int (0 : Int32))) (pc' := 10) (L' := [(0, .ref 143), (1, .int ((48 : Int32) + ((xs 4) - (xs 4) / (10 : Int32) * (10 : Int32))))]) h_m234 (z_at.mk 1 rfl rfl) rfl rfl (w_ui _ _ (by decide)) rfl rfl rfl rfl ?_
  clear H m; intro m H
  refine w_p h_m234 2 (pc' := 12) (L' := [(0, .ref 143), (1, .int ((48 : Int32) + ((xs 4) - (xs 4) / (10 : Int32) * (10 : Int32))))]) (st' := [.ref 143, .ref 143]) rfl ?_
  refine w_gf H (pc' := 15) (L' := [(0, .ref 143), (1, .int ((48 : Int32) + ((xs 4) - (xs 4) / (10 : Int32) * (10 : Int32))))]) h_m234 (z_at.mk 3 rfl rfl) rfl (u := .int (13 : Int32)) rfl rfl rfl ?_
  refine w_p h_m234 2 (pc' := 17) (L' := [(0, .ref 143), (1, .int ((48 : Int32) + ((xs 4) - (xs 4) / (10 : Int32) * (10 : Int32))))]) (st' := [.int (14 : Int32), .ref 143]) rfl ?_
  refine w_pf H (22, 35, [(29, .int (14 : Int32)), (10, .int (1 : Int32)), (34, .ref 167), (33, .ref 166), (31, .ref 165), (30, .ref 164), (28, .ref 163), (26, .ref 162), (25, .ref 161), (24, .ref 160), (19, .ref 159), (18, .ref 158), (17, .ref 157), (16, .ref 156), (13, .ref 155), (12, .ref 154), (11, .ref 153), (9, .ref 152), (8, .ref 151), (7, .ref 150), (5, .ref 149), (4, .ref 148), (3, .ref 147), (2, .ref 146), (1, .ref 145), (0, .ref 144), (6, .int (0 : Int32)), (14, .int (0 : Int32)), (15, .int (0 : Int32)), (20, .int (0 : Int32)), (21, .int (0 : Int32)), (22, .int (0 : Int32)), (23, .int (0 : Int32)), (27, .int (0 : Int32)), (32, .int (0 : Int32))], none) (pc' := 20) (L' := [(0, .ref 143), (1, .int ((48 : Int32) + ((xs 4) - (xs 4) / (10 : Int32) * (10 : Int32))))]) h_m234 (z_at.mk 3 rfl rfl) rfl (by decide) rfl (Or.inl rfl) rfl rfl rfl ?_
  clear H m; intro m H
  refine w_rv h_m234 (z_at.mk 1 rfl rfl) rfl ?_
  show z_W 997 236 25 [(0, .ref 143), (1, .int (xs 4))] [] m _
  refine w_rv h_m236 (z_at.mk 1 rfl rfl) rfl ?_
  show z_W 998 237 52 [(0, .ref 143), (1, .ref 150), (2, .int (0 : Int32))] [] m _
  refine w_rv h_m237 (z_at.mk 1 rfl rfl) rfl ?_
  show z_W 999 239 180 [(0, .ref 143), (5, .int (0 : Int32)), (6, .int (0 : Int32))] [] m _
  refine w_p h_m239 2 (pc' := 183) (L' := [(0, .ref 143), (5, .int (0 : Int32)), (6, .int (0 : Int32))]) (st' := [.int (32 : Int32), .ref 143]) rfl ?_
  refine w_cv (H.t rfl) (pc' := 186) (L' := [(0, .ref 143), (5, .int (0 : Int32)), (6, .int (0 : Int32))]) (rest := []) (Ps := [.int (32 : Int32)]) (L0 := [(0, .ref 143), (1, .int (32 : Int32))]) h_m239 (z_at.mk 3 rfl rfl) (Or.inl ⟨rfl, rfl⟩) rfl rfl (by decide) (by decide) rfl rfl rfl rfl rfl rfl (by decide) rfl rfl rfl ?_
  refine w_p h_m234 1 (pc' := 1) (L' := [(0, .ref 143), (1, .int (32 : Int32))]) (st' := [.ref 143]) rfl ?_
  refine w_gf H (pc' := 4) (L' := [(0, .ref 143), (1, .int (32 : Int32))]) h_m234 (z_at.mk 3 rfl rfl) rfl (u := .ref 163) rfl rfl rfl ?_
  refine w_p h_m234 1 (pc' := 5) (L' := [(0, .ref 143), (1, .int (32 : Int32))]) (st' := [.ref 143, .ref 163]) rfl ?_
  refine w_gf H (pc' := 8) (L' := [(0, .ref 143), (1, .int (32 : Int32))]) h_m234 (z_at.mk 3 rfl rfl) rfl (u := .int (14 : Int32)) rfl rfl rfl ?_
  refine w_p h_m234 1 (pc' := 9) (L' := [(0, .ref 143), (1, .int (32 : Int32))]) (st' := [.int (32 : Int32), .int (14 : Int32), .ref 163]) rfl ?_
  refine w_as H (t := 0) (j := 14) (u := .int (32 : Int32)) (0, 40000, [(14, .int (32 : Int32)), (13, .int ((48 : Int32) + ((xs 4) - (xs 4) / (10 : Int32) * (10 : Int32)))), (12, .int ((48 : Int32) + (((xs 4) / (10 : Int32)) - ((xs 4) / (10 : Int32)) / (10 : Int32) * (10 : Int32)))), (11, .int (45 : Int32)), (10, .int ((48 : Int32) + ((xs 3) - (xs 3) / (10 : Int32) * (10 : Int32)))), (9, .int (44 : Int32)), (8, .int ((48 : Int32) + ((xs 2) - (xs 2) / (10 : Int32) * (10 : Int32)))), (7, .int ((48 : Int32) + (((xs 2) / (10 : Int32)) - ((xs 2) / (10 : Int32)) / (10 : Int32) * (10 : Int32)))), (6, .int (45 : Int32)), (5, .int ((48 : Int32) + ((xs 1) - (xs 1) / (10 : Int32) * (10 : Int32)))), (4, .int ((48 : Int32) + (((xs 1) / (10 : Int32)) - ((xs 1) / (10 : Int32)) / (10 : Int32) * (10 : Int32)))), (3, .int (32 : Int32)), (2, .int (107 : Int32)), (1, .int (115 : Int32)), (0, .int (97 : Int32))], some (.int (0 : Int32))) (pc' := 10) (L' := [(0, .ref 143), (1, .int (32 : Int32))]) h_m234 (z_at.mk 1 rfl rfl) rfl rfl (w_ui _ _ (by decide)) rfl rfl rfl rfl ?_
  clear H m; intro m H
  refine w_p h_m234 2 (pc' := 12) (L' := [(0, .ref 143), (1, .int (32 : Int32))]) (st' := [.ref 143, .ref 143]) rfl ?_
  refine w_gf H (pc' := 15) (L' := [(0, .ref 143), (1, .int (32 : Int32))]) h_m234 (z_at.mk 3 rfl rfl) rfl (u := .int (14 : Int32)) rfl rfl rfl ?_
  refine w_p h_m234 2 (pc' := 17) (L' := [(0, .ref 143), (1, .int (32 : Int32))]) (st' := [.int (15 : Int32), .ref 143]) rfl ?_
  refine w_pf H (22, 35, [(29, .int (15 : Int32)), (10, .int (1 : Int32)), (34, .ref 167), (33, .ref 166), (31, .ref 165), (30, .ref 164), (28, .ref 163), (26, .ref 162), (25, .ref 161), (24, .ref 160), (19, .ref 159), (18, .ref 158), (17, .ref 157), (16, .ref 156), (13, .ref 155), (12, .ref 154), (11, .ref 153), (9, .ref 152), (8, .ref 151), (7, .ref 150), (5, .ref 149), (4, .ref 148), (3, .ref 147), (2, .ref 146), (1, .ref 145), (0, .ref 144), (6, .int (0 : Int32)), (14, .int (0 : Int32)), (15, .int (0 : Int32)), (20, .int (0 : Int32)), (21, .int (0 : Int32)), (22, .int (0 : Int32)), (23, .int (0 : Int32)), (27, .int (0 : Int32)), (32, .int (0 : Int32))], none) (pc' := 20) (L' := [(0, .ref 143), (1, .int (32 : Int32))]) h_m234 (z_at.mk 3 rfl rfl) rfl (by decide) rfl (Or.inl rfl) rfl rfl rfl ?_
  clear H m; intro m H
  refine w_rv h_m234 (z_at.mk 1 rfl rfl) rfl ?_
  show z_W 999 239 186 [(0, .ref 143), (5, .int (0 : Int32)), (6, .int (0 : Int32))] [] m _
  refine w_p h_m239 3 (pc' := 189) (L' := [(0, .ref 143), (5, .int (0 : Int32)), (6, .int (0 : Int32))]) (st' := [.ref 143, .ref 143, .ref 143]) rfl ?_
  refine w_gf H (pc' := 192) (L' := [(0, .ref 143), (5, .int (0 : Int32)), (6, .int (0 : Int32))]) h_m239 (z_at.mk 3 rfl rfl) rfl (u := .ref 150) rfl rfl rfl ?_
  refine w_p h_m239 3 (pc' := 196) (L' := [(0, .ref 143), (5, .int (0 : Int32)), (6, .int (0 : Int32))]) (st' := [.int (0 : Int32), .ref 150, .ref 143, .ref 143]) rfl ?_
  refine w_cv (H.t rfl) (pc' := 199) (L' := [(0, .ref 143), (5, .int (0 : Int32)), (6, .int (0 : Int32))]) (rest := [.ref 143]) (Ps := [.ref 150, .int (0 : Int32)]) (L0 := [(0, .ref 143), (1, .ref 150), (2, .int (0 : Int32))]) h_m239 (z_at.mk 3 rfl rfl) (Or.inl ⟨rfl, rfl⟩) rfl rfl (by decide) (by decide) rfl rfl rfl rfl rfl rfl (by decide) rfl rfl rfl ?_
  refine w_p h_m177 1 (pc' := 1) (L' := [(0, .ref 143), (1, .ref 150), (2, .int (0 : Int32))]) (st' := [.ref 143]) rfl ?_
  refine w_gf H (pc' := 4) (L' := [(0, .ref 143), (1, .ref 150), (2, .int (0 : Int32))]) h_m177 (z_at.mk 3 rfl rfl) rfl (u := .ref 144) rfl rfl rfl ?_
  refine w_p h_m177 1 (pc' := 6) (L' := [(0, .ref 143), (1, .ref 150), (2, .int (0 : Int32))]) (st' := [.int (11 : Int32), .ref 144]) rfl ?_
  refine w_al H (t := 0) (j := 11) (pc' := 7) (L' := [(0, .ref 143), (1, .ref 150), (2, .int (0 : Int32))]) h_m177 (z_at.mk 1 rfl rfl) rfl rfl rfl (u := .int (10 : Int32)) rfl rfl rfl ?_
  refine w_p h_m177 3 (pc' := 10) (L' := [(0, .ref 143), (1, .ref 150), (2, .int (0 : Int32))]) (st' := [.int (0 : Int32), .ref 150, .ref 143, .int (10 : Int32)]) rfl ?_
  refine w_cv (H.t rfl) (pc' := 13) (L' := [(0, .ref 143), (1, .ref 150), (2, .int (0 : Int32))]) (rest := [.int (10 : Int32)]) (Ps := [.ref 150, .int (0 : Int32)]) (L0 := [(0, .ref 143), (1, .ref 150), (2, .int (0 : Int32))]) h_m177 (z_at.mk 3 rfl rfl) (Or.inl ⟨rfl, rfl⟩) rfl rfl (by decide) (by decide) rfl rfl rfl rfl rfl rfl (by decide) rfl rfl rfl ?_
  refine w_ri0 H rfl rfl rfl ?_
  clear H m; intro m H
  show z_W 998 177 13 [(0, .ref 143), (1, .ref 150), (2, .int (0 : Int32))] [.int (0 : Int32), .int (10 : Int32)] m _
  refine w_p h_m177 1 (pc' := 14) (L' := [(0, .ref 143), (1, .ref 150), (2, .int (0 : Int32))]) (st' := [.int (10 : Int32)]) rfl ?_
  refine w_ri h_m177 (z_at.mk 1 rfl rfl) rfl rfl ?_
  show z_W 999 239 199 [(0, .ref 143), (5, .int (0 : Int32)), (6, .int (0 : Int32))] [.int (10 : Int32), .ref 143] m _
  refine w_cv (H.t rfl) (pc' := 202) (L' := [(0, .ref 143), (5, .int (0 : Int32)), (6, .int (0 : Int32))]) (rest := []) (Ps := [.int (10 : Int32)]) (L0 := [(0, .ref 143), (1, .int (10 : Int32))]) h_m239 (z_at.mk 3 rfl rfl) (Or.inl ⟨rfl, rfl⟩) rfl rfl (by decide) (by decide) rfl rfl rfl rfl rfl rfl (by decide) rfl rfl rfl ?_
  refine w_p h_m236 7 (pc' := 11) (L' := [(0, .ref 143), (1, .int (10 : Int32))]) (st' := [.int (1 : Int32), .ref 143]) rfl ?_
  refine w_cv (H.t rfl) (pc' := 14) (L' := [(0, .ref 143), (1, .int (10 : Int32))]) (rest := []) (Ps := [.int (1 : Int32)]) (L0 := [(0, .ref 143), (1, .int (1 : Int32))]) h_m236 (z_at.mk 3 rfl rfl) (Or.inl ⟨rfl, rfl⟩) rfl rfl (by decide) (by decide) rfl rfl rfl rfl rfl rfl (by decide) rfl rfl rfl ?_
  refine w_p h_m236 9 (pc' := 22) (L' := [(0, .ref 143), (1, .int (1 : Int32))]) (st' := [.int (49 : Int32), .ref 143]) rfl ?_
  refine w_cv (H.t rfl) (pc' := 25) (L' := [(0, .ref 143), (1, .int (1 : Int32))]) (rest := []) (Ps := [.int (49 : Int32)]) (L0 := [(0, .ref 143), (1, .int (49 : Int32))]) h_m236 (z_at.mk 3 rfl rfl) (Or.inl ⟨rfl, rfl⟩) rfl rfl (by decide) (by decide) rfl rfl rfl rfl rfl rfl (by decide) rfl rfl rfl ?_
  refine w_p h_m234 1 (pc' := 1) (L' := [(0, .ref 143), (1, .int (49 : Int32))]) (st' := [.ref 143]) rfl ?_
  refine w_gf H (pc' := 4) (L' := [(0, .ref 143), (1, .int (49 : Int32))]) h_m234 (z_at.mk 3 rfl rfl) rfl (u := .ref 163) rfl rfl rfl ?_
  refine w_p h_m234 1 (pc' := 5) (L' := [(0, .ref 143), (1, .int (49 : Int32))]) (st' := [.ref 143, .ref 163]) rfl ?_
  refine w_gf H (pc' := 8) (L' := [(0, .ref 143), (1, .int (49 : Int32))]) h_m234 (z_at.mk 3 rfl rfl) rfl (u := .int (15 : Int32)) rfl rfl rfl ?_
  refine w_p h_m234 1 (pc' := 9) (L' := [(0, .ref 143), (1, .int (49 : Int32))]) (st' := [.int (49 : Int32), .int (15 : Int32), .ref 163]) rfl ?_
  refine w_as H (t := 0) (j := 15) (u := .int (49 : Int32)) (0, 40000, [(15, .int (49 : Int32)), (14, .int (32 : Int32)), (13, .int ((48 : Int32) + ((xs 4) - (xs 4) / (10 : Int32) * (10 : Int32)))), (12, .int ((48 : Int32) + (((xs 4) / (10 : Int32)) - ((xs 4) / (10 : Int32)) / (10 : Int32) * (10 : Int32)))), (11, .int (45 : Int32)), (10, .int ((48 : Int32) + ((xs 3) - (xs 3) / (10 : Int32) * (10 : Int32)))), (9, .int (44 : Int32)), (8, .int ((48 : Int32) + ((xs 2) - (xs 2) / (10 : Int32) * (10 : Int32)))), (7, .int ((48 : Int32) + (((xs 2) / (10 : Int32)) - ((xs 2) / (10 : Int32)) / (10 : Int32) * (10 : Int32)))), (6, .int (45 : Int32)), (5, .int ((48 : Int32) + ((xs 1) - (xs 1) / (10 : Int32) * (10 : Int32)))), (4, .int ((48 : Int32) + (((xs 1) / (10 : Int32)) - ((xs 1) / (10 : Int32)) / (10 : Int32) * (10 : Int32)))), (3, .int (32 : Int32)), (2, .int (107 : Int32)), (1, .int (115 : Int32)), (0, .int (97 : Int32))], some (.int (0 : Int32))) (pc' := 10) (L' := [(0, .ref 143), (1, .int (49 : Int32))]) h_m234 (z_at.mk 1 rfl rfl) rfl rfl (w_ui _ _ (by decide)) rfl rfl rfl rfl ?_
  clear H m; intro m H
  refine w_p h_m234 2 (pc' := 12) (L' := [(0, .ref 143), (1, .int (49 : Int32))]) (st' := [.ref 143, .ref 143]) rfl ?_
  refine w_gf H (pc' := 15) (L' := [(0, .ref 143), (1, .int (49 : Int32))]) h_m234 (z_at.mk 3 rfl rfl) rfl (u := .int (15 : Int32)) rfl rfl rfl ?_
  refine w_p h_m234 2 (pc' := 17) (L' := [(0, .ref 143), (1, .int (49 : Int32))]) (st' := [.int (16 : Int32), .ref 143]) rfl ?_
  refine w_pf H (22, 35, [(29, .int (16 : Int32)), (10, .int (1 : Int32)), (34, .ref 167), (33, .ref 166), (31, .ref 165), (30, .ref 164), (28, .ref 163), (26, .ref 162), (25, .ref 161), (24, .ref 160), (19, .ref 159), (18, .ref 158), (17, .ref 157), (16, .ref 156), (13, .ref 155), (12, .ref 154), (11, .ref 153), (9, .ref 152), (8, .ref 151), (7, .ref 150), (5, .ref 149), (4, .ref 148), (3, .ref 147), (2, .ref 146), (1, .ref 145), (0, .ref 144), (6, .int (0 : Int32)), (14, .int (0 : Int32)), (15, .int (0 : Int32)), (20, .int (0 : Int32)), (21, .int (0 : Int32)), (22, .int (0 : Int32)), (23, .int (0 : Int32)), (27, .int (0 : Int32)), (32, .int (0 : Int32))], none) (pc' := 20) (L' := [(0, .ref 143), (1, .int (49 : Int32))]) h_m234 (z_at.mk 3 rfl rfl) rfl (by decide) rfl (Or.inl rfl) rfl rfl rfl ?_
  clear H m; intro m H
  refine w_rv h_m234 (z_at.mk 1 rfl rfl) rfl ?_
  show z_W 997 236 25 [(0, .ref 143), (1, .int (1 : Int32))] [] m _
  refine w_rv h_m236 (z_at.mk 1 rfl rfl) rfl ?_
  show z_W 998 236 14 [(0, .ref 143), (1, .int (10 : Int32))] [] m _
  refine w_p h_m236 6 (pc' := 22) (L' := [(0, .ref 143), (1, .int (10 : Int32))]) (st' := [.int (48 : Int32), .ref 143]) rfl ?_
  refine w_cv (H.t rfl) (pc' := 25) (L' := [(0, .ref 143), (1, .int (10 : Int32))]) (rest := []) (Ps := [.int (48 : Int32)]) (L0 := [(0, .ref 143), (1, .int (48 : Int32))]) h_m236 (z_at.mk 3 rfl rfl) (Or.inl ⟨rfl, rfl⟩) rfl rfl (by decide) (by decide) rfl rfl rfl rfl rfl rfl (by decide) rfl rfl rfl ?_
  refine w_p h_m234 1 (pc' := 1) (L' := [(0, .ref 143), (1, .int (48 : Int32))]) (st' := [.ref 143]) rfl ?_
  refine w_gf H (pc' := 4) (L' := [(0, .ref 143), (1, .int (48 : Int32))]) h_m234 (z_at.mk 3 rfl rfl) rfl (u := .ref 163) rfl rfl rfl ?_
  refine w_p h_m234 1 (pc' := 5) (L' := [(0, .ref 143), (1, .int (48 : Int32))]) (st' := [.ref 143, .ref 163]) rfl ?_
  refine w_gf H (pc' := 8) (L' := [(0, .ref 143), (1, .int (48 : Int32))]) h_m234 (z_at.mk 3 rfl rfl) rfl (u := .int (16 : Int32)) rfl rfl rfl ?_
  refine w_p h_m234 1 (pc' := 9) (L' := [(0, .ref 143), (1, .int (48 : Int32))]) (st' := [.int (48 : Int32), .int (16 : Int32), .ref 163]) rfl ?_
  refine w_as H (t := 0) (j := 16) (u := .int (48 : Int32)) (0, 40000, [(16, .int (48 : Int32)), (15, .int (49 : Int32)), (14, .int (32 : Int32)), (13, .int ((48 : Int32) + ((xs 4) - (xs 4) / (10 : Int32) * (10 : Int32)))), (12, .int ((48 : Int32) + (((xs 4) / (10 : Int32)) - ((xs 4) / (10 : Int32)) / (10 : Int32) * (10 : Int32)))), (11, .int (45 : Int32)), (10, .int ((48 : Int32) + ((xs 3) - (xs 3) / (10 : Int32) * (10 : Int32)))), (9, .int (44 : Int32)), (8, .int ((48 : Int32) + ((xs 2) - (xs 2) / (10 : Int32) * (10 : Int32)))), (7, .int ((48 : Int32) + (((xs 2) / (10 : Int32)) - ((xs 2) / (10 : Int32)) / (10 : Int32) * (10 : Int32)))), (6, .int (45 : Int32)), (5, .int ((48 : Int32) + ((xs 1) - (xs 1) / (10 : Int32) * (10 : Int32)))), (4, .int ((48 : Int32) + (((xs 1) / (10 : Int32)) - ((xs 1) / (10 : Int32)) / (10 : Int32) * (10 : Int32)))), (3, .int (32 : Int32)), (2, .int (107 : Int32)), (1, .int (115 : Int32)), (0, .int (97 : Int32))], some (.int (0 : Int32))) (pc' := 10) (L' := [(0, .ref 143), (1, .int (48 : Int32))]) h_m234 (z_at.mk 1 rfl rfl) rfl rfl (w_ui _ _ (by decide)) rfl rfl rfl rfl ?_
  clear H m; intro m H
  refine w_p h_m234 2 (pc' := 12) (L' := [(0, .ref 143), (1, .int (48 : Int32))]) (st' := [.ref 143, .ref 143]) rfl ?_
  refine w_gf H (pc' := 15) (L' := [(0, .ref 143), (1, .int (48 : Int32))]) h_m234 (z_at.mk 3 rfl rfl) rfl (u := .int (16 : Int32)) rfl rfl rfl ?_
  refine w_p h_m234 2 (pc' := 17) (L' := [(0, .ref 143), (1, .int (48 : Int32))]) (st' := [.int (17 : Int32), .ref 143]) rfl ?_
  refine w_pf H (22, 35, [(29, .int (17 : Int32)), (10, .int (1 : Int32)), (34, .ref 167), (33, .ref 166), (31, .ref 165), (30, .ref 164), (28, .ref 163), (26, .ref 162), (25, .ref 161), (24, .ref 160), (19, .ref 159), (18, .ref 158), (17, .ref 157), (16, .ref 156), (13, .ref 155), (12, .ref 154), (11, .ref 153), (9, .ref 152), (8, .ref 151), (7, .ref 150), (5, .ref 149), (4, .ref 148), (3, .ref 147), (2, .ref 146), (1, .ref 145), (0, .ref 144), (6, .int (0 : Int32)), (14, .int (0 : Int32)), (15, .int (0 : Int32)), (20, .int (0 : Int32)), (21, .int (0 : Int32)), (22, .int (0 : Int32)), (23, .int (0 : Int32)), (27, .int (0 : Int32)), (32, .int (0 : Int32))], none) (pc' := 20) (L' := [(0, .ref 143), (1, .int (48 : Int32))]) h_m234 (z_at.mk 3 rfl rfl) rfl (by decide) rfl (Or.inl rfl) rfl rfl rfl ?_
  clear H m; intro m H
  refine w_rv h_m234 (z_at.mk 1 rfl rfl) rfl ?_
  show z_W 998 236 25 [(0, .ref 143), (1, .int (10 : Int32))] [] m _
  refine w_rv h_m236 (z_at.mk 1 rfl rfl) rfl ?_
  show z_W 999 239 202 [(0, .ref 143), (5, .int (0 : Int32)), (6, .int (0 : Int32))] [] m _
  refine w_p h_m239 3 (pc' := 206) (L' := [(0, .ref 143), (5, .int (0 : Int32)), (6, .int (0 : Int32))]) (st' := [.ref 143, .ref 143, .int (0 : Int32)]) rfl ?_
  refine w_gf H (pc' := 209) (L' := [(0, .ref 143), (5, .int (0 : Int32)), (6, .int (0 : Int32))]) h_m239 (z_at.mk 3 rfl rfl) rfl (u := .ref 150) rfl rfl rfl ?_
  refine w_p h_m239 3 (pc' := 213) (L' := [(0, .ref 143), (5, .int (0 : Int32)), (6, .int (0 : Int32))]) (st' := [.int (0 : Int32), .ref 150, .ref 143, .int (0 : Int32)]) rfl ?_
  refine w_cv (H.t rfl) (pc' := 216) (L' := [(0, .ref 143), (5, .int (0 : Int32)), (6, .int (0 : Int32))]) (rest := [.int (0 : Int32)]) (Ps := [.ref 150, .int (0 : Int32)]) (L0 := [(0, .ref 143), (1, .ref 150), (2, .int (0 : Int32))]) h_m239 (z_at.mk 3 rfl rfl) (Or.inl ⟨rfl, rfl⟩) rfl rfl (by decide) (by decide) rfl rfl rfl rfl rfl rfl (by decide) rfl rfl rfl ?_
  refine w_p h_m177 1 (pc' := 1) (L' := [(0, .ref 143), (1, .ref 150), (2, .int (0 : Int32))]) (st' := [.ref 143]) rfl ?_
  refine w_gf H (pc' := 4) (L' := [(0, .ref 143), (1, .ref 150), (2, .int (0 : Int32))]) h_m177 (z_at.mk 3 rfl rfl) rfl (u := .ref 144) rfl rfl rfl ?_
  refine w_p h_m177 1 (pc' := 6) (L' := [(0, .ref 143), (1, .ref 150), (2, .int (0 : Int32))]) (st' := [.int (11 : Int32), .ref 144]) rfl ?_
  refine w_al H (t := 0) (j := 11) (pc' := 7) (L' := [(0, .ref 143), (1, .ref 150), (2, .int (0 : Int32))]) h_m177 (z_at.mk 1 rfl rfl) rfl rfl rfl (u := .int (10 : Int32)) rfl rfl rfl ?_
  refine w_p h_m177 3 (pc' := 10) (L' := [(0, .ref 143), (1, .ref 150), (2, .int (0 : Int32))]) (st' := [.int (0 : Int32), .ref 150, .ref 143, .int (10 : Int32)]) rfl ?_
  refine w_cv (H.t rfl) (pc' := 13) (L' := [(0, .ref 143), (1, .ref 150), (2, .int (0 : Int32))]) (rest := [.int (10 : Int32)]) (Ps := [.ref 150, .int (0 : Int32)]) (L0 := [(0, .ref 143), (1, .ref 150), (2, .int (0 : Int32))]) h_m177 (z_at.mk 3 rfl rfl) (Or.inl ⟨rfl, rfl⟩) rfl rfl (by decide) (by decide) rfl rfl rfl rfl rfl rfl (by decide) rfl rfl rfl ?_
  refine w_ri0 H rfl rfl rfl ?_
  clear H m; intro m H
  show z_W 998 177 13 [(0, .ref 143), (1, .ref 150), (2, .int (0 : Int32))] [.int (0 : Int32), .int (10 : Int32)] m _
  refine w_p h_m177 1 (pc' := 14) (L' := [(0, .ref 143), (1, .ref 150), (2, .int (0 : Int32))]) (st' := [.int (10 : Int32)]) rfl ?_
  refine w_ri h_m177 (z_at.mk 1 rfl rfl) rfl rfl ?_
  show z_W 999 239 216 [(0, .ref 143), (5, .int (0 : Int32)), (6, .int (0 : Int32))] [.int (10 : Int32), .int (0 : Int32)] m _
  refine w_p h_m239 4 (pc' := 222) (L' := [(5, .int (10 : Int32)), (0, .ref 143), (6, .int (0 : Int32))]) (st' := [.int (59 : Int32), .ref 143]) rfl ?_
  refine w_cv (H.t rfl) (pc' := 225) (L' := [(5, .int (10 : Int32)), (0, .ref 143), (6, .int (0 : Int32))]) (rest := []) (Ps := [.int (59 : Int32)]) (L0 := [(0, .ref 143), (1, .int (59 : Int32))]) h_m239 (z_at.mk 3 rfl rfl) (Or.inl ⟨rfl, rfl⟩) rfl rfl (by decide) (by decide) rfl rfl rfl rfl rfl rfl (by decide) rfl rfl rfl ?_
  refine w_p h_m234 1 (pc' := 1) (L' := [(0, .ref 143), (1, .int (59 : Int32))]) (st' := [.ref 143]) rfl ?_
  refine w_gf H (pc' := 4) (L' := [(0, .ref 143), (1, .int (59 : Int32))]) h_m234 (z_at.mk 3 rfl rfl) rfl (u := .ref 163) rfl rfl rfl ?_
  refine w_p h_m234 1 (pc' := 5) (L' := [(0, .ref 143), (1, .int (59 : Int32))]) (st' := [.ref 143, .ref 163]) rfl ?_
  refine w_gf H (pc' := 8) (L' := [(0, .ref 143), (1, .int (59 : Int32))]) h_m234 (z_at.mk 3 rfl rfl) rfl (u := .int (17 : Int32)) rfl rfl rfl ?_
  refine w_p h_m234 1 (pc' := 9) (L' := [(0, .ref 143), (1, .int (59 : Int32))]) (st' := [.int (59 : Int32), .int (17 : Int32), .ref 163]) rfl ?_
  refine w_as H (t := 0) (j := 17) (u := .int (59 : Int32)) (0, 40000, [(17, .int (59 : Int32)), (16, .int (48 : Int32)), (15, .int (49 : Int32)), (14, .int (32 : Int32)), (13, .int ((48 : Int32) + ((xs 4) - (xs 4) / (10 : Int32) * (10 : Int32)))), (12, .int ((48 : Int32) + (((xs 4) / (10 : Int32)) - ((xs 4) / (10 : Int32)) / (10 : Int32) * (10 : Int32)))), (11, .int (45 : Int32)), (10, .int ((48 : Int32) + ((xs 3) - (xs 3) / (10 : Int32) * (10 : Int32)))), (9, .int (44 : Int32)), (8, .int ((48 : Int32) + ((xs 2) - (xs 2) / (10 : Int32) * (10 : Int32)))), (7, .int ((48 : Int32) + (((xs 2) / (10 : Int32)) - ((xs 2) / (10 : Int32)) / (10 : Int32) * (10 : Int32)))), (6, .int (45 : Int32)), (5, .int ((48 : Int32) + ((xs 1) - (xs 1) / (10 : Int32) * (10 : Int32)))), (4, .int ((48 : Int32) + (((xs 1) / (10 : Int32)) - ((xs 1) / (10 : Int32)) / (10 : Int32) * (10 : Int32)))), (3, .int (32 : Int32)), (2, .int (107 : Int32)), (1, .int (115 : Int32)), (0, .int (97 : Int32))], some (.int (0 : Int32))) (pc' := 10) (L' := [(0, .ref 143), (1, .int (59 : Int32))]) h_m234 (z_at.mk 1 rfl rfl) rfl rfl (w_ui _ _ (by decide)) rfl rfl rfl rfl ?_
  clear H m; intro m H
  refine w_p h_m234 2 (pc' := 12) (L' := [(0, .ref 143), (1, .int (59 : Int32))]) (st' := [.ref 143, .ref 143]) rfl ?_
  refine w_gf H (pc' := 15) (L' := [(0, .ref 143), (1, .int (59 : Int32))]) h_m234 (z_at.mk 3 rfl rfl) rfl (u := .int (17 : Int32)) rfl rfl rfl ?_
  refine w_p h_m234 2 (pc' := 17) (L' := [(0, .ref 143), (1, .int (59 : Int32))]) (st' := [.int (18 : Int32), .ref 143]) rfl ?_
  refine w_pf H (22, 35, [(29, .int (18 : Int32)), (10, .int (1 : Int32)), (34, .ref 167), (33, .ref 166), (31, .ref 165), (30, .ref 164), (28, .ref 163), (26, .ref 162), (25, .ref 161), (24, .ref 160), (19, .ref 159), (18, .ref 158), (17, .ref 157), (16, .ref 156), (13, .ref 155), (12, .ref 154), (11, .ref 153), (9, .ref 152), (8, .ref 151), (7, .ref 150), (5, .ref 149), (4, .ref 148), (3, .ref 147), (2, .ref 146), (1, .ref 145), (0, .ref 144), (6, .int (0 : Int32)), (14, .int (0 : Int32)), (15, .int (0 : Int32)), (20, .int (0 : Int32)), (21, .int (0 : Int32)), (22, .int (0 : Int32)), (23, .int (0 : Int32)), (27, .int (0 : Int32)), (32, .int (0 : Int32))], none) (pc' := 20) (L' := [(0, .ref 143), (1, .int (59 : Int32))]) h_m234 (z_at.mk 3 rfl rfl) rfl (by decide) rfl (Or.inl rfl) rfl rfl rfl ?_
  clear H m; intro m H
  refine w_rv h_m234 (z_at.mk 1 rfl rfl) rfl ?_
  show z_W 999 239 225 [(5, .int (10 : Int32)), (0, .ref 143), (6, .int (0 : Int32))] [] m _
  refine w_p h_m239 4 (pc' := 155) (L' := [(0, .ref 143), (5, .int (10 : Int32)), (6, .int (1 : Int32))]) (st' := [.ref 143, .int (1 : Int32)]) rfl ?_
  refine w_gf H (pc' := 158) (L' := [(0, .ref 143), (5, .int (10 : Int32)), (6, .int (1 : Int32))]) h_m239 (z_at.mk 3 rfl rfl) rfl (u := .int (1 : Int32)) rfl rfl rfl ?_
  refine w_p h_m239 3 (pc' := 235) (L' := [(0, .ref 143), (5, .int (10 : Int32)), (6, .int (1 : Int32))]) (st' := [.ref 18, .ref 143]) rfl ?_
  refine w_cv (H.t rfl) (pc' := 238) (L' := [(0, .ref 143), (5, .int (10 : Int32)), (6, .int (1 : Int32))]) (rest := []) (Ps := [.ref 18]) (L0 := [(0, .ref 143), (1, .ref 18)]) h_m239 (z_at.mk 3 rfl rfl) (Or.inl ⟨rfl, rfl⟩) rfl rfl (by decide) (by decide) rfl rfl rfl rfl rfl rfl (by decide) rfl rfl rfl ?_
  refine w_p h_m235 4 (pc' := 4) (L' := [(0, .ref 143), (1, .ref 18), (2, .int (0 : Int32))]) (st' := [.ref 18, .int (0 : Int32)]) rfl ?_
  refine w_cv (H.te (by decide) rfl).1 (pc' := 7) (L' := [(0, .ref 143), (1, .ref 18), (2, .int (0 : Int32))]) (rest := [.int (0 : Int32)]) (Ps := []) (L0 := [(0, .ref 18)]) h_m235 (z_at.mk 3 rfl rfl) (Or.inl ⟨rfl, rfl⟩) rfl rfl (by decide) (by decide) rfl rfl rfl rfl rfl rfl (by decide) rfl rfl rfl ?_
  refine w_p h_m293 1 (pc' := 1) (L' := [(0, .ref 18)]) (st' := [.ref 18]) rfl ?_
  refine w_gs H (pc' := 4) (L' := [(0, .ref 18)]) h_m293 (z_at.mk 3 rfl rfl) rfl (by decide) rfl rfl rfl rfl ?_
  refine w_lene H (x := (4 : Int32)) (pc' := 5) (L' := [(0, .ref 18)]) h_m293 (z_at.mk 1 rfl rfl) (by decide) rfl (by decide) rfl rfl rfl ?_
  refine w_p h_m293 1 (pc' := 6) (L' := [(0, .ref 18)]) (st' := [.ref 18, .int (4 : Int32)]) rfl ?_
  refine w_cv (H.te (by decide) rfl).1 (pc' := 9) (L' := [(0, .ref 18)]) (rest := [.int (4 : Int32)]) (Ps := []) (L0 := [(0, .ref 18)]) h_m293 (z_at.mk 3 rfl rfl) (Or.inl ⟨rfl, rfl⟩) rfl rfl (by decide) (by decide) rfl rfl rfl rfl rfl rfl (by decide) rfl rfl rfl ?_
  refine w_p h_m298 3 (pc' := 7) (L' := [(0, .ref 18)]) (st' := [.ref 18]) rfl ?_
  refine w_gs H (pc' := 10) (L' := [(0, .ref 18)]) h_m298 (z_at.mk 3 rfl rfl) rfl (by decide) rfl rfl rfl rfl ?_
  refine w_p h_m298 1 (pc' := 14) (L' := []) (st' := [.int (0 : Int32)]) rfl ?_
  refine w_ri h_m298 (z_at.mk 1 rfl rfl) rfl rfl ?_
  show z_W 997 293 9 [(0, .ref 18)] [.int (0 : Int32), .int (4 : Int32)] m _
  refine w_p h_m293 1 (pc' := 10) (L' := [(0, .ref 18)]) (st' := [.int (4 : Int32)]) rfl ?_
  refine w_ri h_m293 (z_at.mk 1 rfl rfl) rfl rfl ?_
  show z_W 998 235 7 [(0, .ref 143), (1, .ref 18), (2, .int (0 : Int32))] [.int (4 : Int32), .int (0 : Int32)] m _
  refine w_p h_m235 4 (pc' := 13) (L' := [(0, .ref 143), (1, .ref 18), (2, .int (0 : Int32))]) (st' := [.int (0 : Int32), .ref 18, .ref 143]) rfl ?_
  refine w_cv (H.te (by decide) rfl).1 (pc' := 16) (L' := [(0, .ref 143), (1, .ref 18), (2, .int (0 : Int32))]) (rest := [.ref 143]) (Ps := [.int (0 : Int32)]) (L0 := [(0, .ref 18), (1, .int (0 : Int32))]) h_m235 (z_at.mk 3 rfl rfl) (Or.inl ⟨rfl, rfl⟩) rfl rfl (by decide) (by decide) rfl rfl rfl rfl rfl rfl (by decide) rfl rfl rfl ?_
  refine w_p h_m294 1 (pc' := 1) (L' := [(0, .ref 18), (1, .int (0 : Int32))]) (st' := [.ref 18]) rfl ?_
  refine w_cv (H.te (by decide) rfl).1 (pc' := 4) (L' := [(0, .ref 18), (1, .int (0 : Int32))]) (rest := []) (Ps := []) (L0 := [(0, .ref 18)]) h_m294 (z_at.mk 3 rfl rfl) (Or.inl ⟨rfl, rfl⟩) rfl rfl (by decide) (by decide) rfl rfl rfl rfl rfl rfl (by decide) rfl rfl rfl ?_
  refine w_p h_m299 3 (pc' := 7) (L' := [(0, .ref 18)]) (st' := [.ref 18]) rfl ?_
  refine w_gs H (pc' := 10) (L' := [(0, .ref 18)]) h_m299 (z_at.mk 3 rfl rfl) rfl (by decide) rfl rfl rfl rfl ?_
  refine w_p h_m299 3 (pc' := 18) (L' := []) (st' := [.int (1 : Int32)]) rfl ?_
  refine w_ri h_m299 (z_at.mk 1 rfl rfl) rfl rfl ?_
  show z_W 997 294 4 [(0, .ref 18), (1, .int (0 : Int32))] [.int (1 : Int32)] m _
  refine w_p h_m294 2 (pc' := 8) (L' := [(0, .ref 18), (1, .int (0 : Int32))]) (st' := [.ref 18]) rfl ?_
  refine w_gs H (pc' := 11) (L' := [(0, .ref 18), (1, .int (0 : Int32))]) h_m294 (z_at.mk 3 rfl rfl) rfl (by decide) rfl rfl rfl rfl ?_
  refine w_p h_m294 1 (pc' := 12) (L' := [(0, .ref 18), (1, .int (0 : Int32))]) (st' := [.int (0 : Int32), .ref 36]) rfl ?_
  refine w_cs (As := [.ref 36, .int (0 : Int32)]) (rest := []) (j := 308) (L0 := [(0, .ref 36), (1, .int (0 : Int32))]) (pc' := 15) (L' := [(0, .ref 18), (1, .int (0 : Int32))]) h_m294 (z_at.mk 3 rfl rfl) (Or.inl ⟨rfl, rfl⟩) rfl rfl rfl rfl rfl ?_
  refine w_p h_m308 2 (pc' := 2) (L' := [(0, .ref 36), (1, .int (0 : Int32))]) (st' := [.ref 36, .int (0 : Int32)]) rfl ?_
  refine w_lene H (x := (4 : Int32)) (pc' := 3) (L' := [(0, .ref 36), (1, .int (0 : Int32))]) h_m308 (z_at.mk 1 rfl rfl) (by decide) rfl (by decide) rfl rfl rfl ?_
  refine w_ci (pc' := 6) (L' := [(0, .ref 36), (1, .int (0 : Int32))]) h_m308 (z_at.mk 3 rfl rfl) rfl (z_cat_le 0 rfl (by decide)) ⟨by decide, by decide⟩ rfl rfl ?_
  refine w_p h_m308 2 (pc' := 8) (L' := [(0, .ref 36), (1, .int (0 : Int32))]) (st' := [.int (0 : Int32), .ref 36]) rfl ?_
  refine w_ae H (j := 0) (pc' := 9) (L' := [(0, .ref 36), (1, .int (0 : Int32))]) h_m308 (z_at.mk 1 rfl rfl) rfl rfl rfl (by decide) rfl (by decide) rfl rfl rfl ?_
  refine w_p h_m308 3 (pc' := 14) (L' := [(0, .ref 36), (1, .int (0 : Int32))]) (st' := [.int (112 : Int32)]) rfl ?_
  refine w_ri h_m308 (z_at.mk 1 rfl rfl) rfl rfl ?_
  show z_W 997 294 15 [(0, .ref 18), (1, .int (0 : Int32))] [.int (112 : Int32)] m _
  refine w_ri h_m294 (z_at.mk 1 rfl rfl) rfl rfl ?_
  show z_W 998 235 16 [(0, .ref 143), (1, .ref 18), (2, .int (0 : Int32))] [.int (112 : Int32), .ref 143] m _
  refine w_cv (H.t rfl) (pc' := 19) (L' := [(0, .ref 143), (1, .ref 18), (2, .int (0 : Int32))]) (rest := []) (Ps := [.int (112 : Int32)]) (L0 := [(0, .ref 143), (1, .int (112 : Int32))]) h_m235 (z_at.mk 3 rfl rfl) (Or.inl ⟨rfl, rfl⟩) rfl rfl (by decide) (by decide) rfl rfl rfl rfl rfl rfl (by decide) rfl rfl rfl ?_
  refine w_p h_m234 1 (pc' := 1) (L' := [(0, .ref 143), (1, .int (112 : Int32))]) (st' := [.ref 143]) rfl ?_
  refine w_gf H (pc' := 4) (L' := [(0, .ref 143), (1, .int (112 : Int32))]) h_m234 (z_at.mk 3 rfl rfl) rfl (u := .ref 163) rfl rfl rfl ?_
  refine w_p h_m234 1 (pc' := 5) (L' := [(0, .ref 143), (1, .int (112 : Int32))]) (st' := [.ref 143, .ref 163]) rfl ?_
  refine w_gf H (pc' := 8) (L' := [(0, .ref 143), (1, .int (112 : Int32))]) h_m234 (z_at.mk 3 rfl rfl) rfl (u := .int (18 : Int32)) rfl rfl rfl ?_
  refine w_p h_m234 1 (pc' := 9) (L' := [(0, .ref 143), (1, .int (112 : Int32))]) (st' := [.int (112 : Int32), .int (18 : Int32), .ref 163]) rfl ?_
  refine w_as H (t := 0) (j := 18) (u := .int (112 : Int32)) (0, 40000, [(18, .int (112 : Int32)), (17, .int (59 : Int32)), (16, .int (48 : Int32)), (15, .int (49 : Int32)), (14, .int (32 : Int32)), (13, .int ((48 : Int32) + ((xs 4) - (xs 4) / (10 : Int32) * (10 : Int32)))), (12, .int ((48 : Int32) + (((xs 4) / (10 : Int32)) - ((xs 4) / (10 : Int32)) / (10 : Int32) * (10 : Int32)))), (11, .int (45 : Int32)), (10, .int ((48 : Int32) + ((xs 3) - (xs 3) / (10 : Int32) * (10 : Int32)))), (9, .int (44 : Int32)), (8, .int ((48 : Int32) + ((xs 2) - (xs 2) / (10 : Int32) * (10 : Int32)))), (7, .int ((48 : Int32) + (((xs 2) / (10 : Int32)) - ((xs 2) / (10 : Int32)) / (10 : Int32) * (10 : Int32)))), (6, .int (45 : Int32)), (5, .int ((48 : Int32) + ((xs 1) - (xs 1) / (10 : Int32) * (10 : Int32)))), (4, .int ((48 : Int32) + (((xs 1) / (10 : Int32)) - ((xs 1) / (10 : Int32)) / (10 : Int32) * (10 : Int32)))), (3, .int (32 : Int32)), (2, .int (107 : Int32)), (1, .int (115 : Int32)), (0, .int (97 : Int32))], some (.int (0 : Int32))) (pc' := 10) (L' := [(0, .ref 143), (1, .int (112 : Int32))]) h_m234 (z_at.mk 1 rfl rfl) rfl rfl (w_ui _ _ (by decide)) rfl rfl rfl rfl ?_
  clear H m; intro m H
  refine w_p h_m234 2 (pc' := 12) (L' := [(0, .ref 143), (1, .int (112 : Int32))]) (st' := [.ref 143, .ref 143]) rfl ?_
  refine w_gf H (pc' := 15) (L' := [(0, .ref 143), (1, .int (112 : Int32))]) h_m234 (z_at.mk 3 rfl rfl) rfl (u := .int (18 : Int32)) rfl rfl rfl ?_
  refine w_p h_m234 2 (pc' := 17) (L' := [(0, .ref 143), (1, .int (112 : Int32))]) (st' := [.int (19 : Int32), .ref 143]) rfl ?_
  refine w_pf H (22, 35, [(29, .int (19 : Int32)), (10, .int (1 : Int32)), (34, .ref 167), (33, .ref 166), (31, .ref 165), (30, .ref 164), (28, .ref 163), (26, .ref 162), (25, .ref 161), (24, .ref 160), (19, .ref 159), (18, .ref 158), (17, .ref 157), (16, .ref 156), (13, .ref 155), (12, .ref 154), (11, .ref 153), (9, .ref 152), (8, .ref 151), (7, .ref 150), (5, .ref 149), (4, .ref 148), (3, .ref 147), (2, .ref 146), (1, .ref 145), (0, .ref 144), (6, .int (0 : Int32)), (14, .int (0 : Int32)), (15, .int (0 : Int32)), (20, .int (0 : Int32)), (21, .int (0 : Int32)), (22, .int (0 : Int32)), (23, .int (0 : Int32)), (27, .int (0 : Int32)), (32, .int (0 : Int32))], none) (pc' := 20) (L' := [(0, .ref 143), (1, .int (112 : Int32))]) h_m234 (z_at.mk 3 rfl rfl) rfl (by decide) rfl (Or.inl rfl) rfl rfl rfl ?_
  clear H m; intro m H
  refine w_rv h_m234 (z_at.mk 1 rfl rfl) rfl ?_
  show z_W 998 235 19 [(0, .ref 143), (1, .ref 18), (2, .int (0 : Int32))] [] m _
  refine w_p h_m235 4 (pc' := 4) (L' := [(0, .ref 143), (1, .ref 18), (2, .int (1 : Int32))]) (st' := [.ref 18, .int (1 : Int32)]) rfl ?_
  refine w_cv (H.te (by decide) rfl).1 (pc' := 7) (L' := [(0, .ref 143), (1, .ref 18), (2, .int (1 : Int32))]) (rest := [.int (1 : Int32)]) (Ps := []) (L0 := [(0, .ref 18)]) h_m235 (z_at.mk 3 rfl rfl) (Or.inl ⟨rfl, rfl⟩) rfl rfl (by decide) (by decide) rfl rfl rfl rfl rfl rfl (by decide) rfl rfl rfl ?_
  refine w_p h_m293 1 (pc' := 1) (L' := [(0, .ref 18)]) (st' := [.ref 18]) rfl ?_
  refine w_gs H (pc' := 4) (L' := [(0, .ref 18)]) h_m293 (z_at.mk 3 rfl rfl) rfl (by decide) rfl rfl rfl rfl ?_
  refine w_lene H (x := (4 : Int32)) (pc' := 5) (L' := [(0, .ref 18)]) h_m293 (z_at.mk 1 rfl rfl) (by decide) rfl (by decide) rfl rfl rfl ?_
  refine w_p h_m293 1 (pc' := 6) (L' := [(0, .ref 18)]) (st' := [.ref 18, .int (4 : Int32)]) rfl ?_
  refine w_cv (H.te (by decide) rfl).1 (pc' := 9) (L' := [(0, .ref 18)]) (rest := [.int (4 : Int32)]) (Ps := []) (L0 := [(0, .ref 18)]) h_m293 (z_at.mk 3 rfl rfl) (Or.inl ⟨rfl, rfl⟩) rfl rfl (by decide) (by decide) rfl rfl rfl rfl rfl rfl (by decide) rfl rfl rfl ?_
  refine w_p h_m298 3 (pc' := 7) (L' := [(0, .ref 18)]) (st' := [.ref 18]) rfl ?_
  refine w_gs H (pc' := 10) (L' := [(0, .ref 18)]) h_m298 (z_at.mk 3 rfl rfl) rfl (by decide) rfl rfl rfl rfl ?_
  refine w_p h_m298 1 (pc' := 14) (L' := []) (st' := [.int (0 : Int32)]) rfl ?_
  refine w_ri h_m298 (z_at.mk 1 rfl rfl) rfl rfl ?_
  show z_W 997 293 9 [(0, .ref 18)] [.int (0 : Int32), .int (4 : Int32)] m _
  refine w_p h_m293 1 (pc' := 10) (L' := [(0, .ref 18)]) (st' := [.int (4 : Int32)]) rfl ?_
  refine w_ri h_m293 (z_at.mk 1 rfl rfl) rfl rfl ?_
  show z_W 998 235 7 [(0, .ref 143), (1, .ref 18), (2, .int (1 : Int32))] [.int (4 : Int32), .int (1 : Int32)] m _
  refine w_p h_m235 4 (pc' := 13) (L' := [(0, .ref 143), (1, .ref 18), (2, .int (1 : Int32))]) (st' := [.int (1 : Int32), .ref 18, .ref 143]) rfl ?_
  refine w_cv (H.te (by decide) rfl).1 (pc' := 16) (L' := [(0, .ref 143), (1, .ref 18), (2, .int (1 : Int32))]) (rest := [.ref 143]) (Ps := [.int (1 : Int32)]) (L0 := [(0, .ref 18), (1, .int (1 : Int32))]) h_m235 (z_at.mk 3 rfl rfl) (Or.inl ⟨rfl, rfl⟩) rfl rfl (by decide) (by decide) rfl rfl rfl rfl rfl rfl (by decide) rfl rfl rfl ?_
  refine w_p h_m294 1 (pc' := 1) (L' := [(0, .ref 18), (1, .int (1 : Int32))]) (st' := [.ref 18]) rfl ?_
  refine w_cv (H.te (by decide) rfl).1 (pc' := 4) (L' := [(0, .ref 18), (1, .int (1 : Int32))]) (rest := []) (Ps := []) (L0 := [(0, .ref 18)]) h_m294 (z_at.mk 3 rfl rfl) (Or.inl ⟨rfl, rfl⟩) rfl rfl (by decide) (by decide) rfl rfl rfl rfl rfl rfl (by decide) rfl rfl rfl ?_
  refine w_p h_m299 3 (pc' := 7) (L' := [(0, .ref 18)]) (st' := [.ref 18]) rfl ?_
  refine w_gs H (pc' := 10) (L' := [(0, .ref 18)]) h_m299 (z_at.mk 3 rfl rfl) rfl (by decide) rfl rfl rfl rfl ?_
  refine w_p h_m299 3 (pc' := 18) (L' := []) (st' := [.int (1 : Int32)]) rfl ?_
  refine w_ri h_m299 (z_at.mk 1 rfl rfl) rfl rfl ?_
  show z_W 997 294 4 [(0, .ref 18), (1, .int (1 : Int32))] [.int (1 : Int32)] m _
  refine w_p h_m294 2 (pc' := 8) (L' := [(0, .ref 18), (1, .int (1 : Int32))]) (st' := [.ref 18]) rfl ?_
  refine w_gs H (pc' := 11) (L' := [(0, .ref 18), (1, .int (1 : Int32))]) h_m294 (z_at.mk 3 rfl rfl) rfl (by decide) rfl rfl rfl rfl ?_
  refine w_p h_m294 1 (pc' := 12) (L' := [(0, .ref 18), (1, .int (1 : Int32))]) (st' := [.int (1 : Int32), .ref 36]) rfl ?_
  refine w_cs (As := [.ref 36, .int (1 : Int32)]) (rest := []) (j := 308) (L0 := [(0, .ref 36), (1, .int (1 : Int32))]) (pc' := 15) (L' := [(0, .ref 18), (1, .int (1 : Int32))]) h_m294 (z_at.mk 3 rfl rfl) (Or.inl ⟨rfl, rfl⟩) rfl rfl rfl rfl rfl ?_
  refine w_p h_m308 2 (pc' := 2) (L' := [(0, .ref 36), (1, .int (1 : Int32))]) (st' := [.ref 36, .int (1 : Int32)]) rfl ?_
  refine w_lene H (x := (4 : Int32)) (pc' := 3) (L' := [(0, .ref 36), (1, .int (1 : Int32))]) h_m308 (z_at.mk 1 rfl rfl) (by decide) rfl (by decide) rfl rfl rfl ?_
  refine w_ci (pc' := 6) (L' := [(0, .ref 36), (1, .int (1 : Int32))]) h_m308 (z_at.mk 3 rfl rfl) rfl (z_cat_le 0 rfl (by decide)) ⟨by decide, by decide⟩ rfl rfl ?_
  refine w_p h_m308 2 (pc' := 8) (L' := [(0, .ref 36), (1, .int (1 : Int32))]) (st' := [.int (1 : Int32), .ref 36]) rfl ?_
  refine w_ae H (j := 1) (pc' := 9) (L' := [(0, .ref 36), (1, .int (1 : Int32))]) h_m308 (z_at.mk 1 rfl rfl) rfl rfl rfl (by decide) rfl (by decide) rfl rfl rfl ?_
  refine w_p h_m308 3 (pc' := 14) (L' := [(0, .ref 36), (1, .int (1 : Int32))]) (st' := [.int (97 : Int32)]) rfl ?_
  refine w_ri h_m308 (z_at.mk 1 rfl rfl) rfl rfl ?_
  show z_W 997 294 15 [(0, .ref 18), (1, .int (1 : Int32))] [.int (97 : Int32)] m _
  refine w_ri h_m294 (z_at.mk 1 rfl rfl) rfl rfl ?_
  show z_W 998 235 16 [(0, .ref 143), (1, .ref 18), (2, .int (1 : Int32))] [.int (97 : Int32), .ref 143] m _
  refine w_cv (H.t rfl) (pc' := 19) (L' := [(0, .ref 143), (1, .ref 18), (2, .int (1 : Int32))]) (rest := []) (Ps := [.int (97 : Int32)]) (L0 := [(0, .ref 143), (1, .int (97 : Int32))]) h_m235 (z_at.mk 3 rfl rfl) (Or.inl ⟨rfl, rfl⟩) rfl rfl (by decide) (by decide) rfl rfl rfl rfl rfl rfl (by decide) rfl rfl rfl ?_
  refine w_p h_m234 1 (pc' := 1) (L' := [(0, .ref 143), (1, .int (97 : Int32))]) (st' := [.ref 143]) rfl ?_
  refine w_gf H (pc' := 4) (L' := [(0, .ref 143), (1, .int (97 : Int32))]) h_m234 (z_at.mk 3 rfl rfl) rfl (u := .ref 163) rfl rfl rfl ?_
  refine w_p h_m234 1 (pc' := 5) (L' := [(0, .ref 143), (1, .int (97 : Int32))]) (st' := [.ref 143, .ref 163]) rfl ?_
  refine w_gf H (pc' := 8) (L' := [(0, .ref 143), (1, .int (97 : Int32))]) h_m234 (z_at.mk 3 rfl rfl) rfl (u := .int (19 : Int32)) rfl rfl rfl ?_
  refine w_p h_m234 1 (pc' := 9) (L' := [(0, .ref 143), (1, .int (97 : Int32))]) (st' := [.int (97 : Int32), .int (19 : Int32), .ref 163]) rfl ?_
  refine w_as H (t := 0) (j := 19) (u := .int (97 : Int32)) (0, 40000, [(19, .int (97 : Int32)), (18, .int (112 : Int32)), (17, .int (59 : Int32)), (16, .int (48 : Int32)), (15, .int (49 : Int32)), (14, .int (32 : Int32)), (13, .int ((48 : Int32) + ((xs 4) - (xs 4) / (10 : Int32) * (10 : Int32)))), (12, .int ((48 : Int32) + (((xs 4) / (10 : Int32)) - ((xs 4) / (10 : Int32)) / (10 : Int32) * (10 : Int32)))), (11, .int (45 : Int32)), (10, .int ((48 : Int32) + ((xs 3) - (xs 3) / (10 : Int32) * (10 : Int32)))), (9, .int (44 : Int32)), (8, .int ((48 : Int32) + ((xs 2) - (xs 2) / (10 : Int32) * (10 : Int32)))), (7, .int ((48 : Int32) + (((xs 2) / (10 : Int32)) - ((xs 2) / (10 : Int32)) / (10 : Int32) * (10 : Int32)))), (6, .int (45 : Int32)), (5, .int ((48 : Int32) + ((xs 1) - (xs 1) / (10 : Int32) * (10 : Int32)))), (4, .int ((48 : Int32) + (((xs 1) / (10 : Int32)) - ((xs 1) / (10 : Int32)) / (10 : Int32) * (10 : Int32)))), (3, .int (32 : Int32)), (2, .int (107 : Int32)), (1, .int (115 : Int32)), (0, .int (97 : Int32))], some (.int (0 : Int32))) (pc' := 10) (L' := [(0, .ref 143), (1, .int (97 : Int32))]) h_m234 (z_at.mk 1 rfl rfl) rfl rfl (w_ui _ _ (by decide)) rfl rfl rfl rfl ?_
  clear H m; intro m H
  refine w_p h_m234 2 (pc' := 12) (L' := [(0, .ref 143), (1, .int (97 : Int32))]) (st' := [.ref 143, .ref 143]) rfl ?_
  refine w_gf H (pc' := 15) (L' := [(0, .ref 143), (1, .int (97 : Int32))]) h_m234 (z_at.mk 3 rfl rfl) rfl (u := .int (19 : Int32)) rfl rfl rfl ?_
  refine w_p h_m234 2 (pc' := 17) (L' := [(0, .ref 143), (1, .int (97 : Int32))]) (st' := [.int (20 : Int32), .ref 143]) rfl ?_
  refine w_pf H (22, 35, [(29, .int (20 : Int32)), (10, .int (1 : Int32)), (34, .ref 167), (33, .ref 166), (31, .ref 165), (30, .ref 164), (28, .ref 163), (26, .ref 162), (25, .ref 161), (24, .ref 160), (19, .ref 159), (18, .ref 158), (17, .ref 157), (16, .ref 156), (13, .ref 155), (12, .ref 154), (11, .ref 153), (9, .ref 152), (8, .ref 151), (7, .ref 150), (5, .ref 149), (4, .ref 148), (3, .ref 147), (2, .ref 146), (1, .ref 145), (0, .ref 144), (6, .int (0 : Int32)), (14, .int (0 : Int32)), (15, .int (0 : Int32)), (20, .int (0 : Int32)), (21, .int (0 : Int32)), (22, .int (0 : Int32)), (23, .int (0 : Int32)), (27, .int (0 : Int32)), (32, .int (0 : Int32))], none) (pc' := 20) (L' := [(0, .ref 143), (1, .int (97 : Int32))]) h_m234 (z_at.mk 3 rfl rfl) rfl (by decide) rfl (Or.inl rfl) rfl rfl rfl ?_
  clear H m; intro m H
  refine w_rv h_m234 (z_at.mk 1 rfl rfl) rfl ?_
  show z_W 998 235 19 [(0, .ref 143), (1, .ref 18), (2, .int (1 : Int32))] [] m _
  refine w_p h_m235 4 (pc' := 4) (L' := [(0, .ref 143), (1, .ref 18), (2, .int (2 : Int32))]) (st' := [.ref 18, .int (2 : Int32)]) rfl ?_
  refine w_cv (H.te (by decide) rfl).1 (pc' := 7) (L' := [(0, .ref 143), (1, .ref 18), (2, .int (2 : Int32))]) (rest := [.int (2 : Int32)]) (Ps := []) (L0 := [(0, .ref 18)]) h_m235 (z_at.mk 3 rfl rfl) (Or.inl ⟨rfl, rfl⟩) rfl rfl (by decide) (by decide) rfl rfl rfl rfl rfl rfl (by decide) rfl rfl rfl ?_
  refine w_p h_m293 1 (pc' := 1) (L' := [(0, .ref 18)]) (st' := [.ref 18]) rfl ?_
  refine w_gs H (pc' := 4) (L' := [(0, .ref 18)]) h_m293 (z_at.mk 3 rfl rfl) rfl (by decide) rfl rfl rfl rfl ?_
  refine w_lene H (x := (4 : Int32)) (pc' := 5) (L' := [(0, .ref 18)]) h_m293 (z_at.mk 1 rfl rfl) (by decide) rfl (by decide) rfl rfl rfl ?_
  refine w_p h_m293 1 (pc' := 6) (L' := [(0, .ref 18)]) (st' := [.ref 18, .int (4 : Int32)]) rfl ?_
  refine w_cv (H.te (by decide) rfl).1 (pc' := 9) (L' := [(0, .ref 18)]) (rest := [.int (4 : Int32)]) (Ps := []) (L0 := [(0, .ref 18)]) h_m293 (z_at.mk 3 rfl rfl) (Or.inl ⟨rfl, rfl⟩) rfl rfl (by decide) (by decide) rfl rfl rfl rfl rfl rfl (by decide) rfl rfl rfl ?_
  refine w_p h_m298 3 (pc' := 7) (L' := [(0, .ref 18)]) (st' := [.ref 18]) rfl ?_
  refine w_gs H (pc' := 10) (L' := [(0, .ref 18)]) h_m298 (z_at.mk 3 rfl rfl) rfl (by decide) rfl rfl rfl rfl ?_
  refine w_p h_m298 1 (pc' := 14) (L' := []) (st' := [.int (0 : Int32)]) rfl ?_
  refine w_ri h_m298 (z_at.mk 1 rfl rfl) rfl rfl ?_
  show z_W 997 293 9 [(0, .ref 18)] [.int (0 : Int32), .int (4 : Int32)] m _
  refine w_p h_m293 1 (pc' := 10) (L' := [(0, .ref 18)]) (st' := [.int (4 : Int32)]) rfl ?_
  refine w_ri h_m293 (z_at.mk 1 rfl rfl) rfl rfl ?_
  show z_W 998 235 7 [(0, .ref 143), (1, .ref 18), (2, .int (2 : Int32))] [.int (4 : Int32), .int (2 : Int32)] m _
  refine w_p h_m235 4 (pc' := 13) (L' := [(0, .ref 143), (1, .ref 18), (2, .int (2 : Int32))]) (st' := [.int (2 : Int32), .ref 18, .ref 143]) rfl ?_
  refine w_cv (H.te (by decide) rfl).1 (pc' := 16) (L' := [(0, .ref 143), (1, .ref 18), (2, .int (2 : Int32))]) (rest := [.ref 143]) (Ps := [.int (2 : Int32)]) (L0 := [(0, .ref 18), (1, .int (2 : Int32))]) h_m235 (z_at.mk 3 rfl rfl) (Or.inl ⟨rfl, rfl⟩) rfl rfl (by decide) (by decide) rfl rfl rfl rfl rfl rfl (by decide) rfl rfl rfl ?_
  refine w_p h_m294 1 (pc' := 1) (L' := [(0, .ref 18), (1, .int (2 : Int32))]) (st' := [.ref 18]) rfl ?_
  refine w_cv (H.te (by decide) rfl).1 (pc' := 4) (L' := [(0, .ref 18), (1, .int (2 : Int32))]) (rest := []) (Ps := []) (L0 := [(0, .ref 18)]) h_m294 (z_at.mk 3 rfl rfl) (Or.inl ⟨rfl, rfl⟩) rfl rfl (by decide) (by decide) rfl rfl rfl rfl rfl rfl (by decide) rfl rfl rfl ?_
  refine w_p h_m299 3 (pc' := 7) (L' := [(0, .ref 18)]) (st' := [.ref 18]) rfl ?_
  refine w_gs H (pc' := 10) (L' := [(0, .ref 18)]) h_m299 (z_at.mk 3 rfl rfl) rfl (by decide) rfl rfl rfl rfl ?_
  refine w_p h_m299 3 (pc' := 18) (L' := []) (st' := [.int (1 : Int32)]) rfl ?_
  refine w_ri h_m299 (z_at.mk 1 rfl rfl) rfl rfl ?_
  show z_W 997 294 4 [(0, .ref 18), (1, .int (2 : Int32))] [.int (1 : Int32)] m _
  refine w_p h_m294 2 (pc' := 8) (L' := [(0, .ref 18), (1, .int (2 : Int32))]) (st' := [.ref 18]) rfl ?_
  refine w_gs H (pc' := 11) (L' := [(0, .ref 18), (1, .int (2 : Int32))]) h_m294 (z_at.mk 3 rfl rfl) rfl (by decide) rfl rfl rfl rfl ?_
  refine w_p h_m294 1 (pc' := 12) (L' := [(0, .ref 18), (1, .int (2 : Int32))]) (st' := [.int (2 : Int32), .ref 36]) rfl ?_
  refine w_cs (As := [.ref 36, .int (2 : Int32)]) (rest := []) (j := 308) (L0 := [(0, .ref 36), (1, .int (2 : Int32))]) (pc' := 15) (L' := [(0, .ref 18), (1, .int (2 : Int32))]) h_m294 (z_at.mk 3 rfl rfl) (Or.inl ⟨rfl, rfl⟩) rfl rfl rfl rfl rfl ?_
  refine w_p h_m308 2 (pc' := 2) (L' := [(0, .ref 36), (1, .int (2 : Int32))]) (st' := [.ref 36, .int (2 : Int32)]) rfl ?_
  refine w_lene H (x := (4 : Int32)) (pc' := 3) (L' := [(0, .ref 36), (1, .int (2 : Int32))]) h_m308 (z_at.mk 1 rfl rfl) (by decide) rfl (by decide) rfl rfl rfl ?_
  refine w_ci (pc' := 6) (L' := [(0, .ref 36), (1, .int (2 : Int32))]) h_m308 (z_at.mk 3 rfl rfl) rfl (z_cat_le 0 rfl (by decide)) ⟨by decide, by decide⟩ rfl rfl ?_
  refine w_p h_m308 2 (pc' := 8) (L' := [(0, .ref 36), (1, .int (2 : Int32))]) (st' := [.int (2 : Int32), .ref 36]) rfl ?_
  refine w_ae H (j := 2) (pc' := 9) (L' := [(0, .ref 36), (1, .int (2 : Int32))]) h_m308 (z_at.mk 1 rfl rfl) rfl rfl rfl (by decide) rfl (by decide) rfl rfl rfl ?_
  refine w_p h_m308 3 (pc' := 14) (L' := [(0, .ref 36), (1, .int (2 : Int32))]) (st' := [.int (121 : Int32)]) rfl ?_
  refine w_ri h_m308 (z_at.mk 1 rfl rfl) rfl rfl ?_
  show z_W 997 294 15 [(0, .ref 18), (1, .int (2 : Int32))] [.int (121 : Int32)] m _
  refine w_ri h_m294 (z_at.mk 1 rfl rfl) rfl rfl ?_
  show z_W 998 235 16 [(0, .ref 143), (1, .ref 18), (2, .int (2 : Int32))] [.int (121 : Int32), .ref 143] m _
  refine w_cv (H.t rfl) (pc' := 19) (L' := [(0, .ref 143), (1, .ref 18), (2, .int (2 : Int32))]) (rest := []) (Ps := [.int (121 : Int32)]) (L0 := [(0, .ref 143), (1, .int (121 : Int32))]) h_m235 (z_at.mk 3 rfl rfl) (Or.inl ⟨rfl, rfl⟩) rfl rfl (by decide) (by decide) rfl rfl rfl rfl rfl rfl (by decide) rfl rfl rfl ?_
  refine w_p h_m234 1 (pc' := 1) (L' := [(0, .ref 143), (1, .int (121 : Int32))]) (st' := [.ref 143]) rfl ?_
  refine w_gf H (pc' := 4) (L' := [(0, .ref 143), (1, .int (121 : Int32))]) h_m234 (z_at.mk 3 rfl rfl) rfl (u := .ref 163) rfl rfl rfl ?_
  refine w_p h_m234 1 (pc' := 5) (L' := [(0, .ref 143), (1, .int (121 : Int32))]) (st' := [.ref 143, .ref 163]) rfl ?_
  refine w_gf H (pc' := 8) (L' := [(0, .ref 143), (1, .int (121 : Int32))]) h_m234 (z_at.mk 3 rfl rfl) rfl (u := .int (20 : Int32)) rfl rfl rfl ?_
  refine w_p h_m234 1 (pc' := 9) (L' := [(0, .ref 143), (1, .int (121 : Int32))]) (st' := [.int (121 : Int32), .int (20 : Int32), .ref 163]) rfl ?_
  refine w_as H (t := 0) (j := 20) (u := .int (121 : Int32)) (0, 40000, [(20, .int (121 : Int32)), (19, .int (97 : Int32)), (18, .int (112 : Int32)), (17, .int (59 : Int32)), (16, .int (48 : Int32)), (15, .int (49 : Int32)), (14, .int (32 : Int32)), (13, .int ((48 : Int32) + ((xs 4) - (xs 4) / (10 : Int32) * (10 : Int32)))), (12, .int ((48 : Int32) + (((xs 4) / (10 : Int32)) - ((xs 4) / (10 : Int32)) / (10 : Int32) * (10 : Int32)))), (11, .int (45 : Int32)), (10, .int ((48 : Int32) + ((xs 3) - (xs 3) / (10 : Int32) * (10 : Int32)))), (9, .int (44 : Int32)), (8, .int ((48 : Int32) + ((xs 2) - (xs 2) / (10 : Int32) * (10 : Int32)))), (7, .int ((48 : Int32) + (((xs 2) / (10 : Int32)) - ((xs 2) / (10 : Int32)) / (10 : Int32) * (10 : Int32)))), (6, .int (45 : Int32)), (5, .int ((48 : Int32) + ((xs 1) - (xs 1) / (10 : Int32) * (10 : Int32)))), (4, .int ((48 : Int32) + (((xs 1) / (10 : Int32)) - ((xs 1) / (10 : Int32)) / (10 : Int32) * (10 : Int32)))), (3, .int (32 : Int32)), (2, .int (107 : Int32)), (1, .int (115 : Int32)), (0, .int (97 : Int32))], some (.int (0 : Int32))) (pc' := 10) (L' := [(0, .ref 143), (1, .int (121 : Int32))]) h_m234 (z_at.mk 1 rfl rfl) rfl rfl (w_ui _ _ (by decide)) rfl rfl rfl rfl ?_
  clear H m; intro m H
  refine w_p h_m234 2 (pc' := 12) (L' := [(0, .ref 143), (1, .int (121 : Int32))]) (st' := [.ref 143, .ref 143]) rfl ?_
  refine w_gf H (pc' := 15) (L' := [(0, .ref 143), (1, .int (121 : Int32))]) h_m234 (z_at.mk 3 rfl rfl) rfl (u := .int (20 : Int32)) rfl rfl rfl ?_
  refine w_p h_m234 2 (pc' := 17) (L' := [(0, .ref 143), (1, .int (121 : Int32))]) (st' := [.int (21 : Int32), .ref 143]) rfl ?_
  refine w_pf H (22, 35, [(29, .int (21 : Int32)), (10, .int (1 : Int32)), (34, .ref 167), (33, .ref 166), (31, .ref 165), (30, .ref 164), (28, .ref 163), (26, .ref 162), (25, .ref 161), (24, .ref 160), (19, .ref 159), (18, .ref 158), (17, .ref 157), (16, .ref 156), (13, .ref 155), (12, .ref 154), (11, .ref 153), (9, .ref 152), (8, .ref 151), (7, .ref 150), (5, .ref 149), (4, .ref 148), (3, .ref 147), (2, .ref 146), (1, .ref 145), (0, .ref 144), (6, .int (0 : Int32)), (14, .int (0 : Int32)), (15, .int (0 : Int32)), (20, .int (0 : Int32)), (21, .int (0 : Int32)), (22, .int (0 : Int32)), (23, .int (0 : Int32)), (27, .int (0 : Int32)), (32, .int (0 : Int32))], none) (pc' := 20) (L' := [(0, .ref 143), (1, .int (121 : Int32))]) h_m234 (z_at.mk 3 rfl rfl) rfl (by decide) rfl (Or.inl rfl) rfl rfl rfl ?_
  clear H m; intro m H
  refine w_rv h_m234 (z_at.mk 1 rfl rfl) rfl ?_
  show z_W 998 235 19 [(0, .ref 143), (1, .ref 18), (2, .int (2 : Int32))] [] m _
  refine w_p h_m235 4 (pc' := 4) (L' := [(0, .ref 143), (1, .ref 18), (2, .int (3 : Int32))]) (st' := [.ref 18, .int (3 : Int32)]) rfl ?_
  refine w_cv (H.te (by decide) rfl).1 (pc' := 7) (L' := [(0, .ref 143), (1, .ref 18), (2, .int (3 : Int32))]) (rest := [.int (3 : Int32)]) (Ps := []) (L0 := [(0, .ref 18)]) h_m235 (z_at.mk 3 rfl rfl) (Or.inl ⟨rfl, rfl⟩) rfl rfl (by decide) (by decide) rfl rfl rfl rfl rfl rfl (by decide) rfl rfl rfl ?_
  refine w_p h_m293 1 (pc' := 1) (L' := [(0, .ref 18)]) (st' := [.ref 18]) rfl ?_
  refine w_gs H (pc' := 4) (L' := [(0, .ref 18)]) h_m293 (z_at.mk 3 rfl rfl) rfl (by decide) rfl rfl rfl rfl ?_
  refine w_lene H (x := (4 : Int32)) (pc' := 5) (L' := [(0, .ref 18)]) h_m293 (z_at.mk 1 rfl rfl) (by decide) rfl (by decide) rfl rfl rfl ?_
  refine w_p h_m293 1 (pc' := 6) (L' := [(0, .ref 18)]) (st' := [.ref 18, .int (4 : Int32)]) rfl ?_
  refine w_cv (H.te (by decide) rfl).1 (pc' := 9) (L' := [(0, .ref 18)]) (rest := [.int (4 : Int32)]) (Ps := []) (L0 := [(0, .ref 18)]) h_m293 (z_at.mk 3 rfl rfl) (Or.inl ⟨rfl, rfl⟩) rfl rfl (by decide) (by decide) rfl rfl rfl rfl rfl rfl (by decide) rfl rfl rfl ?_
  refine w_p h_m298 3 (pc' := 7) (L' := [(0, .ref 18)]) (st' := [.ref 18]) rfl ?_
  refine w_gs H (pc' := 10) (L' := [(0, .ref 18)]) h_m298 (z_at.mk 3 rfl rfl) rfl (by decide) rfl rfl rfl rfl ?_
  refine w_p h_m298 1 (pc' := 14) (L' := []) (st' := [.int (0 : Int32)]) rfl ?_
  refine w_ri h_m298 (z_at.mk 1 rfl rfl) rfl rfl ?_
  show z_W 997 293 9 [(0, .ref 18)] [.int (0 : Int32), .int (4 : Int32)] m _
  refine w_p h_m293 1 (pc' := 10) (L' := [(0, .ref 18)]) (st' := [.int (4 : Int32)]) rfl ?_
  refine w_ri h_m293 (z_at.mk 1 rfl rfl) rfl rfl ?_
  show z_W 998 235 7 [(0, .ref 143), (1, .ref 18), (2, .int (3 : Int32))] [.int (4 : Int32), .int (3 : Int32)] m _
  refine w_p h_m235 4 (pc' := 13) (L' := [(0, .ref 143), (1, .ref 18), (2, .int (3 : Int32))]) (st' := [.int (3 : Int32), .ref 18, .ref 143]) rfl ?_
  refine w_cv (H.te (by decide) rfl).1 (pc' := 16) (L' := [(0, .ref 143), (1, .ref 18), (2, .int (3 : Int32))]) (rest := [.ref 143]) (Ps := [.int (3 : Int32)]) (L0 := [(0, .ref 18), (1, .int (3 : Int32))]) h_m235 (z_at.mk 3 rfl rfl) (Or.inl ⟨rfl, rfl⟩) rfl rfl (by decide) (by decide) rfl rfl rfl rfl rfl rfl (by decide) rfl rfl rfl ?_
  refine w_p h_m294 1 (pc' := 1) (L' := [(0, .ref 18), (1, .int (3 : Int32))]) (st' := [.ref 18]) rfl ?_
  refine w_cv (H.te (by decide) rfl).1 (pc' := 4) (L' := [(0, .ref 18), (1, .int (3 : Int32))]) (rest := []) (Ps := []) (L0 := [(0, .ref 18)]) h_m294 (z_at.mk 3 rfl rfl) (Or.inl ⟨rfl, rfl⟩) rfl rfl (by decide) (by decide) rfl rfl rfl rfl rfl rfl (by decide) rfl rfl rfl ?_
  refine w_p h_m299 3 (pc' := 7) (L' := [(0, .ref 18)]) (st' := [.ref 18]) rfl ?_
  refine w_gs H (pc' := 10) (L' := [(0, .ref 18)]) h_m299 (z_at.mk 3 rfl rfl) rfl (by decide) rfl rfl rfl rfl ?_
  refine w_p h_m299 3 (pc' := 18) (L' := []) (st' := [.int (1 : Int32)]) rfl ?_
  refine w_ri h_m299 (z_at.mk 1 rfl rfl) rfl rfl ?_
  show z_W 997 294 4 [(0, .ref 18), (1, .int (3 : Int32))] [.int (1 : Int32)] m _
  refine w_p h_m294 2 (pc' := 8) (L' := [(0, .ref 18), (1, .int (3 : Int32))]) (st' := [.ref 18]) rfl ?_
  refine w_gs H (pc' := 11) (L' := [(0, .ref 18), (1, .int (3 : Int32))]) h_m294 (z_at.mk 3 rfl rfl) rfl (by decide) rfl rfl rfl rfl ?_
  refine w_p h_m294 1 (pc' := 12) (L' := [(0, .ref 18), (1, .int (3 : Int32))]) (st' := [.int (3 : Int32), .ref 36]) rfl ?_
  refine w_cs (As := [.ref 36, .int (3 : Int32)]) (rest := []) (j := 308) (L0 := [(0, .ref 36), (1, .int (3 : Int32))]) (pc' := 15) (L' := [(0, .ref 18), (1, .int (3 : Int32))]) h_m294 (z_at.mk 3 rfl rfl) (Or.inl ⟨rfl, rfl⟩) rfl rfl rfl rfl rfl ?_
  refine w_p h_m308 2 (pc' := 2) (L' := [(0, .ref 36), (1, .int (3 : Int32))]) (st' := [.ref 36, .int (3 : Int32)]) rfl ?_
  refine w_lene H (x := (4 : Int32)) (pc' := 3) (L' := [(0, .ref 36), (1, .int (3 : Int32))]) h_m308 (z_at.mk 1 rfl rfl) (by decide) rfl (by decide) rfl rfl rfl ?_
  refine w_ci (pc' := 6) (L' := [(0, .ref 36), (1, .int (3 : Int32))]) h_m308 (z_at.mk 3 rfl rfl) rfl (z_cat_le 0 rfl (by decide)) ⟨by decide, by decide⟩ rfl rfl ?_
  refine w_p h_m308 2 (pc' := 8) (L' := [(0, .ref 36), (1, .int (3 : Int32))]) (st' := [.int (3 : Int32), .ref 36]) rfl ?_
  refine w_ae H (j := 3) (pc' := 9) (L' := [(0, .ref 36), (1, .int (3 : Int32))]) h_m308 (z_at.mk 1 rfl rfl) rfl rfl rfl (by decide) rfl (by decide) rfl rfl rfl ?_
  refine w_p h_m308 3 (pc' := 14) (L' := [(0, .ref 36), (1, .int (3 : Int32))]) (st' := [.int (32 : Int32)]) rfl ?_
  refine w_ri h_m308 (z_at.mk 1 rfl rfl) rfl rfl ?_
  show z_W 997 294 15 [(0, .ref 18), (1, .int (3 : Int32))] [.int (32 : Int32)] m _
  refine w_ri h_m294 (z_at.mk 1 rfl rfl) rfl rfl ?_
  show z_W 998 235 16 [(0, .ref 143), (1, .ref 18), (2, .int (3 : Int32))] [.int (32 : Int32), .ref 143] m _
  refine w_cv (H.t rfl) (pc' := 19) (L' := [(0, .ref 143), (1, .ref 18), (2, .int (3 : Int32))]) (rest := []) (Ps := [.int (32 : Int32)]) (L0 := [(0, .ref 143), (1, .int (32 : Int32))]) h_m235 (z_at.mk 3 rfl rfl) (Or.inl ⟨rfl, rfl⟩) rfl rfl (by decide) (by decide) rfl rfl rfl rfl rfl rfl (by decide) rfl rfl rfl ?_
  refine w_p h_m234 1 (pc' := 1) (L' := [(0, .ref 143), (1, .int (32 : Int32))]) (st' := [.ref 143]) rfl ?_
  refine w_gf H (pc' := 4) (L' := [(0, .ref 143), (1, .int (32 : Int32))]) h_m234 (z_at.mk 3 rfl rfl) rfl (u := .ref 163) rfl rfl rfl ?_
  refine w_p h_m234 1 (pc' := 5) (L' := [(0, .ref 143), (1, .int (32 : Int32))]) (st' := [.ref 143, .ref 163]) rfl ?_
  refine w_gf H (pc' := 8) (L' := [(0, .ref 143), (1, .int (32 : Int32))]) h_m234 (z_at.mk 3 rfl rfl) rfl (u := .int (21 : Int32)) rfl rfl rfl ?_
  refine w_p h_m234 1 (pc' := 9) (L' := [(0, .ref 143), (1, .int (32 : Int32))]) (st' := [.int (32 : Int32), .int (21 : Int32), .ref 163]) rfl ?_
  refine w_as H (t := 0) (j := 21) (u := .int (32 : Int32)) (0, 40000, [(21, .int (32 : Int32)), (20, .int (121 : Int32)), (19, .int (97 : Int32)), (18, .int (112 : Int32)), (17, .int (59 : Int32)), (16, .int (48 : Int32)), (15, .int (49 : Int32)), (14, .int (32 : Int32)), (13, .int ((48 : Int32) + ((xs 4) - (xs 4) / (10 : Int32) * (10 : Int32)))), (12, .int ((48 : Int32) + (((xs 4) / (10 : Int32)) - ((xs 4) / (10 : Int32)) / (10 : Int32) * (10 : Int32)))), (11, .int (45 : Int32)), (10, .int ((48 : Int32) + ((xs 3) - (xs 3) / (10 : Int32) * (10 : Int32)))), (9, .int (44 : Int32)), (8, .int ((48 : Int32) + ((xs 2) - (xs 2) / (10 : Int32) * (10 : Int32)))), (7, .int ((48 : Int32) + (((xs 2) / (10 : Int32)) - ((xs 2) / (10 : Int32)) / (10 : Int32) * (10 : Int32)))), (6, .int (45 : Int32)), (5, .int ((48 : Int32) + ((xs 1) - (xs 1) / (10 : Int32) * (10 : Int32)))), (4, .int ((48 : Int32) + (((xs 1) / (10 : Int32)) - ((xs 1) / (10 : Int32)) / (10 : Int32) * (10 : Int32)))), (3, .int (32 : Int32)), (2, .int (107 : Int32)), (1, .int (115 : Int32)), (0, .int (97 : Int32))], some (.int (0 : Int32))) (pc' := 10) (L' := [(0, .ref 143), (1, .int (32 : Int32))]) h_m234 (z_at.mk 1 rfl rfl) rfl rfl (w_ui _ _ (by decide)) rfl rfl rfl rfl ?_
  clear H m; intro m H
  refine w_p h_m234 2 (pc' := 12) (L' := [(0, .ref 143), (1, .int (32 : Int32))]) (st' := [.ref 143, .ref 143]) rfl ?_
  refine w_gf H (pc' := 15) (L' := [(0, .ref 143), (1, .int (32 : Int32))]) h_m234 (z_at.mk 3 rfl rfl) rfl (u := .int (21 : Int32)) rfl rfl rfl ?_
  refine w_p h_m234 2 (pc' := 17) (L' := [(0, .ref 143), (1, .int (32 : Int32))]) (st' := [.int (22 : Int32), .ref 143]) rfl ?_
  refine w_pf H (22, 35, [(29, .int (22 : Int32)), (10, .int (1 : Int32)), (34, .ref 167), (33, .ref 166), (31, .ref 165), (30, .ref 164), (28, .ref 163), (26, .ref 162), (25, .ref 161), (24, .ref 160), (19, .ref 159), (18, .ref 158), (17, .ref 157), (16, .ref 156), (13, .ref 155), (12, .ref 154), (11, .ref 153), (9, .ref 152), (8, .ref 151), (7, .ref 150), (5, .ref 149), (4, .ref 148), (3, .ref 147), (2, .ref 146), (1, .ref 145), (0, .ref 144), (6, .int (0 : Int32)), (14, .int (0 : Int32)), (15, .int (0 : Int32)), (20, .int (0 : Int32)), (21, .int (0 : Int32)), (22, .int (0 : Int32)), (23, .int (0 : Int32)), (27, .int (0 : Int32)), (32, .int (0 : Int32))], none) (pc' := 20) (L' := [(0, .ref 143), (1, .int (32 : Int32))]) h_m234 (z_at.mk 3 rfl rfl) rfl (by decide) rfl (Or.inl rfl) rfl rfl rfl ?_
  clear H m; intro m H
  refine w_rv h_m234 (z_at.mk 1 rfl rfl) rfl ?_
  show z_W 998 235 19 [(0, .ref 143), (1, .ref 18), (2, .int (3 : Int32))] [] m _
  refine w_p h_m235 4 (pc' := 4) (L' := [(0, .ref 143), (1, .ref 18), (2, .int (4 : Int32))]) (st' := [.ref 18, .int (4 : Int32)]) rfl ?_
  refine w_cv (H.te (by decide) rfl).1 (pc' := 7) (L' := [(0, .ref 143), (1, .ref 18), (2, .int (4 : Int32))]) (rest := [.int (4 : Int32)]) (Ps := []) (L0 := [(0, .ref 18)]) h_m235 (z_at.mk 3 rfl rfl) (Or.inl ⟨rfl, rfl⟩) rfl rfl (by decide) (by decide) rfl rfl rfl rfl rfl rfl (by decide) rfl rfl rfl ?_
  refine w_p h_m293 1 (pc' := 1) (L' := [(0, .ref 18)]) (st' := [.ref 18]) rfl ?_
  refine w_gs H (pc' := 4) (L' := [(0, .ref 18)]) h_m293 (z_at.mk 3 rfl rfl) rfl (by decide) rfl rfl rfl rfl ?_
  refine w_lene H (x := (4 : Int32)) (pc' := 5) (L' := [(0, .ref 18)]) h_m293 (z_at.mk 1 rfl rfl) (by decide) rfl (by decide) rfl rfl rfl ?_
  refine w_p h_m293 1 (pc' := 6) (L' := [(0, .ref 18)]) (st' := [.ref 18, .int (4 : Int32)]) rfl ?_
  refine w_cv (H.te (by decide) rfl).1 (pc' := 9) (L' := [(0, .ref 18)]) (rest := [.int (4 : Int32)]) (Ps := []) (L0 := [(0, .ref 18)]) h_m293 (z_at.mk 3 rfl rfl) (Or.inl ⟨rfl, rfl⟩) rfl rfl (by decide) (by decide) rfl rfl rfl rfl rfl rfl (by decide) rfl rfl rfl ?_
  refine w_p h_m298 3 (pc' := 7) (L' := [(0, .ref 18)]) (st' := [.ref 18]) rfl ?_
  refine w_gs H (pc' := 10) (L' := [(0, .ref 18)]) h_m298 (z_at.mk 3 rfl rfl) rfl (by decide) rfl rfl rfl rfl ?_
  refine w_p h_m298 1 (pc' := 14) (L' := []) (st' := [.int (0 : Int32)]) rfl ?_
  refine w_ri h_m298 (z_at.mk 1 rfl rfl) rfl rfl ?_
  show z_W 997 293 9 [(0, .ref 18)] [.int (0 : Int32), .int (4 : Int32)] m _
  refine w_p h_m293 1 (pc' := 10) (L' := [(0, .ref 18)]) (st' := [.int (4 : Int32)]) rfl ?_
  refine w_ri h_m293 (z_at.mk 1 rfl rfl) rfl rfl ?_
  show z_W 998 235 7 [(0, .ref 143), (1, .ref 18), (2, .int (4 : Int32))] [.int (4 : Int32), .int (4 : Int32)] m _
  refine w_p h_m235 1 (pc' := 25) (L' := [(0, .ref 143), (1, .ref 18), (2, .int (4 : Int32))]) (st' := []) rfl ?_
  refine w_rv h_m235 (z_at.mk 1 rfl rfl) rfl ?_
  show z_W 999 239 238 [(0, .ref 143), (5, .int (10 : Int32)), (6, .int (1 : Int32))] [] m _
  refine w_p h_m239 2 (pc' := 241) (L' := [(0, .ref 143), (5, .int (10 : Int32)), (6, .int (1 : Int32))]) (st' := [.int (10 : Int32), .ref 143]) rfl ?_
  refine w_cv (H.t rfl) (pc' := 244) (L' := [(0, .ref 143), (5, .int (10 : Int32)), (6, .int (1 : Int32))]) (rest := []) (Ps := [.int (10 : Int32)]) (L0 := [(0, .ref 143), (1, .int (10 : Int32))]) h_m239 (z_at.mk 3 rfl rfl) (Or.inl ⟨rfl, rfl⟩) rfl rfl (by decide) (by decide) rfl rfl rfl rfl rfl rfl (by decide) rfl rfl rfl ?_
  refine w_p h_m236 7 (pc' := 11) (L' := [(0, .ref 143), (1, .int (10 : Int32))]) (st' := [.int (1 : Int32), .ref 143]) rfl ?_
  refine w_cv (H.t rfl) (pc' := 14) (L' := [(0, .ref 143), (1, .int (10 : Int32))]) (rest := []) (Ps := [.int (1 : Int32)]) (L0 := [(0, .ref 143), (1, .int (1 : Int32))]) h_m236 (z_at.mk 3 rfl rfl) (Or.inl ⟨rfl, rfl⟩) rfl rfl (by decide) (by decide) rfl rfl rfl rfl rfl rfl (by decide) rfl rfl rfl ?_
  refine w_p h_m236 9 (pc' := 22) (L' := [(0, .ref 143), (1, .int (1 : Int32))]) (st' := [.int (49 : Int32), .ref 143]) rfl ?_
  refine w_cv (H.t rfl) (pc' := 25) (L' := [(0, .ref 143), (1, .int (1 : Int32))]) (rest := []) (Ps := [.int (49 : Int32)]) (L0 := [(0, .ref 143), (1, .int (49 : Int32))]) h_m236 (z_at.mk 3 rfl rfl) (Or.inl ⟨rfl, rfl⟩) rfl rfl (by decide) (by decide) rfl rfl rfl rfl rfl rfl (by decide) rfl rfl rfl ?_
  refine w_p h_m234 1 (pc' := 1) (L' := [(0, .ref 143), (1, .int (49 : Int32))]) (st' := [.ref 143]) rfl ?_
  refine w_gf H (pc' := 4) (L' := [(0, .ref 143), (1, .int (49 : Int32))]) h_m234 (z_at.mk 3 rfl rfl) rfl (u := .ref 163) rfl rfl rfl ?_
  refine w_p h_m234 1 (pc' := 5) (L' := [(0, .ref 143), (1, .int (49 : Int32))]) (st' := [.ref 143, .ref 163]) rfl ?_
  refine w_gf H (pc' := 8) (L' := [(0, .ref 143), (1, .int (49 : Int32))]) h_m234 (z_at.mk 3 rfl rfl) rfl (u := .int (22 : Int32)) rfl rfl rfl ?_
  refine w_p h_m234 1 (pc' := 9) (L' := [(0, .ref 143), (1, .int (49 : Int32))]) (st' := [.int (49 : Int32), .int (22 : Int32), .ref 163]) rfl ?_
  refine w_as H (t := 0) (j := 22) (u := .int (49 : Int32)) (0, 40000, [(22, .int (49 : Int32)), (21, .int (32 : Int32)), (20, .int (121 : Int32)), (19, .int (97 : Int32)), (18, .int (112 : Int32)), (17, .int (59 : Int32)), (16, .int (48 : Int32)), (15, .int (49 : Int32)), (14, .int (32 : Int32)), (13, .int ((48 : Int32) + ((xs 4) - (xs 4) / (10 : Int32) * (10 : Int32)))), (12, .int ((48 : Int32) + (((xs 4) / (10 : Int32)) - ((xs 4) / (10 : Int32)) / (10 : Int32) * (10 : Int32)))), (11, .int (45 : Int32)), (10, .int ((48 : Int32) + ((xs 3) - (xs 3) / (10 : Int32) * (10 : Int32)))), (9, .int (44 : Int32)), (8, .int ((48 : Int32) + ((xs 2) - (xs 2) / (10 : Int32) * (10 : Int32)))), (7, .int ((48 : Int32) + (((xs 2) / (10 : Int32)) - ((xs 2) / (10 : Int32)) / (10 : Int32) * (10 : Int32)))), (6, .int (45 : Int32)), (5, .int ((48 : Int32) + ((xs 1) - (xs 1) / (10 : Int32) * (10 : Int32)))), (4, .int ((48 : Int32) + (((xs 1) / (10 : Int32)) - ((xs 1) / (10 : Int32)) / (10 : Int32) * (10 : Int32)))), (3, .int (32 : Int32)), (2, .int (107 : Int32)), (1, .int (115 : Int32)), (0, .int (97 : Int32))], some (.int (0 : Int32))) (pc' := 10) (L' := [(0, .ref 143), (1, .int (49 : Int32))]) h_m234 (z_at.mk 1 rfl rfl) rfl rfl (w_ui _ _ (by decide)) rfl rfl rfl rfl ?_
  clear H m; intro m H
  refine w_p h_m234 2 (pc' := 12) (L' := [(0, .ref 143), (1, .int (49 : Int32))]) (st' := [.ref 143, .ref 143]) rfl ?_
  refine w_gf H (pc' := 15) (L' := [(0, .ref 143), (1, .int (49 : Int32))]) h_m234 (z_at.mk 3 rfl rfl) rfl (u := .int (22 : Int32)) rfl rfl rfl ?_
  refine w_p h_m234 2 (pc' := 17) (L' := [(0, .ref 143), (1, .int (49 : Int32))]) (st' := [.int (23 : Int32), .ref 143]) rfl ?_
  refine w_pf H (22, 35, [(29, .int (23 : Int32)), (10, .int (1 : Int32)), (34, .ref 167), (33, .ref 166), (31, .ref 165), (30, .ref 164), (28, .ref 163), (26, .ref 162), (25, .ref 161), (24, .ref 160), (19, .ref 159), (18, .ref 158), (17, .ref 157), (16, .ref 156), (13, .ref 155), (12, .ref 154), (11, .ref 153), (9, .ref 152), (8, .ref 151), (7, .ref 150), (5, .ref 149), (4, .ref 148), (3, .ref 147), (2, .ref 146), (1, .ref 145), (0, .ref 144), (6, .int (0 : Int32)), (14, .int (0 : Int32)), (15, .int (0 : Int32)), (20, .int (0 : Int32)), (21, .int (0 : Int32)), (22, .int (0 : Int32)), (23, .int (0 : Int32)), (27, .int (0 : Int32)), (32, .int (0 : Int32))], none) (pc' := 20) (L' := [(0, .ref 143), (1, .int (49 : Int32))]) h_m234 (z_at.mk 3 rfl rfl) rfl (by decide) rfl (Or.inl rfl) rfl rfl rfl ?_
  clear H m; intro m H
  refine w_rv h_m234 (z_at.mk 1 rfl rfl) rfl ?_
  show z_W 997 236 25 [(0, .ref 143), (1, .int (1 : Int32))] [] m _
  refine w_rv h_m236 (z_at.mk 1 rfl rfl) rfl ?_
  show z_W 998 236 14 [(0, .ref 143), (1, .int (10 : Int32))] [] m _
  refine w_p h_m236 6 (pc' := 22) (L' := [(0, .ref 143), (1, .int (10 : Int32))]) (st' := [.int (48 : Int32), .ref 143]) rfl ?_
  refine w_cv (H.t rfl) (pc' := 25) (L' := [(0, .ref 143), (1, .int (10 : Int32))]) (rest := []) (Ps := [.int (48 : Int32)]) (L0 := [(0, .ref 143), (1, .int (48 : Int32))]) h_m236 (z_at.mk 3 rfl rfl) (Or.inl ⟨rfl, rfl⟩) rfl rfl (by decide) (by decide) rfl rfl rfl rfl rfl rfl (by decide) rfl rfl rfl ?_
  refine w_p h_m234 1 (pc' := 1) (L' := [(0, .ref 143), (1, .int (48 : Int32))]) (st' := [.ref 143]) rfl ?_
  refine w_gf H (pc' := 4) (L' := [(0, .ref 143), (1, .int (48 : Int32))]) h_m234 (z_at.mk 3 rfl rfl) rfl (u := .ref 163) rfl rfl rfl ?_
  refine w_p h_m234 1 (pc' := 5) (L' := [(0, .ref 143), (1, .int (48 : Int32))]) (st' := [.ref 143, .ref 163]) rfl ?_
  refine w_gf H (pc' := 8) (L' := [(0, .ref 143), (1, .int (48 : Int32))]) h_m234 (z_at.mk 3 rfl rfl) rfl (u := .int (23 : Int32)) rfl rfl rfl ?_
  refine w_p h_m234 1 (pc' := 9) (L' := [(0, .ref 143), (1, .int (48 : Int32))]) (st' := [.int (48 : Int32), .int (23 : Int32), .ref 163]) rfl ?_
  refine w_as H (t := 0) (j := 23) (u := .int (48 : Int32)) (0, 40000, [(23, .int (48 : Int32)), (22, .int (49 : Int32)), (21, .int (32 : Int32)), (20, .int (121 : Int32)), (19, .int (97 : Int32)), (18, .int (112 : Int32)), (17, .int (59 : Int32)), (16, .int (48 : Int32)), (15, .int (49 : Int32)), (14, .int (32 : Int32)), (13, .int ((48 : Int32) + ((xs 4) - (xs 4) / (10 : Int32) * (10 : Int32)))), (12, .int ((48 : Int32) + (((xs 4) / (10 : Int32)) - ((xs 4) / (10 : Int32)) / (10 : Int32) * (10 : Int32)))), (11, .int (45 : Int32)), (10, .int ((48 : Int32) + ((xs 3) - (xs 3) / (10 : Int32) * (10 : Int32)))), (9, .int (44 : Int32)), (8, .int ((48 : Int32) + ((xs 2) - (xs 2) / (10 : Int32) * (10 : Int32)))), (7, .int ((48 : Int32) + (((xs 2) / (10 : Int32)) - ((xs 2) / (10 : Int32)) / (10 : Int32) * (10 : Int32)))), (6, .int (45 : Int32)), (5, .int ((48 : Int32) + ((xs 1) - (xs 1) / (10 : Int32) * (10 : Int32)))), (4, .int ((48 : Int32) + (((xs 1) / (10 : Int32)) - ((xs 1) / (10 : Int32)) / (10 : Int32) * (10 : Int32)))), (3, .int (32 : Int32)), (2, .int (107 : Int32)), (1, .int (115 : Int32)), (0, .int (97 : Int32))], some (.int (0 : Int32))) (pc' := 10) (L' := [(0, .ref 143), (1, .int (48 : Int32))]) h_m234 (z_at.mk 1 rfl rfl) rfl rfl (w_ui _ _ (by decide)) rfl rfl rfl rfl ?_
  clear H m; intro m H
  refine w_p h_m234 2 (pc' := 12) (L' := [(0, .ref 143), (1, .int (48 : Int32))]) (st' := [.ref 143, .ref 143]) rfl ?_
  refine w_gf H (pc' := 15) (L' := [(0, .ref 143), (1, .int (48 : Int32))]) h_m234 (z_at.mk 3 rfl rfl) rfl (u := .int (23 : Int32)) rfl rfl rfl ?_
  refine w_p h_m234 2 (pc' := 17) (L' := [(0, .ref 143), (1, .int (48 : Int32))]) (st' := [.int (24 : Int32), .ref 143]) rfl ?_
  refine w_pf H (22, 35, [(29, .int (24 : Int32)), (10, .int (1 : Int32)), (34, .ref 167), (33, .ref 166), (31, .ref 165), (30, .ref 164), (28, .ref 163), (26, .ref 162), (25, .ref 161), (24, .ref 160), (19, .ref 159), (18, .ref 158), (17, .ref 157), (16, .ref 156), (13, .ref 155), (12, .ref 154), (11, .ref 153), (9, .ref 152), (8, .ref 151), (7, .ref 150), (5, .ref 149), (4, .ref 148), (3, .ref 147), (2, .ref 146), (1, .ref 145), (0, .ref 144), (6, .int (0 : Int32)), (14, .int (0 : Int32)), (15, .int (0 : Int32)), (20, .int (0 : Int32)), (21, .int (0 : Int32)), (22, .int (0 : Int32)), (23, .int (0 : Int32)), (27, .int (0 : Int32)), (32, .int (0 : Int32))], none) (pc' := 20) (L' := [(0, .ref 143), (1, .int (48 : Int32))]) h_m234 (z_at.mk 3 rfl rfl) rfl (by decide) rfl (Or.inl rfl) rfl rfl rfl ?_
  clear H m; intro m H
  refine w_rv h_m234 (z_at.mk 1 rfl rfl) rfl ?_
  show z_W 998 236 25 [(0, .ref 143), (1, .int (10 : Int32))] [] m _
  refine w_rv h_m236 (z_at.mk 1 rfl rfl) rfl ?_
  show z_W 999 239 244 [(0, .ref 143), (5, .int (10 : Int32)), (6, .int (1 : Int32))] [] m _
  refine w_p h_m239 1 (pc' := 245) (L' := [(0, .ref 143), (5, .int (10 : Int32)), (6, .int (1 : Int32))]) (st' := [.ref 143]) rfl ?_
  refine w_gf H (pc' := 248) (L' := [(0, .ref 143), (5, .int (10 : Int32)), (6, .int (1 : Int32))]) h_m239 (z_at.mk 3 rfl rfl) rfl (u := .int (24 : Int32)) rfl rfl rfl ?_
  refine w_ri h_m239 (z_at.mk 1 rfl rfl) rfl rfl ?_
  show z_W 1000 1000 542 [(0, .ref 0), (1, .ref 39), (2, .ref 143), (3, .int (0 : Int32))] [.int (24 : Int32), .int (24 : Int32)] m _
  refine w_p h_m1000 5 (pc' := 20) (L' := [(0, .ref 0), (1, .ref 39), (2, .ref 143), (3, .int (6 : Int32))]) (st' := [.ref 0, .int (6 : Int32)]) rfl ?_
  refine w_lene H (x := (6 : Int32)) (pc' := 21) (L' := [(0, .ref 0), (1, .ref 39), (2, .ref 143), (3, .int (6 : Int32))]) h_m1000 (z_at.mk 1 rfl rfl) (by decide) rfl (by decide) rfl rfl rfl ?_
  refine w_p h_m1000 4 (pc' := 1381) (L' := [(0, .ref 0), (1, .ref 39), (2, .ref 143), (3, .int (6 : Int32))]) (st' := [.int (1 : Int32)]) rfl ?_
  refine w_ri h_m1000 (z_at.mk 1 rfl rfl) rfl rfl ?_
  exact hQ _ _ _ _ H hN hS
set_option maxHeartbeats 400000000 in
set_option maxRecDepth 20000 in
theorem w_rest12_2 {xs : Nat → Int32} {m : zM} {Q : Option Value → zM → Prop} {N S : Nat} (H : w_ok 6 xs N S w_TM m) (hN : N ≤ 600039) (hS : S ≤ 7302250) (hQ : ∀ N S T m, w_ok 6 xs N S T m → N ≤ 600039 → S ≤ 7302250 → Q (some (.int 1)) m) (c_1 : ¬ ((xs 1).toInt < 0)) (c_2 : (xs 1).toInt < 32) (c_3 : ¬ ((xs 3).toInt < 0)) (c_4 : (xs 3).toInt < 32) (c_5 : ¬ ((xs 2).toInt < 0)) (c_6 : (xs 2).toInt < 32) (c_7 : ¬ ((xs 4).toInt < 0)) (c_8 : (xs 4).toInt < 32) (c_9 : (xs 1).toInt ≤ (xs 2).toInt) (c_10 : (xs 3).toInt ≤ (xs 4).toInt) (c_11 : (-1) * (xs 1).toInt ≤ (-10)) (c_16 : ¬ ((-1) * (xs 3).toInt ≤ (-10))) (c_18 : ¬ ((-1) * (xs 4).toInt ≤ (-10))) : z_W 1000 1000 518 [(0, .ref 0), (1, .ref 39), (2, .ref 143), (3, .int (0 : Int32))] [.int (23 : Int32)] m Q := by
  have b1 := zi_bd (xs 1)
  have b2 := zi_bd (xs 2)
  have b3 := zi_bd (xs 3)
  have b4 := zi_bd (xs 4)
  have b5 := zi_bd (xs 5)
  refine w_p h_m1000 5 (pc' := 523) (L' := [(0, .ref 0), (1, .ref 39), (2, .ref 143), (3, .int (0 : Int32))]) (st' := [.int (1 : Int32), .ref 0, .ref 143, .int (23 : Int32)]) rfl ?_
  refine w_ae H (j := 1) (pc' := 524) (L' := [(0, .ref 0), (1, .ref 39), (2, .ref 143), (3, .int (0 : Int32))]) h_m1000 (z_at.mk 1 rfl rfl) rfl rfl rfl (by decide) rfl (by decide) rfl rfl rfl ?_
  refine w_p h_m1000 4 (pc' := 528) (L' := [(0, .ref 0), (1, .ref 39), (2, .ref 143), (3, .int (0 : Int32))]) (st' := [.int (2 : Int32), .ref 0, .int (xs 1), .ref 143, .int (23 : Int32)]) rfl ?_
  refine w_ae H (j := 2) (pc' := 529) (L' := [(0, .ref 0), (1, .ref 39), (2, .ref 143), (3, .int (0 : Int32))]) h_m1000 (z_at.mk 1 rfl rfl) rfl rfl rfl (by decide) rfl (by decide) rfl rfl rfl ?_
  refine w_p h_m1000 4 (pc' := 533) (L' := [(0, .ref 0), (1, .ref 39), (2, .ref 143), (3, .int (0 : Int32))]) (st' := [.int (3 : Int32), .ref 0, .int (xs 2), .int (xs 1), .ref 143, .int (23 : Int32)]) rfl ?_
  refine w_ae H (j := 3) (pc' := 534) (L' := [(0, .ref 0), (1, .ref 39), (2, .ref 143), (3, .int (0 : Int32))]) h_m1000 (z_at.mk 1 rfl rfl) rfl rfl rfl (by decide) rfl (by decide) rfl rfl rfl ?_
  refine w_p h_m1000 4 (pc' := 538) (L' := [(0, .ref 0), (1, .ref 39), (2, .ref 143), (3, .int (0 : Int32))]) (st' := [.int (4 : Int32), .ref 0, .int (xs 3), .int (xs 2), .int (xs 1), .ref 143, .int (23 : Int32)]) rfl ?_
  refine w_ae H (j := 4) (pc' := 539) (L' := [(0, .ref 0), (1, .ref 39), (2, .ref 143), (3, .int (0 : Int32))]) h_m1000 (z_at.mk 1 rfl rfl) rfl rfl rfl (by decide) rfl (by decide) rfl rfl rfl ?_
  refine w_cv (H.t rfl) (pc' := 542) (L' := [(0, .ref 0), (1, .ref 39), (2, .ref 143), (3, .int (0 : Int32))]) (rest := [.int (23 : Int32)]) (Ps := [.int (xs 1), .int (xs 2), .int (xs 3), .int (xs 4)]) (L0 := [(0, .ref 143), (1, .int (xs 1)), (2, .int (xs 2)), (3, .int (xs 3)), (4, .int (xs 4))]) h_m1000 (z_at.mk 3 rfl rfl) (Or.inl ⟨rfl, rfl⟩) rfl rfl (by decide) (by decide) rfl rfl rfl rfl rfl rfl (by decide) rfl rfl rfl ?_
  refine w_p h_m239 4 (pc' := 5) (L' := [(0, .ref 143), (1, .int (xs 1)), (2, .int (xs 2)), (3, .int (xs 3)), (4, .int (xs 4))]) (st' := [.int (xs 4), .int (xs 3), .int (xs 2), .int (xs 1)]) rfl ?_
  refine w_cs (As := [.int (xs 1), .int (xs 2), .int (xs 3), .int (xs 4)]) (rest := []) (j := 164) (L0 := [(0, .int (xs 1)), (1, .int (xs 2)), (2, .int (xs 3)), (3, .int (xs 4))]) (pc' := 8) (L' := [(0, .ref 143), (1, .int (xs 1)), (2, .int (xs 2)), (3, .int (xs 3)), (4, .int (xs 4))]) h_m239 (z_at.mk 3 rfl rfl) (Or.inl ⟨rfl, rfl⟩) rfl rfl rfl rfl rfl ?_
  refine w_p h_m164 3 (pc' := 4) (L' := [(0, .int (xs 1)), (1, .int (xs 2)), (2, .int (xs 3)), (3, .int (xs 4))]) (st' := [.int (31 : Int32), .int (0 : Int32), .int (xs 1)]) rfl ?_
  refine w_cs (As := [.int (xs 1), .int (0 : Int32), .int (31 : Int32)]) (rest := []) (j := 159) (L0 := [(0, .int (xs 1)), (1, .int (0 : Int32)), (2, .int (31 : Int32))]) (pc' := 7) (L' := [(0, .int (xs 1)), (1, .int (xs 2)), (2, .int (xs 3)), (3, .int (xs 4))]) h_m164 (z_at.mk 3 rfl rfl) (Or.inl ⟨rfl, rfl⟩) rfl rfl rfl rfl rfl ?_
  refine w_p h_m159 2 (pc' := 2) (L' := [(0, .int (xs 1)), (1, .int (0 : Int32)), (2, .int (31 : Int32))]) (st' := [.int (0 : Int32), .int (xs 1)]) rfl ?_
  refine w_f2 (pc' := 5) (L' := [(0, .int (xs 1)), (1, .int (0 : Int32)), (2, .int (31 : Int32))]) h_m159 (z_at.mk 3 rfl rfl) rfl (zc (a := (xs 1).toInt) (b := 0) rfl rfl (decide_eq_false (by omega))) rfl rfl ?_
  refine w_p h_m159 2 (pc' := 7) (L' := [(0, .int (xs 1)), (1, .int (0 : Int32)), (2, .int (31 : Int32))]) (st' := [.int (31 : Int32), .int (xs 1)]) rfl ?_
  refine w_f2 (pc' := 10) (L' := [(0, .int (xs 1)), (1, .int (0 : Int32)), (2, .int (31 : Int32))]) h_m159 (z_at.mk 3 rfl rfl) rfl (zc (a := (xs 1).toInt) (b := 31) rfl rfl (decide_eq_false (by omega))) rfl rfl ?_
  refine w_p h_m159 2 (pc' := 15) (L' := []) (st' := [.int (1 : Int32)]) rfl ?_
  refine w_ri h_m159 (z_at.mk 1 rfl rfl) rfl rfl ?_
  show z_W 998 164 7 [(0, .int (xs 1)), (1, .int (xs 2)), (2, .int (xs 3)), (3, .int (xs 4))] [.int (1 : Int32)] m _
  refine w_p h_m164 4 (pc' := 14) (L' := [(0, .int (xs 1)), (1, .int (xs 2)), (2, .int (xs 3)), (3, .int (xs 4))]) (st' := [.int (31 : Int32), .int (xs 1), .int (xs 2)]) rfl ?_
  refine w_cs (As := [.int (xs 2), .int (xs 1), .int (31 : Int32)]) (rest := []) (j := 159) (L0 := [(0, .int (xs 2)), (1, .int (xs 1)), (2, .int (31 : Int32))]) (pc' := 17) (L' := [(0, .int (xs 1)), (1, .int (xs 2)), (2, .int (xs 3)), (3, .int (xs 4))]) h_m164 (z_at.mk 3 rfl rfl) (Or.inl ⟨rfl, rfl⟩) rfl rfl rfl rfl rfl ?_
  refine w_p h_m159 2 (pc' := 2) (L' := [(0, .int (xs 2)), (1, .int (xs 1)), (2, .int (31 : Int32))]) (st' := [.int (xs 1), .int (xs 2)]) rfl ?_
  refine w_f2 (pc' := 5) (L' := [(0, .int (xs 2)), (1, .int (xs 1)), (2, .int (31 : Int32))]) h_m159 (z_at.mk 3 rfl rfl) rfl (zc (a := (xs 2).toInt) (b := (xs 1).toInt) rfl rfl (decide_eq_false (by omega))) rfl rfl ?_
  refine w_p h_m159 2 (pc' := 7) (L' := [(0, .int (xs 2)), (1, .int (xs 1)), (2, .int (31 : Int32))]) (st' := [.int (31 : Int32), .int (xs 2)]) rfl ?_
  refine w_f2 (pc' := 10) (L' := [(0, .int (xs 2)), (1, .int (xs 1)), (2, .int (31 : Int32))]) h_m159 (z_at.mk 3 rfl rfl) rfl (zc (a := (xs 2).toInt) (b := 31) rfl rfl (decide_eq_false (by omega))) rfl rfl ?_
  refine w_p h_m159 2 (pc' := 15) (L' := []) (st' := [.int (1 : Int32)]) rfl ?_
  refine w_ri h_m159 (z_at.mk 1 rfl rfl) rfl rfl ?_
  show z_W 998 164 17 [(0, .int (xs 1)), (1, .int (xs 2)), (2, .int (xs 3)), (3, .int (xs 4))] [.int (1 : Int32)] m _
  refine w_p h_m164 4 (pc' := 24) (L' := [(0, .int (xs 1)), (1, .int (xs 2)), (2, .int (xs 3)), (3, .int (xs 4))]) (st' := [.int (31 : Int32), .int (0 : Int32), .int (xs 3)]) rfl ?_
  refine w_cs (As := [.int (xs 3), .int (0 : Int32), .int (31 : Int32)]) (rest := []) (j := 159) (L0 := [(0, .int (xs 3)), (1, .int (0 : Int32)), (2, .int (31 : Int32))]) (pc' := 27) (L' := [(0, .int (xs 1)), (1, .int (xs 2)), (2, .int (xs 3)), (3, .int (xs 4))]) h_m164 (z_at.mk 3 rfl rfl) (Or.inl ⟨rfl, rfl⟩) rfl rfl rfl rfl rfl ?_
  refine w_p h_m159 2 (pc' := 2) (L' := [(0, .int (xs 3)), (1, .int (0 : Int32)), (2, .int (31 : Int32))]) (st' := [.int (0 : Int32), .int (xs 3)]) rfl ?_
  refine w_f2 (pc' := 5) (L' := [(0, .int (xs 3)), (1, .int (0 : Int32)), (2, .int (31 : Int32))]) h_m159 (z_at.mk 3 rfl rfl) rfl (zc (a := (xs 3).toInt) (b := 0) rfl rfl (decide_eq_false (by omega))) rfl rfl ?_
  refine w_p h_m159 2 (pc' := 7) (L' := [(0, .int (xs 3)), (1, .int (0 : Int32)), (2, .int (31 : Int32))]) (st' := [.int (31 : Int32), .int (xs 3)]) rfl ?_
  refine w_f2 (pc' := 10) (L' := [(0, .int (xs 3)), (1, .int (0 : Int32)), (2, .int (31 : Int32))]) h_m159 (z_at.mk 3 rfl rfl) rfl (zc (a := (xs 3).toInt) (b := 31) rfl rfl (decide_eq_false (by omega))) rfl rfl ?_
  refine w_p h_m159 2 (pc' := 15) (L' := []) (st' := [.int (1 : Int32)]) rfl ?_
  refine w_ri h_m159 (z_at.mk 1 rfl rfl) rfl rfl ?_
  show z_W 998 164 27 [(0, .int (xs 1)), (1, .int (xs 2)), (2, .int (xs 3)), (3, .int (xs 4))] [.int (1 : Int32)] m _
  refine w_p h_m164 4 (pc' := 34) (L' := [(0, .int (xs 1)), (1, .int (xs 2)), (2, .int (xs 3)), (3, .int (xs 4))]) (st' := [.int (31 : Int32), .int (xs 3), .int (xs 4)]) rfl ?_
  refine w_cs (As := [.int (xs 4), .int (xs 3), .int (31 : Int32)]) (rest := []) (j := 159) (L0 := [(0, .int (xs 4)), (1, .int (xs 3)), (2, .int (31 : Int32))]) (pc' := 37) (L' := [(0, .int (xs 1)), (1, .int (xs 2)), (2, .int (xs 3)), (3, .int (xs 4))]) h_m164 (z_at.mk 3 rfl rfl) (Or.inl ⟨rfl, rfl⟩) rfl rfl rfl rfl rfl ?_
  refine w_p h_m159 2 (pc' := 2) (L' := [(0, .int (xs 4)), (1, .int (xs 3)), (2, .int (31 : Int32))]) (st' := [.int (xs 3), .int (xs 4)]) rfl ?_
  refine w_f2 (pc' := 5) (L' := [(0, .int (xs 4)), (1, .int (xs 3)), (2, .int (31 : Int32))]) h_m159 (z_at.mk 3 rfl rfl) rfl (zc (a := (xs 4).toInt) (b := (xs 3).toInt) rfl rfl (decide_eq_false (by omega))) rfl rfl ?_
  refine w_p h_m159 2 (pc' := 7) (L' := [(0, .int (xs 4)), (1, .int (xs 3)), (2, .int (31 : Int32))]) (st' := [.int (31 : Int32), .int (xs 4)]) rfl ?_
  refine w_f2 (pc' := 10) (L' := [(0, .int (xs 4)), (1, .int (xs 3)), (2, .int (31 : Int32))]) h_m159 (z_at.mk 3 rfl rfl) rfl (zc (a := (xs 4).toInt) (b := 31) rfl rfl (decide_eq_false (by omega))) rfl rfl ?_
  refine w_p h_m159 2 (pc' := 15) (L' := []) (st' := [.int (1 : Int32)]) rfl ?_
  refine w_ri h_m159 (z_at.mk 1 rfl rfl) rfl rfl ?_
  show z_W 998 164 37 [(0, .int (xs 1)), (1, .int (xs 2)), (2, .int (xs 3)), (3, .int (xs 4))] [.int (1 : Int32)] m _
  refine w_p h_m164 3 (pc' := 45) (L' := []) (st' := [.int (1 : Int32)]) rfl ?_
  refine w_ri h_m164 (z_at.mk 1 rfl rfl) rfl rfl ?_
  show z_W 999 239 8 [(0, .ref 143), (1, .int (xs 1)), (2, .int (xs 2)), (3, .int (xs 3)), (4, .int (xs 4))] [.int (1 : Int32)] m _
  refine w_p h_m239 2 (pc' := 15) (L' := [(0, .ref 143), (1, .int (xs 1)), (2, .int (xs 2)), (3, .int (xs 3)), (4, .int (xs 4))]) (st' := [.ref 143]) rfl ?_
  refine w_gf H (pc' := 18) (L' := [(0, .ref 143), (1, .int (xs 1)), (2, .int (xs 2)), (3, .int (xs 3)), (4, .int (xs 4))]) h_m239 (z_at.mk 3 rfl rfl) rfl (u := .ref 152) rfl rfl rfl ?_
  refine w_p h_m239 5 (pc' := 24) (L' := [(0, .ref 143), (1, .int (xs 1)), (2, .int (xs 2)), (3, .int (xs 3)), (4, .int (xs 4))]) (st' := [.int (xs 4), .int (xs 3), .int (xs 2), .int (xs 1), .int (0 : Int32), .ref 152]) rfl ?_
  refine w_cs (As := [.ref 152, .int (0 : Int32), .int (xs 1), .int (xs 2), .int (xs 3), .int (xs 4)]) (rest := []) (j := 165) (L0 := [(0, .ref 152), (1, .int (0 : Int32)), (2, .int (xs 1)), (3, .int (xs 2)), (4, .int (xs 3)), (5, .int (xs 4))]) (pc' := 27) (L' := [(0, .ref 143), (1, .int (xs 1)), (2, .int (xs 2)), (3, .int (xs 3)), (4, .int (xs 4))]) h_m239 (z_at.mk 3 rfl rfl) (Or.inl ⟨rfl, rfl⟩) rfl rfl rfl rfl rfl ?_
  refine w_p h_m165 3 (pc' := 3) (L' := [(0, .ref 152), (1, .int (0 : Int32)), (2, .int (xs 1)), (3, .int (xs 2)), (4, .int (xs 3)), (5, .int (xs 4))]) (st' := [.int (xs 1), .int (0 : Int32), .ref 152]) rfl ?_
  refine w_as H (t := 0) (j := 0) (u := .int (xs 1)) (0, 4, [(0, .int (xs 1))], some (.int (0 : Int32))) (pc' := 4) (L' := [(0, .ref 152), (1, .int (0 : Int32)), (2, .int (xs 1)), (3, .int (xs 2)), (4, .int (xs 3)), (5, .int (xs 4))]) h_m165 (z_at.mk 1 rfl rfl) rfl rfl (w_ui _ _ (by decide)) rfl rfl rfl rfl ?_
  clear H m; intro m H
  refine w_p h_m165 5 (pc' := 9) (L' := [(0, .ref 152), (1, .int (0 : Int32)), (2, .int (xs 1)), (3, .int (xs 2)), (4, .int (xs 3)), (5, .int (xs 4))]) (st' := [.int (xs 2), .int (1 : Int32), .ref 152]) rfl ?_
  refine w_as H (t := 0) (j := 1) (u := .int (xs 2)) (0, 4, [(1, .int (xs 2)), (0, .int (xs 1))], some (.int (0 : Int32))) (pc' := 10) (L' := [(0, .ref 152), (1, .int (0 : Int32)), (2, .int (xs 1)), (3, .int (xs 2)), (4, .int (xs 3)), (5, .int (xs 4))]) h_m165 (z_at.mk 1 rfl rfl) rfl rfl (w_ui _ _ (by decide)) rfl rfl rfl rfl ?_
  clear H m; intro m H
  refine w_p h_m165 5 (pc' := 16) (L' := [(0, .ref 152), (1, .int (0 : Int32)), (2, .int (xs 1)), (3, .int (xs 2)), (4, .int (xs 3)), (5, .int (xs 4))]) (st' := [.int (xs 3), .int (2 : Int32), .ref 152]) rfl ?_
  refine w_as H (t := 0) (j := 2) (u := .int (xs 3)) (0, 4, [(2, .int (xs 3)), (1, .int (xs 2)), (0, .int (xs 1))], some (.int (0 : Int32))) (pc' := 17) (L' := [(0, .ref 152), (1, .int (0 : Int32)), (2, .int (xs 1)), (3, .int (xs 2)), (4, .int (xs 3)), (5, .int (xs 4))]) h_m165 (z_at.mk 1 rfl rfl) rfl rfl (w_ui _ _ (by decide)) rfl rfl rfl rfl ?_
  clear H m; intro m H
  refine w_p h_m165 5 (pc' := 23) (L' := [(0, .ref 152), (1, .int (0 : Int32)), (2, .int (xs 1)), (3, .int (xs 2)), (4, .int (xs 3)), (5, .int (xs 4))]) (st' := [.int (xs 4), .int (3 : Int32), .ref 152]) rfl ?_
  refine w_as H (t := 0) (j := 3) (u := .int (xs 4)) (0, 4, [(3, .int (xs 4)), (2, .int (xs 3)), (1, .int (xs 2)), (0, .int (xs 1))], some (.int (0 : Int32))) (pc' := 24) (L' := [(0, .ref 152), (1, .int (0 : Int32)), (2, .int (xs 1)), (3, .int (xs 2)), (4, .int (xs 3)), (5, .int (xs 4))]) h_m165 (z_at.mk 1 rfl rfl) rfl rfl (w_ui _ _ (by decide)) rfl rfl rfl rfl ?_
  clear H m; intro m H
  refine w_rv h_m165 (z_at.mk 1 rfl rfl) rfl ?_
  show z_W 999 239 27 [(0, .ref 143), (1, .int (xs 1)), (2, .int (xs 2)), (3, .int (xs 3)), (4, .int (xs 4))] [] m _
  refine w_p h_m239 1 (pc' := 28) (L' := [(0, .ref 143), (1, .int (xs 1)), (2, .int (xs 2)), (3, .int (xs 3)), (4, .int (xs 4))]) (st' := [.ref 143]) rfl ?_
  refine w_cv (H.t rfl) (pc' := 31) (L' := [(0, .ref 143), (1, .int (xs 1)), (2, .int (xs 2)), (3, .int (xs 3)), (4, .int (xs 4))]) (rest := []) (Ps := []) (L0 := [(0, .ref 143)]) h_m239 (z_at.mk 3 rfl rfl) (Or.inl ⟨rfl, rfl⟩) rfl rfl (by decide) (by decide) rfl rfl rfl rfl rfl rfl (by decide) rfl rfl rfl ?_
  refine w_p h_m181 1 (pc' := 1) (L' := [(0, .ref 143)]) (st' := [.ref 143]) rfl ?_
  refine w_gf H (pc' := 4) (L' := [(0, .ref 143)]) h_m181 (z_at.mk 3 rfl rfl) rfl (u := .ref 152) rfl rfl rfl ?_
  refine w_p h_m181 2 (pc' := 6) (L' := [(0, .ref 143)]) (st' := [.ref 143, .int (0 : Int32), .ref 152]) rfl ?_
  refine w_gf H (pc' := 9) (L' := [(0, .ref 143)]) h_m181 (z_at.mk 3 rfl rfl) rfl (u := .ref 150) rfl rfl rfl ?_
  refine w_p h_m181 1 (pc' := 10) (L' := [(0, .ref 143)]) (st' := [.int (0 : Int32), .ref 150, .int (0 : Int32), .ref 152]) rfl ?_
  refine w_cs (As := [.ref 152, .int (0 : Int32), .ref 150, .int (0 : Int32)]) (rest := []) (j := 166) (L0 := [(0, .ref 152), (1, .int (0 : Int32)), (2, .ref 150), (3, .int (0 : Int32))]) (pc' := 13) (L' := [(0, .ref 143)]) h_m181 (z_at.mk 3 rfl rfl) (Or.inl ⟨rfl, rfl⟩) rfl rfl rfl rfl rfl ?_
  refine w_p h_m166 4 (pc' := 4) (L' := [(0, .ref 152), (1, .int (0 : Int32)), (2, .ref 150), (3, .int (0 : Int32))]) (st' := [.int (0 : Int32), .ref 152, .int (0 : Int32), .ref 150]) rfl ?_
  refine w_al H (t := 0) (j := 0) (pc' := 5) (L' := [(0, .ref 152), (1, .int (0 : Int32)), (2, .ref 150), (3, .int (0 : Int32))]) h_m166 (z_at.mk 1 rfl rfl) rfl rfl rfl (u := .int (xs 1)) rfl rfl rfl ?_
  refine w_p h_m166 4 (pc' := 9) (L' := [(0, .ref 152), (1, .int (0 : Int32)), (2, .ref 150), (3, .int (0 : Int32))]) (st' := [.int (1 : Int32), .ref 152, .int (xs 1), .int (0 : Int32), .ref 150]) rfl ?_
  refine w_al H (t := 0) (j := 1) (pc' := 10) (L' := [(0, .ref 152), (1, .int (0 : Int32)), (2, .ref 150), (3, .int (0 : Int32))]) h_m166 (z_at.mk 1 rfl rfl) rfl rfl rfl (u := .int (xs 2)) rfl rfl rfl ?_
  refine w_p h_m166 4 (pc' := 14) (L' := [(0, .ref 152), (1, .int (0 : Int32)), (2, .ref 150), (3, .int (0 : Int32))]) (st' := [.int (2 : Int32), .ref 152, .int (xs 2), .int (xs 1), .int (0 : Int32), .ref 150]) rfl ?_
  refine w_al H (t := 0) (j := 2) (pc' := 15) (L' := [(0, .ref 152), (1, .int (0 : Int32)), (2, .ref 150), (3, .int (0 : Int32))]) h_m166 (z_at.mk 1 rfl rfl) rfl rfl rfl (u := .int (xs 3)) rfl rfl rfl ?_
  refine w_p h_m166 4 (pc' := 19) (L' := [(0, .ref 152), (1, .int (0 : Int32)), (2, .ref 150), (3, .int (0 : Int32))]) (st' := [.int (3 : Int32), .ref 152, .int (xs 3), .int (xs 2), .int (xs 1), .int (0 : Int32), .ref 150]) rfl ?_
  refine w_al H (t := 0) (j := 3) (pc' := 20) (L' := [(0, .ref 152), (1, .int (0 : Int32)), (2, .ref 150), (3, .int (0 : Int32))]) h_m166 (z_at.mk 1 rfl rfl) rfl rfl rfl (u := .int (xs 4)) rfl rfl rfl ?_
  refine w_cs (As := [.ref 150, .int (0 : Int32), .int (xs 1), .int (xs 2), .int (xs 3), .int (xs 4)]) (rest := []) (j := 165) (L0 := [(0, .ref 150), (1, .int (0 : Int32)), (2, .int (xs 1)), (3, .int (xs 2)), (4, .int (xs 3)), (5, .int (xs 4))]) (pc' := 23) (L' := [(0, .ref 152), (1, .int (0 : Int32)), (2, .ref 150), (3, .int (0 : Int32))]) h_m166 (z_at.mk 3 rfl rfl) (Or.inl ⟨rfl, rfl⟩) rfl rfl rfl rfl rfl ?_
  refine w_p h_m165 3 (pc' := 3) (L' := [(0, .ref 150), (1, .int (0 : Int32)), (2, .int (xs 1)), (3, .int (xs 2)), (4, .int (xs 3)), (5, .int (xs 4))]) (st' := [.int (xs 1), .int (0 : Int32), .ref 150]) rfl ?_
  refine w_as H (t := 0) (j := 0) (u := .int (xs 1)) (0, 2400, [(0, .int (xs 1))], some (.int (0 : Int32))) (pc' := 4) (L' := [(0, .ref 150), (1, .int (0 : Int32)), (2, .int (xs 1)), (3, .int (xs 2)), (4, .int (xs 3)), (5, .int (xs 4))]) h_m165 (z_at.mk 1 rfl rfl) rfl rfl (w_ui _ _ (by decide)) rfl rfl rfl rfl ?_
  clear H m; intro m H
  refine w_p h_m165 5 (pc' := 9) (L' := [(0, .ref 150), (1, .int (0 : Int32)), (2, .int (xs 1)), (3, .int (xs 2)), (4, .int (xs 3)), (5, .int (xs 4))]) (st' := [.int (xs 2), .int (1 : Int32), .ref 150]) rfl ?_
  refine w_as H (t := 0) (j := 1) (u := .int (xs 2)) (0, 2400, [(1, .int (xs 2)), (0, .int (xs 1))], some (.int (0 : Int32))) (pc' := 10) (L' := [(0, .ref 150), (1, .int (0 : Int32)), (2, .int (xs 1)), (3, .int (xs 2)), (4, .int (xs 3)), (5, .int (xs 4))]) h_m165 (z_at.mk 1 rfl rfl) rfl rfl (w_ui _ _ (by decide)) rfl rfl rfl rfl ?_
  clear H m; intro m H
  refine w_p h_m165 5 (pc' := 16) (L' := [(0, .ref 150), (1, .int (0 : Int32)), (2, .int (xs 1)), (3, .int (xs 2)), (4, .int (xs 3)), (5, .int (xs 4))]) (st' := [.int (xs 3), .int (2 : Int32), .ref 150]) rfl ?_
  refine w_as H (t := 0) (j := 2) (u := .int (xs 3)) (0, 2400, [(2, .int (xs 3)), (1, .int (xs 2)), (0, .int (xs 1))], some (.int (0 : Int32))) (pc' := 17) (L' := [(0, .ref 150), (1, .int (0 : Int32)), (2, .int (xs 1)), (3, .int (xs 2)), (4, .int (xs 3)), (5, .int (xs 4))]) h_m165 (z_at.mk 1 rfl rfl) rfl rfl (w_ui _ _ (by decide)) rfl rfl rfl rfl ?_
  clear H m; intro m H
  refine w_p h_m165 5 (pc' := 23) (L' := [(0, .ref 150), (1, .int (0 : Int32)), (2, .int (xs 1)), (3, .int (xs 2)), (4, .int (xs 3)), (5, .int (xs 4))]) (st' := [.int (xs 4), .int (3 : Int32), .ref 150]) rfl ?_
  refine w_as H (t := 0) (j := 3) (u := .int (xs 4)) (0, 2400, [(3, .int (xs 4)), (2, .int (xs 3)), (1, .int (xs 2)), (0, .int (xs 1))], some (.int (0 : Int32))) (pc' := 24) (L' := [(0, .ref 150), (1, .int (0 : Int32)), (2, .int (xs 1)), (3, .int (xs 2)), (4, .int (xs 3)), (5, .int (xs 4))]) h_m165 (z_at.mk 1 rfl rfl) rfl rfl (w_ui _ _ (by decide)) rfl rfl rfl rfl ?_
  clear H m; intro m H
  refine w_rv h_m165 (z_at.mk 1 rfl rfl) rfl ?_
  show z_W 997 166 23 [(0, .ref 152), (1, .int (0 : Int32)), (2, .ref 150), (3, .int (0 : Int32))] [] m _
  refine w_rv h_m166 (z_at.mk 1 rfl rfl) rfl ?_
  show z_W 998 181 13 [(0, .ref 143)] [] m _
  refine w_p h_m181 2 (pc' := 15) (L' := [(0, .ref 143)]) (st' := [.int (1 : Int32), .ref 143]) rfl ?_
  refine w_pf H (22, 35, [(10, .int (1 : Int32)), (34, .ref 167), (33, .ref 166), (31, .ref 165), (30, .ref 164), (28, .ref 163), (26, .ref 162), (25, .ref 161), (24, .ref 160), (19, .ref 159), (18, .ref 158), (17, .ref 157), (16, .ref 156), (13, .ref 155), (12, .ref 154), (11, .ref 153), (9, .ref 152), (8, .ref 151), (7, .ref 150), (5, .ref 149), (4, .ref 148), (3, .ref 147), (2, .ref 146), (1, .ref 145), (0, .ref 144), (6, .int (0 : Int32)), (14, .int (0 : Int32)), (15, .int (0 : Int32)), (20, .int (0 : Int32)), (21, .int (0 : Int32)), (22, .int (0 : Int32)), (23, .int (0 : Int32)), (27, .int (0 : Int32)), (29, .int (0 : Int32)), (32, .int (0 : Int32))], none) (pc' := 18) (L' := [(0, .ref 143)]) h_m181 (z_at.mk 3 rfl rfl) rfl (by decide) rfl (Or.inl rfl) rfl rfl rfl ?_
  clear H m; intro m H
  refine w_p h_m181 4 (pc' := 22) (L' := [(0, .ref 143), (1, .int (0 : Int32))]) (st' := [.ref 143, .int (0 : Int32)]) rfl ?_
  refine w_gf H (pc' := 25) (L' := [(0, .ref 143), (1, .int (0 : Int32))]) h_m181 (z_at.mk 3 rfl rfl) rfl (u := .ref 144) rfl rfl rfl ?_
  refine w_p h_m181 1 (pc' := 26) (L' := [(0, .ref 143), (1, .int (0 : Int32))]) (st' := [.int (0 : Int32), .ref 144, .int (0 : Int32)]) rfl ?_
  refine w_al H (t := 0) (j := 0) (pc' := 27) (L' := [(0, .ref 143), (1, .int (0 : Int32))]) h_m181 (z_at.mk 1 rfl rfl) rfl rfl rfl (u := .int (0 : Int32)) rfl rfl rfl ?_
  refine w_p h_m181 1 (pc' := 114) (L' := [(0, .ref 143), (1, .int (0 : Int32))]) (st' := []) rfl ?_
  refine w_rv h_m181 (z_at.mk 1 rfl rfl) rfl ?_
  show z_W 999 239 31 [(0, .ref 143), (1, .int (xs 1)), (2, .int (xs 2)), (3, .int (xs 3)), (4, .int (xs 4))] [] m _
  refine w_p h_m239 2 (pc' := 33) (L' := [(0, .ref 143), (1, .int (xs 1)), (2, .int (xs 2)), (3, .int (xs 3)), (4, .int (xs 4))]) (st' := [.int (0 : Int32), .ref 143]) rfl ?_
  refine w_pf H (22, 35, [(29, .int (0 : Int32)), (10, .int (1 : Int32)), (34, .ref 167), (33, .ref 166), (31, .ref 165), (30, .ref 164), (28, .ref 163), (26, .ref 162), (25, .ref 161), (24, .ref 160), (19, .ref 159), (18, .ref 158), (17, .ref 157), (16, .ref 156), (13, .ref 155), (12, .ref 154), (11, .ref 153), (9, .ref 152), (8, .ref 151), (7, .ref 150), (5, .ref 149), (4, .ref 148), (3, .ref 147), (2, .ref 146), (1, .ref 145), (0, .ref 144), (6, .int (0 : Int32)), (14, .int (0 : Int32)), (15, .int (0 : Int32)), (20, .int (0 : Int32)), (21, .int (0 : Int32)), (22, .int (0 : Int32)), (23, .int (0 : Int32)), (27, .int (0 : Int32)), (32, .int (0 : Int32))], none) (pc' := 36) (L' := [(0, .ref 143), (1, .int (xs 1)), (2, .int (xs 2)), (3, .int (xs 3)), (4, .int (xs 4))]) h_m239 (z_at.mk 3 rfl rfl) rfl (by decide) rfl (Or.inl rfl) rfl rfl rfl ?_
  clear H m; intro m H
  refine w_p h_m239 4 (pc' := 42) (L' := [(0, .ref 143), (5, .int (0 : Int32))]) (st' := [.ref 143, .int (0 : Int32)]) rfl ?_
  refine w_gf H (pc' := 45) (L' := [(0, .ref 143), (5, .int (0 : Int32))]) h_m239 (z_at.mk 3 rfl rfl) rfl (u := .ref 144) rfl rfl rfl ?_
  refine w_p h_m239 1 (pc' := 46) (L' := [(0, .ref 143), (5, .int (0 : Int32))]) (st' := [.int (0 : Int32), .ref 144, .int (0 : Int32)]) rfl ?_
  refine w_al H (t := 0) (j := 0) (pc' := 47) (L' := [(0, .ref 143), (5, .int (0 : Int32))]) h_m239 (z_at.mk 1 rfl rfl) rfl rfl rfl (u := .int (0 : Int32)) rfl rfl rfl ?_
  refine w_p h_m239 7 (pc' := 155) (L' := [(0, .ref 143), (5, .int (0 : Int32)), (6, .int (0 : Int32))]) (st' := [.ref 143, .int (0 : Int32)]) rfl ?_
  refine w_gf H (pc' := 158) (L' := [(0, .ref 143), (5, .int (0 : Int32)), (6, .int (0 : Int32))]) h_m239 (z_at.mk 3 rfl rfl) rfl (u := .int (1 : Int32)) rfl rfl rfl ?_
  refine w_p h_m239 3 (pc' := 165) (L' := [(0, .ref 143), (5, .int (0 : Int32)), (6, .int (0 : Int32))]) (st' := [.ref 17, .ref 143]) rfl ?_
  refine w_cv (H.t rfl) (pc' := 168) (L' := [(0, .ref 143), (5, .int (0 : Int32)), (6, .int (0 : Int32))]) (rest := []) (Ps := [.ref 17]) (L0 := [(0, .ref 143), (1, .ref 17)]) h_m239 (z_at.mk 3 rfl rfl) (Or.inl ⟨rfl, rfl⟩) rfl rfl (by decide) (by decide) rfl rfl rfl rfl rfl rfl (by decide) rfl rfl rfl ?_
  refine w_p h_m235 4 (pc' := 4) (L' := [(0, .ref 143), (1, .ref 17), (2, .int (0 : Int32))]) (st' := [.ref 17, .int (0 : Int32)]) rfl ?_
  refine w_cv (H.te (by decide) rfl).1 (pc' := 7) (L' := [(0, .ref 143), (1, .ref 17), (2, .int (0 : Int32))]) (rest := [.int (0 : Int32)]) (Ps := []) (L0 := [(0, .ref 17)]) h_m235 (z_at.mk 3 rfl rfl) (Or.inl ⟨rfl, rfl⟩) rfl rfl (by decide) (by decide) rfl rfl rfl rfl rfl rfl (by decide) rfl rfl rfl ?_
  refine w_p h_m293 1 (pc' := 1) (L' := [(0, .ref 17)]) (st' := [.ref 17]) rfl ?_
  refine w_gs H (pc' := 4) (L' := [(0, .ref 17)]) h_m293 (z_at.mk 3 rfl rfl) rfl (by decide) rfl rfl rfl rfl ?_
  refine w_lene H (x := (4 : Int32)) (pc' := 5) (L' := [(0, .ref 17)]) h_m293 (z_at.mk 1 rfl rfl) (by decide) rfl (by decide) rfl rfl rfl ?_
  refine w_p h_m293 1 (pc' := 6) (L' := [(0, .ref 17)]) (st' := [.ref 17, .int (4 : Int32)]) rfl ?_
  refine w_cv (H.te (by decide) rfl).1 (pc' := 9) (L' := [(0, .ref 17)]) (rest := [.int (4 : Int32)]) (Ps := []) (L0 := [(0, .ref 17)]) h_m293 (z_at.mk 3 rfl rfl) (Or.inl ⟨rfl, rfl⟩) rfl rfl (by decide) (by decide) rfl rfl rfl rfl rfl rfl (by decide) rfl rfl rfl ?_
  refine w_p h_m298 3 (pc' := 7) (L' := [(0, .ref 17)]) (st' := [.ref 17]) rfl ?_
  refine w_gs H (pc' := 10) (L' := [(0, .ref 17)]) h_m298 (z_at.mk 3 rfl rfl) rfl (by decide) rfl rfl rfl rfl ?_
  refine w_p h_m298 1 (pc' := 14) (L' := []) (st' := [.int (0 : Int32)]) rfl ?_
  refine w_ri h_m298 (z_at.mk 1 rfl rfl) rfl rfl ?_
  show z_W 997 293 9 [(0, .ref 17)] [.int (0 : Int32), .int (4 : Int32)] m _
  refine w_p h_m293 1 (pc' := 10) (L' := [(0, .ref 17)]) (st' := [.int (4 : Int32)]) rfl ?_
  refine w_ri h_m293 (z_at.mk 1 rfl rfl) rfl rfl ?_
  show z_W 998 235 7 [(0, .ref 143), (1, .ref 17), (2, .int (0 : Int32))] [.int (4 : Int32), .int (0 : Int32)] m _
  refine w_p h_m235 4 (pc' := 13) (L' := [(0, .ref 143), (1, .ref 17), (2, .int (0 : Int32))]) (st' := [.int (0 : Int32), .ref 17, .ref 143]) rfl ?_
  refine w_cv (H.te (by decide) rfl).1 (pc' := 16) (L' := [(0, .ref 143), (1, .ref 17), (2, .int (0 : Int32))]) (rest := [.ref 143]) (Ps := [.int (0 : Int32)]) (L0 := [(0, .ref 17), (1, .int (0 : Int32))]) h_m235 (z_at.mk 3 rfl rfl) (Or.inl ⟨rfl, rfl⟩) rfl rfl (by decide) (by decide) rfl rfl rfl rfl rfl rfl (by decide) rfl rfl rfl ?_
  refine w_p h_m294 1 (pc' := 1) (L' := [(0, .ref 17), (1, .int (0 : Int32))]) (st' := [.ref 17]) rfl ?_
  refine w_cv (H.te (by decide) rfl).1 (pc' := 4) (L' := [(0, .ref 17), (1, .int (0 : Int32))]) (rest := []) (Ps := []) (L0 := [(0, .ref 17)]) h_m294 (z_at.mk 3 rfl rfl) (Or.inl ⟨rfl, rfl⟩) rfl rfl (by decide) (by decide) rfl rfl rfl rfl rfl rfl (by decide) rfl rfl rfl ?_
  refine w_p h_m299 3 (pc' := 7) (L' := [(0, .ref 17)]) (st' := [.ref 17]) rfl ?_
  refine w_gs H (pc' := 10) (L' := [(0, .ref 17)]) h_m299 (z_at.mk 3 rfl rfl) rfl (by decide) rfl rfl rfl rfl ?_
  refine w_p h_m299 3 (pc' := 18) (L' := []) (st' := [.int (1 : Int32)]) rfl ?_
  refine w_ri h_m299 (z_at.mk 1 rfl rfl) rfl rfl ?_
  show z_W 997 294 4 [(0, .ref 17), (1, .int (0 : Int32))] [.int (1 : Int32)] m _
  refine w_p h_m294 2 (pc' := 8) (L' := [(0, .ref 17), (1, .int (0 : Int32))]) (st' := [.ref 17]) rfl ?_
  refine w_gs H (pc' := 11) (L' := [(0, .ref 17), (1, .int (0 : Int32))]) h_m294 (z_at.mk 3 rfl rfl) rfl (by decide) rfl rfl rfl rfl ?_
  refine w_p h_m294 1 (pc' := 12) (L' := [(0, .ref 17), (1, .int (0 : Int32))]) (st' := [.int (0 : Int32), .ref 35]) rfl ?_
  refine w_cs (As := [.ref 35, .int (0 : Int32)]) (rest := []) (j := 308) (L0 := [(0, .ref 35), (1, .int (0 : Int32))]) (pc' := 15) (L' := [(0, .ref 17), (1, .int (0 : Int32))]) h_m294 (z_at.mk 3 rfl rfl) (Or.inl ⟨rfl, rfl⟩) rfl rfl rfl rfl rfl ?_
  refine w_p h_m308 2 (pc' := 2) (L' := [(0, .ref 35), (1, .int (0 : Int32))]) (st' := [.ref 35, .int (0 : Int32)]) rfl ?_
  refine w_lene H (x := (4 : Int32)) (pc' := 3) (L' := [(0, .ref 35), (1, .int (0 : Int32))]) h_m308 (z_at.mk 1 rfl rfl) (by decide) rfl (by decide) rfl rfl rfl ?_
  refine w_ci (pc' := 6) (L' := [(0, .ref 35), (1, .int (0 : Int32))]) h_m308 (z_at.mk 3 rfl rfl) rfl (z_cat_le 0 rfl (by decide)) ⟨by decide, by decide⟩ rfl rfl ?_
  refine w_p h_m308 2 (pc' := 8) (L' := [(0, .ref 35), (1, .int (0 : Int32))]) (st' := [.int (0 : Int32), .ref 35]) rfl ?_
  refine w_ae H (j := 0) (pc' := 9) (L' := [(0, .ref 35), (1, .int (0 : Int32))]) h_m308 (z_at.mk 1 rfl rfl) rfl rfl rfl (by decide) rfl (by decide) rfl rfl rfl ?_
  refine w_p h_m308 3 (pc' := 14) (L' := [(0, .ref 35), (1, .int (0 : Int32))]) (st' := [.int (97 : Int32)]) rfl ?_
  refine w_ri h_m308 (z_at.mk 1 rfl rfl) rfl rfl ?_
  show z_W 997 294 15 [(0, .ref 17), (1, .int (0 : Int32))] [.int (97 : Int32)] m _
  refine w_ri h_m294 (z_at.mk 1 rfl rfl) rfl rfl ?_
  show z_W 998 235 16 [(0, .ref 143), (1, .ref 17), (2, .int (0 : Int32))] [.int (97 : Int32), .ref 143] m _
  refine w_cv (H.t rfl) (pc' := 19) (L' := [(0, .ref 143), (1, .ref 17), (2, .int (0 : Int32))]) (rest := []) (Ps := [.int (97 : Int32)]) (L0 := [(0, .ref 143), (1, .int (97 : Int32))]) h_m235 (z_at.mk 3 rfl rfl) (Or.inl ⟨rfl, rfl⟩) rfl rfl (by decide) (by decide) rfl rfl rfl rfl rfl rfl (by decide) rfl rfl rfl ?_
  refine w_p h_m234 1 (pc' := 1) (L' := [(0, .ref 143), (1, .int (97 : Int32))]) (st' := [.ref 143]) rfl ?_
  refine w_gf H (pc' := 4) (L' := [(0, .ref 143), (1, .int (97 : Int32))]) h_m234 (z_at.mk 3 rfl rfl) rfl (u := .ref 163) rfl rfl rfl ?_
  refine w_p h_m234 1 (pc' := 5) (L' := [(0, .ref 143), (1, .int (97 : Int32))]) (st' := [.ref 143, .ref 163]) rfl ?_
  refine w_gf H (pc' := 8) (L' := [(0, .ref 143), (1, .int (97 : Int32))]) h_m234 (z_at.mk 3 rfl rfl) rfl (u := .int (0 : Int32)) rfl rfl rfl ?_
  refine w_p h_m234 1 (pc' := 9) (L' := [(0, .ref 143), (1, .int (97 : Int32))]) (st' := [.int (97 : Int32), .int (0 : Int32), .ref 163]) rfl ?_
  refine w_as H (t := 0) (j := 0) (u := .int (97 : Int32)) (0, 40000, [(0, .int (97 : Int32))], some (.int (0 : Int32))) (pc' := 10) (L' := [(0, .ref 143), (1, .int (97 : Int32))]) h_m234 (z_at.mk 1 rfl rfl) rfl rfl (w_ui _ _ (by decide)) rfl rfl rfl rfl ?_
  clear H m; intro m H
  refine w_p h_m234 2 (pc' := 12) (L' := [(0, .ref 143), (1, .int (97 : Int32))]) (st' := [.ref 143, .ref 143]) rfl ?_
  refine w_gf H (pc' := 15) (L' := [(0, .ref 143), (1, .int (97 : Int32))]) h_m234 (z_at.mk 3 rfl rfl) rfl (u := .int (0 : Int32)) rfl rfl rfl ?_
  refine w_p h_m234 2 (pc' := 17) (L' := [(0, .ref 143), (1, .int (97 : Int32))]) (st' := [.int (1 : Int32), .ref 143]) rfl ?_
  refine w_pf H (22, 35, [(29, .int (1 : Int32)), (10, .int (1 : Int32)), (34, .ref 167), (33, .ref 166), (31, .ref 165), (30, .ref 164), (28, .ref 163), (26, .ref 162), (25, .ref 161), (24, .ref 160), (19, .ref 159), (18, .ref 158), (17, .ref 157), (16, .ref 156), (13, .ref 155), (12, .ref 154), (11, .ref 153), (9, .ref 152), (8, .ref 151), (7, .ref 150), (5, .ref 149), (4, .ref 148), (3, .ref 147), (2, .ref 146), (1, .ref 145), (0, .ref 144), (6, .int (0 : Int32)), (14, .int (0 : Int32)), (15, .int (0 : Int32)), (20, .int (0 : Int32)), (21, .int (0 : Int32)), (22, .int (0 : Int32)), (23, .int (0 : Int32)), (27, .int (0 : Int32)), (32, .int (0 : Int32))], none) (pc' := 20) (L' := [(0, .ref 143), (1, .int (97 : Int32))]) h_m234 (z_at.mk 3 rfl rfl) rfl (by decide) rfl (Or.inl rfl) rfl rfl rfl ?_
  clear H m; intro m H
  refine w_rv h_m234 (z_at.mk 1 rfl rfl) rfl ?_
  show z_W 998 235 19 [(0, .ref 143), (1, .ref 17), (2, .int (0 : Int32))] [] m _
  refine w_p h_m235 4 (pc' := 4) (L' := [(0, .ref 143), (1, .ref 17), (2, .int (1 : Int32))]) (st' := [.ref 17, .int (1 : Int32)]) rfl ?_
  refine w_cv (H.te (by decide) rfl).1 (pc' := 7) (L' := [(0, .ref 143), (1, .ref 17), (2, .int (1 : Int32))]) (rest := [.int (1 : Int32)]) (Ps := []) (L0 := [(0, .ref 17)]) h_m235 (z_at.mk 3 rfl rfl) (Or.inl ⟨rfl, rfl⟩) rfl rfl (by decide) (by decide) rfl rfl rfl rfl rfl rfl (by decide) rfl rfl rfl ?_
  refine w_p h_m293 1 (pc' := 1) (L' := [(0, .ref 17)]) (st' := [.ref 17]) rfl ?_
  refine w_gs H (pc' := 4) (L' := [(0, .ref 17)]) h_m293 (z_at.mk 3 rfl rfl) rfl (by decide) rfl rfl rfl rfl ?_
  refine w_lene H (x := (4 : Int32)) (pc' := 5) (L' := [(0, .ref 17)]) h_m293 (z_at.mk 1 rfl rfl) (by decide) rfl (by decide) rfl rfl rfl ?_
  refine w_p h_m293 1 (pc' := 6) (L' := [(0, .ref 17)]) (st' := [.ref 17, .int (4 : Int32)]) rfl ?_
  refine w_cv (H.te (by decide) rfl).1 (pc' := 9) (L' := [(0, .ref 17)]) (rest := [.int (4 : Int32)]) (Ps := []) (L0 := [(0, .ref 17)]) h_m293 (z_at.mk 3 rfl rfl) (Or.inl ⟨rfl, rfl⟩) rfl rfl (by decide) (by decide) rfl rfl rfl rfl rfl rfl (by decide) rfl rfl rfl ?_
  refine w_p h_m298 3 (pc' := 7) (L' := [(0, .ref 17)]) (st' := [.ref 17]) rfl ?_
  refine w_gs H (pc' := 10) (L' := [(0, .ref 17)]) h_m298 (z_at.mk 3 rfl rfl) rfl (by decide) rfl rfl rfl rfl ?_
  refine w_p h_m298 1 (pc' := 14) (L' := []) (st' := [.int (0 : Int32)]) rfl ?_
  refine w_ri h_m298 (z_at.mk 1 rfl rfl) rfl rfl ?_
  show z_W 997 293 9 [(0, .ref 17)] [.int (0 : Int32), .int (4 : Int32)] m _
  refine w_p h_m293 1 (pc' := 10) (L' := [(0, .ref 17)]) (st' := [.int (4 : Int32)]) rfl ?_
  refine w_ri h_m293 (z_at.mk 1 rfl rfl) rfl rfl ?_
  show z_W 998 235 7 [(0, .ref 143), (1, .ref 17), (2, .int (1 : Int32))] [.int (4 : Int32), .int (1 : Int32)] m _
  refine w_p h_m235 4 (pc' := 13) (L' := [(0, .ref 143), (1, .ref 17), (2, .int (1 : Int32))]) (st' := [.int (1 : Int32), .ref 17, .ref 143]) rfl ?_
  refine w_cv (H.te (by decide) rfl).1 (pc' := 16) (L' := [(0, .ref 143), (1, .ref 17), (2, .int (1 : Int32))]) (rest := [.ref 143]) (Ps := [.int (1 : Int32)]) (L0 := [(0, .ref 17), (1, .int (1 : Int32))]) h_m235 (z_at.mk 3 rfl rfl) (Or.inl ⟨rfl, rfl⟩) rfl rfl (by decide) (by decide) rfl rfl rfl rfl rfl rfl (by decide) rfl rfl rfl ?_
  refine w_p h_m294 1 (pc' := 1) (L' := [(0, .ref 17), (1, .int (1 : Int32))]) (st' := [.ref 17]) rfl ?_
  refine w_cv (H.te (by decide) rfl).1 (pc' := 4) (L' := [(0, .ref 17), (1, .int (1 : Int32))]) (rest := []) (Ps := []) (L0 := [(0, .ref 17)]) h_m294 (z_at.mk 3 rfl rfl) (Or.inl ⟨rfl, rfl⟩) rfl rfl (by decide) (by decide) rfl rfl rfl rfl rfl rfl (by decide) rfl rfl rfl ?_
  refine w_p h_m299 3 (pc' := 7) (L' := [(0, .ref 17)]) (st' := [.ref 17]) rfl ?_
  refine w_gs H (pc' := 10) (L' := [(0, .ref 17)]) h_m299 (z_at.mk 3 rfl rfl) rfl (by decide) rfl rfl rfl rfl ?_
  refine w_p h_m299 3 (pc' := 18) (L' := []) (st' := [.int (1 : Int32)]) rfl ?_
  refine w_ri h_m299 (z_at.mk 1 rfl rfl) rfl rfl ?_
  show z_W 997 294 4 [(0, .ref 17), (1, .int (1 : Int32))] [.int (1 : Int32)] m _
  refine w_p h_m294 2 (pc' := 8) (L' := [(0, .ref 17), (1, .int (1 : Int32))]) (st' := [.ref 17]) rfl ?_
  refine w_gs H (pc' := 11) (L' := [(0, .ref 17), (1, .int (1 : Int32))]) h_m294 (z_at.mk 3 rfl rfl) rfl (by decide) rfl rfl rfl rfl ?_
  refine w_p h_m294 1 (pc' := 12) (L' := [(0, .ref 17), (1, .int (1 : Int32))]) (st' := [.int (1 : Int32), .ref 35]) rfl ?_
  refine w_cs (As := [.ref 35, .int (1 : Int32)]) (rest := []) (j := 308) (L0 := [(0, .ref 35), (1, .int (1 : Int32))]) (pc' := 15) (L' := [(0, .ref 17), (1, .int (1 : Int32))]) h_m294 (z_at.mk 3 rfl rfl) (Or.inl ⟨rfl, rfl⟩) rfl rfl rfl rfl rfl ?_
  refine w_p h_m308 2 (pc' := 2) (L' := [(0, .ref 35), (1, .int (1 : Int32))]) (st' := [.ref 35, .int (1 : Int32)]) rfl ?_
  refine w_lene H (x := (4 : Int32)) (pc' := 3) (L' := [(0, .ref 35), (1, .int (1 : Int32))]) h_m308 (z_at.mk 1 rfl rfl) (by decide) rfl (by decide) rfl rfl rfl ?_
  refine w_ci (pc' := 6) (L' := [(0, .ref 35), (1, .int (1 : Int32))]) h_m308 (z_at.mk 3 rfl rfl) rfl (z_cat_le 0 rfl (by decide)) ⟨by decide, by decide⟩ rfl rfl ?_
  refine w_p h_m308 2 (pc' := 8) (L' := [(0, .ref 35), (1, .int (1 : Int32))]) (st' := [.int (1 : Int32), .ref 35]) rfl ?_
  refine w_ae H (j := 1) (pc' := 9) (L' := [(0, .ref 35), (1, .int (1 : Int32))]) h_m308 (z_at.mk 1 rfl rfl) rfl rfl rfl (by decide) rfl (by decide) rfl rfl rfl ?_
  refine w_p h_m308 3 (pc' := 14) (L' := [(0, .ref 35), (1, .int (1 : Int32))]) (st' := [.int (115 : Int32)]) rfl ?_
  refine w_ri h_m308 (z_at.mk 1 rfl rfl) rfl rfl ?_
  show z_W 997 294 15 [(0, .ref 17), (1, .int (1 : Int32))] [.int (115 : Int32)] m _
  refine w_ri h_m294 (z_at.mk 1 rfl rfl) rfl rfl ?_
  show z_W 998 235 16 [(0, .ref 143), (1, .ref 17), (2, .int (1 : Int32))] [.int (115 : Int32), .ref 143] m _
  refine w_cv (H.t rfl) (pc' := 19) (L' := [(0, .ref 143), (1, .ref 17), (2, .int (1 : Int32))]) (rest := []) (Ps := [.int (115 : Int32)]) (L0 := [(0, .ref 143), (1, .int (115 : Int32))]) h_m235 (z_at.mk 3 rfl rfl) (Or.inl ⟨rfl, rfl⟩) rfl rfl (by decide) (by decide) rfl rfl rfl rfl rfl rfl (by decide) rfl rfl rfl ?_
  refine w_p h_m234 1 (pc' := 1) (L' := [(0, .ref 143), (1, .int (115 : Int32))]) (st' := [.ref 143]) rfl ?_
  refine w_gf H (pc' := 4) (L' := [(0, .ref 143), (1, .int (115 : Int32))]) h_m234 (z_at.mk 3 rfl rfl) rfl (u := .ref 163) rfl rfl rfl ?_
  refine w_p h_m234 1 (pc' := 5) (L' := [(0, .ref 143), (1, .int (115 : Int32))]) (st' := [.ref 143, .ref 163]) rfl ?_
  refine w_gf H (pc' := 8) (L' := [(0, .ref 143), (1, .int (115 : Int32))]) h_m234 (z_at.mk 3 rfl rfl) rfl (u := .int (1 : Int32)) rfl rfl rfl ?_
  refine w_p h_m234 1 (pc' := 9) (L' := [(0, .ref 143), (1, .int (115 : Int32))]) (st' := [.int (115 : Int32), .int (1 : Int32), .ref 163]) rfl ?_
  refine w_as H (t := 0) (j := 1) (u := .int (115 : Int32)) (0, 40000, [(1, .int (115 : Int32)), (0, .int (97 : Int32))], some (.int (0 : Int32))) (pc' := 10) (L' := [(0, .ref 143), (1, .int (115 : Int32))]) h_m234 (z_at.mk 1 rfl rfl) rfl rfl (w_ui _ _ (by decide)) rfl rfl rfl rfl ?_
  clear H m; intro m H
  refine w_p h_m234 2 (pc' := 12) (L' := [(0, .ref 143), (1, .int (115 : Int32))]) (st' := [.ref 143, .ref 143]) rfl ?_
  refine w_gf H (pc' := 15) (L' := [(0, .ref 143), (1, .int (115 : Int32))]) h_m234 (z_at.mk 3 rfl rfl) rfl (u := .int (1 : Int32)) rfl rfl rfl ?_
  refine w_p h_m234 2 (pc' := 17) (L' := [(0, .ref 143), (1, .int (115 : Int32))]) (st' := [.int (2 : Int32), .ref 143]) rfl ?_
  refine w_pf H (22, 35, [(29, .int (2 : Int32)), (10, .int (1 : Int32)), (34, .ref 167), (33, .ref 166), (31, .ref 165), (30, .ref 164), (28, .ref 163), (26, .ref 162), (25, .ref 161), (24, .ref 160), (19, .ref 159), (18, .ref 158), (17, .ref 157), (16, .ref 156), (13, .ref 155), (12, .ref 154), (11, .ref 153), (9, .ref 152), (8, .ref 151), (7, .ref 150), (5, .ref 149), (4, .ref 148), (3, .ref 147), (2, .ref 146), (1, .ref 145), (0, .ref 144), (6, .int (0 : Int32)), (14, .int (0 : Int32)), (15, .int (0 : Int32)), (20, .int (0 : Int32)), (21, .int (0 : Int32)), (22, .int (0 : Int32)), (23, .int (0 : Int32)), (27, .int (0 : Int32)), (32, .int (0 : Int32))], none) (pc' := 20) (L' := [(0, .ref 143), (1, .int (115 : Int32))]) h_m234 (z_at.mk 3 rfl rfl) rfl (by decide) rfl (Or.inl rfl) rfl rfl rfl ?_
  clear H m; intro m H
  refine w_rv h_m234 (z_at.mk 1 rfl rfl) rfl ?_
  show z_W 998 235 19 [(0, .ref 143), (1, .ref 17), (2, .int (1 : Int32))] [] m _
  refine w_p h_m235 4 (pc' := 4) (L' := [(0, .ref 143), (1, .ref 17), (2, .int (2 : Int32))]) (st' := [.ref 17, .int (2 : Int32)]) rfl ?_
  refine w_cv (H.te (by decide) rfl).1 (pc' := 7) (L' := [(0, .ref 143), (1, .ref 17), (2, .int (2 : Int32))]) (rest := [.int (2 : Int32)]) (Ps := []) (L0 := [(0, .ref 17)]) h_m235 (z_at.mk 3 rfl rfl) (Or.inl ⟨rfl, rfl⟩) rfl rfl (by decide) (by decide) rfl rfl rfl rfl rfl rfl (by decide) rfl rfl rfl ?_
  refine w_p h_m293 1 (pc' := 1) (L' := [(0, .ref 17)]) (st' := [.ref 17]) rfl ?_
  refine w_gs H (pc' := 4) (L' := [(0, .ref 17)]) h_m293 (z_at.mk 3 rfl rfl) rfl (by decide) rfl rfl rfl rfl ?_
  refine w_lene H (x := (4 : Int32)) (pc' := 5) (L' := [(0, .ref 17)]) h_m293 (z_at.mk 1 rfl rfl) (by decide) rfl (by decide) rfl rfl rfl ?_
  refine w_p h_m293 1 (pc' := 6) (L' := [(0, .ref 17)]) (st' := [.ref 17, .int (4 : Int32)]) rfl ?_
  refine w_cv (H.te (by decide) rfl).1 (pc' := 9) (L' := [(0, .ref 17)]) (rest := [.int (4 : Int32)]) (Ps := []) (L0 := [(0, .ref 17)]) h_m293 (z_at.mk 3 rfl rfl) (Or.inl ⟨rfl, rfl⟩) rfl rfl (by decide) (by decide) rfl rfl rfl rfl rfl rfl (by decide) rfl rfl rfl ?_
  refine w_p h_m298 3 (pc' := 7) (L' := [(0, .ref 17)]) (st' := [.ref 17]) rfl ?_
  refine w_gs H (pc' := 10) (L' := [(0, .ref 17)]) h_m298 (z_at.mk 3 rfl rfl) rfl (by decide) rfl rfl rfl rfl ?_
  refine w_p h_m298 1 (pc' := 14) (L' := []) (st' := [.int (0 : Int32)]) rfl ?_
  refine w_ri h_m298 (z_at.mk 1 rfl rfl) rfl rfl ?_
  show z_W 997 293 9 [(0, .ref 17)] [.int (0 : Int32), .int (4 : Int32)] m _
  refine w_p h_m293 1 (pc' := 10) (L' := [(0, .ref 17)]) (st' := [.int (4 : Int32)]) rfl ?_
  refine w_ri h_m293 (z_at.mk 1 rfl rfl) rfl rfl ?_
  show z_W 998 235 7 [(0, .ref 143), (1, .ref 17), (2, .int (2 : Int32))] [.int (4 : Int32), .int (2 : Int32)] m _
  refine w_p h_m235 4 (pc' := 13) (L' := [(0, .ref 143), (1, .ref 17), (2, .int (2 : Int32))]) (st' := [.int (2 : Int32), .ref 17, .ref 143]) rfl ?_
  refine w_cv (H.te (by decide) rfl).1 (pc' := 16) (L' := [(0, .ref 143), (1, .ref 17), (2, .int (2 : Int32))]) (rest := [.ref 143]) (Ps := [.int (2 : Int32)]) (L0 := [(0, .ref 17), (1, .int (2 : Int32))]) h_m235 (z_at.mk 3 rfl rfl) (Or.inl ⟨rfl, rfl⟩) rfl rfl (by decide) (by decide) rfl rfl rfl rfl rfl rfl (by decide) rfl rfl rfl ?_
  refine w_p h_m294 1 (pc' := 1) (L' := [(0, .ref 17), (1, .int (2 : Int32))]) (st' := [.ref 17]) rfl ?_
  refine w_cv (H.te (by decide) rfl).1 (pc' := 4) (L' := [(0, .ref 17), (1, .int (2 : Int32))]) (rest := []) (Ps := []) (L0 := [(0, .ref 17)]) h_m294 (z_at.mk 3 rfl rfl) (Or.inl ⟨rfl, rfl⟩) rfl rfl (by decide) (by decide) rfl rfl rfl rfl rfl rfl (by decide) rfl rfl rfl ?_
  refine w_p h_m299 3 (pc' := 7) (L' := [(0, .ref 17)]) (st' := [.ref 17]) rfl ?_
  refine w_gs H (pc' := 10) (L' := [(0, .ref 17)]) h_m299 (z_at.mk 3 rfl rfl) rfl (by decide) rfl rfl rfl rfl ?_
  refine w_p h_m299 3 (pc' := 18) (L' := []) (st' := [.int (1 : Int32)]) rfl ?_
  refine w_ri h_m299 (z_at.mk 1 rfl rfl) rfl rfl ?_
  show z_W 997 294 4 [(0, .ref 17), (1, .int (2 : Int32))] [.int (1 : Int32)] m _
  refine w_p h_m294 2 (pc' := 8) (L' := [(0, .ref 17), (1, .int (2 : Int32))]) (st' := [.ref 17]) rfl ?_
  refine w_gs H (pc' := 11) (L' := [(0, .ref 17), (1, .int (2 : Int32))]) h_m294 (z_at.mk 3 rfl rfl) rfl (by decide) rfl rfl rfl rfl ?_
  refine w_p h_m294 1 (pc' := 12) (L' := [(0, .ref 17), (1, .int (2 : Int32))]) (st' := [.int (2 : Int32), .ref 35]) rfl ?_
  refine w_cs (As := [.ref 35, .int (2 : Int32)]) (rest := []) (j := 308) (L0 := [(0, .ref 35), (1, .int (2 : Int32))]) (pc' := 15) (L' := [(0, .ref 17), (1, .int (2 : Int32))]) h_m294 (z_at.mk 3 rfl rfl) (Or.inl ⟨rfl, rfl⟩) rfl rfl rfl rfl rfl ?_
  refine w_p h_m308 2 (pc' := 2) (L' := [(0, .ref 35), (1, .int (2 : Int32))]) (st' := [.ref 35, .int (2 : Int32)]) rfl ?_
  refine w_lene H (x := (4 : Int32)) (pc' := 3) (L' := [(0, .ref 35), (1, .int (2 : Int32))]) h_m308 (z_at.mk 1 rfl rfl) (by decide) rfl (by decide) rfl rfl rfl ?_
  refine w_ci (pc' := 6) (L' := [(0, .ref 35), (1, .int (2 : Int32))]) h_m308 (z_at.mk 3 rfl rfl) rfl (z_cat_le 0 rfl (by decide)) ⟨by decide, by decide⟩ rfl rfl ?_
  refine w_p h_m308 2 (pc' := 8) (L' := [(0, .ref 35), (1, .int (2 : Int32))]) (st' := [.int (2 : Int32), .ref 35]) rfl ?_
  refine w_ae H (j := 2) (pc' := 9) (L' := [(0, .ref 35), (1, .int (2 : Int32))]) h_m308 (z_at.mk 1 rfl rfl) rfl rfl rfl (by decide) rfl (by decide) rfl rfl rfl ?_
  refine w_p h_m308 3 (pc' := 14) (L' := [(0, .ref 35), (1, .int (2 : Int32))]) (st' := [.int (107 : Int32)]) rfl ?_
  refine w_ri h_m308 (z_at.mk 1 rfl rfl) rfl rfl ?_
  show z_W 997 294 15 [(0, .ref 17), (1, .int (2 : Int32))] [.int (107 : Int32)] m _
  refine w_ri h_m294 (z_at.mk 1 rfl rfl) rfl rfl ?_
  show z_W 998 235 16 [(0, .ref 143), (1, .ref 17), (2, .int (2 : Int32))] [.int (107 : Int32), .ref 143] m _
  refine w_cv (H.t rfl) (pc' := 19) (L' := [(0, .ref 143), (1, .ref 17), (2, .int (2 : Int32))]) (rest := []) (Ps := [.int (107 : Int32)]) (L0 := [(0, .ref 143), (1, .int (107 : Int32))]) h_m235 (z_at.mk 3 rfl rfl) (Or.inl ⟨rfl, rfl⟩) rfl rfl (by decide) (by decide) rfl rfl rfl rfl rfl rfl (by decide) rfl rfl rfl ?_
  refine w_p h_m234 1 (pc' := 1) (L' := [(0, .ref 143), (1, .int (107 : Int32))]) (st' := [.ref 143]) rfl ?_
  refine w_gf H (pc' := 4) (L' := [(0, .ref 143), (1, .int (107 : Int32))]) h_m234 (z_at.mk 3 rfl rfl) rfl (u := .ref 163) rfl rfl rfl ?_
  refine w_p h_m234 1 (pc' := 5) (L' := [(0, .ref 143), (1, .int (107 : Int32))]) (st' := [.ref 143, .ref 163]) rfl ?_
  refine w_gf H (pc' := 8) (L' := [(0, .ref 143), (1, .int (107 : Int32))]) h_m234 (z_at.mk 3 rfl rfl) rfl (u := .int (2 : Int32)) rfl rfl rfl ?_
  refine w_p h_m234 1 (pc' := 9) (L' := [(0, .ref 143), (1, .int (107 : Int32))]) (st' := [.int (107 : Int32), .int (2 : Int32), .ref 163]) rfl ?_
  refine w_as H (t := 0) (j := 2) (u := .int (107 : Int32)) (0, 40000, [(2, .int (107 : Int32)), (1, .int (115 : Int32)), (0, .int (97 : Int32))], some (.int (0 : Int32))) (pc' := 10) (L' := [(0, .ref 143), (1, .int (107 : Int32))]) h_m234 (z_at.mk 1 rfl rfl) rfl rfl (w_ui _ _ (by decide)) rfl rfl rfl rfl ?_
  clear H m; intro m H
  refine w_p h_m234 2 (pc' := 12) (L' := [(0, .ref 143), (1, .int (107 : Int32))]) (st' := [.ref 143, .ref 143]) rfl ?_
  refine w_gf H (pc' := 15) (L' := [(0, .ref 143), (1, .int (107 : Int32))]) h_m234 (z_at.mk 3 rfl rfl) rfl (u := .int (2 : Int32)) rfl rfl rfl ?_
  refine w_p h_m234 2 (pc' := 17) (L' := [(0, .ref 143), (1, .int (107 : Int32))]) (st' := [.int (3 : Int32), .ref 143]) rfl ?_
  refine w_pf H (22, 35, [(29, .int (3 : Int32)), (10, .int (1 : Int32)), (34, .ref 167), (33, .ref 166), (31, .ref 165), (30, .ref 164), (28, .ref 163), (26, .ref 162), (25, .ref 161), (24, .ref 160), (19, .ref 159), (18, .ref 158), (17, .ref 157), (16, .ref 156), (13, .ref 155), (12, .ref 154), (11, .ref 153), (9, .ref 152), (8, .ref 151), (7, .ref 150), (5, .ref 149), (4, .ref 148), (3, .ref 147), (2, .ref 146), (1, .ref 145), (0, .ref 144), (6, .int (0 : Int32)), (14, .int (0 : Int32)), (15, .int (0 : Int32)), (20, .int (0 : Int32)), (21, .int (0 : Int32)), (22, .int (0 : Int32)), (23, .int (0 : Int32)), (27, .int (0 : Int32)), (32, .int (0 : Int32))], none) (pc' := 20) (L' := [(0, .ref 143), (1, .int (107 : Int32))]) h_m234 (z_at.mk 3 rfl rfl) rfl (by decide) rfl (Or.inl rfl) rfl rfl rfl ?_
  clear H m; intro m H
  refine w_rv h_m234 (z_at.mk 1 rfl rfl) rfl ?_
  show z_W 998 235 19 [(0, .ref 143), (1, .ref 17), (2, .int (2 : Int32))] [] m _
  refine w_p h_m235 4 (pc' := 4) (L' := [(0, .ref 143), (1, .ref 17), (2, .int (3 : Int32))]) (st' := [.ref 17, .int (3 : Int32)]) rfl ?_
  refine w_cv (H.te (by decide) rfl).1 (pc' := 7) (L' := [(0, .ref 143), (1, .ref 17), (2, .int (3 : Int32))]) (rest := [.int (3 : Int32)]) (Ps := []) (L0 := [(0, .ref 17)]) h_m235 (z_at.mk 3 rfl rfl) (Or.inl ⟨rfl, rfl⟩) rfl rfl (by decide) (by decide) rfl rfl rfl rfl rfl rfl (by decide) rfl rfl rfl ?_
  refine w_p h_m293 1 (pc' := 1) (L' := [(0, .ref 17)]) (st' := [.ref 17]) rfl ?_
  refine w_gs H (pc' := 4) (L' := [(0, .ref 17)]) h_m293 (z_at.mk 3 rfl rfl) rfl (by decide) rfl rfl rfl rfl ?_
  refine w_lene H (x := (4 : Int32)) (pc' := 5) (L' := [(0, .ref 17)]) h_m293 (z_at.mk 1 rfl rfl) (by decide) rfl (by decide) rfl rfl rfl ?_
  refine w_p h_m293 1 (pc' := 6) (L' := [(0, .ref 17)]) (st' := [.ref 17, .int (4 : Int32)]) rfl ?_
  refine w_cv (H.te (by decide) rfl).1 (pc' := 9) (L' := [(0, .ref 17)]) (rest := [.int (4 : Int32)]) (Ps := []) (L0 := [(0, .ref 17)]) h_m293 (z_at.mk 3 rfl rfl) (Or.inl ⟨rfl, rfl⟩) rfl rfl (by decide) (by decide) rfl rfl rfl rfl rfl rfl (by decide) rfl rfl rfl ?_
  refine w_p h_m298 3 (pc' := 7) (L' := [(0, .ref 17)]) (st' := [.ref 17]) rfl ?_
  refine w_gs H (pc' := 10) (L' := [(0, .ref 17)]) h_m298 (z_at.mk 3 rfl rfl) rfl (by decide) rfl rfl rfl rfl ?_
  refine w_p h_m298 1 (pc' := 14) (L' := []) (st' := [.int (0 : Int32)]) rfl ?_
  refine w_ri h_m298 (z_at.mk 1 rfl rfl) rfl rfl ?_
  show z_W 997 293 9 [(0, .ref 17)] [.int (0 : Int32), .int (4 : Int32)] m _
  refine w_p h_m293 1 (pc' := 10) (L' := [(0, .ref 17)]) (st' := [.int (4 : Int32)]) rfl ?_
  refine w_ri h_m293 (z_at.mk 1 rfl rfl) rfl rfl ?_
  show z_W 998 235 7 [(0, .ref 143), (1, .ref 17), (2, .int (3 : Int32))] [.int (4 : Int32), .int (3 : Int32)] m _
  refine w_p h_m235 4 (pc' := 13) (L' := [(0, .ref 143), (1, .ref 17), (2, .int (3 : Int32))]) (st' := [.int (3 : Int32), .ref 17, .ref 143]) rfl ?_
  refine w_cv (H.te (by decide) rfl).1 (pc' := 16) (L' := [(0, .ref 143), (1, .ref 17), (2, .int (3 : Int32))]) (rest := [.ref 143]) (Ps := [.int (3 : Int32)]) (L0 := [(0, .ref 17), (1, .int (3 : Int32))]) h_m235 (z_at.mk 3 rfl rfl) (Or.inl ⟨rfl, rfl⟩) rfl rfl (by decide) (by decide) rfl rfl rfl rfl rfl rfl (by decide) rfl rfl rfl ?_
  refine w_p h_m294 1 (pc' := 1) (L' := [(0, .ref 17), (1, .int (3 : Int32))]) (st' := [.ref 17]) rfl ?_
  refine w_cv (H.te (by decide) rfl).1 (pc' := 4) (L' := [(0, .ref 17), (1, .int (3 : Int32))]) (rest := []) (Ps := []) (L0 := [(0, .ref 17)]) h_m294 (z_at.mk 3 rfl rfl) (Or.inl ⟨rfl, rfl⟩) rfl rfl (by decide) (by decide) rfl rfl rfl rfl rfl rfl (by decide) rfl rfl rfl ?_
  refine w_p h_m299 3 (pc' := 7) (L' := [(0, .ref 17)]) (st' := [.ref 17]) rfl ?_
  refine w_gs H (pc' := 10) (L' := [(0, .ref 17)]) h_m299 (z_at.mk 3 rfl rfl) rfl (by decide) rfl rfl rfl rfl ?_
  refine w_p h_m299 3 (pc' := 18) (L' := []) (st' := [.int (1 : Int32)]) rfl ?_
  refine w_ri h_m299 (z_at.mk 1 rfl rfl) rfl rfl ?_
  show z_W 997 294 4 [(0, .ref 17), (1, .int (3 : Int32))] [.int (1 : Int32)] m _
  refine w_p h_m294 2 (pc' := 8) (L' := [(0, .ref 17), (1, .int (3 : Int32))]) (st' := [.ref 17]) rfl ?_
  refine w_gs H (pc' := 11) (L' := [(0, .ref 17), (1, .int (3 : Int32))]) h_m294 (z_at.mk 3 rfl rfl) rfl (by decide) rfl rfl rfl rfl ?_
  refine w_p h_m294 1 (pc' := 12) (L' := [(0, .ref 17), (1, .int (3 : Int32))]) (st' := [.int (3 : Int32), .ref 35]) rfl ?_
  refine w_cs (As := [.ref 35, .int (3 : Int32)]) (rest := []) (j := 308) (L0 := [(0, .ref 35), (1, .int (3 : Int32))]) (pc' := 15) (L' := [(0, .ref 17), (1, .int (3 : Int32))]) h_m294 (z_at.mk 3 rfl rfl) (Or.inl ⟨rfl, rfl⟩) rfl rfl rfl rfl rfl ?_
  refine w_p h_m308 2 (pc' := 2) (L' := [(0, .ref 35), (1, .int (3 : Int32))]) (st' := [.ref 35, .int (3 : Int32)]) rfl ?_
  refine w_lene H (x := (4 : Int32)) (pc' := 3) (L' := [(0, .ref 35), (1, .int (3 : Int32))]) h_m308 (z_at.mk 1 rfl rfl) (by decide) rfl (by decide) rfl rfl rfl ?_
  refine w_ci (pc' := 6) (L' := [(0, .ref 35), (1, .int (3 : Int32))]) h_m308 (z_at.mk 3 rfl rfl) rfl (z_cat_le 0 rfl (by decide)) ⟨by decide, by decide⟩ rfl rfl ?_
  refine w_p h_m308 2 (pc' := 8) (L' := [(0, .ref 35), (1, .int (3 : Int32))]) (st' := [.int (3 : Int32), .ref 35]) rfl ?_
  refine w_ae H (j := 3) (pc' := 9) (L' := [(0, .ref 35), (1, .int (3 : Int32))]) h_m308 (z_at.mk 1 rfl rfl) rfl rfl rfl (by decide) rfl (by decide) rfl rfl rfl ?_
  refine w_p h_m308 3 (pc' := 14) (L' := [(0, .ref 35), (1, .int (3 : Int32))]) (st' := [.int (32 : Int32)]) rfl ?_
  refine w_ri h_m308 (z_at.mk 1 rfl rfl) rfl rfl ?_
  show z_W 997 294 15 [(0, .ref 17), (1, .int (3 : Int32))] [.int (32 : Int32)] m _
  refine w_ri h_m294 (z_at.mk 1 rfl rfl) rfl rfl ?_
  show z_W 998 235 16 [(0, .ref 143), (1, .ref 17), (2, .int (3 : Int32))] [.int (32 : Int32), .ref 143] m _
  refine w_cv (H.t rfl) (pc' := 19) (L' := [(0, .ref 143), (1, .ref 17), (2, .int (3 : Int32))]) (rest := []) (Ps := [.int (32 : Int32)]) (L0 := [(0, .ref 143), (1, .int (32 : Int32))]) h_m235 (z_at.mk 3 rfl rfl) (Or.inl ⟨rfl, rfl⟩) rfl rfl (by decide) (by decide) rfl rfl rfl rfl rfl rfl (by decide) rfl rfl rfl ?_
  refine w_p h_m234 1 (pc' := 1) (L' := [(0, .ref 143), (1, .int (32 : Int32))]) (st' := [.ref 143]) rfl ?_
  refine w_gf H (pc' := 4) (L' := [(0, .ref 143), (1, .int (32 : Int32))]) h_m234 (z_at.mk 3 rfl rfl) rfl (u := .ref 163) rfl rfl rfl ?_
  refine w_p h_m234 1 (pc' := 5) (L' := [(0, .ref 143), (1, .int (32 : Int32))]) (st' := [.ref 143, .ref 163]) rfl ?_
  refine w_gf H (pc' := 8) (L' := [(0, .ref 143), (1, .int (32 : Int32))]) h_m234 (z_at.mk 3 rfl rfl) rfl (u := .int (3 : Int32)) rfl rfl rfl ?_
  refine w_p h_m234 1 (pc' := 9) (L' := [(0, .ref 143), (1, .int (32 : Int32))]) (st' := [.int (32 : Int32), .int (3 : Int32), .ref 163]) rfl ?_
  refine w_as H (t := 0) (j := 3) (u := .int (32 : Int32)) (0, 40000, [(3, .int (32 : Int32)), (2, .int (107 : Int32)), (1, .int (115 : Int32)), (0, .int (97 : Int32))], some (.int (0 : Int32))) (pc' := 10) (L' := [(0, .ref 143), (1, .int (32 : Int32))]) h_m234 (z_at.mk 1 rfl rfl) rfl rfl (w_ui _ _ (by decide)) rfl rfl rfl rfl ?_
  clear H m; intro m H
  refine w_p h_m234 2 (pc' := 12) (L' := [(0, .ref 143), (1, .int (32 : Int32))]) (st' := [.ref 143, .ref 143]) rfl ?_
  refine w_gf H (pc' := 15) (L' := [(0, .ref 143), (1, .int (32 : Int32))]) h_m234 (z_at.mk 3 rfl rfl) rfl (u := .int (3 : Int32)) rfl rfl rfl ?_
  refine w_p h_m234 2 (pc' := 17) (L' := [(0, .ref 143), (1, .int (32 : Int32))]) (st' := [.int (4 : Int32), .ref 143]) rfl ?_
  refine w_pf H (22, 35, [(29, .int (4 : Int32)), (10, .int (1 : Int32)), (34, .ref 167), (33, .ref 166), (31, .ref 165), (30, .ref 164), (28, .ref 163), (26, .ref 162), (25, .ref 161), (24, .ref 160), (19, .ref 159), (18, .ref 158), (17, .ref 157), (16, .ref 156), (13, .ref 155), (12, .ref 154), (11, .ref 153), (9, .ref 152), (8, .ref 151), (7, .ref 150), (5, .ref 149), (4, .ref 148), (3, .ref 147), (2, .ref 146), (1, .ref 145), (0, .ref 144), (6, .int (0 : Int32)), (14, .int (0 : Int32)), (15, .int (0 : Int32)), (20, .int (0 : Int32)), (21, .int (0 : Int32)), (22, .int (0 : Int32)), (23, .int (0 : Int32)), (27, .int (0 : Int32)), (32, .int (0 : Int32))], none) (pc' := 20) (L' := [(0, .ref 143), (1, .int (32 : Int32))]) h_m234 (z_at.mk 3 rfl rfl) rfl (by decide) rfl (Or.inl rfl) rfl rfl rfl ?_
  clear H m; intro m H
  refine w_rv h_m234 (z_at.mk 1 rfl rfl) rfl ?_
  show z_W 998 235 19 [(0, .ref 143), (1, .ref 17), (2, .int (3 : Int32))] [] m _
  refine w_p h_m235 4 (pc' := 4) (L' := [(0, .ref 143), (1, .ref 17), (2, .int (4 : Int32))]) (st' := [.ref 17, .int (4 : Int32)]) rfl ?_
  refine w_cv (H.te (by decide) rfl).1 (pc' := 7) (L' := [(0, .ref 143), (1, .ref 17), (2, .int (4 : Int32))]) (rest := [.int (4 : Int32)]) (Ps := []) (L0 := [(0, .ref 17)]) h_m235 (z_at.mk 3 rfl rfl) (Or.inl ⟨rfl, rfl⟩) rfl rfl (by decide) (by decide) rfl rfl rfl rfl rfl rfl (by decide) rfl rfl rfl ?_
  refine w_p h_m293 1 (pc' := 1) (L' := [(0, .ref 17)]) (st' := [.ref 17]) rfl ?_
  refine w_gs H (pc' := 4) (L' := [(0, .ref 17)]) h_m293 (z_at.mk 3 rfl rfl) rfl (by decide) rfl rfl rfl rfl ?_
  refine w_lene H (x := (4 : Int32)) (pc' := 5) (L' := [(0, .ref 17)]) h_m293 (z_at.mk 1 rfl rfl) (by decide) rfl (by decide) rfl rfl rfl ?_
  refine w_p h_m293 1 (pc' := 6) (L' := [(0, .ref 17)]) (st' := [.ref 17, .int (4 : Int32)]) rfl ?_
  refine w_cv (H.te (by decide) rfl).1 (pc' := 9) (L' := [(0, .ref 17)]) (rest := [.int (4 : Int32)]) (Ps := []) (L0 := [(0, .ref 17)]) h_m293 (z_at.mk 3 rfl rfl) (Or.inl ⟨rfl, rfl⟩) rfl rfl (by decide) (by decide) rfl rfl rfl rfl rfl rfl (by decide) rfl rfl rfl ?_
  refine w_p h_m298 3 (pc' := 7) (L' := [(0, .ref 17)]) (st' := [.ref 17]) rfl ?_
  refine w_gs H (pc' := 10) (L' := [(0, .ref 17)]) h_m298 (z_at.mk 3 rfl rfl) rfl (by decide) rfl rfl rfl rfl ?_
  refine w_p h_m298 1 (pc' := 14) (L' := []) (st' := [.int (0 : Int32)]) rfl ?_
  refine w_ri h_m298 (z_at.mk 1 rfl rfl) rfl rfl ?_
  show z_W 997 293 9 [(0, .ref 17)] [.int (0 : Int32), .int (4 : Int32)] m _
  refine w_p h_m293 1 (pc' := 10) (L' := [(0, .ref 17)]) (st' := [.int (4 : Int32)]) rfl ?_
  refine w_ri h_m293 (z_at.mk 1 rfl rfl) rfl rfl ?_
  show z_W 998 235 7 [(0, .ref 143), (1, .ref 17), (2, .int (4 : Int32))] [.int (4 : Int32), .int (4 : Int32)] m _
  refine w_p h_m235 1 (pc' := 25) (L' := [(0, .ref 143), (1, .ref 17), (2, .int (4 : Int32))]) (st' := []) rfl ?_
  refine w_rv h_m235 (z_at.mk 1 rfl rfl) rfl ?_
  show z_W 999 239 168 [(0, .ref 143), (5, .int (0 : Int32)), (6, .int (0 : Int32))] [] m _
  refine w_p h_m239 2 (pc' := 170) (L' := [(0, .ref 143), (5, .int (0 : Int32)), (6, .int (0 : Int32))]) (st' := [.ref 143, .ref 143]) rfl ?_
  refine w_gf H (pc' := 173) (L' := [(0, .ref 143), (5, .int (0 : Int32)), (6, .int (0 : Int32))]) h_m239 (z_at.mk 3 rfl rfl) rfl (u := .ref 150) rfl rfl rfl ?_
  refine w_p h_m239 3 (pc' := 177) (L' := [(0, .ref 143), (5, .int (0 : Int32)), (6, .int (0 : Int32))]) (st' := [.int (0 : Int32), .ref 150, .ref 143]) rfl ?_
  refine w_cv (H.t rfl) (pc' := 180) (L' := [(0, .ref 143), (5, .int (0 : Int32)), (6, .int (0 : Int32))]) (rest := []) (Ps := [.ref 150, .int (0 : Int32)]) (L0 := [(0, .ref 143), (1, .ref 150), (2, .int (0 : Int32))]) h_m239 (z_at.mk 3 rfl rfl) (Or.inl ⟨rfl, rfl⟩) rfl rfl (by decide) (by decide) rfl rfl rfl rfl rfl rfl (by decide) rfl rfl rfl ?_
  refine w_p h_m237 3 (pc' := 3) (L' := [(0, .ref 143), (1, .ref 150), (2, .int (0 : Int32))]) (st' := [.int (0 : Int32), .ref 150, .ref 143]) rfl ?_
  refine w_al H (t := 0) (j := 0) (pc' := 4) (L' := [(0, .ref 143), (1, .ref 150), (2, .int (0 : Int32))]) h_m237 (z_at.mk 1 rfl rfl) rfl rfl rfl (u := .int (xs 1)) rfl rfl rfl ?_
  refine w_cv (H.t rfl) (pc' := 7) (L' := [(0, .ref 143), (1, .ref 150), (2, .int (0 : Int32))]) (rest := []) (Ps := [.int (xs 1)]) (L0 := [(0, .ref 143), (1, .int (xs 1))]) h_m237 (z_at.mk 3 rfl rfl) (Or.inl ⟨rfl, rfl⟩) rfl rfl (by decide) (by decide) rfl rfl rfl rfl rfl rfl (by decide) rfl rfl rfl ?_
  refine w_p h_m236 2 (pc' := 3) (L' := [(0, .ref 143), (1, .int (xs 1))]) (st' := [.int (9 : Int32), .int (xs 1)]) rfl ?_
  refine w_f2 (pc' := 6) (L' := [(0, .ref 143), (1, .int (xs 1))]) h_m236 (z_at.mk 3 rfl rfl) rfl (zc (a := (xs 1).toInt) (b := 9) rfl rfl (decide_eq_false (by omega))) rfl rfl ?_
  refine w_p h_m236 4 (pc' := 11) (L' := [(0, .ref 143), (1, .int (xs 1))]) (st' := [.int ((xs 1) / (10 : Int32)), .ref 143]) rfl ?_
  have k_20 := zi_div (x := xs 1) (y := (10 : Int32)) (a := (xs 1).toInt) (b := 10) rfl rfl (by omega) (by omega)
  refine w_cv (H.t rfl) (pc' := 14) (L' := [(0, .ref 143), (1, .int (xs 1))]) (rest := []) (Ps := [.int ((xs 1) / (10 : Int32))]) (L0 := [(0, .ref 143), (1, .int ((xs 1) / (10 : Int32)))]) h_m236 (z_at.mk 3 rfl rfl) (Or.inl ⟨rfl, rfl⟩) rfl rfl (by decide) (by decide) rfl rfl rfl rfl rfl rfl (by decide) rfl rfl rfl ?_
  refine w_p h_m236 2 (pc' := 3) (L' := [(0, .ref 143), (1, .int ((xs 1) / (10 : Int32)))]) (st' := [.int (9 : Int32), .int ((xs 1) / (10 : Int32))]) rfl ?_
  refine w_t2 (pc' := 14) (L' := [(0, .ref 143), (1, .int ((xs 1) / (10 : Int32)))]) h_m236 (z_at.mk 3 rfl rfl) rfl (zc (a := ((xs 1) / (10 : Int32)).toInt) (b := 9) rfl rfl (decide_eq_true (by omega))) rfl rfl ?_
  refine w_p h_m236 6 (pc' := 22) (L' := [(0, .ref 143), (1, .int ((xs 1) / (10 : Int32)))]) (st' := [.int ((48 : Int32) + (((xs 1) / (10 : Int32)) - ((xs 1) / (10 : Int32)) / (10 : Int32) * (10 : Int32))), .ref 143]) rfl ?_
  refine w_cv (H.t rfl) (pc' := 25) (L' := [(0, .ref 143), (1, .int ((xs 1) / (10 : Int32)))]) (rest := []) (Ps := [.int ((48 : Int32) + (((xs 1) / (10 : Int32)) - ((xs 1) / (10 : Int32)) / (10 : Int32) * (10 : Int32)))]) (L0 := [(0, .ref 143), (1, .int ((48 : Int32) + (((xs 1) / (10 : Int32)) - ((xs 1) / (10 : Int32)) / (10 : Int32) * (10 : Int32))))]) h_m236 (z_at.mk 3 rfl rfl) (Or.inl ⟨rfl, rfl⟩) rfl rfl (by decide) (by decide) rfl rfl rfl rfl rfl rfl (by decide) rfl rfl rfl ?_
  refine w_p h_m234 1 (pc' := 1) (L' := [(0, .ref 143), (1, .int ((48 : Int32) + (((xs 1) / (10 : Int32)) - ((xs 1) / (10 : Int32)) / (10 : Int32) * (10 : Int32))))]) (st' := [.ref 143]) rfl ?_
  refine w_gf H (pc' := 4) (L' := [(0, .ref 143), (1, .int ((48 : Int32) + (((xs 1) / (10 : Int32)) - ((xs 1) / (10 : Int32)) / (10 : Int32) * (10 : Int32))))]) h_m234 (z_at.mk 3 rfl rfl) rfl (u := .ref 163) rfl rfl rfl ?_
  refine w_p h_m234 1 (pc' := 5) (L' := [(0, .ref 143), (1, .int ((48 : Int32) + (((xs 1) / (10 : Int32)) - ((xs 1) / (10 : Int32)) / (10 : Int32) * (10 : Int32))))]) (st' := [.ref 143, .ref 163]) rfl ?_
  refine w_gf H (pc' := 8) (L' := [(0, .ref 143), (1, .int ((48 : Int32) + (((xs 1) / (10 : Int32)) - ((xs 1) / (10 : Int32)) / (10 : Int32) * (10 : Int32))))]) h_m234 (z_at.mk 3 rfl rfl) rfl (u := .int (4 : Int32)) rfl rfl rfl ?_
  refine w_p h_m234 1 (pc' := 9) (L' := [(0, .ref 143), (1, .int ((48 : Int32) + (((xs 1) / (10 : Int32)) - ((xs 1) / (10 : Int32)) / (10 : Int32) * (10 : Int32))))]) (st' := [.int ((48 : Int32) + (((xs 1) / (10 : Int32)) - ((xs 1) / (10 : Int32)) / (10 : Int32) * (10 : Int32))), .int (4 : Int32), .ref 163]) rfl ?_
  refine w_as H (t := 0) (j := 4) (u := .int ((48 : Int32) + (((xs 1) / (10 : Int32)) - ((xs 1) / (10 : Int32)) / (10 : Int32) * (10 : Int32)))) (0, 40000, [(4, .int ((48 : Int32) + (((xs 1) / (10 : Int32)) - ((xs 1) / (10 : Int32)) / (10 : Int32) * (10 : Int32)))), (3, .int (32 : Int32)), (2, .int (107 : Int32)), (1, .int (115 : Int32)), (0, .int (97 : Int32))], some (.int (0 : Int32))) (pc' := 10) (L' := [(0, .ref 143), (1, .int ((48 : Int32) + (((xs 1) / (10 : Int32)) - ((xs 1) / (10 : Int32)) / (10 : Int32) * (10 : Int32))))]) h_m234 (z_at.mk 1 rfl rfl) rfl rfl (w_ui _ _ (by decide)) rfl rfl rfl rfl ?_
  clear H m; intro m H
  refine w_p h_m234 2 (pc' := 12) (L' := [(0, .ref 143), (1, .int ((48 : Int32) + (((xs 1) / (10 : Int32)) - ((xs 1) / (10 : Int32)) / (10 : Int32) * (10 : Int32))))]) (st' := [.ref 143, .ref 143]) rfl ?_
  refine w_gf H (pc' := 15) (L' := [(0, .ref 143), (1, .int ((48 : Int32) + (((xs 1) / (10 : Int32)) - ((xs 1) / (10 : Int32)) / (10 : Int32) * (10 : Int32))))]) h_m234 (z_at.mk 3 rfl rfl) rfl (u := .int (4 : Int32)) rfl rfl rfl ?_
  refine w_p h_m234 2 (pc' := 17) (L' := [(0, .ref 143), (1, .int ((48 : Int32) + (((xs 1) / (10 : Int32)) - ((xs 1) / (10 : Int32)) / (10 : Int32) * (10 : Int32))))]) (st' := [.int (5 : Int32), .ref 143]) rfl ?_
  refine w_pf H (22, 35, [(29, .int (5 : Int32)), (10, .int (1 : Int32)), (34, .ref 167), (33, .ref 166), (31, .ref 165), (30, .ref 164), (28, .ref 163), (26, .ref 162), (25, .ref 161), (24, .ref 160), (19, .ref 159), (18, .ref 158), (17, .ref 157), (16, .ref 156), (13, .ref 155), (12, .ref 154), (11, .ref 153), (9, .ref 152), (8, .ref 151), (7, .ref 150), (5, .ref 149), (4, .ref 148), (3, .ref 147), (2, .ref 146), (1, .ref 145), (0, .ref 144), (6, .int (0 : Int32)), (14, .int (0 : Int32)), (15, .int (0 : Int32)), (20, .int (0 : Int32)), (21, .int (0 : Int32)), (22, .int (0 : Int32)), (23, .int (0 : Int32)), (27, .int (0 : Int32)), (32, .int (0 : Int32))], none) (pc' := 20) (L' := [(0, .ref 143), (1, .int ((48 : Int32) + (((xs 1) / (10 : Int32)) - ((xs 1) / (10 : Int32)) / (10 : Int32) * (10 : Int32))))]) h_m234 (z_at.mk 3 rfl rfl) rfl (by decide) rfl (Or.inl rfl) rfl rfl rfl ?_
  clear H m; intro m H
  refine w_rv h_m234 (z_at.mk 1 rfl rfl) rfl ?_
  show z_W 996 236 25 [(0, .ref 143), (1, .int ((xs 1) / (10 : Int32)))] [] m _
  refine w_rv h_m236 (z_at.mk 1 rfl rfl) rfl ?_
  show z_W 997 236 14 [(0, .ref 143), (1, .int (xs 1))] [] m _
  refine w_p h_m236 6 (pc' := 22) (L' := [(0, .ref 143), (1, .int (xs 1))]) (st' := [.int ((48 : Int32) + ((xs 1) - (xs 1) / (10 : Int32) * (10 : Int32))), .ref 143]) rfl ?_
  refine w_cv (H.t rfl) (pc' := 25) (L' := [(0, .ref 143), (1, .int (xs 1))]) (rest := []) (Ps := [.int ((48 : Int32) + ((xs 1) - (xs 1) / (10 : Int32) * (10 : Int32)))]) (L0 := [(0, .ref 143), (1, .int ((48 : Int32) + ((xs 1) - (xs 1) / (10 : Int32) * (10 : Int32))))]) h_m236 (z_at.mk 3 rfl rfl) (Or.inl ⟨rfl, rfl⟩) rfl rfl (by decide) (by decide) rfl rfl rfl rfl rfl rfl (by decide) rfl rfl rfl ?_
  refine w_p h_m234 1 (pc' := 1) (L' := [(0, .ref 143), (1, .int ((48 : Int32) + ((xs 1) - (xs 1) / (10 : Int32) * (10 : Int32))))]) (st' := [.ref 143]) rfl ?_
  refine w_gf H (pc' := 4) (L' := [(0, .ref 143), (1, .int ((48 : Int32) + ((xs 1) - (xs 1) / (10 : Int32) * (10 : Int32))))]) h_m234 (z_at.mk 3 rfl rfl) rfl (u := .ref 163) rfl rfl rfl ?_
  refine w_p h_m234 1 (pc' := 5) (L' := [(0, .ref 143), (1, .int ((48 : Int32) + ((xs 1) - (xs 1) / (10 : Int32) * (10 : Int32))))]) (st' := [.ref 143, .ref 163]) rfl ?_
  refine w_gf H (pc' := 8) (L' := [(0, .ref 143), (1, .int ((48 : Int32) + ((xs 1) - (xs 1) / (10 : Int32) * (10 : Int32))))]) h_m234 (z_at.mk 3 rfl rfl) rfl (u := .int (5 : Int32)) rfl rfl rfl ?_
  refine w_p h_m234 1 (pc' := 9) (L' := [(0, .ref 143), (1, .int ((48 : Int32) + ((xs 1) - (xs 1) / (10 : Int32) * (10 : Int32))))]) (st' := [.int ((48 : Int32) + ((xs 1) - (xs 1) / (10 : Int32) * (10 : Int32))), .int (5 : Int32), .ref 163]) rfl ?_
  refine w_as H (t := 0) (j := 5) (u := .int ((48 : Int32) + ((xs 1) - (xs 1) / (10 : Int32) * (10 : Int32)))) (0, 40000, [(5, .int ((48 : Int32) + ((xs 1) - (xs 1) / (10 : Int32) * (10 : Int32)))), (4, .int ((48 : Int32) + (((xs 1) / (10 : Int32)) - ((xs 1) / (10 : Int32)) / (10 : Int32) * (10 : Int32)))), (3, .int (32 : Int32)), (2, .int (107 : Int32)), (1, .int (115 : Int32)), (0, .int (97 : Int32))], some (.int (0 : Int32))) (pc' := 10) (L' := [(0, .ref 143), (1, .int ((48 : Int32) + ((xs 1) - (xs 1) / (10 : Int32) * (10 : Int32))))]) h_m234 (z_at.mk 1 rfl rfl) rfl rfl (w_ui _ _ (by decide)) rfl rfl rfl rfl ?_
  clear H m; intro m H
  refine w_p h_m234 2 (pc' := 12) (L' := [(0, .ref 143), (1, .int ((48 : Int32) + ((xs 1) - (xs 1) / (10 : Int32) * (10 : Int32))))]) (st' := [.ref 143, .ref 143]) rfl ?_
  refine w_gf H (pc' := 15) (L' := [(0, .ref 143), (1, .int ((48 : Int32) + ((xs 1) - (xs 1) / (10 : Int32) * (10 : Int32))))]) h_m234 (z_at.mk 3 rfl rfl) rfl (u := .int (5 : Int32)) rfl rfl rfl ?_
  refine w_p h_m234 2 (pc' := 17) (L' := [(0, .ref 143), (1, .int ((48 : Int32) + ((xs 1) - (xs 1) / (10 : Int32) * (10 : Int32))))]) (st' := [.int (6 : Int32), .ref 143]) rfl ?_
  refine w_pf H (22, 35, [(29, .int (6 : Int32)), (10, .int (1 : Int32)), (34, .ref 167), (33, .ref 166), (31, .ref 165), (30, .ref 164), (28, .ref 163), (26, .ref 162), (25, .ref 161), (24, .ref 160), (19, .ref 159), (18, .ref 158), (17, .ref 157), (16, .ref 156), (13, .ref 155), (12, .ref 154), (11, .ref 153), (9, .ref 152), (8, .ref 151), (7, .ref 150), (5, .ref 149), (4, .ref 148), (3, .ref 147), (2, .ref 146), (1, .ref 145), (0, .ref 144), (6, .int (0 : Int32)), (14, .int (0 : Int32)), (15, .int (0 : Int32)), (20, .int (0 : Int32)), (21, .int (0 : Int32)), (22, .int (0 : Int32)), (23, .int (0 : Int32)), (27, .int (0 : Int32)), (32, .int (0 : Int32))], none) (pc' := 20) (L' := [(0, .ref 143), (1, .int ((48 : Int32) + ((xs 1) - (xs 1) / (10 : Int32) * (10 : Int32))))]) h_m234 (z_at.mk 3 rfl rfl) rfl (by decide) rfl (Or.inl rfl) rfl rfl rfl ?_
  clear H m; intro m H
  refine w_rv h_m234 (z_at.mk 1 rfl rfl) rfl ?_
  show z_W 997 236 25 [(0, .ref 143), (1, .int (xs 1))] [] m _
  refine w_rv h_m236 (z_at.mk 1 rfl rfl) rfl ?_
  show z_W 998 237 7 [(0, .ref 143), (1, .ref 150), (2, .int (0 : Int32))] [] m _
  refine w_p h_m237 2 (pc' := 10) (L' := [(0, .ref 143), (1, .ref 150), (2, .int (0 : Int32))]) (st' := [.int (45 : Int32), .ref 143]) rfl ?_
  refine w_cv (H.t rfl) (pc' := 13) (L' := [(0, .ref 143), (1, .ref 150), (2, .int (0 : Int32))]) (rest := []) (Ps := [.int (45 : Int32)]) (L0 := [(0, .ref 143), (1, .int (45 : Int32))]) h_m237 (z_at.mk 3 rfl rfl) (Or.inl ⟨rfl, rfl⟩) rfl rfl (by decide) (by decide) rfl rfl rfl rfl rfl rfl (by decide) rfl rfl rfl ?_
  refine w_p h_m234 1 (pc' := 1) (L' := [(0, .ref 143), (1, .int (45 : Int32))]) (st' := [.ref 143]) rfl ?_
  refine w_gf H (pc' := 4) (L' := [(0, .ref 143), (1, .int (45 : Int32))]) h_m234 (z_at.mk 3 rfl rfl) rfl (u := .ref 163) rfl rfl rfl ?_
  refine w_p h_m234 1 (pc' := 5) (L' := [(0, .ref 143), (1, .int (45 : Int32))]) (st' := [.ref 143, .ref 163]) rfl ?_
  refine w_gf H (pc' := 8) (L' := [(0, .ref 143), (1, .int (45 : Int32))]) h_m234 (z_at.mk 3 rfl rfl) rfl (u := .int (6 : Int32)) rfl rfl rfl ?_
  refine w_p h_m234 1 (pc' := 9) (L' := [(0, .ref 143), (1, .int (45 : Int32))]) (st' := [.int (45 : Int32), .int (6 : Int32), .ref 163]) rfl ?_
  refine w_as H (t := 0) (j := 6) (u := .int (45 : Int32)) (0, 40000, [(6, .int (45 : Int32)), (5, .int ((48 : Int32) + ((xs 1) - (xs 1) / (10 : Int32) * (10 : Int32)))), (4, .int ((48 : Int32) + (((xs 1) / (10 : Int32)) - ((xs 1) / (10 : Int32)) / (10 : Int32) * (10 : Int32)))), (3, .int (32 : Int32)), (2, .int (107 : Int32)), (1, .int (115 : Int32)), (0, .int (97 : Int32))], some (.int (0 : Int32))) (pc' := 10) (L' := [(0, .ref 143), (1, .int (45 : Int32))]) h_m234 (z_at.mk 1 rfl rfl) rfl rfl (w_ui _ _ (by decide)) rfl rfl rfl rfl ?_
  clear H m; intro m H
  refine w_p h_m234 2 (pc' := 12) (L' := [(0, .ref 143), (1, .int (45 : Int32))]) (st' := [.ref 143, .ref 143]) rfl ?_
  refine w_gf H (pc' := 15) (L' := [(0, .ref 143), (1, .int (45 : Int32))]) h_m234 (z_at.mk 3 rfl rfl) rfl (u := .int (6 : Int32)) rfl rfl rfl ?_
  refine w_p h_m234 2 (pc' := 17) (L' := [(0, .ref 143), (1, .int (45 : Int32))]) (st' := [.int (7 : Int32), .ref 143]) rfl ?_
  refine w_pf H (22, 35, [(29, .int (7 : Int32)), (10, .int (1 : Int32)), (34, .ref 167), (33, .ref 166), (31, .ref 165), (30, .ref 164), (28, .ref 163), (26, .ref 162), (25, .ref 161), (24, .ref 160), (19, .ref 159), (18, .ref 158), (17, .ref 157), (16, .ref 156), (13, .ref 155), (12, .ref 154), (11, .ref 153), (9, .ref 152), (8, .ref 151), (7, .ref 150), (5, .ref 149), (4, .ref 148), (3, .ref 147), (2, .ref 146), (1, .ref 145), (0, .ref 144), (6, .int (0 : Int32)), (14, .int (0 : Int32)), (15, .int (0 : Int32)), (20, .int (0 : Int32)), (21, .int (0 : Int32)), (22, .int (0 : Int32)), (23, .int (0 : Int32)), (27, .int (0 : Int32)), (32, .int (0 : Int32))], none) (pc' := 20) (L' := [(0, .ref 143), (1, .int (45 : Int32))]) h_m234 (z_at.mk 3 rfl rfl) rfl (by decide) rfl (Or.inl rfl) rfl rfl rfl ?_
  clear H m; intro m H
  refine w_rv h_m234 (z_at.mk 1 rfl rfl) rfl ?_
  show z_W 998 237 13 [(0, .ref 143), (1, .ref 150), (2, .int (0 : Int32))] [] m _
  refine w_p h_m237 5 (pc' := 18) (L' := [(0, .ref 143), (1, .ref 150), (2, .int (0 : Int32))]) (st' := [.int (1 : Int32), .ref 150, .ref 143]) rfl ?_
  refine w_al H (t := 0) (j := 1) (pc' := 19) (L' := [(0, .ref 143), (1, .ref 150), (2, .int (0 : Int32))]) h_m237 (z_at.mk 1 rfl rfl) rfl rfl rfl (u := .int (xs 2)) rfl rfl rfl ?_
  refine w_cv (H.t rfl) (pc' := 22) (L' := [(0, .ref 143), (1, .ref 150), (2, .int (0 : Int32))]) (rest := []) (Ps := [.int (xs 2)]) (L0 := [(0, .ref 143), (1, .int (xs 2))]) h_m237 (z_at.mk 3 rfl rfl) (Or.inl ⟨rfl, rfl⟩) rfl rfl (by decide) (by decide) rfl rfl rfl rfl rfl rfl (by decide) rfl rfl rfl ?_
  refine w_p h_m236 2 (pc' := 3) (L' := [(0, .ref 143), (1, .int (xs 2))]) (st' := [.int (9 : Int32), .int (xs 2)]) rfl ?_
  refine w_f2 (pc' := 6) (L' := [(0, .ref 143), (1, .int (xs 2))]) h_m236 (z_at.mk 3 rfl rfl) rfl (zc (a := (xs 2).toInt) (b := 9) rfl rfl (decide_eq_false (by omega))) rfl rfl ?_
  refine w_p h_m236 4 (pc' := 11) (L' := [(0, .ref 143), (1, .int (xs 2))]) (st' := [.int ((xs 2) / (10 : Int32)), .ref 143]) rfl ?_
  have k_21 := zi_div (x := xs 2) (y := (10 : Int32)) (a := (xs 2).toInt) (b := 10) rfl rfl (by omega) (by omega)
  refine w_cv (H.t rfl) (pc' := 14) (L' := [(0, .ref 143), (1, .int (xs 2))]) (rest := []) (Ps := [.int ((xs 2) / (10 : Int32))]) (L0 := [(0, .ref 143), (1, .int ((xs 2) / (10 : Int32)))]) h_m236 (z_at.mk 3 rfl rfl) (Or.inl ⟨rfl, rfl⟩) rfl rfl (by decide) (by decide) rfl rfl rfl rfl rfl rfl (by decide) rfl rfl rfl ?_
  refine w_p h_m236 2 (pc' := 3) (L' := [(0, .ref 143), (1, .int ((xs 2) / (10 : Int32)))]) (st' := [.int (9 : Int32), .int ((xs 2) / (10 : Int32))]) rfl ?_
  refine w_t2 (pc' := 14) (L' := [(0, .ref 143), (1, .int ((xs 2) / (10 : Int32)))]) h_m236 (z_at.mk 3 rfl rfl) rfl (zc (a := ((xs 2) / (10 : Int32)).toInt) (b := 9) rfl rfl (decide_eq_true (by omega))) rfl rfl ?_
  refine w_p h_m236 6 (pc' := 22) (L' := [(0, .ref 143), (1, .int ((xs 2) / (10 : Int32)))]) (st' := [.int ((48 : Int32) + (((xs 2) / (10 : Int32)) - ((xs 2) / (10 : Int32)) / (10 : Int32) * (10 : Int32))), .ref 143]) rfl ?_
  refine w_cv (H.t rfl) (pc' := 25) (L' := [(0, .ref 143), (1, .int ((xs 2) / (10 : Int32)))]) (rest := []) (Ps := [.int ((48 : Int32) + (((xs 2) / (10 : Int32)) - ((xs 2) / (10 : Int32)) / (10 : Int32) * (10 : Int32)))]) (L0 := [(0, .ref 143), (1, .int ((48 : Int32) + (((xs 2) / (10 : Int32)) - ((xs 2) / (10 : Int32)) / (10 : Int32) * (10 : Int32))))]) h_m236 (z_at.mk 3 rfl rfl) (Or.inl ⟨rfl, rfl⟩) rfl rfl (by decide) (by decide) rfl rfl rfl rfl rfl rfl (by decide) rfl rfl rfl ?_
  refine w_p h_m234 1 (pc' := 1) (L' := [(0, .ref 143), (1, .int ((48 : Int32) + (((xs 2) / (10 : Int32)) - ((xs 2) / (10 : Int32)) / (10 : Int32) * (10 : Int32))))]) (st' := [.ref 143]) rfl ?_
  refine w_gf H (pc' := 4) (L' := [(0, .ref 143), (1, .int ((48 : Int32) + (((xs 2) / (10 : Int32)) - ((xs 2) / (10 : Int32)) / (10 : Int32) * (10 : Int32))))]) h_m234 (z_at.mk 3 rfl rfl) rfl (u := .ref 163) rfl rfl rfl ?_
  refine w_p h_m234 1 (pc' := 5) (L' := [(0, .ref 143), (1, .int ((48 : Int32) + (((xs 2) / (10 : Int32)) - ((xs 2) / (10 : Int32)) / (10 : Int32) * (10 : Int32))))]) (st' := [.ref 143, .ref 163]) rfl ?_
  refine w_gf H (pc' := 8) (L' := [(0, .ref 143), (1, .int ((48 : Int32) + (((xs 2) / (10 : Int32)) - ((xs 2) / (10 : Int32)) / (10 : Int32) * (10 : Int32))))]) h_m234 (z_at.mk 3 rfl rfl) rfl (u := .int (7 : Int32)) rfl rfl rfl ?_
  refine w_p h_m234 1 (pc' := 9) (L' := [(0, .ref 143), (1, .int ((48 : Int32) + (((xs 2) / (10 : Int32)) - ((xs 2) / (10 : Int32)) / (10 : Int32) * (10 : Int32))))]) (st' := [.int ((48 : Int32) + (((xs 2) / (10 : Int32)) - ((xs 2) / (10 : Int32)) / (10 : Int32) * (10 : Int32))), .int (7 : Int32), .ref 163]) rfl ?_
  refine w_as H (t := 0) (j := 7) (u := .int ((48 : Int32) + (((xs 2) / (10 : Int32)) - ((xs 2) / (10 : Int32)) / (10 : Int32) * (10 : Int32)))) (0, 40000, [(7, .int ((48 : Int32) + (((xs 2) / (10 : Int32)) - ((xs 2) / (10 : Int32)) / (10 : Int32) * (10 : Int32)))), (6, .int (45 : Int32)), (5, .int ((48 : Int32) + ((xs 1) - (xs 1) / (10 : Int32) * (10 : Int32)))), (4, .int ((48 : Int32) + (((xs 1) / (10 : Int32)) - ((xs 1) / (10 : Int32)) / (10 : Int32) * (10 : Int32)))), (3, .int (32 : Int32)), (2, .int (107 : Int32)), (1, .int (115 : Int32)), (0, .int (97 : Int32))], some (.int (0 : Int32))) (pc' := 10) (L' := [(0, .ref 143), (1, .int ((48 : Int32) + (((xs 2) / (10 : Int32)) - ((xs 2) / (10 : Int32)) / (10 : Int32) * (10 : Int32))))]) h_m234 (z_at.mk 1 rfl rfl) rfl rfl (w_ui _ _ (by decide)) rfl rfl rfl rfl ?_
  clear H m; intro m H
  refine w_p h_m234 2 (pc' := 12) (L' := [(0, .ref 143), (1, .int ((48 : Int32) + (((xs 2) / (10 : Int32)) - ((xs 2) / (10 : Int32)) / (10 : Int32) * (10 : Int32))))]) (st' := [.ref 143, .ref 143]) rfl ?_
  refine w_gf H (pc' := 15) (L' := [(0, .ref 143), (1, .int ((48 : Int32) + (((xs 2) / (10 : Int32)) - ((xs 2) / (10 : Int32)) / (10 : Int32) * (10 : Int32))))]) h_m234 (z_at.mk 3 rfl rfl) rfl (u := .int (7 : Int32)) rfl rfl rfl ?_
  refine w_p h_m234 2 (pc' := 17) (L' := [(0, .ref 143), (1, .int ((48 : Int32) + (((xs 2) / (10 : Int32)) - ((xs 2) / (10 : Int32)) / (10 : Int32) * (10 : Int32))))]) (st' := [.int (8 : Int32), .ref 143]) rfl ?_
  refine w_pf H (22, 35, [(29, .int (8 : Int32)), (10, .int (1 : Int32)), (34, .ref 167), (33, .ref 166), (31, .ref 165), (30, .ref 164), (28, .ref 163), (26, .ref 162), (25, .ref 161), (24, .ref 160), (19, .ref 159), (18, .ref 158), (17, .ref 157), (16, .ref 156), (13, .ref 155), (12, .ref 154), (11, .ref 153), (9, .ref 152), (8, .ref 151), (7, .ref 150), (5, .ref 149), (4, .ref 148), (3, .ref 147), (2, .ref 146), (1, .ref 145), (0, .ref 144), (6, .int (0 : Int32)), (14, .int (0 : Int32)), (15, .int (0 : Int32)), (20, .int (0 : Int32)), (21, .int (0 : Int32)), (22, .int (0 : Int32)), (23, .int (0 : Int32)), (27, .int (0 : Int32)), (32, .int (0 : Int32))], none) (pc' := 20) (L' := [(0, .ref 143), (1, .int ((48 : Int32) + (((xs 2) / (10 : Int32)) - ((xs 2) / (10 : Int32)) / (10 : Int32) * (10 : Int32))))]) h_m234 (z_at.mk 3 rfl rfl) rfl (by decide) rfl (Or.inl rfl) rfl rfl rfl ?_
  clear H m; intro m H
  refine w_rv h_m234 (z_at.mk 1 rfl rfl) rfl ?_
  show z_W 996 236 25 [(0, .ref 143), (1, .int ((xs 2) / (10 : Int32)))] [] m _
  refine w_rv h_m236 (z_at.mk 1 rfl rfl) rfl ?_
  show z_W 997 236 14 [(0, .ref 143), (1, .int (xs 2))] [] m _
  refine w_p h_m236 6 (pc' := 22) (L' := [(0, .ref 143), (1, .int (xs 2))]) (st' := [.int ((48 : Int32) + ((xs 2) - (xs 2) / (10 : Int32) * (10 : Int32))), .ref 143]) rfl ?_
  refine w_cv (H.t rfl) (pc' := 25) (L' := [(0, .ref 143), (1, .int (xs 2))]) (rest := []) (Ps := [.int ((48 : Int32) + ((xs 2) - (xs 2) / (10 : Int32) * (10 : Int32)))]) (L0 := [(0, .ref 143), (1, .int ((48 : Int32) + ((xs 2) - (xs 2) / (10 : Int32) * (10 : Int32))))]) h_m236 (z_at.mk 3 rfl rfl) (Or.inl ⟨rfl, rfl⟩) rfl rfl (by decide) (by decide) rfl rfl rfl rfl rfl rfl (by decide) rfl rfl rfl ?_
  refine w_p h_m234 1 (pc' := 1) (L' := [(0, .ref 143), (1, .int ((48 : Int32) + ((xs 2) - (xs 2) / (10 : Int32) * (10 : Int32))))]) (st' := [.ref 143]) rfl ?_
  refine w_gf H (pc' := 4) (L' := [(0, .ref 143), (1, .int ((48 : Int32) + ((xs 2) - (xs 2) / (10 : Int32) * (10 : Int32))))]) h_m234 (z_at.mk 3 rfl rfl) rfl (u := .ref 163) rfl rfl rfl ?_
  refine w_p h_m234 1 (pc' := 5) (L' := [(0, .ref 143), (1, .int ((48 : Int32) + ((xs 2) - (xs 2) / (10 : Int32) * (10 : Int32))))]) (st' := [.ref 143, .ref 163]) rfl ?_
  refine w_gf H (pc' := 8) (L' := [(0, .ref 143), (1, .int ((48 : Int32) + ((xs 2) - (xs 2) / (10 : Int32) * (10 : Int32))))]) h_m234 (z_at.mk 3 rfl rfl) rfl (u := .int (8 : Int32)) rfl rfl rfl ?_
  refine w_p h_m234 1 (pc' := 9) (L' := [(0, .ref 143), (1, .int ((48 : Int32) + ((xs 2) - (xs 2) / (10 : Int32) * (10 : Int32))))]) (st' := [.int ((48 : Int32) + ((xs 2) - (xs 2) / (10 : Int32) * (10 : Int32))), .int (8 : Int32), .ref 163]) rfl ?_
  refine w_as H (t := 0) (j := 8) (u := .int ((48 : Int32) + ((xs 2) - (xs 2) / (10 : Int32) * (10 : Int32)))) (0, 40000, [(8, .int ((48 : Int32) + ((xs 2) - (xs 2) / (10 : Int32) * (10 : Int32)))), (7, .int ((48 : Int32) + (((xs 2) / (10 : Int32)) - ((xs 2) / (10 : Int32)) / (10 : Int32) * (10 : Int32)))), (6, .int (45 : Int32)), (5, .int ((48 : Int32) + ((xs 1) - (xs 1) / (10 : Int32) * (10 : Int32)))), (4, .int ((48 : Int32) + (((xs 1) / (10 : Int32)) - ((xs 1) / (10 : Int32)) / (10 : Int32) * (10 : Int32)))), (3, .int (32 : Int32)), (2, .int (107 : Int32)), (1, .int (115 : Int32)), (0, .int (97 : Int32))], some (.int (0 : Int32))) (pc' := 10) (L' := [(0, .ref 143), (1, .int ((48 : Int32) + ((xs 2) - (xs 2) / (10 : Int32) * (10 : Int32))))]) h_m234 (z_at.mk 1 rfl rfl) rfl rfl (w_ui _ _ (by decide)) rfl rfl rfl rfl ?_
  clear H m; intro m H
  refine w_p h_m234 2 (pc' := 12) (L' := [(0, .ref 143), (1, .int ((48 : Int32) + ((xs 2) - (xs 2) / (10 : Int32) * (10 : Int32))))]) (st' := [.ref 143, .ref 143]) rfl ?_
  refine w_gf H (pc' := 15) (L' := [(0, .ref 143), (1, .int ((48 : Int32) + ((xs 2) - (xs 2) / (10 : Int32) * (10 : Int32))))]) h_m234 (z_at.mk 3 rfl rfl) rfl (u := .int (8 : Int32)) rfl rfl rfl ?_
  refine w_p h_m234 2 (pc' := 17) (L' := [(0, .ref 143), (1, .int ((48 : Int32) + ((xs 2) - (xs 2) / (10 : Int32) * (10 : Int32))))]) (st' := [.int (9 : Int32), .ref 143]) rfl ?_
  refine w_pf H (22, 35, [(29, .int (9 : Int32)), (10, .int (1 : Int32)), (34, .ref 167), (33, .ref 166), (31, .ref 165), (30, .ref 164), (28, .ref 163), (26, .ref 162), (25, .ref 161), (24, .ref 160), (19, .ref 159), (18, .ref 158), (17, .ref 157), (16, .ref 156), (13, .ref 155), (12, .ref 154), (11, .ref 153), (9, .ref 152), (8, .ref 151), (7, .ref 150), (5, .ref 149), (4, .ref 148), (3, .ref 147), (2, .ref 146), (1, .ref 145), (0, .ref 144), (6, .int (0 : Int32)), (14, .int (0 : Int32)), (15, .int (0 : Int32)), (20, .int (0 : Int32)), (21, .int (0 : Int32)), (22, .int (0 : Int32)), (23, .int (0 : Int32)), (27, .int (0 : Int32)), (32, .int (0 : Int32))], none) (pc' := 20) (L' := [(0, .ref 143), (1, .int ((48 : Int32) + ((xs 2) - (xs 2) / (10 : Int32) * (10 : Int32))))]) h_m234 (z_at.mk 3 rfl rfl) rfl (by decide) rfl (Or.inl rfl) rfl rfl rfl ?_
  clear H m; intro m H
  refine w_rv h_m234 (z_at.mk 1 rfl rfl) rfl ?_
  show z_W 997 236 25 [(0, .ref 143), (1, .int (xs 2))] [] m _
  refine w_rv h_m236 (z_at.mk 1 rfl rfl) rfl ?_
  show z_W 998 237 22 [(0, .ref 143), (1, .ref 150), (2, .int (0 : Int32))] [] m _
  refine w_p h_m237 2 (pc' := 25) (L' := [(0, .ref 143), (1, .ref 150), (2, .int (0 : Int32))]) (st' := [.int (44 : Int32), .ref 143]) rfl ?_
  refine w_cv (H.t rfl) (pc' := 28) (L' := [(0, .ref 143), (1, .ref 150), (2, .int (0 : Int32))]) (rest := []) (Ps := [.int (44 : Int32)]) (L0 := [(0, .ref 143), (1, .int (44 : Int32))]) h_m237 (z_at.mk 3 rfl rfl) (Or.inl ⟨rfl, rfl⟩) rfl rfl (by decide) (by decide) rfl rfl rfl rfl rfl rfl (by decide) rfl rfl rfl ?_
  refine w_p h_m234 1 (pc' := 1) (L' := [(0, .ref 143), (1, .int (44 : Int32))]) (st' := [.ref 143]) rfl ?_
  refine w_gf H (pc' := 4) (L' := [(0, .ref 143), (1, .int (44 : Int32))]) h_m234 (z_at.mk 3 rfl rfl) rfl (u := .ref 163) rfl rfl rfl ?_
  refine w_p h_m234 1 (pc' := 5) (L' := [(0, .ref 143), (1, .int (44 : Int32))]) (st' := [.ref 143, .ref 163]) rfl ?_
  refine w_gf H (pc' := 8) (L' := [(0, .ref 143), (1, .int (44 : Int32))]) h_m234 (z_at.mk 3 rfl rfl) rfl (u := .int (9 : Int32)) rfl rfl rfl ?_
  refine w_p h_m234 1 (pc' := 9) (L' := [(0, .ref 143), (1, .int (44 : Int32))]) (st' := [.int (44 : Int32), .int (9 : Int32), .ref 163]) rfl ?_
  refine w_as H (t := 0) (j := 9) (u := .int (44 : Int32)) (0, 40000, [(9, .int (44 : Int32)), (8, .int ((48 : Int32) + ((xs 2) - (xs 2) / (10 : Int32) * (10 : Int32)))), (7, .int ((48 : Int32) + (((xs 2) / (10 : Int32)) - ((xs 2) / (10 : Int32)) / (10 : Int32) * (10 : Int32)))), (6, .int (45 : Int32)), (5, .int ((48 : Int32) + ((xs 1) - (xs 1) / (10 : Int32) * (10 : Int32)))), (4, .int ((48 : Int32) + (((xs 1) / (10 : Int32)) - ((xs 1) / (10 : Int32)) / (10 : Int32) * (10 : Int32)))), (3, .int (32 : Int32)), (2, .int (107 : Int32)), (1, .int (115 : Int32)), (0, .int (97 : Int32))], some (.int (0 : Int32))) (pc' := 10) (L' := [(0, .ref 143), (1, .int (44 : Int32))]) h_m234 (z_at.mk 1 rfl rfl) rfl rfl (w_ui _ _ (by decide)) rfl rfl rfl rfl ?_
  clear H m; intro m H
  refine w_p h_m234 2 (pc' := 12) (L' := [(0, .ref 143), (1, .int (44 : Int32))]) (st' := [.ref 143, .ref 143]) rfl ?_
  refine w_gf H (pc' := 15) (L' := [(0, .ref 143), (1, .int (44 : Int32))]) h_m234 (z_at.mk 3 rfl rfl) rfl (u := .int (9 : Int32)) rfl rfl rfl ?_
  refine w_p h_m234 2 (pc' := 17) (L' := [(0, .ref 143), (1, .int (44 : Int32))]) (st' := [.int (10 : Int32), .ref 143]) rfl ?_
  refine w_pf H (22, 35, [(29, .int (10 : Int32)), (10, .int (1 : Int32)), (34, .ref 167), (33, .ref 166), (31, .ref 165), (30, .ref 164), (28, .ref 163), (26, .ref 162), (25, .ref 161), (24, .ref 160), (19, .ref 159), (18, .ref 158), (17, .ref 157), (16, .ref 156), (13, .ref 155), (12, .ref 154), (11, .ref 153), (9, .ref 152), (8, .ref 151), (7, .ref 150), (5, .ref 149), (4, .ref 148), (3, .ref 147), (2, .ref 146), (1, .ref 145), (0, .ref 144), (6, .int (0 : Int32)), (14, .int (0 : Int32)), (15, .int (0 : Int32)), (20, .int (0 : Int32)), (21, .int (0 : Int32)), (22, .int (0 : Int32)), (23, .int (0 : Int32)), (27, .int (0 : Int32)), (32, .int (0 : Int32))], none) (pc' := 20) (L' := [(0, .ref 143), (1, .int (44 : Int32))]) h_m234 (z_at.mk 3 rfl rfl) rfl (by decide) rfl (Or.inl rfl) rfl rfl rfl ?_
  clear H m; intro m H
  refine w_rv h_m234 (z_at.mk 1 rfl rfl) rfl ?_
  show z_W 998 237 28 [(0, .ref 143), (1, .ref 150), (2, .int (0 : Int32))] [] m _
  refine w_p h_m237 5 (pc' := 33) (L' := [(0, .ref 143), (1, .ref 150), (2, .int (0 : Int32))]) (st' := [.int (2 : Int32), .ref 150, .ref 143]) rfl ?_
  refine w_al H (t := 0) (j := 2) (pc' := 34) (L' := [(0, .ref 143), (1, .ref 150), (2, .int (0 : Int32))]) h_m237 (z_at.mk 1 rfl rfl) rfl rfl rfl (u := .int (xs 3)) rfl rfl rfl ?_
  refine w_cv (H.t rfl) (pc' := 37) (L' := [(0, .ref 143), (1, .ref 150), (2, .int (0 : Int32))]) (rest := []) (Ps := [.int (xs 3)]) (L0 := [(0, .ref 143), (1, .int (xs 3))]) h_m237 (z_at.mk 3 rfl rfl) (Or.inl ⟨rfl, rfl⟩) rfl rfl (by decide) (by decide) rfl rfl rfl rfl rfl rfl (by decide) rfl rfl rfl ?_
  refine w_p h_m236 2 (pc' := 3) (L' := [(0, .ref 143), (1, .int (xs 3))]) (st' := [.int (9 : Int32), .int (xs 3)]) rfl ?_
  refine w_t2 (pc' := 14) (L' := [(0, .ref 143), (1, .int (xs 3))]) h_m236 (z_at.mk 3 rfl rfl) rfl (zc (a := (xs 3).toInt) (b := 9) rfl rfl (decide_eq_true (by omega))) rfl rfl ?_
  refine w_p h_m236 6 (pc' := 22) (L' := [(0, .ref 143), (1, .int (xs 3))]) (st' := [.int ((48 : Int32) + ((xs 3) - (xs 3) / (10 : Int32) * (10 : Int32))), .ref 143]) rfl ?_
  refine w_cv (H.t rfl) (pc' := 25) (L' := [(0, .ref 143), (1, .int (xs 3))]) (rest := []) (Ps := [.int ((48 : Int32) + ((xs 3) - (xs 3) / (10 : Int32) * (10 : Int32)))]) (L0 := [(0, .ref 143), (1, .int ((48 : Int32) + ((xs 3) - (xs 3) / (10 : Int32) * (10 : Int32))))]) h_m236 (z_at.mk 3 rfl rfl) (Or.inl ⟨rfl, rfl⟩) rfl rfl (by decide) (by decide) rfl rfl rfl rfl rfl rfl (by decide) rfl rfl rfl ?_
  refine w_p h_m234 1 (pc' := 1) (L' := [(0, .ref 143), (1, .int ((48 : Int32) + ((xs 3) - (xs 3) / (10 : Int32) * (10 : Int32))))]) (st' := [.ref 143]) rfl ?_
  refine w_gf H (pc' := 4) (L' := [(0, .ref 143), (1, .int ((48 : Int32) + ((xs 3) - (xs 3) / (10 : Int32) * (10 : Int32))))]) h_m234 (z_at.mk 3 rfl rfl) rfl (u := .ref 163) rfl rfl rfl ?_
  refine w_p h_m234 1 (pc' := 5) (L' := [(0, .ref 143), (1, .int ((48 : Int32) + ((xs 3) - (xs 3) / (10 : Int32) * (10 : Int32))))]) (st' := [.ref 143, .ref 163]) rfl ?_
  refine w_gf H (pc' := 8) (L' := [(0, .ref 143), (1, .int ((48 : Int32) + ((xs 3) - (xs 3) / (10 : Int32) * (10 : Int32))))]) h_m234 (z_at.mk 3 rfl rfl) rfl (u := .int (10 : Int32)) rfl rfl rfl ?_
  refine w_p h_m234 1 (pc' := 9) (L' := [(0, .ref 143), (1, .int ((48 : Int32) + ((xs 3) - (xs 3) / (10 : Int32) * (10 : Int32))))]) (st' := [.int ((48 : Int32) + ((xs 3) - (xs 3) / (10 : Int32) * (10 : Int32))), .int (10 : Int32), .ref 163]) rfl ?_
  refine w_as H (t := 0) (j := 10) (u := .int ((48 : Int32) + ((xs 3) - (xs 3) / (10 : Int32) * (10 : Int32)))) (0, 40000, [(10, .int ((48 : Int32) + ((xs 3) - (xs 3) / (10 : Int32) * (10 : Int32)))), (9, .int (44 : Int32)), (8, .int ((48 : Int32) + ((xs 2) - (xs 2) / (10 : Int32) * (10 : Int32)))), (7, .int ((48 : Int32) + (((xs 2) / (10 : Int32)) - ((xs 2) / (10 : Int32)) / (10 : Int32) * (10 : Int32)))), (6, .int (45 : Int32)), (5, .int ((48 : Int32) + ((xs 1) - (xs 1) / (10 : Int32) * (10 : Int32)))), (4, .int ((48 : Int32) + (((xs 1) / (10 : Int32)) - ((xs 1) / (10 : Int32)) / (10 : Int32) * (10 : Int32)))), (3, .int (32 : Int32)), (2, .int (107 : Int32)), (1, .int (115 : Int32)), (0, .int (97 : Int32))], some (.int (0 : Int32))) (pc' := 10) (L' := [(0, .ref 143), (1, .int ((48 : Int32) + ((xs 3) - (xs 3) / (10 : Int32) * (10 : Int32))))]) h_m234 (z_at.mk 1 rfl rfl) rfl rfl (w_ui _ _ (by decide)) rfl rfl rfl rfl ?_
  clear H m; intro m H
  refine w_p h_m234 2 (pc' := 12) (L' := [(0, .ref 143), (1, .int ((48 : Int32) + ((xs 3) - (xs 3) / (10 : Int32) * (10 : Int32))))]) (st' := [.ref 143, .ref 143]) rfl ?_
  refine w_gf H (pc' := 15) (L' := [(0, .ref 143), (1, .int ((48 : Int32) + ((xs 3) - (xs 3) / (10 : Int32) * (10 : Int32))))]) h_m234 (z_at.mk 3 rfl rfl) rfl (u := .int (10 : Int32)) rfl rfl rfl ?_
  refine w_p h_m234 2 (pc' := 17) (L' := [(0, .ref 143), (1, .int ((48 : Int32) + ((xs 3) - (xs 3) / (10 : Int32) * (10 : Int32))))]) (st' := [.int (11 : Int32), .ref 143]) rfl ?_
  refine w_pf H (22, 35, [(29, .int (11 : Int32)), (10, .int (1 : Int32)), (34, .ref 167), (33, .ref 166), (31, .ref 165), (30, .ref 164), (28, .ref 163), (26, .ref 162), (25, .ref 161), (24, .ref 160), (19, .ref 159), (18, .ref 158), (17, .ref 157), (16, .ref 156), (13, .ref 155), (12, .ref 154), (11, .ref 153), (9, .ref 152), (8, .ref 151), (7, .ref 150), (5, .ref 149), (4, .ref 148), (3, .ref 147), (2, .ref 146), (1, .ref 145), (0, .ref 144), (6, .int (0 : Int32)), (14, .int (0 : Int32)), (15, .int (0 : Int32)), (20, .int (0 : Int32)), (21, .int (0 : Int32)), (22, .int (0 : Int32)), (23, .int (0 : Int32)), (27, .int (0 : Int32)), (32, .int (0 : Int32))], none) (pc' := 20) (L' := [(0, .ref 143), (1, .int ((48 : Int32) + ((xs 3) - (xs 3) / (10 : Int32) * (10 : Int32))))]) h_m234 (z_at.mk 3 rfl rfl) rfl (by decide) rfl (Or.inl rfl) rfl rfl rfl ?_
  clear H m; intro m H
  refine w_rv h_m234 (z_at.mk 1 rfl rfl) rfl ?_
  show z_W 997 236 25 [(0, .ref 143), (1, .int (xs 3))] [] m _
  refine w_rv h_m236 (z_at.mk 1 rfl rfl) rfl ?_
  show z_W 998 237 37 [(0, .ref 143), (1, .ref 150), (2, .int (0 : Int32))] [] m _
  refine w_p h_m237 2 (pc' := 40) (L' := [(0, .ref 143), (1, .ref 150), (2, .int (0 : Int32))]) (st' := [.int (45 : Int32), .ref 143]) rfl ?_
  refine w_cv (H.t rfl) (pc' := 43) (L' := [(0, .ref 143), (1, .ref 150), (2, .int (0 : Int32))]) (rest := []) (Ps := [.int (45 : Int32)]) (L0 := [(0, .ref 143), (1, .int (45 : Int32))]) h_m237 (z_at.mk 3 rfl rfl) (Or.inl ⟨rfl, rfl⟩) rfl rfl (by decide) (by decide) rfl rfl rfl rfl rfl rfl (by decide) rfl rfl rfl ?_
  refine w_p h_m234 1 (pc' := 1) (L' := [(0, .ref 143), (1, .int (45 : Int32))]) (st' := [.ref 143]) rfl ?_
  refine w_gf H (pc' := 4) (L' := [(0, .ref 143), (1, .int (45 : Int32))]) h_m234 (z_at.mk 3 rfl rfl) rfl (u := .ref 163) rfl rfl rfl ?_
  refine w_p h_m234 1 (pc' := 5) (L' := [(0, .ref 143), (1, .int (45 : Int32))]) (st' := [.ref 143, .ref 163]) rfl ?_
  refine w_gf H (pc' := 8) (L' := [(0, .ref 143), (1, .int (45 : Int32))]) h_m234 (z_at.mk 3 rfl rfl) rfl (u := .int (11 : Int32)) rfl rfl rfl ?_
  refine w_p h_m234 1 (pc' := 9) (L' := [(0, .ref 143), (1, .int (45 : Int32))]) (st' := [.int (45 : Int32), .int (11 : Int32), .ref 163]) rfl ?_
  refine w_as H (t := 0) (j := 11) (u := .int (45 : Int32)) (0, 40000, [(11, .int (45 : Int32)), (10, .int ((48 : Int32) + ((xs 3) - (xs 3) / (10 : Int32) * (10 : Int32)))), (9, .int (44 : Int32)), (8, .int ((48 : Int32) + ((xs 2) - (xs 2) / (10 : Int32) * (10 : Int32)))), (7, .int ((48 : Int32) + (((xs 2) / (10 : Int32)) - ((xs 2) / (10 : Int32)) / (10 : Int32) * (10 : Int32)))), (6, .int (45 : Int32)), (5, .int ((48 : Int32) + ((xs 1) - (xs 1) / (10 : Int32) * (10 : Int32)))), (4, .int ((48 : Int32) + (((xs 1) / (10 : Int32)) - ((xs 1) / (10 : Int32)) / (10 : Int32) * (10 : Int32)))), (3, .int (32 : Int32)), (2, .int (107 : Int32)), (1, .int (115 : Int32)), (0, .int (97 : Int32))], some (.int (0 : Int32))) (pc' := 10) (L' := [(0, .ref 143), (1, .int (45 : Int32))]) h_m234 (z_at.mk 1 rfl rfl) rfl rfl (w_ui _ _ (by decide)) rfl rfl rfl rfl ?_
  clear H m; intro m H
  refine w_p h_m234 2 (pc' := 12) (L' := [(0, .ref 143), (1, .int (45 : Int32))]) (st' := [.ref 143, .ref 143]) rfl ?_
  refine w_gf H (pc' := 15) (L' := [(0, .ref 143), (1, .int (45 : Int32))]) h_m234 (z_at.mk 3 rfl rfl) rfl (u := .int (11 : Int32)) rfl rfl rfl ?_
  refine w_p h_m234 2 (pc' := 17) (L' := [(0, .ref 143), (1, .int (45 : Int32))]) (st' := [.int (12 : Int32), .ref 143]) rfl ?_
  refine w_pf H (22, 35, [(29, .int (12 : Int32)), (10, .int (1 : Int32)), (34, .ref 167), (33, .ref 166), (31, .ref 165), (30, .ref 164), (28, .ref 163), (26, .ref 162), (25, .ref 161), (24, .ref 160), (19, .ref 159), (18, .ref 158), (17, .ref 157), (16, .ref 156), (13, .ref 155), (12, .ref 154), (11, .ref 153), (9, .ref 152), (8, .ref 151), (7, .ref 150), (5, .ref 149), (4, .ref 148), (3, .ref 147), (2, .ref 146), (1, .ref 145), (0, .ref 144), (6, .int (0 : Int32)), (14, .int (0 : Int32)), (15, .int (0 : Int32)), (20, .int (0 : Int32)), (21, .int (0 : Int32)), (22, .int (0 : Int32)), (23, .int (0 : Int32)), (27, .int (0 : Int32)), (32, .int (0 : Int32))], none) (pc' := 20) (L' := [(0, .ref 143), (1, .int (45 : Int32))]) h_m234 (z_at.mk 3 rfl rfl) rfl (by decide) rfl (Or.inl rfl) rfl rfl rfl ?_
  clear H m; intro m H
  refine w_rv h_m234 (z_at.mk 1 rfl rfl) rfl ?_
  show z_W 998 237 43 [(0, .ref 143), (1, .ref 150), (2, .int (0 : Int32))] [] m _
  refine w_p h_m237 5 (pc' := 48) (L' := [(0, .ref 143), (1, .ref 150), (2, .int (0 : Int32))]) (st' := [.int (3 : Int32), .ref 150, .ref 143]) rfl ?_
  refine w_al H (t := 0) (j := 3) (pc' := 49) (L' := [(0, .ref 143), (1, .ref 150), (2, .int (0 : Int32))]) h_m237 (z_at.mk 1 rfl rfl) rfl rfl rfl (u := .int (xs 4)) rfl rfl rfl ?_
  refine w_cv (H.t rfl) (pc' := 52) (L' := [(0, .ref 143), (1, .ref 150), (2, .int (0 : Int32))]) (rest := []) (Ps := [.int (xs 4)]) (L0 := [(0, .ref 143), (1, .int (xs 4))]) h_m237 (z_at.mk 3 rfl rfl) (Or.inl ⟨rfl, rfl⟩) rfl rfl (by decide) (by decide) rfl rfl rfl rfl rfl rfl (by decide) rfl rfl rfl ?_
  refine w_p h_m236 2 (pc' := 3) (L' := [(0, .ref 143), (1, .int (xs 4))]) (st' := [.int (9 : Int32), .int (xs 4)]) rfl ?_
  refine w_t2 (pc' := 14) (L' := [(0, .ref 143), (1, .int (xs 4))]) h_m236 (z_at.mk 3 rfl rfl) rfl (zc (a := (xs 4).toInt) (b := 9) rfl rfl (decide_eq_true (by omega))) rfl rfl ?_
  refine w_p h_m236 6 (pc' := 22) (L' := [(0, .ref 143), (1, .int (xs 4))]) (st' := [.int ((48 : Int32) + ((xs 4) - (xs 4) / (10 : Int32) * (10 : Int32))), .ref 143]) rfl ?_
  refine w_cv (H.t rfl) (pc' := 25) (L' := [(0, .ref 143), (1, .int (xs 4))]) (rest := []) (Ps := [.int ((48 : Int32) + ((xs 4) - (xs 4) / (10 : Int32) * (10 : Int32)))]) (L0 := [(0, .ref 143), (1, .int ((48 : Int32) + ((xs 4) - (xs 4) / (10 : Int32) * (10 : Int32))))]) h_m236 (z_at.mk 3 rfl rfl) (Or.inl ⟨rfl, rfl⟩) rfl rfl (by decide) (by decide) rfl rfl rfl rfl rfl rfl (by decide) rfl rfl rfl ?_
  refine w_p h_m234 1 (pc' := 1) (L' := [(0, .ref 143), (1, .int ((48 : Int32) + ((xs 4) - (xs 4) / (10 : Int32) * (10 : Int32))))]) (st' := [.ref 143]) rfl ?_
  refine w_gf H (pc' := 4) (L' := [(0, .ref 143), (1, .int ((48 : Int32) + ((xs 4) - (xs 4) / (10 : Int32) * (10 : Int32))))]) h_m234 (z_at.mk 3 rfl rfl) rfl (u := .ref 163) rfl rfl rfl ?_
  refine w_p h_m234 1 (pc' := 5) (L' := [(0, .ref 143), (1, .int ((48 : Int32) + ((xs 4) - (xs 4) / (10 : Int32) * (10 : Int32))))]) (st' := [.ref 143, .ref 163]) rfl ?_
  refine w_gf H (pc' := 8) (L' := [(0, .ref 143), (1, .int ((48 : Int32) + ((xs 4) - (xs 4) / (10 : Int32) * (10 : Int32))))]) h_m234 (z_at.mk 3 rfl rfl) rfl (u := .int (12 : Int32)) rfl rfl rfl ?_
  refine w_p h_m234 1 (pc' := 9) (L' := [(0, .ref 143), (1, .int ((48 : Int32) + ((xs 4) - (xs 4) / (10 : Int32) * (10 : Int32))))]) (st' := [.int ((48 : Int32) + ((xs 4) - (xs 4) / (10 : Int32) * (10 : Int32))), .int (12 : Int32), .ref 163]) rfl ?_
  refine w_as H (t := 0) (j := 12) (u := .int ((48 : Int32) + ((xs 4) - (xs 4) / (10 : Int32) * (10 : Int32)))) (0, 40000, [(12, .int ((48 : Int32) + ((xs 4) - (xs 4) / (10 : Int32) * (10 : Int32)))), (11, .int (45 : Int32)), (10, .int ((48 : Int32) + ((xs 3) - (xs 3) / (10 : Int32) * (10 : Int32)))), (9, .int (44 : Int32)), (8, .int ((48 : Int32) + ((xs 2) - (xs 2) / (10 : Int32) * (10 : Int32)))), (7, .int ((48 : Int32) + (((xs 2) / (10 : Int32)) - ((xs 2) / (10 : Int32)) / (10 : Int32) * (10 : Int32)))), (6, .int (45 : Int32)), (5, .int ((48 : Int32) + ((xs 1) - (xs 1) / (10 : Int32) * (10 : Int32)))), (4, .int ((48 : Int32) + (((xs 1) / (10 : Int32)) - ((xs 1) / (10 : Int32)) / (10 : Int32) * (10 : Int32)))), (3, .int (32 : Int32)), (2, .int (107 : Int32)), (1, .int (115 : Int32)), (0, .int (97 : Int32))], some (.int (0 : Int32))) (pc' := 10) (L' := [(0, .ref 143), (1, .int ((48 : Int32) + ((xs 4) - (xs 4) / (10 : Int32) * (10 : Int32))))]) h_m234 (z_at.mk 1 rfl rfl) rfl rfl (w_ui _ _ (by decide)) rfl rfl rfl rfl ?_
  clear H m; intro m H
  refine w_p h_m234 2 (pc' := 12) (L' := [(0, .ref 143), (1, .int ((48 : Int32) + ((xs 4) - (xs 4) / (10 : Int32) * (10 : Int32))))]) (st' := [.ref 143, .ref 143]) rfl ?_
  refine w_gf H (pc' := 15) (L' := [(0, .ref 143), (1, .int ((48 : Int32) + ((xs 4) - (xs 4) / (10 : Int32) * (10 : Int32))))]) h_m234 (z_at.mk 3 rfl rfl) rfl (u := .int (12 : Int32)) rfl rfl rfl ?_
  refine w_p h_m234 2 (pc' := 17) (L' := [(0, .ref 143), (1, .int ((48 : Int32) + ((xs 4) - (xs 4) / (10 : Int32) * (10 : Int32))))]) (st' := [.int (13 : Int32), .ref 143]) rfl ?_
  refine w_pf H (22, 35, [(29, .int (13 : Int32)), (10, .int (1 : Int32)), (34, .ref 167), (33, .ref 166), (31, .ref 165), (30, .ref 164), (28, .ref 163), (26, .ref 162), (25, .ref 161), (24, .ref 160), (19, .ref 159), (18, .ref 158), (17, .ref 157), (16, .ref 156), (13, .ref 155), (12, .ref 154), (11, .ref 153), (9, .ref 152), (8, .ref 151), (7, .ref 150), (5, .ref 149), (4, .ref 148), (3, .ref 147), (2, .ref 146), (1, .ref 145), (0, .ref 144), (6, .int (0 : Int32)), (14, .int (0 : Int32)), (15, .int (0 : Int32)), (20, .int (0 : Int32)), (21, .int (0 : Int32)), (22, .int (0 : Int32)), (23, .int (0 : Int32)), (27, .int (0 : Int32)), (32, .int (0 : Int32))], none) (pc' := 20) (L' := [(0, .ref 143), (1, .int ((48 : Int32) + ((xs 4) - (xs 4) / (10 : Int32) * (10 : Int32))))]) h_m234 (z_at.mk 3 rfl rfl) rfl (by decide) rfl (Or.inl rfl) rfl rfl rfl ?_
  clear H m; intro m H
  refine w_rv h_m234 (z_at.mk 1 rfl rfl) rfl ?_
  show z_W 997 236 25 [(0, .ref 143), (1, .int (xs 4))] [] m _
  refine w_rv h_m236 (z_at.mk 1 rfl rfl) rfl ?_
  show z_W 998 237 52 [(0, .ref 143), (1, .ref 150), (2, .int (0 : Int32))] [] m _
  refine w_rv h_m237 (z_at.mk 1 rfl rfl) rfl ?_
  show z_W 999 239 180 [(0, .ref 143), (5, .int (0 : Int32)), (6, .int (0 : Int32))] [] m _
  refine w_p h_m239 2 (pc' := 183) (L' := [(0, .ref 143), (5, .int (0 : Int32)), (6, .int (0 : Int32))]) (st' := [.int (32 : Int32), .ref 143]) rfl ?_
  refine w_cv (H.t rfl) (pc' := 186) (L' := [(0, .ref 143), (5, .int (0 : Int32)), (6, .int (0 : Int32))]) (rest := []) (Ps := [.int (32 : Int32)]) (L0 := [(0, .ref 143), (1, .int (32 : Int32))]) h_m239 (z_at.mk 3 rfl rfl) (Or.inl ⟨rfl, rfl⟩) rfl rfl (by decide) (by decide) rfl rfl rfl rfl rfl rfl (by decide) rfl rfl rfl ?_
  refine w_p h_m234 1 (pc' := 1) (L' := [(0, .ref 143), (1, .int (32 : Int32))]) (st' := [.ref 143]) rfl ?_
  refine w_gf H (pc' := 4) (L' := [(0, .ref 143), (1, .int (32 : Int32))]) h_m234 (z_at.mk 3 rfl rfl) rfl (u := .ref 163) rfl rfl rfl ?_
  refine w_p h_m234 1 (pc' := 5) (L' := [(0, .ref 143), (1, .int (32 : Int32))]) (st' := [.ref 143, .ref 163]) rfl ?_
  refine w_gf H (pc' := 8) (L' := [(0, .ref 143), (1, .int (32 : Int32))]) h_m234 (z_at.mk 3 rfl rfl) rfl (u := .int (13 : Int32)) rfl rfl rfl ?_
  refine w_p h_m234 1 (pc' := 9) (L' := [(0, .ref 143), (1, .int (32 : Int32))]) (st' := [.int (32 : Int32), .int (13 : Int32), .ref 163]) rfl ?_
  refine w_as H (t := 0) (j := 13) (u := .int (32 : Int32)) (0, 40000, [(13, .int (32 : Int32)), (12, .int ((48 : Int32) + ((xs 4) - (xs 4) / (10 : Int32) * (10 : Int32)))), (11, .int (45 : Int32)), (10, .int ((48 : Int32) + ((xs 3) - (xs 3) / (10 : Int32) * (10 : Int32)))), (9, .int (44 : Int32)), (8, .int ((48 : Int32) + ((xs 2) - (xs 2) / (10 : Int32) * (10 : Int32)))), (7, .int ((48 : Int32) + (((xs 2) / (10 : Int32)) - ((xs 2) / (10 : Int32)) / (10 : Int32) * (10 : Int32)))), (6, .int (45 : Int32)), (5, .int ((48 : Int32) + ((xs 1) - (xs 1) / (10 : Int32) * (10 : Int32)))), (4, .int ((48 : Int32) + (((xs 1) / (10 : Int32)) - ((xs 1) / (10 : Int32)) / (10 : Int32) * (10 : Int32)))), (3, .int (32 : Int32)), (2, .int (107 : Int32)), (1, .int (115 : Int32)), (0, .int (97 : Int32))], some (.int (0 : Int32))) (pc' := 10) (L' := [(0, .ref 143), (1, .int (32 : Int32))]) h_m234 (z_at.mk 1 rfl rfl) rfl rfl (w_ui _ _ (by decide)) rfl rfl rfl rfl ?_
  clear H m; intro m H
  refine w_p h_m234 2 (pc' := 12) (L' := [(0, .ref 143), (1, .int (32 : Int32))]) (st' := [.ref 143, .ref 143]) rfl ?_
  refine w_gf H (pc' := 15) (L' := [(0, .ref 143), (1, .int (32 : Int32))]) h_m234 (z_at.mk 3 rfl rfl) rfl (u := .int (13 : Int32)) rfl rfl rfl ?_
  refine w_p h_m234 2 (pc' := 17) (L' := [(0, .ref 143), (1, .int (32 : Int32))]) (st' := [.int (14 : Int32), .ref 143]) rfl ?_
  refine w_pf H (22, 35, [(29, .int (14 : Int32)), (10, .int (1 : Int32)), (34, .ref 167), (33, .ref 166), (31, .ref 165), (30, .ref 164), (28, .ref 163), (26, .ref 162), (25, .ref 161), (24, .ref 160), (19, .ref 159), (18, .ref 158), (17, .ref 157), (16, .ref 156), (13, .ref 155), (12, .ref 154), (11, .ref 153), (9, .ref 152), (8, .ref 151), (7, .ref 150), (5, .ref 149), (4, .ref 148), (3, .ref 147), (2, .ref 146), (1, .ref 145), (0, .ref 144), (6, .int (0 : Int32)), (14, .int (0 : Int32)), (15, .int (0 : Int32)), (20, .int (0 : Int32)), (21, .int (0 : Int32)), (22, .int (0 : Int32)), (23, .int (0 : Int32)), (27, .int (0 : Int32)), (32, .int (0 : Int32))], none) (pc' := 20) (L' := [(0, .ref 143), (1, .int (32 : Int32))]) h_m234 (z_at.mk 3 rfl rfl) rfl (by decide) rfl (Or.inl rfl) rfl rfl rfl ?_
  clear H m; intro m H
  refine w_rv h_m234 (z_at.mk 1 rfl rfl) rfl ?_
  show z_W 999 239 186 [(0, .ref 143), (5, .int (0 : Int32)), (6, .int (0 : Int32))] [] m _
  refine w_p h_m239 3 (pc' := 189) (L' := [(0, .ref 143), (5, .int (0 : Int32)), (6, .int (0 : Int32))]) (st' := [.ref 143, .ref 143, .ref 143]) rfl ?_
  refine w_gf H (pc' := 192) (L' := [(0, .ref 143), (5, .int (0 : Int32)), (6, .int (0 : Int32))]) h_m239 (z_at.mk 3 rfl rfl) rfl (u := .ref 150) rfl rfl rfl ?_
  refine w_p h_m239 3 (pc' := 196) (L' := [(0, .ref 143), (5, .int (0 : Int32)), (6, .int (0 : Int32))]) (st' := [.int (0 : Int32), .ref 150, .ref 143, .ref 143]) rfl ?_
  refine w_cv (H.t rfl) (pc' := 199) (L' := [(0, .ref 143), (5, .int (0 : Int32)), (6, .int (0 : Int32))]) (rest := [.ref 143]) (Ps := [.ref 150, .int (0 : Int32)]) (L0 := [(0, .ref 143), (1, .ref 150), (2, .int (0 : Int32))]) h_m239 (z_at.mk 3 rfl rfl) (Or.inl ⟨rfl, rfl⟩) rfl rfl (by decide) (by decide) rfl rfl rfl rfl rfl rfl (by decide) rfl rfl rfl ?_
  refine w_p h_m177 1 (pc' := 1) (L' := [(0, .ref 143), (1, .ref 150), (2, .int (0 : Int32))]) (st' := [.ref 143]) rfl ?_
  refine w_gf H (pc' := 4) (L' := [(0, .ref 143), (1, .ref 150), (2, .int (0 : Int32))]) h_m177 (z_at.mk 3 rfl rfl) rfl (u := .ref 144) rfl rfl rfl ?_
  refine w_p h_m177 1 (pc' := 6) (L' := [(0, .ref 143), (1, .ref 150), (2, .int (0 : Int32))]) (st' := [.int (11 : Int32), .ref 144]) rfl ?_
  refine w_al H (t := 0) (j := 11) (pc' := 7) (L' := [(0, .ref 143), (1, .ref 150), (2, .int (0 : Int32))]) h_m177 (z_at.mk 1 rfl rfl) rfl rfl rfl (u := .int (10 : Int32)) rfl rfl rfl ?_
  refine w_p h_m177 3 (pc' := 10) (L' := [(0, .ref 143), (1, .ref 150), (2, .int (0 : Int32))]) (st' := [.int (0 : Int32), .ref 150, .ref 143, .int (10 : Int32)]) rfl ?_
  refine w_cv (H.t rfl) (pc' := 13) (L' := [(0, .ref 143), (1, .ref 150), (2, .int (0 : Int32))]) (rest := [.int (10 : Int32)]) (Ps := [.ref 150, .int (0 : Int32)]) (L0 := [(0, .ref 143), (1, .ref 150), (2, .int (0 : Int32))]) h_m177 (z_at.mk 3 rfl rfl) (Or.inl ⟨rfl, rfl⟩) rfl rfl (by decide) (by decide) rfl rfl rfl rfl rfl rfl (by decide) rfl rfl rfl ?_
  refine w_ri0 H rfl rfl rfl ?_
  clear H m; intro m H
  show z_W 998 177 13 [(0, .ref 143), (1, .ref 150), (2, .int (0 : Int32))] [.int (0 : Int32), .int (10 : Int32)] m _
  refine w_p h_m177 1 (pc' := 14) (L' := [(0, .ref 143), (1, .ref 150), (2, .int (0 : Int32))]) (st' := [.int (10 : Int32)]) rfl ?_
  refine w_ri h_m177 (z_at.mk 1 rfl rfl) rfl rfl ?_
  show z_W 999 239 199 [(0, .ref 143), (5, .int (0 : Int32)), (6, .int (0 : Int32))] [.int (10 : Int32), .ref 143] m _
  refine w_cv (H.t rfl) (pc' := 202) (L' := [(0, .ref 143), (5, .int (0 : Int32)), (6, .int (0 : Int32))]) (rest := []) (Ps := [.int (10 : Int32)]) (L0 := [(0, .ref 143), (1, .int (10 : Int32))]) h_m239 (z_at.mk 3 rfl rfl) (Or.inl ⟨rfl, rfl⟩) rfl rfl (by decide) (by decide) rfl rfl rfl rfl rfl rfl (by decide) rfl rfl rfl ?_
  refine w_p h_m236 7 (pc' := 11) (L' := [(0, .ref 143), (1, .int (10 : Int32))]) (st' := [.int (1 : Int32), .ref 143]) rfl ?_
  refine w_cv (H.t rfl) (pc' := 14) (L' := [(0, .ref 143), (1, .int (10 : Int32))]) (rest := []) (Ps := [.int (1 : Int32)]) (L0 := [(0, .ref 143), (1, .int (1 : Int32))]) h_m236 (z_at.mk 3 rfl rfl) (Or.inl ⟨rfl, rfl⟩) rfl rfl (by decide) (by decide) rfl rfl rfl rfl rfl rfl (by decide) rfl rfl rfl ?_
  refine w_p h_m236 9 (pc' := 22) (L' := [(0, .ref 143), (1, .int (1 : Int32))]) (st' := [.int (49 : Int32), .ref 143]) rfl ?_
  refine w_cv (H.t rfl) (pc' := 25) (L' := [(0, .ref 143), (1, .int (1 : Int32))]) (rest := []) (Ps := [.int (49 : Int32)]) (L0 := [(0, .ref 143), (1, .int (49 : Int32))]) h_m236 (z_at.mk 3 rfl rfl) (Or.inl ⟨rfl, rfl⟩) rfl rfl (by decide) (by decide) rfl rfl rfl rfl rfl rfl (by decide) rfl rfl rfl ?_
  refine w_p h_m234 1 (pc' := 1) (L' := [(0, .ref 143), (1, .int (49 : Int32))]) (st' := [.ref 143]) rfl ?_
  refine w_gf H (pc' := 4) (L' := [(0, .ref 143), (1, .int (49 : Int32))]) h_m234 (z_at.mk 3 rfl rfl) rfl (u := .ref 163) rfl rfl rfl ?_
  refine w_p h_m234 1 (pc' := 5) (L' := [(0, .ref 143), (1, .int (49 : Int32))]) (st' := [.ref 143, .ref 163]) rfl ?_
  refine w_gf H (pc' := 8) (L' := [(0, .ref 143), (1, .int (49 : Int32))]) h_m234 (z_at.mk 3 rfl rfl) rfl (u := .int (14 : Int32)) rfl rfl rfl ?_
  refine w_p h_m234 1 (pc' := 9) (L' := [(0, .ref 143), (1, .int (49 : Int32))]) (st' := [.int (49 : Int32), .int (14 : Int32), .ref 163]) rfl ?_
  refine w_as H (t := 0) (j := 14) (u := .int (49 : Int32)) (0, 40000, [(14, .int (49 : Int32)), (13, .int (32 : Int32)), (12, .int ((48 : Int32) + ((xs 4) - (xs 4) / (10 : Int32) * (10 : Int32)))), (11, .int (45 : Int32)), (10, .int ((48 : Int32) + ((xs 3) - (xs 3) / (10 : Int32) * (10 : Int32)))), (9, .int (44 : Int32)), (8, .int ((48 : Int32) + ((xs 2) - (xs 2) / (10 : Int32) * (10 : Int32)))), (7, .int ((48 : Int32) + (((xs 2) / (10 : Int32)) - ((xs 2) / (10 : Int32)) / (10 : Int32) * (10 : Int32)))), (6, .int (45 : Int32)), (5, .int ((48 : Int32) + ((xs 1) - (xs 1) / (10 : Int32) * (10 : Int32)))), (4, .int ((48 : Int32) + (((xs 1) / (10 : Int32)) - ((xs 1) / (10 : Int32)) / (10 : Int32) * (10 : Int32)))), (3, .int (32 : Int32)), (2, .int (107 : Int32)), (1, .int (115 : Int32)), (0, .int (97 : Int32))], some (.int (0 : Int32))) (pc' := 10) (L' := [(0, .ref 143), (1, .int (49 : Int32))]) h_m234 (z_at.mk 1 rfl rfl) rfl rfl (w_ui _ _ (by decide)) rfl rfl rfl rfl ?_
  clear H m; intro m H
  refine w_p h_m234 2 (pc' := 12) (L' := [(0, .ref 143), (1, .int (49 : Int32))]) (st' := [.ref 143, .ref 143]) rfl ?_
  refine w_gf H (pc' := 15) (L' := [(0, .ref 143), (1, .int (49 : Int32))]) h_m234 (z_at.mk 3 rfl rfl) rfl (u := .int (14 : Int32)) rfl rfl rfl ?_
  refine w_p h_m234 2 (pc' := 17) (L' := [(0, .ref 143), (1, .int (49 : Int32))]) (st' := [.int (15 : Int32), .ref 143]) rfl ?_
  refine w_pf H (22, 35, [(29, .int (15 : Int32)), (10, .int (1 : Int32)), (34, .ref 167), (33, .ref 166), (31, .ref 165), (30, .ref 164), (28, .ref 163), (26, .ref 162), (25, .ref 161), (24, .ref 160), (19, .ref 159), (18, .ref 158), (17, .ref 157), (16, .ref 156), (13, .ref 155), (12, .ref 154), (11, .ref 153), (9, .ref 152), (8, .ref 151), (7, .ref 150), (5, .ref 149), (4, .ref 148), (3, .ref 147), (2, .ref 146), (1, .ref 145), (0, .ref 144), (6, .int (0 : Int32)), (14, .int (0 : Int32)), (15, .int (0 : Int32)), (20, .int (0 : Int32)), (21, .int (0 : Int32)), (22, .int (0 : Int32)), (23, .int (0 : Int32)), (27, .int (0 : Int32)), (32, .int (0 : Int32))], none) (pc' := 20) (L' := [(0, .ref 143), (1, .int (49 : Int32))]) h_m234 (z_at.mk 3 rfl rfl) rfl (by decide) rfl (Or.inl rfl) rfl rfl rfl ?_
  clear H m; intro m H
  refine w_rv h_m234 (z_at.mk 1 rfl rfl) rfl ?_
  show z_W 997 236 25 [(0, .ref 143), (1, .int (1 : Int32))] [] m _
  refine w_rv h_m236 (z_at.mk 1 rfl rfl) rfl ?_
  show z_W 998 236 14 [(0, .ref 143), (1, .int (10 : Int32))] [] m _
  refine w_p h_m236 6 (pc' := 22) (L' := [(0, .ref 143), (1, .int (10 : Int32))]) (st' := [.int (48 : Int32), .ref 143]) rfl ?_
  refine w_cv (H.t rfl) (pc' := 25) (L' := [(0, .ref 143), (1, .int (10 : Int32))]) (rest := []) (Ps := [.int (48 : Int32)]) (L0 := [(0, .ref 143), (1, .int (48 : Int32))]) h_m236 (z_at.mk 3 rfl rfl) (Or.inl ⟨rfl, rfl⟩) rfl rfl (by decide) (by decide) rfl rfl rfl rfl rfl rfl (by decide) rfl rfl rfl ?_
  refine w_p h_m234 1 (pc' := 1) (L' := [(0, .ref 143), (1, .int (48 : Int32))]) (st' := [.ref 143]) rfl ?_
  refine w_gf H (pc' := 4) (L' := [(0, .ref 143), (1, .int (48 : Int32))]) h_m234 (z_at.mk 3 rfl rfl) rfl (u := .ref 163) rfl rfl rfl ?_
  refine w_p h_m234 1 (pc' := 5) (L' := [(0, .ref 143), (1, .int (48 : Int32))]) (st' := [.ref 143, .ref 163]) rfl ?_
  refine w_gf H (pc' := 8) (L' := [(0, .ref 143), (1, .int (48 : Int32))]) h_m234 (z_at.mk 3 rfl rfl) rfl (u := .int (15 : Int32)) rfl rfl rfl ?_
  refine w_p h_m234 1 (pc' := 9) (L' := [(0, .ref 143), (1, .int (48 : Int32))]) (st' := [.int (48 : Int32), .int (15 : Int32), .ref 163]) rfl ?_
  refine w_as H (t := 0) (j := 15) (u := .int (48 : Int32)) (0, 40000, [(15, .int (48 : Int32)), (14, .int (49 : Int32)), (13, .int (32 : Int32)), (12, .int ((48 : Int32) + ((xs 4) - (xs 4) / (10 : Int32) * (10 : Int32)))), (11, .int (45 : Int32)), (10, .int ((48 : Int32) + ((xs 3) - (xs 3) / (10 : Int32) * (10 : Int32)))), (9, .int (44 : Int32)), (8, .int ((48 : Int32) + ((xs 2) - (xs 2) / (10 : Int32) * (10 : Int32)))), (7, .int ((48 : Int32) + (((xs 2) / (10 : Int32)) - ((xs 2) / (10 : Int32)) / (10 : Int32) * (10 : Int32)))), (6, .int (45 : Int32)), (5, .int ((48 : Int32) + ((xs 1) - (xs 1) / (10 : Int32) * (10 : Int32)))), (4, .int ((48 : Int32) + (((xs 1) / (10 : Int32)) - ((xs 1) / (10 : Int32)) / (10 : Int32) * (10 : Int32)))), (3, .int (32 : Int32)), (2, .int (107 : Int32)), (1, .int (115 : Int32)), (0, .int (97 : Int32))], some (.int (0 : Int32))) (pc' := 10) (L' := [(0, .ref 143), (1, .int (48 : Int32))]) h_m234 (z_at.mk 1 rfl rfl) rfl rfl (w_ui _ _ (by decide)) rfl rfl rfl rfl ?_
  clear H m; intro m H
  refine w_p h_m234 2 (pc' := 12) (L' := [(0, .ref 143), (1, .int (48 : Int32))]) (st' := [.ref 143, .ref 143]) rfl ?_
  refine w_gf H (pc' := 15) (L' := [(0, .ref 143), (1, .int (48 : Int32))]) h_m234 (z_at.mk 3 rfl rfl) rfl (u := .int (15 : Int32)) rfl rfl rfl ?_
  refine w_p h_m234 2 (pc' := 17) (L' := [(0, .ref 143), (1, .int (48 : Int32))]) (st' := [.int (16 : Int32), .ref 143]) rfl ?_
  refine w_pf H (22, 35, [(29, .int (16 : Int32)), (10, .int (1 : Int32)), (34, .ref 167), (33, .ref 166), (31, .ref 165), (30, .ref 164), (28, .ref 163), (26, .ref 162), (25, .ref 161), (24, .ref 160), (19, .ref 159), (18, .ref 158), (17, .ref 157), (16, .ref 156), (13, .ref 155), (12, .ref 154), (11, .ref 153), (9, .ref 152), (8, .ref 151), (7, .ref 150), (5, .ref 149), (4, .ref 148), (3, .ref 147), (2, .ref 146), (1, .ref 145), (0, .ref 144), (6, .int (0 : Int32)), (14, .int (0 : Int32)), (15, .int (0 : Int32)), (20, .int (0 : Int32)), (21, .int (0 : Int32)), (22, .int (0 : Int32)), (23, .int (0 : Int32)), (27, .int (0 : Int32)), (32, .int (0 : Int32))], none) (pc' := 20) (L' := [(0, .ref 143), (1, .int (48 : Int32))]) h_m234 (z_at.mk 3 rfl rfl) rfl (by decide) rfl (Or.inl rfl) rfl rfl rfl ?_
  clear H m; intro m H
  refine w_rv h_m234 (z_at.mk 1 rfl rfl) rfl ?_
  show z_W 998 236 25 [(0, .ref 143), (1, .int (10 : Int32))] [] m _
  refine w_rv h_m236 (z_at.mk 1 rfl rfl) rfl ?_
  show z_W 999 239 202 [(0, .ref 143), (5, .int (0 : Int32)), (6, .int (0 : Int32))] [] m _
  refine w_p h_m239 3 (pc' := 206) (L' := [(0, .ref 143), (5, .int (0 : Int32)), (6, .int (0 : Int32))]) (st' := [.ref 143, .ref 143, .int (0 : Int32)]) rfl ?_
  refine w_gf H (pc' := 209) (L' := [(0, .ref 143), (5, .int (0 : Int32)), (6, .int (0 : Int32))]) h_m239 (z_at.mk 3 rfl rfl) rfl (u := .ref 150) rfl rfl rfl ?_
  refine w_p h_m239 3 (pc' := 213) (L' := [(0, .ref 143), (5, .int (0 : Int32)), (6, .int (0 : Int32))]) (st' := [.int (0 : Int32), .ref 150, .ref 143, .int (0 : Int32)]) rfl ?_
  refine w_cv (H.t rfl) (pc' := 216) (L' := [(0, .ref 143), (5, .int (0 : Int32)), (6, .int (0 : Int32))]) (rest := [.int (0 : Int32)]) (Ps := [.ref 150, .int (0 : Int32)]) (L0 := [(0, .ref 143), (1, .ref 150), (2, .int (0 : Int32))]) h_m239 (z_at.mk 3 rfl rfl) (Or.inl ⟨rfl, rfl⟩) rfl rfl (by decide) (by decide) rfl rfl rfl rfl rfl rfl (by decide) rfl rfl rfl ?_
  refine w_p h_m177 1 (pc' := 1) (L' := [(0, .ref 143), (1, .ref 150), (2, .int (0 : Int32))]) (st' := [.ref 143]) rfl ?_
  refine w_gf H (pc' := 4) (L' := [(0, .ref 143), (1, .ref 150), (2, .int (0 : Int32))]) h_m177 (z_at.mk 3 rfl rfl) rfl (u := .ref 144) rfl rfl rfl ?_
  refine w_p h_m177 1 (pc' := 6) (L' := [(0, .ref 143), (1, .ref 150), (2, .int (0 : Int32))]) (st' := [.int (11 : Int32), .ref 144]) rfl ?_
  refine w_al H (t := 0) (j := 11) (pc' := 7) (L' := [(0, .ref 143), (1, .ref 150), (2, .int (0 : Int32))]) h_m177 (z_at.mk 1 rfl rfl) rfl rfl rfl (u := .int (10 : Int32)) rfl rfl rfl ?_
  refine w_p h_m177 3 (pc' := 10) (L' := [(0, .ref 143), (1, .ref 150), (2, .int (0 : Int32))]) (st' := [.int (0 : Int32), .ref 150, .ref 143, .int (10 : Int32)]) rfl ?_
  refine w_cv (H.t rfl) (pc' := 13) (L' := [(0, .ref 143), (1, .ref 150), (2, .int (0 : Int32))]) (rest := [.int (10 : Int32)]) (Ps := [.ref 150, .int (0 : Int32)]) (L0 := [(0, .ref 143), (1, .ref 150), (2, .int (0 : Int32))]) h_m177 (z_at.mk 3 rfl rfl) (Or.inl ⟨rfl, rfl⟩) rfl rfl (by decide) (by decide) rfl rfl rfl rfl rfl rfl (by decide) rfl rfl rfl ?_
  refine w_ri0 H rfl rfl rfl ?_
  clear H m; intro m H
  show z_W 998 177 13 [(0, .ref 143), (1, .ref 150), (2, .int (0 : Int32))] [.int (0 : Int32), .int (10 : Int32)] m _
  refine w_p h_m177 1 (pc' := 14) (L' := [(0, .ref 143), (1, .ref 150), (2, .int (0 : Int32))]) (st' := [.int (10 : Int32)]) rfl ?_
  refine w_ri h_m177 (z_at.mk 1 rfl rfl) rfl rfl ?_
  show z_W 999 239 216 [(0, .ref 143), (5, .int (0 : Int32)), (6, .int (0 : Int32))] [.int (10 : Int32), .int (0 : Int32)] m _
  refine w_p h_m239 4 (pc' := 222) (L' := [(5, .int (10 : Int32)), (0, .ref 143), (6, .int (0 : Int32))]) (st' := [.int (59 : Int32), .ref 143]) rfl ?_
  refine w_cv (H.t rfl) (pc' := 225) (L' := [(5, .int (10 : Int32)), (0, .ref 143), (6, .int (0 : Int32))]) (rest := []) (Ps := [.int (59 : Int32)]) (L0 := [(0, .ref 143), (1, .int (59 : Int32))]) h_m239 (z_at.mk 3 rfl rfl) (Or.inl ⟨rfl, rfl⟩) rfl rfl (by decide) (by decide) rfl rfl rfl rfl rfl rfl (by decide) rfl rfl rfl ?_
  refine w_p h_m234 1 (pc' := 1) (L' := [(0, .ref 143), (1, .int (59 : Int32))]) (st' := [.ref 143]) rfl ?_
  refine w_gf H (pc' := 4) (L' := [(0, .ref 143), (1, .int (59 : Int32))]) h_m234 (z_at.mk 3 rfl rfl) rfl (u := .ref 163) rfl rfl rfl ?_
  refine w_p h_m234 1 (pc' := 5) (L' := [(0, .ref 143), (1, .int (59 : Int32))]) (st' := [.ref 143, .ref 163]) rfl ?_
  refine w_gf H (pc' := 8) (L' := [(0, .ref 143), (1, .int (59 : Int32))]) h_m234 (z_at.mk 3 rfl rfl) rfl (u := .int (16 : Int32)) rfl rfl rfl ?_
  refine w_p h_m234 1 (pc' := 9) (L' := [(0, .ref 143), (1, .int (59 : Int32))]) (st' := [.int (59 : Int32), .int (16 : Int32), .ref 163]) rfl ?_
  refine w_as H (t := 0) (j := 16) (u := .int (59 : Int32)) (0, 40000, [(16, .int (59 : Int32)), (15, .int (48 : Int32)), (14, .int (49 : Int32)), (13, .int (32 : Int32)), (12, .int ((48 : Int32) + ((xs 4) - (xs 4) / (10 : Int32) * (10 : Int32)))), (11, .int (45 : Int32)), (10, .int ((48 : Int32) + ((xs 3) - (xs 3) / (10 : Int32) * (10 : Int32)))), (9, .int (44 : Int32)), (8, .int ((48 : Int32) + ((xs 2) - (xs 2) / (10 : Int32) * (10 : Int32)))), (7, .int ((48 : Int32) + (((xs 2) / (10 : Int32)) - ((xs 2) / (10 : Int32)) / (10 : Int32) * (10 : Int32)))), (6, .int (45 : Int32)), (5, .int ((48 : Int32) + ((xs 1) - (xs 1) / (10 : Int32) * (10 : Int32)))), (4, .int ((48 : Int32) + (((xs 1) / (10 : Int32)) - ((xs 1) / (10 : Int32)) / (10 : Int32) * (10 : Int32)))), (3, .int (32 : Int32)), (2, .int (107 : Int32)), (1, .int (115 : Int32)), (0, .int (97 : Int32))], some (.int (0 : Int32))) (pc' := 10) (L' := [(0, .ref 143), (1, .int (59 : Int32))]) h_m234 (z_at.mk 1 rfl rfl) rfl rfl (w_ui _ _ (by decide)) rfl rfl rfl rfl ?_
  clear H m; intro m H
  refine w_p h_m234 2 (pc' := 12) (L' := [(0, .ref 143), (1, .int (59 : Int32))]) (st' := [.ref 143, .ref 143]) rfl ?_
  refine w_gf H (pc' := 15) (L' := [(0, .ref 143), (1, .int (59 : Int32))]) h_m234 (z_at.mk 3 rfl rfl) rfl (u := .int (16 : Int32)) rfl rfl rfl ?_
  refine w_p h_m234 2 (pc' := 17) (L' := [(0, .ref 143), (1, .int (59 : Int32))]) (st' := [.int (17 : Int32), .ref 143]) rfl ?_
  refine w_pf H (22, 35, [(29, .int (17 : Int32)), (10, .int (1 : Int32)), (34, .ref 167), (33, .ref 166), (31, .ref 165), (30, .ref 164), (28, .ref 163), (26, .ref 162), (25, .ref 161), (24, .ref 160), (19, .ref 159), (18, .ref 158), (17, .ref 157), (16, .ref 156), (13, .ref 155), (12, .ref 154), (11, .ref 153), (9, .ref 152), (8, .ref 151), (7, .ref 150), (5, .ref 149), (4, .ref 148), (3, .ref 147), (2, .ref 146), (1, .ref 145), (0, .ref 144), (6, .int (0 : Int32)), (14, .int (0 : Int32)), (15, .int (0 : Int32)), (20, .int (0 : Int32)), (21, .int (0 : Int32)), (22, .int (0 : Int32)), (23, .int (0 : Int32)), (27, .int (0 : Int32)), (32, .int (0 : Int32))], none) (pc' := 20) (L' := [(0, .ref 143), (1, .int (59 : Int32))]) h_m234 (z_at.mk 3 rfl rfl) rfl (by decide) rfl (Or.inl rfl) rfl rfl rfl ?_
  clear H m; intro m H
  refine w_rv h_m234 (z_at.mk 1 rfl rfl) rfl ?_
  show z_W 999 239 225 [(5, .int (10 : Int32)), (0, .ref 143), (6, .int (0 : Int32))] [] m _
  refine w_p h_m239 4 (pc' := 155) (L' := [(0, .ref 143), (5, .int (10 : Int32)), (6, .int (1 : Int32))]) (st' := [.ref 143, .int (1 : Int32)]) rfl ?_
  refine w_gf H (pc' := 158) (L' := [(0, .ref 143), (5, .int (10 : Int32)), (6, .int (1 : Int32))]) h_m239 (z_at.mk 3 rfl rfl) rfl (u := .int (1 : Int32)) rfl rfl rfl ?_
  refine w_p h_m239 3 (pc' := 235) (L' := [(0, .ref 143), (5, .int (10 : Int32)), (6, .int (1 : Int32))]) (st' := [.ref 18, .ref 143]) rfl ?_
  refine w_cv (H.t rfl) (pc' := 238) (L' := [(0, .ref 143), (5, .int (10 : Int32)), (6, .int (1 : Int32))]) (rest := []) (Ps := [.ref 18]) (L0 := [(0, .ref 143), (1, .ref 18)]) h_m239 (z_at.mk 3 rfl rfl) (Or.inl ⟨rfl, rfl⟩) rfl rfl (by decide) (by decide) rfl rfl rfl rfl rfl rfl (by decide) rfl rfl rfl ?_
  refine w_p h_m235 4 (pc' := 4) (L' := [(0, .ref 143), (1, .ref 18), (2, .int (0 : Int32))]) (st' := [.ref 18, .int (0 : Int32)]) rfl ?_
  refine w_cv (H.te (by decide) rfl).1 (pc' := 7) (L' := [(0, .ref 143), (1, .ref 18), (2, .int (0 : Int32))]) (rest := [.int (0 : Int32)]) (Ps := []) (L0 := [(0, .ref 18)]) h_m235 (z_at.mk 3 rfl rfl) (Or.inl ⟨rfl, rfl⟩) rfl rfl (by decide) (by decide) rfl rfl rfl rfl rfl rfl (by decide) rfl rfl rfl ?_
  refine w_p h_m293 1 (pc' := 1) (L' := [(0, .ref 18)]) (st' := [.ref 18]) rfl ?_
  refine w_gs H (pc' := 4) (L' := [(0, .ref 18)]) h_m293 (z_at.mk 3 rfl rfl) rfl (by decide) rfl rfl rfl rfl ?_
  refine w_lene H (x := (4 : Int32)) (pc' := 5) (L' := [(0, .ref 18)]) h_m293 (z_at.mk 1 rfl rfl) (by decide) rfl (by decide) rfl rfl rfl ?_
  refine w_p h_m293 1 (pc' := 6) (L' := [(0, .ref 18)]) (st' := [.ref 18, .int (4 : Int32)]) rfl ?_
  refine w_cv (H.te (by decide) rfl).1 (pc' := 9) (L' := [(0, .ref 18)]) (rest := [.int (4 : Int32)]) (Ps := []) (L0 := [(0, .ref 18)]) h_m293 (z_at.mk 3 rfl rfl) (Or.inl ⟨rfl, rfl⟩) rfl rfl (by decide) (by decide) rfl rfl rfl rfl rfl rfl (by decide) rfl rfl rfl ?_
  refine w_p h_m298 3 (pc' := 7) (L' := [(0, .ref 18)]) (st' := [.ref 18]) rfl ?_
  refine w_gs H (pc' := 10) (L' := [(0, .ref 18)]) h_m298 (z_at.mk 3 rfl rfl) rfl (by decide) rfl rfl rfl rfl ?_
  refine w_p h_m298 1 (pc' := 14) (L' := []) (st' := [.int (0 : Int32)]) rfl ?_
  refine w_ri h_m298 (z_at.mk 1 rfl rfl) rfl rfl ?_
  show z_W 997 293 9 [(0, .ref 18)] [.int (0 : Int32), .int (4 : Int32)] m _
  refine w_p h_m293 1 (pc' := 10) (L' := [(0, .ref 18)]) (st' := [.int (4 : Int32)]) rfl ?_
  refine w_ri h_m293 (z_at.mk 1 rfl rfl) rfl rfl ?_
  show z_W 998 235 7 [(0, .ref 143), (1, .ref 18), (2, .int (0 : Int32))] [.int (4 : Int32), .int (0 : Int32)] m _
  refine w_p h_m235 4 (pc' := 13) (L' := [(0, .ref 143), (1, .ref 18), (2, .int (0 : Int32))]) (st' := [.int (0 : Int32), .ref 18, .ref 143]) rfl ?_
  refine w_cv (H.te (by decide) rfl).1 (pc' := 16) (L' := [(0, .ref 143), (1, .ref 18), (2, .int (0 : Int32))]) (rest := [.ref 143]) (Ps := [.int (0 : Int32)]) (L0 := [(0, .ref 18), (1, .int (0 : Int32))]) h_m235 (z_at.mk 3 rfl rfl) (Or.inl ⟨rfl, rfl⟩) rfl rfl (by decide) (by decide) rfl rfl rfl rfl rfl rfl (by decide) rfl rfl rfl ?_
  refine w_p h_m294 1 (pc' := 1) (L' := [(0, .ref 18), (1, .int (0 : Int32))]) (st' := [.ref 18]) rfl ?_
  refine w_cv (H.te (by decide) rfl).1 (pc' := 4) (L' := [(0, .ref 18), (1, .int (0 : Int32))]) (rest := []) (Ps := []) (L0 := [(0, .ref 18)]) h_m294 (z_at.mk 3 rfl rfl) (Or.inl ⟨rfl, rfl⟩) rfl rfl (by decide) (by decide) rfl rfl rfl rfl rfl rfl (by decide) rfl rfl rfl ?_
  refine w_p h_m299 3 (pc' := 7) (L' := [(0, .ref 18)]) (st' := [.ref 18]) rfl ?_
  refine w_gs H (pc' := 10) (L' := [(0, .ref 18)]) h_m299 (z_at.mk 3 rfl rfl) rfl (by decide) rfl rfl rfl rfl ?_
  refine w_p h_m299 3 (pc' := 18) (L' := []) (st' := [.int (1 : Int32)]) rfl ?_
  refine w_ri h_m299 (z_at.mk 1 rfl rfl) rfl rfl ?_
  show z_W 997 294 4 [(0, .ref 18), (1, .int (0 : Int32))] [.int (1 : Int32)] m _
  refine w_p h_m294 2 (pc' := 8) (L' := [(0, .ref 18), (1, .int (0 : Int32))]) (st' := [.ref 18]) rfl ?_
  refine w_gs H (pc' := 11) (L' := [(0, .ref 18), (1, .int (0 : Int32))]) h_m294 (z_at.mk 3 rfl rfl) rfl (by decide) rfl rfl rfl rfl ?_
  refine w_p h_m294 1 (pc' := 12) (L' := [(0, .ref 18), (1, .int (0 : Int32))]) (st' := [.int (0 : Int32), .ref 36]) rfl ?_
  refine w_cs (As := [.ref 36, .int (0 : Int32)]) (rest := []) (j := 308) (L0 := [(0, .ref 36), (1, .int (0 : Int32))]) (pc' := 15) (L' := [(0, .ref 18), (1, .int (0 : Int32))]) h_m294 (z_at.mk 3 rfl rfl) (Or.inl ⟨rfl, rfl⟩) rfl rfl rfl rfl rfl ?_
  refine w_p h_m308 2 (pc' := 2) (L' := [(0, .ref 36), (1, .int (0 : Int32))]) (st' := [.ref 36, .int (0 : Int32)]) rfl ?_
  refine w_lene H (x := (4 : Int32)) (pc' := 3) (L' := [(0, .ref 36), (1, .int (0 : Int32))]) h_m308 (z_at.mk 1 rfl rfl) (by decide) rfl (by decide) rfl rfl rfl ?_
  refine w_ci (pc' := 6) (L' := [(0, .ref 36), (1, .int (0 : Int32))]) h_m308 (z_at.mk 3 rfl rfl) rfl (z_cat_le 0 rfl (by decide)) ⟨by decide, by decide⟩ rfl rfl ?_
  refine w_p h_m308 2 (pc' := 8) (L' := [(0, .ref 36), (1, .int (0 : Int32))]) (st' := [.int (0 : Int32), .ref 36]) rfl ?_
  refine w_ae H (j := 0) (pc' := 9) (L' := [(0, .ref 36), (1, .int (0 : Int32))]) h_m308 (z_at.mk 1 rfl rfl) rfl rfl rfl (by decide) rfl (by decide) rfl rfl rfl ?_
  refine w_p h_m308 3 (pc' := 14) (L' := [(0, .ref 36), (1, .int (0 : Int32))]) (st' := [.int (112 : Int32)]) rfl ?_
  refine w_ri h_m308 (z_at.mk 1 rfl rfl) rfl rfl ?_
  show z_W 997 294 15 [(0, .ref 18), (1, .int (0 : Int32))] [.int (112 : Int32)] m _
  refine w_ri h_m294 (z_at.mk 1 rfl rfl) rfl rfl ?_
  show z_W 998 235 16 [(0, .ref 143), (1, .ref 18), (2, .int (0 : Int32))] [.int (112 : Int32), .ref 143] m _
  refine w_cv (H.t rfl) (pc' := 19) (L' := [(0, .ref 143), (1, .ref 18), (2, .int (0 : Int32))]) (rest := []) (Ps := [.int (112 : Int32)]) (L0 := [(0, .ref 143), (1, .int (112 : Int32))]) h_m235 (z_at.mk 3 rfl rfl) (Or.inl ⟨rfl, rfl⟩) rfl rfl (by decide) (by decide) rfl rfl rfl rfl rfl rfl (by decide) rfl rfl rfl ?_
  refine w_p h_m234 1 (pc' := 1) (L' := [(0, .ref 143), (1, .int (112 : Int32))]) (st' := [.ref 143]) rfl ?_
  refine w_gf H (pc' := 4) (L' := [(0, .ref 143), (1, .int (112 : Int32))]) h_m234 (z_at.mk 3 rfl rfl) rfl (u := .ref 163) rfl rfl rfl ?_
  refine w_p h_m234 1 (pc' := 5) (L' := [(0, .ref 143), (1, .int (112 : Int32))]) (st' := [.ref 143, .ref 163]) rfl ?_
  refine w_gf H (pc' := 8) (L' := [(0, .ref 143), (1, .int (112 : Int32))]) h_m234 (z_at.mk 3 rfl rfl) rfl (u := .int (17 : Int32)) rfl rfl rfl ?_
  refine w_p h_m234 1 (pc' := 9) (L' := [(0, .ref 143), (1, .int (112 : Int32))]) (st' := [.int (112 : Int32), .int (17 : Int32), .ref 163]) rfl ?_
  refine w_as H (t := 0) (j := 17) (u := .int (112 : Int32)) (0, 40000, [(17, .int (112 : Int32)), (16, .int (59 : Int32)), (15, .int (48 : Int32)), (14, .int (49 : Int32)), (13, .int (32 : Int32)), (12, .int ((48 : Int32) + ((xs 4) - (xs 4) / (10 : Int32) * (10 : Int32)))), (11, .int (45 : Int32)), (10, .int ((48 : Int32) + ((xs 3) - (xs 3) / (10 : Int32) * (10 : Int32)))), (9, .int (44 : Int32)), (8, .int ((48 : Int32) + ((xs 2) - (xs 2) / (10 : Int32) * (10 : Int32)))), (7, .int ((48 : Int32) + (((xs 2) / (10 : Int32)) - ((xs 2) / (10 : Int32)) / (10 : Int32) * (10 : Int32)))), (6, .int (45 : Int32)), (5, .int ((48 : Int32) + ((xs 1) - (xs 1) / (10 : Int32) * (10 : Int32)))), (4, .int ((48 : Int32) + (((xs 1) / (10 : Int32)) - ((xs 1) / (10 : Int32)) / (10 : Int32) * (10 : Int32)))), (3, .int (32 : Int32)), (2, .int (107 : Int32)), (1, .int (115 : Int32)), (0, .int (97 : Int32))], some (.int (0 : Int32))) (pc' := 10) (L' := [(0, .ref 143), (1, .int (112 : Int32))]) h_m234 (z_at.mk 1 rfl rfl) rfl rfl (w_ui _ _ (by decide)) rfl rfl rfl rfl ?_
  clear H m; intro m H
  refine w_p h_m234 2 (pc' := 12) (L' := [(0, .ref 143), (1, .int (112 : Int32))]) (st' := [.ref 143, .ref 143]) rfl ?_
  refine w_gf H (pc' := 15) (L' := [(0, .ref 143), (1, .int (112 : Int32))]) h_m234 (z_at.mk 3 rfl rfl) rfl (u := .int (17 : Int32)) rfl rfl rfl ?_
  refine w_p h_m234 2 (pc' := 17) (L' := [(0, .ref 143), (1, .int (112 : Int32))]) (st' := [.int (18 : Int32), .ref 143]) rfl ?_
  refine w_pf H (22, 35, [(29, .int (18 : Int32)), (10, .int (1 : Int32)), (34, .ref 167), (33, .ref 166), (31, .ref 165), (30, .ref 164), (28, .ref 163), (26, .ref 162), (25, .ref 161), (24, .ref 160), (19, .ref 159), (18, .ref 158), (17, .ref 157), (16, .ref 156), (13, .ref 155), (12, .ref 154), (11, .ref 153), (9, .ref 152), (8, .ref 151), (7, .ref 150), (5, .ref 149), (4, .ref 148), (3, .ref 147), (2, .ref 146), (1, .ref 145), (0, .ref 144), (6, .int (0 : Int32)), (14, .int (0 : Int32)), (15, .int (0 : Int32)), (20, .int (0 : Int32)), (21, .int (0 : Int32)), (22, .int (0 : Int32)), (23, .int (0 : Int32)), (27, .int (0 : Int32)), (32, .int (0 : Int32))], none) (pc' := 20) (L' := [(0, .ref 143), (1, .int (112 : Int32))]) h_m234 (z_at.mk 3 rfl rfl) rfl (by decide) rfl (Or.inl rfl) rfl rfl rfl ?_
  clear H m; intro m H
  refine w_rv h_m234 (z_at.mk 1 rfl rfl) rfl ?_
  show z_W 998 235 19 [(0, .ref 143), (1, .ref 18), (2, .int (0 : Int32))] [] m _
  refine w_p h_m235 4 (pc' := 4) (L' := [(0, .ref 143), (1, .ref 18), (2, .int (1 : Int32))]) (st' := [.ref 18, .int (1 : Int32)]) rfl ?_
  refine w_cv (H.te (by decide) rfl).1 (pc' := 7) (L' := [(0, .ref 143), (1, .ref 18), (2, .int (1 : Int32))]) (rest := [.int (1 : Int32)]) (Ps := []) (L0 := [(0, .ref 18)]) h_m235 (z_at.mk 3 rfl rfl) (Or.inl ⟨rfl, rfl⟩) rfl rfl (by decide) (by decide) rfl rfl rfl rfl rfl rfl (by decide) rfl rfl rfl ?_
  refine w_p h_m293 1 (pc' := 1) (L' := [(0, .ref 18)]) (st' := [.ref 18]) rfl ?_
  refine w_gs H (pc' := 4) (L' := [(0, .ref 18)]) h_m293 (z_at.mk 3 rfl rfl) rfl (by decide) rfl rfl rfl rfl ?_
  refine w_lene H (x := (4 : Int32)) (pc' := 5) (L' := [(0, .ref 18)]) h_m293 (z_at.mk 1 rfl rfl) (by decide) rfl (by decide) rfl rfl rfl ?_
  refine w_p h_m293 1 (pc' := 6) (L' := [(0, .ref 18)]) (st' := [.ref 18, .int (4 : Int32)]) rfl ?_
  refine w_cv (H.te (by decide) rfl).1 (pc' := 9) (L' := [(0, .ref 18)]) (rest := [.int (4 : Int32)]) (Ps := []) (L0 := [(0, .ref 18)]) h_m293 (z_at.mk 3 rfl rfl) (Or.inl ⟨rfl, rfl⟩) rfl rfl (by decide) (by decide) rfl rfl rfl rfl rfl rfl (by decide) rfl rfl rfl ?_
  refine w_p h_m298 3 (pc' := 7) (L' := [(0, .ref 18)]) (st' := [.ref 18]) rfl ?_
  refine w_gs H (pc' := 10) (L' := [(0, .ref 18)]) h_m298 (z_at.mk 3 rfl rfl) rfl (by decide) rfl rfl rfl rfl ?_
  refine w_p h_m298 1 (pc' := 14) (L' := []) (st' := [.int (0 : Int32)]) rfl ?_
  refine w_ri h_m298 (z_at.mk 1 rfl rfl) rfl rfl ?_
  show z_W 997 293 9 [(0, .ref 18)] [.int (0 : Int32), .int (4 : Int32)] m _
  refine w_p h_m293 1 (pc' := 10) (L' := [(0, .ref 18)]) (st' := [.int (4 : Int32)]) rfl ?_
  refine w_ri h_m293 (z_at.mk 1 rfl rfl) rfl rfl ?_
  show z_W 998 235 7 [(0, .ref 143), (1, .ref 18), (2, .int (1 : Int32))] [.int (4 : Int32), .int (1 : Int32)] m _
  refine w_p h_m235 4 (pc' := 13) (L' := [(0, .ref 143), (1, .ref 18), (2, .int (1 : Int32))]) (st' := [.int (1 : Int32), .ref 18, .ref 143]) rfl ?_
  refine w_cv (H.te (by decide) rfl).1 (pc' := 16) (L' := [(0, .ref 143), (1, .ref 18), (2, .int (1 : Int32))]) (rest := [.ref 143]) (Ps := [.int (1 : Int32)]) (L0 := [(0, .ref 18), (1, .int (1 : Int32))]) h_m235 (z_at.mk 3 rfl rfl) (Or.inl ⟨rfl, rfl⟩) rfl rfl (by decide) (by decide) rfl rfl rfl rfl rfl rfl (by decide) rfl rfl rfl ?_
  refine w_p h_m294 1 (pc' := 1) (L' := [(0, .ref 18), (1, .int (1 : Int32))]) (st' := [.ref 18]) rfl ?_
  refine w_cv (H.te (by decide) rfl).1 (pc' := 4) (L' := [(0, .ref 18), (1, .int (1 : Int32))]) (rest := []) (Ps := []) (L0 := [(0, .ref 18)]) h_m294 (z_at.mk 3 rfl rfl) (Or.inl ⟨rfl, rfl⟩) rfl rfl (by decide) (by decide) rfl rfl rfl rfl rfl rfl (by decide) rfl rfl rfl ?_
  refine w_p h_m299 3 (pc' := 7) (L' := [(0, .ref 18)]) (st' := [.ref 18]) rfl ?_
  refine w_gs H (pc' := 10) (L' := [(0, .ref 18)]) h_m299 (z_at.mk 3 rfl rfl) rfl (by decide) rfl rfl rfl rfl ?_
  refine w_p h_m299 3 (pc' := 18) (L' := []) (st' := [.int (1 : Int32)]) rfl ?_
  refine w_ri h_m299 (z_at.mk 1 rfl rfl) rfl rfl ?_
  show z_W 997 294 4 [(0, .ref 18), (1, .int (1 : Int32))] [.int (1 : Int32)] m _
  refine w_p h_m294 2 (pc' := 8) (L' := [(0, .ref 18), (1, .int (1 : Int32))]) (st' := [.ref 18]) rfl ?_
  refine w_gs H (pc' := 11) (L' := [(0, .ref 18), (1, .int (1 : Int32))]) h_m294 (z_at.mk 3 rfl rfl) rfl (by decide) rfl rfl rfl rfl ?_
  refine w_p h_m294 1 (pc' := 12) (L' := [(0, .ref 18), (1, .int (1 : Int32))]) (st' := [.int (1 : Int32), .ref 36]) rfl ?_
  refine w_cs (As := [.ref 36, .int (1 : Int32)]) (rest := []) (j := 308) (L0 := [(0, .ref 36), (1, .int (1 : Int32))]) (pc' := 15) (L' := [(0, .ref 18), (1, .int (1 : Int32))]) h_m294 (z_at.mk 3 rfl rfl) (Or.inl ⟨rfl, rfl⟩) rfl rfl rfl rfl rfl ?_
  refine w_p h_m308 2 (pc' := 2) (L' := [(0, .ref 36), (1, .int (1 : Int32))]) (st' := [.ref 36, .int (1 : Int32)]) rfl ?_
  refine w_lene H (x := (4 : Int32)) (pc' := 3) (L' := [(0, .ref 36), (1, .int (1 : Int32))]) h_m308 (z_at.mk 1 rfl rfl) (by decide) rfl (by decide) rfl rfl rfl ?_
  refine w_ci (pc' := 6) (L' := [(0, .ref 36), (1, .int (1 : Int32))]) h_m308 (z_at.mk 3 rfl rfl) rfl (z_cat_le 0 rfl (by decide)) ⟨by decide, by decide⟩ rfl rfl ?_
  refine w_p h_m308 2 (pc' := 8) (L' := [(0, .ref 36), (1, .int (1 : Int32))]) (st' := [.int (1 : Int32), .ref 36]) rfl ?_
  refine w_ae H (j := 1) (pc' := 9) (L' := [(0, .ref 36), (1, .int (1 : Int32))]) h_m308 (z_at.mk 1 rfl rfl) rfl rfl rfl (by decide) rfl (by decide) rfl rfl rfl ?_
  refine w_p h_m308 3 (pc' := 14) (L' := [(0, .ref 36), (1, .int (1 : Int32))]) (st' := [.int (97 : Int32)]) rfl ?_
  refine w_ri h_m308 (z_at.mk 1 rfl rfl) rfl rfl ?_
  show z_W 997 294 15 [(0, .ref 18), (1, .int (1 : Int32))] [.int (97 : Int32)] m _
  refine w_ri h_m294 (z_at.mk 1 rfl rfl) rfl rfl ?_
  show z_W 998 235 16 [(0, .ref 143), (1, .ref 18), (2, .int (1 : Int32))] [.int (97 : Int32), .ref 143] m _
  refine w_cv (H.t rfl) (pc' := 19) (L' := [(0, .ref 143), (1, .ref 18), (2, .int (1 : Int32))]) (rest := []) (Ps := [.int (97 : Int32)]) (L0 := [(0, .ref 143), (1, .int (97 : Int32))]) h_m235 (z_at.mk 3 rfl rfl) (Or.inl ⟨rfl, rfl⟩) rfl rfl (by decide) (by decide) rfl rfl rfl rfl rfl rfl (by decide) rfl rfl rfl ?_
  refine w_p h_m234 1 (pc' := 1) (L' := [(0, .ref 143), (1, .int (97 : Int32))]) (st' := [.ref 143]) rfl ?_
  refine w_gf H (pc' := 4) (L' := [(0, .ref 143), (1, .int (97 : Int32))]) h_m234 (z_at.mk 3 rfl rfl) rfl (u := .ref 163) rfl rfl rfl ?_
  refine w_p h_m234 1 (pc' := 5) (L' := [(0, .ref 143), (1, .int (97 : Int32))]) (st' := [.ref 143, .ref 163]) rfl ?_
  refine w_gf H (pc' := 8) (L' := [(0, .ref 143), (1, .int (97 : Int32))]) h_m234 (z_at.mk 3 rfl rfl) rfl (u := .int (18 : Int32)) rfl rfl rfl ?_
  refine w_p h_m234 1 (pc' := 9) (L' := [(0, .ref 143), (1, .int (97 : Int32))]) (st' := [.int (97 : Int32), .int (18 : Int32), .ref 163]) rfl ?_
  refine w_as H (t := 0) (j := 18) (u := .int (97 : Int32)) (0, 40000, [(18, .int (97 : Int32)), (17, .int (112 : Int32)), (16, .int (59 : Int32)), (15, .int (48 : Int32)), (14, .int (49 : Int32)), (13, .int (32 : Int32)), (12, .int ((48 : Int32) + ((xs 4) - (xs 4) / (10 : Int32) * (10 : Int32)))), (11, .int (45 : Int32)), (10, .int ((48 : Int32) + ((xs 3) - (xs 3) / (10 : Int32) * (10 : Int32)))), (9, .int (44 : Int32)), (8, .int ((48 : Int32) + ((xs 2) - (xs 2) / (10 : Int32) * (10 : Int32)))), (7, .int ((48 : Int32) + (((xs 2) / (10 : Int32)) - ((xs 2) / (10 : Int32)) / (10 : Int32) * (10 : Int32)))), (6, .int (45 : Int32)), (5, .int ((48 : Int32) + ((xs 1) - (xs 1) / (10 : Int32) * (10 : Int32)))), (4, .int ((48 : Int32) + (((xs 1) / (10 : Int32)) - ((xs 1) / (10 : Int32)) / (10 : Int32) * (10 : Int32)))), (3, .int (32 : Int32)), (2, .int (107 : Int32)), (1, .int (115 : Int32)), (0, .int (97 : Int32))], some (.int (0 : Int32))) (pc' := 10) (L' := [(0, .ref 143), (1, .int (97 : Int32))]) h_m234 (z_at.mk 1 rfl rfl) rfl rfl (w_ui _ _ (by decide)) rfl rfl rfl rfl ?_
  clear H m; intro m H
  refine w_p h_m234 2 (pc' := 12) (L' := [(0, .ref 143), (1, .int (97 : Int32))]) (st' := [.ref 143, .ref 143]) rfl ?_
  refine w_gf H (pc' := 15) (L' := [(0, .ref 143), (1, .int (97 : Int32))]) h_m234 (z_at.mk 3 rfl rfl) rfl (u := .int (18 : Int32)) rfl rfl rfl ?_
  refine w_p h_m234 2 (pc' := 17) (L' := [(0, .ref 143), (1, .int (97 : Int32))]) (st' := [.int (19 : Int32), .ref 143]) rfl ?_
  refine w_pf H (22, 35, [(29, .int (19 : Int32)), (10, .int (1 : Int32)), (34, .ref 167), (33, .ref 166), (31, .ref 165), (30, .ref 164), (28, .ref 163), (26, .ref 162), (25, .ref 161), (24, .ref 160), (19, .ref 159), (18, .ref 158), (17, .ref 157), (16, .ref 156), (13, .ref 155), (12, .ref 154), (11, .ref 153), (9, .ref 152), (8, .ref 151), (7, .ref 150), (5, .ref 149), (4, .ref 148), (3, .ref 147), (2, .ref 146), (1, .ref 145), (0, .ref 144), (6, .int (0 : Int32)), (14, .int (0 : Int32)), (15, .int (0 : Int32)), (20, .int (0 : Int32)), (21, .int (0 : Int32)), (22, .int (0 : Int32)), (23, .int (0 : Int32)), (27, .int (0 : Int32)), (32, .int (0 : Int32))], none) (pc' := 20) (L' := [(0, .ref 143), (1, .int (97 : Int32))]) h_m234 (z_at.mk 3 rfl rfl) rfl (by decide) rfl (Or.inl rfl) rfl rfl rfl ?_
  clear H m; intro m H
  refine w_rv h_m234 (z_at.mk 1 rfl rfl) rfl ?_
  show z_W 998 235 19 [(0, .ref 143), (1, .ref 18), (2, .int (1 : Int32))] [] m _
  refine w_p h_m235 4 (pc' := 4) (L' := [(0, .ref 143), (1, .ref 18), (2, .int (2 : Int32))]) (st' := [.ref 18, .int (2 : Int32)]) rfl ?_
  refine w_cv (H.te (by decide) rfl).1 (pc' := 7) (L' := [(0, .ref 143), (1, .ref 18), (2, .int (2 : Int32))]) (rest := [.int (2 : Int32)]) (Ps := []) (L0 := [(0, .ref 18)]) h_m235 (z_at.mk 3 rfl rfl) (Or.inl ⟨rfl, rfl⟩) rfl rfl (by decide) (by decide) rfl rfl rfl rfl rfl rfl (by decide) rfl rfl rfl ?_
  refine w_p h_m293 1 (pc' := 1) (L' := [(0, .ref 18)]) (st' := [.ref 18]) rfl ?_
  refine w_gs H (pc' := 4) (L' := [(0, .ref 18)]) h_m293 (z_at.mk 3 rfl rfl) rfl (by decide) rfl rfl rfl rfl ?_
  refine w_lene H (x := (4 : Int32)) (pc' := 5) (L' := [(0, .ref 18)]) h_m293 (z_at.mk 1 rfl rfl) (by decide) rfl (by decide) rfl rfl rfl ?_
  refine w_p h_m293 1 (pc' := 6) (L' := [(0, .ref 18)]) (st' := [.ref 18, .int (4 : Int32)]) rfl ?_
  refine w_cv (H.te (by decide) rfl).1 (pc' := 9) (L' := [(0, .ref 18)]) (rest := [.int (4 : Int32)]) (Ps := []) (L0 := [(0, .ref 18)]) h_m293 (z_at.mk 3 rfl rfl) (Or.inl ⟨rfl, rfl⟩) rfl rfl (by decide) (by decide) rfl rfl rfl rfl rfl rfl (by decide) rfl rfl rfl ?_
  refine w_p h_m298 3 (pc' := 7) (L' := [(0, .ref 18)]) (st' := [.ref 18]) rfl ?_
  refine w_gs H (pc' := 10) (L' := [(0, .ref 18)]) h_m298 (z_at.mk 3 rfl rfl) rfl (by decide) rfl rfl rfl rfl ?_
  refine w_p h_m298 1 (pc' := 14) (L' := []) (st' := [.int (0 : Int32)]) rfl ?_
  refine w_ri h_m298 (z_at.mk 1 rfl rfl) rfl rfl ?_
  show z_W 997 293 9 [(0, .ref 18)] [.int (0 : Int32), .int (4 : Int32)] m _
  refine w_p h_m293 1 (pc' := 10) (L' := [(0, .ref 18)]) (st' := [.int (4 : Int32)]) rfl ?_
  refine w_ri h_m293 (z_at.mk 1 rfl rfl) rfl rfl ?_
  show z_W 998 235 7 [(0, .ref 143), (1, .ref 18), (2, .int (2 : Int32))] [.int (4 : Int32), .int (2 : Int32)] m _
  refine w_p h_m235 4 (pc' := 13) (L' := [(0, .ref 143), (1, .ref 18), (2, .int (2 : Int32))]) (st' := [.int (2 : Int32), .ref 18, .ref 143]) rfl ?_
  refine w_cv (H.te (by decide) rfl).1 (pc' := 16) (L' := [(0, .ref 143), (1, .ref 18), (2, .int (2 : Int32))]) (rest := [.ref 143]) (Ps := [.int (2 : Int32)]) (L0 := [(0, .ref 18), (1, .int (2 : Int32))]) h_m235 (z_at.mk 3 rfl rfl) (Or.inl ⟨rfl, rfl⟩) rfl rfl (by decide) (by decide) rfl rfl rfl rfl rfl rfl (by decide) rfl rfl rfl ?_
  refine w_p h_m294 1 (pc' := 1) (L' := [(0, .ref 18), (1, .int (2 : Int32))]) (st' := [.ref 18]) rfl ?_
  refine w_cv (H.te (by decide) rfl).1 (pc' := 4) (L' := [(0, .ref 18), (1, .int (2 : Int32))]) (rest := []) (Ps := []) (L0 := [(0, .ref 18)]) h_m294 (z_at.mk 3 rfl rfl) (Or.inl ⟨rfl, rfl⟩) rfl rfl (by decide) (by decide) rfl rfl rfl rfl rfl rfl (by decide) rfl rfl rfl ?_
  refine w_p h_m299 3 (pc' := 7) (L' := [(0, .ref 18)]) (st' := [.ref 18]) rfl ?_
  refine w_gs H (pc' := 10) (L' := [(0, .ref 18)]) h_m299 (z_at.mk 3 rfl rfl) rfl (by decide) rfl rfl rfl rfl ?_
  refine w_p h_m299 3 (pc' := 18) (L' := []) (st' := [.int (1 : Int32)]) rfl ?_
  refine w_ri h_m299 (z_at.mk 1 rfl rfl) rfl rfl ?_
  show z_W 997 294 4 [(0, .ref 18), (1, .int (2 : Int32))] [.int (1 : Int32)] m _
  refine w_p h_m294 2 (pc' := 8) (L' := [(0, .ref 18), (1, .int (2 : Int32))]) (st' := [.ref 18]) rfl ?_
  refine w_gs H (pc' := 11) (L' := [(0, .ref 18), (1, .int (2 : Int32))]) h_m294 (z_at.mk 3 rfl rfl) rfl (by decide) rfl rfl rfl rfl ?_
  refine w_p h_m294 1 (pc' := 12) (L' := [(0, .ref 18), (1, .int (2 : Int32))]) (st' := [.int (2 : Int32), .ref 36]) rfl ?_
  refine w_cs (As := [.ref 36, .int (2 : Int32)]) (rest := []) (j := 308) (L0 := [(0, .ref 36), (1, .int (2 : Int32))]) (pc' := 15) (L' := [(0, .ref 18), (1, .int (2 : Int32))]) h_m294 (z_at.mk 3 rfl rfl) (Or.inl ⟨rfl, rfl⟩) rfl rfl rfl rfl rfl ?_
  refine w_p h_m308 2 (pc' := 2) (L' := [(0, .ref 36), (1, .int (2 : Int32))]) (st' := [.ref 36, .int (2 : Int32)]) rfl ?_
  refine w_lene H (x := (4 : Int32)) (pc' := 3) (L' := [(0, .ref 36), (1, .int (2 : Int32))]) h_m308 (z_at.mk 1 rfl rfl) (by decide) rfl (by decide) rfl rfl rfl ?_
  refine w_ci (pc' := 6) (L' := [(0, .ref 36), (1, .int (2 : Int32))]) h_m308 (z_at.mk 3 rfl rfl) rfl (z_cat_le 0 rfl (by decide)) ⟨by decide, by decide⟩ rfl rfl ?_
  refine w_p h_m308 2 (pc' := 8) (L' := [(0, .ref 36), (1, .int (2 : Int32))]) (st' := [.int (2 : Int32), .ref 36]) rfl ?_
  refine w_ae H (j := 2) (pc' := 9) (L' := [(0, .ref 36), (1, .int (2 : Int32))]) h_m308 (z_at.mk 1 rfl rfl) rfl rfl rfl (by decide) rfl (by decide) rfl rfl rfl ?_
  refine w_p h_m308 3 (pc' := 14) (L' := [(0, .ref 36), (1, .int (2 : Int32))]) (st' := [.int (121 : Int32)]) rfl ?_
  refine w_ri h_m308 (z_at.mk 1 rfl rfl) rfl rfl ?_
  show z_W 997 294 15 [(0, .ref 18), (1, .int (2 : Int32))] [.int (121 : Int32)] m _
  refine w_ri h_m294 (z_at.mk 1 rfl rfl) rfl rfl ?_
  show z_W 998 235 16 [(0, .ref 143), (1, .ref 18), (2, .int (2 : Int32))] [.int (121 : Int32), .ref 143] m _
  refine w_cv (H.t rfl) (pc' := 19) (L' := [(0, .ref 143), (1, .ref 18), (2, .int (2 : Int32))]) (rest := []) (Ps := [.int (121 : Int32)]) (L0 := [(0, .ref 143), (1, .int (121 : Int32))]) h_m235 (z_at.mk 3 rfl rfl) (Or.inl ⟨rfl, rfl⟩) rfl rfl (by decide) (by decide) rfl rfl rfl rfl rfl rfl (by decide) rfl rfl rfl ?_
  refine w_p h_m234 1 (pc' := 1) (L' := [(0, .ref 143), (1, .int (121 : Int32))]) (st' := [.ref 143]) rfl ?_
  refine w_gf H (pc' := 4) (L' := [(0, .ref 143), (1, .int (121 : Int32))]) h_m234 (z_at.mk 3 rfl rfl) rfl (u := .ref 163) rfl rfl rfl ?_
  refine w_p h_m234 1 (pc' := 5) (L' := [(0, .ref 143), (1, .int (121 : Int32))]) (st' := [.ref 143, .ref 163]) rfl ?_
  refine w_gf H (pc' := 8) (L' := [(0, .ref 143), (1, .int (121 : Int32))]) h_m234 (z_at.mk 3 rfl rfl) rfl (u := .int (19 : Int32)) rfl rfl rfl ?_
  refine w_p h_m234 1 (pc' := 9) (L' := [(0, .ref 143), (1, .int (121 : Int32))]) (st' := [.int (121 : Int32), .int (19 : Int32), .ref 163]) rfl ?_
  refine w_as H (t := 0) (j := 19) (u := .int (121 : Int32)) (0, 40000, [(19, .int (121 : Int32)), (18, .int (97 : Int32)), (17, .int (112 : Int32)), (16, .int (59 : Int32)), (15, .int (48 : Int32)), (14, .int (49 : Int32)), (13, .int (32 : Int32)), (12, .int ((48 : Int32) + ((xs 4) - (xs 4) / (10 : Int32) * (10 : Int32)))), (11, .int (45 : Int32)), (10, .int ((48 : Int32) + ((xs 3) - (xs 3) / (10 : Int32) * (10 : Int32)))), (9, .int (44 : Int32)), (8, .int ((48 : Int32) + ((xs 2) - (xs 2) / (10 : Int32) * (10 : Int32)))), (7, .int ((48 : Int32) + (((xs 2) / (10 : Int32)) - ((xs 2) / (10 : Int32)) / (10 : Int32) * (10 : Int32)))), (6, .int (45 : Int32)), (5, .int ((48 : Int32) + ((xs 1) - (xs 1) / (10 : Int32) * (10 : Int32)))), (4, .int ((48 : Int32) + (((xs 1) / (10 : Int32)) - ((xs 1) / (10 : Int32)) / (10 : Int32) * (10 : Int32)))), (3, .int (32 : Int32)), (2, .int (107 : Int32)), (1, .int (115 : Int32)), (0, .int (97 : Int32))], some (.int (0 : Int32))) (pc' := 10) (L' := [(0, .ref 143), (1, .int (121 : Int32))]) h_m234 (z_at.mk 1 rfl rfl) rfl rfl (w_ui _ _ (by decide)) rfl rfl rfl rfl ?_
  clear H m; intro m H
  refine w_p h_m234 2 (pc' := 12) (L' := [(0, .ref 143), (1, .int (121 : Int32))]) (st' := [.ref 143, .ref 143]) rfl ?_
  refine w_gf H (pc' := 15) (L' := [(0, .ref 143), (1, .int (121 : Int32))]) h_m234 (z_at.mk 3 rfl rfl) rfl (u := .int (19 : Int32)) rfl rfl rfl ?_
  refine w_p h_m234 2 (pc' := 17) (L' := [(0, .ref 143), (1, .int (121 : Int32))]) (st' := [.int (20 : Int32), .ref 143]) rfl ?_
  refine w_pf H (22, 35, [(29, .int (20 : Int32)), (10, .int (1 : Int32)), (34, .ref 167), (33, .ref 166), (31, .ref 165), (30, .ref 164), (28, .ref 163), (26, .ref 162), (25, .ref 161), (24, .ref 160), (19, .ref 159), (18, .ref 158), (17, .ref 157), (16, .ref 156), (13, .ref 155), (12, .ref 154), (11, .ref 153), (9, .ref 152), (8, .ref 151), (7, .ref 150), (5, .ref 149), (4, .ref 148), (3, .ref 147), (2, .ref 146), (1, .ref 145), (0, .ref 144), (6, .int (0 : Int32)), (14, .int (0 : Int32)), (15, .int (0 : Int32)), (20, .int (0 : Int32)), (21, .int (0 : Int32)), (22, .int (0 : Int32)), (23, .int (0 : Int32)), (27, .int (0 : Int32)), (32, .int (0 : Int32))], none) (pc' := 20) (L' := [(0, .ref 143), (1, .int (121 : Int32))]) h_m234 (z_at.mk 3 rfl rfl) rfl (by decide) rfl (Or.inl rfl) rfl rfl rfl ?_
  clear H m; intro m H
  refine w_rv h_m234 (z_at.mk 1 rfl rfl) rfl ?_
  show z_W 998 235 19 [(0, .ref 143), (1, .ref 18), (2, .int (2 : Int32))] [] m _
  refine w_p h_m235 4 (pc' := 4) (L' := [(0, .ref 143), (1, .ref 18), (2, .int (3 : Int32))]) (st' := [.ref 18, .int (3 : Int32)]) rfl ?_
  refine w_cv (H.te (by decide) rfl).1 (pc' := 7) (L' := [(0, .ref 143), (1, .ref 18), (2, .int (3 : Int32))]) (rest := [.int (3 : Int32)]) (Ps := []) (L0 := [(0, .ref 18)]) h_m235 (z_at.mk 3 rfl rfl) (Or.inl ⟨rfl, rfl⟩) rfl rfl (by decide) (by decide) rfl rfl rfl rfl rfl rfl (by decide) rfl rfl rfl ?_
  refine w_p h_m293 1 (pc' := 1) (L' := [(0, .ref 18)]) (st' := [.ref 18]) rfl ?_
  refine w_gs H (pc' := 4) (L' := [(0, .ref 18)]) h_m293 (z_at.mk 3 rfl rfl) rfl (by decide) rfl rfl rfl rfl ?_
  refine w_lene H (x := (4 : Int32)) (pc' := 5) (L' := [(0, .ref 18)]) h_m293 (z_at.mk 1 rfl rfl) (by decide) rfl (by decide) rfl rfl rfl ?_
  refine w_p h_m293 1 (pc' := 6) (L' := [(0, .ref 18)]) (st' := [.ref 18, .int (4 : Int32)]) rfl ?_
  refine w_cv (H.te (by decide) rfl).1 (pc' := 9) (L' := [(0, .ref 18)]) (rest := [.int (4 : Int32)]) (Ps := []) (L0 := [(0, .ref 18)]) h_m293 (z_at.mk 3 rfl rfl) (Or.inl ⟨rfl, rfl⟩) rfl rfl (by decide) (by decide) rfl rfl rfl rfl rfl rfl (by decide) rfl rfl rfl ?_
  refine w_p h_m298 3 (pc' := 7) (L' := [(0, .ref 18)]) (st' := [.ref 18]) rfl ?_
  refine w_gs H (pc' := 10) (L' := [(0, .ref 18)]) h_m298 (z_at.mk 3 rfl rfl) rfl (by decide) rfl rfl rfl rfl ?_
  refine w_p h_m298 1 (pc' := 14) (L' := []) (st' := [.int (0 : Int32)]) rfl ?_
  refine w_ri h_m298 (z_at.mk 1 rfl rfl) rfl rfl ?_
  show z_W 997 293 9 [(0, .ref 18)] [.int (0 : Int32), .int (4 : Int32)] m _
  refine w_p h_m293 1 (pc' := 10) (L' := [(0, .ref 18)]) (st' := [.int (4 : Int32)]) rfl ?_
  refine w_ri h_m293 (z_at.mk 1 rfl rfl) rfl rfl ?_
  show z_W 998 235 7 [(0, .ref 143), (1, .ref 18), (2, .int (3 : Int32))] [.int (4 : Int32), .int (3 : Int32)] m _
  refine w_p h_m235 4 (pc' := 13) (L' := [(0, .ref 143), (1, .ref 18), (2, .int (3 : Int32))]) (st' := [.int (3 : Int32), .ref 18, .ref 143]) rfl ?_
  refine w_cv (H.te (by decide) rfl).1 (pc' := 16) (L' := [(0, .ref 143), (1, .ref 18), (2, .int (3 : Int32))]) (rest := [.ref 143]) (Ps := [.int (3 : Int32)]) (L0 := [(0, .ref 18), (1, .int (3 : Int32))]) h_m235 (z_at.mk 3 rfl rfl) (Or.inl ⟨rfl, rfl⟩) rfl rfl (by decide) (by decide) rfl rfl rfl rfl rfl rfl (by decide) rfl rfl rfl ?_
  refine w_p h_m294 1 (pc' := 1) (L' := [(0, .ref 18), (1, .int (3 : Int32))]) (st' := [.ref 18]) rfl ?_
  refine w_cv (H.te (by decide) rfl).1 (pc' := 4) (L' := [(0, .ref 18), (1, .int (3 : Int32))]) (rest := []) (Ps := []) (L0 := [(0, .ref 18)]) h_m294 (z_at.mk 3 rfl rfl) (Or.inl ⟨rfl, rfl⟩) rfl rfl (by decide) (by decide) rfl rfl rfl rfl rfl rfl (by decide) rfl rfl rfl ?_
  refine w_p h_m299 3 (pc' := 7) (L' := [(0, .ref 18)]) (st' := [.ref 18]) rfl ?_
  refine w_gs H (pc' := 10) (L' := [(0, .ref 18)]) h_m299 (z_at.mk 3 rfl rfl) rfl (by decide) rfl rfl rfl rfl ?_
  refine w_p h_m299 3 (pc' := 18) (L' := []) (st' := [.int (1 : Int32)]) rfl ?_
  refine w_ri h_m299 (z_at.mk 1 rfl rfl) rfl rfl ?_
  show z_W 997 294 4 [(0, .ref 18), (1, .int (3 : Int32))] [.int (1 : Int32)] m _
  refine w_p h_m294 2 (pc' := 8) (L' := [(0, .ref 18), (1, .int (3 : Int32))]) (st' := [.ref 18]) rfl ?_
  refine w_gs H (pc' := 11) (L' := [(0, .ref 18), (1, .int (3 : Int32))]) h_m294 (z_at.mk 3 rfl rfl) rfl (by decide) rfl rfl rfl rfl ?_
  refine w_p h_m294 1 (pc' := 12) (L' := [(0, .ref 18), (1, .int (3 : Int32))]) (st' := [.int (3 : Int32), .ref 36]) rfl ?_
  refine w_cs (As := [.ref 36, .int (3 : Int32)]) (rest := []) (j := 308) (L0 := [(0, .ref 36), (1, .int (3 : Int32))]) (pc' := 15) (L' := [(0, .ref 18), (1, .int (3 : Int32))]) h_m294 (z_at.mk 3 rfl rfl) (Or.inl ⟨rfl, rfl⟩) rfl rfl rfl rfl rfl ?_
  refine w_p h_m308 2 (pc' := 2) (L' := [(0, .ref 36), (1, .int (3 : Int32))]) (st' := [.ref 36, .int (3 : Int32)]) rfl ?_
  refine w_lene H (x := (4 : Int32)) (pc' := 3) (L' := [(0, .ref 36), (1, .int (3 : Int32))]) h_m308 (z_at.mk 1 rfl rfl) (by decide) rfl (by decide) rfl rfl rfl ?_
  refine w_ci (pc' := 6) (L' := [(0, .ref 36), (1, .int (3 : Int32))]) h_m308 (z_at.mk 3 rfl rfl) rfl (z_cat_le 0 rfl (by decide)) ⟨by decide, by decide⟩ rfl rfl ?_
  refine w_p h_m308 2 (pc' := 8) (L' := [(0, .ref 36), (1, .int (3 : Int32))]) (st' := [.int (3 : Int32), .ref 36]) rfl ?_
  refine w_ae H (j := 3) (pc' := 9) (L' := [(0, .ref 36), (1, .int (3 : Int32))]) h_m308 (z_at.mk 1 rfl rfl) rfl rfl rfl (by decide) rfl (by decide) rfl rfl rfl ?_
  refine w_p h_m308 3 (pc' := 14) (L' := [(0, .ref 36), (1, .int (3 : Int32))]) (st' := [.int (32 : Int32)]) rfl ?_
  refine w_ri h_m308 (z_at.mk 1 rfl rfl) rfl rfl ?_
  show z_W 997 294 15 [(0, .ref 18), (1, .int (3 : Int32))] [.int (32 : Int32)] m _
  refine w_ri h_m294 (z_at.mk 1 rfl rfl) rfl rfl ?_
  show z_W 998 235 16 [(0, .ref 143), (1, .ref 18), (2, .int (3 : Int32))] [.int (32 : Int32), .ref 143] m _
  refine w_cv (H.t rfl) (pc' := 19) (L' := [(0, .ref 143), (1, .ref 18), (2, .int (3 : Int32))]) (rest := []) (Ps := [.int (32 : Int32)]) (L0 := [(0, .ref 143), (1, .int (32 : Int32))]) h_m235 (z_at.mk 3 rfl rfl) (Or.inl ⟨rfl, rfl⟩) rfl rfl (by decide) (by decide) rfl rfl rfl rfl rfl rfl (by decide) rfl rfl rfl ?_
  refine w_p h_m234 1 (pc' := 1) (L' := [(0, .ref 143), (1, .int (32 : Int32))]) (st' := [.ref 143]) rfl ?_
  refine w_gf H (pc' := 4) (L' := [(0, .ref 143), (1, .int (32 : Int32))]) h_m234 (z_at.mk 3 rfl rfl) rfl (u := .ref 163) rfl rfl rfl ?_
  refine w_p h_m234 1 (pc' := 5) (L' := [(0, .ref 143), (1, .int (32 : Int32))]) (st' := [.ref 143, .ref 163]) rfl ?_
  refine w_gf H (pc' := 8) (L' := [(0, .ref 143), (1, .int (32 : Int32))]) h_m234 (z_at.mk 3 rfl rfl) rfl (u := .int (20 : Int32)) rfl rfl rfl ?_
  refine w_p h_m234 1 (pc' := 9) (L' := [(0, .ref 143), (1, .int (32 : Int32))]) (st' := [.int (32 : Int32), .int (20 : Int32), .ref 163]) rfl ?_
  refine w_as H (t := 0) (j := 20) (u := .int (32 : Int32)) (0, 40000, [(20, .int (32 : Int32)), (19, .int (121 : Int32)), (18, .int (97 : Int32)), (17, .int (112 : Int32)), (16, .int (59 : Int32)), (15, .int (48 : Int32)), (14, .int (49 : Int32)), (13, .int (32 : Int32)), (12, .int ((48 : Int32) + ((xs 4) - (xs 4) / (10 : Int32) * (10 : Int32)))), (11, .int (45 : Int32)), (10, .int ((48 : Int32) + ((xs 3) - (xs 3) / (10 : Int32) * (10 : Int32)))), (9, .int (44 : Int32)), (8, .int ((48 : Int32) + ((xs 2) - (xs 2) / (10 : Int32) * (10 : Int32)))), (7, .int ((48 : Int32) + (((xs 2) / (10 : Int32)) - ((xs 2) / (10 : Int32)) / (10 : Int32) * (10 : Int32)))), (6, .int (45 : Int32)), (5, .int ((48 : Int32) + ((xs 1) - (xs 1) / (10 : Int32) * (10 : Int32)))), (4, .int ((48 : Int32) + (((xs 1) / (10 : Int32)) - ((xs 1) / (10 : Int32)) / (10 : Int32) * (10 : Int32)))), (3, .int (32 : Int32)), (2, .int (107 : Int32)), (1, .int (115 : Int32)), (0, .int (97 : Int32))], some (.int (0 : Int32))) (pc' := 10) (L' := [(0, .ref 143), (1, .int (32 : Int32))]) h_m234 (z_at.mk 1 rfl rfl) rfl rfl (w_ui _ _ (by decide)) rfl rfl rfl rfl ?_
  clear H m; intro m H
  refine w_p h_m234 2 (pc' := 12) (L' := [(0, .ref 143), (1, .int (32 : Int32))]) (st' := [.ref 143, .ref 143]) rfl ?_
  refine w_gf H (pc' := 15) (L' := [(0, .ref 143), (1, .int (32 : Int32))]) h_m234 (z_at.mk 3 rfl rfl) rfl (u := .int (20 : Int32)) rfl rfl rfl ?_
  refine w_p h_m234 2 (pc' := 17) (L' := [(0, .ref 143), (1, .int (32 : Int32))]) (st' := [.int (21 : Int32), .ref 143]) rfl ?_
  refine w_pf H (22, 35, [(29, .int (21 : Int32)), (10, .int (1 : Int32)), (34, .ref 167), (33, .ref 166), (31, .ref 165), (30, .ref 164), (28, .ref 163), (26, .ref 162), (25, .ref 161), (24, .ref 160), (19, .ref 159), (18, .ref 158), (17, .ref 157), (16, .ref 156), (13, .ref 155), (12, .ref 154), (11, .ref 153), (9, .ref 152), (8, .ref 151), (7, .ref 150), (5, .ref 149), (4, .ref 148), (3, .ref 147), (2, .ref 146), (1, .ref 145), (0, .ref 144), (6, .int (0 : Int32)), (14, .int (0 : Int32)), (15, .int (0 : Int32)), (20, .int (0 : Int32)), (21, .int (0 : Int32)), (22, .int (0 : Int32)), (23, .int (0 : Int32)), (27, .int (0 : Int32)), (32, .int (0 : Int32))], none) (pc' := 20) (L' := [(0, .ref 143), (1, .int (32 : Int32))]) h_m234 (z_at.mk 3 rfl rfl) rfl (by decide) rfl (Or.inl rfl) rfl rfl rfl ?_
  clear H m; intro m H
  refine w_rv h_m234 (z_at.mk 1 rfl rfl) rfl ?_
  show z_W 998 235 19 [(0, .ref 143), (1, .ref 18), (2, .int (3 : Int32))] [] m _
  refine w_p h_m235 4 (pc' := 4) (L' := [(0, .ref 143), (1, .ref 18), (2, .int (4 : Int32))]) (st' := [.ref 18, .int (4 : Int32)]) rfl ?_
  refine w_cv (H.te (by decide) rfl).1 (pc' := 7) (L' := [(0, .ref 143), (1, .ref 18), (2, .int (4 : Int32))]) (rest := [.int (4 : Int32)]) (Ps := []) (L0 := [(0, .ref 18)]) h_m235 (z_at.mk 3 rfl rfl) (Or.inl ⟨rfl, rfl⟩) rfl rfl (by decide) (by decide) rfl rfl rfl rfl rfl rfl (by decide) rfl rfl rfl ?_
  refine w_p h_m293 1 (pc' := 1) (L' := [(0, .ref 18)]) (st' := [.ref 18]) rfl ?_
  refine w_gs H (pc' := 4) (L' := [(0, .ref 18)]) h_m293 (z_at.mk 3 rfl rfl) rfl (by decide) rfl rfl rfl rfl ?_
  refine w_lene H (x := (4 : Int32)) (pc' := 5) (L' := [(0, .ref 18)]) h_m293 (z_at.mk 1 rfl rfl) (by decide) rfl (by decide) rfl rfl rfl ?_
  refine w_p h_m293 1 (pc' := 6) (L' := [(0, .ref 18)]) (st' := [.ref 18, .int (4 : Int32)]) rfl ?_
  refine w_cv (H.te (by decide) rfl).1 (pc' := 9) (L' := [(0, .ref 18)]) (rest := [.int (4 : Int32)]) (Ps := []) (L0 := [(0, .ref 18)]) h_m293 (z_at.mk 3 rfl rfl) (Or.inl ⟨rfl, rfl⟩) rfl rfl (by decide) (by decide) rfl rfl rfl rfl rfl rfl (by decide) rfl rfl rfl ?_
  refine w_p h_m298 3 (pc' := 7) (L' := [(0, .ref 18)]) (st' := [.ref 18]) rfl ?_
  refine w_gs H (pc' := 10) (L' := [(0, .ref 18)]) h_m298 (z_at.mk 3 rfl rfl) rfl (by decide) rfl rfl rfl rfl ?_
  refine w_p h_m298 1 (pc' := 14) (L' := []) (st' := [.int (0 : Int32)]) rfl ?_
  refine w_ri h_m298 (z_at.mk 1 rfl rfl) rfl rfl ?_
  show z_W 997 293 9 [(0, .ref 18)] [.int (0 : Int32), .int (4 : Int32)] m _
  refine w_p h_m293 1 (pc' := 10) (L' := [(0, .ref 18)]) (st' := [.int (4 : Int32)]) rfl ?_
  refine w_ri h_m293 (z_at.mk 1 rfl rfl) rfl rfl ?_
  show z_W 998 235 7 [(0, .ref 143), (1, .ref 18), (2, .int (4 : Int32))] [.int (4 : Int32), .int (4 : Int32)] m _
  refine w_p h_m235 1 (pc' := 25) (L' := [(0, .ref 143), (1, .ref 18), (2, .int (4 : Int32))]) (st' := []) rfl ?_
  refine w_rv h_m235 (z_at.mk 1 rfl rfl) rfl ?_
  show z_W 999 239 238 [(0, .ref 143), (5, .int (10 : Int32)), (6, .int (1 : Int32))] [] m _
  refine w_p h_m239 2 (pc' := 241) (L' := [(0, .ref 143), (5, .int (10 : Int32)), (6, .int (1 : Int32))]) (st' := [.int (10 : Int32), .ref 143]) rfl ?_
  refine w_cv (H.t rfl) (pc' := 244) (L' := [(0, .ref 143), (5, .int (10 : Int32)), (6, .int (1 : Int32))]) (rest := []) (Ps := [.int (10 : Int32)]) (L0 := [(0, .ref 143), (1, .int (10 : Int32))]) h_m239 (z_at.mk 3 rfl rfl) (Or.inl ⟨rfl, rfl⟩) rfl rfl (by decide) (by decide) rfl rfl rfl rfl rfl rfl (by decide) rfl rfl rfl ?_
  refine w_p h_m236 7 (pc' := 11) (L' := [(0, .ref 143), (1, .int (10 : Int32))]) (st' := [.int (1 : Int32), .ref 143]) rfl ?_
  refine w_cv (H.t rfl) (pc' := 14) (L' := [(0, .ref 143), (1, .int (10 : Int32))]) (rest := []) (Ps := [.int (1 : Int32)]) (L0 := [(0, .ref 143), (1, .int (1 : Int32))]) h_m236 (z_at.mk 3 rfl rfl) (Or.inl ⟨rfl, rfl⟩) rfl rfl (by decide) (by decide) rfl rfl rfl rfl rfl rfl (by decide) rfl rfl rfl ?_
  refine w_p h_m236 9 (pc' := 22) (L' := [(0, .ref 143), (1, .int (1 : Int32))]) (st' := [.int (49 : Int32), .ref 143]) rfl ?_
  refine w_cv (H.t rfl) (pc' := 25) (L' := [(0, .ref 143), (1, .int (1 : Int32))]) (rest := []) (Ps := [.int (49 : Int32)]) (L0 := [(0, .ref 143), (1, .int (49 : Int32))]) h_m236 (z_at.mk 3 rfl rfl) (Or.inl ⟨rfl, rfl⟩) rfl rfl (by decide) (by decide) rfl rfl rfl rfl rfl rfl (by decide) rfl rfl rfl ?_
  refine w_p h_m234 1 (pc' := 1) (L' := [(0, .ref 143), (1, .int (49 : Int32))]) (st' := [.ref 143]) rfl ?_
  refine w_gf H (pc' := 4) (L' := [(0, .ref 143), (1, .int (49 : Int32))]) h_m234 (z_at.mk 3 rfl rfl) rfl (u := .ref 163) rfl rfl rfl ?_
  refine w_p h_m234 1 (pc' := 5) (L' := [(0, .ref 143), (1, .int (49 : Int32))]) (st' := [.ref 143, .ref 163]) rfl ?_
  refine w_gf H (pc' := 8) (L' := [(0, .ref 143), (1, .int (49 : Int32))]) h_m234 (z_at.mk 3 rfl rfl) rfl (u := .int (21 : Int32)) rfl rfl rfl ?_
  refine w_p h_m234 1 (pc' := 9) (L' := [(0, .ref 143), (1, .int (49 : Int32))]) (st' := [.int (49 : Int32), .int (21 : Int32), .ref 163]) rfl ?_
  refine w_as H (t := 0) (j := 21) (u := .int (49 : Int32)) (0, 40000, [(21, .int (49 : Int32)), (20, .int (32 : Int32)), (19, .int (121 : Int32)), (18, .int (97 : Int32)), (17, .int (112 : Int32)), (16, .int (59 : Int32)), (15, .int (48 : Int32)), (14, .int (49 : Int32)), (13, .int (32 : Int32)), (12, .int ((48 : Int32) + ((xs 4) - (xs 4) / (10 : Int32) * (10 : Int32)))), (11, .int (45 : Int32)), (10, .int ((48 : Int32) + ((xs 3) - (xs 3) / (10 : Int32) * (10 : Int32)))), (9, .int (44 : Int32)), (8, .int ((48 : Int32) + ((xs 2) - (xs 2) / (10 : Int32) * (10 : Int32)))), (7, .int ((48 : Int32) + (((xs 2) / (10 : Int32)) - ((xs 2) / (10 : Int32)) / (10 : Int32) * (10 : Int32)))), (6, .int (45 : Int32)), (5, .int ((48 : Int32) + ((xs 1) - (xs 1) / (10 : Int32) * (10 : Int32)))), (4, .int ((48 : Int32) + (((xs 1) / (10 : Int32)) - ((xs 1) / (10 : Int32)) / (10 : Int32) * (10 : Int32)))), (3, .int (32 : Int32)), (2, .int (107 : Int32)), (1, .int (115 : Int32)), (0, .int (97 : Int32))], some (.int (0 : Int32))) (pc' := 10) (L' := [(0, .ref 143), (1, .int (49 : Int32))]) h_m234 (z_at.mk 1 rfl rfl) rfl rfl (w_ui _ _ (by decide)) rfl rfl rfl rfl ?_
  clear H m; intro m H
  refine w_p h_m234 2 (pc' := 12) (L' := [(0, .ref 143), (1, .int (49 : Int32))]) (st' := [.ref 143, .ref 143]) rfl ?_
  refine w_gf H (pc' := 15) (L' := [(0, .ref 143), (1, .int (49 : Int32))]) h_m234 (z_at.mk 3 rfl rfl) rfl (u := .int (21 : Int32)) rfl rfl rfl ?_
  refine w_p h_m234 2 (pc' := 17) (L' := [(0, .ref 143), (1, .int (49 : Int32))]) (st' := [.int (22 : Int32), .ref 143]) rfl ?_
  refine w_pf H (22, 35, [(29, .int (22 : Int32)), (10, .int (1 : Int32)), (34, .ref 167), (33, .ref 166), (31, .ref 165), (30, .ref 164), (28, .ref 163), (26, .ref 162), (25, .ref 161), (24, .ref 160), (19, .ref 159), (18, .ref 158), (17, .ref 157), (16, .ref 156), (13, .ref 155), (12, .ref 154), (11, .ref 153), (9, .ref 152), (8, .ref 151), (7, .ref 150), (5, .ref 149), (4, .ref 148), (3, .ref 147), (2, .ref 146), (1, .ref 145), (0, .ref 144), (6, .int (0 : Int32)), (14, .int (0 : Int32)), (15, .int (0 : Int32)), (20, .int (0 : Int32)), (21, .int (0 : Int32)), (22, .int (0 : Int32)), (23, .int (0 : Int32)), (27, .int (0 : Int32)), (32, .int (0 : Int32))], none) (pc' := 20) (L' := [(0, .ref 143), (1, .int (49 : Int32))]) h_m234 (z_at.mk 3 rfl rfl) rfl (by decide) rfl (Or.inl rfl) rfl rfl rfl ?_
  clear H m; intro m H
  refine w_rv h_m234 (z_at.mk 1 rfl rfl) rfl ?_
  show z_W 997 236 25 [(0, .ref 143), (1, .int (1 : Int32))] [] m _
  refine w_rv h_m236 (z_at.mk 1 rfl rfl) rfl ?_
  show z_W 998 236 14 [(0, .ref 143), (1, .int (10 : Int32))] [] m _
  refine w_p h_m236 6 (pc' := 22) (L' := [(0, .ref 143), (1, .int (10 : Int32))]) (st' := [.int (48 : Int32), .ref 143]) rfl ?_
  refine w_cv (H.t rfl) (pc' := 25) (L' := [(0, .ref 143), (1, .int (10 : Int32))]) (rest := []) (Ps := [.int (48 : Int32)]) (L0 := [(0, .ref 143), (1, .int (48 : Int32))]) h_m236 (z_at.mk 3 rfl rfl) (Or.inl ⟨rfl, rfl⟩) rfl rfl (by decide) (by decide) rfl rfl rfl rfl rfl rfl (by decide) rfl rfl rfl ?_
  refine w_p h_m234 1 (pc' := 1) (L' := [(0, .ref 143), (1, .int (48 : Int32))]) (st' := [.ref 143]) rfl ?_
  refine w_gf H (pc' := 4) (L' := [(0, .ref 143), (1, .int (48 : Int32))]) h_m234 (z_at.mk 3 rfl rfl) rfl (u := .ref 163) rfl rfl rfl ?_
  refine w_p h_m234 1 (pc' := 5) (L' := [(0, .ref 143), (1, .int (48 : Int32))]) (st' := [.ref 143, .ref 163]) rfl ?_
  refine w_gf H (pc' := 8) (L' := [(0, .ref 143), (1, .int (48 : Int32))]) h_m234 (z_at.mk 3 rfl rfl) rfl (u := .int (22 : Int32)) rfl rfl rfl ?_
  refine w_p h_m234 1 (pc' := 9) (L' := [(0, .ref 143), (1, .int (48 : Int32))]) (st' := [.int (48 : Int32), .int (22 : Int32), .ref 163]) rfl ?_
  refine w_as H (t := 0) (j := 22) (u := .int (48 : Int32)) (0, 40000, [(22, .int (48 : Int32)), (21, .int (49 : Int32)), (20, .int (32 : Int32)), (19, .int (121 : Int32)), (18, .int (97 : Int32)), (17, .int (112 : Int32)), (16, .int (59 : Int32)), (15, .int (48 : Int32)), (14, .int (49 : Int32)), (13, .int (32 : Int32)), (12, .int ((48 : Int32) + ((xs 4) - (xs 4) / (10 : Int32) * (10 : Int32)))), (11, .int (45 : Int32)), (10, .int ((48 : Int32) + ((xs 3) - (xs 3) / (10 : Int32) * (10 : Int32)))), (9, .int (44 : Int32)), (8, .int ((48 : Int32) + ((xs 2) - (xs 2) / (10 : Int32) * (10 : Int32)))), (7, .int ((48 : Int32) + (((xs 2) / (10 : Int32)) - ((xs 2) / (10 : Int32)) / (10 : Int32) * (10 : Int32)))), (6, .int (45 : Int32)), (5, .int ((48 : Int32) + ((xs 1) - (xs 1) / (10 : Int32) * (10 : Int32)))), (4, .int ((48 : Int32) + (((xs 1) / (10 : Int32)) - ((xs 1) / (10 : Int32)) / (10 : Int32) * (10 : Int32)))), (3, .int (32 : Int32)), (2, .int (107 : Int32)), (1, .int (115 : Int32)), (0, .int (97 : Int32))], some (.int (0 : Int32))) (pc' := 10) (L' := [(0, .ref 143), (1, .int (48 : Int32))]) h_m234 (z_at.mk 1 rfl rfl) rfl rfl (w_ui _ _ (by decide)) rfl rfl rfl rfl ?_
  clear H m; intro m H
  refine w_p h_m234 2 (pc' := 12) (L' := [(0, .ref 143), (1, .int (48 : Int32))]) (st' := [.ref 143, .ref 143]) rfl ?_
  refine w_gf H (pc' := 15) (L' := [(0, .ref 143), (1, .int (48 : Int32))]) h_m234 (z_at.mk 3 rfl rfl) rfl (u := .int (22 : Int32)) rfl rfl rfl ?_
  refine w_p h_m234 2 (pc' := 17) (L' := [(0, .ref 143), (1, .int (48 : Int32))]) (st' := [.int (23 : Int32), .ref 143]) rfl ?_
  refine w_pf H (22, 35, [(29, .int (23 : Int32)), (10, .int (1 : Int32)), (34, .ref 167), (33, .ref 166), (31, .ref 165), (30, .ref 164), (28, .ref 163), (26, .ref 162), (25, .ref 161), (24, .ref 160), (19, .ref 159), (18, .ref 158), (17, .ref 157), (16, .ref 156), (13, .ref 155), (12, .ref 154), (11, .ref 153), (9, .ref 152), (8, .ref 151), (7, .ref 150), (5, .ref 149), (4, .ref 148), (3, .ref 147), (2, .ref 146), (1, .ref 145), (0, .ref 144), (6, .int (0 : Int32)), (14, .int (0 : Int32)), (15, .int (0 : Int32)), (20, .int (0 : Int32)), (21, .int (0 : Int32)), (22, .int (0 : Int32)), (23, .int (0 : Int32)), (27, .int (0 : Int32)), (32, .int (0 : Int32))], none) (pc' := 20) (L' := [(0, .ref 143), (1, .int (48 : Int32))]) h_m234 (z_at.mk 3 rfl rfl) rfl (by decide) rfl (Or.inl rfl) rfl rfl rfl ?_
  clear H m; intro m H
  refine w_rv h_m234 (z_at.mk 1 rfl rfl) rfl ?_
  show z_W 998 236 25 [(0, .ref 143), (1, .int (10 : Int32))] [] m _
  refine w_rv h_m236 (z_at.mk 1 rfl rfl) rfl ?_
  show z_W 999 239 244 [(0, .ref 143), (5, .int (10 : Int32)), (6, .int (1 : Int32))] [] m _
  refine w_p h_m239 1 (pc' := 245) (L' := [(0, .ref 143), (5, .int (10 : Int32)), (6, .int (1 : Int32))]) (st' := [.ref 143]) rfl ?_
  refine w_gf H (pc' := 248) (L' := [(0, .ref 143), (5, .int (10 : Int32)), (6, .int (1 : Int32))]) h_m239 (z_at.mk 3 rfl rfl) rfl (u := .int (23 : Int32)) rfl rfl rfl ?_
  refine w_ri h_m239 (z_at.mk 1 rfl rfl) rfl rfl ?_
  show z_W 1000 1000 542 [(0, .ref 0), (1, .ref 39), (2, .ref 143), (3, .int (0 : Int32))] [.int (23 : Int32), .int (23 : Int32)] m _
  refine w_p h_m1000 5 (pc' := 20) (L' := [(0, .ref 0), (1, .ref 39), (2, .ref 143), (3, .int (6 : Int32))]) (st' := [.ref 0, .int (6 : Int32)]) rfl ?_
  refine w_lene H (x := (6 : Int32)) (pc' := 21) (L' := [(0, .ref 0), (1, .ref 39), (2, .ref 143), (3, .int (6 : Int32))]) h_m1000 (z_at.mk 1 rfl rfl) (by decide) rfl (by decide) rfl rfl rfl ?_
  refine w_p h_m1000 4 (pc' := 1381) (L' := [(0, .ref 0), (1, .ref 39), (2, .ref 143), (3, .int (6 : Int32))]) (st' := [.int (1 : Int32)]) rfl ?_
  refine w_ri h_m1000 (z_at.mk 1 rfl rfl) rfl rfl ?_
  exact hQ _ _ _ _ H hN hS
set_option maxHeartbeats 400000000 in
set_option maxRecDepth 20000 in
theorem w_rest12_3 {xs : Nat → Int32} {m : zM} {Q : Option Value → zM → Prop} {N S : Nat} (H : w_ok 6 xs N S w_TM m) (hN : N ≤ 600039) (hS : S ≤ 7302250) (hQ : ∀ N S T m, w_ok 6 xs N S T m → N ≤ 600039 → S ≤ 7302250 → Q (some (.int 1)) m) (c_1 : ¬ ((xs 1).toInt < 0)) (c_2 : (xs 1).toInt < 32) (c_3 : ¬ ((xs 3).toInt < 0)) (c_4 : (xs 3).toInt < 32) (c_5 : ¬ ((xs 2).toInt < 0)) (c_6 : (xs 2).toInt < 32) (c_7 : ¬ ((xs 4).toInt < 0)) (c_8 : (xs 4).toInt < 32) (c_9 : (xs 1).toInt ≤ (xs 2).toInt) (c_10 : (xs 3).toInt ≤ (xs 4).toInt) (c_11 : ¬ ((-1) * (xs 1).toInt ≤ (-10))) (c_13 : (-1) * (xs 2).toInt ≤ (-10)) (c_16 : (-1) * (xs 3).toInt ≤ (-10)) : z_W 1000 1000 518 [(0, .ref 0), (1, .ref 39), (2, .ref 143), (3, .int (0 : Int32))] [.int (24 : Int32)] m Q := by
  have b1 := zi_bd (xs 1)
  have b2 := zi_bd (xs 2)
  have b3 := zi_bd (xs 3)
  have b4 := zi_bd (xs 4)
  have b5 := zi_bd (xs 5)
  refine w_p h_m1000 5 (pc' := 523) (L' := [(0, .ref 0), (1, .ref 39), (2, .ref 143), (3, .int (0 : Int32))]) (st' := [.int (1 : Int32), .ref 0, .ref 143, .int (24 : Int32)]) rfl ?_
  refine w_ae H (j := 1) (pc' := 524) (L' := [(0, .ref 0), (1, .ref 39), (2, .ref 143), (3, .int (0 : Int32))]) h_m1000 (z_at.mk 1 rfl rfl) rfl rfl rfl (by decide) rfl (by decide) rfl rfl rfl ?_
  refine w_p h_m1000 4 (pc' := 528) (L' := [(0, .ref 0), (1, .ref 39), (2, .ref 143), (3, .int (0 : Int32))]) (st' := [.int (2 : Int32), .ref 0, .int (xs 1), .ref 143, .int (24 : Int32)]) rfl ?_
  refine w_ae H (j := 2) (pc' := 529) (L' := [(0, .ref 0), (1, .ref 39), (2, .ref 143), (3, .int (0 : Int32))]) h_m1000 (z_at.mk 1 rfl rfl) rfl rfl rfl (by decide) rfl (by decide) rfl rfl rfl ?_
  refine w_p h_m1000 4 (pc' := 533) (L' := [(0, .ref 0), (1, .ref 39), (2, .ref 143), (3, .int (0 : Int32))]) (st' := [.int (3 : Int32), .ref 0, .int (xs 2), .int (xs 1), .ref 143, .int (24 : Int32)]) rfl ?_
  refine w_ae H (j := 3) (pc' := 534) (L' := [(0, .ref 0), (1, .ref 39), (2, .ref 143), (3, .int (0 : Int32))]) h_m1000 (z_at.mk 1 rfl rfl) rfl rfl rfl (by decide) rfl (by decide) rfl rfl rfl ?_
  refine w_p h_m1000 4 (pc' := 538) (L' := [(0, .ref 0), (1, .ref 39), (2, .ref 143), (3, .int (0 : Int32))]) (st' := [.int (4 : Int32), .ref 0, .int (xs 3), .int (xs 2), .int (xs 1), .ref 143, .int (24 : Int32)]) rfl ?_
  refine w_ae H (j := 4) (pc' := 539) (L' := [(0, .ref 0), (1, .ref 39), (2, .ref 143), (3, .int (0 : Int32))]) h_m1000 (z_at.mk 1 rfl rfl) rfl rfl rfl (by decide) rfl (by decide) rfl rfl rfl ?_
  refine w_cv (H.t rfl) (pc' := 542) (L' := [(0, .ref 0), (1, .ref 39), (2, .ref 143), (3, .int (0 : Int32))]) (rest := [.int (24 : Int32)]) (Ps := [.int (xs 1), .int (xs 2), .int (xs 3), .int (xs 4)]) (L0 := [(0, .ref 143), (1, .int (xs 1)), (2, .int (xs 2)), (3, .int (xs 3)), (4, .int (xs 4))]) h_m1000 (z_at.mk 3 rfl rfl) (Or.inl ⟨rfl, rfl⟩) rfl rfl (by decide) (by decide) rfl rfl rfl rfl rfl rfl (by decide) rfl rfl rfl ?_
  refine w_p h_m239 4 (pc' := 5) (L' := [(0, .ref 143), (1, .int (xs 1)), (2, .int (xs 2)), (3, .int (xs 3)), (4, .int (xs 4))]) (st' := [.int (xs 4), .int (xs 3), .int (xs 2), .int (xs 1)]) rfl ?_
  refine w_cs (As := [.int (xs 1), .int (xs 2), .int (xs 3), .int (xs 4)]) (rest := []) (j := 164) (L0 := [(0, .int (xs 1)), (1, .int (xs 2)), (2, .int (xs 3)), (3, .int (xs 4))]) (pc' := 8) (L' := [(0, .ref 143), (1, .int (xs 1)), (2, .int (xs 2)), (3, .int (xs 3)), (4, .int (xs 4))]) h_m239 (z_at.mk 3 rfl rfl) (Or.inl ⟨rfl, rfl⟩) rfl rfl rfl rfl rfl ?_
  refine w_p h_m164 3 (pc' := 4) (L' := [(0, .int (xs 1)), (1, .int (xs 2)), (2, .int (xs 3)), (3, .int (xs 4))]) (st' := [.int (31 : Int32), .int (0 : Int32), .int (xs 1)]) rfl ?_
  refine w_cs (As := [.int (xs 1), .int (0 : Int32), .int (31 : Int32)]) (rest := []) (j := 159) (L0 := [(0, .int (xs 1)), (1, .int (0 : Int32)), (2, .int (31 : Int32))]) (pc' := 7) (L' := [(0, .int (xs 1)), (1, .int (xs 2)), (2, .int (xs 3)), (3, .int (xs 4))]) h_m164 (z_at.mk 3 rfl rfl) (Or.inl ⟨rfl, rfl⟩) rfl rfl rfl rfl rfl ?_
  refine w_p h_m159 2 (pc' := 2) (L' := [(0, .int (xs 1)), (1, .int (0 : Int32)), (2, .int (31 : Int32))]) (st' := [.int (0 : Int32), .int (xs 1)]) rfl ?_
  refine w_f2 (pc' := 5) (L' := [(0, .int (xs 1)), (1, .int (0 : Int32)), (2, .int (31 : Int32))]) h_m159 (z_at.mk 3 rfl rfl) rfl (zc (a := (xs 1).toInt) (b := 0) rfl rfl (decide_eq_false (by omega))) rfl rfl ?_
  refine w_p h_m159 2 (pc' := 7) (L' := [(0, .int (xs 1)), (1, .int (0 : Int32)), (2, .int (31 : Int32))]) (st' := [.int (31 : Int32), .int (xs 1)]) rfl ?_
  refine w_f2 (pc' := 10) (L' := [(0, .int (xs 1)), (1, .int (0 : Int32)), (2, .int (31 : Int32))]) h_m159 (z_at.mk 3 rfl rfl) rfl (zc (a := (xs 1).toInt) (b := 31) rfl rfl (decide_eq_false (by omega))) rfl rfl ?_
  refine w_p h_m159 2 (pc' := 15) (L' := []) (st' := [.int (1 : Int32)]) rfl ?_
  refine w_ri h_m159 (z_at.mk 1 rfl rfl) rfl rfl ?_
  show z_W 998 164 7 [(0, .int (xs 1)), (1, .int (xs 2)), (2, .int (xs 3)), (3, .int (xs 4))] [.int (1 : Int32)] m _
  refine w_p h_m164 4 (pc' := 14) (L' := [(0, .int (xs 1)), (1, .int (xs 2)), (2, .int (xs 3)), (3, .int (xs 4))]) (st' := [.int (31 : Int32), .int (xs 1), .int (xs 2)]) rfl ?_
  refine w_cs (As := [.int (xs 2), .int (xs 1), .int (31 : Int32)]) (rest := []) (j := 159) (L0 := [(0, .int (xs 2)), (1, .int (xs 1)), (2, .int (31 : Int32))]) (pc' := 17) (L' := [(0, .int (xs 1)), (1, .int (xs 2)), (2, .int (xs 3)), (3, .int (xs 4))]) h_m164 (z_at.mk 3 rfl rfl) (Or.inl ⟨rfl, rfl⟩) rfl rfl rfl rfl rfl ?_
  refine w_p h_m159 2 (pc' := 2) (L' := [(0, .int (xs 2)), (1, .int (xs 1)), (2, .int (31 : Int32))]) (st' := [.int (xs 1), .int (xs 2)]) rfl ?_
  refine w_f2 (pc' := 5) (L' := [(0, .int (xs 2)), (1, .int (xs 1)), (2, .int (31 : Int32))]) h_m159 (z_at.mk 3 rfl rfl) rfl (zc (a := (xs 2).toInt) (b := (xs 1).toInt) rfl rfl (decide_eq_false (by omega))) rfl rfl ?_
  refine w_p h_m159 2 (pc' := 7) (L' := [(0, .int (xs 2)), (1, .int (xs 1)), (2, .int (31 : Int32))]) (st' := [.int (31 : Int32), .int (xs 2)]) rfl ?_
  refine w_f2 (pc' := 10) (L' := [(0, .int (xs 2)), (1, .int (xs 1)), (2, .int (31 : Int32))]) h_m159 (z_at.mk 3 rfl rfl) rfl (zc (a := (xs 2).toInt) (b := 31) rfl rfl (decide_eq_false (by omega))) rfl rfl ?_
  refine w_p h_m159 2 (pc' := 15) (L' := []) (st' := [.int (1 : Int32)]) rfl ?_
  refine w_ri h_m159 (z_at.mk 1 rfl rfl) rfl rfl ?_
  show z_W 998 164 17 [(0, .int (xs 1)), (1, .int (xs 2)), (2, .int (xs 3)), (3, .int (xs 4))] [.int (1 : Int32)] m _
  refine w_p h_m164 4 (pc' := 24) (L' := [(0, .int (xs 1)), (1, .int (xs 2)), (2, .int (xs 3)), (3, .int (xs 4))]) (st' := [.int (31 : Int32), .int (0 : Int32), .int (xs 3)]) rfl ?_
  refine w_cs (As := [.int (xs 3), .int (0 : Int32), .int (31 : Int32)]) (rest := []) (j := 159) (L0 := [(0, .int (xs 3)), (1, .int (0 : Int32)), (2, .int (31 : Int32))]) (pc' := 27) (L' := [(0, .int (xs 1)), (1, .int (xs 2)), (2, .int (xs 3)), (3, .int (xs 4))]) h_m164 (z_at.mk 3 rfl rfl) (Or.inl ⟨rfl, rfl⟩) rfl rfl rfl rfl rfl ?_
  refine w_p h_m159 2 (pc' := 2) (L' := [(0, .int (xs 3)), (1, .int (0 : Int32)), (2, .int (31 : Int32))]) (st' := [.int (0 : Int32), .int (xs 3)]) rfl ?_
  refine w_f2 (pc' := 5) (L' := [(0, .int (xs 3)), (1, .int (0 : Int32)), (2, .int (31 : Int32))]) h_m159 (z_at.mk 3 rfl rfl) rfl (zc (a := (xs 3).toInt) (b := 0) rfl rfl (decide_eq_false (by omega))) rfl rfl ?_
  refine w_p h_m159 2 (pc' := 7) (L' := [(0, .int (xs 3)), (1, .int (0 : Int32)), (2, .int (31 : Int32))]) (st' := [.int (31 : Int32), .int (xs 3)]) rfl ?_
  refine w_f2 (pc' := 10) (L' := [(0, .int (xs 3)), (1, .int (0 : Int32)), (2, .int (31 : Int32))]) h_m159 (z_at.mk 3 rfl rfl) rfl (zc (a := (xs 3).toInt) (b := 31) rfl rfl (decide_eq_false (by omega))) rfl rfl ?_
  refine w_p h_m159 2 (pc' := 15) (L' := []) (st' := [.int (1 : Int32)]) rfl ?_
  refine w_ri h_m159 (z_at.mk 1 rfl rfl) rfl rfl ?_
  show z_W 998 164 27 [(0, .int (xs 1)), (1, .int (xs 2)), (2, .int (xs 3)), (3, .int (xs 4))] [.int (1 : Int32)] m _
  refine w_p h_m164 4 (pc' := 34) (L' := [(0, .int (xs 1)), (1, .int (xs 2)), (2, .int (xs 3)), (3, .int (xs 4))]) (st' := [.int (31 : Int32), .int (xs 3), .int (xs 4)]) rfl ?_
  refine w_cs (As := [.int (xs 4), .int (xs 3), .int (31 : Int32)]) (rest := []) (j := 159) (L0 := [(0, .int (xs 4)), (1, .int (xs 3)), (2, .int (31 : Int32))]) (pc' := 37) (L' := [(0, .int (xs 1)), (1, .int (xs 2)), (2, .int (xs 3)), (3, .int (xs 4))]) h_m164 (z_at.mk 3 rfl rfl) (Or.inl ⟨rfl, rfl⟩) rfl rfl rfl rfl rfl ?_
  refine w_p h_m159 2 (pc' := 2) (L' := [(0, .int (xs 4)), (1, .int (xs 3)), (2, .int (31 : Int32))]) (st' := [.int (xs 3), .int (xs 4)]) rfl ?_
  refine w_f2 (pc' := 5) (L' := [(0, .int (xs 4)), (1, .int (xs 3)), (2, .int (31 : Int32))]) h_m159 (z_at.mk 3 rfl rfl) rfl (zc (a := (xs 4).toInt) (b := (xs 3).toInt) rfl rfl (decide_eq_false (by omega))) rfl rfl ?_
  refine w_p h_m159 2 (pc' := 7) (L' := [(0, .int (xs 4)), (1, .int (xs 3)), (2, .int (31 : Int32))]) (st' := [.int (31 : Int32), .int (xs 4)]) rfl ?_
  refine w_f2 (pc' := 10) (L' := [(0, .int (xs 4)), (1, .int (xs 3)), (2, .int (31 : Int32))]) h_m159 (z_at.mk 3 rfl rfl) rfl (zc (a := (xs 4).toInt) (b := 31) rfl rfl (decide_eq_false (by omega))) rfl rfl ?_
  refine w_p h_m159 2 (pc' := 15) (L' := []) (st' := [.int (1 : Int32)]) rfl ?_
  refine w_ri h_m159 (z_at.mk 1 rfl rfl) rfl rfl ?_
  show z_W 998 164 37 [(0, .int (xs 1)), (1, .int (xs 2)), (2, .int (xs 3)), (3, .int (xs 4))] [.int (1 : Int32)] m _
  refine w_p h_m164 3 (pc' := 45) (L' := []) (st' := [.int (1 : Int32)]) rfl ?_
  refine w_ri h_m164 (z_at.mk 1 rfl rfl) rfl rfl ?_
  show z_W 999 239 8 [(0, .ref 143), (1, .int (xs 1)), (2, .int (xs 2)), (3, .int (xs 3)), (4, .int (xs 4))] [.int (1 : Int32)] m _
  refine w_p h_m239 2 (pc' := 15) (L' := [(0, .ref 143), (1, .int (xs 1)), (2, .int (xs 2)), (3, .int (xs 3)), (4, .int (xs 4))]) (st' := [.ref 143]) rfl ?_
  refine w_gf H (pc' := 18) (L' := [(0, .ref 143), (1, .int (xs 1)), (2, .int (xs 2)), (3, .int (xs 3)), (4, .int (xs 4))]) h_m239 (z_at.mk 3 rfl rfl) rfl (u := .ref 152) rfl rfl rfl ?_
  refine w_p h_m239 5 (pc' := 24) (L' := [(0, .ref 143), (1, .int (xs 1)), (2, .int (xs 2)), (3, .int (xs 3)), (4, .int (xs 4))]) (st' := [.int (xs 4), .int (xs 3), .int (xs 2), .int (xs 1), .int (0 : Int32), .ref 152]) rfl ?_
  refine w_cs (As := [.ref 152, .int (0 : Int32), .int (xs 1), .int (xs 2), .int (xs 3), .int (xs 4)]) (rest := []) (j := 165) (L0 := [(0, .ref 152), (1, .int (0 : Int32)), (2, .int (xs 1)), (3, .int (xs 2)), (4, .int (xs 3)), (5, .int (xs 4))]) (pc' := 27) (L' := [(0, .ref 143), (1, .int (xs 1)), (2, .int (xs 2)), (3, .int (xs 3)), (4, .int (xs 4))]) h_m239 (z_at.mk 3 rfl rfl) (Or.inl ⟨rfl, rfl⟩) rfl rfl rfl rfl rfl ?_
  refine w_p h_m165 3 (pc' := 3) (L' := [(0, .ref 152), (1, .int (0 : Int32)), (2, .int (xs 1)), (3, .int (xs 2)), (4, .int (xs 3)), (5, .int (xs 4))]) (st' := [.int (xs 1), .int (0 : Int32), .ref 152]) rfl ?_
  refine w_as H (t := 0) (j := 0) (u := .int (xs 1)) (0, 4, [(0, .int (xs 1))], some (.int (0 : Int32))) (pc' := 4) (L' := [(0, .ref 152), (1, .int (0 : Int32)), (2, .int (xs 1)), (3, .int (xs 2)), (4, .int (xs 3)), (5, .int (xs 4))]) h_m165 (z_at.mk 1 rfl rfl) rfl rfl (w_ui _ _ (by decide)) rfl rfl rfl rfl ?_
  clear H m; intro m H
  refine w_p h_m165 5 (pc' := 9) (L' := [(0, .ref 152), (1, .int (0 : Int32)), (2, .int (xs 1)), (3, .int (xs 2)), (4, .int (xs 3)), (5, .int (xs 4))]) (st' := [.int (xs 2), .int (1 : Int32), .ref 152]) rfl ?_
  refine w_as H (t := 0) (j := 1) (u := .int (xs 2)) (0, 4, [(1, .int (xs 2)), (0, .int (xs 1))], some (.int (0 : Int32))) (pc' := 10) (L' := [(0, .ref 152), (1, .int (0 : Int32)), (2, .int (xs 1)), (3, .int (xs 2)), (4, .int (xs 3)), (5, .int (xs 4))]) h_m165 (z_at.mk 1 rfl rfl) rfl rfl (w_ui _ _ (by decide)) rfl rfl rfl rfl ?_
  clear H m; intro m H
  refine w_p h_m165 5 (pc' := 16) (L' := [(0, .ref 152), (1, .int (0 : Int32)), (2, .int (xs 1)), (3, .int (xs 2)), (4, .int (xs 3)), (5, .int (xs 4))]) (st' := [.int (xs 3), .int (2 : Int32), .ref 152]) rfl ?_
  refine w_as H (t := 0) (j := 2) (u := .int (xs 3)) (0, 4, [(2, .int (xs 3)), (1, .int (xs 2)), (0, .int (xs 1))], some (.int (0 : Int32))) (pc' := 17) (L' := [(0, .ref 152), (1, .int (0 : Int32)), (2, .int (xs 1)), (3, .int (xs 2)), (4, .int (xs 3)), (5, .int (xs 4))]) h_m165 (z_at.mk 1 rfl rfl) rfl rfl (w_ui _ _ (by decide)) rfl rfl rfl rfl ?_
  clear H m; intro m H
  refine w_p h_m165 5 (pc' := 23) (L' := [(0, .ref 152), (1, .int (0 : Int32)), (2, .int (xs 1)), (3, .int (xs 2)), (4, .int (xs 3)), (5, .int (xs 4))]) (st' := [.int (xs 4), .int (3 : Int32), .ref 152]) rfl ?_
  refine w_as H (t := 0) (j := 3) (u := .int (xs 4)) (0, 4, [(3, .int (xs 4)), (2, .int (xs 3)), (1, .int (xs 2)), (0, .int (xs 1))], some (.int (0 : Int32))) (pc' := 24) (L' := [(0, .ref 152), (1, .int (0 : Int32)), (2, .int (xs 1)), (3, .int (xs 2)), (4, .int (xs 3)), (5, .int (xs 4))]) h_m165 (z_at.mk 1 rfl rfl) rfl rfl (w_ui _ _ (by decide)) rfl rfl rfl rfl ?_
  clear H m; intro m H
  refine w_rv h_m165 (z_at.mk 1 rfl rfl) rfl ?_
  show z_W 999 239 27 [(0, .ref 143), (1, .int (xs 1)), (2, .int (xs 2)), (3, .int (xs 3)), (4, .int (xs 4))] [] m _
  refine w_p h_m239 1 (pc' := 28) (L' := [(0, .ref 143), (1, .int (xs 1)), (2, .int (xs 2)), (3, .int (xs 3)), (4, .int (xs 4))]) (st' := [.ref 143]) rfl ?_
  refine w_cv (H.t rfl) (pc' := 31) (L' := [(0, .ref 143), (1, .int (xs 1)), (2, .int (xs 2)), (3, .int (xs 3)), (4, .int (xs 4))]) (rest := []) (Ps := []) (L0 := [(0, .ref 143)]) h_m239 (z_at.mk 3 rfl rfl) (Or.inl ⟨rfl, rfl⟩) rfl rfl (by decide) (by decide) rfl rfl rfl rfl rfl rfl (by decide) rfl rfl rfl ?_
  refine w_p h_m181 1 (pc' := 1) (L' := [(0, .ref 143)]) (st' := [.ref 143]) rfl ?_
  refine w_gf H (pc' := 4) (L' := [(0, .ref 143)]) h_m181 (z_at.mk 3 rfl rfl) rfl (u := .ref 152) rfl rfl rfl ?_
  refine w_p h_m181 2 (pc' := 6) (L' := [(0, .ref 143)]) (st' := [.ref 143, .int (0 : Int32), .ref 152]) rfl ?_
  refine w_gf H (pc' := 9) (L' := [(0, .ref 143)]) h_m181 (z_at.mk 3 rfl rfl) rfl (u := .ref 150) rfl rfl rfl ?_
  refine w_p h_m181 1 (pc' := 10) (L' := [(0, .ref 143)]) (st' := [.int (0 : Int32), .ref 150, .int (0 : Int32), .ref 152]) rfl ?_
  refine w_cs (As := [.ref 152, .int (0 : Int32), .ref 150, .int (0 : Int32)]) (rest := []) (j := 166) (L0 := [(0, .ref 152), (1, .int (0 : Int32)), (2, .ref 150), (3, .int (0 : Int32))]) (pc' := 13) (L' := [(0, .ref 143)]) h_m181 (z_at.mk 3 rfl rfl) (Or.inl ⟨rfl, rfl⟩) rfl rfl rfl rfl rfl ?_
  refine w_p h_m166 4 (pc' := 4) (L' := [(0, .ref 152), (1, .int (0 : Int32)), (2, .ref 150), (3, .int (0 : Int32))]) (st' := [.int (0 : Int32), .ref 152, .int (0 : Int32), .ref 150]) rfl ?_
  refine w_al H (t := 0) (j := 0) (pc' := 5) (L' := [(0, .ref 152), (1, .int (0 : Int32)), (2, .ref 150), (3, .int (0 : Int32))]) h_m166 (z_at.mk 1 rfl rfl) rfl rfl rfl (u := .int (xs 1)) rfl rfl rfl ?_
  refine w_p h_m166 4 (pc' := 9) (L' := [(0, .ref 152), (1, .int (0 : Int32)), (2, .ref 150), (3, .int (0 : Int32))]) (st' := [.int (1 : Int32), .ref 152, .int (xs 1), .int (0 : Int32), .ref 150]) rfl ?_
  refine w_al H (t := 0) (j := 1) (pc' := 10) (L' := [(0, .ref 152), (1, .int (0 : Int32)), (2, .ref 150), (3, .int (0 : Int32))]) h_m166 (z_at.mk 1 rfl rfl) rfl rfl rfl (u := .int (xs 2)) rfl rfl rfl ?_
  refine w_p h_m166 4 (pc' := 14) (L' := [(0, .ref 152), (1, .int (0 : Int32)), (2, .ref 150), (3, .int (0 : Int32))]) (st' := [.int (2 : Int32), .ref 152, .int (xs 2), .int (xs 1), .int (0 : Int32), .ref 150]) rfl ?_
  refine w_al H (t := 0) (j := 2) (pc' := 15) (L' := [(0, .ref 152), (1, .int (0 : Int32)), (2, .ref 150), (3, .int (0 : Int32))]) h_m166 (z_at.mk 1 rfl rfl) rfl rfl rfl (u := .int (xs 3)) rfl rfl rfl ?_
  refine w_p h_m166 4 (pc' := 19) (L' := [(0, .ref 152), (1, .int (0 : Int32)), (2, .ref 150), (3, .int (0 : Int32))]) (st' := [.int (3 : Int32), .ref 152, .int (xs 3), .int (xs 2), .int (xs 1), .int (0 : Int32), .ref 150]) rfl ?_
  refine w_al H (t := 0) (j := 3) (pc' := 20) (L' := [(0, .ref 152), (1, .int (0 : Int32)), (2, .ref 150), (3, .int (0 : Int32))]) h_m166 (z_at.mk 1 rfl rfl) rfl rfl rfl (u := .int (xs 4)) rfl rfl rfl ?_
  refine w_cs (As := [.ref 150, .int (0 : Int32), .int (xs 1), .int (xs 2), .int (xs 3), .int (xs 4)]) (rest := []) (j := 165) (L0 := [(0, .ref 150), (1, .int (0 : Int32)), (2, .int (xs 1)), (3, .int (xs 2)), (4, .int (xs 3)), (5, .int (xs 4))]) (pc' := 23) (L' := [(0, .ref 152), (1, .int (0 : Int32)), (2, .ref 150), (3, .int (0 : Int32))]) h_m166 (z_at.mk 3 rfl rfl) (Or.inl ⟨rfl, rfl⟩) rfl rfl rfl rfl rfl ?_
  refine w_p h_m165 3 (pc' := 3) (L' := [(0, .ref 150), (1, .int (0 : Int32)), (2, .int (xs 1)), (3, .int (xs 2)), (4, .int (xs 3)), (5, .int (xs 4))]) (st' := [.int (xs 1), .int (0 : Int32), .ref 150]) rfl ?_
  refine w_as H (t := 0) (j := 0) (u := .int (xs 1)) (0, 2400, [(0, .int (xs 1))], some (.int (0 : Int32))) (pc' := 4) (L' := [(0, .ref 150), (1, .int (0 : Int32)), (2, .int (xs 1)), (3, .int (xs 2)), (4, .int (xs 3)), (5, .int (xs 4))]) h_m165 (z_at.mk 1 rfl rfl) rfl rfl (w_ui _ _ (by decide)) rfl rfl rfl rfl ?_
  clear H m; intro m H
  refine w_p h_m165 5 (pc' := 9) (L' := [(0, .ref 150), (1, .int (0 : Int32)), (2, .int (xs 1)), (3, .int (xs 2)), (4, .int (xs 3)), (5, .int (xs 4))]) (st' := [.int (xs 2), .int (1 : Int32), .ref 150]) rfl ?_
  refine w_as H (t := 0) (j := 1) (u := .int (xs 2)) (0, 2400, [(1, .int (xs 2)), (0, .int (xs 1))], some (.int (0 : Int32))) (pc' := 10) (L' := [(0, .ref 150), (1, .int (0 : Int32)), (2, .int (xs 1)), (3, .int (xs 2)), (4, .int (xs 3)), (5, .int (xs 4))]) h_m165 (z_at.mk 1 rfl rfl) rfl rfl (w_ui _ _ (by decide)) rfl rfl rfl rfl ?_
  clear H m; intro m H
  refine w_p h_m165 5 (pc' := 16) (L' := [(0, .ref 150), (1, .int (0 : Int32)), (2, .int (xs 1)), (3, .int (xs 2)), (4, .int (xs 3)), (5, .int (xs 4))]) (st' := [.int (xs 3), .int (2 : Int32), .ref 150]) rfl ?_
  refine w_as H (t := 0) (j := 2) (u := .int (xs 3)) (0, 2400, [(2, .int (xs 3)), (1, .int (xs 2)), (0, .int (xs 1))], some (.int (0 : Int32))) (pc' := 17) (L' := [(0, .ref 150), (1, .int (0 : Int32)), (2, .int (xs 1)), (3, .int (xs 2)), (4, .int (xs 3)), (5, .int (xs 4))]) h_m165 (z_at.mk 1 rfl rfl) rfl rfl (w_ui _ _ (by decide)) rfl rfl rfl rfl ?_
  clear H m; intro m H
  refine w_p h_m165 5 (pc' := 23) (L' := [(0, .ref 150), (1, .int (0 : Int32)), (2, .int (xs 1)), (3, .int (xs 2)), (4, .int (xs 3)), (5, .int (xs 4))]) (st' := [.int (xs 4), .int (3 : Int32), .ref 150]) rfl ?_
  refine w_as H (t := 0) (j := 3) (u := .int (xs 4)) (0, 2400, [(3, .int (xs 4)), (2, .int (xs 3)), (1, .int (xs 2)), (0, .int (xs 1))], some (.int (0 : Int32))) (pc' := 24) (L' := [(0, .ref 150), (1, .int (0 : Int32)), (2, .int (xs 1)), (3, .int (xs 2)), (4, .int (xs 3)), (5, .int (xs 4))]) h_m165 (z_at.mk 1 rfl rfl) rfl rfl (w_ui _ _ (by decide)) rfl rfl rfl rfl ?_
  clear H m; intro m H
  refine w_rv h_m165 (z_at.mk 1 rfl rfl) rfl ?_
  show z_W 997 166 23 [(0, .ref 152), (1, .int (0 : Int32)), (2, .ref 150), (3, .int (0 : Int32))] [] m _
  refine w_rv h_m166 (z_at.mk 1 rfl rfl) rfl ?_
  show z_W 998 181 13 [(0, .ref 143)] [] m _
  refine w_p h_m181 2 (pc' := 15) (L' := [(0, .ref 143)]) (st' := [.int (1 : Int32), .ref 143]) rfl ?_
  refine w_pf H (22, 35, [(10, .int (1 : Int32)), (34, .ref 167), (33, .ref 166), (31, .ref 165), (30, .ref 164), (28, .ref 163), (26, .ref 162), (25, .ref 161), (24, .ref 160), (19, .ref 159), (18, .ref 158), (17, .ref 157), (16, .ref 156), (13, .ref 155), (12, .ref 154), (11, .ref 153), (9, .ref 152), (8, .ref 151), (7, .ref 150), (5, .ref 149), (4, .ref 148), (3, .ref 147), (2, .ref 146), (1, .ref 145), (0, .ref 144), (6, .int (0 : Int32)), (14, .int (0 : Int32)), (15, .int (0 : Int32)), (20, .int (0 : Int32)), (21, .int (0 : Int32)), (22, .int (0 : Int32)), (23, .int (0 : Int32)), (27, .int (0 : Int32)), (29, .int (0 : Int32)), (32, .int (0 : Int32))], none) (pc' := 18) (L' := [(0, .ref 143)]) h_m181 (z_at.mk 3 rfl rfl) rfl (by decide) rfl (Or.inl rfl) rfl rfl rfl ?_
  clear H m; intro m H
  refine w_p h_m181 4 (pc' := 22) (L' := [(0, .ref 143), (1, .int (0 : Int32))]) (st' := [.ref 143, .int (0 : Int32)]) rfl ?_
  refine w_gf H (pc' := 25) (L' := [(0, .ref 143), (1, .int (0 : Int32))]) h_m181 (z_at.mk 3 rfl rfl) rfl (u := .ref 144) rfl rfl rfl ?_
  refine w_p h_m181 1 (pc' := 26) (L' := [(0, .ref 143), (1, .int (0 : Int32))]) (st' := [.int (0 : Int32), .ref 144, .int (0 : Int32)]) rfl ?_
  refine w_al H (t := 0) (j := 0) (pc' := 27) (L' := [(0, .ref 143), (1, .int (0 : Int32))]) h_m181 (z_at.mk 1 rfl rfl) rfl rfl rfl (u := .int (0 : Int32)) rfl rfl rfl ?_
  refine w_p h_m181 1 (pc' := 114) (L' := [(0, .ref 143), (1, .int (0 : Int32))]) (st' := []) rfl ?_
  refine w_rv h_m181 (z_at.mk 1 rfl rfl) rfl ?_
  show z_W 999 239 31 [(0, .ref 143), (1, .int (xs 1)), (2, .int (xs 2)), (3, .int (xs 3)), (4, .int (xs 4))] [] m _
  refine w_p h_m239 2 (pc' := 33) (L' := [(0, .ref 143), (1, .int (xs 1)), (2, .int (xs 2)), (3, .int (xs 3)), (4, .int (xs 4))]) (st' := [.int (0 : Int32), .ref 143]) rfl ?_
  refine w_pf H (22, 35, [(29, .int (0 : Int32)), (10, .int (1 : Int32)), (34, .ref 167), (33, .ref 166), (31, .ref 165), (30, .ref 164), (28, .ref 163), (26, .ref 162), (25, .ref 161), (24, .ref 160), (19, .ref 159), (18, .ref 158), (17, .ref 157), (16, .ref 156), (13, .ref 155), (12, .ref 154), (11, .ref 153), (9, .ref 152), (8, .ref 151), (7, .ref 150), (5, .ref 149), (4, .ref 148), (3, .ref 147), (2, .ref 146), (1, .ref 145), (0, .ref 144), (6, .int (0 : Int32)), (14, .int (0 : Int32)), (15, .int (0 : Int32)), (20, .int (0 : Int32)), (21, .int (0 : Int32)), (22, .int (0 : Int32)), (23, .int (0 : Int32)), (27, .int (0 : Int32)), (32, .int (0 : Int32))], none) (pc' := 36) (L' := [(0, .ref 143), (1, .int (xs 1)), (2, .int (xs 2)), (3, .int (xs 3)), (4, .int (xs 4))]) h_m239 (z_at.mk 3 rfl rfl) rfl (by decide) rfl (Or.inl rfl) rfl rfl rfl ?_
  clear H m; intro m H
  refine w_p h_m239 4 (pc' := 42) (L' := [(0, .ref 143), (5, .int (0 : Int32))]) (st' := [.ref 143, .int (0 : Int32)]) rfl ?_
  refine w_gf H (pc' := 45) (L' := [(0, .ref 143), (5, .int (0 : Int32))]) h_m239 (z_at.mk 3 rfl rfl) rfl (u := .ref 144) rfl rfl rfl ?_
  refine w_p h_m239 1 (pc' := 46) (L' := [(0, .ref 143), (5, .int (0 : Int32))]) (st' := [.int (0 : Int32), .ref 144, .int (0 : Int32)]) rfl ?_
  refine w_al H (t := 0) (j := 0) (pc' := 47) (L' := [(0, .ref 143), (5, .int (0 : Int32))]) h_m239 (z_at.mk 1 rfl rfl) rfl rfl rfl (u := .int (0 : Int32)) rfl rfl rfl ?_
  refine w_p h_m239 7 (pc' := 155) (L' := [(0, .ref 143), (5, .int (0 : Int32)), (6, .int (0 : Int32))]) (st' := [.ref 143, .int (0 : Int32)]) rfl ?_
  refine w_gf H (pc' := 158) (L' := [(0, .ref 143), (5, .int (0 : Int32)), (6, .int (0 : Int32))]) h_m239 (z_at.mk 3 rfl rfl) rfl (u := .int (1 : Int32)) rfl rfl rfl ?_
  refine w_p h_m239 3 (pc' := 165) (L' := [(0, .ref 143), (5, .int (0 : Int32)), (6, .int (0 : Int32))]) (st' := [.ref 17, .ref 143]) rfl ?_
  refine w_cv (H.t rfl) (pc' := 168) (L' := [(0, .ref 143), (5, .int (0 : Int32)), (6, .int (0 : Int32))]) (rest := []) (Ps := [.ref 17]) (L0 := [(0, .ref 143), (1, .ref 17)]) h_m239 (z_at.mk 3 rfl rfl) (Or.inl ⟨rfl, rfl⟩) rfl rfl (by decide) (by decide) rfl rfl rfl rfl rfl rfl (by decide) rfl rfl rfl ?_
  refine w_p h_m235 4 (pc' := 4) (L' := [(0, .ref 143), (1, .ref 17), (2, .int (0 : Int32))]) (st' := [.ref 17, .int (0 : Int32)]) rfl ?_
  refine w_cv (H.te (by decide) rfl).1 (pc' := 7) (L' := [(0, .ref 143), (1, .ref 17), (2, .int (0 : Int32))]) (rest := [.int (0 : Int32)]) (Ps := []) (L0 := [(0, .ref 17)]) h_m235 (z_at.mk 3 rfl rfl) (Or.inl ⟨rfl, rfl⟩) rfl rfl (by decide) (by decide) rfl rfl rfl rfl rfl rfl (by decide) rfl rfl rfl ?_
  refine w_p h_m293 1 (pc' := 1) (L' := [(0, .ref 17)]) (st' := [.ref 17]) rfl ?_
  refine w_gs H (pc' := 4) (L' := [(0, .ref 17)]) h_m293 (z_at.mk 3 rfl rfl) rfl (by decide) rfl rfl rfl rfl ?_
  refine w_lene H (x := (4 : Int32)) (pc' := 5) (L' := [(0, .ref 17)]) h_m293 (z_at.mk 1 rfl rfl) (by decide) rfl (by decide) rfl rfl rfl ?_
  refine w_p h_m293 1 (pc' := 6) (L' := [(0, .ref 17)]) (st' := [.ref 17, .int (4 : Int32)]) rfl ?_
  refine w_cv (H.te (by decide) rfl).1 (pc' := 9) (L' := [(0, .ref 17)]) (rest := [.int (4 : Int32)]) (Ps := []) (L0 := [(0, .ref 17)]) h_m293 (z_at.mk 3 rfl rfl) (Or.inl ⟨rfl, rfl⟩) rfl rfl (by decide) (by decide) rfl rfl rfl rfl rfl rfl (by decide) rfl rfl rfl ?_
  refine w_p h_m298 3 (pc' := 7) (L' := [(0, .ref 17)]) (st' := [.ref 17]) rfl ?_
  refine w_gs H (pc' := 10) (L' := [(0, .ref 17)]) h_m298 (z_at.mk 3 rfl rfl) rfl (by decide) rfl rfl rfl rfl ?_
  refine w_p h_m298 1 (pc' := 14) (L' := []) (st' := [.int (0 : Int32)]) rfl ?_
  refine w_ri h_m298 (z_at.mk 1 rfl rfl) rfl rfl ?_
  show z_W 997 293 9 [(0, .ref 17)] [.int (0 : Int32), .int (4 : Int32)] m _
  refine w_p h_m293 1 (pc' := 10) (L' := [(0, .ref 17)]) (st' := [.int (4 : Int32)]) rfl ?_
  refine w_ri h_m293 (z_at.mk 1 rfl rfl) rfl rfl ?_
  show z_W 998 235 7 [(0, .ref 143), (1, .ref 17), (2, .int (0 : Int32))] [.int (4 : Int32), .int (0 : Int32)] m _
  refine w_p h_m235 4 (pc' := 13) (L' := [(0, .ref 143), (1, .ref 17), (2, .int (0 : Int32))]) (st' := [.int (0 : Int32), .ref 17, .ref 143]) rfl ?_
  refine w_cv (H.te (by decide) rfl).1 (pc' := 16) (L' := [(0, .ref 143), (1, .ref 17), (2, .int (0 : Int32))]) (rest := [.ref 143]) (Ps := [.int (0 : Int32)]) (L0 := [(0, .ref 17), (1, .int (0 : Int32))]) h_m235 (z_at.mk 3 rfl rfl) (Or.inl ⟨rfl, rfl⟩) rfl rfl (by decide) (by decide) rfl rfl rfl rfl rfl rfl (by decide) rfl rfl rfl ?_
  refine w_p h_m294 1 (pc' := 1) (L' := [(0, .ref 17), (1, .int (0 : Int32))]) (st' := [.ref 17]) rfl ?_
  refine w_cv (H.te (by decide) rfl).1 (pc' := 4) (L' := [(0, .ref 17), (1, .int (0 : Int32))]) (rest := []) (Ps := []) (L0 := [(0, .ref 17)]) h_m294 (z_at.mk 3 rfl rfl) (Or.inl ⟨rfl, rfl⟩) rfl rfl (by decide) (by decide) rfl rfl rfl rfl rfl rfl (by decide) rfl rfl rfl ?_
  refine w_p h_m299 3 (pc' := 7) (L' := [(0, .ref 17)]) (st' := [.ref 17]) rfl ?_
  refine w_gs H (pc' := 10) (L' := [(0, .ref 17)]) h_m299 (z_at.mk 3 rfl rfl) rfl (by decide) rfl rfl rfl rfl ?_
  refine w_p h_m299 3 (pc' := 18) (L' := []) (st' := [.int (1 : Int32)]) rfl ?_
  refine w_ri h_m299 (z_at.mk 1 rfl rfl) rfl rfl ?_
  show z_W 997 294 4 [(0, .ref 17), (1, .int (0 : Int32))] [.int (1 : Int32)] m _
  refine w_p h_m294 2 (pc' := 8) (L' := [(0, .ref 17), (1, .int (0 : Int32))]) (st' := [.ref 17]) rfl ?_
  refine w_gs H (pc' := 11) (L' := [(0, .ref 17), (1, .int (0 : Int32))]) h_m294 (z_at.mk 3 rfl rfl) rfl (by decide) rfl rfl rfl rfl ?_
  refine w_p h_m294 1 (pc' := 12) (L' := [(0, .ref 17), (1, .int (0 : Int32))]) (st' := [.int (0 : Int32), .ref 35]) rfl ?_
  refine w_cs (As := [.ref 35, .int (0 : Int32)]) (rest := []) (j := 308) (L0 := [(0, .ref 35), (1, .int (0 : Int32))]) (pc' := 15) (L' := [(0, .ref 17), (1, .int (0 : Int32))]) h_m294 (z_at.mk 3 rfl rfl) (Or.inl ⟨rfl, rfl⟩) rfl rfl rfl rfl rfl ?_
  refine w_p h_m308 2 (pc' := 2) (L' := [(0, .ref 35), (1, .int (0 : Int32))]) (st' := [.ref 35, .int (0 : Int32)]) rfl ?_
  refine w_lene H (x := (4 : Int32)) (pc' := 3) (L' := [(0, .ref 35), (1, .int (0 : Int32))]) h_m308 (z_at.mk 1 rfl rfl) (by decide) rfl (by decide) rfl rfl rfl ?_
  refine w_ci (pc' := 6) (L' := [(0, .ref 35), (1, .int (0 : Int32))]) h_m308 (z_at.mk 3 rfl rfl) rfl (z_cat_le 0 rfl (by decide)) ⟨by decide, by decide⟩ rfl rfl ?_
  refine w_p h_m308 2 (pc' := 8) (L' := [(0, .ref 35), (1, .int (0 : Int32))]) (st' := [.int (0 : Int32), .ref 35]) rfl ?_
  refine w_ae H (j := 0) (pc' := 9) (L' := [(0, .ref 35), (1, .int (0 : Int32))]) h_m308 (z_at.mk 1 rfl rfl) rfl rfl rfl (by decide) rfl (by decide) rfl rfl rfl ?_
  refine w_p h_m308 3 (pc' := 14) (L' := [(0, .ref 35), (1, .int (0 : Int32))]) (st' := [.int (97 : Int32)]) rfl ?_
  refine w_ri h_m308 (z_at.mk 1 rfl rfl) rfl rfl ?_
  show z_W 997 294 15 [(0, .ref 17), (1, .int (0 : Int32))] [.int (97 : Int32)] m _
  refine w_ri h_m294 (z_at.mk 1 rfl rfl) rfl rfl ?_
  show z_W 998 235 16 [(0, .ref 143), (1, .ref 17), (2, .int (0 : Int32))] [.int (97 : Int32), .ref 143] m _
  refine w_cv (H.t rfl) (pc' := 19) (L' := [(0, .ref 143), (1, .ref 17), (2, .int (0 : Int32))]) (rest := []) (Ps := [.int (97 : Int32)]) (L0 := [(0, .ref 143), (1, .int (97 : Int32))]) h_m235 (z_at.mk 3 rfl rfl) (Or.inl ⟨rfl, rfl⟩) rfl rfl (by decide) (by decide) rfl rfl rfl rfl rfl rfl (by decide) rfl rfl rfl ?_
  refine w_p h_m234 1 (pc' := 1) (L' := [(0, .ref 143), (1, .int (97 : Int32))]) (st' := [.ref 143]) rfl ?_
  refine w_gf H (pc' := 4) (L' := [(0, .ref 143), (1, .int (97 : Int32))]) h_m234 (z_at.mk 3 rfl rfl) rfl (u := .ref 163) rfl rfl rfl ?_
  refine w_p h_m234 1 (pc' := 5) (L' := [(0, .ref 143), (1, .int (97 : Int32))]) (st' := [.ref 143, .ref 163]) rfl ?_
  refine w_gf H (pc' := 8) (L' := [(0, .ref 143), (1, .int (97 : Int32))]) h_m234 (z_at.mk 3 rfl rfl) rfl (u := .int (0 : Int32)) rfl rfl rfl ?_
  refine w_p h_m234 1 (pc' := 9) (L' := [(0, .ref 143), (1, .int (97 : Int32))]) (st' := [.int (97 : Int32), .int (0 : Int32), .ref 163]) rfl ?_
  refine w_as H (t := 0) (j := 0) (u := .int (97 : Int32)) (0, 40000, [(0, .int (97 : Int32))], some (.int (0 : Int32))) (pc' := 10) (L' := [(0, .ref 143), (1, .int (97 : Int32))]) h_m234 (z_at.mk 1 rfl rfl) rfl rfl (w_ui _ _ (by decide)) rfl rfl rfl rfl ?_
  clear H m; intro m H
  refine w_p h_m234 2 (pc' := 12) (L' := [(0, .ref 143), (1, .int (97 : Int32))]) (st' := [.ref 143, .ref 143]) rfl ?_
  refine w_gf H (pc' := 15) (L' := [(0, .ref 143), (1, .int (97 : Int32))]) h_m234 (z_at.mk 3 rfl rfl) rfl (u := .int (0 : Int32)) rfl rfl rfl ?_
  refine w_p h_m234 2 (pc' := 17) (L' := [(0, .ref 143), (1, .int (97 : Int32))]) (st' := [.int (1 : Int32), .ref 143]) rfl ?_
  refine w_pf H (22, 35, [(29, .int (1 : Int32)), (10, .int (1 : Int32)), (34, .ref 167), (33, .ref 166), (31, .ref 165), (30, .ref 164), (28, .ref 163), (26, .ref 162), (25, .ref 161), (24, .ref 160), (19, .ref 159), (18, .ref 158), (17, .ref 157), (16, .ref 156), (13, .ref 155), (12, .ref 154), (11, .ref 153), (9, .ref 152), (8, .ref 151), (7, .ref 150), (5, .ref 149), (4, .ref 148), (3, .ref 147), (2, .ref 146), (1, .ref 145), (0, .ref 144), (6, .int (0 : Int32)), (14, .int (0 : Int32)), (15, .int (0 : Int32)), (20, .int (0 : Int32)), (21, .int (0 : Int32)), (22, .int (0 : Int32)), (23, .int (0 : Int32)), (27, .int (0 : Int32)), (32, .int (0 : Int32))], none) (pc' := 20) (L' := [(0, .ref 143), (1, .int (97 : Int32))]) h_m234 (z_at.mk 3 rfl rfl) rfl (by decide) rfl (Or.inl rfl) rfl rfl rfl ?_
  clear H m; intro m H
  refine w_rv h_m234 (z_at.mk 1 rfl rfl) rfl ?_
  show z_W 998 235 19 [(0, .ref 143), (1, .ref 17), (2, .int (0 : Int32))] [] m _
  refine w_p h_m235 4 (pc' := 4) (L' := [(0, .ref 143), (1, .ref 17), (2, .int (1 : Int32))]) (st' := [.ref 17, .int (1 : Int32)]) rfl ?_
  refine w_cv (H.te (by decide) rfl).1 (pc' := 7) (L' := [(0, .ref 143), (1, .ref 17), (2, .int (1 : Int32))]) (rest := [.int (1 : Int32)]) (Ps := []) (L0 := [(0, .ref 17)]) h_m235 (z_at.mk 3 rfl rfl) (Or.inl ⟨rfl, rfl⟩) rfl rfl (by decide) (by decide) rfl rfl rfl rfl rfl rfl (by decide) rfl rfl rfl ?_
  refine w_p h_m293 1 (pc' := 1) (L' := [(0, .ref 17)]) (st' := [.ref 17]) rfl ?_
  refine w_gs H (pc' := 4) (L' := [(0, .ref 17)]) h_m293 (z_at.mk 3 rfl rfl) rfl (by decide) rfl rfl rfl rfl ?_
  refine w_lene H (x := (4 : Int32)) (pc' := 5) (L' := [(0, .ref 17)]) h_m293 (z_at.mk 1 rfl rfl) (by decide) rfl (by decide) rfl rfl rfl ?_
  refine w_p h_m293 1 (pc' := 6) (L' := [(0, .ref 17)]) (st' := [.ref 17, .int (4 : Int32)]) rfl ?_
  refine w_cv (H.te (by decide) rfl).1 (pc' := 9) (L' := [(0, .ref 17)]) (rest := [.int (4 : Int32)]) (Ps := []) (L0 := [(0, .ref 17)]) h_m293 (z_at.mk 3 rfl rfl) (Or.inl ⟨rfl, rfl⟩) rfl rfl (by decide) (by decide) rfl rfl rfl rfl rfl rfl (by decide) rfl rfl rfl ?_
  refine w_p h_m298 3 (pc' := 7) (L' := [(0, .ref 17)]) (st' := [.ref 17]) rfl ?_
  refine w_gs H (pc' := 10) (L' := [(0, .ref 17)]) h_m298 (z_at.mk 3 rfl rfl) rfl (by decide) rfl rfl rfl rfl ?_
  refine w_p h_m298 1 (pc' := 14) (L' := []) (st' := [.int (0 : Int32)]) rfl ?_
  refine w_ri h_m298 (z_at.mk 1 rfl rfl) rfl rfl ?_
  show z_W 997 293 9 [(0, .ref 17)] [.int (0 : Int32), .int (4 : Int32)] m _
  refine w_p h_m293 1 (pc' := 10) (L' := [(0, .ref 17)]) (st' := [.int (4 : Int32)]) rfl ?_
  refine w_ri h_m293 (z_at.mk 1 rfl rfl) rfl rfl ?_
  show z_W 998 235 7 [(0, .ref 143), (1, .ref 17), (2, .int (1 : Int32))] [.int (4 : Int32), .int (1 : Int32)] m _
  refine w_p h_m235 4 (pc' := 13) (L' := [(0, .ref 143), (1, .ref 17), (2, .int (1 : Int32))]) (st' := [.int (1 : Int32), .ref 17, .ref 143]) rfl ?_
  refine w_cv (H.te (by decide) rfl).1 (pc' := 16) (L' := [(0, .ref 143), (1, .ref 17), (2, .int (1 : Int32))]) (rest := [.ref 143]) (Ps := [.int (1 : Int32)]) (L0 := [(0, .ref 17), (1, .int (1 : Int32))]) h_m235 (z_at.mk 3 rfl rfl) (Or.inl ⟨rfl, rfl⟩) rfl rfl (by decide) (by decide) rfl rfl rfl rfl rfl rfl (by decide) rfl rfl rfl ?_
  refine w_p h_m294 1 (pc' := 1) (L' := [(0, .ref 17), (1, .int (1 : Int32))]) (st' := [.ref 17]) rfl ?_
  refine w_cv (H.te (by decide) rfl).1 (pc' := 4) (L' := [(0, .ref 17), (1, .int (1 : Int32))]) (rest := []) (Ps := []) (L0 := [(0, .ref 17)]) h_m294 (z_at.mk 3 rfl rfl) (Or.inl ⟨rfl, rfl⟩) rfl rfl (by decide) (by decide) rfl rfl rfl rfl rfl rfl (by decide) rfl rfl rfl ?_
  refine w_p h_m299 3 (pc' := 7) (L' := [(0, .ref 17)]) (st' := [.ref 17]) rfl ?_
  refine w_gs H (pc' := 10) (L' := [(0, .ref 17)]) h_m299 (z_at.mk 3 rfl rfl) rfl (by decide) rfl rfl rfl rfl ?_
  refine w_p h_m299 3 (pc' := 18) (L' := []) (st' := [.int (1 : Int32)]) rfl ?_
  refine w_ri h_m299 (z_at.mk 1 rfl rfl) rfl rfl ?_
  show z_W 997 294 4 [(0, .ref 17), (1, .int (1 : Int32))] [.int (1 : Int32)] m _
  refine w_p h_m294 2 (pc' := 8) (L' := [(0, .ref 17), (1, .int (1 : Int32))]) (st' := [.ref 17]) rfl ?_
  refine w_gs H (pc' := 11) (L' := [(0, .ref 17), (1, .int (1 : Int32))]) h_m294 (z_at.mk 3 rfl rfl) rfl (by decide) rfl rfl rfl rfl ?_
  refine w_p h_m294 1 (pc' := 12) (L' := [(0, .ref 17), (1, .int (1 : Int32))]) (st' := [.int (1 : Int32), .ref 35]) rfl ?_
  refine w_cs (As := [.ref 35, .int (1 : Int32)]) (rest := []) (j := 308) (L0 := [(0, .ref 35), (1, .int (1 : Int32))]) (pc' := 15) (L' := [(0, .ref 17), (1, .int (1 : Int32))]) h_m294 (z_at.mk 3 rfl rfl) (Or.inl ⟨rfl, rfl⟩) rfl rfl rfl rfl rfl ?_
  refine w_p h_m308 2 (pc' := 2) (L' := [(0, .ref 35), (1, .int (1 : Int32))]) (st' := [.ref 35, .int (1 : Int32)]) rfl ?_
  refine w_lene H (x := (4 : Int32)) (pc' := 3) (L' := [(0, .ref 35), (1, .int (1 : Int32))]) h_m308 (z_at.mk 1 rfl rfl) (by decide) rfl (by decide) rfl rfl rfl ?_
  refine w_ci (pc' := 6) (L' := [(0, .ref 35), (1, .int (1 : Int32))]) h_m308 (z_at.mk 3 rfl rfl) rfl (z_cat_le 0 rfl (by decide)) ⟨by decide, by decide⟩ rfl rfl ?_
  refine w_p h_m308 2 (pc' := 8) (L' := [(0, .ref 35), (1, .int (1 : Int32))]) (st' := [.int (1 : Int32), .ref 35]) rfl ?_
  refine w_ae H (j := 1) (pc' := 9) (L' := [(0, .ref 35), (1, .int (1 : Int32))]) h_m308 (z_at.mk 1 rfl rfl) rfl rfl rfl (by decide) rfl (by decide) rfl rfl rfl ?_
  refine w_p h_m308 3 (pc' := 14) (L' := [(0, .ref 35), (1, .int (1 : Int32))]) (st' := [.int (115 : Int32)]) rfl ?_
  refine w_ri h_m308 (z_at.mk 1 rfl rfl) rfl rfl ?_
  show z_W 997 294 15 [(0, .ref 17), (1, .int (1 : Int32))] [.int (115 : Int32)] m _
  refine w_ri h_m294 (z_at.mk 1 rfl rfl) rfl rfl ?_
  show z_W 998 235 16 [(0, .ref 143), (1, .ref 17), (2, .int (1 : Int32))] [.int (115 : Int32), .ref 143] m _
  refine w_cv (H.t rfl) (pc' := 19) (L' := [(0, .ref 143), (1, .ref 17), (2, .int (1 : Int32))]) (rest := []) (Ps := [.int (115 : Int32)]) (L0 := [(0, .ref 143), (1, .int (115 : Int32))]) h_m235 (z_at.mk 3 rfl rfl) (Or.inl ⟨rfl, rfl⟩) rfl rfl (by decide) (by decide) rfl rfl rfl rfl rfl rfl (by decide) rfl rfl rfl ?_
  refine w_p h_m234 1 (pc' := 1) (L' := [(0, .ref 143), (1, .int (115 : Int32))]) (st' := [.ref 143]) rfl ?_
  refine w_gf H (pc' := 4) (L' := [(0, .ref 143), (1, .int (115 : Int32))]) h_m234 (z_at.mk 3 rfl rfl) rfl (u := .ref 163) rfl rfl rfl ?_
  refine w_p h_m234 1 (pc' := 5) (L' := [(0, .ref 143), (1, .int (115 : Int32))]) (st' := [.ref 143, .ref 163]) rfl ?_
  refine w_gf H (pc' := 8) (L' := [(0, .ref 143), (1, .int (115 : Int32))]) h_m234 (z_at.mk 3 rfl rfl) rfl (u := .int (1 : Int32)) rfl rfl rfl ?_
  refine w_p h_m234 1 (pc' := 9) (L' := [(0, .ref 143), (1, .int (115 : Int32))]) (st' := [.int (115 : Int32), .int (1 : Int32), .ref 163]) rfl ?_
  refine w_as H (t := 0) (j := 1) (u := .int (115 : Int32)) (0, 40000, [(1, .int (115 : Int32)), (0, .int (97 : Int32))], some (.int (0 : Int32))) (pc' := 10) (L' := [(0, .ref 143), (1, .int (115 : Int32))]) h_m234 (z_at.mk 1 rfl rfl) rfl rfl (w_ui _ _ (by decide)) rfl rfl rfl rfl ?_
  clear H m; intro m H
  refine w_p h_m234 2 (pc' := 12) (L' := [(0, .ref 143), (1, .int (115 : Int32))]) (st' := [.ref 143, .ref 143]) rfl ?_
  refine w_gf H (pc' := 15) (L' := [(0, .ref 143), (1, .int (115 : Int32))]) h_m234 (z_at.mk 3 rfl rfl) rfl (u := .int (1 : Int32)) rfl rfl rfl ?_
  refine w_p h_m234 2 (pc' := 17) (L' := [(0, .ref 143), (1, .int (115 : Int32))]) (st' := [.int (2 : Int32), .ref 143]) rfl ?_
  refine w_pf H (22, 35, [(29, .int (2 : Int32)), (10, .int (1 : Int32)), (34, .ref 167), (33, .ref 166), (31, .ref 165), (30, .ref 164), (28, .ref 163), (26, .ref 162), (25, .ref 161), (24, .ref 160), (19, .ref 159), (18, .ref 158), (17, .ref 157), (16, .ref 156), (13, .ref 155), (12, .ref 154), (11, .ref 153), (9, .ref 152), (8, .ref 151), (7, .ref 150), (5, .ref 149), (4, .ref 148), (3, .ref 147), (2, .ref 146), (1, .ref 145), (0, .ref 144), (6, .int (0 : Int32)), (14, .int (0 : Int32)), (15, .int (0 : Int32)), (20, .int (0 : Int32)), (21, .int (0 : Int32)), (22, .int (0 : Int32)), (23, .int (0 : Int32)), (27, .int (0 : Int32)), (32, .int (0 : Int32))], none) (pc' := 20) (L' := [(0, .ref 143), (1, .int (115 : Int32))]) h_m234 (z_at.mk 3 rfl rfl) rfl (by decide) rfl (Or.inl rfl) rfl rfl rfl ?_
  clear H m; intro m H
  refine w_rv h_m234 (z_at.mk 1 rfl rfl) rfl ?_
  show z_W 998 235 19 [(0, .ref 143), (1, .ref 17), (2, .int (1 : Int32))] [] m _
  refine w_p h_m235 4 (pc' := 4) (L' := [(0, .ref 143), (1, .ref 17), (2, .int (2 : Int32))]) (st' := [.ref 17, .int (2 : Int32)]) rfl ?_
  refine w_cv (H.te (by decide) rfl).1 (pc' := 7) (L' := [(0, .ref 143), (1, .ref 17), (2, .int (2 : Int32))]) (rest := [.int (2 : Int32)]) (Ps := []) (L0 := [(0, .ref 17)]) h_m235 (z_at.mk 3 rfl rfl) (Or.inl ⟨rfl, rfl⟩) rfl rfl (by decide) (by decide) rfl rfl rfl rfl rfl rfl (by decide) rfl rfl rfl ?_
  refine w_p h_m293 1 (pc' := 1) (L' := [(0, .ref 17)]) (st' := [.ref 17]) rfl ?_
  refine w_gs H (pc' := 4) (L' := [(0, .ref 17)]) h_m293 (z_at.mk 3 rfl rfl) rfl (by decide) rfl rfl rfl rfl ?_
  refine w_lene H (x := (4 : Int32)) (pc' := 5) (L' := [(0, .ref 17)]) h_m293 (z_at.mk 1 rfl rfl) (by decide) rfl (by decide) rfl rfl rfl ?_
  refine w_p h_m293 1 (pc' := 6) (L' := [(0, .ref 17)]) (st' := [.ref 17, .int (4 : Int32)]) rfl ?_
  refine w_cv (H.te (by decide) rfl).1 (pc' := 9) (L' := [(0, .ref 17)]) (rest := [.int (4 : Int32)]) (Ps := []) (L0 := [(0, .ref 17)]) h_m293 (z_at.mk 3 rfl rfl) (Or.inl ⟨rfl, rfl⟩) rfl rfl (by decide) (by decide) rfl rfl rfl rfl rfl rfl (by decide) rfl rfl rfl ?_
  refine w_p h_m298 3 (pc' := 7) (L' := [(0, .ref 17)]) (st' := [.ref 17]) rfl ?_
  refine w_gs H (pc' := 10) (L' := [(0, .ref 17)]) h_m298 (z_at.mk 3 rfl rfl) rfl (by decide) rfl rfl rfl rfl ?_
  refine w_p h_m298 1 (pc' := 14) (L' := []) (st' := [.int (0 : Int32)]) rfl ?_
  refine w_ri h_m298 (z_at.mk 1 rfl rfl) rfl rfl ?_
  show z_W 997 293 9 [(0, .ref 17)] [.int (0 : Int32), .int (4 : Int32)] m _
  refine w_p h_m293 1 (pc' := 10) (L' := [(0, .ref 17)]) (st' := [.int (4 : Int32)]) rfl ?_
  refine w_ri h_m293 (z_at.mk 1 rfl rfl) rfl rfl ?_
  show z_W 998 235 7 [(0, .ref 143), (1, .ref 17), (2, .int (2 : Int32))] [.int (4 : Int32), .int (2 : Int32)] m _
  refine w_p h_m235 4 (pc' := 13) (L' := [(0, .ref 143), (1, .ref 17), (2, .int (2 : Int32))]) (st' := [.int (2 : Int32), .ref 17, .ref 143]) rfl ?_
  refine w_cv (H.te (by decide) rfl).1 (pc' := 16) (L' := [(0, .ref 143), (1, .ref 17), (2, .int (2 : Int32))]) (rest := [.ref 143]) (Ps := [.int (2 : Int32)]) (L0 := [(0, .ref 17), (1, .int (2 : Int32))]) h_m235 (z_at.mk 3 rfl rfl) (Or.inl ⟨rfl, rfl⟩) rfl rfl (by decide) (by decide) rfl rfl rfl rfl rfl rfl (by decide) rfl rfl rfl ?_
  refine w_p h_m294 1 (pc' := 1) (L' := [(0, .ref 17), (1, .int (2 : Int32))]) (st' := [.ref 17]) rfl ?_
  refine w_cv (H.te (by decide) rfl).1 (pc' := 4) (L' := [(0, .ref 17), (1, .int (2 : Int32))]) (rest := []) (Ps := []) (L0 := [(0, .ref 17)]) h_m294 (z_at.mk 3 rfl rfl) (Or.inl ⟨rfl, rfl⟩) rfl rfl (by decide) (by decide) rfl rfl rfl rfl rfl rfl (by decide) rfl rfl rfl ?_
  refine w_p h_m299 3 (pc' := 7) (L' := [(0, .ref 17)]) (st' := [.ref 17]) rfl ?_
  refine w_gs H (pc' := 10) (L' := [(0, .ref 17)]) h_m299 (z_at.mk 3 rfl rfl) rfl (by decide) rfl rfl rfl rfl ?_
  refine w_p h_m299 3 (pc' := 18) (L' := []) (st' := [.int (1 : Int32)]) rfl ?_
  refine w_ri h_m299 (z_at.mk 1 rfl rfl) rfl rfl ?_
  show z_W 997 294 4 [(0, .ref 17), (1, .int (2 : Int32))] [.int (1 : Int32)] m _
  refine w_p h_m294 2 (pc' := 8) (L' := [(0, .ref 17), (1, .int (2 : Int32))]) (st' := [.ref 17]) rfl ?_
  refine w_gs H (pc' := 11) (L' := [(0, .ref 17), (1, .int (2 : Int32))]) h_m294 (z_at.mk 3 rfl rfl) rfl (by decide) rfl rfl rfl rfl ?_
  refine w_p h_m294 1 (pc' := 12) (L' := [(0, .ref 17), (1, .int (2 : Int32))]) (st' := [.int (2 : Int32), .ref 35]) rfl ?_
  refine w_cs (As := [.ref 35, .int (2 : Int32)]) (rest := []) (j := 308) (L0 := [(0, .ref 35), (1, .int (2 : Int32))]) (pc' := 15) (L' := [(0, .ref 17), (1, .int (2 : Int32))]) h_m294 (z_at.mk 3 rfl rfl) (Or.inl ⟨rfl, rfl⟩) rfl rfl rfl rfl rfl ?_
  refine w_p h_m308 2 (pc' := 2) (L' := [(0, .ref 35), (1, .int (2 : Int32))]) (st' := [.ref 35, .int (2 : Int32)]) rfl ?_
  refine w_lene H (x := (4 : Int32)) (pc' := 3) (L' := [(0, .ref 35), (1, .int (2 : Int32))]) h_m308 (z_at.mk 1 rfl rfl) (by decide) rfl (by decide) rfl rfl rfl ?_
  refine w_ci (pc' := 6) (L' := [(0, .ref 35), (1, .int (2 : Int32))]) h_m308 (z_at.mk 3 rfl rfl) rfl (z_cat_le 0 rfl (by decide)) ⟨by decide, by decide⟩ rfl rfl ?_
  refine w_p h_m308 2 (pc' := 8) (L' := [(0, .ref 35), (1, .int (2 : Int32))]) (st' := [.int (2 : Int32), .ref 35]) rfl ?_
  refine w_ae H (j := 2) (pc' := 9) (L' := [(0, .ref 35), (1, .int (2 : Int32))]) h_m308 (z_at.mk 1 rfl rfl) rfl rfl rfl (by decide) rfl (by decide) rfl rfl rfl ?_
  refine w_p h_m308 3 (pc' := 14) (L' := [(0, .ref 35), (1, .int (2 : Int32))]) (st' := [.int (107 : Int32)]) rfl ?_
  refine w_ri h_m308 (z_at.mk 1 rfl rfl) rfl rfl ?_
  show z_W 997 294 15 [(0, .ref 17), (1, .int (2 : Int32))] [.int (107 : Int32)] m _
  refine w_ri h_m294 (z_at.mk 1 rfl rfl) rfl rfl ?_
  show z_W 998 235 16 [(0, .ref 143), (1, .ref 17), (2, .int (2 : Int32))] [.int (107 : Int32), .ref 143] m _
  refine w_cv (H.t rfl) (pc' := 19) (L' := [(0, .ref 143), (1, .ref 17), (2, .int (2 : Int32))]) (rest := []) (Ps := [.int (107 : Int32)]) (L0 := [(0, .ref 143), (1, .int (107 : Int32))]) h_m235 (z_at.mk 3 rfl rfl) (Or.inl ⟨rfl, rfl⟩) rfl rfl (by decide) (by decide) rfl rfl rfl rfl rfl rfl (by decide) rfl rfl rfl ?_
  refine w_p h_m234 1 (pc' := 1) (L' := [(0, .ref 143), (1, .int (107 : Int32))]) (st' := [.ref 143]) rfl ?_
  refine w_gf H (pc' := 4) (L' := [(0, .ref 143), (1, .int (107 : Int32))]) h_m234 (z_at.mk 3 rfl rfl) rfl (u := .ref 163) rfl rfl rfl ?_
  refine w_p h_m234 1 (pc' := 5) (L' := [(0, .ref 143), (1, .int (107 : Int32))]) (st' := [.ref 143, .ref 163]) rfl ?_
  refine w_gf H (pc' := 8) (L' := [(0, .ref 143), (1, .int (107 : Int32))]) h_m234 (z_at.mk 3 rfl rfl) rfl (u := .int (2 : Int32)) rfl rfl rfl ?_
  refine w_p h_m234 1 (pc' := 9) (L' := [(0, .ref 143), (1, .int (107 : Int32))]) (st' := [.int (107 : Int32), .int (2 : Int32), .ref 163]) rfl ?_
  refine w_as H (t := 0) (j := 2) (u := .int (107 : Int32)) (0, 40000, [(2, .int (107 : Int32)), (1, .int (115 : Int32)), (0, .int (97 : Int32))], some (.int (0 : Int32))) (pc' := 10) (L' := [(0, .ref 143), (1, .int (107 : Int32))]) h_m234 (z_at.mk 1 rfl rfl) rfl rfl (w_ui _ _ (by decide)) rfl rfl rfl rfl ?_
  clear H m; intro m H
  refine w_p h_m234 2 (pc' := 12) (L' := [(0, .ref 143), (1, .int (107 : Int32))]) (st' := [.ref 143, .ref 143]) rfl ?_
  refine w_gf H (pc' := 15) (L' := [(0, .ref 143), (1, .int (107 : Int32))]) h_m234 (z_at.mk 3 rfl rfl) rfl (u := .int (2 : Int32)) rfl rfl rfl ?_
  refine w_p h_m234 2 (pc' := 17) (L' := [(0, .ref 143), (1, .int (107 : Int32))]) (st' := [.int (3 : Int32), .ref 143]) rfl ?_
  refine w_pf H (22, 35, [(29, .int (3 : Int32)), (10, .int (1 : Int32)), (34, .ref 167), (33, .ref 166), (31, .ref 165), (30, .ref 164), (28, .ref 163), (26, .ref 162), (25, .ref 161), (24, .ref 160), (19, .ref 159), (18, .ref 158), (17, .ref 157), (16, .ref 156), (13, .ref 155), (12, .ref 154), (11, .ref 153), (9, .ref 152), (8, .ref 151), (7, .ref 150), (5, .ref 149), (4, .ref 148), (3, .ref 147), (2, .ref 146), (1, .ref 145), (0, .ref 144), (6, .int (0 : Int32)), (14, .int (0 : Int32)), (15, .int (0 : Int32)), (20, .int (0 : Int32)), (21, .int (0 : Int32)), (22, .int (0 : Int32)), (23, .int (0 : Int32)), (27, .int (0 : Int32)), (32, .int (0 : Int32))], none) (pc' := 20) (L' := [(0, .ref 143), (1, .int (107 : Int32))]) h_m234 (z_at.mk 3 rfl rfl) rfl (by decide) rfl (Or.inl rfl) rfl rfl rfl ?_
  clear H m; intro m H
  refine w_rv h_m234 (z_at.mk 1 rfl rfl) rfl ?_
  show z_W 998 235 19 [(0, .ref 143), (1, .ref 17), (2, .int (2 : Int32))] [] m _
  refine w_p h_m235 4 (pc' := 4) (L' := [(0, .ref 143), (1, .ref 17), (2, .int (3 : Int32))]) (st' := [.ref 17, .int (3 : Int32)]) rfl ?_
  refine w_cv (H.te (by decide) rfl).1 (pc' := 7) (L' := [(0, .ref 143), (1, .ref 17), (2, .int (3 : Int32))]) (rest := [.int (3 : Int32)]) (Ps := []) (L0 := [(0, .ref 17)]) h_m235 (z_at.mk 3 rfl rfl) (Or.inl ⟨rfl, rfl⟩) rfl rfl (by decide) (by decide) rfl rfl rfl rfl rfl rfl (by decide) rfl rfl rfl ?_
  refine w_p h_m293 1 (pc' := 1) (L' := [(0, .ref 17)]) (st' := [.ref 17]) rfl ?_
  refine w_gs H (pc' := 4) (L' := [(0, .ref 17)]) h_m293 (z_at.mk 3 rfl rfl) rfl (by decide) rfl rfl rfl rfl ?_
  refine w_lene H (x := (4 : Int32)) (pc' := 5) (L' := [(0, .ref 17)]) h_m293 (z_at.mk 1 rfl rfl) (by decide) rfl (by decide) rfl rfl rfl ?_
  refine w_p h_m293 1 (pc' := 6) (L' := [(0, .ref 17)]) (st' := [.ref 17, .int (4 : Int32)]) rfl ?_
  refine w_cv (H.te (by decide) rfl).1 (pc' := 9) (L' := [(0, .ref 17)]) (rest := [.int (4 : Int32)]) (Ps := []) (L0 := [(0, .ref 17)]) h_m293 (z_at.mk 3 rfl rfl) (Or.inl ⟨rfl, rfl⟩) rfl rfl (by decide) (by decide) rfl rfl rfl rfl rfl rfl (by decide) rfl rfl rfl ?_
  refine w_p h_m298 3 (pc' := 7) (L' := [(0, .ref 17)]) (st' := [.ref 17]) rfl ?_
  refine w_gs H (pc' := 10) (L' := [(0, .ref 17)]) h_m298 (z_at.mk 3 rfl rfl) rfl (by decide) rfl rfl rfl rfl ?_
  refine w_p h_m298 1 (pc' := 14) (L' := []) (st' := [.int (0 : Int32)]) rfl ?_
  refine w_ri h_m298 (z_at.mk 1 rfl rfl) rfl rfl ?_
  show z_W 997 293 9 [(0, .ref 17)] [.int (0 : Int32), .int (4 : Int32)] m _
  refine w_p h_m293 1 (pc' := 10) (L' := [(0, .ref 17)]) (st' := [.int (4 : Int32)]) rfl ?_
  refine w_ri h_m293 (z_at.mk 1 rfl rfl) rfl rfl ?_
  show z_W 998 235 7 [(0, .ref 143), (1, .ref 17), (2, .int (3 : Int32))] [.int (4 : Int32), .int (3 : Int32)] m _
  refine w_p h_m235 4 (pc' := 13) (L' := [(0, .ref 143), (1, .ref 17), (2, .int (3 : Int32))]) (st' := [.int (3 : Int32), .ref 17, .ref 143]) rfl ?_
  refine w_cv (H.te (by decide) rfl).1 (pc' := 16) (L' := [(0, .ref 143), (1, .ref 17), (2, .int (3 : Int32))]) (rest := [.ref 143]) (Ps := [.int (3 : Int32)]) (L0 := [(0, .ref 17), (1, .int (3 : Int32))]) h_m235 (z_at.mk 3 rfl rfl) (Or.inl ⟨rfl, rfl⟩) rfl rfl (by decide) (by decide) rfl rfl rfl rfl rfl rfl (by decide) rfl rfl rfl ?_
  refine w_p h_m294 1 (pc' := 1) (L' := [(0, .ref 17), (1, .int (3 : Int32))]) (st' := [.ref 17]) rfl ?_
  refine w_cv (H.te (by decide) rfl).1 (pc' := 4) (L' := [(0, .ref 17), (1, .int (3 : Int32))]) (rest := []) (Ps := []) (L0 := [(0, .ref 17)]) h_m294 (z_at.mk 3 rfl rfl) (Or.inl ⟨rfl, rfl⟩) rfl rfl (by decide) (by decide) rfl rfl rfl rfl rfl rfl (by decide) rfl rfl rfl ?_
  refine w_p h_m299 3 (pc' := 7) (L' := [(0, .ref 17)]) (st' := [.ref 17]) rfl ?_
  refine w_gs H (pc' := 10) (L' := [(0, .ref 17)]) h_m299 (z_at.mk 3 rfl rfl) rfl (by decide) rfl rfl rfl rfl ?_
  refine w_p h_m299 3 (pc' := 18) (L' := []) (st' := [.int (1 : Int32)]) rfl ?_
  refine w_ri h_m299 (z_at.mk 1 rfl rfl) rfl rfl ?_
  show z_W 997 294 4 [(0, .ref 17), (1, .int (3 : Int32))] [.int (1 : Int32)] m _
  refine w_p h_m294 2 (pc' := 8) (L' := [(0, .ref 17), (1, .int (3 : Int32))]) (st' := [.ref 17]) rfl ?_
  refine w_gs H (pc' := 11) (L' := [(0, .ref 17), (1, .int (3 : Int32))]) h_m294 (z_at.mk 3 rfl rfl) rfl (by decide) rfl rfl rfl rfl ?_
  refine w_p h_m294 1 (pc' := 12) (L' := [(0, .ref 17), (1, .int (3 : Int32))]) (st' := [.int (3 : Int32), .ref 35]) rfl ?_
  refine w_cs (As := [.ref 35, .int (3 : Int32)]) (rest := []) (j := 308) (L0 := [(0, .ref 35), (1, .int (3 : Int32))]) (pc' := 15) (L' := [(0, .ref 17), (1, .int (3 : Int32))]) h_m294 (z_at.mk 3 rfl rfl) (Or.inl ⟨rfl, rfl⟩) rfl rfl rfl rfl rfl ?_
  refine w_p h_m308 2 (pc' := 2) (L' := [(0, .ref 35), (1, .int (3 : Int32))]) (st' := [.ref 35, .int (3 : Int32)]) rfl ?_
  refine w_lene H (x := (4 : Int32)) (pc' := 3) (L' := [(0, .ref 35), (1, .int (3 : Int32))]) h_m308 (z_at.mk 1 rfl rfl) (by decide) rfl (by decide) rfl rfl rfl ?_
  refine w_ci (pc' := 6) (L' := [(0, .ref 35), (1, .int (3 : Int32))]) h_m308 (z_at.mk 3 rfl rfl) rfl (z_cat_le 0 rfl (by decide)) ⟨by decide, by decide⟩ rfl rfl ?_
  refine w_p h_m308 2 (pc' := 8) (L' := [(0, .ref 35), (1, .int (3 : Int32))]) (st' := [.int (3 : Int32), .ref 35]) rfl ?_
  refine w_ae H (j := 3) (pc' := 9) (L' := [(0, .ref 35), (1, .int (3 : Int32))]) h_m308 (z_at.mk 1 rfl rfl) rfl rfl rfl (by decide) rfl (by decide) rfl rfl rfl ?_
  refine w_p h_m308 3 (pc' := 14) (L' := [(0, .ref 35), (1, .int (3 : Int32))]) (st' := [.int (32 : Int32)]) rfl ?_
  refine w_ri h_m308 (z_at.mk 1 rfl rfl) rfl rfl ?_
  show z_W 997 294 15 [(0, .ref 17), (1, .int (3 : Int32))] [.int (32 : Int32)] m _
  refine w_ri h_m294 (z_at.mk 1 rfl rfl) rfl rfl ?_
  show z_W 998 235 16 [(0, .ref 143), (1, .ref 17), (2, .int (3 : Int32))] [.int (32 : Int32), .ref 143] m _
  refine w_cv (H.t rfl) (pc' := 19) (L' := [(0, .ref 143), (1, .ref 17), (2, .int (3 : Int32))]) (rest := []) (Ps := [.int (32 : Int32)]) (L0 := [(0, .ref 143), (1, .int (32 : Int32))]) h_m235 (z_at.mk 3 rfl rfl) (Or.inl ⟨rfl, rfl⟩) rfl rfl (by decide) (by decide) rfl rfl rfl rfl rfl rfl (by decide) rfl rfl rfl ?_
  refine w_p h_m234 1 (pc' := 1) (L' := [(0, .ref 143), (1, .int (32 : Int32))]) (st' := [.ref 143]) rfl ?_
  refine w_gf H (pc' := 4) (L' := [(0, .ref 143), (1, .int (32 : Int32))]) h_m234 (z_at.mk 3 rfl rfl) rfl (u := .ref 163) rfl rfl rfl ?_
  refine w_p h_m234 1 (pc' := 5) (L' := [(0, .ref 143), (1, .int (32 : Int32))]) (st' := [.ref 143, .ref 163]) rfl ?_
  refine w_gf H (pc' := 8) (L' := [(0, .ref 143), (1, .int (32 : Int32))]) h_m234 (z_at.mk 3 rfl rfl) rfl (u := .int (3 : Int32)) rfl rfl rfl ?_
  refine w_p h_m234 1 (pc' := 9) (L' := [(0, .ref 143), (1, .int (32 : Int32))]) (st' := [.int (32 : Int32), .int (3 : Int32), .ref 163]) rfl ?_
  refine w_as H (t := 0) (j := 3) (u := .int (32 : Int32)) (0, 40000, [(3, .int (32 : Int32)), (2, .int (107 : Int32)), (1, .int (115 : Int32)), (0, .int (97 : Int32))], some (.int (0 : Int32))) (pc' := 10) (L' := [(0, .ref 143), (1, .int (32 : Int32))]) h_m234 (z_at.mk 1 rfl rfl) rfl rfl (w_ui _ _ (by decide)) rfl rfl rfl rfl ?_
  clear H m; intro m H
  refine w_p h_m234 2 (pc' := 12) (L' := [(0, .ref 143), (1, .int (32 : Int32))]) (st' := [.ref 143, .ref 143]) rfl ?_
  refine w_gf H (pc' := 15) (L' := [(0, .ref 143), (1, .int (32 : Int32))]) h_m234 (z_at.mk 3 rfl rfl) rfl (u := .int (3 : Int32)) rfl rfl rfl ?_
  refine w_p h_m234 2 (pc' := 17) (L' := [(0, .ref 143), (1, .int (32 : Int32))]) (st' := [.int (4 : Int32), .ref 143]) rfl ?_
  refine w_pf H (22, 35, [(29, .int (4 : Int32)), (10, .int (1 : Int32)), (34, .ref 167), (33, .ref 166), (31, .ref 165), (30, .ref 164), (28, .ref 163), (26, .ref 162), (25, .ref 161), (24, .ref 160), (19, .ref 159), (18, .ref 158), (17, .ref 157), (16, .ref 156), (13, .ref 155), (12, .ref 154), (11, .ref 153), (9, .ref 152), (8, .ref 151), (7, .ref 150), (5, .ref 149), (4, .ref 148), (3, .ref 147), (2, .ref 146), (1, .ref 145), (0, .ref 144), (6, .int (0 : Int32)), (14, .int (0 : Int32)), (15, .int (0 : Int32)), (20, .int (0 : Int32)), (21, .int (0 : Int32)), (22, .int (0 : Int32)), (23, .int (0 : Int32)), (27, .int (0 : Int32)), (32, .int (0 : Int32))], none) (pc' := 20) (L' := [(0, .ref 143), (1, .int (32 : Int32))]) h_m234 (z_at.mk 3 rfl rfl) rfl (by decide) rfl (Or.inl rfl) rfl rfl rfl ?_
  clear H m; intro m H
  refine w_rv h_m234 (z_at.mk 1 rfl rfl) rfl ?_
  show z_W 998 235 19 [(0, .ref 143), (1, .ref 17), (2, .int (3 : Int32))] [] m _
  refine w_p h_m235 4 (pc' := 4) (L' := [(0, .ref 143), (1, .ref 17), (2, .int (4 : Int32))]) (st' := [.ref 17, .int (4 : Int32)]) rfl ?_
  refine w_cv (H.te (by decide) rfl).1 (pc' := 7) (L' := [(0, .ref 143), (1, .ref 17), (2, .int (4 : Int32))]) (rest := [.int (4 : Int32)]) (Ps := []) (L0 := [(0, .ref 17)]) h_m235 (z_at.mk 3 rfl rfl) (Or.inl ⟨rfl, rfl⟩) rfl rfl (by decide) (by decide) rfl rfl rfl rfl rfl rfl (by decide) rfl rfl rfl ?_
  refine w_p h_m293 1 (pc' := 1) (L' := [(0, .ref 17)]) (st' := [.ref 17]) rfl ?_
  refine w_gs H (pc' := 4) (L' := [(0, .ref 17)]) h_m293 (z_at.mk 3 rfl rfl) rfl (by decide) rfl rfl rfl rfl ?_
  refine w_lene H (x := (4 : Int32)) (pc' := 5) (L' := [(0, .ref 17)]) h_m293 (z_at.mk 1 rfl rfl) (by decide) rfl (by decide) rfl rfl rfl ?_
  refine w_p h_m293 1 (pc' := 6) (L' := [(0, .ref 17)]) (st' := [.ref 17, .int (4 : Int32)]) rfl ?_
  refine w_cv (H.te (by decide) rfl).1 (pc' := 9) (L' := [(0, .ref 17)]) (rest := [.int (4 : Int32)]) (Ps := []) (L0 := [(0, .ref 17)]) h_m293 (z_at.mk 3 rfl rfl) (Or.inl ⟨rfl, rfl⟩) rfl rfl (by decide) (by decide) rfl rfl rfl rfl rfl rfl (by decide) rfl rfl rfl ?_
  refine w_p h_m298 3 (pc' := 7) (L' := [(0, .ref 17)]) (st' := [.ref 17]) rfl ?_
  refine w_gs H (pc' := 10) (L' := [(0, .ref 17)]) h_m298 (z_at.mk 3 rfl rfl) rfl (by decide) rfl rfl rfl rfl ?_
  refine w_p h_m298 1 (pc' := 14) (L' := []) (st' := [.int (0 : Int32)]) rfl ?_
  refine w_ri h_m298 (z_at.mk 1 rfl rfl) rfl rfl ?_
  show z_W 997 293 9 [(0, .ref 17)] [.int (0 : Int32), .int (4 : Int32)] m _
  refine w_p h_m293 1 (pc' := 10) (L' := [(0, .ref 17)]) (st' := [.int (4 : Int32)]) rfl ?_
  refine w_ri h_m293 (z_at.mk 1 rfl rfl) rfl rfl ?_
  show z_W 998 235 7 [(0, .ref 143), (1, .ref 17), (2, .int (4 : Int32))] [.int (4 : Int32), .int (4 : Int32)] m _
  refine w_p h_m235 1 (pc' := 25) (L' := [(0, .ref 143), (1, .ref 17), (2, .int (4 : Int32))]) (st' := []) rfl ?_
  refine w_rv h_m235 (z_at.mk 1 rfl rfl) rfl ?_
  show z_W 999 239 168 [(0, .ref 143), (5, .int (0 : Int32)), (6, .int (0 : Int32))] [] m _
  refine w_p h_m239 2 (pc' := 170) (L' := [(0, .ref 143), (5, .int (0 : Int32)), (6, .int (0 : Int32))]) (st' := [.ref 143, .ref 143]) rfl ?_
  refine w_gf H (pc' := 173) (L' := [(0, .ref 143), (5, .int (0 : Int32)), (6, .int (0 : Int32))]) h_m239 (z_at.mk 3 rfl rfl) rfl (u := .ref 150) rfl rfl rfl ?_
  refine w_p h_m239 3 (pc' := 177) (L' := [(0, .ref 143), (5, .int (0 : Int32)), (6, .int (0 : Int32))]) (st' := [.int (0 : Int32), .ref 150, .ref 143]) rfl ?_
  refine w_cv (H.t rfl) (pc' := 180) (L' := [(0, .ref 143), (5, .int (0 : Int32)), (6, .int (0 : Int32))]) (rest := []) (Ps := [.ref 150, .int (0 : Int32)]) (L0 := [(0, .ref 143), (1, .ref 150), (2, .int (0 : Int32))]) h_m239 (z_at.mk 3 rfl rfl) (Or.inl ⟨rfl, rfl⟩) rfl rfl (by decide) (by decide) rfl rfl rfl rfl rfl rfl (by decide) rfl rfl rfl ?_
  refine w_p h_m237 3 (pc' := 3) (L' := [(0, .ref 143), (1, .ref 150), (2, .int (0 : Int32))]) (st' := [.int (0 : Int32), .ref 150, .ref 143]) rfl ?_
  refine w_al H (t := 0) (j := 0) (pc' := 4) (L' := [(0, .ref 143), (1, .ref 150), (2, .int (0 : Int32))]) h_m237 (z_at.mk 1 rfl rfl) rfl rfl rfl (u := .int (xs 1)) rfl rfl rfl ?_
  refine w_cv (H.t rfl) (pc' := 7) (L' := [(0, .ref 143), (1, .ref 150), (2, .int (0 : Int32))]) (rest := []) (Ps := [.int (xs 1)]) (L0 := [(0, .ref 143), (1, .int (xs 1))]) h_m237 (z_at.mk 3 rfl rfl) (Or.inl ⟨rfl, rfl⟩) rfl rfl (by decide) (by decide) rfl rfl rfl rfl rfl rfl (by decide) rfl rfl rfl ?_
  refine w_p h_m236 2 (pc' := 3) (L' := [(0, .ref 143), (1, .int (xs 1))]) (st' := [.int (9 : Int32), .int (xs 1)]) rfl ?_
  refine w_t2 (pc' := 14) (L' := [(0, .ref 143), (1, .int (xs 1))]) h_m236 (z_at.mk 3 rfl rfl) rfl (zc (a := (xs 1).toInt) (b := 9) rfl rfl (decide_eq_true (by omega))) rfl rfl ?_
  refine w_p h_m236 6 (pc' := 22) (L' := [(0, .ref 143), (1, .int (xs 1))]) (st' := [.int ((48 : Int32) + ((xs 1) - (xs 1) / (10 : Int32) * (10 : Int32))), .ref 143]) rfl ?_
  refine w_cv (H.t rfl) (pc' := 25) (L' := [(0, .ref 143), (1, .int (xs 1))]) (rest := []) (Ps := [.int ((48 : Int32) + ((xs 1) - (xs 1) / (10 : Int32) * (10 : Int32)))]) (L0 := [(0, .ref 143), (1, .int ((48 : Int32) + ((xs 1) - (xs 1) / (10 : Int32) * (10 : Int32))))]) h_m236 (z_at.mk 3 rfl rfl) (Or.inl ⟨rfl, rfl⟩) rfl rfl (by decide) (by decide) rfl rfl rfl rfl rfl rfl (by decide) rfl rfl rfl ?_
  refine w_p h_m234 1 (pc' := 1) (L' := [(0, .ref 143), (1, .int ((48 : Int32) + ((xs 1) - (xs 1) / (10 : Int32) * (10 : Int32))))]) (st' := [.ref 143]) rfl ?_
  refine w_gf H (pc' := 4) (L' := [(0, .ref 143), (1, .int ((48 : Int32) + ((xs 1) - (xs 1) / (10 : Int32) * (10 : Int32))))]) h_m234 (z_at.mk 3 rfl rfl) rfl (u := .ref 163) rfl rfl rfl ?_
  refine w_p h_m234 1 (pc' := 5) (L' := [(0, .ref 143), (1, .int ((48 : Int32) + ((xs 1) - (xs 1) / (10 : Int32) * (10 : Int32))))]) (st' := [.ref 143, .ref 163]) rfl ?_
  refine w_gf H (pc' := 8) (L' := [(0, .ref 143), (1, .int ((48 : Int32) + ((xs 1) - (xs 1) / (10 : Int32) * (10 : Int32))))]) h_m234 (z_at.mk 3 rfl rfl) rfl (u := .int (4 : Int32)) rfl rfl rfl ?_
  refine w_p h_m234 1 (pc' := 9) (L' := [(0, .ref 143), (1, .int ((48 : Int32) + ((xs 1) - (xs 1) / (10 : Int32) * (10 : Int32))))]) (st' := [.int ((48 : Int32) + ((xs 1) - (xs 1) / (10 : Int32) * (10 : Int32))), .int (4 : Int32), .ref 163]) rfl ?_
  refine w_as H (t := 0) (j := 4) (u := .int ((48 : Int32) + ((xs 1) - (xs 1) / (10 : Int32) * (10 : Int32)))) (0, 40000, [(4, .int ((48 : Int32) + ((xs 1) - (xs 1) / (10 : Int32) * (10 : Int32)))), (3, .int (32 : Int32)), (2, .int (107 : Int32)), (1, .int (115 : Int32)), (0, .int (97 : Int32))], some (.int (0 : Int32))) (pc' := 10) (L' := [(0, .ref 143), (1, .int ((48 : Int32) + ((xs 1) - (xs 1) / (10 : Int32) * (10 : Int32))))]) h_m234 (z_at.mk 1 rfl rfl) rfl rfl (w_ui _ _ (by decide)) rfl rfl rfl rfl ?_
  clear H m; intro m H
  refine w_p h_m234 2 (pc' := 12) (L' := [(0, .ref 143), (1, .int ((48 : Int32) + ((xs 1) - (xs 1) / (10 : Int32) * (10 : Int32))))]) (st' := [.ref 143, .ref 143]) rfl ?_
  refine w_gf H (pc' := 15) (L' := [(0, .ref 143), (1, .int ((48 : Int32) + ((xs 1) - (xs 1) / (10 : Int32) * (10 : Int32))))]) h_m234 (z_at.mk 3 rfl rfl) rfl (u := .int (4 : Int32)) rfl rfl rfl ?_
  refine w_p h_m234 2 (pc' := 17) (L' := [(0, .ref 143), (1, .int ((48 : Int32) + ((xs 1) - (xs 1) / (10 : Int32) * (10 : Int32))))]) (st' := [.int (5 : Int32), .ref 143]) rfl ?_
  refine w_pf H (22, 35, [(29, .int (5 : Int32)), (10, .int (1 : Int32)), (34, .ref 167), (33, .ref 166), (31, .ref 165), (30, .ref 164), (28, .ref 163), (26, .ref 162), (25, .ref 161), (24, .ref 160), (19, .ref 159), (18, .ref 158), (17, .ref 157), (16, .ref 156), (13, .ref 155), (12, .ref 154), (11, .ref 153), (9, .ref 152), (8, .ref 151), (7, .ref 150), (5, .ref 149), (4, .ref 148), (3, .ref 147), (2, .ref 146), (1, .ref 145), (0, .ref 144), (6, .int (0 : Int32)), (14, .int (0 : Int32)), (15, .int (0 : Int32)), (20, .int (0 : Int32)), (21, .int (0 : Int32)), (22, .int (0 : Int32)), (23, .int (0 : Int32)), (27, .int (0 : Int32)), (32, .int (0 : Int32))], none) (pc' := 20) (L' := [(0, .ref 143), (1, .int ((48 : Int32) + ((xs 1) - (xs 1) / (10 : Int32) * (10 : Int32))))]) h_m234 (z_at.mk 3 rfl rfl) rfl (by decide) rfl (Or.inl rfl) rfl rfl rfl ?_
  clear H m; intro m H
  refine w_rv h_m234 (z_at.mk 1 rfl rfl) rfl ?_
  show z_W 997 236 25 [(0, .ref 143), (1, .int (xs 1))] [] m _
  refine w_rv h_m236 (z_at.mk 1 rfl rfl) rfl ?_
  show z_W 998 237 7 [(0, .ref 143), (1, .ref 150), (2, .int (0 : Int32))] [] m _
  refine w_p h_m237 2 (pc' := 10) (L' := [(0, .ref 143), (1, .ref 150), (2, .int (0 : Int32))]) (st' := [.int (45 : Int32), .ref 143]) rfl ?_
  refine w_cv (H.t rfl) (pc' := 13) (L' := [(0, .ref 143), (1, .ref 150), (2, .int (0 : Int32))]) (rest := []) (Ps := [.int (45 : Int32)]) (L0 := [(0, .ref 143), (1, .int (45 : Int32))]) h_m237 (z_at.mk 3 rfl rfl) (Or.inl ⟨rfl, rfl⟩) rfl rfl (by decide) (by decide) rfl rfl rfl rfl rfl rfl (by decide) rfl rfl rfl ?_
  refine w_p h_m234 1 (pc' := 1) (L' := [(0, .ref 143), (1, .int (45 : Int32))]) (st' := [.ref 143]) rfl ?_
  refine w_gf H (pc' := 4) (L' := [(0, .ref 143), (1, .int (45 : Int32))]) h_m234 (z_at.mk 3 rfl rfl) rfl (u := .ref 163) rfl rfl rfl ?_
  refine w_p h_m234 1 (pc' := 5) (L' := [(0, .ref 143), (1, .int (45 : Int32))]) (st' := [.ref 143, .ref 163]) rfl ?_
  refine w_gf H (pc' := 8) (L' := [(0, .ref 143), (1, .int (45 : Int32))]) h_m234 (z_at.mk 3 rfl rfl) rfl (u := .int (5 : Int32)) rfl rfl rfl ?_
  refine w_p h_m234 1 (pc' := 9) (L' := [(0, .ref 143), (1, .int (45 : Int32))]) (st' := [.int (45 : Int32), .int (5 : Int32), .ref 163]) rfl ?_
  refine w_as H (t := 0) (j := 5) (u := .int (45 : Int32)) (0, 40000, [(5, .int (45 : Int32)), (4, .int ((48 : Int32) + ((xs 1) - (xs 1) / (10 : Int32) * (10 : Int32)))), (3, .int (32 : Int32)), (2, .int (107 : Int32)), (1, .int (115 : Int32)), (0, .int (97 : Int32))], some (.int (0 : Int32))) (pc' := 10) (L' := [(0, .ref 143), (1, .int (45 : Int32))]) h_m234 (z_at.mk 1 rfl rfl) rfl rfl (w_ui _ _ (by decide)) rfl rfl rfl rfl ?_
  clear H m; intro m H
  refine w_p h_m234 2 (pc' := 12) (L' := [(0, .ref 143), (1, .int (45 : Int32))]) (st' := [.ref 143, .ref 143]) rfl ?_
  refine w_gf H (pc' := 15) (L' := [(0, .ref 143), (1, .int (45 : Int32))]) h_m234 (z_at.mk 3 rfl rfl) rfl (u := .int (5 : Int32)) rfl rfl rfl ?_
  refine w_p h_m234 2 (pc' := 17) (L' := [(0, .ref 143), (1, .int (45 : Int32))]) (st' := [.int (6 : Int32), .ref 143]) rfl ?_
  refine w_pf H (22, 35, [(29, .int (6 : Int32)), (10, .int (1 : Int32)), (34, .ref 167), (33, .ref 166), (31, .ref 165), (30, .ref 164), (28, .ref 163), (26, .ref 162), (25, .ref 161), (24, .ref 160), (19, .ref 159), (18, .ref 158), (17, .ref 157), (16, .ref 156), (13, .ref 155), (12, .ref 154), (11, .ref 153), (9, .ref 152), (8, .ref 151), (7, .ref 150), (5, .ref 149), (4, .ref 148), (3, .ref 147), (2, .ref 146), (1, .ref 145), (0, .ref 144), (6, .int (0 : Int32)), (14, .int (0 : Int32)), (15, .int (0 : Int32)), (20, .int (0 : Int32)), (21, .int (0 : Int32)), (22, .int (0 : Int32)), (23, .int (0 : Int32)), (27, .int (0 : Int32)), (32, .int (0 : Int32))], none) (pc' := 20) (L' := [(0, .ref 143), (1, .int (45 : Int32))]) h_m234 (z_at.mk 3 rfl rfl) rfl (by decide) rfl (Or.inl rfl) rfl rfl rfl ?_
  clear H m; intro m H
  refine w_rv h_m234 (z_at.mk 1 rfl rfl) rfl ?_
  show z_W 998 237 13 [(0, .ref 143), (1, .ref 150), (2, .int (0 : Int32))] [] m _
  refine w_p h_m237 5 (pc' := 18) (L' := [(0, .ref 143), (1, .ref 150), (2, .int (0 : Int32))]) (st' := [.int (1 : Int32), .ref 150, .ref 143]) rfl ?_
  refine w_al H (t := 0) (j := 1) (pc' := 19) (L' := [(0, .ref 143), (1, .ref 150), (2, .int (0 : Int32))]) h_m237 (z_at.mk 1 rfl rfl) rfl rfl rfl (u := .int (xs 2)) rfl rfl rfl ?_
  refine w_cv (H.t rfl) (pc' := 22) (L' := [(0, .ref 143), (1, .ref 150), (2, .int (0 : Int32))]) (rest := []) (Ps := [.int (xs 2)]) (L0 := [(0, .ref 143), (1, .int (xs 2))]) h_m237 (z_at.mk 3 rfl rfl) (Or.inl ⟨rfl, rfl⟩) rfl rfl (by decide) (by decide) rfl rfl rfl rfl rfl rfl (by decide) rfl rfl rfl ?_
  refine w_p h_m236 2 (pc' := 3) (L' := [(0, .ref 143), (1, .int (xs 2))]) (st' := [.int (9 : Int32), .int (xs 2)]) rfl ?_
  refine w_f2 (pc' := 6) (L' := [(0, .ref 143), (1, .int (xs 2))]) h_m236 (z_at.mk 3 rfl rfl) rfl (zc (a := (xs 2).toInt) (b := 9) rfl rfl (decide_eq_false (by omega))) rfl rfl ?_
  refine w_p h_m236 4 (pc' := 11) (L' := [(0, .ref 143), (1, .int (xs 2))]) (st' := [.int ((xs 2) / (10 : Int32)), .ref 143]) rfl ?_
  have k_21 := zi_div (x := xs 2) (y := (10 : Int32)) (a := (xs 2).toInt) (b := 10) rfl rfl (by omega) (by omega)
  refine w_cv (H.t rfl) (pc' := 14) (L' := [(0, .ref 143), (1, .int (xs 2))]) (rest := []) (Ps := [.int ((xs 2) / (10 : Int32))]) (L0 := [(0, .ref 143), (1, .int ((xs 2) / (10 : Int32)))]) h_m236 (z_at.mk 3 rfl rfl) (Or.inl ⟨rfl, rfl⟩) rfl rfl (by decide) (by decide) rfl rfl rfl rfl rfl rfl (by decide) rfl rfl rfl ?_
  refine w_p h_m236 2 (pc' := 3) (L' := [(0, .ref 143), (1, .int ((xs 2) / (10 : Int32)))]) (st' := [.int (9 : Int32), .int ((xs 2) / (10 : Int32))]) rfl ?_
  refine w_t2 (pc' := 14) (L' := [(0, .ref 143), (1, .int ((xs 2) / (10 : Int32)))]) h_m236 (z_at.mk 3 rfl rfl) rfl (zc (a := ((xs 2) / (10 : Int32)).toInt) (b := 9) rfl rfl (decide_eq_true (by omega))) rfl rfl ?_
  refine w_p h_m236 6 (pc' := 22) (L' := [(0, .ref 143), (1, .int ((xs 2) / (10 : Int32)))]) (st' := [.int ((48 : Int32) + (((xs 2) / (10 : Int32)) - ((xs 2) / (10 : Int32)) / (10 : Int32) * (10 : Int32))), .ref 143]) rfl ?_
  refine w_cv (H.t rfl) (pc' := 25) (L' := [(0, .ref 143), (1, .int ((xs 2) / (10 : Int32)))]) (rest := []) (Ps := [.int ((48 : Int32) + (((xs 2) / (10 : Int32)) - ((xs 2) / (10 : Int32)) / (10 : Int32) * (10 : Int32)))]) (L0 := [(0, .ref 143), (1, .int ((48 : Int32) + (((xs 2) / (10 : Int32)) - ((xs 2) / (10 : Int32)) / (10 : Int32) * (10 : Int32))))]) h_m236 (z_at.mk 3 rfl rfl) (Or.inl ⟨rfl, rfl⟩) rfl rfl (by decide) (by decide) rfl rfl rfl rfl rfl rfl (by decide) rfl rfl rfl ?_
  refine w_p h_m234 1 (pc' := 1) (L' := [(0, .ref 143), (1, .int ((48 : Int32) + (((xs 2) / (10 : Int32)) - ((xs 2) / (10 : Int32)) / (10 : Int32) * (10 : Int32))))]) (st' := [.ref 143]) rfl ?_
  refine w_gf H (pc' := 4) (L' := [(0, .ref 143), (1, .int ((48 : Int32) + (((xs 2) / (10 : Int32)) - ((xs 2) / (10 : Int32)) / (10 : Int32) * (10 : Int32))))]) h_m234 (z_at.mk 3 rfl rfl) rfl (u := .ref 163) rfl rfl rfl ?_
  refine w_p h_m234 1 (pc' := 5) (L' := [(0, .ref 143), (1, .int ((48 : Int32) + (((xs 2) / (10 : Int32)) - ((xs 2) / (10 : Int32)) / (10 : Int32) * (10 : Int32))))]) (st' := [.ref 143, .ref 163]) rfl ?_
  refine w_gf H (pc' := 8) (L' := [(0, .ref 143), (1, .int ((48 : Int32) + (((xs 2) / (10 : Int32)) - ((xs 2) / (10 : Int32)) / (10 : Int32) * (10 : Int32))))]) h_m234 (z_at.mk 3 rfl rfl) rfl (u := .int (6 : Int32)) rfl rfl rfl ?_
  refine w_p h_m234 1 (pc' := 9) (L' := [(0, .ref 143), (1, .int ((48 : Int32) + (((xs 2) / (10 : Int32)) - ((xs 2) / (10 : Int32)) / (10 : Int32) * (10 : Int32))))]) (st' := [.int ((48 : Int32) + (((xs 2) / (10 : Int32)) - ((xs 2) / (10 : Int32)) / (10 : Int32) * (10 : Int32))), .int (6 : Int32), .ref 163]) rfl ?_
  refine w_as H (t := 0) (j := 6) (u := .int ((48 : Int32) + (((xs 2) / (10 : Int32)) - ((xs 2) / (10 : Int32)) / (10 : Int32) * (10 : Int32)))) (0, 40000, [(6, .int ((48 : Int32) + (((xs 2) / (10 : Int32)) - ((xs 2) / (10 : Int32)) / (10 : Int32) * (10 : Int32)))), (5, .int (45 : Int32)), (4, .int ((48 : Int32) + ((xs 1) - (xs 1) / (10 : Int32) * (10 : Int32)))), (3, .int (32 : Int32)), (2, .int (107 : Int32)), (1, .int (115 : Int32)), (0, .int (97 : Int32))], some (.int (0 : Int32))) (pc' := 10) (L' := [(0, .ref 143), (1, .int ((48 : Int32) + (((xs 2) / (10 : Int32)) - ((xs 2) / (10 : Int32)) / (10 : Int32) * (10 : Int32))))]) h_m234 (z_at.mk 1 rfl rfl) rfl rfl (w_ui _ _ (by decide)) rfl rfl rfl rfl ?_
  clear H m; intro m H
  refine w_p h_m234 2 (pc' := 12) (L' := [(0, .ref 143), (1, .int ((48 : Int32) + (((xs 2) / (10 : Int32)) - ((xs 2) / (10 : Int32)) / (10 : Int32) * (10 : Int32))))]) (st' := [.ref 143, .ref 143]) rfl ?_
  refine w_gf H (pc' := 15) (L' := [(0, .ref 143), (1, .int ((48 : Int32) + (((xs 2) / (10 : Int32)) - ((xs 2) / (10 : Int32)) / (10 : Int32) * (10 : Int32))))]) h_m234 (z_at.mk 3 rfl rfl) rfl (u := .int (6 : Int32)) rfl rfl rfl ?_
  refine w_p h_m234 2 (pc' := 17) (L' := [(0, .ref 143), (1, .int ((48 : Int32) + (((xs 2) / (10 : Int32)) - ((xs 2) / (10 : Int32)) / (10 : Int32) * (10 : Int32))))]) (st' := [.int (7 : Int32), .ref 143]) rfl ?_
  refine w_pf H (22, 35, [(29, .int (7 : Int32)), (10, .int (1 : Int32)), (34, .ref 167), (33, .ref 166), (31, .ref 165), (30, .ref 164), (28, .ref 163), (26, .ref 162), (25, .ref 161), (24, .ref 160), (19, .ref 159), (18, .ref 158), (17, .ref 157), (16, .ref 156), (13, .ref 155), (12, .ref 154), (11, .ref 153), (9, .ref 152), (8, .ref 151), (7, .ref 150), (5, .ref 149), (4, .ref 148), (3, .ref 147), (2, .ref 146), (1, .ref 145), (0, .ref 144), (6, .int (0 : Int32)), (14, .int (0 : Int32)), (15, .int (0 : Int32)), (20, .int (0 : Int32)), (21, .int (0 : Int32)), (22, .int (0 : Int32)), (23, .int (0 : Int32)), (27, .int (0 : Int32)), (32, .int (0 : Int32))], none) (pc' := 20) (L' := [(0, .ref 143), (1, .int ((48 : Int32) + (((xs 2) / (10 : Int32)) - ((xs 2) / (10 : Int32)) / (10 : Int32) * (10 : Int32))))]) h_m234 (z_at.mk 3 rfl rfl) rfl (by decide) rfl (Or.inl rfl) rfl rfl rfl ?_
  clear H m; intro m H
  refine w_rv h_m234 (z_at.mk 1 rfl rfl) rfl ?_
  show z_W 996 236 25 [(0, .ref 143), (1, .int ((xs 2) / (10 : Int32)))] [] m _
  refine w_rv h_m236 (z_at.mk 1 rfl rfl) rfl ?_
  show z_W 997 236 14 [(0, .ref 143), (1, .int (xs 2))] [] m _
  refine w_p h_m236 6 (pc' := 22) (L' := [(0, .ref 143), (1, .int (xs 2))]) (st' := [.int ((48 : Int32) + ((xs 2) - (xs 2) / (10 : Int32) * (10 : Int32))), .ref 143]) rfl ?_
  refine w_cv (H.t rfl) (pc' := 25) (L' := [(0, .ref 143), (1, .int (xs 2))]) (rest := []) (Ps := [.int ((48 : Int32) + ((xs 2) - (xs 2) / (10 : Int32) * (10 : Int32)))]) (L0 := [(0, .ref 143), (1, .int ((48 : Int32) + ((xs 2) - (xs 2) / (10 : Int32) * (10 : Int32))))]) h_m236 (z_at.mk 3 rfl rfl) (Or.inl ⟨rfl, rfl⟩) rfl rfl (by decide) (by decide) rfl rfl rfl rfl rfl rfl (by decide) rfl rfl rfl ?_
  refine w_p h_m234 1 (pc' := 1) (L' := [(0, .ref 143), (1, .int ((48 : Int32) + ((xs 2) - (xs 2) / (10 : Int32) * (10 : Int32))))]) (st' := [.ref 143]) rfl ?_
  refine w_gf H (pc' := 4) (L' := [(0, .ref 143), (1, .int ((48 : Int32) + ((xs 2) - (xs 2) / (10 : Int32) * (10 : Int32))))]) h_m234 (z_at.mk 3 rfl rfl) rfl (u := .ref 163) rfl rfl rfl ?_
  refine w_p h_m234 1 (pc' := 5) (L' := [(0, .ref 143), (1, .int ((48 : Int32) + ((xs 2) - (xs 2) / (10 : Int32) * (10 : Int32))))]) (st' := [.ref 143, .ref 163]) rfl ?_
  refine w_gf H (pc' := 8) (L' := [(0, .ref 143), (1, .int ((48 : Int32) + ((xs 2) - (xs 2) / (10 : Int32) * (10 : Int32))))]) h_m234 (z_at.mk 3 rfl rfl) rfl (u := .int (7 : Int32)) rfl rfl rfl ?_
  refine w_p h_m234 1 (pc' := 9) (L' := [(0, .ref 143), (1, .int ((48 : Int32) + ((xs 2) - (xs 2) / (10 : Int32) * (10 : Int32))))]) (st' := [.int ((48 : Int32) + ((xs 2) - (xs 2) / (10 : Int32) * (10 : Int32))), .int (7 : Int32), .ref 163]) rfl ?_
  refine w_as H (t := 0) (j := 7) (u := .int ((48 : Int32) + ((xs 2) - (xs 2) / (10 : Int32) * (10 : Int32)))) (0, 40000, [(7, .int ((48 : Int32) + ((xs 2) - (xs 2) / (10 : Int32) * (10 : Int32)))), (6, .int ((48 : Int32) + (((xs 2) / (10 : Int32)) - ((xs 2) / (10 : Int32)) / (10 : Int32) * (10 : Int32)))), (5, .int (45 : Int32)), (4, .int ((48 : Int32) + ((xs 1) - (xs 1) / (10 : Int32) * (10 : Int32)))), (3, .int (32 : Int32)), (2, .int (107 : Int32)), (1, .int (115 : Int32)), (0, .int (97 : Int32))], some (.int (0 : Int32))) (pc' := 10) (L' := [(0, .ref 143), (1, .int ((48 : Int32) + ((xs 2) - (xs 2) / (10 : Int32) * (10 : Int32))))]) h_m234 (z_at.mk 1 rfl rfl) rfl rfl (w_ui _ _ (by decide)) rfl rfl rfl rfl ?_
  clear H m; intro m H
  refine w_p h_m234 2 (pc' := 12) (L' := [(0, .ref 143), (1, .int ((48 : Int32) + ((xs 2) - (xs 2) / (10 : Int32) * (10 : Int32))))]) (st' := [.ref 143, .ref 143]) rfl ?_
  refine w_gf H (pc' := 15) (L' := [(0, .ref 143), (1, .int ((48 : Int32) + ((xs 2) - (xs 2) / (10 : Int32) * (10 : Int32))))]) h_m234 (z_at.mk 3 rfl rfl) rfl (u := .int (7 : Int32)) rfl rfl rfl ?_
  refine w_p h_m234 2 (pc' := 17) (L' := [(0, .ref 143), (1, .int ((48 : Int32) + ((xs 2) - (xs 2) / (10 : Int32) * (10 : Int32))))]) (st' := [.int (8 : Int32), .ref 143]) rfl ?_
  refine w_pf H (22, 35, [(29, .int (8 : Int32)), (10, .int (1 : Int32)), (34, .ref 167), (33, .ref 166), (31, .ref 165), (30, .ref 164), (28, .ref 163), (26, .ref 162), (25, .ref 161), (24, .ref 160), (19, .ref 159), (18, .ref 158), (17, .ref 157), (16, .ref 156), (13, .ref 155), (12, .ref 154), (11, .ref 153), (9, .ref 152), (8, .ref 151), (7, .ref 150), (5, .ref 149), (4, .ref 148), (3, .ref 147), (2, .ref 146), (1, .ref 145), (0, .ref 144), (6, .int (0 : Int32)), (14, .int (0 : Int32)), (15, .int (0 : Int32)), (20, .int (0 : Int32)), (21, .int (0 : Int32)), (22, .int (0 : Int32)), (23, .int (0 : Int32)), (27, .int (0 : Int32)), (32, .int (0 : Int32))], none) (pc' := 20) (L' := [(0, .ref 143), (1, .int ((48 : Int32) + ((xs 2) - (xs 2) / (10 : Int32) * (10 : Int32))))]) h_m234 (z_at.mk 3 rfl rfl) rfl (by decide) rfl (Or.inl rfl) rfl rfl rfl ?_
  clear H m; intro m H
  refine w_rv h_m234 (z_at.mk 1 rfl rfl) rfl ?_
  show z_W 997 236 25 [(0, .ref 143), (1, .int (xs 2))] [] m _
  refine w_rv h_m236 (z_at.mk 1 rfl rfl) rfl ?_
  show z_W 998 237 22 [(0, .ref 143), (1, .ref 150), (2, .int (0 : Int32))] [] m _
  refine w_p h_m237 2 (pc' := 25) (L' := [(0, .ref 143), (1, .ref 150), (2, .int (0 : Int32))]) (st' := [.int (44 : Int32), .ref 143]) rfl ?_
  refine w_cv (H.t rfl) (pc' := 28) (L' := [(0, .ref 143), (1, .ref 150), (2, .int (0 : Int32))]) (rest := []) (Ps := [.int (44 : Int32)]) (L0 := [(0, .ref 143), (1, .int (44 : Int32))]) h_m237 (z_at.mk 3 rfl rfl) (Or.inl ⟨rfl, rfl⟩) rfl rfl (by decide) (by decide) rfl rfl rfl rfl rfl rfl (by decide) rfl rfl rfl ?_
  refine w_p h_m234 1 (pc' := 1) (L' := [(0, .ref 143), (1, .int (44 : Int32))]) (st' := [.ref 143]) rfl ?_
  refine w_gf H (pc' := 4) (L' := [(0, .ref 143), (1, .int (44 : Int32))]) h_m234 (z_at.mk 3 rfl rfl) rfl (u := .ref 163) rfl rfl rfl ?_
  refine w_p h_m234 1 (pc' := 5) (L' := [(0, .ref 143), (1, .int (44 : Int32))]) (st' := [.ref 143, .ref 163]) rfl ?_
  refine w_gf H (pc' := 8) (L' := [(0, .ref 143), (1, .int (44 : Int32))]) h_m234 (z_at.mk 3 rfl rfl) rfl (u := .int (8 : Int32)) rfl rfl rfl ?_
  refine w_p h_m234 1 (pc' := 9) (L' := [(0, .ref 143), (1, .int (44 : Int32))]) (st' := [.int (44 : Int32), .int (8 : Int32), .ref 163]) rfl ?_
  refine w_as H (t := 0) (j := 8) (u := .int (44 : Int32)) (0, 40000, [(8, .int (44 : Int32)), (7, .int ((48 : Int32) + ((xs 2) - (xs 2) / (10 : Int32) * (10 : Int32)))), (6, .int ((48 : Int32) + (((xs 2) / (10 : Int32)) - ((xs 2) / (10 : Int32)) / (10 : Int32) * (10 : Int32)))), (5, .int (45 : Int32)), (4, .int ((48 : Int32) + ((xs 1) - (xs 1) / (10 : Int32) * (10 : Int32)))), (3, .int (32 : Int32)), (2, .int (107 : Int32)), (1, .int (115 : Int32)), (0, .int (97 : Int32))], some (.int (0 : Int32))) (pc' := 10) (L' := [(0, .ref 143), (1, .int (44 : Int32))]) h_m234 (z_at.mk 1 rfl rfl) rfl rfl (w_ui _ _ (by decide)) rfl rfl rfl rfl ?_
  clear H m; intro m H
  refine w_p h_m234 2 (pc' := 12) (L' := [(0, .ref 143), (1, .int (44 : Int32))]) (st' := [.ref 143, .ref 143]) rfl ?_
  refine w_gf H (pc' := 15) (L' := [(0, .ref 143), (1, .int (44 : Int32))]) h_m234 (z_at.mk 3 rfl rfl) rfl (u := .int (8 : Int32)) rfl rfl rfl ?_
  refine w_p h_m234 2 (pc' := 17) (L' := [(0, .ref 143), (1, .int (44 : Int32))]) (st' := [.int (9 : Int32), .ref 143]) rfl ?_
  refine w_pf H (22, 35, [(29, .int (9 : Int32)), (10, .int (1 : Int32)), (34, .ref 167), (33, .ref 166), (31, .ref 165), (30, .ref 164), (28, .ref 163), (26, .ref 162), (25, .ref 161), (24, .ref 160), (19, .ref 159), (18, .ref 158), (17, .ref 157), (16, .ref 156), (13, .ref 155), (12, .ref 154), (11, .ref 153), (9, .ref 152), (8, .ref 151), (7, .ref 150), (5, .ref 149), (4, .ref 148), (3, .ref 147), (2, .ref 146), (1, .ref 145), (0, .ref 144), (6, .int (0 : Int32)), (14, .int (0 : Int32)), (15, .int (0 : Int32)), (20, .int (0 : Int32)), (21, .int (0 : Int32)), (22, .int (0 : Int32)), (23, .int (0 : Int32)), (27, .int (0 : Int32)), (32, .int (0 : Int32))], none) (pc' := 20) (L' := [(0, .ref 143), (1, .int (44 : Int32))]) h_m234 (z_at.mk 3 rfl rfl) rfl (by decide) rfl (Or.inl rfl) rfl rfl rfl ?_
  clear H m; intro m H
  refine w_rv h_m234 (z_at.mk 1 rfl rfl) rfl ?_
  show z_W 998 237 28 [(0, .ref 143), (1, .ref 150), (2, .int (0 : Int32))] [] m _
  refine w_p h_m237 5 (pc' := 33) (L' := [(0, .ref 143), (1, .ref 150), (2, .int (0 : Int32))]) (st' := [.int (2 : Int32), .ref 150, .ref 143]) rfl ?_
  refine w_al H (t := 0) (j := 2) (pc' := 34) (L' := [(0, .ref 143), (1, .ref 150), (2, .int (0 : Int32))]) h_m237 (z_at.mk 1 rfl rfl) rfl rfl rfl (u := .int (xs 3)) rfl rfl rfl ?_
  refine w_cv (H.t rfl) (pc' := 37) (L' := [(0, .ref 143), (1, .ref 150), (2, .int (0 : Int32))]) (rest := []) (Ps := [.int (xs 3)]) (L0 := [(0, .ref 143), (1, .int (xs 3))]) h_m237 (z_at.mk 3 rfl rfl) (Or.inl ⟨rfl, rfl⟩) rfl rfl (by decide) (by decide) rfl rfl rfl rfl rfl rfl (by decide) rfl rfl rfl ?_
  refine w_p h_m236 2 (pc' := 3) (L' := [(0, .ref 143), (1, .int (xs 3))]) (st' := [.int (9 : Int32), .int (xs 3)]) rfl ?_
  refine w_f2 (pc' := 6) (L' := [(0, .ref 143), (1, .int (xs 3))]) h_m236 (z_at.mk 3 rfl rfl) rfl (zc (a := (xs 3).toInt) (b := 9) rfl rfl (decide_eq_false (by omega))) rfl rfl ?_
  refine w_p h_m236 4 (pc' := 11) (L' := [(0, .ref 143), (1, .int (xs 3))]) (st' := [.int ((xs 3) / (10 : Int32)), .ref 143]) rfl ?_
  have k_22 := zi_div (x := xs 3) (y := (10 : Int32)) (a := (xs 3).toInt) (b := 10) rfl rfl (by omega) (by omega)
  refine w_cv (H.t rfl) (pc' := 14) (L' := [(0, .ref 143), (1, .int (xs 3))]) (rest := []) (Ps := [.int ((xs 3) / (10 : Int32))]) (L0 := [(0, .ref 143), (1, .int ((xs 3) / (10 : Int32)))]) h_m236 (z_at.mk 3 rfl rfl) (Or.inl ⟨rfl, rfl⟩) rfl rfl (by decide) (by decide) rfl rfl rfl rfl rfl rfl (by decide) rfl rfl rfl ?_
  refine w_p h_m236 2 (pc' := 3) (L' := [(0, .ref 143), (1, .int ((xs 3) / (10 : Int32)))]) (st' := [.int (9 : Int32), .int ((xs 3) / (10 : Int32))]) rfl ?_
  refine w_t2 (pc' := 14) (L' := [(0, .ref 143), (1, .int ((xs 3) / (10 : Int32)))]) h_m236 (z_at.mk 3 rfl rfl) rfl (zc (a := ((xs 3) / (10 : Int32)).toInt) (b := 9) rfl rfl (decide_eq_true (by omega))) rfl rfl ?_
  refine w_p h_m236 6 (pc' := 22) (L' := [(0, .ref 143), (1, .int ((xs 3) / (10 : Int32)))]) (st' := [.int ((48 : Int32) + (((xs 3) / (10 : Int32)) - ((xs 3) / (10 : Int32)) / (10 : Int32) * (10 : Int32))), .ref 143]) rfl ?_
  refine w_cv (H.t rfl) (pc' := 25) (L' := [(0, .ref 143), (1, .int ((xs 3) / (10 : Int32)))]) (rest := []) (Ps := [.int ((48 : Int32) + (((xs 3) / (10 : Int32)) - ((xs 3) / (10 : Int32)) / (10 : Int32) * (10 : Int32)))]) (L0 := [(0, .ref 143), (1, .int ((48 : Int32) + (((xs 3) / (10 : Int32)) - ((xs 3) / (10 : Int32)) / (10 : Int32) * (10 : Int32))))]) h_m236 (z_at.mk 3 rfl rfl) (Or.inl ⟨rfl, rfl⟩) rfl rfl (by decide) (by decide) rfl rfl rfl rfl rfl rfl (by decide) rfl rfl rfl ?_
  refine w_p h_m234 1 (pc' := 1) (L' := [(0, .ref 143), (1, .int ((48 : Int32) + (((xs 3) / (10 : Int32)) - ((xs 3) / (10 : Int32)) / (10 : Int32) * (10 : Int32))))]) (st' := [.ref 143]) rfl ?_
  refine w_gf H (pc' := 4) (L' := [(0, .ref 143), (1, .int ((48 : Int32) + (((xs 3) / (10 : Int32)) - ((xs 3) / (10 : Int32)) / (10 : Int32) * (10 : Int32))))]) h_m234 (z_at.mk 3 rfl rfl) rfl (u := .ref 163) rfl rfl rfl ?_
  refine w_p h_m234 1 (pc' := 5) (L' := [(0, .ref 143), (1, .int ((48 : Int32) + (((xs 3) / (10 : Int32)) - ((xs 3) / (10 : Int32)) / (10 : Int32) * (10 : Int32))))]) (st' := [.ref 143, .ref 163]) rfl ?_
  refine w_gf H (pc' := 8) (L' := [(0, .ref 143), (1, .int ((48 : Int32) + (((xs 3) / (10 : Int32)) - ((xs 3) / (10 : Int32)) / (10 : Int32) * (10 : Int32))))]) h_m234 (z_at.mk 3 rfl rfl) rfl (u := .int (9 : Int32)) rfl rfl rfl ?_
  refine w_p h_m234 1 (pc' := 9) (L' := [(0, .ref 143), (1, .int ((48 : Int32) + (((xs 3) / (10 : Int32)) - ((xs 3) / (10 : Int32)) / (10 : Int32) * (10 : Int32))))]) (st' := [.int ((48 : Int32) + (((xs 3) / (10 : Int32)) - ((xs 3) / (10 : Int32)) / (10 : Int32) * (10 : Int32))), .int (9 : Int32), .ref 163]) rfl ?_
  refine w_as H (t := 0) (j := 9) (u := .int ((48 : Int32) + (((xs 3) / (10 : Int32)) - ((xs 3) / (10 : Int32)) / (10 : Int32) * (10 : Int32)))) (0, 40000, [(9, .int ((48 : Int32) + (((xs 3) / (10 : Int32)) - ((xs 3) / (10 : Int32)) / (10 : Int32) * (10 : Int32)))), (8, .int (44 : Int32)), (7, .int ((48 : Int32) + ((xs 2) - (xs 2) / (10 : Int32) * (10 : Int32)))), (6, .int ((48 : Int32) + (((xs 2) / (10 : Int32)) - ((xs 2) / (10 : Int32)) / (10 : Int32) * (10 : Int32)))), (5, .int (45 : Int32)), (4, .int ((48 : Int32) + ((xs 1) - (xs 1) / (10 : Int32) * (10 : Int32)))), (3, .int (32 : Int32)), (2, .int (107 : Int32)), (1, .int (115 : Int32)), (0, .int (97 : Int32))], some (.int (0 : Int32))) (pc' := 10) (L' := [(0, .ref 143), (1, .int ((48 : Int32) + (((xs 3) / (10 : Int32)) - ((xs 3) / (10 : Int32)) / (10 : Int32) * (10 : Int32))))]) h_m234 (z_at.mk 1 rfl rfl) rfl rfl (w_ui _ _ (by decide)) rfl rfl rfl rfl ?_
  clear H m; intro m H
  refine w_p h_m234 2 (pc' := 12) (L' := [(0, .ref 143), (1, .int ((48 : Int32) + (((xs 3) / (10 : Int32)) - ((xs 3) / (10 : Int32)) / (10 : Int32) * (10 : Int32))))]) (st' := [.ref 143, .ref 143]) rfl ?_
  refine w_gf H (pc' := 15) (L' := [(0, .ref 143), (1, .int ((48 : Int32) + (((xs 3) / (10 : Int32)) - ((xs 3) / (10 : Int32)) / (10 : Int32) * (10 : Int32))))]) h_m234 (z_at.mk 3 rfl rfl) rfl (u := .int (9 : Int32)) rfl rfl rfl ?_
  refine w_p h_m234 2 (pc' := 17) (L' := [(0, .ref 143), (1, .int ((48 : Int32) + (((xs 3) / (10 : Int32)) - ((xs 3) / (10 : Int32)) / (10 : Int32) * (10 : Int32))))]) (st' := [.int (10 : Int32), .ref 143]) rfl ?_
  refine w_pf H (22, 35, [(29, .int (10 : Int32)), (10, .int (1 : Int32)), (34, .ref 167), (33, .ref 166), (31, .ref 165), (30, .ref 164), (28, .ref 163), (26, .ref 162), (25, .ref 161), (24, .ref 160), (19, .ref 159), (18, .ref 158), (17, .ref 157), (16, .ref 156), (13, .ref 155), (12, .ref 154), (11, .ref 153), (9, .ref 152), (8, .ref 151), (7, .ref 150), (5, .ref 149), (4, .ref 148), (3, .ref 147), (2, .ref 146), (1, .ref 145), (0, .ref 144), (6, .int (0 : Int32)), (14, .int (0 : Int32)), (15, .int (0 : Int32)), (20, .int (0 : Int32)), (21, .int (0 : Int32)), (22, .int (0 : Int32)), (23, .int (0 : Int32)), (27, .int (0 : Int32)), (32, .int (0 : Int32))], none) (pc' := 20) (L' := [(0, .ref 143), (1, .int ((48 : Int32) + (((xs 3) / (10 : Int32)) - ((xs 3) / (10 : Int32)) / (10 : Int32) * (10 : Int32))))]) h_m234 (z_at.mk 3 rfl rfl) rfl (by decide) rfl (Or.inl rfl) rfl rfl rfl ?_
  clear H m; intro m H
  refine w_rv h_m234 (z_at.mk 1 rfl rfl) rfl ?_
  show z_W 996 236 25 [(0, .ref 143), (1, .int ((xs 3) / (10 : Int32)))] [] m _
  refine w_rv h_m236 (z_at.mk 1 rfl rfl) rfl ?_
  show z_W 997 236 14 [(0, .ref 143), (1, .int (xs 3))] [] m _
  refine w_p h_m236 6 (pc' := 22) (L' := [(0, .ref 143), (1, .int (xs 3))]) (st' := [.int ((48 : Int32) + ((xs 3) - (xs 3) / (10 : Int32) * (10 : Int32))), .ref 143]) rfl ?_
  refine w_cv (H.t rfl) (pc' := 25) (L' := [(0, .ref 143), (1, .int (xs 3))]) (rest := []) (Ps := [.int ((48 : Int32) + ((xs 3) - (xs 3) / (10 : Int32) * (10 : Int32)))]) (L0 := [(0, .ref 143), (1, .int ((48 : Int32) + ((xs 3) - (xs 3) / (10 : Int32) * (10 : Int32))))]) h_m236 (z_at.mk 3 rfl rfl) (Or.inl ⟨rfl, rfl⟩) rfl rfl (by decide) (by decide) rfl rfl rfl rfl rfl rfl (by decide) rfl rfl rfl ?_
  refine w_p h_m234 1 (pc' := 1) (L' := [(0, .ref 143), (1, .int ((48 : Int32) + ((xs 3) - (xs 3) / (10 : Int32) * (10 : Int32))))]) (st' := [.ref 143]) rfl ?_
  refine w_gf H (pc' := 4) (L' := [(0, .ref 143), (1, .int ((48 : Int32) + ((xs 3) - (xs 3) / (10 : Int32) * (10 : Int32))))]) h_m234 (z_at.mk 3 rfl rfl) rfl (u := .ref 163) rfl rfl rfl ?_
  refine w_p h_m234 1 (pc' := 5) (L' := [(0, .ref 143), (1, .int ((48 : Int32) + ((xs 3) - (xs 3) / (10 : Int32) * (10 : Int32))))]) (st' := [.ref 143, .ref 163]) rfl ?_
  refine w_gf H (pc' := 8) (L' := [(0, .ref 143), (1, .int ((48 : Int32) + ((xs 3) - (xs 3) / (10 : Int32) * (10 : Int32))))]) h_m234 (z_at.mk 3 rfl rfl) rfl (u := .int (10 : Int32)) rfl rfl rfl ?_
  refine w_p h_m234 1 (pc' := 9) (L' := [(0, .ref 143), (1, .int ((48 : Int32) + ((xs 3) - (xs 3) / (10 : Int32) * (10 : Int32))))]) (st' := [.int ((48 : Int32) + ((xs 3) - (xs 3) / (10 : Int32) * (10 : Int32))), .int (10 : Int32), .ref 163]) rfl ?_
  refine w_as H (t := 0) (j := 10) (u := .int ((48 : Int32) + ((xs 3) - (xs 3) / (10 : Int32) * (10 : Int32)))) (0, 40000, [(10, .int ((48 : Int32) + ((xs 3) - (xs 3) / (10 : Int32) * (10 : Int32)))), (9, .int ((48 : Int32) + (((xs 3) / (10 : Int32)) - ((xs 3) / (10 : Int32)) / (10 : Int32) * (10 : Int32)))), (8, .int (44 : Int32)), (7, .int ((48 : Int32) + ((xs 2) - (xs 2) / (10 : Int32) * (10 : Int32)))), (6, .int ((48 : Int32) + (((xs 2) / (10 : Int32)) - ((xs 2) / (10 : Int32)) / (10 : Int32) * (10 : Int32)))), (5, .int (45 : Int32)), (4, .int ((48 : Int32) + ((xs 1) - (xs 1) / (10 : Int32) * (10 : Int32)))), (3, .int (32 : Int32)), (2, .int (107 : Int32)), (1, .int (115 : Int32)), (0, .int (97 : Int32))], some (.int (0 : Int32))) (pc' := 10) (L' := [(0, .ref 143), (1, .int ((48 : Int32) + ((xs 3) - (xs 3) / (10 : Int32) * (10 : Int32))))]) h_m234 (z_at.mk 1 rfl rfl) rfl rfl (w_ui _ _ (by decide)) rfl rfl rfl rfl ?_
  clear H m; intro m H
  refine w_p h_m234 2 (pc' := 12) (L' := [(0, .ref 143), (1, .int ((48 : Int32) + ((xs 3) - (xs 3) / (10 : Int32) * (10 : Int32))))]) (st' := [.ref 143, .ref 143]) rfl ?_
  refine w_gf H (pc' := 15) (L' := [(0, .ref 143), (1, .int ((48 : Int32) + ((xs 3) - (xs 3) / (10 : Int32) * (10 : Int32))))]) h_m234 (z_at.mk 3 rfl rfl) rfl (u := .int (10 : Int32)) rfl rfl rfl ?_
  refine w_p h_m234 2 (pc' := 17) (L' := [(0, .ref 143), (1, .int ((48 : Int32) + ((xs 3) - (xs 3) / (10 : Int32) * (10 : Int32))))]) (st' := [.int (11 : Int32), .ref 143]) rfl ?_
  refine w_pf H (22, 35, [(29, .int (11 : Int32)), (10, .int (1 : Int32)), (34, .ref 167), (33, .ref 166), (31, .ref 165), (30, .ref 164), (28, .ref 163), (26, .ref 162), (25, .ref 161), (24, .ref 160), (19, .ref 159), (18, .ref 158), (17, .ref 157), (16, .ref 156), (13, .ref 155), (12, .ref 154), (11, .ref 153), (9, .ref 152), (8, .ref 151), (7, .ref 150), (5, .ref 149), (4, .ref 148), (3, .ref 147), (2, .ref 146), (1, .ref 145), (0, .ref 144), (6, .int (0 : Int32)), (14, .int (0 : Int32)), (15, .int (0 : Int32)), (20, .int (0 : Int32)), (21, .int (0 : Int32)), (22, .int (0 : Int32)), (23, .int (0 : Int32)), (27, .int (0 : Int32)), (32, .int (0 : Int32))], none) (pc' := 20) (L' := [(0, .ref 143), (1, .int ((48 : Int32) + ((xs 3) - (xs 3) / (10 : Int32) * (10 : Int32))))]) h_m234 (z_at.mk 3 rfl rfl) rfl (by decide) rfl (Or.inl rfl) rfl rfl rfl ?_
  clear H m; intro m H
  refine w_rv h_m234 (z_at.mk 1 rfl rfl) rfl ?_
  show z_W 997 236 25 [(0, .ref 143), (1, .int (xs 3))] [] m _
  refine w_rv h_m236 (z_at.mk 1 rfl rfl) rfl ?_
  show z_W 998 237 37 [(0, .ref 143), (1, .ref 150), (2, .int (0 : Int32))] [] m _
  refine w_p h_m237 2 (pc' := 40) (L' := [(0, .ref 143), (1, .ref 150), (2, .int (0 : Int32))]) (st' := [.int (45 : Int32), .ref 143]) rfl ?_
  refine w_cv (H.t rfl) (pc' := 43) (L' := [(0, .ref 143), (1, .ref 150), (2, .int (0 : Int32))]) (rest := []) (Ps := [.int (45 : Int32)]) (L0 := [(0, .ref 143), (1, .int (45 : Int32))]) h_m237 (z_at.mk 3 rfl rfl) (Or.inl ⟨rfl, rfl⟩) rfl rfl (by decide) (by decide) rfl rfl rfl rfl rfl rfl (by decide) rfl rfl rfl ?_
  refine w_p h_m234 1 (pc' := 1) (L' := [(0, .ref 143), (1, .int (45 : Int32))]) (st' := [.ref 143]) rfl ?_
  refine w_gf H (pc' := 4) (L' := [(0, .ref 143), (1, .int (45 : Int32))]) h_m234 (z_at.mk 3 rfl rfl) rfl (u := .ref 163) rfl rfl rfl ?_
  refine w_p h_m234 1 (pc' := 5) (L' := [(0, .ref 143), (1, .int (45 : Int32))]) (st' := [.ref 143, .ref 163]) rfl ?_
  refine w_gf H (pc' := 8) (L' := [(0, .ref 143), (1, .int (45 : Int32))]) h_m234 (z_at.mk 3 rfl rfl) rfl (u := .int (11 : Int32)) rfl rfl rfl ?_
  refine w_p h_m234 1 (pc' := 9) (L' := [(0, .ref 143), (1, .int (45 : Int32))]) (st' := [.int (45 : Int32), .int (11 : Int32), .ref 163]) rfl ?_
  refine w_as H (t := 0) (j := 11) (u := .int (45 : Int32)) (0, 40000, [(11, .int (45 : Int32)), (10, .int ((48 : Int32) + ((xs 3) - (xs 3) / (10 : Int32) * (10 : Int32)))), (9, .int ((48 : Int32) + (((xs 3) / (10 : Int32)) - ((xs 3) / (10 : Int32)) / (10 : Int32) * (10 : Int32)))), (8, .int (44 : Int32)), (7, .int ((48 : Int32) + ((xs 2) - (xs 2) / (10 : Int32) * (10 : Int32)))), (6, .int ((48 : Int32) + (((xs 2) / (10 : Int32)) - ((xs 2) / (10 : Int32)) / (10 : Int32) * (10 : Int32)))), (5, .int (45 : Int32)), (4, .int ((48 : Int32) + ((xs 1) - (xs 1) / (10 : Int32) * (10 : Int32)))), (3, .int (32 : Int32)), (2, .int (107 : Int32)), (1, .int (115 : Int32)), (0, .int (97 : Int32))], some (.int (0 : Int32))) (pc' := 10) (L' := [(0, .ref 143), (1, .int (45 : Int32))]) h_m234 (z_at.mk 1 rfl rfl) rfl rfl (w_ui _ _ (by decide)) rfl rfl rfl rfl ?_
  clear H m; intro m H
  refine w_p h_m234 2 (pc' := 12) (L' := [(0, .ref 143), (1, .int (45 : Int32))]) (st' := [.ref 143, .ref 143]) rfl ?_
  refine w_gf H (pc' := 15) (L' := [(0, .ref 143), (1, .int (45 : Int32))]) h_m234 (z_at.mk 3 rfl rfl) rfl (u := .int (11 : Int32)) rfl rfl rfl ?_
  refine w_p h_m234 2 (pc' := 17) (L' := [(0, .ref 143), (1, .int (45 : Int32))]) (st' := [.int (12 : Int32), .ref 143]) rfl ?_
  refine w_pf H (22, 35, [(29, .int (12 : Int32)), (10, .int (1 : Int32)), (34, .ref 167), (33, .ref 166), (31, .ref 165), (30, .ref 164), (28, .ref 163), (26, .ref 162), (25, .ref 161), (24, .ref 160), (19, .ref 159), (18, .ref 158), (17, .ref 157), (16, .ref 156), (13, .ref 155), (12, .ref 154), (11, .ref 153), (9, .ref 152), (8, .ref 151), (7, .ref 150), (5, .ref 149), (4, .ref 148), (3, .ref 147), (2, .ref 146), (1, .ref 145), (0, .ref 144), (6, .int (0 : Int32)), (14, .int (0 : Int32)), (15, .int (0 : Int32)), (20, .int (0 : Int32)), (21, .int (0 : Int32)), (22, .int (0 : Int32)), (23, .int (0 : Int32)), (27, .int (0 : Int32)), (32, .int (0 : Int32))], none) (pc' := 20) (L' := [(0, .ref 143), (1, .int (45 : Int32))]) h_m234 (z_at.mk 3 rfl rfl) rfl (by decide) rfl (Or.inl rfl) rfl rfl rfl ?_
  clear H m; intro m H
  refine w_rv h_m234 (z_at.mk 1 rfl rfl) rfl ?_
  show z_W 998 237 43 [(0, .ref 143), (1, .ref 150), (2, .int (0 : Int32))] [] m _
  refine w_p h_m237 5 (pc' := 48) (L' := [(0, .ref 143), (1, .ref 150), (2, .int (0 : Int32))]) (st' := [.int (3 : Int32), .ref 150, .ref 143]) rfl ?_
  refine w_al H (t := 0) (j := 3) (pc' := 49) (L' := [(0, .ref 143), (1, .ref 150), (2, .int (0 : Int32))]) h_m237 (z_at.mk 1 rfl rfl) rfl rfl rfl (u := .int (xs 4)) rfl rfl rfl ?_
  refine w_cv (H.t rfl) (pc' := 52) (L' := [(0, .ref 143), (1, .ref 150), (2, .int (0 : Int32))]) (rest := []) (Ps := [.int (xs 4)]) (L0 := [(0, .ref 143), (1, .int (xs 4))]) h_m237 (z_at.mk 3 rfl rfl) (Or.inl ⟨rfl, rfl⟩) rfl rfl (by decide) (by decide) rfl rfl rfl rfl rfl rfl (by decide) rfl rfl rfl ?_
  refine w_p h_m236 2 (pc' := 3) (L' := [(0, .ref 143), (1, .int (xs 4))]) (st' := [.int (9 : Int32), .int (xs 4)]) rfl ?_
  refine w_f2 (pc' := 6) (L' := [(0, .ref 143), (1, .int (xs 4))]) h_m236 (z_at.mk 3 rfl rfl) rfl (zc (a := (xs 4).toInt) (b := 9) rfl rfl (decide_eq_false (by omega))) rfl rfl ?_
  refine w_p h_m236 4 (pc' := 11) (L' := [(0, .ref 143), (1, .int (xs 4))]) (st' := [.int ((xs 4) / (10 : Int32)), .ref 143]) rfl ?_
  have k_23 := zi_div (x := xs 4) (y := (10 : Int32)) (a := (xs 4).toInt) (b := 10) rfl rfl (by omega) (by omega)
  refine w_cv (H.t rfl) (pc' := 14) (L' := [(0, .ref 143), (1, .int (xs 4))]) (rest := []) (Ps := [.int ((xs 4) / (10 : Int32))]) (L0 := [(0, .ref 143), (1, .int ((xs 4) / (10 : Int32)))]) h_m236 (z_at.mk 3 rfl rfl) (Or.inl ⟨rfl, rfl⟩) rfl rfl (by decide) (by decide) rfl rfl rfl rfl rfl rfl (by decide) rfl rfl rfl ?_
  refine w_p h_m236 2 (pc' := 3) (L' := [(0, .ref 143), (1, .int ((xs 4) / (10 : Int32)))]) (st' := [.int (9 : Int32), .int ((xs 4) / (10 : Int32))]) rfl ?_
  refine w_t2 (pc' := 14) (L' := [(0, .ref 143), (1, .int ((xs 4) / (10 : Int32)))]) h_m236 (z_at.mk 3 rfl rfl) rfl (zc (a := ((xs 4) / (10 : Int32)).toInt) (b := 9) rfl rfl (decide_eq_true (by omega))) rfl rfl ?_
  refine w_p h_m236 6 (pc' := 22) (L' := [(0, .ref 143), (1, .int ((xs 4) / (10 : Int32)))]) (st' := [.int ((48 : Int32) + (((xs 4) / (10 : Int32)) - ((xs 4) / (10 : Int32)) / (10 : Int32) * (10 : Int32))), .ref 143]) rfl ?_
  refine w_cv (H.t rfl) (pc' := 25) (L' := [(0, .ref 143), (1, .int ((xs 4) / (10 : Int32)))]) (rest := []) (Ps := [.int ((48 : Int32) + (((xs 4) / (10 : Int32)) - ((xs 4) / (10 : Int32)) / (10 : Int32) * (10 : Int32)))]) (L0 := [(0, .ref 143), (1, .int ((48 : Int32) + (((xs 4) / (10 : Int32)) - ((xs 4) / (10 : Int32)) / (10 : Int32) * (10 : Int32))))]) h_m236 (z_at.mk 3 rfl rfl) (Or.inl ⟨rfl, rfl⟩) rfl rfl (by decide) (by decide) rfl rfl rfl rfl rfl rfl (by decide) rfl rfl rfl ?_
  refine w_p h_m234 1 (pc' := 1) (L' := [(0, .ref 143), (1, .int ((48 : Int32) + (((xs 4) / (10 : Int32)) - ((xs 4) / (10 : Int32)) / (10 : Int32) * (10 : Int32))))]) (st' := [.ref 143]) rfl ?_
  refine w_gf H (pc' := 4) (L' := [(0, .ref 143), (1, .int ((48 : Int32) + (((xs 4) / (10 : Int32)) - ((xs 4) / (10 : Int32)) / (10 : Int32) * (10 : Int32))))]) h_m234 (z_at.mk 3 rfl rfl) rfl (u := .ref 163) rfl rfl rfl ?_
  refine w_p h_m234 1 (pc' := 5) (L' := [(0, .ref 143), (1, .int ((48 : Int32) + (((xs 4) / (10 : Int32)) - ((xs 4) / (10 : Int32)) / (10 : Int32) * (10 : Int32))))]) (st' := [.ref 143, .ref 163]) rfl ?_
  refine w_gf H (pc' := 8) (L' := [(0, .ref 143), (1, .int ((48 : Int32) + (((xs 4) / (10 : Int32)) - ((xs 4) / (10 : Int32)) / (10 : Int32) * (10 : Int32))))]) h_m234 (z_at.mk 3 rfl rfl) rfl (u := .int (12 : Int32)) rfl rfl rfl ?_
  refine w_p h_m234 1 (pc' := 9) (L' := [(0, .ref 143), (1, .int ((48 : Int32) + (((xs 4) / (10 : Int32)) - ((xs 4) / (10 : Int32)) / (10 : Int32) * (10 : Int32))))]) (st' := [.int ((48 : Int32) + (((xs 4) / (10 : Int32)) - ((xs 4) / (10 : Int32)) / (10 : Int32) * (10 : Int32))), .int (12 : Int32), .ref 163]) rfl ?_
  refine w_as H (t := 0) (j := 12) (u := .int ((48 : Int32) + (((xs 4) / (10 : Int32)) - ((xs 4) / (10 : Int32)) / (10 : Int32) * (10 : Int32)))) (0, 40000, [(12, .int ((48 : Int32) + (((xs 4) / (10 : Int32)) - ((xs 4) / (10 : Int32)) / (10 : Int32) * (10 : Int32)))), (11, .int (45 : Int32)), (10, .int ((48 : Int32) + ((xs 3) - (xs 3) / (10 : Int32) * (10 : Int32)))), (9, .int ((48 : Int32) + (((xs 3) / (10 : Int32)) - ((xs 3) / (10 : Int32)) / (10 : Int32) * (10 : Int32)))), (8, .int (44 : Int32)), (7, .int ((48 : Int32) + ((xs 2) - (xs 2) / (10 : Int32) * (10 : Int32)))), (6, .int ((48 : Int32) + (((xs 2) / (10 : Int32)) - ((xs 2) / (10 : Int32)) / (10 : Int32) * (10 : Int32)))), (5, .int (45 : Int32)), (4, .int ((48 : Int32) + ((xs 1) - (xs 1) / (10 : Int32) * (10 : Int32)))), (3, .int (32 : Int32)), (2, .int (107 : Int32)), (1, .int (115 : Int32)), (0, .int (97 : Int32))], some (.int (0 : Int32))) (pc' := 10) (L' := [(0, .ref 143), (1, .int ((48 : Int32) + (((xs 4) / (10 : Int32)) - ((xs 4) / (10 : Int32)) / (10 : Int32) * (10 : Int32))))]) h_m234 (z_at.mk 1 rfl rfl) rfl rfl (w_ui _ _ (by decide)) rfl rfl rfl rfl ?_
  clear H m; intro m H
  refine w_p h_m234 2 (pc' := 12) (L' := [(0, .ref 143), (1, .int ((48 : Int32) + (((xs 4) / (10 : Int32)) - ((xs 4) / (10 : Int32)) / (10 : Int32) * (10 : Int32))))]) (st' := [.ref 143, .ref 143]) rfl ?_
  refine w_gf H (pc' := 15) (L' := [(0, .ref 143), (1, .int ((48 : Int32) + (((xs 4) / (10 : Int32)) - ((xs 4) / (10 : Int32)) / (10 : Int32) * (10 : Int32))))]) h_m234 (z_at.mk 3 rfl rfl) rfl (u := .int (12 : Int32)) rfl rfl rfl ?_
  refine w_p h_m234 2 (pc' := 17) (L' := [(0, .ref 143), (1, .int ((48 : Int32) + (((xs 4) / (10 : Int32)) - ((xs 4) / (10 : Int32)) / (10 : Int32) * (10 : Int32))))]) (st' := [.int (13 : Int32), .ref 143]) rfl ?_
  refine w_pf H (22, 35, [(29, .int (13 : Int32)), (10, .int (1 : Int32)), (34, .ref 167), (33, .ref 166), (31, .ref 165), (30, .ref 164), (28, .ref 163), (26, .ref 162), (25, .ref 161), (24, .ref 160), (19, .ref 159), (18, .ref 158), (17, .ref 157), (16, .ref 156), (13, .ref 155), (12, .ref 154), (11, .ref 153), (9, .ref 152), (8, .ref 151), (7, .ref 150), (5, .ref 149), (4, .ref 148), (3, .ref 147), (2, .ref 146), (1, .ref 145), (0, .ref 144), (6, .int (0 : Int32)), (14, .int (0 : Int32)), (15, .int (0 : Int32)), (20, .int (0 : Int32)), (21, .int (0 : Int32)), (22, .int (0 : Int32)), (23, .int (0 : Int32)), (27, .int (0 : Int32)), (32, .int (0 : Int32))], none) (pc' := 20) (L' := [(0, .ref 143), (1, .int ((48 : Int32) + (((xs 4) / (10 : Int32)) - ((xs 4) / (10 : Int32)) / (10 : Int32) * (10 : Int32))))]) h_m234 (z_at.mk 3 rfl rfl) rfl (by decide) rfl (Or.inl rfl) rfl rfl rfl ?_
  clear H m; intro m H
  refine w_rv h_m234 (z_at.mk 1 rfl rfl) rfl ?_
  show z_W 996 236 25 [(0, .ref 143), (1, .int ((xs 4) / (10 : Int32)))] [] m _
  refine w_rv h_m236 (z_at.mk 1 rfl rfl) rfl ?_
  show z_W 997 236 14 [(0, .ref 143), (1, .int (xs 4))] [] m _
  refine w_p h_m236 6 (pc' := 22) (L' := [(0, .ref 143), (1, .int (xs 4))]) (st' := [.int ((48 : Int32) + ((xs 4) - (xs 4) / (10 : Int32) * (10 : Int32))), .ref 143]) rfl ?_
  refine w_cv (H.t rfl) (pc' := 25) (L' := [(0, .ref 143), (1, .int (xs 4))]) (rest := []) (Ps := [.int ((48 : Int32) + ((xs 4) - (xs 4) / (10 : Int32) * (10 : Int32)))]) (L0 := [(0, .ref 143), (1, .int ((48 : Int32) + ((xs 4) - (xs 4) / (10 : Int32) * (10 : Int32))))]) h_m236 (z_at.mk 3 rfl rfl) (Or.inl ⟨rfl, rfl⟩) rfl rfl (by decide) (by decide) rfl rfl rfl rfl rfl rfl (by decide) rfl rfl rfl ?_
  refine w_p h_m234 1 (pc' := 1) (L' := [(0, .ref 143), (1, .int ((48 : Int32) + ((xs 4) - (xs 4) / (10 : Int32) * (10 : Int32))))]) (st' := [.ref 143]) rfl ?_
  refine w_gf H (pc' := 4) (L' := [(0, .ref 143), (1, .int ((48 : Int32) + ((xs 4) - (xs 4) / (10 : Int32) * (10 : Int32))))]) h_m234 (z_at.mk 3 rfl rfl) rfl (u := .ref 163) rfl rfl rfl ?_
  refine w_p h_m234 1 (pc' := 5) (L' := [(0, .ref 143), (1, .int ((48 : Int32) + ((xs 4) - (xs 4) / (10 : Int32) * (10 : Int32))))]) (st' := [.ref 143, .ref 163]) rfl ?_
  refine w_gf H (pc' := 8) (L' := [(0, .ref 143), (1, .int ((48 : Int32) + ((xs 4) - (xs 4) / (10 : Int32) * (10 : Int32))))]) h_m234 (z_at.mk 3 rfl rfl) rfl (u := .int (13 : Int32)) rfl rfl rfl ?_
  refine w_p h_m234 1 (pc' := 9) (L' := [(0, .ref 143), (1, .int ((48 : Int32) + ((xs 4) - (xs 4) / (10 : Int32) * (10 : Int32))))]) (st' := [.int ((48 : Int32) + ((xs 4) - (xs 4) / (10 : Int32) * (10 : Int32))), .int (13 : Int32), .ref 163]) rfl ?_
  refine w_as H (t := 0) (j := 13) (u := .int ((48 : Int32) + ((xs 4) - (xs 4) / (10 : Int32) * (10 : Int32)))) (0, 40000, [(13, .int ((48 : Int32) + ((xs 4) - (xs 4) / (10 : Int32) * (10 : Int32)))), (12, .int ((48 : Int32) + (((xs 4) / (10 : Int32)) - ((xs 4) / (10 : Int32)) / (10 : Int32) * (10 : Int32)))), (11, .int (45 : Int32)), (10, .int ((48 : Int32) + ((xs 3) - (xs 3) / (10 : Int32) * (10 : Int32)))), (9, .int ((48 : Int32) + (((xs 3) / (10 : Int32)) - ((xs 3) / (10 : Int32)) / (10 : Int32) * (10 : Int32)))), (8, .int (44 : Int32)), (7, .int ((48 : Int32) + ((xs 2) - (xs 2) / (10 : Int32) * (10 : Int32)))), (6, .int ((48 : Int32) + (((xs 2) / (10 : Int32)) - ((xs 2) / (10 : Int32)) / (10 : Int32) * (10 : Int32)))), (5, .int (45 : Int32)), (4, .int ((48 : Int32) + ((xs 1) - (xs 1) / (10 : Int32) * (10 : Int32)))), (3, .int (32 : Int32)), (2, .int (107 : Int32)), (1, .int (115 : Int32)), (0, .int (97 : Int32))], some (.int (0 : Int32))) (pc' := 10) (L' := [(0, .ref 143), (1, .int ((48 : Int32) + ((xs 4) - (xs 4) / (10 : Int32) * (10 : Int32))))]) h_m234 (z_at.mk 1 rfl rfl) rfl rfl (w_ui _ _ (by decide)) rfl rfl rfl rfl ?_
  clear H m; intro m H
  refine w_p h_m234 2 (pc' := 12) (L' := [(0, .ref 143), (1, .int ((48 : Int32) + ((xs 4) - (xs 4) / (10 : Int32) * (10 : Int32))))]) (st' := [.ref 143, .ref 143]) rfl ?_
  refine w_gf H (pc' := 15) (L' := [(0, .ref 143), (1, .int ((48 : Int32) + ((xs 4) - (xs 4) / (10 : Int32) * (10 : Int32))))]) h_m234 (z_at.mk 3 rfl rfl) rfl (u := .int (13 : Int32)) rfl rfl rfl ?_
  refine w_p h_m234 2 (pc' := 17) (L' := [(0, .ref 143), (1, .int ((48 : Int32) + ((xs 4) - (xs 4) / (10 : Int32) * (10 : Int32))))]) (st' := [.int (14 : Int32), .ref 143]) rfl ?_
  refine w_pf H (22, 35, [(29, .int (14 : Int32)), (10, .int (1 : Int32)), (34, .ref 167), (33, .ref 166), (31, .ref 165), (30, .ref 164), (28, .ref 163), (26, .ref 162), (25, .ref 161), (24, .ref 160), (19, .ref 159), (18, .ref 158), (17, .ref 157), (16, .ref 156), (13, .ref 155), (12, .ref 154), (11, .ref 153), (9, .ref 152), (8, .ref 151), (7, .ref 150), (5, .ref 149), (4, .ref 148), (3, .ref 147), (2, .ref 146), (1, .ref 145), (0, .ref 144), (6, .int (0 : Int32)), (14, .int (0 : Int32)), (15, .int (0 : Int32)), (20, .int (0 : Int32)), (21, .int (0 : Int32)), (22, .int (0 : Int32)), (23, .int (0 : Int32)), (27, .int (0 : Int32)), (32, .int (0 : Int32))], none) (pc' := 20) (L' := [(0, .ref 143), (1, .int ((48 : Int32) + ((xs 4) - (xs 4) / (10 : Int32) * (10 : Int32))))]) h_m234 (z_at.mk 3 rfl rfl) rfl (by decide) rfl (Or.inl rfl) rfl rfl rfl ?_
  clear H m; intro m H
  refine w_rv h_m234 (z_at.mk 1 rfl rfl) rfl ?_
  show z_W 997 236 25 [(0, .ref 143), (1, .int (xs 4))] [] m _
  refine w_rv h_m236 (z_at.mk 1 rfl rfl) rfl ?_
  show z_W 998 237 52 [(0, .ref 143), (1, .ref 150), (2, .int (0 : Int32))] [] m _
  refine w_rv h_m237 (z_at.mk 1 rfl rfl) rfl ?_
  show z_W 999 239 180 [(0, .ref 143), (5, .int (0 : Int32)), (6, .int (0 : Int32))] [] m _
  refine w_p h_m239 2 (pc' := 183) (L' := [(0, .ref 143), (5, .int (0 : Int32)), (6, .int (0 : Int32))]) (st' := [.int (32 : Int32), .ref 143]) rfl ?_
  refine w_cv (H.t rfl) (pc' := 186) (L' := [(0, .ref 143), (5, .int (0 : Int32)), (6, .int (0 : Int32))]) (rest := []) (Ps := [.int (32 : Int32)]) (L0 := [(0, .ref 143), (1, .int (32 : Int32))]) h_m239 (z_at.mk 3 rfl rfl) (Or.inl ⟨rfl, rfl⟩) rfl rfl (by decide) (by decide) rfl rfl rfl rfl rfl rfl (by decide) rfl rfl rfl ?_
  refine w_p h_m234 1 (pc' := 1) (L' := [(0, .ref 143), (1, .int (32 : Int32))]) (st' := [.ref 143]) rfl ?_
  refine w_gf H (pc' := 4) (L' := [(0, .ref 143), (1, .int (32 : Int32))]) h_m234 (z_at.mk 3 rfl rfl) rfl (u := .ref 163) rfl rfl rfl ?_
  refine w_p h_m234 1 (pc' := 5) (L' := [(0, .ref 143), (1, .int (32 : Int32))]) (st' := [.ref 143, .ref 163]) rfl ?_
  refine w_gf H (pc' := 8) (L' := [(0, .ref 143), (1, .int (32 : Int32))]) h_m234 (z_at.mk 3 rfl rfl) rfl (u := .int (14 : Int32)) rfl rfl rfl ?_
  refine w_p h_m234 1 (pc' := 9) (L' := [(0, .ref 143), (1, .int (32 : Int32))]) (st' := [.int (32 : Int32), .int (14 : Int32), .ref 163]) rfl ?_
  refine w_as H (t := 0) (j := 14) (u := .int (32 : Int32)) (0, 40000, [(14, .int (32 : Int32)), (13, .int ((48 : Int32) + ((xs 4) - (xs 4) / (10 : Int32) * (10 : Int32)))), (12, .int ((48 : Int32) + (((xs 4) / (10 : Int32)) - ((xs 4) / (10 : Int32)) / (10 : Int32) * (10 : Int32)))), (11, .int (45 : Int32)), (10, .int ((48 : Int32) + ((xs 3) - (xs 3) / (10 : Int32) * (10 : Int32)))), (9, .int ((48 : Int32) + (((xs 3) / (10 : Int32)) - ((xs 3) / (10 : Int32)) / (10 : Int32) * (10 : Int32)))), (8, .int (44 : Int32)), (7, .int ((48 : Int32) + ((xs 2) - (xs 2) / (10 : Int32) * (10 : Int32)))), (6, .int ((48 : Int32) + (((xs 2) / (10 : Int32)) - ((xs 2) / (10 : Int32)) / (10 : Int32) * (10 : Int32)))), (5, .int (45 : Int32)), (4, .int ((48 : Int32) + ((xs 1) - (xs 1) / (10 : Int32) * (10 : Int32)))), (3, .int (32 : Int32)), (2, .int (107 : Int32)), (1, .int (115 : Int32)), (0, .int (97 : Int32))], some (.int (0 : Int32))) (pc' := 10) (L' := [(0, .ref 143), (1, .int (32 : Int32))]) h_m234 (z_at.mk 1 rfl rfl) rfl rfl (w_ui _ _ (by decide)) rfl rfl rfl rfl ?_
  clear H m; intro m H
  refine w_p h_m234 2 (pc' := 12) (L' := [(0, .ref 143), (1, .int (32 : Int32))]) (st' := [.ref 143, .ref 143]) rfl ?_
  refine w_gf H (pc' := 15) (L' := [(0, .ref 143), (1, .int (32 : Int32))]) h_m234 (z_at.mk 3 rfl rfl) rfl (u := .int (14 : Int32)) rfl rfl rfl ?_
  refine w_p h_m234 2 (pc' := 17) (L' := [(0, .ref 143), (1, .int (32 : Int32))]) (st' := [.int (15 : Int32), .ref 143]) rfl ?_
  refine w_pf H (22, 35, [(29, .int (15 : Int32)), (10, .int (1 : Int32)), (34, .ref 167), (33, .ref 166), (31, .ref 165), (30, .ref 164), (28, .ref 163), (26, .ref 162), (25, .ref 161), (24, .ref 160), (19, .ref 159), (18, .ref 158), (17, .ref 157), (16, .ref 156), (13, .ref 155), (12, .ref 154), (11, .ref 153), (9, .ref 152), (8, .ref 151), (7, .ref 150), (5, .ref 149), (4, .ref 148), (3, .ref 147), (2, .ref 146), (1, .ref 145), (0, .ref 144), (6, .int (0 : Int32)), (14, .int (0 : Int32)), (15, .int (0 : Int32)), (20, .int (0 : Int32)), (21, .int (0 : Int32)), (22, .int (0 : Int32)), (23, .int (0 : Int32)), (27, .int (0 : Int32)), (32, .int (0 : Int32))], none) (pc' := 20) (L' := [(0, .ref 143), (1, .int (32 : Int32))]) h_m234 (z_at.mk 3 rfl rfl) rfl (by decide) rfl (Or.inl rfl) rfl rfl rfl ?_
  clear H m; intro m H
  refine w_rv h_m234 (z_at.mk 1 rfl rfl) rfl ?_
  show z_W 999 239 186 [(0, .ref 143), (5, .int (0 : Int32)), (6, .int (0 : Int32))] [] m _
  refine w_p h_m239 3 (pc' := 189) (L' := [(0, .ref 143), (5, .int (0 : Int32)), (6, .int (0 : Int32))]) (st' := [.ref 143, .ref 143, .ref 143]) rfl ?_
  refine w_gf H (pc' := 192) (L' := [(0, .ref 143), (5, .int (0 : Int32)), (6, .int (0 : Int32))]) h_m239 (z_at.mk 3 rfl rfl) rfl (u := .ref 150) rfl rfl rfl ?_
  refine w_p h_m239 3 (pc' := 196) (L' := [(0, .ref 143), (5, .int (0 : Int32)), (6, .int (0 : Int32))]) (st' := [.int (0 : Int32), .ref 150, .ref 143, .ref 143]) rfl ?_
  refine w_cv (H.t rfl) (pc' := 199) (L' := [(0, .ref 143), (5, .int (0 : Int32)), (6, .int (0 : Int32))]) (rest := [.ref 143]) (Ps := [.ref 150, .int (0 : Int32)]) (L0 := [(0, .ref 143), (1, .ref 150), (2, .int (0 : Int32))]) h_m239 (z_at.mk 3 rfl rfl) (Or.inl ⟨rfl, rfl⟩) rfl rfl (by decide) (by decide) rfl rfl rfl rfl rfl rfl (by decide) rfl rfl rfl ?_
  refine w_p h_m177 1 (pc' := 1) (L' := [(0, .ref 143), (1, .ref 150), (2, .int (0 : Int32))]) (st' := [.ref 143]) rfl ?_
  refine w_gf H (pc' := 4) (L' := [(0, .ref 143), (1, .ref 150), (2, .int (0 : Int32))]) h_m177 (z_at.mk 3 rfl rfl) rfl (u := .ref 144) rfl rfl rfl ?_
  refine w_p h_m177 1 (pc' := 6) (L' := [(0, .ref 143), (1, .ref 150), (2, .int (0 : Int32))]) (st' := [.int (11 : Int32), .ref 144]) rfl ?_
  refine w_al H (t := 0) (j := 11) (pc' := 7) (L' := [(0, .ref 143), (1, .ref 150), (2, .int (0 : Int32))]) h_m177 (z_at.mk 1 rfl rfl) rfl rfl rfl (u := .int (10 : Int32)) rfl rfl rfl ?_
  refine w_p h_m177 3 (pc' := 10) (L' := [(0, .ref 143), (1, .ref 150), (2, .int (0 : Int32))]) (st' := [.int (0 : Int32), .ref 150, .ref 143, .int (10 : Int32)]) rfl ?_
  refine w_cv (H.t rfl) (pc' := 13) (L' := [(0, .ref 143), (1, .ref 150), (2, .int (0 : Int32))]) (rest := [.int (10 : Int32)]) (Ps := [.ref 150, .int (0 : Int32)]) (L0 := [(0, .ref 143), (1, .ref 150), (2, .int (0 : Int32))]) h_m177 (z_at.mk 3 rfl rfl) (Or.inl ⟨rfl, rfl⟩) rfl rfl (by decide) (by decide) rfl rfl rfl rfl rfl rfl (by decide) rfl rfl rfl ?_
  refine w_ri0 H rfl rfl rfl ?_
  clear H m; intro m H
  show z_W 998 177 13 [(0, .ref 143), (1, .ref 150), (2, .int (0 : Int32))] [.int (0 : Int32), .int (10 : Int32)] m _
  refine w_p h_m177 1 (pc' := 14) (L' := [(0, .ref 143), (1, .ref 150), (2, .int (0 : Int32))]) (st' := [.int (10 : Int32)]) rfl ?_
  refine w_ri h_m177 (z_at.mk 1 rfl rfl) rfl rfl ?_
  show z_W 999 239 199 [(0, .ref 143), (5, .int (0 : Int32)), (6, .int (0 : Int32))] [.int (10 : Int32), .ref 143] m _
  refine w_cv (H.t rfl) (pc' := 202) (L' := [(0, .ref 143), (5, .int (0 : Int32)), (6, .int (0 : Int32))]) (rest := []) (Ps := [.int (10 : Int32)]) (L0 := [(0, .ref 143), (1, .int (10 : Int32))]) h_m239 (z_at.mk 3 rfl rfl) (Or.inl ⟨rfl, rfl⟩) rfl rfl (by decide) (by decide) rfl rfl rfl rfl rfl rfl (by decide) rfl rfl rfl ?_
  refine w_p h_m236 7 (pc' := 11) (L' := [(0, .ref 143), (1, .int (10 : Int32))]) (st' := [.int (1 : Int32), .ref 143]) rfl ?_
  refine w_cv (H.t rfl) (pc' := 14) (L' := [(0, .ref 143), (1, .int (10 : Int32))]) (rest := []) (Ps := [.int (1 : Int32)]) (L0 := [(0, .ref 143), (1, .int (1 : Int32))]) h_m236 (z_at.mk 3 rfl rfl) (Or.inl ⟨rfl, rfl⟩) rfl rfl (by decide) (by decide) rfl rfl rfl rfl rfl rfl (by decide) rfl rfl rfl ?_
  refine w_p h_m236 9 (pc' := 22) (L' := [(0, .ref 143), (1, .int (1 : Int32))]) (st' := [.int (49 : Int32), .ref 143]) rfl ?_
  refine w_cv (H.t rfl) (pc' := 25) (L' := [(0, .ref 143), (1, .int (1 : Int32))]) (rest := []) (Ps := [.int (49 : Int32)]) (L0 := [(0, .ref 143), (1, .int (49 : Int32))]) h_m236 (z_at.mk 3 rfl rfl) (Or.inl ⟨rfl, rfl⟩) rfl rfl (by decide) (by decide) rfl rfl rfl rfl rfl rfl (by decide) rfl rfl rfl ?_
  refine w_p h_m234 1 (pc' := 1) (L' := [(0, .ref 143), (1, .int (49 : Int32))]) (st' := [.ref 143]) rfl ?_
  refine w_gf H (pc' := 4) (L' := [(0, .ref 143), (1, .int (49 : Int32))]) h_m234 (z_at.mk 3 rfl rfl) rfl (u := .ref 163) rfl rfl rfl ?_
  refine w_p h_m234 1 (pc' := 5) (L' := [(0, .ref 143), (1, .int (49 : Int32))]) (st' := [.ref 143, .ref 163]) rfl ?_
  refine w_gf H (pc' := 8) (L' := [(0, .ref 143), (1, .int (49 : Int32))]) h_m234 (z_at.mk 3 rfl rfl) rfl (u := .int (15 : Int32)) rfl rfl rfl ?_
  refine w_p h_m234 1 (pc' := 9) (L' := [(0, .ref 143), (1, .int (49 : Int32))]) (st' := [.int (49 : Int32), .int (15 : Int32), .ref 163]) rfl ?_
  refine w_as H (t := 0) (j := 15) (u := .int (49 : Int32)) (0, 40000, [(15, .int (49 : Int32)), (14, .int (32 : Int32)), (13, .int ((48 : Int32) + ((xs 4) - (xs 4) / (10 : Int32) * (10 : Int32)))), (12, .int ((48 : Int32) + (((xs 4) / (10 : Int32)) - ((xs 4) / (10 : Int32)) / (10 : Int32) * (10 : Int32)))), (11, .int (45 : Int32)), (10, .int ((48 : Int32) + ((xs 3) - (xs 3) / (10 : Int32) * (10 : Int32)))), (9, .int ((48 : Int32) + (((xs 3) / (10 : Int32)) - ((xs 3) / (10 : Int32)) / (10 : Int32) * (10 : Int32)))), (8, .int (44 : Int32)), (7, .int ((48 : Int32) + ((xs 2) - (xs 2) / (10 : Int32) * (10 : Int32)))), (6, .int ((48 : Int32) + (((xs 2) / (10 : Int32)) - ((xs 2) / (10 : Int32)) / (10 : Int32) * (10 : Int32)))), (5, .int (45 : Int32)), (4, .int ((48 : Int32) + ((xs 1) - (xs 1) / (10 : Int32) * (10 : Int32)))), (3, .int (32 : Int32)), (2, .int (107 : Int32)), (1, .int (115 : Int32)), (0, .int (97 : Int32))], some (.int (0 : Int32))) (pc' := 10) (L' := [(0, .ref 143), (1, .int (49 : Int32))]) h_m234 (z_at.mk 1 rfl rfl) rfl rfl (w_ui _ _ (by decide)) rfl rfl rfl rfl ?_
  clear H m; intro m H
  refine w_p h_m234 2 (pc' := 12) (L' := [(0, .ref 143), (1, .int (49 : Int32))]) (st' := [.ref 143, .ref 143]) rfl ?_
  refine w_gf H (pc' := 15) (L' := [(0, .ref 143), (1, .int (49 : Int32))]) h_m234 (z_at.mk 3 rfl rfl) rfl (u := .int (15 : Int32)) rfl rfl rfl ?_
  refine w_p h_m234 2 (pc' := 17) (L' := [(0, .ref 143), (1, .int (49 : Int32))]) (st' := [.int (16 : Int32), .ref 143]) rfl ?_
  refine w_pf H (22, 35, [(29, .int (16 : Int32)), (10, .int (1 : Int32)), (34, .ref 167), (33, .ref 166), (31, .ref 165), (30, .ref 164), (28, .ref 163), (26, .ref 162), (25, .ref 161), (24, .ref 160), (19, .ref 159), (18, .ref 158), (17, .ref 157), (16, .ref 156), (13, .ref 155), (12, .ref 154), (11, .ref 153), (9, .ref 152), (8, .ref 151), (7, .ref 150), (5, .ref 149), (4, .ref 148), (3, .ref 147), (2, .ref 146), (1, .ref 145), (0, .ref 144), (6, .int (0 : Int32)), (14, .int (0 : Int32)), (15, .int (0 : Int32)), (20, .int (0 : Int32)), (21, .int (0 : Int32)), (22, .int (0 : Int32)), (23, .int (0 : Int32)), (27, .int (0 : Int32)), (32, .int (0 : Int32))], none) (pc' := 20) (L' := [(0, .ref 143), (1, .int (49 : Int32))]) h_m234 (z_at.mk 3 rfl rfl) rfl (by decide) rfl (Or.inl rfl) rfl rfl rfl ?_
  clear H m; intro m H
  refine w_rv h_m234 (z_at.mk 1 rfl rfl) rfl ?_
  show z_W 997 236 25 [(0, .ref 143), (1, .int (1 : Int32))] [] m _
  refine w_rv h_m236 (z_at.mk 1 rfl rfl) rfl ?_
  show z_W 998 236 14 [(0, .ref 143), (1, .int (10 : Int32))] [] m _
  refine w_p h_m236 6 (pc' := 22) (L' := [(0, .ref 143), (1, .int (10 : Int32))]) (st' := [.int (48 : Int32), .ref 143]) rfl ?_
  refine w_cv (H.t rfl) (pc' := 25) (L' := [(0, .ref 143), (1, .int (10 : Int32))]) (rest := []) (Ps := [.int (48 : Int32)]) (L0 := [(0, .ref 143), (1, .int (48 : Int32))]) h_m236 (z_at.mk 3 rfl rfl) (Or.inl ⟨rfl, rfl⟩) rfl rfl (by decide) (by decide) rfl rfl rfl rfl rfl rfl (by decide) rfl rfl rfl ?_
  refine w_p h_m234 1 (pc' := 1) (L' := [(0, .ref 143), (1, .int (48 : Int32))]) (st' := [.ref 143]) rfl ?_
  refine w_gf H (pc' := 4) (L' := [(0, .ref 143), (1, .int (48 : Int32))]) h_m234 (z_at.mk 3 rfl rfl) rfl (u := .ref 163) rfl rfl rfl ?_
  refine w_p h_m234 1 (pc' := 5) (L' := [(0, .ref 143), (1, .int (48 : Int32))]) (st' := [.ref 143, .ref 163]) rfl ?_
  refine w_gf H (pc' := 8) (L' := [(0, .ref 143), (1, .int (48 : Int32))]) h_m234 (z_at.mk 3 rfl rfl) rfl (u := .int (16 : Int32)) rfl rfl rfl ?_
  refine w_p h_m234 1 (pc' := 9) (L' := [(0, .ref 143), (1, .int (48 : Int32))]) (st' := [.int (48 : Int32), .int (16 : Int32), .ref 163]) rfl ?_
  refine w_as H (t := 0) (j := 16) (u := .int (48 : Int32)) (0, 40000, [(16, .int (48 : Int32)), (15, .int (49 : Int32)), (14, .int (32 : Int32)), (13, .int ((48 : Int32) + ((xs 4) - (xs 4) / (10 : Int32) * (10 : Int32)))), (12, .int ((48 : Int32) + (((xs 4) / (10 : Int32)) - ((xs 4) / (10 : Int32)) / (10 : Int32) * (10 : Int32)))), (11, .int (45 : Int32)), (10, .int ((48 : Int32) + ((xs 3) - (xs 3) / (10 : Int32) * (10 : Int32)))), (9, .int ((48 : Int32) + (((xs 3) / (10 : Int32)) - ((xs 3) / (10 : Int32)) / (10 : Int32) * (10 : Int32)))), (8, .int (44 : Int32)), (7, .int ((48 : Int32) + ((xs 2) - (xs 2) / (10 : Int32) * (10 : Int32)))), (6, .int ((48 : Int32) + (((xs 2) / (10 : Int32)) - ((xs 2) / (10 : Int32)) / (10 : Int32) * (10 : Int32)))), (5, .int (45 : Int32)), (4, .int ((48 : Int32) + ((xs 1) - (xs 1) / (10 : Int32) * (10 : Int32)))), (3, .int (32 : Int32)), (2, .int (107 : Int32)), (1, .int (115 : Int32)), (0, .int (97 : Int32))], some (.int (0 : Int32))) (pc' := 10) (L' := [(0, .ref 143), (1, .int (48 : Int32))]) h_m234 (z_at.mk 1 rfl rfl) rfl rfl (w_ui _ _ (by decide)) rfl rfl rfl rfl ?_
  clear H m; intro m H
  refine w_p h_m234 2 (pc' := 12) (L' := [(0, .ref 143), (1, .int (48 : Int32))]) (st' := [.ref 143, .ref 143]) rfl ?_
  refine w_gf H (pc' := 15) (L' := [(0, .ref 143), (1, .int (48 : Int32))]) h_m234 (z_at.mk 3 rfl rfl) rfl (u := .int (16 : Int32)) rfl rfl rfl ?_
  refine w_p h_m234 2 (pc' := 17) (L' := [(0, .ref 143), (1, .int (48 : Int32))]) (st' := [.int (17 : Int32), .ref 143]) rfl ?_
  refine w_pf H (22, 35, [(29, .int (17 : Int32)), (10, .int (1 : Int32)), (34, .ref 167), (33, .ref 166), (31, .ref 165), (30, .ref 164), (28, .ref 163), (26, .ref 162), (25, .ref 161), (24, .ref 160), (19, .ref 159), (18, .ref 158), (17, .ref 157), (16, .ref 156), (13, .ref 155), (12, .ref 154), (11, .ref 153), (9, .ref 152), (8, .ref 151), (7, .ref 150), (5, .ref 149), (4, .ref 148), (3, .ref 147), (2, .ref 146), (1, .ref 145), (0, .ref 144), (6, .int (0 : Int32)), (14, .int (0 : Int32)), (15, .int (0 : Int32)), (20, .int (0 : Int32)), (21, .int (0 : Int32)), (22, .int (0 : Int32)), (23, .int (0 : Int32)), (27, .int (0 : Int32)), (32, .int (0 : Int32))], none) (pc' := 20) (L' := [(0, .ref 143), (1, .int (48 : Int32))]) h_m234 (z_at.mk 3 rfl rfl) rfl (by decide) rfl (Or.inl rfl) rfl rfl rfl ?_
  clear H m; intro m H
  refine w_rv h_m234 (z_at.mk 1 rfl rfl) rfl ?_
  show z_W 998 236 25 [(0, .ref 143), (1, .int (10 : Int32))] [] m _
  refine w_rv h_m236 (z_at.mk 1 rfl rfl) rfl ?_
  show z_W 999 239 202 [(0, .ref 143), (5, .int (0 : Int32)), (6, .int (0 : Int32))] [] m _
  refine w_p h_m239 3 (pc' := 206) (L' := [(0, .ref 143), (5, .int (0 : Int32)), (6, .int (0 : Int32))]) (st' := [.ref 143, .ref 143, .int (0 : Int32)]) rfl ?_
  refine w_gf H (pc' := 209) (L' := [(0, .ref 143), (5, .int (0 : Int32)), (6, .int (0 : Int32))]) h_m239 (z_at.mk 3 rfl rfl) rfl (u := .ref 150) rfl rfl rfl ?_
  refine w_p h_m239 3 (pc' := 213) (L' := [(0, .ref 143), (5, .int (0 : Int32)), (6, .int (0 : Int32))]) (st' := [.int (0 : Int32), .ref 150, .ref 143, .int (0 : Int32)]) rfl ?_
  refine w_cv (H.t rfl) (pc' := 216) (L' := [(0, .ref 143), (5, .int (0 : Int32)), (6, .int (0 : Int32))]) (rest := [.int (0 : Int32)]) (Ps := [.ref 150, .int (0 : Int32)]) (L0 := [(0, .ref 143), (1, .ref 150), (2, .int (0 : Int32))]) h_m239 (z_at.mk 3 rfl rfl) (Or.inl ⟨rfl, rfl⟩) rfl rfl (by decide) (by decide) rfl rfl rfl rfl rfl rfl (by decide) rfl rfl rfl ?_
  refine w_p h_m177 1 (pc' := 1) (L' := [(0, .ref 143), (1, .ref 150), (2, .int (0 : Int32))]) (st' := [.ref 143]) rfl ?_
  refine w_gf H (pc' := 4) (L' := [(0, .ref 143), (1, .ref 150), (2, .int (0 : Int32))]) h_m177 (z_at.mk 3 rfl rfl) rfl (u := .ref 144) rfl rfl rfl ?_
  refine w_p h_m177 1 (pc' := 6) (L' := [(0, .ref 143), (1, .ref 150), (2, .int (0 : Int32))]) (st' := [.int (11 : Int32), .ref 144]) rfl ?_
  refine w_al H (t := 0) (j := 11) (pc' := 7) (L' := [(0, .ref 143), (1, .ref 150), (2, .int (0 : Int32))]) h_m177 (z_at.mk 1 rfl rfl) rfl rfl rfl (u := .int (10 : Int32)) rfl rfl rfl ?_
  refine w_p h_m177 3 (pc' := 10) (L' := [(0, .ref 143), (1, .ref 150), (2, .int (0 : Int32))]) (st' := [.int (0 : Int32), .ref 150, .ref 143, .int (10 : Int32)]) rfl ?_
  refine w_cv (H.t rfl) (pc' := 13) (L' := [(0, .ref 143), (1, .ref 150), (2, .int (0 : Int32))]) (rest := [.int (10 : Int32)]) (Ps := [.ref 150, .int (0 : Int32)]) (L0 := [(0, .ref 143), (1, .ref 150), (2, .int (0 : Int32))]) h_m177 (z_at.mk 3 rfl rfl) (Or.inl ⟨rfl, rfl⟩) rfl rfl (by decide) (by decide) rfl rfl rfl rfl rfl rfl (by decide) rfl rfl rfl ?_
  refine w_ri0 H rfl rfl rfl ?_
  clear H m; intro m H
  show z_W 998 177 13 [(0, .ref 143), (1, .ref 150), (2, .int (0 : Int32))] [.int (0 : Int32), .int (10 : Int32)] m _
  refine w_p h_m177 1 (pc' := 14) (L' := [(0, .ref 143), (1, .ref 150), (2, .int (0 : Int32))]) (st' := [.int (10 : Int32)]) rfl ?_
  refine w_ri h_m177 (z_at.mk 1 rfl rfl) rfl rfl ?_
  show z_W 999 239 216 [(0, .ref 143), (5, .int (0 : Int32)), (6, .int (0 : Int32))] [.int (10 : Int32), .int (0 : Int32)] m _
  refine w_p h_m239 4 (pc' := 222) (L' := [(5, .int (10 : Int32)), (0, .ref 143), (6, .int (0 : Int32))]) (st' := [.int (59 : Int32), .ref 143]) rfl ?_
  refine w_cv (H.t rfl) (pc' := 225) (L' := [(5, .int (10 : Int32)), (0, .ref 143), (6, .int (0 : Int32))]) (rest := []) (Ps := [.int (59 : Int32)]) (L0 := [(0, .ref 143), (1, .int (59 : Int32))]) h_m239 (z_at.mk 3 rfl rfl) (Or.inl ⟨rfl, rfl⟩) rfl rfl (by decide) (by decide) rfl rfl rfl rfl rfl rfl (by decide) rfl rfl rfl ?_
  refine w_p h_m234 1 (pc' := 1) (L' := [(0, .ref 143), (1, .int (59 : Int32))]) (st' := [.ref 143]) rfl ?_
  refine w_gf H (pc' := 4) (L' := [(0, .ref 143), (1, .int (59 : Int32))]) h_m234 (z_at.mk 3 rfl rfl) rfl (u := .ref 163) rfl rfl rfl ?_
  refine w_p h_m234 1 (pc' := 5) (L' := [(0, .ref 143), (1, .int (59 : Int32))]) (st' := [.ref 143, .ref 163]) rfl ?_
  refine w_gf H (pc' := 8) (L' := [(0, .ref 143), (1, .int (59 : Int32))]) h_m234 (z_at.mk 3 rfl rfl) rfl (u := .int (17 : Int32)) rfl rfl rfl ?_
  refine w_p h_m234 1 (pc' := 9) (L' := [(0, .ref 143), (1, .int (59 : Int32))]) (st' := [.int (59 : Int32), .int (17 : Int32), .ref 163]) rfl ?_
  refine w_as H (t := 0) (j := 17) (u := .int (59 : Int32)) (0, 40000, [(17, .int (59 : Int32)), (16, .int (48 : Int32)), (15, .int (49 : Int32)), (14, .int (32 : Int32)), (13, .int ((48 : Int32) + ((xs 4) - (xs 4) / (10 : Int32) * (10 : Int32)))), (12, .int ((48 : Int32) + (((xs 4) / (10 : Int32)) - ((xs 4) / (10 : Int32)) / (10 : Int32) * (10 : Int32)))), (11, .int (45 : Int32)), (10, .int ((48 : Int32) + ((xs 3) - (xs 3) / (10 : Int32) * (10 : Int32)))), (9, .int ((48 : Int32) + (((xs 3) / (10 : Int32)) - ((xs 3) / (10 : Int32)) / (10 : Int32) * (10 : Int32)))), (8, .int (44 : Int32)), (7, .int ((48 : Int32) + ((xs 2) - (xs 2) / (10 : Int32) * (10 : Int32)))), (6, .int ((48 : Int32) + (((xs 2) / (10 : Int32)) - ((xs 2) / (10 : Int32)) / (10 : Int32) * (10 : Int32)))), (5, .int (45 : Int32)), (4, .int ((48 : Int32) + ((xs 1) - (xs 1) / (10 : Int32) * (10 : Int32)))), (3, .int (32 : Int32)), (2, .int (107 : Int32)), (1, .int (115 : Int32)), (0, .int (97 : Int32))], some (.int (0 : Int32))) (pc' := 10) (L' := [(0, .ref 143), (1, .int (59 : Int32))]) h_m234 (z_at.mk 1 rfl rfl) rfl rfl (w_ui _ _ (by decide)) rfl rfl rfl rfl ?_
  clear H m; intro m H
  refine w_p h_m234 2 (pc' := 12) (L' := [(0, .ref 143), (1, .int (59 : Int32))]) (st' := [.ref 143, .ref 143]) rfl ?_
  refine w_gf H (pc' := 15) (L' := [(0, .ref 143), (1, .int (59 : Int32))]) h_m234 (z_at.mk 3 rfl rfl) rfl (u := .int (17 : Int32)) rfl rfl rfl ?_
  refine w_p h_m234 2 (pc' := 17) (L' := [(0, .ref 143), (1, .int (59 : Int32))]) (st' := [.int (18 : Int32), .ref 143]) rfl ?_
  refine w_pf H (22, 35, [(29, .int (18 : Int32)), (10, .int (1 : Int32)), (34, .ref 167), (33, .ref 166), (31, .ref 165), (30, .ref 164), (28, .ref 163), (26, .ref 162), (25, .ref 161), (24, .ref 160), (19, .ref 159), (18, .ref 158), (17, .ref 157), (16, .ref 156), (13, .ref 155), (12, .ref 154), (11, .ref 153), (9, .ref 152), (8, .ref 151), (7, .ref 150), (5, .ref 149), (4, .ref 148), (3, .ref 147), (2, .ref 146), (1, .ref 145), (0, .ref 144), (6, .int (0 : Int32)), (14, .int (0 : Int32)), (15, .int (0 : Int32)), (20, .int (0 : Int32)), (21, .int (0 : Int32)), (22, .int (0 : Int32)), (23, .int (0 : Int32)), (27, .int (0 : Int32)), (32, .int (0 : Int32))], none) (pc' := 20) (L' := [(0, .ref 143), (1, .int (59 : Int32))]) h_m234 (z_at.mk 3 rfl rfl) rfl (by decide) rfl (Or.inl rfl) rfl rfl rfl ?_
  clear H m; intro m H
  refine w_rv h_m234 (z_at.mk 1 rfl rfl) rfl ?_
  show z_W 999 239 225 [(5, .int (10 : Int32)), (0, .ref 143), (6, .int (0 : Int32))] [] m _
  refine w_p h_m239 4 (pc' := 155) (L' := [(0, .ref 143), (5, .int (10 : Int32)), (6, .int (1 : Int32))]) (st' := [.ref 143, .int (1 : Int32)]) rfl ?_
  refine w_gf H (pc' := 158) (L' := [(0, .ref 143), (5, .int (10 : Int32)), (6, .int (1 : Int32))]) h_m239 (z_at.mk 3 rfl rfl) rfl (u := .int (1 : Int32)) rfl rfl rfl ?_
  refine w_p h_m239 3 (pc' := 235) (L' := [(0, .ref 143), (5, .int (10 : Int32)), (6, .int (1 : Int32))]) (st' := [.ref 18, .ref 143]) rfl ?_
  refine w_cv (H.t rfl) (pc' := 238) (L' := [(0, .ref 143), (5, .int (10 : Int32)), (6, .int (1 : Int32))]) (rest := []) (Ps := [.ref 18]) (L0 := [(0, .ref 143), (1, .ref 18)]) h_m239 (z_at.mk 3 rfl rfl) (Or.inl ⟨rfl, rfl⟩) rfl rfl (by decide) (by decide) rfl rfl rfl rfl rfl rfl (by decide) rfl rfl rfl ?_
  refine w_p h_m235 4 (pc' := 4) (L' := [(0, .ref 143), (1, .ref 18), (2, .int (0 : Int32))]) (st' := [.ref 18, .int (0 : Int32)]) rfl ?_
  refine w_cv (H.te (by decide) rfl).1 (pc' := 7) (L' := [(0, .ref 143), (1, .ref 18), (2, .int (0 : Int32))]) (rest := [.int (0 : Int32)]) (Ps := []) (L0 := [(0, .ref 18)]) h_m235 (z_at.mk 3 rfl rfl) (Or.inl ⟨rfl, rfl⟩) rfl rfl (by decide) (by decide) rfl rfl rfl rfl rfl rfl (by decide) rfl rfl rfl ?_
  refine w_p h_m293 1 (pc' := 1) (L' := [(0, .ref 18)]) (st' := [.ref 18]) rfl ?_
  refine w_gs H (pc' := 4) (L' := [(0, .ref 18)]) h_m293 (z_at.mk 3 rfl rfl) rfl (by decide) rfl rfl rfl rfl ?_
  refine w_lene H (x := (4 : Int32)) (pc' := 5) (L' := [(0, .ref 18)]) h_m293 (z_at.mk 1 rfl rfl) (by decide) rfl (by decide) rfl rfl rfl ?_
  refine w_p h_m293 1 (pc' := 6) (L' := [(0, .ref 18)]) (st' := [.ref 18, .int (4 : Int32)]) rfl ?_
  refine w_cv (H.te (by decide) rfl).1 (pc' := 9) (L' := [(0, .ref 18)]) (rest := [.int (4 : Int32)]) (Ps := []) (L0 := [(0, .ref 18)]) h_m293 (z_at.mk 3 rfl rfl) (Or.inl ⟨rfl, rfl⟩) rfl rfl (by decide) (by decide) rfl rfl rfl rfl rfl rfl (by decide) rfl rfl rfl ?_
  refine w_p h_m298 3 (pc' := 7) (L' := [(0, .ref 18)]) (st' := [.ref 18]) rfl ?_
  refine w_gs H (pc' := 10) (L' := [(0, .ref 18)]) h_m298 (z_at.mk 3 rfl rfl) rfl (by decide) rfl rfl rfl rfl ?_
  refine w_p h_m298 1 (pc' := 14) (L' := []) (st' := [.int (0 : Int32)]) rfl ?_
  refine w_ri h_m298 (z_at.mk 1 rfl rfl) rfl rfl ?_
  show z_W 997 293 9 [(0, .ref 18)] [.int (0 : Int32), .int (4 : Int32)] m _
  refine w_p h_m293 1 (pc' := 10) (L' := [(0, .ref 18)]) (st' := [.int (4 : Int32)]) rfl ?_
  refine w_ri h_m293 (z_at.mk 1 rfl rfl) rfl rfl ?_
  show z_W 998 235 7 [(0, .ref 143), (1, .ref 18), (2, .int (0 : Int32))] [.int (4 : Int32), .int (0 : Int32)] m _
  refine w_p h_m235 4 (pc' := 13) (L' := [(0, .ref 143), (1, .ref 18), (2, .int (0 : Int32))]) (st' := [.int (0 : Int32), .ref 18, .ref 143]) rfl ?_
  refine w_cv (H.te (by decide) rfl).1 (pc' := 16) (L' := [(0, .ref 143), (1, .ref 18), (2, .int (0 : Int32))]) (rest := [.ref 143]) (Ps := [.int (0 : Int32)]) (L0 := [(0, .ref 18), (1, .int (0 : Int32))]) h_m235 (z_at.mk 3 rfl rfl) (Or.inl ⟨rfl, rfl⟩) rfl rfl (by decide) (by decide) rfl rfl rfl rfl rfl rfl (by decide) rfl rfl rfl ?_
  refine w_p h_m294 1 (pc' := 1) (L' := [(0, .ref 18), (1, .int (0 : Int32))]) (st' := [.ref 18]) rfl ?_
  refine w_cv (H.te (by decide) rfl).1 (pc' := 4) (L' := [(0, .ref 18), (1, .int (0 : Int32))]) (rest := []) (Ps := []) (L0 := [(0, .ref 18)]) h_m294 (z_at.mk 3 rfl rfl) (Or.inl ⟨rfl, rfl⟩) rfl rfl (by decide) (by decide) rfl rfl rfl rfl rfl rfl (by decide) rfl rfl rfl ?_
  refine w_p h_m299 3 (pc' := 7) (L' := [(0, .ref 18)]) (st' := [.ref 18]) rfl ?_
  refine w_gs H (pc' := 10) (L' := [(0, .ref 18)]) h_m299 (z_at.mk 3 rfl rfl) rfl (by decide) rfl rfl rfl rfl ?_
  refine w_p h_m299 3 (pc' := 18) (L' := []) (st' := [.int (1 : Int32)]) rfl ?_
  refine w_ri h_m299 (z_at.mk 1 rfl rfl) rfl rfl ?_
  show z_W 997 294 4 [(0, .ref 18), (1, .int (0 : Int32))] [.int (1 : Int32)] m _
  refine w_p h_m294 2 (pc' := 8) (L' := [(0, .ref 18), (1, .int (0 : Int32))]) (st' := [.ref 18]) rfl ?_
  refine w_gs H (pc' := 11) (L' := [(0, .ref 18), (1, .int (0 : Int32))]) h_m294 (z_at.mk 3 rfl rfl) rfl (by decide) rfl rfl rfl rfl ?_
  refine w_p h_m294 1 (pc' := 12) (L' := [(0, .ref 18), (1, .int (0 : Int32))]) (st' := [.int (0 : Int32), .ref 36]) rfl ?_
  refine w_cs (As := [.ref 36, .int (0 : Int32)]) (rest := []) (j := 308) (L0 := [(0, .ref 36), (1, .int (0 : Int32))]) (pc' := 15) (L' := [(0, .ref 18), (1, .int (0 : Int32))]) h_m294 (z_at.mk 3 rfl rfl) (Or.inl ⟨rfl, rfl⟩) rfl rfl rfl rfl rfl ?_
  refine w_p h_m308 2 (pc' := 2) (L' := [(0, .ref 36), (1, .int (0 : Int32))]) (st' := [.ref 36, .int (0 : Int32)]) rfl ?_
  refine w_lene H (x := (4 : Int32)) (pc' := 3) (L' := [(0, .ref 36), (1, .int (0 : Int32))]) h_m308 (z_at.mk 1 rfl rfl) (by decide) rfl (by decide) rfl rfl rfl ?_
  refine w_ci (pc' := 6) (L' := [(0, .ref 36), (1, .int (0 : Int32))]) h_m308 (z_at.mk 3 rfl rfl) rfl (z_cat_le 0 rfl (by decide)) ⟨by decide, by decide⟩ rfl rfl ?_
  refine w_p h_m308 2 (pc' := 8) (L' := [(0, .ref 36), (1, .int (0 : Int32))]) (st' := [.int (0 : Int32), .ref 36]) rfl ?_
  refine w_ae H (j := 0) (pc' := 9) (L' := [(0, .ref 36), (1, .int (0 : Int32))]) h_m308 (z_at.mk 1 rfl rfl) rfl rfl rfl (by decide) rfl (by decide) rfl rfl rfl ?_
  refine w_p h_m308 3 (pc' := 14) (L' := [(0, .ref 36), (1, .int (0 : Int32))]) (st' := [.int (112 : Int32)]) rfl ?_
  refine w_ri h_m308 (z_at.mk 1 rfl rfl) rfl rfl ?_
  show z_W 997 294 15 [(0, .ref 18), (1, .int (0 : Int32))] [.int (112 : Int32)] m _
  refine w_ri h_m294 (z_at.mk 1 rfl rfl) rfl rfl ?_
  show z_W 998 235 16 [(0, .ref 143), (1, .ref 18), (2, .int (0 : Int32))] [.int (112 : Int32), .ref 143] m _
  refine w_cv (H.t rfl) (pc' := 19) (L' := [(0, .ref 143), (1, .ref 18), (2, .int (0 : Int32))]) (rest := []) (Ps := [.int (112 : Int32)]) (L0 := [(0, .ref 143), (1, .int (112 : Int32))]) h_m235 (z_at.mk 3 rfl rfl) (Or.inl ⟨rfl, rfl⟩) rfl rfl (by decide) (by decide) rfl rfl rfl rfl rfl rfl (by decide) rfl rfl rfl ?_
  refine w_p h_m234 1 (pc' := 1) (L' := [(0, .ref 143), (1, .int (112 : Int32))]) (st' := [.ref 143]) rfl ?_
  refine w_gf H (pc' := 4) (L' := [(0, .ref 143), (1, .int (112 : Int32))]) h_m234 (z_at.mk 3 rfl rfl) rfl (u := .ref 163) rfl rfl rfl ?_
  refine w_p h_m234 1 (pc' := 5) (L' := [(0, .ref 143), (1, .int (112 : Int32))]) (st' := [.ref 143, .ref 163]) rfl ?_
  refine w_gf H (pc' := 8) (L' := [(0, .ref 143), (1, .int (112 : Int32))]) h_m234 (z_at.mk 3 rfl rfl) rfl (u := .int (18 : Int32)) rfl rfl rfl ?_
  refine w_p h_m234 1 (pc' := 9) (L' := [(0, .ref 143), (1, .int (112 : Int32))]) (st' := [.int (112 : Int32), .int (18 : Int32), .ref 163]) rfl ?_
  refine w_as H (t := 0) (j := 18) (u := .int (112 : Int32)) (0, 40000, [(18, .int (112 : Int32)), (17, .int (59 : Int32)), (16, .int (48 : Int32)), (15, .int (49 : Int32)), (14, .int (32 : Int32)), (13, .int ((48 : Int32) + ((xs 4) - (xs 4) / (10 : Int32) * (10 : Int32)))), (12, .int ((48 : Int32) + (((xs 4) / (10 : Int32)) - ((xs 4) / (10 : Int32)) / (10 : Int32) * (10 : Int32)))), (11, .int (45 : Int32)), (10, .int ((48 : Int32) + ((xs 3) - (xs 3) / (10 : Int32) * (10 : Int32)))), (9, .int ((48 : Int32) + (((xs 3) / (10 : Int32)) - ((xs 3) / (10 : Int32)) / (10 : Int32) * (10 : Int32)))), (8, .int (44 : Int32)), (7, .int ((48 : Int32) + ((xs 2) - (xs 2) / (10 : Int32) * (10 : Int32)))), (6, .int ((48 : Int32) + (((xs 2) / (10 : Int32)) - ((xs 2) / (10 : Int32)) / (10 : Int32) * (10 : Int32)))), (5, .int (45 : Int32)), (4, .int ((48 : Int32) + ((xs 1) - (xs 1) / (10 : Int32) * (10 : Int32)))), (3, .int (32 : Int32)), (2, .int (107 : Int32)), (1, .int (115 : Int32)), (0, .int (97 : Int32))], some (.int (0 : Int32))) (pc' := 10) (L' := [(0, .ref 143), (1, .int (112 : Int32))]) h_m234 (z_at.mk 1 rfl rfl) rfl rfl (w_ui _ _ (by decide)) rfl rfl rfl rfl ?_
  clear H m; intro m H
  refine w_p h_m234 2 (pc' := 12) (L' := [(0, .ref 143), (1, .int (112 : Int32))]) (st' := [.ref 143, .ref 143]) rfl ?_
  refine w_gf H (pc' := 15) (L' := [(0, .ref 143), (1, .int (112 : Int32))]) h_m234 (z_at.mk 3 rfl rfl) rfl (u := .int (18 : Int32)) rfl rfl rfl ?_
  refine w_p h_m234 2 (pc' := 17) (L' := [(0, .ref 143), (1, .int (112 : Int32))]) (st' := [.int (19 : Int32), .ref 143]) rfl ?_
  refine w_pf H (22, 35, [(29, .int (19 : Int32)), (10, .int (1 : Int32)), (34, .ref 167), (33, .ref 166), (31, .ref 165), (30, .ref 164), (28, .ref 163), (26, .ref 162), (25, .ref 161), (24, .ref 160), (19, .ref 159), (18, .ref 158), (17, .ref 157), (16, .ref 156), (13, .ref 155), (12, .ref 154), (11, .ref 153), (9, .ref 152), (8, .ref 151), (7, .ref 150), (5, .ref 149), (4, .ref 148), (3, .ref 147), (2, .ref 146), (1, .ref 145), (0, .ref 144), (6, .int (0 : Int32)), (14, .int (0 : Int32)), (15, .int (0 : Int32)), (20, .int (0 : Int32)), (21, .int (0 : Int32)), (22, .int (0 : Int32)), (23, .int (0 : Int32)), (27, .int (0 : Int32)), (32, .int (0 : Int32))], none) (pc' := 20) (L' := [(0, .ref 143), (1, .int (112 : Int32))]) h_m234 (z_at.mk 3 rfl rfl) rfl (by decide) rfl (Or.inl rfl) rfl rfl rfl ?_
  clear H m; intro m H
  refine w_rv h_m234 (z_at.mk 1 rfl rfl) rfl ?_
  show z_W 998 235 19 [(0, .ref 143), (1, .ref 18), (2, .int (0 : Int32))] [] m _
  refine w_p h_m235 4 (pc' := 4) (L' := [(0, .ref 143), (1, .ref 18), (2, .int (1 : Int32))]) (st' := [.ref 18, .int (1 : Int32)]) rfl ?_
  refine w_cv (H.te (by decide) rfl).1 (pc' := 7) (L' := [(0, .ref 143), (1, .ref 18), (2, .int (1 : Int32))]) (rest := [.int (1 : Int32)]) (Ps := []) (L0 := [(0, .ref 18)]) h_m235 (z_at.mk 3 rfl rfl) (Or.inl ⟨rfl, rfl⟩) rfl rfl (by decide) (by decide) rfl rfl rfl rfl rfl rfl (by decide) rfl rfl rfl ?_
  refine w_p h_m293 1 (pc' := 1) (L' := [(0, .ref 18)]) (st' := [.ref 18]) rfl ?_
  refine w_gs H (pc' := 4) (L' := [(0, .ref 18)]) h_m293 (z_at.mk 3 rfl rfl) rfl (by decide) rfl rfl rfl rfl ?_
  refine w_lene H (x := (4 : Int32)) (pc' := 5) (L' := [(0, .ref 18)]) h_m293 (z_at.mk 1 rfl rfl) (by decide) rfl (by decide) rfl rfl rfl ?_
  refine w_p h_m293 1 (pc' := 6) (L' := [(0, .ref 18)]) (st' := [.ref 18, .int (4 : Int32)]) rfl ?_
  refine w_cv (H.te (by decide) rfl).1 (pc' := 9) (L' := [(0, .ref 18)]) (rest := [.int (4 : Int32)]) (Ps := []) (L0 := [(0, .ref 18)]) h_m293 (z_at.mk 3 rfl rfl) (Or.inl ⟨rfl, rfl⟩) rfl rfl (by decide) (by decide) rfl rfl rfl rfl rfl rfl (by decide) rfl rfl rfl ?_
  refine w_p h_m298 3 (pc' := 7) (L' := [(0, .ref 18)]) (st' := [.ref 18]) rfl ?_
  refine w_gs H (pc' := 10) (L' := [(0, .ref 18)]) h_m298 (z_at.mk 3 rfl rfl) rfl (by decide) rfl rfl rfl rfl ?_
  refine w_p h_m298 1 (pc' := 14) (L' := []) (st' := [.int (0 : Int32)]) rfl ?_
  refine w_ri h_m298 (z_at.mk 1 rfl rfl) rfl rfl ?_
  show z_W 997 293 9 [(0, .ref 18)] [.int (0 : Int32), .int (4 : Int32)] m _
  refine w_p h_m293 1 (pc' := 10) (L' := [(0, .ref 18)]) (st' := [.int (4 : Int32)]) rfl ?_
  refine w_ri h_m293 (z_at.mk 1 rfl rfl) rfl rfl ?_
  show z_W 998 235 7 [(0, .ref 143), (1, .ref 18), (2, .int (1 : Int32))] [.int (4 : Int32), .int (1 : Int32)] m _
  refine w_p h_m235 4 (pc' := 13) (L' := [(0, .ref 143), (1, .ref 18), (2, .int (1 : Int32))]) (st' := [.int (1 : Int32), .ref 18, .ref 143]) rfl ?_
  refine w_cv (H.te (by decide) rfl).1 (pc' := 16) (L' := [(0, .ref 143), (1, .ref 18), (2, .int (1 : Int32))]) (rest := [.ref 143]) (Ps := [.int (1 : Int32)]) (L0 := [(0, .ref 18), (1, .int (1 : Int32))]) h_m235 (z_at.mk 3 rfl rfl) (Or.inl ⟨rfl, rfl⟩) rfl rfl (by decide) (by decide) rfl rfl rfl rfl rfl rfl (by decide) rfl rfl rfl ?_
  refine w_p h_m294 1 (pc' := 1) (L' := [(0, .ref 18), (1, .int (1 : Int32))]) (st' := [.ref 18]) rfl ?_
  refine w_cv (H.te (by decide) rfl).1 (pc' := 4) (L' := [(0, .ref 18), (1, .int (1 : Int32))]) (rest := []) (Ps := []) (L0 := [(0, .ref 18)]) h_m294 (z_at.mk 3 rfl rfl) (Or.inl ⟨rfl, rfl⟩) rfl rfl (by decide) (by decide) rfl rfl rfl rfl rfl rfl (by decide) rfl rfl rfl ?_
  refine w_p h_m299 3 (pc' := 7) (L' := [(0, .ref 18)]) (st' := [.ref 18]) rfl ?_
  refine w_gs H (pc' := 10) (L' := [(0, .ref 18)]) h_m299 (z_at.mk 3 rfl rfl) rfl (by decide) rfl rfl rfl rfl ?_
  refine w_p h_m299 3 (pc' := 18) (L' := []) (st' := [.int (1 : Int32)]) rfl ?_
  refine w_ri h_m299 (z_at.mk 1 rfl rfl) rfl rfl ?_
  show z_W 997 294 4 [(0, .ref 18), (1, .int (1 : Int32))] [.int (1 : Int32)] m _
  refine w_p h_m294 2 (pc' := 8) (L' := [(0, .ref 18), (1, .int (1 : Int32))]) (st' := [.ref 18]) rfl ?_
  refine w_gs H (pc' := 11) (L' := [(0, .ref 18), (1, .int (1 : Int32))]) h_m294 (z_at.mk 3 rfl rfl) rfl (by decide) rfl rfl rfl rfl ?_
  refine w_p h_m294 1 (pc' := 12) (L' := [(0, .ref 18), (1, .int (1 : Int32))]) (st' := [.int (1 : Int32), .ref 36]) rfl ?_
  refine w_cs (As := [.ref 36, .int (1 : Int32)]) (rest := []) (j := 308) (L0 := [(0, .ref 36), (1, .int (1 : Int32))]) (pc' := 15) (L' := [(0, .ref 18), (1, .int (1 : Int32))]) h_m294 (z_at.mk 3 rfl rfl) (Or.inl ⟨rfl, rfl⟩) rfl rfl rfl rfl rfl ?_
  refine w_p h_m308 2 (pc' := 2) (L' := [(0, .ref 36), (1, .int (1 : Int32))]) (st' := [.ref 36, .int (1 : Int32)]) rfl ?_
  refine w_lene H (x := (4 : Int32)) (pc' := 3) (L' := [(0, .ref 36), (1, .int (1 : Int32))]) h_m308 (z_at.mk 1 rfl rfl) (by decide) rfl (by decide) rfl rfl rfl ?_
  refine w_ci (pc' := 6) (L' := [(0, .ref 36), (1, .int (1 : Int32))]) h_m308 (z_at.mk 3 rfl rfl) rfl (z_cat_le 0 rfl (by decide)) ⟨by decide, by decide⟩ rfl rfl ?_
  refine w_p h_m308 2 (pc' := 8) (L' := [(0, .ref 36), (1, .int (1 : Int32))]) (st' := [.int (1 : Int32), .ref 36]) rfl ?_
  refine w_ae H (j := 1) (pc' := 9) (L' := [(0, .ref 36), (1, .int (1 : Int32))]) h_m308 (z_at.mk 1 rfl rfl) rfl rfl rfl (by decide) rfl (by decide) rfl rfl rfl ?_
  refine w_p h_m308 3 (pc' := 14) (L' := [(0, .ref 36), (1, .int (1 : Int32))]) (st' := [.int (97 : Int32)]) rfl ?_
  refine w_ri h_m308 (z_at.mk 1 rfl rfl) rfl rfl ?_
  show z_W 997 294 15 [(0, .ref 18), (1, .int (1 : Int32))] [.int (97 : Int32)] m _
  refine w_ri h_m294 (z_at.mk 1 rfl rfl) rfl rfl ?_
  show z_W 998 235 16 [(0, .ref 143), (1, .ref 18), (2, .int (1 : Int32))] [.int (97 : Int32), .ref 143] m _
  refine w_cv (H.t rfl) (pc' := 19) (L' := [(0, .ref 143), (1, .ref 18), (2, .int (1 : Int32))]) (rest := []) (Ps := [.int (97 : Int32)]) (L0 := [(0, .ref 143), (1, .int (97 : Int32))]) h_m235 (z_at.mk 3 rfl rfl) (Or.inl ⟨rfl, rfl⟩) rfl rfl (by decide) (by decide) rfl rfl rfl rfl rfl rfl (by decide) rfl rfl rfl ?_
  refine w_p h_m234 1 (pc' := 1) (L' := [(0, .ref 143), (1, .int (97 : Int32))]) (st' := [.ref 143]) rfl ?_
  refine w_gf H (pc' := 4) (L' := [(0, .ref 143), (1, .int (97 : Int32))]) h_m234 (z_at.mk 3 rfl rfl) rfl (u := .ref 163) rfl rfl rfl ?_
  refine w_p h_m234 1 (pc' := 5) (L' := [(0, .ref 143), (1, .int (97 : Int32))]) (st' := [.ref 143, .ref 163]) rfl ?_
  refine w_gf H (pc' := 8) (L' := [(0, .ref 143), (1, .int (97 : Int32))]) h_m234 (z_at.mk 3 rfl rfl) rfl (u := .int (19 : Int32)) rfl rfl rfl ?_
  refine w_p h_m234 1 (pc' := 9) (L' := [(0, .ref 143), (1, .int (97 : Int32))]) (st' := [.int (97 : Int32), .int (19 : Int32), .ref 163]) rfl ?_
  refine w_as H (t := 0) (j := 19) (u := .int (97 : Int32)) (0, 40000, [(19, .int (97 : Int32)), (18, .int (112 : Int32)), (17, .int (59 : Int32)), (16, .int (48 : Int32)), (15, .int (49 : Int32)), (14, .int (32 : Int32)), (13, .int ((48 : Int32) + ((xs 4) - (xs 4) / (10 : Int32) * (10 : Int32)))), (12, .int ((48 : Int32) + (((xs 4) / (10 : Int32)) - ((xs 4) / (10 : Int32)) / (10 : Int32) * (10 : Int32)))), (11, .int (45 : Int32)), (10, .int ((48 : Int32) + ((xs 3) - (xs 3) / (10 : Int32) * (10 : Int32)))), (9, .int ((48 : Int32) + (((xs 3) / (10 : Int32)) - ((xs 3) / (10 : Int32)) / (10 : Int32) * (10 : Int32)))), (8, .int (44 : Int32)), (7, .int ((48 : Int32) + ((xs 2) - (xs 2) / (10 : Int32) * (10 : Int32)))), (6, .int ((48 : Int32) + (((xs 2) / (10 : Int32)) - ((xs 2) / (10 : Int32)) / (10 : Int32) * (10 : Int32)))), (5, .int (45 : Int32)), (4, .int ((48 : Int32) + ((xs 1) - (xs 1) / (10 : Int32) * (10 : Int32)))), (3, .int (32 : Int32)), (2, .int (107 : Int32)), (1, .int (115 : Int32)), (0, .int (97 : Int32))], some (.int (0 : Int32))) (pc' := 10) (L' := [(0, .ref 143), (1, .int (97 : Int32))]) h_m234 (z_at.mk 1 rfl rfl) rfl rfl (w_ui _ _ (by decide)) rfl rfl rfl rfl ?_
  clear H m; intro m H
  refine w_p h_m234 2 (pc' := 12) (L' := [(0, .ref 143), (1, .int (97 : Int32))]) (st' := [.ref 143, .ref 143]) rfl ?_
  refine w_gf H (pc' := 15) (L' := [(0, .ref 143), (1, .int (97 : Int32))]) h_m234 (z_at.mk 3 rfl rfl) rfl (u := .int (19 : Int32)) rfl rfl rfl ?_
  refine w_p h_m234 2 (pc' := 17) (L' := [(0, .ref 143), (1, .int (97 : Int32))]) (st' := [.int (20 : Int32), .ref 143]) rfl ?_
  refine w_pf H (22, 35, [(29, .int (20 : Int32)), (10, .int (1 : Int32)), (34, .ref 167), (33, .ref 166), (31, .ref 165), (30, .ref 164), (28, .ref 163), (26, .ref 162), (25, .ref 161), (24, .ref 160), (19, .ref 159), (18, .ref 158), (17, .ref 157), (16, .ref 156), (13, .ref 155), (12, .ref 154), (11, .ref 153), (9, .ref 152), (8, .ref 151), (7, .ref 150), (5, .ref 149), (4, .ref 148), (3, .ref 147), (2, .ref 146), (1, .ref 145), (0, .ref 144), (6, .int (0 : Int32)), (14, .int (0 : Int32)), (15, .int (0 : Int32)), (20, .int (0 : Int32)), (21, .int (0 : Int32)), (22, .int (0 : Int32)), (23, .int (0 : Int32)), (27, .int (0 : Int32)), (32, .int (0 : Int32))], none) (pc' := 20) (L' := [(0, .ref 143), (1, .int (97 : Int32))]) h_m234 (z_at.mk 3 rfl rfl) rfl (by decide) rfl (Or.inl rfl) rfl rfl rfl ?_
  clear H m; intro m H
  refine w_rv h_m234 (z_at.mk 1 rfl rfl) rfl ?_
  show z_W 998 235 19 [(0, .ref 143), (1, .ref 18), (2, .int (1 : Int32))] [] m _
  refine w_p h_m235 4 (pc' := 4) (L' := [(0, .ref 143), (1, .ref 18), (2, .int (2 : Int32))]) (st' := [.ref 18, .int (2 : Int32)]) rfl ?_
  refine w_cv (H.te (by decide) rfl).1 (pc' := 7) (L' := [(0, .ref 143), (1, .ref 18), (2, .int (2 : Int32))]) (rest := [.int (2 : Int32)]) (Ps := []) (L0 := [(0, .ref 18)]) h_m235 (z_at.mk 3 rfl rfl) (Or.inl ⟨rfl, rfl⟩) rfl rfl (by decide) (by decide) rfl rfl rfl rfl rfl rfl (by decide) rfl rfl rfl ?_
  refine w_p h_m293 1 (pc' := 1) (L' := [(0, .ref 18)]) (st' := [.ref 18]) rfl ?_
  refine w_gs H (pc' := 4) (L' := [(0, .ref 18)]) h_m293 (z_at.mk 3 rfl rfl) rfl (by decide) rfl rfl rfl rfl ?_
  refine w_lene H (x := (4 : Int32)) (pc' := 5) (L' := [(0, .ref 18)]) h_m293 (z_at.mk 1 rfl rfl) (by decide) rfl (by decide) rfl rfl rfl ?_
  refine w_p h_m293 1 (pc' := 6) (L' := [(0, .ref 18)]) (st' := [.ref 18, .int (4 : Int32)]) rfl ?_
  refine w_cv (H.te (by decide) rfl).1 (pc' := 9) (L' := [(0, .ref 18)]) (rest := [.int (4 : Int32)]) (Ps := []) (L0 := [(0, .ref 18)]) h_m293 (z_at.mk 3 rfl rfl) (Or.inl ⟨rfl, rfl⟩) rfl rfl (by decide) (by decide) rfl rfl rfl rfl rfl rfl (by decide) rfl rfl rfl ?_
  refine w_p h_m298 3 (pc' := 7) (L' := [(0, .ref 18)]) (st' := [.ref 18]) rfl ?_
  refine w_gs H (pc' := 10) (L' := [(0, .ref 18)]) h_m298 (z_at.mk 3 rfl rfl) rfl (by decide) rfl rfl rfl rfl ?_
  refine w_p h_m298 1 (pc' := 14) (L' := []) (st' := [.int (0 : Int32)]) rfl ?_
  refine w_ri h_m298 (z_at.mk 1 rfl rfl) rfl rfl ?_
  show z_W 997 293 9 [(0, .ref 18)] [.int (0 : Int32), .int (4 : Int32)] m _
  refine w_p h_m293 1 (pc' := 10) (L' := [(0, .ref 18)]) (st' := [.int (4 : Int32)]) rfl ?_
  refine w_ri h_m293 (z_at.mk 1 rfl rfl) rfl rfl ?_
  show z_W 998 235 7 [(0, .ref 143), (1, .ref 18), (2, .int (2 : Int32))] [.int (4 : Int32), .int (2 : Int32)] m _
  refine w_p h_m235 4 (pc' := 13) (L' := [(0, .ref 143), (1, .ref 18), (2, .int (2 : Int32))]) (st' := [.int (2 : Int32), .ref 18, .ref 143]) rfl ?_
  refine w_cv (H.te (by decide) rfl).1 (pc' := 16) (L' := [(0, .ref 143), (1, .ref 18), (2, .int (2 : Int32))]) (rest := [.ref 143]) (Ps := [.int (2 : Int32)]) (L0 := [(0, .ref 18), (1, .int (2 : Int32))]) h_m235 (z_at.mk 3 rfl rfl) (Or.inl ⟨rfl, rfl⟩) rfl rfl (by decide) (by decide) rfl rfl rfl rfl rfl rfl (by decide) rfl rfl rfl ?_
  refine w_p h_m294 1 (pc' := 1) (L' := [(0, .ref 18), (1, .int (2 : Int32))]) (st' := [.ref 18]) rfl ?_
  refine w_cv (H.te (by decide) rfl).1 (pc' := 4) (L' := [(0, .ref 18), (1, .int (2 : Int32))]) (rest := []) (Ps := []) (L0 := [(0, .ref 18)]) h_m294 (z_at.mk 3 rfl rfl) (Or.inl ⟨rfl, rfl⟩) rfl rfl (by decide) (by decide) rfl rfl rfl rfl rfl rfl (by decide) rfl rfl rfl ?_
  refine w_p h_m299 3 (pc' := 7) (L' := [(0, .ref 18)]) (st' := [.ref 18]) rfl ?_
  refine w_gs H (pc' := 10) (L' := [(0, .ref 18)]) h_m299 (z_at.mk 3 rfl rfl) rfl (by decide) rfl rfl rfl rfl ?_
  refine w_p h_m299 3 (pc' := 18) (L' := []) (st' := [.int (1 : Int32)]) rfl ?_
  refine w_ri h_m299 (z_at.mk 1 rfl rfl) rfl rfl ?_
  show z_W 997 294 4 [(0, .ref 18), (1, .int (2 : Int32))] [.int (1 : Int32)] m _
  refine w_p h_m294 2 (pc' := 8) (L' := [(0, .ref 18), (1, .int (2 : Int32))]) (st' := [.ref 18]) rfl ?_
  refine w_gs H (pc' := 11) (L' := [(0, .ref 18), (1, .int (2 : Int32))]) h_m294 (z_at.mk 3 rfl rfl) rfl (by decide) rfl rfl rfl rfl ?_
  refine w_p h_m294 1 (pc' := 12) (L' := [(0, .ref 18), (1, .int (2 : Int32))]) (st' := [.int (2 : Int32), .ref 36]) rfl ?_
  refine w_cs (As := [.ref 36, .int (2 : Int32)]) (rest := []) (j := 308) (L0 := [(0, .ref 36), (1, .int (2 : Int32))]) (pc' := 15) (L' := [(0, .ref 18), (1, .int (2 : Int32))]) h_m294 (z_at.mk 3 rfl rfl) (Or.inl ⟨rfl, rfl⟩) rfl rfl rfl rfl rfl ?_
  refine w_p h_m308 2 (pc' := 2) (L' := [(0, .ref 36), (1, .int (2 : Int32))]) (st' := [.ref 36, .int (2 : Int32)]) rfl ?_
  refine w_lene H (x := (4 : Int32)) (pc' := 3) (L' := [(0, .ref 36), (1, .int (2 : Int32))]) h_m308 (z_at.mk 1 rfl rfl) (by decide) rfl (by decide) rfl rfl rfl ?_
  refine w_ci (pc' := 6) (L' := [(0, .ref 36), (1, .int (2 : Int32))]) h_m308 (z_at.mk 3 rfl rfl) rfl (z_cat_le 0 rfl (by decide)) ⟨by decide, by decide⟩ rfl rfl ?_
  refine w_p h_m308 2 (pc' := 8) (L' := [(0, .ref 36), (1, .int (2 : Int32))]) (st' := [.int (2 : Int32), .ref 36]) rfl ?_
  refine w_ae H (j := 2) (pc' := 9) (L' := [(0, .ref 36), (1, .int (2 : Int32))]) h_m308 (z_at.mk 1 rfl rfl) rfl rfl rfl (by decide) rfl (by decide) rfl rfl rfl ?_
  refine w_p h_m308 3 (pc' := 14) (L' := [(0, .ref 36), (1, .int (2 : Int32))]) (st' := [.int (121 : Int32)]) rfl ?_
  refine w_ri h_m308 (z_at.mk 1 rfl rfl) rfl rfl ?_
  show z_W 997 294 15 [(0, .ref 18), (1, .int (2 : Int32))] [.int (121 : Int32)] m _
  refine w_ri h_m294 (z_at.mk 1 rfl rfl) rfl rfl ?_
  show z_W 998 235 16 [(0, .ref 143), (1, .ref 18), (2, .int (2 : Int32))] [.int (121 : Int32), .ref 143] m _
  refine w_cv (H.t rfl) (pc' := 19) (L' := [(0, .ref 143), (1, .ref 18), (2, .int (2 : Int32))]) (rest := []) (Ps := [.int (121 : Int32)]) (L0 := [(0, .ref 143), (1, .int (121 : Int32))]) h_m235 (z_at.mk 3 rfl rfl) (Or.inl ⟨rfl, rfl⟩) rfl rfl (by decide) (by decide) rfl rfl rfl rfl rfl rfl (by decide) rfl rfl rfl ?_
  refine w_p h_m234 1 (pc' := 1) (L' := [(0, .ref 143), (1, .int (121 : Int32))]) (st' := [.ref 143]) rfl ?_
  refine w_gf H (pc' := 4) (L' := [(0, .ref 143), (1, .int (121 : Int32))]) h_m234 (z_at.mk 3 rfl rfl) rfl (u := .ref 163) rfl rfl rfl ?_
  refine w_p h_m234 1 (pc' := 5) (L' := [(0, .ref 143), (1, .int (121 : Int32))]) (st' := [.ref 143, .ref 163]) rfl ?_
  refine w_gf H (pc' := 8) (L' := [(0, .ref 143), (1, .int (121 : Int32))]) h_m234 (z_at.mk 3 rfl rfl) rfl (u := .int (20 : Int32)) rfl rfl rfl ?_
  refine w_p h_m234 1 (pc' := 9) (L' := [(0, .ref 143), (1, .int (121 : Int32))]) (st' := [.int (121 : Int32), .int (20 : Int32), .ref 163]) rfl ?_
  refine w_as H (t := 0) (j := 20) (u := .int (121 : Int32)) (0, 40000, [(20, .int (121 : Int32)), (19, .int (97 : Int32)), (18, .int (112 : Int32)), (17, .int (59 : Int32)), (16, .int (48 : Int32)), (15, .int (49 : Int32)), (14, .int (32 : Int32)), (13, .int ((48 : Int32) + ((xs 4) - (xs 4) / (10 : Int32) * (10 : Int32)))), (12, .int ((48 : Int32) + (((xs 4) / (10 : Int32)) - ((xs 4) / (10 : Int32)) / (10 : Int32) * (10 : Int32)))), (11, .int (45 : Int32)), (10, .int ((48 : Int32) + ((xs 3) - (xs 3) / (10 : Int32) * (10 : Int32)))), (9, .int ((48 : Int32) + (((xs 3) / (10 : Int32)) - ((xs 3) / (10 : Int32)) / (10 : Int32) * (10 : Int32)))), (8, .int (44 : Int32)), (7, .int ((48 : Int32) + ((xs 2) - (xs 2) / (10 : Int32) * (10 : Int32)))), (6, .int ((48 : Int32) + (((xs 2) / (10 : Int32)) - ((xs 2) / (10 : Int32)) / (10 : Int32) * (10 : Int32)))), (5, .int (45 : Int32)), (4, .int ((48 : Int32) + ((xs 1) - (xs 1) / (10 : Int32) * (10 : Int32)))), (3, .int (32 : Int32)), (2, .int (107 : Int32)), (1, .int (115 : Int32)), (0, .int (97 : Int32))], some (.int (0 : Int32))) (pc' := 10) (L' := [(0, .ref 143), (1, .int (121 : Int32))]) h_m234 (z_at.mk 1 rfl rfl) rfl rfl (w_ui _ _ (by decide)) rfl rfl rfl rfl ?_
  clear H m; intro m H
  refine w_p h_m234 2 (pc' := 12) (L' := [(0, .ref 143), (1, .int (121 : Int32))]) (st' := [.ref 143, .ref 143]) rfl ?_
  refine w_gf H (pc' := 15) (L' := [(0, .ref 143), (1, .int (121 : Int32))]) h_m234 (z_at.mk 3 rfl rfl) rfl (u := .int (20 : Int32)) rfl rfl rfl ?_
  refine w_p h_m234 2 (pc' := 17) (L' := [(0, .ref 143), (1, .int (121 : Int32))]) (st' := [.int (21 : Int32), .ref 143]) rfl ?_
  refine w_pf H (22, 35, [(29, .int (21 : Int32)), (10, .int (1 : Int32)), (34, .ref 167), (33, .ref 166), (31, .ref 165), (30, .ref 164), (28, .ref 163), (26, .ref 162), (25, .ref 161), (24, .ref 160), (19, .ref 159), (18, .ref 158), (17, .ref 157), (16, .ref 156), (13, .ref 155), (12, .ref 154), (11, .ref 153), (9, .ref 152), (8, .ref 151), (7, .ref 150), (5, .ref 149), (4, .ref 148), (3, .ref 147), (2, .ref 146), (1, .ref 145), (0, .ref 144), (6, .int (0 : Int32)), (14, .int (0 : Int32)), (15, .int (0 : Int32)), (20, .int (0 : Int32)), (21, .int (0 : Int32)), (22, .int (0 : Int32)), (23, .int (0 : Int32)), (27, .int (0 : Int32)), (32, .int (0 : Int32))], none) (pc' := 20) (L' := [(0, .ref 143), (1, .int (121 : Int32))]) h_m234 (z_at.mk 3 rfl rfl) rfl (by decide) rfl (Or.inl rfl) rfl rfl rfl ?_
  clear H m; intro m H
  refine w_rv h_m234 (z_at.mk 1 rfl rfl) rfl ?_
  show z_W 998 235 19 [(0, .ref 143), (1, .ref 18), (2, .int (2 : Int32))] [] m _
  refine w_p h_m235 4 (pc' := 4) (L' := [(0, .ref 143), (1, .ref 18), (2, .int (3 : Int32))]) (st' := [.ref 18, .int (3 : Int32)]) rfl ?_
  refine w_cv (H.te (by decide) rfl).1 (pc' := 7) (L' := [(0, .ref 143), (1, .ref 18), (2, .int (3 : Int32))]) (rest := [.int (3 : Int32)]) (Ps := []) (L0 := [(0, .ref 18)]) h_m235 (z_at.mk 3 rfl rfl) (Or.inl ⟨rfl, rfl⟩) rfl rfl (by decide) (by decide) rfl rfl rfl rfl rfl rfl (by decide) rfl rfl rfl ?_
  refine w_p h_m293 1 (pc' := 1) (L' := [(0, .ref 18)]) (st' := [.ref 18]) rfl ?_
  refine w_gs H (pc' := 4) (L' := [(0, .ref 18)]) h_m293 (z_at.mk 3 rfl rfl) rfl (by decide) rfl rfl rfl rfl ?_
  refine w_lene H (x := (4 : Int32)) (pc' := 5) (L' := [(0, .ref 18)]) h_m293 (z_at.mk 1 rfl rfl) (by decide) rfl (by decide) rfl rfl rfl ?_
  refine w_p h_m293 1 (pc' := 6) (L' := [(0, .ref 18)]) (st' := [.ref 18, .int (4 : Int32)]) rfl ?_
  refine w_cv (H.te (by decide) rfl).1 (pc' := 9) (L' := [(0, .ref 18)]) (rest := [.int (4 : Int32)]) (Ps := []) (L0 := [(0, .ref 18)]) h_m293 (z_at.mk 3 rfl rfl) (Or.inl ⟨rfl, rfl⟩) rfl rfl (by decide) (by decide) rfl rfl rfl rfl rfl rfl (by decide) rfl rfl rfl ?_
  refine w_p h_m298 3 (pc' := 7) (L' := [(0, .ref 18)]) (st' := [.ref 18]) rfl ?_
  refine w_gs H (pc' := 10) (L' := [(0, .ref 18)]) h_m298 (z_at.mk 3 rfl rfl) rfl (by decide) rfl rfl rfl rfl ?_
  refine w_p h_m298 1 (pc' := 14) (L' := []) (st' := [.int (0 : Int32)]) rfl ?_
  refine w_ri h_m298 (z_at.mk 1 rfl rfl) rfl rfl ?_
  show z_W 997 293 9 [(0, .ref 18)] [.int (0 : Int32), .int (4 : Int32)] m _
  refine w_p h_m293 1 (pc' := 10) (L' := [(0, .ref 18)]) (st' := [.int (4 : Int32)]) rfl ?_
  refine w_ri h_m293 (z_at.mk 1 rfl rfl) rfl rfl ?_
  show z_W 998 235 7 [(0, .ref 143), (1, .ref 18), (2, .int (3 : Int32))] [.int (4 : Int32), .int (3 : Int32)] m _
  refine w_p h_m235 4 (pc' := 13) (L' := [(0, .ref 143), (1, .ref 18), (2, .int (3 : Int32))]) (st' := [.int (3 : Int32), .ref 18, .ref 143]) rfl ?_
  refine w_cv (H.te (by decide) rfl).1 (pc' := 16) (L' := [(0, .ref 143), (1, .ref 18), (2, .int (3 : Int32))]) (rest := [.ref 143]) (Ps := [.int (3 : Int32)]) (L0 := [(0, .ref 18), (1, .int (3 : Int32))]) h_m235 (z_at.mk 3 rfl rfl) (Or.inl ⟨rfl, rfl⟩) rfl rfl (by decide) (by decide) rfl rfl rfl rfl rfl rfl (by decide) rfl rfl rfl ?_
  refine w_p h_m294 1 (pc' := 1) (L' := [(0, .ref 18), (1, .int (3 : Int32))]) (st' := [.ref 18]) rfl ?_
  refine w_cv (H.te (by decide) rfl).1 (pc' := 4) (L' := [(0, .ref 18), (1, .int (3 : Int32))]) (rest := []) (Ps := []) (L0 := [(0, .ref 18)]) h_m294 (z_at.mk 3 rfl rfl) (Or.inl ⟨rfl, rfl⟩) rfl rfl (by decide) (by decide) rfl rfl rfl rfl rfl rfl (by decide) rfl rfl rfl ?_
  refine w_p h_m299 3 (pc' := 7) (L' := [(0, .ref 18)]) (st' := [.ref 18]) rfl ?_
  refine w_gs H (pc' := 10) (L' := [(0, .ref 18)]) h_m299 (z_at.mk 3 rfl rfl) rfl (by decide) rfl rfl rfl rfl ?_
  refine w_p h_m299 3 (pc' := 18) (L' := []) (st' := [.int (1 : Int32)]) rfl ?_
  refine w_ri h_m299 (z_at.mk 1 rfl rfl) rfl rfl ?_
  show z_W 997 294 4 [(0, .ref 18), (1, .int (3 : Int32))] [.int (1 : Int32)] m _
  refine w_p h_m294 2 (pc' := 8) (L' := [(0, .ref 18), (1, .int (3 : Int32))]) (st' := [.ref 18]) rfl ?_
  refine w_gs H (pc' := 11) (L' := [(0, .ref 18), (1, .int (3 : Int32))]) h_m294 (z_at.mk 3 rfl rfl) rfl (by decide) rfl rfl rfl rfl ?_
  refine w_p h_m294 1 (pc' := 12) (L' := [(0, .ref 18), (1, .int (3 : Int32))]) (st' := [.int (3 : Int32), .ref 36]) rfl ?_
  refine w_cs (As := [.ref 36, .int (3 : Int32)]) (rest := []) (j := 308) (L0 := [(0, .ref 36), (1, .int (3 : Int32))]) (pc' := 15) (L' := [(0, .ref 18), (1, .int (3 : Int32))]) h_m294 (z_at.mk 3 rfl rfl) (Or.inl ⟨rfl, rfl⟩) rfl rfl rfl rfl rfl ?_
  refine w_p h_m308 2 (pc' := 2) (L' := [(0, .ref 36), (1, .int (3 : Int32))]) (st' := [.ref 36, .int (3 : Int32)]) rfl ?_
  refine w_lene H (x := (4 : Int32)) (pc' := 3) (L' := [(0, .ref 36), (1, .int (3 : Int32))]) h_m308 (z_at.mk 1 rfl rfl) (by decide) rfl (by decide) rfl rfl rfl ?_
  refine w_ci (pc' := 6) (L' := [(0, .ref 36), (1, .int (3 : Int32))]) h_m308 (z_at.mk 3 rfl rfl) rfl (z_cat_le 0 rfl (by decide)) ⟨by decide, by decide⟩ rfl rfl ?_
  refine w_p h_m308 2 (pc' := 8) (L' := [(0, .ref 36), (1, .int (3 : Int32))]) (st' := [.int (3 : Int32), .ref 36]) rfl ?_
  refine w_ae H (j := 3) (pc' := 9) (L' := [(0, .ref 36), (1, .int (3 : Int32))]) h_m308 (z_at.mk 1 rfl rfl) rfl rfl rfl (by decide) rfl (by decide) rfl rfl rfl ?_
  refine w_p h_m308 3 (pc' := 14) (L' := [(0, .ref 36), (1, .int (3 : Int32))]) (st' := [.int (32 : Int32)]) rfl ?_
  refine w_ri h_m308 (z_at.mk 1 rfl rfl) rfl rfl ?_
  show z_W 997 294 15 [(0, .ref 18), (1, .int (3 : Int32))] [.int (32 : Int32)] m _
  refine w_ri h_m294 (z_at.mk 1 rfl rfl) rfl rfl ?_
  show z_W 998 235 16 [(0, .ref 143), (1, .ref 18), (2, .int (3 : Int32))] [.int (32 : Int32), .ref 143] m _
  refine w_cv (H.t rfl) (pc' := 19) (L' := [(0, .ref 143), (1, .ref 18), (2, .int (3 : Int32))]) (rest := []) (Ps := [.int (32 : Int32)]) (L0 := [(0, .ref 143), (1, .int (32 : Int32))]) h_m235 (z_at.mk 3 rfl rfl) (Or.inl ⟨rfl, rfl⟩) rfl rfl (by decide) (by decide) rfl rfl rfl rfl rfl rfl (by decide) rfl rfl rfl ?_
  refine w_p h_m234 1 (pc' := 1) (L' := [(0, .ref 143), (1, .int (32 : Int32))]) (st' := [.ref 143]) rfl ?_
  refine w_gf H (pc' := 4) (L' := [(0, .ref 143), (1, .int (32 : Int32))]) h_m234 (z_at.mk 3 rfl rfl) rfl (u := .ref 163) rfl rfl rfl ?_
  refine w_p h_m234 1 (pc' := 5) (L' := [(0, .ref 143), (1, .int (32 : Int32))]) (st' := [.ref 143, .ref 163]) rfl ?_
  refine w_gf H (pc' := 8) (L' := [(0, .ref 143), (1, .int (32 : Int32))]) h_m234 (z_at.mk 3 rfl rfl) rfl (u := .int (21 : Int32)) rfl rfl rfl ?_
  refine w_p h_m234 1 (pc' := 9) (L' := [(0, .ref 143), (1, .int (32 : Int32))]) (st' := [.int (32 : Int32), .int (21 : Int32), .ref 163]) rfl ?_
  refine w_as H (t := 0) (j := 21) (u := .int (32 : Int32)) (0, 40000, [(21, .int (32 : Int32)), (20, .int (121 : Int32)), (19, .int (97 : Int32)), (18, .int (112 : Int32)), (17, .int (59 : Int32)), (16, .int (48 : Int32)), (15, .int (49 : Int32)), (14, .int (32 : Int32)), (13, .int ((48 : Int32) + ((xs 4) - (xs 4) / (10 : Int32) * (10 : Int32)))), (12, .int ((48 : Int32) + (((xs 4) / (10 : Int32)) - ((xs 4) / (10 : Int32)) / (10 : Int32) * (10 : Int32)))), (11, .int (45 : Int32)), (10, .int ((48 : Int32) + ((xs 3) - (xs 3) / (10 : Int32) * (10 : Int32)))), (9, .int ((48 : Int32) + (((xs 3) / (10 : Int32)) - ((xs 3) / (10 : Int32)) / (10 : Int32) * (10 : Int32)))), (8, .int (44 : Int32)), (7, .int ((48 : Int32) + ((xs 2) - (xs 2) / (10 : Int32) * (10 : Int32)))), (6, .int ((48 : Int32) + (((xs 2) / (10 : Int32)) - ((xs 2) / (10 : Int32)) / (10 : Int32) * (10 : Int32)))), (5, .int (45 : Int32)), (4, .int ((48 : Int32) + ((xs 1) - (xs 1) / (10 : Int32) * (10 : Int32)))), (3, .int (32 : Int32)), (2, .int (107 : Int32)), (1, .int (115 : Int32)), (0, .int (97 : Int32))], some (.int (0 : Int32))) (pc' := 10) (L' := [(0, .ref 143), (1, .int (32 : Int32))]) h_m234 (z_at.mk 1 rfl rfl) rfl rfl (w_ui _ _ (by decide)) rfl rfl rfl rfl ?_
  clear H m; intro m H
  refine w_p h_m234 2 (pc' := 12) (L' := [(0, .ref 143), (1, .int (32 : Int32))]) (st' := [.ref 143, .ref 143]) rfl ?_
  refine w_gf H (pc' := 15) (L' := [(0, .ref 143), (1, .int (32 : Int32))]) h_m234 (z_at.mk 3 rfl rfl) rfl (u := .int (21 : Int32)) rfl rfl rfl ?_
  refine w_p h_m234 2 (pc' := 17) (L' := [(0, .ref 143), (1, .int (32 : Int32))]) (st' := [.int (22 : Int32), .ref 143]) rfl ?_
  refine w_pf H (22, 35, [(29, .int (22 : Int32)), (10, .int (1 : Int32)), (34, .ref 167), (33, .ref 166), (31, .ref 165), (30, .ref 164), (28, .ref 163), (26, .ref 162), (25, .ref 161), (24, .ref 160), (19, .ref 159), (18, .ref 158), (17, .ref 157), (16, .ref 156), (13, .ref 155), (12, .ref 154), (11, .ref 153), (9, .ref 152), (8, .ref 151), (7, .ref 150), (5, .ref 149), (4, .ref 148), (3, .ref 147), (2, .ref 146), (1, .ref 145), (0, .ref 144), (6, .int (0 : Int32)), (14, .int (0 : Int32)), (15, .int (0 : Int32)), (20, .int (0 : Int32)), (21, .int (0 : Int32)), (22, .int (0 : Int32)), (23, .int (0 : Int32)), (27, .int (0 : Int32)), (32, .int (0 : Int32))], none) (pc' := 20) (L' := [(0, .ref 143), (1, .int (32 : Int32))]) h_m234 (z_at.mk 3 rfl rfl) rfl (by decide) rfl (Or.inl rfl) rfl rfl rfl ?_
  clear H m; intro m H
  refine w_rv h_m234 (z_at.mk 1 rfl rfl) rfl ?_
  show z_W 998 235 19 [(0, .ref 143), (1, .ref 18), (2, .int (3 : Int32))] [] m _
  refine w_p h_m235 4 (pc' := 4) (L' := [(0, .ref 143), (1, .ref 18), (2, .int (4 : Int32))]) (st' := [.ref 18, .int (4 : Int32)]) rfl ?_
  refine w_cv (H.te (by decide) rfl).1 (pc' := 7) (L' := [(0, .ref 143), (1, .ref 18), (2, .int (4 : Int32))]) (rest := [.int (4 : Int32)]) (Ps := []) (L0 := [(0, .ref 18)]) h_m235 (z_at.mk 3 rfl rfl) (Or.inl ⟨rfl, rfl⟩) rfl rfl (by decide) (by decide) rfl rfl rfl rfl rfl rfl (by decide) rfl rfl rfl ?_
  refine w_p h_m293 1 (pc' := 1) (L' := [(0, .ref 18)]) (st' := [.ref 18]) rfl ?_
  refine w_gs H (pc' := 4) (L' := [(0, .ref 18)]) h_m293 (z_at.mk 3 rfl rfl) rfl (by decide) rfl rfl rfl rfl ?_
  refine w_lene H (x := (4 : Int32)) (pc' := 5) (L' := [(0, .ref 18)]) h_m293 (z_at.mk 1 rfl rfl) (by decide) rfl (by decide) rfl rfl rfl ?_
  refine w_p h_m293 1 (pc' := 6) (L' := [(0, .ref 18)]) (st' := [.ref 18, .int (4 : Int32)]) rfl ?_
  refine w_cv (H.te (by decide) rfl).1 (pc' := 9) (L' := [(0, .ref 18)]) (rest := [.int (4 : Int32)]) (Ps := []) (L0 := [(0, .ref 18)]) h_m293 (z_at.mk 3 rfl rfl) (Or.inl ⟨rfl, rfl⟩) rfl rfl (by decide) (by decide) rfl rfl rfl rfl rfl rfl (by decide) rfl rfl rfl ?_
  refine w_p h_m298 3 (pc' := 7) (L' := [(0, .ref 18)]) (st' := [.ref 18]) rfl ?_
  refine w_gs H (pc' := 10) (L' := [(0, .ref 18)]) h_m298 (z_at.mk 3 rfl rfl) rfl (by decide) rfl rfl rfl rfl ?_
  refine w_p h_m298 1 (pc' := 14) (L' := []) (st' := [.int (0 : Int32)]) rfl ?_
  refine w_ri h_m298 (z_at.mk 1 rfl rfl) rfl rfl ?_
  show z_W 997 293 9 [(0, .ref 18)] [.int (0 : Int32), .int (4 : Int32)] m _
  refine w_p h_m293 1 (pc' := 10) (L' := [(0, .ref 18)]) (st' := [.int (4 : Int32)]) rfl ?_
  refine w_ri h_m293 (z_at.mk 1 rfl rfl) rfl rfl ?_
  show z_W 998 235 7 [(0, .ref 143), (1, .ref 18), (2, .int (4 : Int32))] [.int (4 : Int32), .int (4 : Int32)] m _
  refine w_p h_m235 1 (pc' := 25) (L' := [(0, .ref 143), (1, .ref 18), (2, .int (4 : Int32))]) (st' := []) rfl ?_
  refine w_rv h_m235 (z_at.mk 1 rfl rfl) rfl ?_
  show z_W 999 239 238 [(0, .ref 143), (5, .int (10 : Int32)), (6, .int (1 : Int32))] [] m _
  refine w_p h_m239 2 (pc' := 241) (L' := [(0, .ref 143), (5, .int (10 : Int32)), (6, .int (1 : Int32))]) (st' := [.int (10 : Int32), .ref 143]) rfl ?_
  refine w_cv (H.t rfl) (pc' := 244) (L' := [(0, .ref 143), (5, .int (10 : Int32)), (6, .int (1 : Int32))]) (rest := []) (Ps := [.int (10 : Int32)]) (L0 := [(0, .ref 143), (1, .int (10 : Int32))]) h_m239 (z_at.mk 3 rfl rfl) (Or.inl ⟨rfl, rfl⟩) rfl rfl (by decide) (by decide) rfl rfl rfl rfl rfl rfl (by decide) rfl rfl rfl ?_
  refine w_p h_m236 7 (pc' := 11) (L' := [(0, .ref 143), (1, .int (10 : Int32))]) (st' := [.int (1 : Int32), .ref 143]) rfl ?_
  refine w_cv (H.t rfl) (pc' := 14) (L' := [(0, .ref 143), (1, .int (10 : Int32))]) (rest := []) (Ps := [.int (1 : Int32)]) (L0 := [(0, .ref 143), (1, .int (1 : Int32))]) h_m236 (z_at.mk 3 rfl rfl) (Or.inl ⟨rfl, rfl⟩) rfl rfl (by decide) (by decide) rfl rfl rfl rfl rfl rfl (by decide) rfl rfl rfl ?_
  refine w_p h_m236 9 (pc' := 22) (L' := [(0, .ref 143), (1, .int (1 : Int32))]) (st' := [.int (49 : Int32), .ref 143]) rfl ?_
  refine w_cv (H.t rfl) (pc' := 25) (L' := [(0, .ref 143), (1, .int (1 : Int32))]) (rest := []) (Ps := [.int (49 : Int32)]) (L0 := [(0, .ref 143), (1, .int (49 : Int32))]) h_m236 (z_at.mk 3 rfl rfl) (Or.inl ⟨rfl, rfl⟩) rfl rfl (by decide) (by decide) rfl rfl rfl rfl rfl rfl (by decide) rfl rfl rfl ?_
  refine w_p h_m234 1 (pc' := 1) (L' := [(0, .ref 143), (1, .int (49 : Int32))]) (st' := [.ref 143]) rfl ?_
  refine w_gf H (pc' := 4) (L' := [(0, .ref 143), (1, .int (49 : Int32))]) h_m234 (z_at.mk 3 rfl rfl) rfl (u := .ref 163) rfl rfl rfl ?_
  refine w_p h_m234 1 (pc' := 5) (L' := [(0, .ref 143), (1, .int (49 : Int32))]) (st' := [.ref 143, .ref 163]) rfl ?_
  refine w_gf H (pc' := 8) (L' := [(0, .ref 143), (1, .int (49 : Int32))]) h_m234 (z_at.mk 3 rfl rfl) rfl (u := .int (22 : Int32)) rfl rfl rfl ?_
  refine w_p h_m234 1 (pc' := 9) (L' := [(0, .ref 143), (1, .int (49 : Int32))]) (st' := [.int (49 : Int32), .int (22 : Int32), .ref 163]) rfl ?_
  refine w_as H (t := 0) (j := 22) (u := .int (49 : Int32)) (0, 40000, [(22, .int (49 : Int32)), (21, .int (32 : Int32)), (20, .int (121 : Int32)), (19, .int (97 : Int32)), (18, .int (112 : Int32)), (17, .int (59 : Int32)), (16, .int (48 : Int32)), (15, .int (49 : Int32)), (14, .int (32 : Int32)), (13, .int ((48 : Int32) + ((xs 4) - (xs 4) / (10 : Int32) * (10 : Int32)))), (12, .int ((48 : Int32) + (((xs 4) / (10 : Int32)) - ((xs 4) / (10 : Int32)) / (10 : Int32) * (10 : Int32)))), (11, .int (45 : Int32)), (10, .int ((48 : Int32) + ((xs 3) - (xs 3) / (10 : Int32) * (10 : Int32)))), (9, .int ((48 : Int32) + (((xs 3) / (10 : Int32)) - ((xs 3) / (10 : Int32)) / (10 : Int32) * (10 : Int32)))), (8, .int (44 : Int32)), (7, .int ((48 : Int32) + ((xs 2) - (xs 2) / (10 : Int32) * (10 : Int32)))), (6, .int ((48 : Int32) + (((xs 2) / (10 : Int32)) - ((xs 2) / (10 : Int32)) / (10 : Int32) * (10 : Int32)))), (5, .int (45 : Int32)), (4, .int ((48 : Int32) + ((xs 1) - (xs 1) / (10 : Int32) * (10 : Int32)))), (3, .int (32 : Int32)), (2, .int (107 : Int32)), (1, .int (115 : Int32)), (0, .int (97 : Int32))], some (.int (0 : Int32))) (pc' := 10) (L' := [(0, .ref 143), (1, .int (49 : Int32))]) h_m234 (z_at.mk 1 rfl rfl) rfl rfl (w_ui _ _ (by decide)) rfl rfl rfl rfl ?_
  clear H m; intro m H
  refine w_p h_m234 2 (pc' := 12) (L' := [(0, .ref 143), (1, .int (49 : Int32))]) (st' := [.ref 143, .ref 143]) rfl ?_
  refine w_gf H (pc' := 15) (L' := [(0, .ref 143), (1, .int (49 : Int32))]) h_m234 (z_at.mk 3 rfl rfl) rfl (u := .int (22 : Int32)) rfl rfl rfl ?_
  refine w_p h_m234 2 (pc' := 17) (L' := [(0, .ref 143), (1, .int (49 : Int32))]) (st' := [.int (23 : Int32), .ref 143]) rfl ?_
  refine w_pf H (22, 35, [(29, .int (23 : Int32)), (10, .int (1 : Int32)), (34, .ref 167), (33, .ref 166), (31, .ref 165), (30, .ref 164), (28, .ref 163), (26, .ref 162), (25, .ref 161), (24, .ref 160), (19, .ref 159), (18, .ref 158), (17, .ref 157), (16, .ref 156), (13, .ref 155), (12, .ref 154), (11, .ref 153), (9, .ref 152), (8, .ref 151), (7, .ref 150), (5, .ref 149), (4, .ref 148), (3, .ref 147), (2, .ref 146), (1, .ref 145), (0, .ref 144), (6, .int (0 : Int32)), (14, .int (0 : Int32)), (15, .int (0 : Int32)), (20, .int (0 : Int32)), (21, .int (0 : Int32)), (22, .int (0 : Int32)), (23, .int (0 : Int32)), (27, .int (0 : Int32)), (32, .int (0 : Int32))], none) (pc' := 20) (L' := [(0, .ref 143), (1, .int (49 : Int32))]) h_m234 (z_at.mk 3 rfl rfl) rfl (by decide) rfl (Or.inl rfl) rfl rfl rfl ?_
  clear H m; intro m H
  refine w_rv h_m234 (z_at.mk 1 rfl rfl) rfl ?_
  show z_W 997 236 25 [(0, .ref 143), (1, .int (1 : Int32))] [] m _
  refine w_rv h_m236 (z_at.mk 1 rfl rfl) rfl ?_
  show z_W 998 236 14 [(0, .ref 143), (1, .int (10 : Int32))] [] m _
  refine w_p h_m236 6 (pc' := 22) (L' := [(0, .ref 143), (1, .int (10 : Int32))]) (st' := [.int (48 : Int32), .ref 143]) rfl ?_
  refine w_cv (H.t rfl) (pc' := 25) (L' := [(0, .ref 143), (1, .int (10 : Int32))]) (rest := []) (Ps := [.int (48 : Int32)]) (L0 := [(0, .ref 143), (1, .int (48 : Int32))]) h_m236 (z_at.mk 3 rfl rfl) (Or.inl ⟨rfl, rfl⟩) rfl rfl (by decide) (by decide) rfl rfl rfl rfl rfl rfl (by decide) rfl rfl rfl ?_
  refine w_p h_m234 1 (pc' := 1) (L' := [(0, .ref 143), (1, .int (48 : Int32))]) (st' := [.ref 143]) rfl ?_
  refine w_gf H (pc' := 4) (L' := [(0, .ref 143), (1, .int (48 : Int32))]) h_m234 (z_at.mk 3 rfl rfl) rfl (u := .ref 163) rfl rfl rfl ?_
  refine w_p h_m234 1 (pc' := 5) (L' := [(0, .ref 143), (1, .int (48 : Int32))]) (st' := [.ref 143, .ref 163]) rfl ?_
  refine w_gf H (pc' := 8) (L' := [(0, .ref 143), (1, .int (48 : Int32))]) h_m234 (z_at.mk 3 rfl rfl) rfl (u := .int (23 : Int32)) rfl rfl rfl ?_
  refine w_p h_m234 1 (pc' := 9) (L' := [(0, .ref 143), (1, .int (48 : Int32))]) (st' := [.int (48 : Int32), .int (23 : Int32), .ref 163]) rfl ?_
  refine w_as H (t := 0) (j := 23) (u := .int (48 : Int32)) (0, 40000, [(23, .int (48 : Int32)), (22, .int (49 : Int32)), (21, .int (32 : Int32)), (20, .int (121 : Int32)), (19, .int (97 : Int32)), (18, .int (112 : Int32)), (17, .int (59 : Int32)), (16, .int (48 : Int32)), (15, .int (49 : Int32)), (14, .int (32 : Int32)), (13, .int ((48 : Int32) + ((xs 4) - (xs 4) / (10 : Int32) * (10 : Int32)))), (12, .int ((48 : Int32) + (((xs 4) / (10 : Int32)) - ((xs 4) / (10 : Int32)) / (10 : Int32) * (10 : Int32)))), (11, .int (45 : Int32)), (10, .int ((48 : Int32) + ((xs 3) - (xs 3) / (10 : Int32) * (10 : Int32)))), (9, .int ((48 : Int32) + (((xs 3) / (10 : Int32)) - ((xs 3) / (10 : Int32)) / (10 : Int32) * (10 : Int32)))), (8, .int (44 : Int32)), (7, .int ((48 : Int32) + ((xs 2) - (xs 2) / (10 : Int32) * (10 : Int32)))), (6, .int ((48 : Int32) + (((xs 2) / (10 : Int32)) - ((xs 2) / (10 : Int32)) / (10 : Int32) * (10 : Int32)))), (5, .int (45 : Int32)), (4, .int ((48 : Int32) + ((xs 1) - (xs 1) / (10 : Int32) * (10 : Int32)))), (3, .int (32 : Int32)), (2, .int (107 : Int32)), (1, .int (115 : Int32)), (0, .int (97 : Int32))], some (.int (0 : Int32))) (pc' := 10) (L' := [(0, .ref 143), (1, .int (48 : Int32))]) h_m234 (z_at.mk 1 rfl rfl) rfl rfl (w_ui _ _ (by decide)) rfl rfl rfl rfl ?_
  clear H m; intro m H
  refine w_p h_m234 2 (pc' := 12) (L' := [(0, .ref 143), (1, .int (48 : Int32))]) (st' := [.ref 143, .ref 143]) rfl ?_
  refine w_gf H (pc' := 15) (L' := [(0, .ref 143), (1, .int (48 : Int32))]) h_m234 (z_at.mk 3 rfl rfl) rfl (u := .int (23 : Int32)) rfl rfl rfl ?_
  refine w_p h_m234 2 (pc' := 17) (L' := [(0, .ref 143), (1, .int (48 : Int32))]) (st' := [.int (24 : Int32), .ref 143]) rfl ?_
  refine w_pf H (22, 35, [(29, .int (24 : Int32)), (10, .int (1 : Int32)), (34, .ref 167), (33, .ref 166), (31, .ref 165), (30, .ref 164), (28, .ref 163), (26, .ref 162), (25, .ref 161), (24, .ref 160), (19, .ref 159), (18, .ref 158), (17, .ref 157), (16, .ref 156), (13, .ref 155), (12, .ref 154), (11, .ref 153), (9, .ref 152), (8, .ref 151), (7, .ref 150), (5, .ref 149), (4, .ref 148), (3, .ref 147), (2, .ref 146), (1, .ref 145), (0, .ref 144), (6, .int (0 : Int32)), (14, .int (0 : Int32)), (15, .int (0 : Int32)), (20, .int (0 : Int32)), (21, .int (0 : Int32)), (22, .int (0 : Int32)), (23, .int (0 : Int32)), (27, .int (0 : Int32)), (32, .int (0 : Int32))], none) (pc' := 20) (L' := [(0, .ref 143), (1, .int (48 : Int32))]) h_m234 (z_at.mk 3 rfl rfl) rfl (by decide) rfl (Or.inl rfl) rfl rfl rfl ?_
  clear H m; intro m H
  refine w_rv h_m234 (z_at.mk 1 rfl rfl) rfl ?_
  show z_W 998 236 25 [(0, .ref 143), (1, .int (10 : Int32))] [] m _
  refine w_rv h_m236 (z_at.mk 1 rfl rfl) rfl ?_
  show z_W 999 239 244 [(0, .ref 143), (5, .int (10 : Int32)), (6, .int (1 : Int32))] [] m _
  refine w_p h_m239 1 (pc' := 245) (L' := [(0, .ref 143), (5, .int (10 : Int32)), (6, .int (1 : Int32))]) (st' := [.ref 143]) rfl ?_
  refine w_gf H (pc' := 248) (L' := [(0, .ref 143), (5, .int (10 : Int32)), (6, .int (1 : Int32))]) h_m239 (z_at.mk 3 rfl rfl) rfl (u := .int (24 : Int32)) rfl rfl rfl ?_
  refine w_ri h_m239 (z_at.mk 1 rfl rfl) rfl rfl ?_
  show z_W 1000 1000 542 [(0, .ref 0), (1, .ref 39), (2, .ref 143), (3, .int (0 : Int32))] [.int (24 : Int32), .int (24 : Int32)] m _
  refine w_p h_m1000 5 (pc' := 20) (L' := [(0, .ref 0), (1, .ref 39), (2, .ref 143), (3, .int (6 : Int32))]) (st' := [.ref 0, .int (6 : Int32)]) rfl ?_
  refine w_lene H (x := (6 : Int32)) (pc' := 21) (L' := [(0, .ref 0), (1, .ref 39), (2, .ref 143), (3, .int (6 : Int32))]) h_m1000 (z_at.mk 1 rfl rfl) (by decide) rfl (by decide) rfl rfl rfl ?_
  refine w_p h_m1000 4 (pc' := 1381) (L' := [(0, .ref 0), (1, .ref 39), (2, .ref 143), (3, .int (6 : Int32))]) (st' := [.int (1 : Int32)]) rfl ?_
  refine w_ri h_m1000 (z_at.mk 1 rfl rfl) rfl rfl ?_
  exact hQ _ _ _ _ H hN hS
set_option maxHeartbeats 400000000 in
set_option maxRecDepth 20000 in
theorem w_rest12_4 {xs : Nat → Int32} {m : zM} {Q : Option Value → zM → Prop} {N S : Nat} (H : w_ok 6 xs N S w_TM m) (hN : N ≤ 600039) (hS : S ≤ 7302250) (hQ : ∀ N S T m, w_ok 6 xs N S T m → N ≤ 600039 → S ≤ 7302250 → Q (some (.int 1)) m) (c_1 : ¬ ((xs 1).toInt < 0)) (c_2 : (xs 1).toInt < 32) (c_3 : ¬ ((xs 3).toInt < 0)) (c_4 : (xs 3).toInt < 32) (c_5 : ¬ ((xs 2).toInt < 0)) (c_6 : (xs 2).toInt < 32) (c_7 : ¬ ((xs 4).toInt < 0)) (c_8 : (xs 4).toInt < 32) (c_9 : (xs 1).toInt ≤ (xs 2).toInt) (c_10 : (xs 3).toInt ≤ (xs 4).toInt) (c_11 : ¬ ((-1) * (xs 1).toInt ≤ (-10))) (c_13 : (-1) * (xs 2).toInt ≤ (-10)) (c_16 : ¬ ((-1) * (xs 3).toInt ≤ (-10))) (c_18 : (-1) * (xs 4).toInt ≤ (-10)) : z_W 1000 1000 518 [(0, .ref 0), (1, .ref 39), (2, .ref 143), (3, .int (0 : Int32))] [.int (23 : Int32)] m Q := by
  have b1 := zi_bd (xs 1)
  have b2 := zi_bd (xs 2)
  have b3 := zi_bd (xs 3)
  have b4 := zi_bd (xs 4)
  have b5 := zi_bd (xs 5)
  refine w_p h_m1000 5 (pc' := 523) (L' := [(0, .ref 0), (1, .ref 39), (2, .ref 143), (3, .int (0 : Int32))]) (st' := [.int (1 : Int32), .ref 0, .ref 143, .int (23 : Int32)]) rfl ?_
  refine w_ae H (j := 1) (pc' := 524) (L' := [(0, .ref 0), (1, .ref 39), (2, .ref 143), (3, .int (0 : Int32))]) h_m1000 (z_at.mk 1 rfl rfl) rfl rfl rfl (by decide) rfl (by decide) rfl rfl rfl ?_
  refine w_p h_m1000 4 (pc' := 528) (L' := [(0, .ref 0), (1, .ref 39), (2, .ref 143), (3, .int (0 : Int32))]) (st' := [.int (2 : Int32), .ref 0, .int (xs 1), .ref 143, .int (23 : Int32)]) rfl ?_
  refine w_ae H (j := 2) (pc' := 529) (L' := [(0, .ref 0), (1, .ref 39), (2, .ref 143), (3, .int (0 : Int32))]) h_m1000 (z_at.mk 1 rfl rfl) rfl rfl rfl (by decide) rfl (by decide) rfl rfl rfl ?_
  refine w_p h_m1000 4 (pc' := 533) (L' := [(0, .ref 0), (1, .ref 39), (2, .ref 143), (3, .int (0 : Int32))]) (st' := [.int (3 : Int32), .ref 0, .int (xs 2), .int (xs 1), .ref 143, .int (23 : Int32)]) rfl ?_
  refine w_ae H (j := 3) (pc' := 534) (L' := [(0, .ref 0), (1, .ref 39), (2, .ref 143), (3, .int (0 : Int32))]) h_m1000 (z_at.mk 1 rfl rfl) rfl rfl rfl (by decide) rfl (by decide) rfl rfl rfl ?_
  refine w_p h_m1000 4 (pc' := 538) (L' := [(0, .ref 0), (1, .ref 39), (2, .ref 143), (3, .int (0 : Int32))]) (st' := [.int (4 : Int32), .ref 0, .int (xs 3), .int (xs 2), .int (xs 1), .ref 143, .int (23 : Int32)]) rfl ?_
  refine w_ae H (j := 4) (pc' := 539) (L' := [(0, .ref 0), (1, .ref 39), (2, .ref 143), (3, .int (0 : Int32))]) h_m1000 (z_at.mk 1 rfl rfl) rfl rfl rfl (by decide) rfl (by decide) rfl rfl rfl ?_
  refine w_cv (H.t rfl) (pc' := 542) (L' := [(0, .ref 0), (1, .ref 39), (2, .ref 143), (3, .int (0 : Int32))]) (rest := [.int (23 : Int32)]) (Ps := [.int (xs 1), .int (xs 2), .int (xs 3), .int (xs 4)]) (L0 := [(0, .ref 143), (1, .int (xs 1)), (2, .int (xs 2)), (3, .int (xs 3)), (4, .int (xs 4))]) h_m1000 (z_at.mk 3 rfl rfl) (Or.inl ⟨rfl, rfl⟩) rfl rfl (by decide) (by decide) rfl rfl rfl rfl rfl rfl (by decide) rfl rfl rfl ?_
  refine w_p h_m239 4 (pc' := 5) (L' := [(0, .ref 143), (1, .int (xs 1)), (2, .int (xs 2)), (3, .int (xs 3)), (4, .int (xs 4))]) (st' := [.int (xs 4), .int (xs 3), .int (xs 2), .int (xs 1)]) rfl ?_
  refine w_cs (As := [.int (xs 1), .int (xs 2), .int (xs 3), .int (xs 4)]) (rest := []) (j := 164) (L0 := [(0, .int (xs 1)), (1, .int (xs 2)), (2, .int (xs 3)), (3, .int (xs 4))]) (pc' := 8) (L' := [(0, .ref 143), (1, .int (xs 1)), (2, .int (xs 2)), (3, .int (xs 3)), (4, .int (xs 4))]) h_m239 (z_at.mk 3 rfl rfl) (Or.inl ⟨rfl, rfl⟩) rfl rfl rfl rfl rfl ?_
  refine w_p h_m164 3 (pc' := 4) (L' := [(0, .int (xs 1)), (1, .int (xs 2)), (2, .int (xs 3)), (3, .int (xs 4))]) (st' := [.int (31 : Int32), .int (0 : Int32), .int (xs 1)]) rfl ?_
  refine w_cs (As := [.int (xs 1), .int (0 : Int32), .int (31 : Int32)]) (rest := []) (j := 159) (L0 := [(0, .int (xs 1)), (1, .int (0 : Int32)), (2, .int (31 : Int32))]) (pc' := 7) (L' := [(0, .int (xs 1)), (1, .int (xs 2)), (2, .int (xs 3)), (3, .int (xs 4))]) h_m164 (z_at.mk 3 rfl rfl) (Or.inl ⟨rfl, rfl⟩) rfl rfl rfl rfl rfl ?_
  refine w_p h_m159 2 (pc' := 2) (L' := [(0, .int (xs 1)), (1, .int (0 : Int32)), (2, .int (31 : Int32))]) (st' := [.int (0 : Int32), .int (xs 1)]) rfl ?_
  refine w_f2 (pc' := 5) (L' := [(0, .int (xs 1)), (1, .int (0 : Int32)), (2, .int (31 : Int32))]) h_m159 (z_at.mk 3 rfl rfl) rfl (zc (a := (xs 1).toInt) (b := 0) rfl rfl (decide_eq_false (by omega))) rfl rfl ?_
  refine w_p h_m159 2 (pc' := 7) (L' := [(0, .int (xs 1)), (1, .int (0 : Int32)), (2, .int (31 : Int32))]) (st' := [.int (31 : Int32), .int (xs 1)]) rfl ?_
  refine w_f2 (pc' := 10) (L' := [(0, .int (xs 1)), (1, .int (0 : Int32)), (2, .int (31 : Int32))]) h_m159 (z_at.mk 3 rfl rfl) rfl (zc (a := (xs 1).toInt) (b := 31) rfl rfl (decide_eq_false (by omega))) rfl rfl ?_
  refine w_p h_m159 2 (pc' := 15) (L' := []) (st' := [.int (1 : Int32)]) rfl ?_
  refine w_ri h_m159 (z_at.mk 1 rfl rfl) rfl rfl ?_
  show z_W 998 164 7 [(0, .int (xs 1)), (1, .int (xs 2)), (2, .int (xs 3)), (3, .int (xs 4))] [.int (1 : Int32)] m _
  refine w_p h_m164 4 (pc' := 14) (L' := [(0, .int (xs 1)), (1, .int (xs 2)), (2, .int (xs 3)), (3, .int (xs 4))]) (st' := [.int (31 : Int32), .int (xs 1), .int (xs 2)]) rfl ?_
  refine w_cs (As := [.int (xs 2), .int (xs 1), .int (31 : Int32)]) (rest := []) (j := 159) (L0 := [(0, .int (xs 2)), (1, .int (xs 1)), (2, .int (31 : Int32))]) (pc' := 17) (L' := [(0, .int (xs 1)), (1, .int (xs 2)), (2, .int (xs 3)), (3, .int (xs 4))]) h_m164 (z_at.mk 3 rfl rfl) (Or.inl ⟨rfl, rfl⟩) rfl rfl rfl rfl rfl ?_
  refine w_p h_m159 2 (pc' := 2) (L' := [(0, .int (xs 2)), (1, .int (xs 1)), (2, .int (31 : Int32))]) (st' := [.int (xs 1), .int (xs 2)]) rfl ?_
  refine w_f2 (pc' := 5) (L' := [(0, .int (xs 2)), (1, .int (xs 1)), (2, .int (31 : Int32))]) h_m159 (z_at.mk 3 rfl rfl) rfl (zc (a := (xs 2).toInt) (b := (xs 1).toInt) rfl rfl (decide_eq_false (by omega))) rfl rfl ?_
  refine w_p h_m159 2 (pc' := 7) (L' := [(0, .int (xs 2)), (1, .int (xs 1)), (2, .int (31 : Int32))]) (st' := [.int (31 : Int32), .int (xs 2)]) rfl ?_
  refine w_f2 (pc' := 10) (L' := [(0, .int (xs 2)), (1, .int (xs 1)), (2, .int (31 : Int32))]) h_m159 (z_at.mk 3 rfl rfl) rfl (zc (a := (xs 2).toInt) (b := 31) rfl rfl (decide_eq_false (by omega))) rfl rfl ?_
  refine w_p h_m159 2 (pc' := 15) (L' := []) (st' := [.int (1 : Int32)]) rfl ?_
  refine w_ri h_m159 (z_at.mk 1 rfl rfl) rfl rfl ?_
  show z_W 998 164 17 [(0, .int (xs 1)), (1, .int (xs 2)), (2, .int (xs 3)), (3, .int (xs 4))] [.int (1 : Int32)] m _
  refine w_p h_m164 4 (pc' := 24) (L' := [(0, .int (xs 1)), (1, .int (xs 2)), (2, .int (xs 3)), (3, .int (xs 4))]) (st' := [.int (31 : Int32), .int (0 : Int32), .int (xs 3)]) rfl ?_
  refine w_cs (As := [.int (xs 3), .int (0 : Int32), .int (31 : Int32)]) (rest := []) (j := 159) (L0 := [(0, .int (xs 3)), (1, .int (0 : Int32)), (2, .int (31 : Int32))]) (pc' := 27) (L' := [(0, .int (xs 1)), (1, .int (xs 2)), (2, .int (xs 3)), (3, .int (xs 4))]) h_m164 (z_at.mk 3 rfl rfl) (Or.inl ⟨rfl, rfl⟩) rfl rfl rfl rfl rfl ?_
  refine w_p h_m159 2 (pc' := 2) (L' := [(0, .int (xs 3)), (1, .int (0 : Int32)), (2, .int (31 : Int32))]) (st' := [.int (0 : Int32), .int (xs 3)]) rfl ?_
  refine w_f2 (pc' := 5) (L' := [(0, .int (xs 3)), (1, .int (0 : Int32)), (2, .int (31 : Int32))]) h_m159 (z_at.mk 3 rfl rfl) rfl (zc (a := (xs 3).toInt) (b := 0) rfl rfl (decide_eq_false (by omega))) rfl rfl ?_
  refine w_p h_m159 2 (pc' := 7) (L' := [(0, .int (xs 3)), (1, .int (0 : Int32)), (2, .int (31 : Int32))]) (st' := [.int (31 : Int32), .int (xs 3)]) rfl ?_
  refine w_f2 (pc' := 10) (L' := [(0, .int (xs 3)), (1, .int (0 : Int32)), (2, .int (31 : Int32))]) h_m159 (z_at.mk 3 rfl rfl) rfl (zc (a := (xs 3).toInt) (b := 31) rfl rfl (decide_eq_false (by omega))) rfl rfl ?_
  refine w_p h_m159 2 (pc' := 15) (L' := []) (st' := [.int (1 : Int32)]) rfl ?_
  refine w_ri h_m159 (z_at.mk 1 rfl rfl) rfl rfl ?_
  show z_W 998 164 27 [(0, .int (xs 1)), (1, .int (xs 2)), (2, .int (xs 3)), (3, .int (xs 4))] [.int (1 : Int32)] m _
  refine w_p h_m164 4 (pc' := 34) (L' := [(0, .int (xs 1)), (1, .int (xs 2)), (2, .int (xs 3)), (3, .int (xs 4))]) (st' := [.int (31 : Int32), .int (xs 3), .int (xs 4)]) rfl ?_
  refine w_cs (As := [.int (xs 4), .int (xs 3), .int (31 : Int32)]) (rest := []) (j := 159) (L0 := [(0, .int (xs 4)), (1, .int (xs 3)), (2, .int (31 : Int32))]) (pc' := 37) (L' := [(0, .int (xs 1)), (1, .int (xs 2)), (2, .int (xs 3)), (3, .int (xs 4))]) h_m164 (z_at.mk 3 rfl rfl) (Or.inl ⟨rfl, rfl⟩) rfl rfl rfl rfl rfl ?_
  refine w_p h_m159 2 (pc' := 2) (L' := [(0, .int (xs 4)), (1, .int (xs 3)), (2, .int (31 : Int32))]) (st' := [.int (xs 3), .int (xs 4)]) rfl ?_
  refine w_f2 (pc' := 5) (L' := [(0, .int (xs 4)), (1, .int (xs 3)), (2, .int (31 : Int32))]) h_m159 (z_at.mk 3 rfl rfl) rfl (zc (a := (xs 4).toInt) (b := (xs 3).toInt) rfl rfl (decide_eq_false (by omega))) rfl rfl ?_
  refine w_p h_m159 2 (pc' := 7) (L' := [(0, .int (xs 4)), (1, .int (xs 3)), (2, .int (31 : Int32))]) (st' := [.int (31 : Int32), .int (xs 4)]) rfl ?_
  refine w_f2 (pc' := 10) (L' := [(0, .int (xs 4)), (1, .int (xs 3)), (2, .int (31 : Int32))]) h_m159 (z_at.mk 3 rfl rfl) rfl (zc (a := (xs 4).toInt) (b := 31) rfl rfl (decide_eq_false (by omega))) rfl rfl ?_
  refine w_p h_m159 2 (pc' := 15) (L' := []) (st' := [.int (1 : Int32)]) rfl ?_
  refine w_ri h_m159 (z_at.mk 1 rfl rfl) rfl rfl ?_
  show z_W 998 164 37 [(0, .int (xs 1)), (1, .int (xs 2)), (2, .int (xs 3)), (3, .int (xs 4))] [.int (1 : Int32)] m _
  refine w_p h_m164 3 (pc' := 45) (L' := []) (st' := [.int (1 : Int32)]) rfl ?_
  refine w_ri h_m164 (z_at.mk 1 rfl rfl) rfl rfl ?_
  show z_W 999 239 8 [(0, .ref 143), (1, .int (xs 1)), (2, .int (xs 2)), (3, .int (xs 3)), (4, .int (xs 4))] [.int (1 : Int32)] m _
  refine w_p h_m239 2 (pc' := 15) (L' := [(0, .ref 143), (1, .int (xs 1)), (2, .int (xs 2)), (3, .int (xs 3)), (4, .int (xs 4))]) (st' := [.ref 143]) rfl ?_
  refine w_gf H (pc' := 18) (L' := [(0, .ref 143), (1, .int (xs 1)), (2, .int (xs 2)), (3, .int (xs 3)), (4, .int (xs 4))]) h_m239 (z_at.mk 3 rfl rfl) rfl (u := .ref 152) rfl rfl rfl ?_
  refine w_p h_m239 5 (pc' := 24) (L' := [(0, .ref 143), (1, .int (xs 1)), (2, .int (xs 2)), (3, .int (xs 3)), (4, .int (xs 4))]) (st' := [.int (xs 4), .int (xs 3), .int (xs 2), .int (xs 1), .int (0 : Int32), .ref 152]) rfl ?_
  refine w_cs (As := [.ref 152, .int (0 : Int32), .int (xs 1), .int (xs 2), .int (xs 3), .int (xs 4)]) (rest := []) (j := 165) (L0 := [(0, .ref 152), (1, .int (0 : Int32)), (2, .int (xs 1)), (3, .int (xs 2)), (4, .int (xs 3)), (5, .int (xs 4))]) (pc' := 27) (L' := [(0, .ref 143), (1, .int (xs 1)), (2, .int (xs 2)), (3, .int (xs 3)), (4, .int (xs 4))]) h_m239 (z_at.mk 3 rfl rfl) (Or.inl ⟨rfl, rfl⟩) rfl rfl rfl rfl rfl ?_
  refine w_p h_m165 3 (pc' := 3) (L' := [(0, .ref 152), (1, .int (0 : Int32)), (2, .int (xs 1)), (3, .int (xs 2)), (4, .int (xs 3)), (5, .int (xs 4))]) (st' := [.int (xs 1), .int (0 : Int32), .ref 152]) rfl ?_
  refine w_as H (t := 0) (j := 0) (u := .int (xs 1)) (0, 4, [(0, .int (xs 1))], some (.int (0 : Int32))) (pc' := 4) (L' := [(0, .ref 152), (1, .int (0 : Int32)), (2, .int (xs 1)), (3, .int (xs 2)), (4, .int (xs 3)), (5, .int (xs 4))]) h_m165 (z_at.mk 1 rfl rfl) rfl rfl (w_ui _ _ (by decide)) rfl rfl rfl rfl ?_
  clear H m; intro m H
  refine w_p h_m165 5 (pc' := 9) (L' := [(0, .ref 152), (1, .int (0 : Int32)), (2, .int (xs 1)), (3, .int (xs 2)), (4, .int (xs 3)), (5, .int (xs 4))]) (st' := [.int (xs 2), .int (1 : Int32), .ref 152]) rfl ?_
  refine w_as H (t := 0) (j := 1) (u := .int (xs 2)) (0, 4, [(1, .int (xs 2)), (0, .int (xs 1))], some (.int (0 : Int32))) (pc' := 10) (L' := [(0, .ref 152), (1, .int (0 : Int32)), (2, .int (xs 1)), (3, .int (xs 2)), (4, .int (xs 3)), (5, .int (xs 4))]) h_m165 (z_at.mk 1 rfl rfl) rfl rfl (w_ui _ _ (by decide)) rfl rfl rfl rfl ?_
  clear H m; intro m H
  refine w_p h_m165 5 (pc' := 16) (L' := [(0, .ref 152), (1, .int (0 : Int32)), (2, .int (xs 1)), (3, .int (xs 2)), (4, .int (xs 3)), (5, .int (xs 4))]) (st' := [.int (xs 3), .int (2 : Int32), .ref 152]) rfl ?_
  refine w_as H (t := 0) (j := 2) (u := .int (xs 3)) (0, 4, [(2, .int (xs 3)), (1, .int (xs 2)), (0, .int (xs 1))], some (.int (0 : Int32))) (pc' := 17) (L' := [(0, .ref 152), (1, .int (0 : Int32)), (2, .int (xs 1)), (3, .int (xs 2)), (4, .int (xs 3)), (5, .int (xs 4))]) h_m165 (z_at.mk 1 rfl rfl) rfl rfl (w_ui _ _ (by decide)) rfl rfl rfl rfl ?_
  clear H m; intro m H
  refine w_p h_m165 5 (pc' := 23) (L' := [(0, .ref 152), (1, .int (0 : Int32)), (2, .int (xs 1)), (3, .int (xs 2)), (4, .int (xs 3)), (5, .int (xs 4))]) (st' := [.int (xs 4), .int (3 : Int32), .ref 152]) rfl ?_
  refine w_as H (t := 0) (j := 3) (u := .int (xs 4)) (0, 4, [(3, .int (xs 4)), (2, .int (xs 3)), (1, .int (xs 2)), (0, .int (xs 1))], some (.int (0 : Int32))) (pc' := 24) (L' := [(0, .ref 152), (1, .int (0 : Int32)), (2, .int (xs 1)), (3, .int (xs 2)), (4, .int (xs 3)), (5, .int (xs 4))]) h_m165 (z_at.mk 1 rfl rfl) rfl rfl (w_ui _ _ (by decide)) rfl rfl rfl rfl ?_
  clear H m; intro m H
  refine w_rv h_m165 (z_at.mk 1 rfl rfl) rfl ?_
  show z_W 999 239 27 [(0, .ref 143), (1, .int (xs 1)), (2, .int (xs 2)), (3, .int (xs 3)), (4, .int (xs 4))] [] m _
  refine w_p h_m239 1 (pc' := 28) (L' := [(0, .ref 143), (1, .int (xs 1)), (2, .int (xs 2)), (3, .int (xs 3)), (4, .int (xs 4))]) (st' := [.ref 143]) rfl ?_
  refine w_cv (H.t rfl) (pc' := 31) (L' := [(0, .ref 143), (1, .int (xs 1)), (2, .int (xs 2)), (3, .int (xs 3)), (4, .int (xs 4))]) (rest := []) (Ps := []) (L0 := [(0, .ref 143)]) h_m239 (z_at.mk 3 rfl rfl) (Or.inl ⟨rfl, rfl⟩) rfl rfl (by decide) (by decide) rfl rfl rfl rfl rfl rfl (by decide) rfl rfl rfl ?_
  refine w_p h_m181 1 (pc' := 1) (L' := [(0, .ref 143)]) (st' := [.ref 143]) rfl ?_
  refine w_gf H (pc' := 4) (L' := [(0, .ref 143)]) h_m181 (z_at.mk 3 rfl rfl) rfl (u := .ref 152) rfl rfl rfl ?_
  refine w_p h_m181 2 (pc' := 6) (L' := [(0, .ref 143)]) (st' := [.ref 143, .int (0 : Int32), .ref 152]) rfl ?_
  refine w_gf H (pc' := 9) (L' := [(0, .ref 143)]) h_m181 (z_at.mk 3 rfl rfl) rfl (u := .ref 150) rfl rfl rfl ?_
  refine w_p h_m181 1 (pc' := 10) (L' := [(0, .ref 143)]) (st' := [.int (0 : Int32), .ref 150, .int (0 : Int32), .ref 152]) rfl ?_
  refine w_cs (As := [.ref 152, .int (0 : Int32), .ref 150, .int (0 : Int32)]) (rest := []) (j := 166) (L0 := [(0, .ref 152), (1, .int (0 : Int32)), (2, .ref 150), (3, .int (0 : Int32))]) (pc' := 13) (L' := [(0, .ref 143)]) h_m181 (z_at.mk 3 rfl rfl) (Or.inl ⟨rfl, rfl⟩) rfl rfl rfl rfl rfl ?_
  refine w_p h_m166 4 (pc' := 4) (L' := [(0, .ref 152), (1, .int (0 : Int32)), (2, .ref 150), (3, .int (0 : Int32))]) (st' := [.int (0 : Int32), .ref 152, .int (0 : Int32), .ref 150]) rfl ?_
  refine w_al H (t := 0) (j := 0) (pc' := 5) (L' := [(0, .ref 152), (1, .int (0 : Int32)), (2, .ref 150), (3, .int (0 : Int32))]) h_m166 (z_at.mk 1 rfl rfl) rfl rfl rfl (u := .int (xs 1)) rfl rfl rfl ?_
  refine w_p h_m166 4 (pc' := 9) (L' := [(0, .ref 152), (1, .int (0 : Int32)), (2, .ref 150), (3, .int (0 : Int32))]) (st' := [.int (1 : Int32), .ref 152, .int (xs 1), .int (0 : Int32), .ref 150]) rfl ?_
  refine w_al H (t := 0) (j := 1) (pc' := 10) (L' := [(0, .ref 152), (1, .int (0 : Int32)), (2, .ref 150), (3, .int (0 : Int32))]) h_m166 (z_at.mk 1 rfl rfl) rfl rfl rfl (u := .int (xs 2)) rfl rfl rfl ?_
  refine w_p h_m166 4 (pc' := 14) (L' := [(0, .ref 152), (1, .int (0 : Int32)), (2, .ref 150), (3, .int (0 : Int32))]) (st' := [.int (2 : Int32), .ref 152, .int (xs 2), .int (xs 1), .int (0 : Int32), .ref 150]) rfl ?_
  refine w_al H (t := 0) (j := 2) (pc' := 15) (L' := [(0, .ref 152), (1, .int (0 : Int32)), (2, .ref 150), (3, .int (0 : Int32))]) h_m166 (z_at.mk 1 rfl rfl) rfl rfl rfl (u := .int (xs 3)) rfl rfl rfl ?_
  refine w_p h_m166 4 (pc' := 19) (L' := [(0, .ref 152), (1, .int (0 : Int32)), (2, .ref 150), (3, .int (0 : Int32))]) (st' := [.int (3 : Int32), .ref 152, .int (xs 3), .int (xs 2), .int (xs 1), .int (0 : Int32), .ref 150]) rfl ?_
  refine w_al H (t := 0) (j := 3) (pc' := 20) (L' := [(0, .ref 152), (1, .int (0 : Int32)), (2, .ref 150), (3, .int (0 : Int32))]) h_m166 (z_at.mk 1 rfl rfl) rfl rfl rfl (u := .int (xs 4)) rfl rfl rfl ?_
  refine w_cs (As := [.ref 150, .int (0 : Int32), .int (xs 1), .int (xs 2), .int (xs 3), .int (xs 4)]) (rest := []) (j := 165) (L0 := [(0, .ref 150), (1, .int (0 : Int32)), (2, .int (xs 1)), (3, .int (xs 2)), (4, .int (xs 3)), (5, .int (xs 4))]) (pc' := 23) (L' := [(0, .ref 152), (1, .int (0 : Int32)), (2, .ref 150), (3, .int (0 : Int32))]) h_m166 (z_at.mk 3 rfl rfl) (Or.inl ⟨rfl, rfl⟩) rfl rfl rfl rfl rfl ?_
  refine w_p h_m165 3 (pc' := 3) (L' := [(0, .ref 150), (1, .int (0 : Int32)), (2, .int (xs 1)), (3, .int (xs 2)), (4, .int (xs 3)), (5, .int (xs 4))]) (st' := [.int (xs 1), .int (0 : Int32), .ref 150]) rfl ?_
  refine w_as H (t := 0) (j := 0) (u := .int (xs 1)) (0, 2400, [(0, .int (xs 1))], some (.int (0 : Int32))) (pc' := 4) (L' := [(0, .ref 150), (1, .int (0 : Int32)), (2, .int (xs 1)), (3, .int (xs 2)), (4, .int (xs 3)), (5, .int (xs 4))]) h_m165 (z_at.mk 1 rfl rfl) rfl rfl (w_ui _ _ (by decide)) rfl rfl rfl rfl ?_
  clear H m; intro m H
  refine w_p h_m165 5 (pc' := 9) (L' := [(0, .ref 150), (1, .int (0 : Int32)), (2, .int (xs 1)), (3, .int (xs 2)), (4, .int (xs 3)), (5, .int (xs 4))]) (st' := [.int (xs 2), .int (1 : Int32), .ref 150]) rfl ?_
  refine w_as H (t := 0) (j := 1) (u := .int (xs 2)) (0, 2400, [(1, .int (xs 2)), (0, .int (xs 1))], some (.int (0 : Int32))) (pc' := 10) (L' := [(0, .ref 150), (1, .int (0 : Int32)), (2, .int (xs 1)), (3, .int (xs 2)), (4, .int (xs 3)), (5, .int (xs 4))]) h_m165 (z_at.mk 1 rfl rfl) rfl rfl (w_ui _ _ (by decide)) rfl rfl rfl rfl ?_
  clear H m; intro m H
  refine w_p h_m165 5 (pc' := 16) (L' := [(0, .ref 150), (1, .int (0 : Int32)), (2, .int (xs 1)), (3, .int (xs 2)), (4, .int (xs 3)), (5, .int (xs 4))]) (st' := [.int (xs 3), .int (2 : Int32), .ref 150]) rfl ?_
  refine w_as H (t := 0) (j := 2) (u := .int (xs 3)) (0, 2400, [(2, .int (xs 3)), (1, .int (xs 2)), (0, .int (xs 1))], some (.int (0 : Int32))) (pc' := 17) (L' := [(0, .ref 150), (1, .int (0 : Int32)), (2, .int (xs 1)), (3, .int (xs 2)), (4, .int (xs 3)), (5, .int (xs 4))]) h_m165 (z_at.mk 1 rfl rfl) rfl rfl (w_ui _ _ (by decide)) rfl rfl rfl rfl ?_
  clear H m; intro m H
  refine w_p h_m165 5 (pc' := 23) (L' := [(0, .ref 150), (1, .int (0 : Int32)), (2, .int (xs 1)), (3, .int (xs 2)), (4, .int (xs 3)), (5, .int (xs 4))]) (st' := [.int (xs 4), .int (3 : Int32), .ref 150]) rfl ?_
  refine w_as H (t := 0) (j := 3) (u := .int (xs 4)) (0, 2400, [(3, .int (xs 4)), (2, .int (xs 3)), (1, .int (xs 2)), (0, .int (xs 1))], some (.int (0 : Int32))) (pc' := 24) (L' := [(0, .ref 150), (1, .int (0 : Int32)), (2, .int (xs 1)), (3, .int (xs 2)), (4, .int (xs 3)), (5, .int (xs 4))]) h_m165 (z_at.mk 1 rfl rfl) rfl rfl (w_ui _ _ (by decide)) rfl rfl rfl rfl ?_
  clear H m; intro m H
  refine w_rv h_m165 (z_at.mk 1 rfl rfl) rfl ?_
  show z_W 997 166 23 [(0, .ref 152), (1, .int (0 : Int32)), (2, .ref 150), (3, .int (0 : Int32))] [] m _
  refine w_rv h_m166 (z_at.mk 1 rfl rfl) rfl ?_
  show z_W 998 181 13 [(0, .ref 143)] [] m _
  refine w_p h_m181 2 (pc' := 15) (L' := [(0, .ref 143)]) (st' := [.int (1 : Int32), .ref 143]) rfl ?_
  refine w_pf H (22, 35, [(10, .int (1 : Int32)), (34, .ref 167), (33, .ref 166), (31, .ref 165), (30, .ref 164), (28, .ref 163), (26, .ref 162), (25, .ref 161), (24, .ref 160), (19, .ref 159), (18, .ref 158), (17, .ref 157), (16, .ref 156), (13, .ref 155), (12, .ref 154), (11, .ref 153), (9, .ref 152), (8, .ref 151), (7, .ref 150), (5, .ref 149), (4, .ref 148), (3, .ref 147), (2, .ref 146), (1, .ref 145), (0, .ref 144), (6, .int (0 : Int32)), (14, .int (0 : Int32)), (15, .int (0 : Int32)), (20, .int (0 : Int32)), (21, .int (0 : Int32)), (22, .int (0 : Int32)), (23, .int (0 : Int32)), (27, .int (0 : Int32)), (29, .int (0 : Int32)), (32, .int (0 : Int32))], none) (pc' := 18) (L' := [(0, .ref 143)]) h_m181 (z_at.mk 3 rfl rfl) rfl (by decide) rfl (Or.inl rfl) rfl rfl rfl ?_
  clear H m; intro m H
  refine w_p h_m181 4 (pc' := 22) (L' := [(0, .ref 143), (1, .int (0 : Int32))]) (st' := [.ref 143, .int (0 : Int32)]) rfl ?_
  refine w_gf H (pc' := 25) (L' := [(0, .ref 143), (1, .int (0 : Int32))]) h_m181 (z_at.mk 3 rfl rfl) rfl (u := .ref 144) rfl rfl rfl ?_
  refine w_p h_m181 1 (pc' := 26) (L' := [(0, .ref 143), (1, .int (0 : Int32))]) (st' := [.int (0 : Int32), .ref 144, .int (0 : Int32)]) rfl ?_
  refine w_al H (t := 0) (j := 0) (pc' := 27) (L' := [(0, .ref 143), (1, .int (0 : Int32))]) h_m181 (z_at.mk 1 rfl rfl) rfl rfl rfl (u := .int (0 : Int32)) rfl rfl rfl ?_
  refine w_p h_m181 1 (pc' := 114) (L' := [(0, .ref 143), (1, .int (0 : Int32))]) (st' := []) rfl ?_
  refine w_rv h_m181 (z_at.mk 1 rfl rfl) rfl ?_
  show z_W 999 239 31 [(0, .ref 143), (1, .int (xs 1)), (2, .int (xs 2)), (3, .int (xs 3)), (4, .int (xs 4))] [] m _
  refine w_p h_m239 2 (pc' := 33) (L' := [(0, .ref 143), (1, .int (xs 1)), (2, .int (xs 2)), (3, .int (xs 3)), (4, .int (xs 4))]) (st' := [.int (0 : Int32), .ref 143]) rfl ?_
  refine w_pf H (22, 35, [(29, .int (0 : Int32)), (10, .int (1 : Int32)), (34, .ref 167), (33, .ref 166), (31, .ref 165), (30, .ref 164), (28, .ref 163), (26, .ref 162), (25, .ref 161), (24, .ref 160), (19, .ref 159), (18, .ref 158), (17, .ref 157), (16, .ref 156), (13, .ref 155), (12, .ref 154), (11, .ref 153), (9, .ref 152), (8, .ref 151), (7, .ref 150), (5, .ref 149), (4, .ref 148), (3, .ref 147), (2, .ref 146), (1, .ref 145), (0, .ref 144), (6, .int (0 : Int32)), (14, .int (0 : Int32)), (15, .int (0 : Int32)), (20, .int (0 : Int32)), (21, .int (0 : Int32)), (22, .int (0 : Int32)), (23, .int (0 : Int32)), (27, .int (0 : Int32)), (32, .int (0 : Int32))], none) (pc' := 36) (L' := [(0, .ref 143), (1, .int (xs 1)), (2, .int (xs 2)), (3, .int (xs 3)), (4, .int (xs 4))]) h_m239 (z_at.mk 3 rfl rfl) rfl (by decide) rfl (Or.inl rfl) rfl rfl rfl ?_
  clear H m; intro m H
  refine w_p h_m239 4 (pc' := 42) (L' := [(0, .ref 143), (5, .int (0 : Int32))]) (st' := [.ref 143, .int (0 : Int32)]) rfl ?_
  refine w_gf H (pc' := 45) (L' := [(0, .ref 143), (5, .int (0 : Int32))]) h_m239 (z_at.mk 3 rfl rfl) rfl (u := .ref 144) rfl rfl rfl ?_
  refine w_p h_m239 1 (pc' := 46) (L' := [(0, .ref 143), (5, .int (0 : Int32))]) (st' := [.int (0 : Int32), .ref 144, .int (0 : Int32)]) rfl ?_
  refine w_al H (t := 0) (j := 0) (pc' := 47) (L' := [(0, .ref 143), (5, .int (0 : Int32))]) h_m239 (z_at.mk 1 rfl rfl) rfl rfl rfl (u := .int (0 : Int32)) rfl rfl rfl ?_
  refine w_p h_m239 7 (pc' := 155) (L' := [(0, .ref 143), (5, .int (0 : Int32)), (6, .int (0 : Int32))]) (st' := [.ref 143, .int (0 : Int32)]) rfl ?_
  refine w_gf H (pc' := 158) (L' := [(0, .ref 143), (5, .int (0 : Int32)), (6, .int (0 : Int32))]) h_m239 (z_at.mk 3 rfl rfl) rfl (u := .int (1 : Int32)) rfl rfl rfl ?_
  refine w_p h_m239 3 (pc' := 165) (L' := [(0, .ref 143), (5, .int (0 : Int32)), (6, .int (0 : Int32))]) (st' := [.ref 17, .ref 143]) rfl ?_
  refine w_cv (H.t rfl) (pc' := 168) (L' := [(0, .ref 143), (5, .int (0 : Int32)), (6, .int (0 : Int32))]) (rest := []) (Ps := [.ref 17]) (L0 := [(0, .ref 143), (1, .ref 17)]) h_m239 (z_at.mk 3 rfl rfl) (Or.inl ⟨rfl, rfl⟩) rfl rfl (by decide) (by decide) rfl rfl rfl rfl rfl rfl (by decide) rfl rfl rfl ?_
  refine w_p h_m235 4 (pc' := 4) (L' := [(0, .ref 143), (1, .ref 17), (2, .int (0 : Int32))]) (st' := [.ref 17, .int (0 : Int32)]) rfl ?_
  refine w_cv (H.te (by decide) rfl).1 (pc' := 7) (L' := [(0, .ref 143), (1, .ref 17), (2, .int (0 : Int32))]) (rest := [.int (0 : Int32)]) (Ps := []) (L0 := [(0, .ref 17)]) h_m235 (z_at.mk 3 rfl rfl) (Or.inl ⟨rfl, rfl⟩) rfl rfl (by decide) (by decide) rfl rfl rfl rfl rfl rfl (by decide) rfl rfl rfl ?_
  refine w_p h_m293 1 (pc' := 1) (L' := [(0, .ref 17)]) (st' := [.ref 17]) rfl ?_
  refine w_gs H (pc' := 4) (L' := [(0, .ref 17)]) h_m293 (z_at.mk 3 rfl rfl) rfl (by decide) rfl rfl rfl rfl ?_
  refine w_lene H (x := (4 : Int32)) (pc' := 5) (L' := [(0, .ref 17)]) h_m293 (z_at.mk 1 rfl rfl) (by decide) rfl (by decide) rfl rfl rfl ?_
  refine w_p h_m293 1 (pc' := 6) (L' := [(0, .ref 17)]) (st' := [.ref 17, .int (4 : Int32)]) rfl ?_
  refine w_cv (H.te (by decide) rfl).1 (pc' := 9) (L' := [(0, .ref 17)]) (rest := [.int (4 : Int32)]) (Ps := []) (L0 := [(0, .ref 17)]) h_m293 (z_at.mk 3 rfl rfl) (Or.inl ⟨rfl, rfl⟩) rfl rfl (by decide) (by decide) rfl rfl rfl rfl rfl rfl (by decide) rfl rfl rfl ?_
  refine w_p h_m298 3 (pc' := 7) (L' := [(0, .ref 17)]) (st' := [.ref 17]) rfl ?_
  refine w_gs H (pc' := 10) (L' := [(0, .ref 17)]) h_m298 (z_at.mk 3 rfl rfl) rfl (by decide) rfl rfl rfl rfl ?_
  refine w_p h_m298 1 (pc' := 14) (L' := []) (st' := [.int (0 : Int32)]) rfl ?_
  refine w_ri h_m298 (z_at.mk 1 rfl rfl) rfl rfl ?_
  show z_W 997 293 9 [(0, .ref 17)] [.int (0 : Int32), .int (4 : Int32)] m _
  refine w_p h_m293 1 (pc' := 10) (L' := [(0, .ref 17)]) (st' := [.int (4 : Int32)]) rfl ?_
  refine w_ri h_m293 (z_at.mk 1 rfl rfl) rfl rfl ?_
  show z_W 998 235 7 [(0, .ref 143), (1, .ref 17), (2, .int (0 : Int32))] [.int (4 : Int32), .int (0 : Int32)] m _
  refine w_p h_m235 4 (pc' := 13) (L' := [(0, .ref 143), (1, .ref 17), (2, .int (0 : Int32))]) (st' := [.int (0 : Int32), .ref 17, .ref 143]) rfl ?_
  refine w_cv (H.te (by decide) rfl).1 (pc' := 16) (L' := [(0, .ref 143), (1, .ref 17), (2, .int (0 : Int32))]) (rest := [.ref 143]) (Ps := [.int (0 : Int32)]) (L0 := [(0, .ref 17), (1, .int (0 : Int32))]) h_m235 (z_at.mk 3 rfl rfl) (Or.inl ⟨rfl, rfl⟩) rfl rfl (by decide) (by decide) rfl rfl rfl rfl rfl rfl (by decide) rfl rfl rfl ?_
  refine w_p h_m294 1 (pc' := 1) (L' := [(0, .ref 17), (1, .int (0 : Int32))]) (st' := [.ref 17]) rfl ?_
  refine w_cv (H.te (by decide) rfl).1 (pc' := 4) (L' := [(0, .ref 17), (1, .int (0 : Int32))]) (rest := []) (Ps := []) (L0 := [(0, .ref 17)]) h_m294 (z_at.mk 3 rfl rfl) (Or.inl ⟨rfl, rfl⟩) rfl rfl (by decide) (by decide) rfl rfl rfl rfl rfl rfl (by decide) rfl rfl rfl ?_
  refine w_p h_m299 3 (pc' := 7) (L' := [(0, .ref 17)]) (st' := [.ref 17]) rfl ?_
  refine w_gs H (pc' := 10) (L' := [(0, .ref 17)]) h_m299 (z_at.mk 3 rfl rfl) rfl (by decide) rfl rfl rfl rfl ?_
  refine w_p h_m299 3 (pc' := 18) (L' := []) (st' := [.int (1 : Int32)]) rfl ?_
  refine w_ri h_m299 (z_at.mk 1 rfl rfl) rfl rfl ?_
  show z_W 997 294 4 [(0, .ref 17), (1, .int (0 : Int32))] [.int (1 : Int32)] m _
  refine w_p h_m294 2 (pc' := 8) (L' := [(0, .ref 17), (1, .int (0 : Int32))]) (st' := [.ref 17]) rfl ?_
  refine w_gs H (pc' := 11) (L' := [(0, .ref 17), (1, .int (0 : Int32))]) h_m294 (z_at.mk 3 rfl rfl) rfl (by decide) rfl rfl rfl rfl ?_
  refine w_p h_m294 1 (pc' := 12) (L' := [(0, .ref 17), (1, .int (0 : Int32))]) (st' := [.int (0 : Int32), .ref 35]) rfl ?_
  refine w_cs (As := [.ref 35, .int (0 : Int32)]) (rest := []) (j := 308) (L0 := [(0, .ref 35), (1, .int (0 : Int32))]) (pc' := 15) (L' := [(0, .ref 17), (1, .int (0 : Int32))]) h_m294 (z_at.mk 3 rfl rfl) (Or.inl ⟨rfl, rfl⟩) rfl rfl rfl rfl rfl ?_
  refine w_p h_m308 2 (pc' := 2) (L' := [(0, .ref 35), (1, .int (0 : Int32))]) (st' := [.ref 35, .int (0 : Int32)]) rfl ?_
  refine w_lene H (x := (4 : Int32)) (pc' := 3) (L' := [(0, .ref 35), (1, .int (0 : Int32))]) h_m308 (z_at.mk 1 rfl rfl) (by decide) rfl (by decide) rfl rfl rfl ?_
  refine w_ci (pc' := 6) (L' := [(0, .ref 35), (1, .int (0 : Int32))]) h_m308 (z_at.mk 3 rfl rfl) rfl (z_cat_le 0 rfl (by decide)) ⟨by decide, by decide⟩ rfl rfl ?_
  refine w_p h_m308 2 (pc' := 8) (L' := [(0, .ref 35), (1, .int (0 : Int32))]) (st' := [.int (0 : Int32), .ref 35]) rfl ?_
  refine w_ae H (j := 0) (pc' := 9) (L' := [(0, .ref 35), (1, .int (0 : Int32))]) h_m308 (z_at.mk 1 rfl rfl) rfl rfl rfl (by decide) rfl (by decide) rfl rfl rfl ?_
  refine w_p h_m308 3 (pc' := 14) (L' := [(0, .ref 35), (1, .int (0 : Int32))]) (st' := [.int (97 : Int32)]) rfl ?_
  refine w_ri h_m308 (z_at.mk 1 rfl rfl) rfl rfl ?_
  show z_W 997 294 15 [(0, .ref 17), (1, .int (0 : Int32))] [.int (97 : Int32)] m _
  refine w_ri h_m294 (z_at.mk 1 rfl rfl) rfl rfl ?_
  show z_W 998 235 16 [(0, .ref 143), (1, .ref 17), (2, .int (0 : Int32))] [.int (97 : Int32), .ref 143] m _
  refine w_cv (H.t rfl) (pc' := 19) (L' := [(0, .ref 143), (1, .ref 17), (2, .int (0 : Int32))]) (rest := []) (Ps := [.int (97 : Int32)]) (L0 := [(0, .ref 143), (1, .int (97 : Int32))]) h_m235 (z_at.mk 3 rfl rfl) (Or.inl ⟨rfl, rfl⟩) rfl rfl (by decide) (by decide) rfl rfl rfl rfl rfl rfl (by decide) rfl rfl rfl ?_
  refine w_p h_m234 1 (pc' := 1) (L' := [(0, .ref 143), (1, .int (97 : Int32))]) (st' := [.ref 143]) rfl ?_
  refine w_gf H (pc' := 4) (L' := [(0, .ref 143), (1, .int (97 : Int32))]) h_m234 (z_at.mk 3 rfl rfl) rfl (u := .ref 163) rfl rfl rfl ?_
  refine w_p h_m234 1 (pc' := 5) (L' := [(0, .ref 143), (1, .int (97 : Int32))]) (st' := [.ref 143, .ref 163]) rfl ?_
  refine w_gf H (pc' := 8) (L' := [(0, .ref 143), (1, .int (97 : Int32))]) h_m234 (z_at.mk 3 rfl rfl) rfl (u := .int (0 : Int32)) rfl rfl rfl ?_
  refine w_p h_m234 1 (pc' := 9) (L' := [(0, .ref 143), (1, .int (97 : Int32))]) (st' := [.int (97 : Int32), .int (0 : Int32), .ref 163]) rfl ?_
  refine w_as H (t := 0) (j := 0) (u := .int (97 : Int32)) (0, 40000, [(0, .int (97 : Int32))], some (.int (0 : Int32))) (pc' := 10) (L' := [(0, .ref 143), (1, .int (97 : Int32))]) h_m234 (z_at.mk 1 rfl rfl) rfl rfl (w_ui _ _ (by decide)) rfl rfl rfl rfl ?_
  clear H m; intro m H
  refine w_p h_m234 2 (pc' := 12) (L' := [(0, .ref 143), (1, .int (97 : Int32))]) (st' := [.ref 143, .ref 143]) rfl ?_
  refine w_gf H (pc' := 15) (L' := [(0, .ref 143), (1, .int (97 : Int32))]) h_m234 (z_at.mk 3 rfl rfl) rfl (u := .int (0 : Int32)) rfl rfl rfl ?_
  refine w_p h_m234 2 (pc' := 17) (L' := [(0, .ref 143), (1, .int (97 : Int32))]) (st' := [.int (1 : Int32), .ref 143]) rfl ?_
  refine w_pf H (22, 35, [(29, .int (1 : Int32)), (10, .int (1 : Int32)), (34, .ref 167), (33, .ref 166), (31, .ref 165), (30, .ref 164), (28, .ref 163), (26, .ref 162), (25, .ref 161), (24, .ref 160), (19, .ref 159), (18, .ref 158), (17, .ref 157), (16, .ref 156), (13, .ref 155), (12, .ref 154), (11, .ref 153), (9, .ref 152), (8, .ref 151), (7, .ref 150), (5, .ref 149), (4, .ref 148), (3, .ref 147), (2, .ref 146), (1, .ref 145), (0, .ref 144), (6, .int (0 : Int32)), (14, .int (0 : Int32)), (15, .int (0 : Int32)), (20, .int (0 : Int32)), (21, .int (0 : Int32)), (22, .int (0 : Int32)), (23, .int (0 : Int32)), (27, .int (0 : Int32)), (32, .int (0 : Int32))], none) (pc' := 20) (L' := [(0, .ref 143), (1, .int (97 : Int32))]) h_m234 (z_at.mk 3 rfl rfl) rfl (by decide) rfl (Or.inl rfl) rfl rfl rfl ?_
  clear H m; intro m H
  refine w_rv h_m234 (z_at.mk 1 rfl rfl) rfl ?_
  show z_W 998 235 19 [(0, .ref 143), (1, .ref 17), (2, .int (0 : Int32))] [] m _
  refine w_p h_m235 4 (pc' := 4) (L' := [(0, .ref 143), (1, .ref 17), (2, .int (1 : Int32))]) (st' := [.ref 17, .int (1 : Int32)]) rfl ?_
  refine w_cv (H.te (by decide) rfl).1 (pc' := 7) (L' := [(0, .ref 143), (1, .ref 17), (2, .int (1 : Int32))]) (rest := [.int (1 : Int32)]) (Ps := []) (L0 := [(0, .ref 17)]) h_m235 (z_at.mk 3 rfl rfl) (Or.inl ⟨rfl, rfl⟩) rfl rfl (by decide) (by decide) rfl rfl rfl rfl rfl rfl (by decide) rfl rfl rfl ?_
  refine w_p h_m293 1 (pc' := 1) (L' := [(0, .ref 17)]) (st' := [.ref 17]) rfl ?_
  refine w_gs H (pc' := 4) (L' := [(0, .ref 17)]) h_m293 (z_at.mk 3 rfl rfl) rfl (by decide) rfl rfl rfl rfl ?_
  refine w_lene H (x := (4 : Int32)) (pc' := 5) (L' := [(0, .ref 17)]) h_m293 (z_at.mk 1 rfl rfl) (by decide) rfl (by decide) rfl rfl rfl ?_
  refine w_p h_m293 1 (pc' := 6) (L' := [(0, .ref 17)]) (st' := [.ref 17, .int (4 : Int32)]) rfl ?_
  refine w_cv (H.te (by decide) rfl).1 (pc' := 9) (L' := [(0, .ref 17)]) (rest := [.int (4 : Int32)]) (Ps := []) (L0 := [(0, .ref 17)]) h_m293 (z_at.mk 3 rfl rfl) (Or.inl ⟨rfl, rfl⟩) rfl rfl (by decide) (by decide) rfl rfl rfl rfl rfl rfl (by decide) rfl rfl rfl ?_
  refine w_p h_m298 3 (pc' := 7) (L' := [(0, .ref 17)]) (st' := [.ref 17]) rfl ?_
  refine w_gs H (pc' := 10) (L' := [(0, .ref 17)]) h_m298 (z_at.mk 3 rfl rfl) rfl (by decide) rfl rfl rfl rfl ?_
  refine w_p h_m298 1 (pc' := 14) (L' := []) (st' := [.int (0 : Int32)]) rfl ?_
  refine w_ri h_m298 (z_at.mk 1 rfl rfl) rfl rfl ?_
  show z_W 997 293 9 [(0, .ref 17)] [.int (0 : Int32), .int (4 : Int32)] m _
  refine w_p h_m293 1 (pc' := 10) (L' := [(0, .ref 17)]) (st' := [.int (4 : Int32)]) rfl ?_
  refine w_ri h_m293 (z_at.mk 1 rfl rfl) rfl rfl ?_
  show z_W 998 235 7 [(0, .ref 143), (1, .ref 17), (2, .int (1 : Int32))] [.int (4 : Int32), .int (1 : Int32)] m _
  refine w_p h_m235 4 (pc' := 13) (L' := [(0, .ref 143), (1, .ref 17), (2, .int (1 : Int32))]) (st' := [.int (1 : Int32), .ref 17, .ref 143]) rfl ?_
  refine w_cv (H.te (by decide) rfl).1 (pc' := 16) (L' := [(0, .ref 143), (1, .ref 17), (2, .int (1 : Int32))]) (rest := [.ref 143]) (Ps := [.int (1 : Int32)]) (L0 := [(0, .ref 17), (1, .int (1 : Int32))]) h_m235 (z_at.mk 3 rfl rfl) (Or.inl ⟨rfl, rfl⟩) rfl rfl (by decide) (by decide) rfl rfl rfl rfl rfl rfl (by decide) rfl rfl rfl ?_
  refine w_p h_m294 1 (pc' := 1) (L' := [(0, .ref 17), (1, .int (1 : Int32))]) (st' := [.ref 17]) rfl ?_
  refine w_cv (H.te (by decide) rfl).1 (pc' := 4) (L' := [(0, .ref 17), (1, .int (1 : Int32))]) (rest := []) (Ps := []) (L0 := [(0, .ref 17)]) h_m294 (z_at.mk 3 rfl rfl) (Or.inl ⟨rfl, rfl⟩) rfl rfl (by decide) (by decide) rfl rfl rfl rfl rfl rfl (by decide) rfl rfl rfl ?_
  refine w_p h_m299 3 (pc' := 7) (L' := [(0, .ref 17)]) (st' := [.ref 17]) rfl ?_
  refine w_gs H (pc' := 10) (L' := [(0, .ref 17)]) h_m299 (z_at.mk 3 rfl rfl) rfl (by decide) rfl rfl rfl rfl ?_
  refine w_p h_m299 3 (pc' := 18) (L' := []) (st' := [.int (1 : Int32)]) rfl ?_
  refine w_ri h_m299 (z_at.mk 1 rfl rfl) rfl rfl ?_
  show z_W 997 294 4 [(0, .ref 17), (1, .int (1 : Int32))] [.int (1 : Int32)] m _
  refine w_p h_m294 2 (pc' := 8) (L' := [(0, .ref 17), (1, .int (1 : Int32))]) (st' := [.ref 17]) rfl ?_
  refine w_gs H (pc' := 11) (L' := [(0, .ref 17), (1, .int (1 : Int32))]) h_m294 (z_at.mk 3 rfl rfl) rfl (by decide) rfl rfl rfl rfl ?_
  refine w_p h_m294 1 (pc' := 12) (L' := [(0, .ref 17), (1, .int (1 : Int32))]) (st' := [.int (1 : Int32), .ref 35]) rfl ?_
  refine w_cs (As := [.ref 35, .int (1 : Int32)]) (rest := []) (j := 308) (L0 := [(0, .ref 35), (1, .int (1 : Int32))]) (pc' := 15) (L' := [(0, .ref 17), (1, .int (1 : Int32))]) h_m294 (z_at.mk 3 rfl rfl) (Or.inl ⟨rfl, rfl⟩) rfl rfl rfl rfl rfl ?_
  refine w_p h_m308 2 (pc' := 2) (L' := [(0, .ref 35), (1, .int (1 : Int32))]) (st' := [.ref 35, .int (1 : Int32)]) rfl ?_
  refine w_lene H (x := (4 : Int32)) (pc' := 3) (L' := [(0, .ref 35), (1, .int (1 : Int32))]) h_m308 (z_at.mk 1 rfl rfl) (by decide) rfl (by decide) rfl rfl rfl ?_
  refine w_ci (pc' := 6) (L' := [(0, .ref 35), (1, .int (1 : Int32))]) h_m308 (z_at.mk 3 rfl rfl) rfl (z_cat_le 0 rfl (by decide)) ⟨by decide, by decide⟩ rfl rfl ?_
  refine w_p h_m308 2 (pc' := 8) (L' := [(0, .ref 35), (1, .int (1 : Int32))]) (st' := [.int (1 : Int32), .ref 35]) rfl ?_
  refine w_ae H (j := 1) (pc' := 9) (L' := [(0, .ref 35), (1, .int (1 : Int32))]) h_m308 (z_at.mk 1 rfl rfl) rfl rfl rfl (by decide) rfl (by decide) rfl rfl rfl ?_
  refine w_p h_m308 3 (pc' := 14) (L' := [(0, .ref 35), (1, .int (1 : Int32))]) (st' := [.int (115 : Int32)]) rfl ?_
  refine w_ri h_m308 (z_at.mk 1 rfl rfl) rfl rfl ?_
  show z_W 997 294 15 [(0, .ref 17), (1, .int (1 : Int32))] [.int (115 : Int32)] m _
  refine w_ri h_m294 (z_at.mk 1 rfl rfl) rfl rfl ?_
  show z_W 998 235 16 [(0, .ref 143), (1, .ref 17), (2, .int (1 : Int32))] [.int (115 : Int32), .ref 143] m _
  refine w_cv (H.t rfl) (pc' := 19) (L' := [(0, .ref 143), (1, .ref 17), (2, .int (1 : Int32))]) (rest := []) (Ps := [.int (115 : Int32)]) (L0 := [(0, .ref 143), (1, .int (115 : Int32))]) h_m235 (z_at.mk 3 rfl rfl) (Or.inl ⟨rfl, rfl⟩) rfl rfl (by decide) (by decide) rfl rfl rfl rfl rfl rfl (by decide) rfl rfl rfl ?_
  refine w_p h_m234 1 (pc' := 1) (L' := [(0, .ref 143), (1, .int (115 : Int32))]) (st' := [.ref 143]) rfl ?_
  refine w_gf H (pc' := 4) (L' := [(0, .ref 143), (1, .int (115 : Int32))]) h_m234 (z_at.mk 3 rfl rfl) rfl (u := .ref 163) rfl rfl rfl ?_
  refine w_p h_m234 1 (pc' := 5) (L' := [(0, .ref 143), (1, .int (115 : Int32))]) (st' := [.ref 143, .ref 163]) rfl ?_
  refine w_gf H (pc' := 8) (L' := [(0, .ref 143), (1, .int (115 : Int32))]) h_m234 (z_at.mk 3 rfl rfl) rfl (u := .int (1 : Int32)) rfl rfl rfl ?_
  refine w_p h_m234 1 (pc' := 9) (L' := [(0, .ref 143), (1, .int (115 : Int32))]) (st' := [.int (115 : Int32), .int (1 : Int32), .ref 163]) rfl ?_
  refine w_as H (t := 0) (j := 1) (u := .int (115 : Int32)) (0, 40000, [(1, .int (115 : Int32)), (0, .int (97 : Int32))], some (.int (0 : Int32))) (pc' := 10) (L' := [(0, .ref 143), (1, .int (115 : Int32))]) h_m234 (z_at.mk 1 rfl rfl) rfl rfl (w_ui _ _ (by decide)) rfl rfl rfl rfl ?_
  clear H m; intro m H
  refine w_p h_m234 2 (pc' := 12) (L' := [(0, .ref 143), (1, .int (115 : Int32))]) (st' := [.ref 143, .ref 143]) rfl ?_
  refine w_gf H (pc' := 15) (L' := [(0, .ref 143), (1, .int (115 : Int32))]) h_m234 (z_at.mk 3 rfl rfl) rfl (u := .int (1 : Int32)) rfl rfl rfl ?_
  refine w_p h_m234 2 (pc' := 17) (L' := [(0, .ref 143), (1, .int (115 : Int32))]) (st' := [.int (2 : Int32), .ref 143]) rfl ?_
  refine w_pf H (22, 35, [(29, .int (2 : Int32)), (10, .int (1 : Int32)), (34, .ref 167), (33, .ref 166), (31, .ref 165), (30, .ref 164), (28, .ref 163), (26, .ref 162), (25, .ref 161), (24, .ref 160), (19, .ref 159), (18, .ref 158), (17, .ref 157), (16, .ref 156), (13, .ref 155), (12, .ref 154), (11, .ref 153), (9, .ref 152), (8, .ref 151), (7, .ref 150), (5, .ref 149), (4, .ref 148), (3, .ref 147), (2, .ref 146), (1, .ref 145), (0, .ref 144), (6, .int (0 : Int32)), (14, .int (0 : Int32)), (15, .int (0 : Int32)), (20, .int (0 : Int32)), (21, .int (0 : Int32)), (22, .int (0 : Int32)), (23, .int (0 : Int32)), (27, .int (0 : Int32)), (32, .int (0 : Int32))], none) (pc' := 20) (L' := [(0, .ref 143), (1, .int (115 : Int32))]) h_m234 (z_at.mk 3 rfl rfl) rfl (by decide) rfl (Or.inl rfl) rfl rfl rfl ?_
  clear H m; intro m H
  refine w_rv h_m234 (z_at.mk 1 rfl rfl) rfl ?_
  show z_W 998 235 19 [(0, .ref 143), (1, .ref 17), (2, .int (1 : Int32))] [] m _
  refine w_p h_m235 4 (pc' := 4) (L' := [(0, .ref 143), (1, .ref 17), (2, .int (2 : Int32))]) (st' := [.ref 17, .int (2 : Int32)]) rfl ?_
  refine w_cv (H.te (by decide) rfl).1 (pc' := 7) (L' := [(0, .ref 143), (1, .ref 17), (2, .int (2 : Int32))]) (rest := [.int (2 : Int32)]) (Ps := []) (L0 := [(0, .ref 17)]) h_m235 (z_at.mk 3 rfl rfl) (Or.inl ⟨rfl, rfl⟩) rfl rfl (by decide) (by decide) rfl rfl rfl rfl rfl rfl (by decide) rfl rfl rfl ?_
  refine w_p h_m293 1 (pc' := 1) (L' := [(0, .ref 17)]) (st' := [.ref 17]) rfl ?_
  refine w_gs H (pc' := 4) (L' := [(0, .ref 17)]) h_m293 (z_at.mk 3 rfl rfl) rfl (by decide) rfl rfl rfl rfl ?_
  refine w_lene H (x := (4 : Int32)) (pc' := 5) (L' := [(0, .ref 17)]) h_m293 (z_at.mk 1 rfl rfl) (by decide) rfl (by decide) rfl rfl rfl ?_
  refine w_p h_m293 1 (pc' := 6) (L' := [(0, .ref 17)]) (st' := [.ref 17, .int (4 : Int32)]) rfl ?_
  refine w_cv (H.te (by decide) rfl).1 (pc' := 9) (L' := [(0, .ref 17)]) (rest := [.int (4 : Int32)]) (Ps := []) (L0 := [(0, .ref 17)]) h_m293 (z_at.mk 3 rfl rfl) (Or.inl ⟨rfl, rfl⟩) rfl rfl (by decide) (by decide) rfl rfl rfl rfl rfl rfl (by decide) rfl rfl rfl ?_
  refine w_p h_m298 3 (pc' := 7) (L' := [(0, .ref 17)]) (st' := [.ref 17]) rfl ?_
  refine w_gs H (pc' := 10) (L' := [(0, .ref 17)]) h_m298 (z_at.mk 3 rfl rfl) rfl (by decide) rfl rfl rfl rfl ?_
  refine w_p h_m298 1 (pc' := 14) (L' := []) (st' := [.int (0 : Int32)]) rfl ?_
  refine w_ri h_m298 (z_at.mk 1 rfl rfl) rfl rfl ?_
  show z_W 997 293 9 [(0, .ref 17)] [.int (0 : Int32), .int (4 : Int32)] m _
  refine w_p h_m293 1 (pc' := 10) (L' := [(0, .ref 17)]) (st' := [.int (4 : Int32)]) rfl ?_
  refine w_ri h_m293 (z_at.mk 1 rfl rfl) rfl rfl ?_
  show z_W 998 235 7 [(0, .ref 143), (1, .ref 17), (2, .int (2 : Int32))] [.int (4 : Int32), .int (2 : Int32)] m _
  refine w_p h_m235 4 (pc' := 13) (L' := [(0, .ref 143), (1, .ref 17), (2, .int (2 : Int32))]) (st' := [.int (2 : Int32), .ref 17, .ref 143]) rfl ?_
  refine w_cv (H.te (by decide) rfl).1 (pc' := 16) (L' := [(0, .ref 143), (1, .ref 17), (2, .int (2 : Int32))]) (rest := [.ref 143]) (Ps := [.int (2 : Int32)]) (L0 := [(0, .ref 17), (1, .int (2 : Int32))]) h_m235 (z_at.mk 3 rfl rfl) (Or.inl ⟨rfl, rfl⟩) rfl rfl (by decide) (by decide) rfl rfl rfl rfl rfl rfl (by decide) rfl rfl rfl ?_
  refine w_p h_m294 1 (pc' := 1) (L' := [(0, .ref 17), (1, .int (2 : Int32))]) (st' := [.ref 17]) rfl ?_
  refine w_cv (H.te (by decide) rfl).1 (pc' := 4) (L' := [(0, .ref 17), (1, .int (2 : Int32))]) (rest := []) (Ps := []) (L0 := [(0, .ref 17)]) h_m294 (z_at.mk 3 rfl rfl) (Or.inl ⟨rfl, rfl⟩) rfl rfl (by decide) (by decide) rfl rfl rfl rfl rfl rfl (by decide) rfl rfl rfl ?_
  refine w_p h_m299 3 (pc' := 7) (L' := [(0, .ref 17)]) (st' := [.ref 17]) rfl ?_
  refine w_gs H (pc' := 10) (L' := [(0, .ref 17)]) h_m299 (z_at.mk 3 rfl rfl) rfl (by decide) rfl rfl rfl rfl ?_
  refine w_p h_m299 3 (pc' := 18) (L' := []) (st' := [.int (1 : Int32)]) rfl ?_
  refine w_ri h_m299 (z_at.mk 1 rfl rfl) rfl rfl ?_
  show z_W 997 294 4 [(0, .ref 17), (1, .int (2 : Int32))] [.int (1 : Int32)] m _
  refine w_p h_m294 2 (pc' := 8) (L' := [(0, .ref 17), (1, .int (2 : Int32))]) (st' := [.ref 17]) rfl ?_
  refine w_gs H (pc' := 11) (L' := [(0, .ref 17), (1, .int (2 : Int32))]) h_m294 (z_at.mk 3 rfl rfl) rfl (by decide) rfl rfl rfl rfl ?_
  refine w_p h_m294 1 (pc' := 12) (L' := [(0, .ref 17), (1, .int (2 : Int32))]) (st' := [.int (2 : Int32), .ref 35]) rfl ?_
  refine w_cs (As := [.ref 35, .int (2 : Int32)]) (rest := []) (j := 308) (L0 := [(0, .ref 35), (1, .int (2 : Int32))]) (pc' := 15) (L' := [(0, .ref 17), (1, .int (2 : Int32))]) h_m294 (z_at.mk 3 rfl rfl) (Or.inl ⟨rfl, rfl⟩) rfl rfl rfl rfl rfl ?_
  refine w_p h_m308 2 (pc' := 2) (L' := [(0, .ref 35), (1, .int (2 : Int32))]) (st' := [.ref 35, .int (2 : Int32)]) rfl ?_
  refine w_lene H (x := (4 : Int32)) (pc' := 3) (L' := [(0, .ref 35), (1, .int (2 : Int32))]) h_m308 (z_at.mk 1 rfl rfl) (by decide) rfl (by decide) rfl rfl rfl ?_
  refine w_ci (pc' := 6) (L' := [(0, .ref 35), (1, .int (2 : Int32))]) h_m308 (z_at.mk 3 rfl rfl) rfl (z_cat_le 0 rfl (by decide)) ⟨by decide, by decide⟩ rfl rfl ?_
  refine w_p h_m308 2 (pc' := 8) (L' := [(0, .ref 35), (1, .int (2 : Int32))]) (st' := [.int (2 : Int32), .ref 35]) rfl ?_
  refine w_ae H (j := 2) (pc' := 9) (L' := [(0, .ref 35), (1, .int (2 : Int32))]) h_m308 (z_at.mk 1 rfl rfl) rfl rfl rfl (by decide) rfl (by decide) rfl rfl rfl ?_
  refine w_p h_m308 3 (pc' := 14) (L' := [(0, .ref 35), (1, .int (2 : Int32))]) (st' := [.int (107 : Int32)]) rfl ?_
  refine w_ri h_m308 (z_at.mk 1 rfl rfl) rfl rfl ?_
  show z_W 997 294 15 [(0, .ref 17), (1, .int (2 : Int32))] [.int (107 : Int32)] m _
  refine w_ri h_m294 (z_at.mk 1 rfl rfl) rfl rfl ?_
  show z_W 998 235 16 [(0, .ref 143), (1, .ref 17), (2, .int (2 : Int32))] [.int (107 : Int32), .ref 143] m _
  refine w_cv (H.t rfl) (pc' := 19) (L' := [(0, .ref 143), (1, .ref 17), (2, .int (2 : Int32))]) (rest := []) (Ps := [.int (107 : Int32)]) (L0 := [(0, .ref 143), (1, .int (107 : Int32))]) h_m235 (z_at.mk 3 rfl rfl) (Or.inl ⟨rfl, rfl⟩) rfl rfl (by decide) (by decide) rfl rfl rfl rfl rfl rfl (by decide) rfl rfl rfl ?_
  refine w_p h_m234 1 (pc' := 1) (L' := [(0, .ref 143), (1, .int (107 : Int32))]) (st' := [.ref 143]) rfl ?_
  refine w_gf H (pc' := 4) (L' := [(0, .ref 143), (1, .int (107 : Int32))]) h_m234 (z_at.mk 3 rfl rfl) rfl (u := .ref 163) rfl rfl rfl ?_
  refine w_p h_m234 1 (pc' := 5) (L' := [(0, .ref 143), (1, .int (107 : Int32))]) (st' := [.ref 143, .ref 163]) rfl ?_
  refine w_gf H (pc' := 8) (L' := [(0, .ref 143), (1, .int (107 : Int32))]) h_m234 (z_at.mk 3 rfl rfl) rfl (u := .int (2 : Int32)) rfl rfl rfl ?_
  refine w_p h_m234 1 (pc' := 9) (L' := [(0, .ref 143), (1, .int (107 : Int32))]) (st' := [.int (107 : Int32), .int (2 : Int32), .ref 163]) rfl ?_
  refine w_as H (t := 0) (j := 2) (u := .int (107 : Int32)) (0, 40000, [(2, .int (107 : Int32)), (1, .int (115 : Int32)), (0, .int (97 : Int32))], some (.int (0 : Int32))) (pc' := 10) (L' := [(0, .ref 143), (1, .int (107 : Int32))]) h_m234 (z_at.mk 1 rfl rfl) rfl rfl (w_ui _ _ (by decide)) rfl rfl rfl rfl ?_
  clear H m; intro m H
  refine w_p h_m234 2 (pc' := 12) (L' := [(0, .ref 143), (1, .int (107 : Int32))]) (st' := [.ref 143, .ref 143]) rfl ?_
  refine w_gf H (pc' := 15) (L' := [(0, .ref 143), (1, .int (107 : Int32))]) h_m234 (z_at.mk 3 rfl rfl) rfl (u := .int (2 : Int32)) rfl rfl rfl ?_
  refine w_p h_m234 2 (pc' := 17) (L' := [(0, .ref 143), (1, .int (107 : Int32))]) (st' := [.int (3 : Int32), .ref 143]) rfl ?_
  refine w_pf H (22, 35, [(29, .int (3 : Int32)), (10, .int (1 : Int32)), (34, .ref 167), (33, .ref 166), (31, .ref 165), (30, .ref 164), (28, .ref 163), (26, .ref 162), (25, .ref 161), (24, .ref 160), (19, .ref 159), (18, .ref 158), (17, .ref 157), (16, .ref 156), (13, .ref 155), (12, .ref 154), (11, .ref 153), (9, .ref 152), (8, .ref 151), (7, .ref 150), (5, .ref 149), (4, .ref 148), (3, .ref 147), (2, .ref 146), (1, .ref 145), (0, .ref 144), (6, .int (0 : Int32)), (14, .int (0 : Int32)), (15, .int (0 : Int32)), (20, .int (0 : Int32)), (21, .int (0 : Int32)), (22, .int (0 : Int32)), (23, .int (0 : Int32)), (27, .int (0 : Int32)), (32, .int (0 : Int32))], none) (pc' := 20) (L' := [(0, .ref 143), (1, .int (107 : Int32))]) h_m234 (z_at.mk 3 rfl rfl) rfl (by decide) rfl (Or.inl rfl) rfl rfl rfl ?_
  clear H m; intro m H
  refine w_rv h_m234 (z_at.mk 1 rfl rfl) rfl ?_
  show z_W 998 235 19 [(0, .ref 143), (1, .ref 17), (2, .int (2 : Int32))] [] m _
  refine w_p h_m235 4 (pc' := 4) (L' := [(0, .ref 143), (1, .ref 17), (2, .int (3 : Int32))]) (st' := [.ref 17, .int (3 : Int32)]) rfl ?_
  refine w_cv (H.te (by decide) rfl).1 (pc' := 7) (L' := [(0, .ref 143), (1, .ref 17), (2, .int (3 : Int32))]) (rest := [.int (3 : Int32)]) (Ps := []) (L0 := [(0, .ref 17)]) h_m235 (z_at.mk 3 rfl rfl) (Or.inl ⟨rfl, rfl⟩) rfl rfl (by decide) (by decide) rfl rfl rfl rfl rfl rfl (by decide) rfl rfl rfl ?_
  refine w_p h_m293 1 (pc' := 1) (L' := [(0, .ref 17)]) (st' := [.ref 17]) rfl ?_
  refine w_gs H (pc' := 4) (L' := [(0, .ref 17)]) h_m293 (z_at.mk 3 rfl rfl) rfl (by decide) rfl rfl rfl rfl ?_
  refine w_lene H (x := (4 : Int32)) (pc' := 5) (L' := [(0, .ref 17)]) h_m293 (z_at.mk 1 rfl rfl) (by decide) rfl (by decide) rfl rfl rfl ?_
  refine w_p h_m293 1 (pc' := 6) (L' := [(0, .ref 17)]) (st' := [.ref 17, .int (4 : Int32)]) rfl ?_
  refine w_cv (H.te (by decide) rfl).1 (pc' := 9) (L' := [(0, .ref 17)]) (rest := [.int (4 : Int32)]) (Ps := []) (L0 := [(0, .ref 17)]) h_m293 (z_at.mk 3 rfl rfl) (Or.inl ⟨rfl, rfl⟩) rfl rfl (by decide) (by decide) rfl rfl rfl rfl rfl rfl (by decide) rfl rfl rfl ?_
  refine w_p h_m298 3 (pc' := 7) (L' := [(0, .ref 17)]) (st' := [.ref 17]) rfl ?_
  refine w_gs H (pc' := 10) (L' := [(0, .ref 17)]) h_m298 (z_at.mk 3 rfl rfl) rfl (by decide) rfl rfl rfl rfl ?_
  refine w_p h_m298 1 (pc' := 14) (L' := []) (st' := [.int (0 : Int32)]) rfl ?_
  refine w_ri h_m298 (z_at.mk 1 rfl rfl) rfl rfl ?_
  show z_W 997 293 9 [(0, .ref 17)] [.int (0 : Int32), .int (4 : Int32)] m _
  refine w_p h_m293 1 (pc' := 10) (L' := [(0, .ref 17)]) (st' := [.int (4 : Int32)]) rfl ?_
  refine w_ri h_m293 (z_at.mk 1 rfl rfl) rfl rfl ?_
  show z_W 998 235 7 [(0, .ref 143), (1, .ref 17), (2, .int (3 : Int32))] [.int (4 : Int32), .int (3 : Int32)] m _
  refine w_p h_m235 4 (pc' := 13) (L' := [(0, .ref 143), (1, .ref 17), (2, .int (3 : Int32))]) (st' := [.int (3 : Int32), .ref 17, .ref 143]) rfl ?_
  refine w_cv (H.te (by decide) rfl).1 (pc' := 16) (L' := [(0, .ref 143), (1, .ref 17), (2, .int (3 : Int32))]) (rest := [.ref 143]) (Ps := [.int (3 : Int32)]) (L0 := [(0, .ref 17), (1, .int (3 : Int32))]) h_m235 (z_at.mk 3 rfl rfl) (Or.inl ⟨rfl, rfl⟩) rfl rfl (by decide) (by decide) rfl rfl rfl rfl rfl rfl (by decide) rfl rfl rfl ?_
  refine w_p h_m294 1 (pc' := 1) (L' := [(0, .ref 17), (1, .int (3 : Int32))]) (st' := [.ref 17]) rfl ?_
  refine w_cv (H.te (by decide) rfl).1 (pc' := 4) (L' := [(0, .ref 17), (1, .int (3 : Int32))]) (rest := []) (Ps := []) (L0 := [(0, .ref 17)]) h_m294 (z_at.mk 3 rfl rfl) (Or.inl ⟨rfl, rfl⟩) rfl rfl (by decide) (by decide) rfl rfl rfl rfl rfl rfl (by decide) rfl rfl rfl ?_
  refine w_p h_m299 3 (pc' := 7) (L' := [(0, .ref 17)]) (st' := [.ref 17]) rfl ?_
  refine w_gs H (pc' := 10) (L' := [(0, .ref 17)]) h_m299 (z_at.mk 3 rfl rfl) rfl (by decide) rfl rfl rfl rfl ?_
  refine w_p h_m299 3 (pc' := 18) (L' := []) (st' := [.int (1 : Int32)]) rfl ?_
  refine w_ri h_m299 (z_at.mk 1 rfl rfl) rfl rfl ?_
  show z_W 997 294 4 [(0, .ref 17), (1, .int (3 : Int32))] [.int (1 : Int32)] m _
  refine w_p h_m294 2 (pc' := 8) (L' := [(0, .ref 17), (1, .int (3 : Int32))]) (st' := [.ref 17]) rfl ?_
  refine w_gs H (pc' := 11) (L' := [(0, .ref 17), (1, .int (3 : Int32))]) h_m294 (z_at.mk 3 rfl rfl) rfl (by decide) rfl rfl rfl rfl ?_
  refine w_p h_m294 1 (pc' := 12) (L' := [(0, .ref 17), (1, .int (3 : Int32))]) (st' := [.int (3 : Int32), .ref 35]) rfl ?_
  refine w_cs (As := [.ref 35, .int (3 : Int32)]) (rest := []) (j := 308) (L0 := [(0, .ref 35), (1, .int (3 : Int32))]) (pc' := 15) (L' := [(0, .ref 17), (1, .int (3 : Int32))]) h_m294 (z_at.mk 3 rfl rfl) (Or.inl ⟨rfl, rfl⟩) rfl rfl rfl rfl rfl ?_
  refine w_p h_m308 2 (pc' := 2) (L' := [(0, .ref 35), (1, .int (3 : Int32))]) (st' := [.ref 35, .int (3 : Int32)]) rfl ?_
  refine w_lene H (x := (4 : Int32)) (pc' := 3) (L' := [(0, .ref 35), (1, .int (3 : Int32))]) h_m308 (z_at.mk 1 rfl rfl) (by decide) rfl (by decide) rfl rfl rfl ?_
  refine w_ci (pc' := 6) (L' := [(0, .ref 35), (1, .int (3 : Int32))]) h_m308 (z_at.mk 3 rfl rfl) rfl (z_cat_le 0 rfl (by decide)) ⟨by decide, by decide⟩ rfl rfl ?_
  refine w_p h_m308 2 (pc' := 8) (L' := [(0, .ref 35), (1, .int (3 : Int32))]) (st' := [.int (3 : Int32), .ref 35]) rfl ?_
  refine w_ae H (j := 3) (pc' := 9) (L' := [(0, .ref 35), (1, .int (3 : Int32))]) h_m308 (z_at.mk 1 rfl rfl) rfl rfl rfl (by decide) rfl (by decide) rfl rfl rfl ?_
  refine w_p h_m308 3 (pc' := 14) (L' := [(0, .ref 35), (1, .int (3 : Int32))]) (st' := [.int (32 : Int32)]) rfl ?_
  refine w_ri h_m308 (z_at.mk 1 rfl rfl) rfl rfl ?_
  show z_W 997 294 15 [(0, .ref 17), (1, .int (3 : Int32))] [.int (32 : Int32)] m _
  refine w_ri h_m294 (z_at.mk 1 rfl rfl) rfl rfl ?_
  show z_W 998 235 16 [(0, .ref 143), (1, .ref 17), (2, .int (3 : Int32))] [.int (32 : Int32), .ref 143] m _
  refine w_cv (H.t rfl) (pc' := 19) (L' := [(0, .ref 143), (1, .ref 17), (2, .int (3 : Int32))]) (rest := []) (Ps := [.int (32 : Int32)]) (L0 := [(0, .ref 143), (1, .int (32 : Int32))]) h_m235 (z_at.mk 3 rfl rfl) (Or.inl ⟨rfl, rfl⟩) rfl rfl (by decide) (by decide) rfl rfl rfl rfl rfl rfl (by decide) rfl rfl rfl ?_
  refine w_p h_m234 1 (pc' := 1) (L' := [(0, .ref 143), (1, .int (32 : Int32))]) (st' := [.ref 143]) rfl ?_
  refine w_gf H (pc' := 4) (L' := [(0, .ref 143), (1, .int (32 : Int32))]) h_m234 (z_at.mk 3 rfl rfl) rfl (u := .ref 163) rfl rfl rfl ?_
  refine w_p h_m234 1 (pc' := 5) (L' := [(0, .ref 143), (1, .int (32 : Int32))]) (st' := [.ref 143, .ref 163]) rfl ?_
  refine w_gf H (pc' := 8) (L' := [(0, .ref 143), (1, .int (32 : Int32))]) h_m234 (z_at.mk 3 rfl rfl) rfl (u := .int (3 : Int32)) rfl rfl rfl ?_
  refine w_p h_m234 1 (pc' := 9) (L' := [(0, .ref 143), (1, .int (32 : Int32))]) (st' := [.int (32 : Int32), .int (3 : Int32), .ref 163]) rfl ?_
  refine w_as H (t := 0) (j := 3) (u := .int (32 : Int32)) (0, 40000, [(3, .int (32 : Int32)), (2, .int (107 : Int32)), (1, .int (115 : Int32)), (0, .int (97 : Int32))], some (.int (0 : Int32))) (pc' := 10) (L' := [(0, .ref 143), (1, .int (32 : Int32))]) h_m234 (z_at.mk 1 rfl rfl) rfl rfl (w_ui _ _ (by decide)) rfl rfl rfl rfl ?_
  clear H m; intro m H
  refine w_p h_m234 2 (pc' := 12) (L' := [(0, .ref 143), (1, .int (32 : Int32))]) (st' := [.ref 143, .ref 143]) rfl ?_
  refine w_gf H (pc' := 15) (L' := [(0, .ref 143), (1, .int (32 : Int32))]) h_m234 (z_at.mk 3 rfl rfl) rfl (u := .int (3 : Int32)) rfl rfl rfl ?_
  refine w_p h_m234 2 (pc' := 17) (L' := [(0, .ref 143), (1, .int (32 : Int32))]) (st' := [.int (4 : Int32), .ref 143]) rfl ?_
  refine w_pf H (22, 35, [(29, .int (4 : Int32)), (10, .int (1 : Int32)), (34, .ref 167), (33, .ref 166), (31, .ref 165), (30, .ref 164), (28, .ref 163), (26, .ref 162), (25, .ref 161), (24, .ref 160), (19, .ref 159), (18, .ref 158), (17, .ref 157), (16, .ref 156), (13, .ref 155), (12, .ref 154), (11, .ref 153), (9, .ref 152), (8, .ref 151), (7, .ref 150), (5, .ref 149), (4, .ref 148), (3, .ref 147), (2, .ref 146), (1, .ref 145), (0, .ref 144), (6, .int (0 : Int32)), (14, .int (0 : Int32)), (15, .int (0 : Int32)), (20, .int (0 : Int32)), (21, .int (0 : Int32)), (22, .int (0 : Int32)), (23, .int (0 : Int32)), (27, .int (0 : Int32)), (32, .int (0 : Int32))], none) (pc' := 20) (L' := [(0, .ref 143), (1, .int (32 : Int32))]) h_m234 (z_at.mk 3 rfl rfl) rfl (by decide) rfl (Or.inl rfl) rfl rfl rfl ?_
  clear H m; intro m H
  refine w_rv h_m234 (z_at.mk 1 rfl rfl) rfl ?_
  show z_W 998 235 19 [(0, .ref 143), (1, .ref 17), (2, .int (3 : Int32))] [] m _
  refine w_p h_m235 4 (pc' := 4) (L' := [(0, .ref 143), (1, .ref 17), (2, .int (4 : Int32))]) (st' := [.ref 17, .int (4 : Int32)]) rfl ?_
  refine w_cv (H.te (by decide) rfl).1 (pc' := 7) (L' := [(0, .ref 143), (1, .ref 17), (2, .int (4 : Int32))]) (rest := [.int (4 : Int32)]) (Ps := []) (L0 := [(0, .ref 17)]) h_m235 (z_at.mk 3 rfl rfl) (Or.inl ⟨rfl, rfl⟩) rfl rfl (by decide) (by decide) rfl rfl rfl rfl rfl rfl (by decide) rfl rfl rfl ?_
  refine w_p h_m293 1 (pc' := 1) (L' := [(0, .ref 17)]) (st' := [.ref 17]) rfl ?_
  refine w_gs H (pc' := 4) (L' := [(0, .ref 17)]) h_m293 (z_at.mk 3 rfl rfl) rfl (by decide) rfl rfl rfl rfl ?_
  refine w_lene H (x := (4 : Int32)) (pc' := 5) (L' := [(0, .ref 17)]) h_m293 (z_at.mk 1 rfl rfl) (by decide) rfl (by decide) rfl rfl rfl ?_
  refine w_p h_m293 1 (pc' := 6) (L' := [(0, .ref 17)]) (st' := [.ref 17, .int (4 : Int32)]) rfl ?_
  refine w_cv (H.te (by decide) rfl).1 (pc' := 9) (L' := [(0, .ref 17)]) (rest := [.int (4 : Int32)]) (Ps := []) (L0 := [(0, .ref 17)]) h_m293 (z_at.mk 3 rfl rfl) (Or.inl ⟨rfl, rfl⟩) rfl rfl (by decide) (by decide) rfl rfl rfl rfl rfl rfl (by decide) rfl rfl rfl ?_
  refine w_p h_m298 3 (pc' := 7) (L' := [(0, .ref 17)]) (st' := [.ref 17]) rfl ?_
  refine w_gs H (pc' := 10) (L' := [(0, .ref 17)]) h_m298 (z_at.mk 3 rfl rfl) rfl (by decide) rfl rfl rfl rfl ?_
  refine w_p h_m298 1 (pc' := 14) (L' := []) (st' := [.int (0 : Int32)]) rfl ?_
  refine w_ri h_m298 (z_at.mk 1 rfl rfl) rfl rfl ?_
  show z_W 997 293 9 [(0, .ref 17)] [.int (0 : Int32), .int (4 : Int32)] m _
  refine w_p h_m293 1 (pc' := 10) (L' := [(0, .ref 17)]) (st' := [.int (4 : Int32)]) rfl ?_
  refine w_ri h_m293 (z_at.mk 1 rfl rfl) rfl rfl ?_
  show z_W 998 235 7 [(0, .ref 143), (1, .ref 17), (2, .int (4 : Int32))] [.int (4 : Int32), .int (4 : Int32)] m _
  refine w_p h_m235 1 (pc' := 25) (L' := [(0, .ref 143), (1, .ref 17), (2, .int (4 : Int32))]) (st' := []) rfl ?_
  refine w_rv h_m235 (z_at.mk 1 rfl rfl) rfl ?_
  show z_W 999 239 168 [(0, .ref 143), (5, .int (0 : Int32)), (6, .int (0 : Int32))] [] m _
  refine w_p h_m239 2 (pc' := 170) (L' := [(0, .ref 143), (5, .int (0 : Int32)), (6, .int (0 : Int32))]) (st' := [.ref 143, .ref 143]) rfl ?_
  refine w_gf H (pc' := 173) (L' := [(0, .ref 143), (5, .int (0 : Int32)), (6, .int (0 : Int32))]) h_m239 (z_at.mk 3 rfl rfl) rfl (u := .ref 150) rfl rfl rfl ?_
  refine w_p h_m239 3 (pc' := 177) (L' := [(0, .ref 143), (5, .int (0 : Int32)), (6, .int (0 : Int32))]) (st' := [.int (0 : Int32), .ref 150, .ref 143]) rfl ?_
  refine w_cv (H.t rfl) (pc' := 180) (L' := [(0, .ref 143), (5, .int (0 : Int32)), (6, .int (0 : Int32))]) (rest := []) (Ps := [.ref 150, .int (0 : Int32)]) (L0 := [(0, .ref 143), (1, .ref 150), (2, .int (0 : Int32))]) h_m239 (z_at.mk 3 rfl rfl) (Or.inl ⟨rfl, rfl⟩) rfl rfl (by decide) (by decide) rfl rfl rfl rfl rfl rfl (by decide) rfl rfl rfl ?_
  refine w_p h_m237 3 (pc' := 3) (L' := [(0, .ref 143), (1, .ref 150), (2, .int (0 : Int32))]) (st' := [.int (0 : Int32), .ref 150, .ref 143]) rfl ?_
  refine w_al H (t := 0) (j := 0) (pc' := 4) (L' := [(0, .ref 143), (1, .ref 150), (2, .int (0 : Int32))]) h_m237 (z_at.mk 1 rfl rfl) rfl rfl rfl (u := .int (xs 1)) rfl rfl rfl ?_
  refine w_cv (H.t rfl) (pc' := 7) (L' := [(0, .ref 143), (1, .ref 150), (2, .int (0 : Int32))]) (rest := []) (Ps := [.int (xs 1)]) (L0 := [(0, .ref 143), (1, .int (xs 1))]) h_m237 (z_at.mk 3 rfl rfl) (Or.inl ⟨rfl, rfl⟩) rfl rfl (by decide) (by decide) rfl rfl rfl rfl rfl rfl (by decide) rfl rfl rfl ?_
  refine w_p h_m236 2 (pc' := 3) (L' := [(0, .ref 143), (1, .int (xs 1))]) (st' := [.int (9 : Int32), .int (xs 1)]) rfl ?_
  refine w_t2 (pc' := 14) (L' := [(0, .ref 143), (1, .int (xs 1))]) h_m236 (z_at.mk 3 rfl rfl) rfl (zc (a := (xs 1).toInt) (b := 9) rfl rfl (decide_eq_true (by omega))) rfl rfl ?_
  refine w_p h_m236 6 (pc' := 22) (L' := [(0, .ref 143), (1, .int (xs 1))]) (st' := [.int ((48 : Int32) + ((xs 1) - (xs 1) / (10 : Int32) * (10 : Int32))), .ref 143]) rfl ?_
  refine w_cv (H.t rfl) (pc' := 25) (L' := [(0, .ref 143), (1, .int (xs 1))]) (rest := []) (Ps := [.int ((48 : Int32) + ((xs 1) - (xs 1) / (10 : Int32) * (10 : Int32)))]) (L0 := [(0, .ref 143), (1, .int ((48 : Int32) + ((xs 1) - (xs 1) / (10 : Int32) * (10 : Int32))))]) h_m236 (z_at.mk 3 rfl rfl) (Or.inl ⟨rfl, rfl⟩) rfl rfl (by decide) (by decide) rfl rfl rfl rfl rfl rfl (by decide) rfl rfl rfl ?_
  refine w_p h_m234 1 (pc' := 1) (L' := [(0, .ref 143), (1, .int ((48 : Int32) + ((xs 1) - (xs 1) / (10 : Int32) * (10 : Int32))))]) (st' := [.ref 143]) rfl ?_
  refine w_gf H (pc' := 4) (L' := [(0, .ref 143), (1, .int ((48 : Int32) + ((xs 1) - (xs 1) / (10 : Int32) * (10 : Int32))))]) h_m234 (z_at.mk 3 rfl rfl) rfl (u := .ref 163) rfl rfl rfl ?_
  refine w_p h_m234 1 (pc' := 5) (L' := [(0, .ref 143), (1, .int ((48 : Int32) + ((xs 1) - (xs 1) / (10 : Int32) * (10 : Int32))))]) (st' := [.ref 143, .ref 163]) rfl ?_
  refine w_gf H (pc' := 8) (L' := [(0, .ref 143), (1, .int ((48 : Int32) + ((xs 1) - (xs 1) / (10 : Int32) * (10 : Int32))))]) h_m234 (z_at.mk 3 rfl rfl) rfl (u := .int (4 : Int32)) rfl rfl rfl ?_
  refine w_p h_m234 1 (pc' := 9) (L' := [(0, .ref 143), (1, .int ((48 : Int32) + ((xs 1) - (xs 1) / (10 : Int32) * (10 : Int32))))]) (st' := [.int ((48 : Int32) + ((xs 1) - (xs 1) / (10 : Int32) * (10 : Int32))), .int (4 : Int32), .ref 163]) rfl ?_
  refine w_as H (t := 0) (j := 4) (u := .int ((48 : Int32) + ((xs 1) - (xs 1) / (10 : Int32) * (10 : Int32)))) (0, 40000, [(4, .int ((48 : Int32) + ((xs 1) - (xs 1) / (10 : Int32) * (10 : Int32)))), (3, .int (32 : Int32)), (2, .int (107 : Int32)), (1, .int (115 : Int32)), (0, .int (97 : Int32))], some (.int (0 : Int32))) (pc' := 10) (L' := [(0, .ref 143), (1, .int ((48 : Int32) + ((xs 1) - (xs 1) / (10 : Int32) * (10 : Int32))))]) h_m234 (z_at.mk 1 rfl rfl) rfl rfl (w_ui _ _ (by decide)) rfl rfl rfl rfl ?_
  clear H m; intro m H
  refine w_p h_m234 2 (pc' := 12) (L' := [(0, .ref 143), (1, .int ((48 : Int32) + ((xs 1) - (xs 1) / (10 : Int32) * (10 : Int32))))]) (st' := [.ref 143, .ref 143]) rfl ?_
  refine w_gf H (pc' := 15) (L' := [(0, .ref 143), (1, .int ((48 : Int32) + ((xs 1) - (xs 1) / (10 : Int32) * (10 : Int32))))]) h_m234 (z_at.mk 3 rfl rfl) rfl (u := .int (4 : Int32)) rfl rfl rfl ?_
  refine w_p h_m234 2 (pc' := 17) (L' := [(0, .ref 143), (1, .int ((48 : Int32) + ((xs 1) - (xs 1) / (10 : Int32) * (10 : Int32))))]) (st' := [.int (5 : Int32), .ref 143]) rfl ?_
  refine w_pf H (22, 35, [(29, .int (5 : Int32)), (10, .int (1 : Int32)), (34, .ref 167), (33, .ref 166), (31, .ref 165), (30, .ref 164), (28, .ref 163), (26, .ref 162), (25, .ref 161), (24, .ref 160), (19, .ref 159), (18, .ref 158), (17, .ref 157), (16, .ref 156), (13, .ref 155), (12, .ref 154), (11, .ref 153), (9, .ref 152), (8, .ref 151), (7, .ref 150), (5, .ref 149), (4, .ref 148), (3, .ref 147), (2, .ref 146), (1, .ref 145), (0, .ref 144), (6, .int (0 : Int32)), (14, .int (0 : Int32)), (15, .int (0 : Int32)), (20, .int (0 : Int32)), (21, .int (0 : Int32)), (22, .int (0 : Int32)), (23, .int (0 : Int32)), (27, .int (0 : Int32)), (32, .int (0 : Int32))], none) (pc' := 20) (L' := [(0, .ref 143), (1, .int ((48 : Int32) + ((xs 1) - (xs 1) / (10 : Int32) * (10 : Int32))))]) h_m234 (z_at.mk 3 rfl rfl) rfl (by decide) rfl (Or.inl rfl) rfl rfl rfl ?_
  clear H m; intro m H
  refine w_rv h_m234 (z_at.mk 1 rfl rfl) rfl ?_
  show z_W 997 236 25 [(0, .ref 143), (1, .int (xs 1))] [] m _
  refine w_rv h_m236 (z_at.mk 1 rfl rfl) rfl ?_
  show z_W 998 237 7 [(0, .ref 143), (1, .ref 150), (2, .int (0 : Int32))] [] m _
  refine w_p h_m237 2 (pc' := 10) (L' := [(0, .ref 143), (1, .ref 150), (2, .int (0 : Int32))]) (st' := [.int (45 : Int32), .ref 143]) rfl ?_
  refine w_cv (H.t rfl) (pc' := 13) (L' := [(0, .ref 143), (1, .ref 150), (2, .int (0 : Int32))]) (rest := []) (Ps := [.int (45 : Int32)]) (L0 := [(0, .ref 143), (1, .int (45 : Int32))]) h_m237 (z_at.mk 3 rfl rfl) (Or.inl ⟨rfl, rfl⟩) rfl rfl (by decide) (by decide) rfl rfl rfl rfl rfl rfl (by decide) rfl rfl rfl ?_
  refine w_p h_m234 1 (pc' := 1) (L' := [(0, .ref 143), (1, .int (45 : Int32))]) (st' := [.ref 143]) rfl ?_
  refine w_gf H (pc' := 4) (L' := [(0, .ref 143), (1, .int (45 : Int32))]) h_m234 (z_at.mk 3 rfl rfl) rfl (u := .ref 163) rfl rfl rfl ?_
  refine w_p h_m234 1 (pc' := 5) (L' := [(0, .ref 143), (1, .int (45 : Int32))]) (st' := [.ref 143, .ref 163]) rfl ?_
  refine w_gf H (pc' := 8) (L' := [(0, .ref 143), (1, .int (45 : Int32))]) h_m234 (z_at.mk 3 rfl rfl) rfl (u := .int (5 : Int32)) rfl rfl rfl ?_
  refine w_p h_m234 1 (pc' := 9) (L' := [(0, .ref 143), (1, .int (45 : Int32))]) (st' := [.int (45 : Int32), .int (5 : Int32), .ref 163]) rfl ?_
  refine w_as H (t := 0) (j := 5) (u := .int (45 : Int32)) (0, 40000, [(5, .int (45 : Int32)), (4, .int ((48 : Int32) + ((xs 1) - (xs 1) / (10 : Int32) * (10 : Int32)))), (3, .int (32 : Int32)), (2, .int (107 : Int32)), (1, .int (115 : Int32)), (0, .int (97 : Int32))], some (.int (0 : Int32))) (pc' := 10) (L' := [(0, .ref 143), (1, .int (45 : Int32))]) h_m234 (z_at.mk 1 rfl rfl) rfl rfl (w_ui _ _ (by decide)) rfl rfl rfl rfl ?_
  clear H m; intro m H
  refine w_p h_m234 2 (pc' := 12) (L' := [(0, .ref 143), (1, .int (45 : Int32))]) (st' := [.ref 143, .ref 143]) rfl ?_
  refine w_gf H (pc' := 15) (L' := [(0, .ref 143), (1, .int (45 : Int32))]) h_m234 (z_at.mk 3 rfl rfl) rfl (u := .int (5 : Int32)) rfl rfl rfl ?_
  refine w_p h_m234 2 (pc' := 17) (L' := [(0, .ref 143), (1, .int (45 : Int32))]) (st' := [.int (6 : Int32), .ref 143]) rfl ?_
  refine w_pf H (22, 35, [(29, .int (6 : Int32)), (10, .int (1 : Int32)), (34, .ref 167), (33, .ref 166), (31, .ref 165), (30, .ref 164), (28, .ref 163), (26, .ref 162), (25, .ref 161), (24, .ref 160), (19, .ref 159), (18, .ref 158), (17, .ref 157), (16, .ref 156), (13, .ref 155), (12, .ref 154), (11, .ref 153), (9, .ref 152), (8, .ref 151), (7, .ref 150), (5, .ref 149), (4, .ref 148), (3, .ref 147), (2, .ref 146), (1, .ref 145), (0, .ref 144), (6, .int (0 : Int32)), (14, .int (0 : Int32)), (15, .int (0 : Int32)), (20, .int (0 : Int32)), (21, .int (0 : Int32)), (22, .int (0 : Int32)), (23, .int (0 : Int32)), (27, .int (0 : Int32)), (32, .int (0 : Int32))], none) (pc' := 20) (L' := [(0, .ref 143), (1, .int (45 : Int32))]) h_m234 (z_at.mk 3 rfl rfl) rfl (by decide) rfl (Or.inl rfl) rfl rfl rfl ?_
  clear H m; intro m H
  refine w_rv h_m234 (z_at.mk 1 rfl rfl) rfl ?_
  show z_W 998 237 13 [(0, .ref 143), (1, .ref 150), (2, .int (0 : Int32))] [] m _
  refine w_p h_m237 5 (pc' := 18) (L' := [(0, .ref 143), (1, .ref 150), (2, .int (0 : Int32))]) (st' := [.int (1 : Int32), .ref 150, .ref 143]) rfl ?_
  refine w_al H (t := 0) (j := 1) (pc' := 19) (L' := [(0, .ref 143), (1, .ref 150), (2, .int (0 : Int32))]) h_m237 (z_at.mk 1 rfl rfl) rfl rfl rfl (u := .int (xs 2)) rfl rfl rfl ?_
  refine w_cv (H.t rfl) (pc' := 22) (L' := [(0, .ref 143), (1, .ref 150), (2, .int (0 : Int32))]) (rest := []) (Ps := [.int (xs 2)]) (L0 := [(0, .ref 143), (1, .int (xs 2))]) h_m237 (z_at.mk 3 rfl rfl) (Or.inl ⟨rfl, rfl⟩) rfl rfl (by decide) (by decide) rfl rfl rfl rfl rfl rfl (by decide) rfl rfl rfl ?_
  refine w_p h_m236 2 (pc' := 3) (L' := [(0, .ref 143), (1, .int (xs 2))]) (st' := [.int (9 : Int32), .int (xs 2)]) rfl ?_
  refine w_f2 (pc' := 6) (L' := [(0, .ref 143), (1, .int (xs 2))]) h_m236 (z_at.mk 3 rfl rfl) rfl (zc (a := (xs 2).toInt) (b := 9) rfl rfl (decide_eq_false (by omega))) rfl rfl ?_
  refine w_p h_m236 4 (pc' := 11) (L' := [(0, .ref 143), (1, .int (xs 2))]) (st' := [.int ((xs 2) / (10 : Int32)), .ref 143]) rfl ?_
  have k_21 := zi_div (x := xs 2) (y := (10 : Int32)) (a := (xs 2).toInt) (b := 10) rfl rfl (by omega) (by omega)
  refine w_cv (H.t rfl) (pc' := 14) (L' := [(0, .ref 143), (1, .int (xs 2))]) (rest := []) (Ps := [.int ((xs 2) / (10 : Int32))]) (L0 := [(0, .ref 143), (1, .int ((xs 2) / (10 : Int32)))]) h_m236 (z_at.mk 3 rfl rfl) (Or.inl ⟨rfl, rfl⟩) rfl rfl (by decide) (by decide) rfl rfl rfl rfl rfl rfl (by decide) rfl rfl rfl ?_
  refine w_p h_m236 2 (pc' := 3) (L' := [(0, .ref 143), (1, .int ((xs 2) / (10 : Int32)))]) (st' := [.int (9 : Int32), .int ((xs 2) / (10 : Int32))]) rfl ?_
  refine w_t2 (pc' := 14) (L' := [(0, .ref 143), (1, .int ((xs 2) / (10 : Int32)))]) h_m236 (z_at.mk 3 rfl rfl) rfl (zc (a := ((xs 2) / (10 : Int32)).toInt) (b := 9) rfl rfl (decide_eq_true (by omega))) rfl rfl ?_
  refine w_p h_m236 6 (pc' := 22) (L' := [(0, .ref 143), (1, .int ((xs 2) / (10 : Int32)))]) (st' := [.int ((48 : Int32) + (((xs 2) / (10 : Int32)) - ((xs 2) / (10 : Int32)) / (10 : Int32) * (10 : Int32))), .ref 143]) rfl ?_
  refine w_cv (H.t rfl) (pc' := 25) (L' := [(0, .ref 143), (1, .int ((xs 2) / (10 : Int32)))]) (rest := []) (Ps := [.int ((48 : Int32) + (((xs 2) / (10 : Int32)) - ((xs 2) / (10 : Int32)) / (10 : Int32) * (10 : Int32)))]) (L0 := [(0, .ref 143), (1, .int ((48 : Int32) + (((xs 2) / (10 : Int32)) - ((xs 2) / (10 : Int32)) / (10 : Int32) * (10 : Int32))))]) h_m236 (z_at.mk 3 rfl rfl) (Or.inl ⟨rfl, rfl⟩) rfl rfl (by decide) (by decide) rfl rfl rfl rfl rfl rfl (by decide) rfl rfl rfl ?_
  refine w_p h_m234 1 (pc' := 1) (L' := [(0, .ref 143), (1, .int ((48 : Int32) + (((xs 2) / (10 : Int32)) - ((xs 2) / (10 : Int32)) / (10 : Int32) * (10 : Int32))))]) (st' := [.ref 143]) rfl ?_
  refine w_gf H (pc' := 4) (L' := [(0, .ref 143), (1, .int ((48 : Int32) + (((xs 2) / (10 : Int32)) - ((xs 2) / (10 : Int32)) / (10 : Int32) * (10 : Int32))))]) h_m234 (z_at.mk 3 rfl rfl) rfl (u := .ref 163) rfl rfl rfl ?_
  refine w_p h_m234 1 (pc' := 5) (L' := [(0, .ref 143), (1, .int ((48 : Int32) + (((xs 2) / (10 : Int32)) - ((xs 2) / (10 : Int32)) / (10 : Int32) * (10 : Int32))))]) (st' := [.ref 143, .ref 163]) rfl ?_
  refine w_gf H (pc' := 8) (L' := [(0, .ref 143), (1, .int ((48 : Int32) + (((xs 2) / (10 : Int32)) - ((xs 2) / (10 : Int32)) / (10 : Int32) * (10 : Int32))))]) h_m234 (z_at.mk 3 rfl rfl) rfl (u := .int (6 : Int32)) rfl rfl rfl ?_
  refine w_p h_m234 1 (pc' := 9) (L' := [(0, .ref 143), (1, .int ((48 : Int32) + (((xs 2) / (10 : Int32)) - ((xs 2) / (10 : Int32)) / (10 : Int32) * (10 : Int32))))]) (st' := [.int ((48 : Int32) + (((xs 2) / (10 : Int32)) - ((xs 2) / (10 : Int32)) / (10 : Int32) * (10 : Int32))), .int (6 : Int32), .ref 163]) rfl ?_
  refine w_as H (t := 0) (j := 6) (u := .int ((48 : Int32) + (((xs 2) / (10 : Int32)) - ((xs 2) / (10 : Int32)) / (10 : Int32) * (10 : Int32)))) (0, 40000, [(6, .int ((48 : Int32) + (((xs 2) / (10 : Int32)) - ((xs 2) / (10 : Int32)) / (10 : Int32) * (10 : Int32)))), (5, .int (45 : Int32)), (4, .int ((48 : Int32) + ((xs 1) - (xs 1) / (10 : Int32) * (10 : Int32)))), (3, .int (32 : Int32)), (2, .int (107 : Int32)), (1, .int (115 : Int32)), (0, .int (97 : Int32))], some (.int (0 : Int32))) (pc' := 10) (L' := [(0, .ref 143), (1, .int ((48 : Int32) + (((xs 2) / (10 : Int32)) - ((xs 2) / (10 : Int32)) / (10 : Int32) * (10 : Int32))))]) h_m234 (z_at.mk 1 rfl rfl) rfl rfl (w_ui _ _ (by decide)) rfl rfl rfl rfl ?_
  clear H m; intro m H
  refine w_p h_m234 2 (pc' := 12) (L' := [(0, .ref 143), (1, .int ((48 : Int32) + (((xs 2) / (10 : Int32)) - ((xs 2) / (10 : Int32)) / (10 : Int32) * (10 : Int32))))]) (st' := [.ref 143, .ref 143]) rfl ?_
  refine w_gf H (pc' := 15) (L' := [(0, .ref 143), (1, .int ((48 : Int32) + (((xs 2) / (10 : Int32)) - ((xs 2) / (10 : Int32)) / (10 : Int32) * (10 : Int32))))]) h_m234 (z_at.mk 3 rfl rfl) rfl (u := .int (6 : Int32)) rfl rfl rfl ?_
  refine w_p h_m234 2 (pc' := 17) (L' := [(0, .ref 143), (1, .int ((48 : Int32) + (((xs 2) / (10 : Int32)) - ((xs 2) / (10 : Int32)) / (10 : Int32) * (10 : Int32))))]) (st' := [.int (7 : Int32), .ref 143]) rfl ?_
  refine w_pf H (22, 35, [(29, .int (7 : Int32)), (10, .int (1 : Int32)), (34, .ref 167), (33, .ref 166), (31, .ref 165), (30, .ref 164), (28, .ref 163), (26, .ref 162), (25, .ref 161), (24, .ref 160), (19, .ref 159), (18, .ref 158), (17, .ref 157), (16, .ref 156), (13, .ref 155), (12, .ref 154), (11, .ref 153), (9, .ref 152), (8, .ref 151), (7, .ref 150), (5, .ref 149), (4, .ref 148), (3, .ref 147), (2, .ref 146), (1, .ref 145), (0, .ref 144), (6, .int (0 : Int32)), (14, .int (0 : Int32)), (15, .int (0 : Int32)), (20, .int (0 : Int32)), (21, .int (0 : Int32)), (22, .int (0 : Int32)), (23, .int (0 : Int32)), (27, .int (0 : Int32)), (32, .int (0 : Int32))], none) (pc' := 20) (L' := [(0, .ref 143), (1, .int ((48 : Int32) + (((xs 2) / (10 : Int32)) - ((xs 2) / (10 : Int32)) / (10 : Int32) * (10 : Int32))))]) h_m234 (z_at.mk 3 rfl rfl) rfl (by decide) rfl (Or.inl rfl) rfl rfl rfl ?_
  clear H m; intro m H
  refine w_rv h_m234 (z_at.mk 1 rfl rfl) rfl ?_
  show z_W 996 236 25 [(0, .ref 143), (1, .int ((xs 2) / (10 : Int32)))] [] m _
  refine w_rv h_m236 (z_at.mk 1 rfl rfl) rfl ?_
  show z_W 997 236 14 [(0, .ref 143), (1, .int (xs 2))] [] m _
  refine w_p h_m236 6 (pc' := 22) (L' := [(0, .ref 143), (1, .int (xs 2))]) (st' := [.int ((48 : Int32) + ((xs 2) - (xs 2) / (10 : Int32) * (10 : Int32))), .ref 143]) rfl ?_
  refine w_cv (H.t rfl) (pc' := 25) (L' := [(0, .ref 143), (1, .int (xs 2))]) (rest := []) (Ps := [.int ((48 : Int32) + ((xs 2) - (xs 2) / (10 : Int32) * (10 : Int32)))]) (L0 := [(0, .ref 143), (1, .int ((48 : Int32) + ((xs 2) - (xs 2) / (10 : Int32) * (10 : Int32))))]) h_m236 (z_at.mk 3 rfl rfl) (Or.inl ⟨rfl, rfl⟩) rfl rfl (by decide) (by decide) rfl rfl rfl rfl rfl rfl (by decide) rfl rfl rfl ?_
  refine w_p h_m234 1 (pc' := 1) (L' := [(0, .ref 143), (1, .int ((48 : Int32) + ((xs 2) - (xs 2) / (10 : Int32) * (10 : Int32))))]) (st' := [.ref 143]) rfl ?_
  refine w_gf H (pc' := 4) (L' := [(0, .ref 143), (1, .int ((48 : Int32) + ((xs 2) - (xs 2) / (10 : Int32) * (10 : Int32))))]) h_m234 (z_at.mk 3 rfl rfl) rfl (u := .ref 163) rfl rfl rfl ?_
  refine w_p h_m234 1 (pc' := 5) (L' := [(0, .ref 143), (1, .int ((48 : Int32) + ((xs 2) - (xs 2) / (10 : Int32) * (10 : Int32))))]) (st' := [.ref 143, .ref 163]) rfl ?_
  refine w_gf H (pc' := 8) (L' := [(0, .ref 143), (1, .int ((48 : Int32) + ((xs 2) - (xs 2) / (10 : Int32) * (10 : Int32))))]) h_m234 (z_at.mk 3 rfl rfl) rfl (u := .int (7 : Int32)) rfl rfl rfl ?_
  refine w_p h_m234 1 (pc' := 9) (L' := [(0, .ref 143), (1, .int ((48 : Int32) + ((xs 2) - (xs 2) / (10 : Int32) * (10 : Int32))))]) (st' := [.int ((48 : Int32) + ((xs 2) - (xs 2) / (10 : Int32) * (10 : Int32))), .int (7 : Int32), .ref 163]) rfl ?_
  refine w_as H (t := 0) (j := 7) (u := .int ((48 : Int32) + ((xs 2) - (xs 2) / (10 : Int32) * (10 : Int32)))) (0, 40000, [(7, .int ((48 : Int32) + ((xs 2) - (xs 2) / (10 : Int32) * (10 : Int32)))), (6, .int ((48 : Int32) + (((xs 2) / (10 : Int32)) - ((xs 2) / (10 : Int32)) / (10 : Int32) * (10 : Int32)))), (5, .int (45 : Int32)), (4, .int ((48 : Int32) + ((xs 1) - (xs 1) / (10 : Int32) * (10 : Int32)))), (3, .int (32 : Int32)), (2, .int (107 : Int32)), (1, .int (115 : Int32)), (0, .int (97 : Int32))], some (.int (0 : Int32))) (pc' := 10) (L' := [(0, .ref 143), (1, .int ((48 : Int32) + ((xs 2) - (xs 2) / (10 : Int32) * (10 : Int32))))]) h_m234 (z_at.mk 1 rfl rfl) rfl rfl (w_ui _ _ (by decide)) rfl rfl rfl rfl ?_
  clear H m; intro m H
  refine w_p h_m234 2 (pc' := 12) (L' := [(0, .ref 143), (1, .int ((48 : Int32) + ((xs 2) - (xs 2) / (10 : Int32) * (10 : Int32))))]) (st' := [.ref 143, .ref 143]) rfl ?_
  refine w_gf H (pc' := 15) (L' := [(0, .ref 143), (1, .int ((48 : Int32) + ((xs 2) - (xs 2) / (10 : Int32) * (10 : Int32))))]) h_m234 (z_at.mk 3 rfl rfl) rfl (u := .int (7 : Int32)) rfl rfl rfl ?_
  refine w_p h_m234 2 (pc' := 17) (L' := [(0, .ref 143), (1, .int ((48 : Int32) + ((xs 2) - (xs 2) / (10 : Int32) * (10 : Int32))))]) (st' := [.int (8 : Int32), .ref 143]) rfl ?_
  refine w_pf H (22, 35, [(29, .int (8 : Int32)), (10, .int (1 : Int32)), (34, .ref 167), (33, .ref 166), (31, .ref 165), (30, .ref 164), (28, .ref 163), (26, .ref 162), (25, .ref 161), (24, .ref 160), (19, .ref 159), (18, .ref 158), (17, .ref 157), (16, .ref 156), (13, .ref 155), (12, .ref 154), (11, .ref 153), (9, .ref 152), (8, .ref 151), (7, .ref 150), (5, .ref 149), (4, .ref 148), (3, .ref 147), (2, .ref 146), (1, .ref 145), (0, .ref 144), (6, .int (0 : Int32)), (14, .int (0 : Int32)), (15, .int (0 : Int32)), (20, .int (0 : Int32)), (21, .int (0 : Int32)), (22, .int (0 : Int32)), (23, .int (0 : Int32)), (27, .int (0 : Int32)), (32, .int (0 : Int32))], none) (pc' := 20) (L' := [(0, .ref 143), (1, .int ((48 : Int32) + ((xs 2) - (xs 2) / (10 : Int32) * (10 : Int32))))]) h_m234 (z_at.mk 3 rfl rfl) rfl (by decide) rfl (Or.inl rfl) rfl rfl rfl ?_
  clear H m; intro m H
  refine w_rv h_m234 (z_at.mk 1 rfl rfl) rfl ?_
  show z_W 997 236 25 [(0, .ref 143), (1, .int (xs 2))] [] m _
  refine w_rv h_m236 (z_at.mk 1 rfl rfl) rfl ?_
  show z_W 998 237 22 [(0, .ref 143), (1, .ref 150), (2, .int (0 : Int32))] [] m _
  refine w_p h_m237 2 (pc' := 25) (L' := [(0, .ref 143), (1, .ref 150), (2, .int (0 : Int32))]) (st' := [.int (44 : Int32), .ref 143]) rfl ?_
  refine w_cv (H.t rfl) (pc' := 28) (L' := [(0, .ref 143), (1, .ref 150), (2, .int (0 : Int32))]) (rest := []) (Ps := [.int (44 : Int32)]) (L0 := [(0, .ref 143), (1, .int (44 : Int32))]) h_m237 (z_at.mk 3 rfl rfl) (Or.inl ⟨rfl, rfl⟩) rfl rfl (by decide) (by decide) rfl rfl rfl rfl rfl rfl (by decide) rfl rfl rfl ?_
  refine w_p h_m234 1 (pc' := 1) (L' := [(0, .ref 143), (1, .int (44 : Int32))]) (st' := [.ref 143]) rfl ?_
  refine w_gf H (pc' := 4) (L' := [(0, .ref 143), (1, .int (44 : Int32))]) h_m234 (z_at.mk 3 rfl rfl) rfl (u := .ref 163) rfl rfl rfl ?_
  refine w_p h_m234 1 (pc' := 5) (L' := [(0, .ref 143), (1, .int (44 : Int32))]) (st' := [.ref 143, .ref 163]) rfl ?_
  refine w_gf H (pc' := 8) (L' := [(0, .ref 143), (1, .int (44 : Int32))]) h_m234 (z_at.mk 3 rfl rfl) rfl (u := .int (8 : Int32)) rfl rfl rfl ?_
  refine w_p h_m234 1 (pc' := 9) (L' := [(0, .ref 143), (1, .int (44 : Int32))]) (st' := [.int (44 : Int32), .int (8 : Int32), .ref 163]) rfl ?_
  refine w_as H (t := 0) (j := 8) (u := .int (44 : Int32)) (0, 40000, [(8, .int (44 : Int32)), (7, .int ((48 : Int32) + ((xs 2) - (xs 2) / (10 : Int32) * (10 : Int32)))), (6, .int ((48 : Int32) + (((xs 2) / (10 : Int32)) - ((xs 2) / (10 : Int32)) / (10 : Int32) * (10 : Int32)))), (5, .int (45 : Int32)), (4, .int ((48 : Int32) + ((xs 1) - (xs 1) / (10 : Int32) * (10 : Int32)))), (3, .int (32 : Int32)), (2, .int (107 : Int32)), (1, .int (115 : Int32)), (0, .int (97 : Int32))], some (.int (0 : Int32))) (pc' := 10) (L' := [(0, .ref 143), (1, .int (44 : Int32))]) h_m234 (z_at.mk 1 rfl rfl) rfl rfl (w_ui _ _ (by decide)) rfl rfl rfl rfl ?_
  clear H m; intro m H
  refine w_p h_m234 2 (pc' := 12) (L' := [(0, .ref 143), (1, .int (44 : Int32))]) (st' := [.ref 143, .ref 143]) rfl ?_
  refine w_gf H (pc' := 15) (L' := [(0, .ref 143), (1, .int (44 : Int32))]) h_m234 (z_at.mk 3 rfl rfl) rfl (u := .int (8 : Int32)) rfl rfl rfl ?_
  refine w_p h_m234 2 (pc' := 17) (L' := [(0, .ref 143), (1, .int (44 : Int32))]) (st' := [.int (9 : Int32), .ref 143]) rfl ?_
  refine w_pf H (22, 35, [(29, .int (9 : Int32)), (10, .int (1 : Int32)), (34, .ref 167), (33, .ref 166), (31, .ref 165), (30, .ref 164), (28, .ref 163), (26, .ref 162), (25, .ref 161), (24, .ref 160), (19, .ref 159), (18, .ref 158), (17, .ref 157), (16, .ref 156), (13, .ref 155), (12, .ref 154), (11, .ref 153), (9, .ref 152), (8, .ref 151), (7, .ref 150), (5, .ref 149), (4, .ref 148), (3, .ref 147), (2, .ref 146), (1, .ref 145), (0, .ref 144), (6, .int (0 : Int32)), (14, .int (0 : Int32)), (15, .int (0 : Int32)), (20, .int (0 : Int32)), (21, .int (0 : Int32)), (22, .int (0 : Int32)), (23, .int (0 : Int32)), (27, .int (0 : Int32)), (32, .int (0 : Int32))], none) (pc' := 20) (L' := [(0, .ref 143), (1, .int (44 : Int32))]) h_m234 (z_at.mk 3 rfl rfl) rfl (by decide) rfl (Or.inl rfl) rfl rfl rfl ?_
  clear H m; intro m H
  refine w_rv h_m234 (z_at.mk 1 rfl rfl) rfl ?_
  show z_W 998 237 28 [(0, .ref 143), (1, .ref 150), (2, .int (0 : Int32))] [] m _
  refine w_p h_m237 5 (pc' := 33) (L' := [(0, .ref 143), (1, .ref 150), (2, .int (0 : Int32))]) (st' := [.int (2 : Int32), .ref 150, .ref 143]) rfl ?_
  refine w_al H (t := 0) (j := 2) (pc' := 34) (L' := [(0, .ref 143), (1, .ref 150), (2, .int (0 : Int32))]) h_m237 (z_at.mk 1 rfl rfl) rfl rfl rfl (u := .int (xs 3)) rfl rfl rfl ?_
  refine w_cv (H.t rfl) (pc' := 37) (L' := [(0, .ref 143), (1, .ref 150), (2, .int (0 : Int32))]) (rest := []) (Ps := [.int (xs 3)]) (L0 := [(0, .ref 143), (1, .int (xs 3))]) h_m237 (z_at.mk 3 rfl rfl) (Or.inl ⟨rfl, rfl⟩) rfl rfl (by decide) (by decide) rfl rfl rfl rfl rfl rfl (by decide) rfl rfl rfl ?_
  refine w_p h_m236 2 (pc' := 3) (L' := [(0, .ref 143), (1, .int (xs 3))]) (st' := [.int (9 : Int32), .int (xs 3)]) rfl ?_
  refine w_t2 (pc' := 14) (L' := [(0, .ref 143), (1, .int (xs 3))]) h_m236 (z_at.mk 3 rfl rfl) rfl (zc (a := (xs 3).toInt) (b := 9) rfl rfl (decide_eq_true (by omega))) rfl rfl ?_
  refine w_p h_m236 6 (pc' := 22) (L' := [(0, .ref 143), (1, .int (xs 3))]) (st' := [.int ((48 : Int32) + ((xs 3) - (xs 3) / (10 : Int32) * (10 : Int32))), .ref 143]) rfl ?_
  refine w_cv (H.t rfl) (pc' := 25) (L' := [(0, .ref 143), (1, .int (xs 3))]) (rest := []) (Ps := [.int ((48 : Int32) + ((xs 3) - (xs 3) / (10 : Int32) * (10 : Int32)))]) (L0 := [(0, .ref 143), (1, .int ((48 : Int32) + ((xs 3) - (xs 3) / (10 : Int32) * (10 : Int32))))]) h_m236 (z_at.mk 3 rfl rfl) (Or.inl ⟨rfl, rfl⟩) rfl rfl (by decide) (by decide) rfl rfl rfl rfl rfl rfl (by decide) rfl rfl rfl ?_
  refine w_p h_m234 1 (pc' := 1) (L' := [(0, .ref 143), (1, .int ((48 : Int32) + ((xs 3) - (xs 3) / (10 : Int32) * (10 : Int32))))]) (st' := [.ref 143]) rfl ?_
  refine w_gf H (pc' := 4) (L' := [(0, .ref 143), (1, .int ((48 : Int32) + ((xs 3) - (xs 3) / (10 : Int32) * (10 : Int32))))]) h_m234 (z_at.mk 3 rfl rfl) rfl (u := .ref 163) rfl rfl rfl ?_
  refine w_p h_m234 1 (pc' := 5) (L' := [(0, .ref 143), (1, .int ((48 : Int32) + ((xs 3) - (xs 3) / (10 : Int32) * (10 : Int32))))]) (st' := [.ref 143, .ref 163]) rfl ?_
  refine w_gf H (pc' := 8) (L' := [(0, .ref 143), (1, .int ((48 : Int32) + ((xs 3) - (xs 3) / (10 : Int32) * (10 : Int32))))]) h_m234 (z_at.mk 3 rfl rfl) rfl (u := .int (9 : Int32)) rfl rfl rfl ?_
  refine w_p h_m234 1 (pc' := 9) (L' := [(0, .ref 143), (1, .int ((48 : Int32) + ((xs 3) - (xs 3) / (10 : Int32) * (10 : Int32))))]) (st' := [.int ((48 : Int32) + ((xs 3) - (xs 3) / (10 : Int32) * (10 : Int32))), .int (9 : Int32), .ref 163]) rfl ?_
  refine w_as H (t := 0) (j := 9) (u := .int ((48 : Int32) + ((xs 3) - (xs 3) / (10 : Int32) * (10 : Int32)))) (0, 40000, [(9, .int ((48 : Int32) + ((xs 3) - (xs 3) / (10 : Int32) * (10 : Int32)))), (8, .int (44 : Int32)), (7, .int ((48 : Int32) + ((xs 2) - (xs 2) / (10 : Int32) * (10 : Int32)))), (6, .int ((48 : Int32) + (((xs 2) / (10 : Int32)) - ((xs 2) / (10 : Int32)) / (10 : Int32) * (10 : Int32)))), (5, .int (45 : Int32)), (4, .int ((48 : Int32) + ((xs 1) - (xs 1) / (10 : Int32) * (10 : Int32)))), (3, .int (32 : Int32)), (2, .int (107 : Int32)), (1, .int (115 : Int32)), (0, .int (97 : Int32))], some (.int (0 : Int32))) (pc' := 10) (L' := [(0, .ref 143), (1, .int ((48 : Int32) + ((xs 3) - (xs 3) / (10 : Int32) * (10 : Int32))))]) h_m234 (z_at.mk 1 rfl rfl) rfl rfl (w_ui _ _ (by decide)) rfl rfl rfl rfl ?_
  clear H m; intro m H
  refine w_p h_m234 2 (pc' := 12) (L' := [(0, .ref 143), (1, .int ((48 : Int32) + ((xs 3) - (xs 3) / (10 : Int32) * (10 : Int32))))]) (st' := [.ref 143, .ref 143]) rfl ?_
  refine w_gf H (pc' := 15) (L' := [(0, .ref 143), (1, .int ((48 : Int32) + ((xs 3) - (xs 3) / (10 : Int32) * (10 : Int32))))]) h_m234 (z_at.mk 3 rfl rfl) rfl (u := .int (9 : Int32)) rfl rfl rfl ?_
  refine w_p h_m234 2 (pc' := 17) (L' := [(0, .ref 143), (1, .int ((48 : Int32) + ((xs 3) - (xs 3) / (10 : Int32) * (10 : Int32))))]) (st' := [.int (10 : Int32), .ref 143]) rfl ?_
  refine w_pf H (22, 35, [(29, .int (10 : Int32)), (10, .int (1 : Int32)), (34, .ref 167), (33, .ref 166), (31, .ref 165), (30, .ref 164), (28, .ref 163), (26, .ref 162), (25, .ref 161), (24, .ref 160), (19, .ref 159), (18, .ref 158), (17, .ref 157), (16, .ref 156), (13, .ref 155), (12, .ref 154), (11, .ref 153), (9, .ref 152), (8, .ref 151), (7, .ref 150), (5, .ref 149), (4, .ref 148), (3, .ref 147), (2, .ref 146), (1, .ref 145), (0, .ref 144), (6, .int (0 : Int32)), (14, .int (0 : Int32)), (15, .int (0 : Int32)), (20, .int (0 : Int32)), (21, .int (0 : Int32)), (22, .int (0 : Int32)), (23, .int (0 : Int32)), (27, .int (0 : Int32)), (32, .int (0 : Int32))], none) (pc' := 20) (L' := [(0, .ref 143), (1, .int ((48 : Int32) + ((xs 3) - (xs 3) / (10 : Int32) * (10 : Int32))))]) h_m234 (z_at.mk 3 rfl rfl) rfl (by decide) rfl (Or.inl rfl) rfl rfl rfl ?_
  clear H m; intro m H
  refine w_rv h_m234 (z_at.mk 1 rfl rfl) rfl ?_
  show z_W 997 236 25 [(0, .ref 143), (1, .int (xs 3))] [] m _
  refine w_rv h_m236 (z_at.mk 1 rfl rfl) rfl ?_
  show z_W 998 237 37 [(0, .ref 143), (1, .ref 150), (2, .int (0 : Int32))] [] m _
  refine w_p h_m237 2 (pc' := 40) (L' := [(0, .ref 143), (1, .ref 150), (2, .int (0 : Int32))]) (st' := [.int (45 : Int32), .ref 143]) rfl ?_
  refine w_cv (H.t rfl) (pc' := 43) (L' := [(0, .ref 143), (1, .ref 150), (2, .int (0 : Int32))]) (rest := []) (Ps := [.int (45 : Int32)]) (L0 := [(0, .ref 143), (1, .int (45 : Int32))]) h_m237 (z_at.mk 3 rfl rfl) (Or.inl ⟨rfl, rfl⟩) rfl rfl (by decide) (by decide) rfl rfl rfl rfl rfl rfl (by decide) rfl rfl rfl ?_
  refine w_p h_m234 1 (pc' := 1) (L' := [(0, .ref 143), (1, .int (45 : Int32))]) (st' := [.ref 143]) rfl ?_
  refine w_gf H (pc' := 4) (L' := [(0, .ref 143), (1, .int (45 : Int32))]) h_m234 (z_at.mk 3 rfl rfl) rfl (u := .ref 163) rfl rfl rfl ?_
  refine w_p h_m234 1 (pc' := 5) (L' := [(0, .ref 143), (1, .int (45 : Int32))]) (st' := [.ref 143, .ref 163]) rfl ?_
  refine w_gf H (pc' := 8) (L' := [(0, .ref 143), (1, .int (45 : Int32))]) h_m234 (z_at.mk 3 rfl rfl) rfl (u := .int (10 : Int32)) rfl rfl rfl ?_
  refine w_p h_m234 1 (pc' := 9) (L' := [(0, .ref 143), (1, .int (45 : Int32))]) (st' := [.int (45 : Int32), .int (10 : Int32), .ref 163]) rfl ?_
  refine w_as H (t := 0) (j := 10) (u := .int (45 : Int32)) (0, 40000, [(10, .int (45 : Int32)), (9, .int ((48 : Int32) + ((xs 3) - (xs 3) / (10 : Int32) * (10 : Int32)))), (8, .int (44 : Int32)), (7, .int ((48 : Int32) + ((xs 2) - (xs 2) / (10 : Int32) * (10 : Int32)))), (6, .int ((48 : Int32) + (((xs 2) / (10 : Int32)) - ((xs 2) / (10 : Int32)) / (10 : Int32) * (10 : Int32)))), (5, .int (45 : Int32)), (4, .int ((48 : Int32) + ((xs 1) - (xs 1) / (10 : Int32) * (10 : Int32)))), (3, .int (32 : Int32)), (2, .int (107 : Int32)), (1, .int (115 : Int32)), (0, .int (97 : Int32))], some (.int (0 : Int32))) (pc' := 10) (L' := [(0, .ref 143), (1, .int (45 : Int32))]) h_m234 (z_at.mk 1 rfl rfl) rfl rfl (w_ui _ _ (by decide)) rfl rfl rfl rfl ?_
  clear H m; intro m H
  refine w_p h_m234 2 (pc' := 12) (L' := [(0, .ref 143), (1, .int (45 : Int32))]) (st' := [.ref 143, .ref 143]) rfl ?_
  refine w_gf H (pc' := 15) (L' := [(0, .ref 143), (1, .int (45 : Int32))]) h_m234 (z_at.mk 3 rfl rfl) rfl (u := .int (10 : Int32)) rfl rfl rfl ?_
  refine w_p h_m234 2 (pc' := 17) (L' := [(0, .ref 143), (1, .int (45 : Int32))]) (st' := [.int (11 : Int32), .ref 143]) rfl ?_
  refine w_pf H (22, 35, [(29, .int (11 : Int32)), (10, .int (1 : Int32)), (34, .ref 167), (33, .ref 166), (31, .ref 165), (30, .ref 164), (28, .ref 163), (26, .ref 162), (25, .ref 161), (24, .ref 160), (19, .ref 159), (18, .ref 158), (17, .ref 157), (16, .ref 156), (13, .ref 155), (12, .ref 154), (11, .ref 153), (9, .ref 152), (8, .ref 151), (7, .ref 150), (5, .ref 149), (4, .ref 148), (3, .ref 147), (2, .ref 146), (1, .ref 145), (0, .ref 144), (6, .int (0 : Int32)), (14, .int (0 : Int32)), (15, .int (0 : Int32)), (20, .int (0 : Int32)), (21, .int (0 : Int32)), (22, .int (0 : Int32)), (23, .int (0 : Int32)), (27, .int (0 : Int32)), (32, .int (0 : Int32))], none) (pc' := 20) (L' := [(0, .ref 143), (1, .int (45 : Int32))]) h_m234 (z_at.mk 3 rfl rfl) rfl (by decide) rfl (Or.inl rfl) rfl rfl rfl ?_
  clear H m; intro m H
  refine w_rv h_m234 (z_at.mk 1 rfl rfl) rfl ?_
  show z_W 998 237 43 [(0, .ref 143), (1, .ref 150), (2, .int (0 : Int32))] [] m _
  refine w_p h_m237 5 (pc' := 48) (L' := [(0, .ref 143), (1, .ref 150), (2, .int (0 : Int32))]) (st' := [.int (3 : Int32), .ref 150, .ref 143]) rfl ?_
  refine w_al H (t := 0) (j := 3) (pc' := 49) (L' := [(0, .ref 143), (1, .ref 150), (2, .int (0 : Int32))]) h_m237 (z_at.mk 1 rfl rfl) rfl rfl rfl (u := .int (xs 4)) rfl rfl rfl ?_
  refine w_cv (H.t rfl) (pc' := 52) (L' := [(0, .ref 143), (1, .ref 150), (2, .int (0 : Int32))]) (rest := []) (Ps := [.int (xs 4)]) (L0 := [(0, .ref 143), (1, .int (xs 4))]) h_m237 (z_at.mk 3 rfl rfl) (Or.inl ⟨rfl, rfl⟩) rfl rfl (by decide) (by decide) rfl rfl rfl rfl rfl rfl (by decide) rfl rfl rfl ?_
  refine w_p h_m236 2 (pc' := 3) (L' := [(0, .ref 143), (1, .int (xs 4))]) (st' := [.int (9 : Int32), .int (xs 4)]) rfl ?_
  refine w_f2 (pc' := 6) (L' := [(0, .ref 143), (1, .int (xs 4))]) h_m236 (z_at.mk 3 rfl rfl) rfl (zc (a := (xs 4).toInt) (b := 9) rfl rfl (decide_eq_false (by omega))) rfl rfl ?_
  refine w_p h_m236 4 (pc' := 11) (L' := [(0, .ref 143), (1, .int (xs 4))]) (st' := [.int ((xs 4) / (10 : Int32)), .ref 143]) rfl ?_
  have k_22 := zi_div (x := xs 4) (y := (10 : Int32)) (a := (xs 4).toInt) (b := 10) rfl rfl (by omega) (by omega)
  refine w_cv (H.t rfl) (pc' := 14) (L' := [(0, .ref 143), (1, .int (xs 4))]) (rest := []) (Ps := [.int ((xs 4) / (10 : Int32))]) (L0 := [(0, .ref 143), (1, .int ((xs 4) / (10 : Int32)))]) h_m236 (z_at.mk 3 rfl rfl) (Or.inl ⟨rfl, rfl⟩) rfl rfl (by decide) (by decide) rfl rfl rfl rfl rfl rfl (by decide) rfl rfl rfl ?_
  refine w_p h_m236 2 (pc' := 3) (L' := [(0, .ref 143), (1, .int ((xs 4) / (10 : Int32)))]) (st' := [.int (9 : Int32), .int ((xs 4) / (10 : Int32))]) rfl ?_
  refine w_t2 (pc' := 14) (L' := [(0, .ref 143), (1, .int ((xs 4) / (10 : Int32)))]) h_m236 (z_at.mk 3 rfl rfl) rfl (zc (a := ((xs 4) / (10 : Int32)).toInt) (b := 9) rfl rfl (decide_eq_true (by omega))) rfl rfl ?_
  refine w_p h_m236 6 (pc' := 22) (L' := [(0, .ref 143), (1, .int ((xs 4) / (10 : Int32)))]) (st' := [.int ((48 : Int32) + (((xs 4) / (10 : Int32)) - ((xs 4) / (10 : Int32)) / (10 : Int32) * (10 : Int32))), .ref 143]) rfl ?_
  refine w_cv (H.t rfl) (pc' := 25) (L' := [(0, .ref 143), (1, .int ((xs 4) / (10 : Int32)))]) (rest := []) (Ps := [.int ((48 : Int32) + (((xs 4) / (10 : Int32)) - ((xs 4) / (10 : Int32)) / (10 : Int32) * (10 : Int32)))]) (L0 := [(0, .ref 143), (1, .int ((48 : Int32) + (((xs 4) / (10 : Int32)) - ((xs 4) / (10 : Int32)) / (10 : Int32) * (10 : Int32))))]) h_m236 (z_at.mk 3 rfl rfl) (Or.inl ⟨rfl, rfl⟩) rfl rfl (by decide) (by decide) rfl rfl rfl rfl rfl rfl (by decide) rfl rfl rfl ?_
  refine w_p h_m234 1 (pc' := 1) (L' := [(0, .ref 143), (1, .int ((48 : Int32) + (((xs 4) / (10 : Int32)) - ((xs 4) / (10 : Int32)) / (10 : Int32) * (10 : Int32))))]) (st' := [.ref 143]) rfl ?_
  refine w_gf H (pc' := 4) (L' := [(0, .ref 143), (1, .int ((48 : Int32) + (((xs 4) / (10 : Int32)) - ((xs 4) / (10 : Int32)) / (10 : Int32) * (10 : Int32))))]) h_m234 (z_at.mk 3 rfl rfl) rfl (u := .ref 163) rfl rfl rfl ?_
  refine w_p h_m234 1 (pc' := 5) (L' := [(0, .ref 143), (1, .int ((48 : Int32) + (((xs 4) / (10 : Int32)) - ((xs 4) / (10 : Int32)) / (10 : Int32) * (10 : Int32))))]) (st' := [.ref 143, .ref 163]) rfl ?_
  refine w_gf H (pc' := 8) (L' := [(0, .ref 143), (1, .int ((48 : Int32) + (((xs 4) / (10 : Int32)) - ((xs 4) / (10 : Int32)) / (10 : Int32) * (10 : Int32))))]) h_m234 (z_at.mk 3 rfl rfl) rfl (u := .int (11 : Int32)) rfl rfl rfl ?_
  refine w_p h_m234 1 (pc' := 9) (L' := [(0, .ref 143), (1, .int ((48 : Int32) + (((xs 4) / (10 : Int32)) - ((xs 4) / (10 : Int32)) / (10 : Int32) * (10 : Int32))))]) (st' := [.int ((48 : Int32) + (((xs 4) / (10 : Int32)) - ((xs 4) / (10 : Int32)) / (10 : Int32) * (10 : Int32))), .int (11 : Int32), .ref 163]) rfl ?_
  refine w_as H (t := 0) (j := 11) (u := .int ((48 : Int32) + (((xs 4) / (10 : Int32)) - ((xs 4) / (10 : Int32)) / (10 : Int32) * (10 : Int32)))) (0, 40000, [(11, .int ((48 : Int32) + (((xs 4) / (10 : Int32)) - ((xs 4) / (10 : Int32)) / (10 : Int32) * (10 : Int32)))), (10, .int (45 : Int32)), (9, .int ((48 : Int32) + ((xs 3) - (xs 3) / (10 : Int32) * (10 : Int32)))), (8, .int (44 : Int32)), (7, .int ((48 : Int32) + ((xs 2) - (xs 2) / (10 : Int32) * (10 : Int32)))), (6, .int ((48 : Int32) + (((xs 2) / (10 : Int32)) - ((xs 2) / (10 : Int32)) / (10 : Int32) * (10 : Int32)))), (5, .int (45 : Int32)), (4, .int ((48 : Int32) + ((xs 1) - (xs 1) / (10 : Int32) * (10 : Int32)))), (3, .int (32 : Int32)), (2, .int (107 : Int32)), (1, .int (115 : Int32)), (0, .int (97 : Int32))], some (.int (0 : Int32))) (pc' := 10) (L' := [(0, .ref 143), (1, .int ((48 : Int32) + (((xs 4) / (10 : Int32)) - ((xs 4) / (10 : Int32)) / (10 : Int32) * (10 : Int32))))]) h_m234 (z_at.mk 1 rfl rfl) rfl rfl (w_ui _ _ (by decide)) rfl rfl rfl rfl ?_
  clear H m; intro m H
  refine w_p h_m234 2 (pc' := 12) (L' := [(0, .ref 143), (1, .int ((48 : Int32) + (((xs 4) / (10 : Int32)) - ((xs 4) / (10 : Int32)) / (10 : Int32) * (10 : Int32))))]) (st' := [.ref 143, .ref 143]) rfl ?_
  refine w_gf H (pc' := 15) (L' := [(0, .ref 143), (1, .int ((48 : Int32) + (((xs 4) / (10 : Int32)) - ((xs 4) / (10 : Int32)) / (10 : Int32) * (10 : Int32))))]) h_m234 (z_at.mk 3 rfl rfl) rfl (u := .int (11 : Int32)) rfl rfl rfl ?_
  refine w_p h_m234 2 (pc' := 17) (L' := [(0, .ref 143), (1, .int ((48 : Int32) + (((xs 4) / (10 : Int32)) - ((xs 4) / (10 : Int32)) / (10 : Int32) * (10 : Int32))))]) (st' := [.int (12 : Int32), .ref 143]) rfl ?_
  refine w_pf H (22, 35, [(29, .int (12 : Int32)), (10, .int (1 : Int32)), (34, .ref 167), (33, .ref 166), (31, .ref 165), (30, .ref 164), (28, .ref 163), (26, .ref 162), (25, .ref 161), (24, .ref 160), (19, .ref 159), (18, .ref 158), (17, .ref 157), (16, .ref 156), (13, .ref 155), (12, .ref 154), (11, .ref 153), (9, .ref 152), (8, .ref 151), (7, .ref 150), (5, .ref 149), (4, .ref 148), (3, .ref 147), (2, .ref 146), (1, .ref 145), (0, .ref 144), (6, .int (0 : Int32)), (14, .int (0 : Int32)), (15, .int (0 : Int32)), (20, .int (0 : Int32)), (21, .int (0 : Int32)), (22, .int (0 : Int32)), (23, .int (0 : Int32)), (27, .int (0 : Int32)), (32, .int (0 : Int32))], none) (pc' := 20) (L' := [(0, .ref 143), (1, .int ((48 : Int32) + (((xs 4) / (10 : Int32)) - ((xs 4) / (10 : Int32)) / (10 : Int32) * (10 : Int32))))]) h_m234 (z_at.mk 3 rfl rfl) rfl (by decide) rfl (Or.inl rfl) rfl rfl rfl ?_
  clear H m; intro m H
  refine w_rv h_m234 (z_at.mk 1 rfl rfl) rfl ?_
  show z_W 996 236 25 [(0, .ref 143), (1, .int ((xs 4) / (10 : Int32)))] [] m _
  refine w_rv h_m236 (z_at.mk 1 rfl rfl) rfl ?_
  show z_W 997 236 14 [(0, .ref 143), (1, .int (xs 4))] [] m _
  refine w_p h_m236 6 (pc' := 22) (L' := [(0, .ref 143), (1, .int (xs 4))]) (st' := [.int ((48 : Int32) + ((xs 4) - (xs 4) / (10 : Int32) * (10 : Int32))), .ref 143]) rfl ?_
  refine w_cv (H.t rfl) (pc' := 25) (L' := [(0, .ref 143), (1, .int (xs 4))]) (rest := []) (Ps := [.int ((48 : Int32) + ((xs 4) - (xs 4) / (10 : Int32) * (10 : Int32)))]) (L0 := [(0, .ref 143), (1, .int ((48 : Int32) + ((xs 4) - (xs 4) / (10 : Int32) * (10 : Int32))))]) h_m236 (z_at.mk 3 rfl rfl) (Or.inl ⟨rfl, rfl⟩) rfl rfl (by decide) (by decide) rfl rfl rfl rfl rfl rfl (by decide) rfl rfl rfl ?_
  refine w_p h_m234 1 (pc' := 1) (L' := [(0, .ref 143), (1, .int ((48 : Int32) + ((xs 4) - (xs 4) / (10 : Int32) * (10 : Int32))))]) (st' := [.ref 143]) rfl ?_
  refine w_gf H (pc' := 4) (L' := [(0, .ref 143), (1, .int ((48 : Int32) + ((xs 4) - (xs 4) / (10 : Int32) * (10 : Int32))))]) h_m234 (z_at.mk 3 rfl rfl) rfl (u := .ref 163) rfl rfl rfl ?_
  refine w_p h_m234 1 (pc' := 5) (L' := [(0, .ref 143), (1, .int ((48 : Int32) + ((xs 4) - (xs 4) / (10 : Int32) * (10 : Int32))))]) (st' := [.ref 143, .ref 163]) rfl ?_
  refine w_gf H (pc' := 8) (L' := [(0, .ref 143), (1, .int ((48 : Int32) + ((xs 4) - (xs 4) / (10 : Int32) * (10 : Int32))))]) h_m234 (z_at.mk 3 rfl rfl) rfl (u := .int (12 : Int32)) rfl rfl rfl ?_
  refine w_p h_m234 1 (pc' := 9) (L' := [(0, .ref 143), (1, .int ((48 : Int32) + ((xs 4) - (xs 4) / (10 : Int32) * (10 : Int32))))]) (st' := [.int ((48 : Int32) + ((xs 4) - (xs 4) / (10 : Int32) * (10 : Int32))), .int (12 : Int32), .ref 163]) rfl ?_
  refine w_as H (t := 0) (j := 12) (u := .int ((48 : Int32) + ((xs 4) - (xs 4) / (10 : Int32) * (10 : Int32)))) (0, 40000, [(12, .int ((48 : Int32) + ((xs 4) - (xs 4) / (10 : Int32) * (10 : Int32)))), (11, .int ((48 : Int32) + (((xs 4) / (10 : Int32)) - ((xs 4) / (10 : Int32)) / (10 : Int32) * (10 : Int32)))), (10, .int (45 : Int32)), (9, .int ((48 : Int32) + ((xs 3) - (xs 3) / (10 : Int32) * (10 : Int32)))), (8, .int (44 : Int32)), (7, .int ((48 : Int32) + ((xs 2) - (xs 2) / (10 : Int32) * (10 : Int32)))), (6, .int ((48 : Int32) + (((xs 2) / (10 : Int32)) - ((xs 2) / (10 : Int32)) / (10 : Int32) * (10 : Int32)))), (5, .int (45 : Int32)), (4, .int ((48 : Int32) + ((xs 1) - (xs 1) / (10 : Int32) * (10 : Int32)))), (3, .int (32 : Int32)), (2, .int (107 : Int32)), (1, .int (115 : Int32)), (0, .int (97 : Int32))], some (.int (0 : Int32))) (pc' := 10) (L' := [(0, .ref 143), (1, .int ((48 : Int32) + ((xs 4) - (xs 4) / (10 : Int32) * (10 : Int32))))]) h_m234 (z_at.mk 1 rfl rfl) rfl rfl (w_ui _ _ (by decide)) rfl rfl rfl rfl ?_
  clear H m; intro m H
  refine w_p h_m234 2 (pc' := 12) (L' := [(0, .ref 143), (1, .int ((48 : Int32) + ((xs 4) - (xs 4) / (10 : Int32) * (10 : Int32))))]) (st' := [.ref 143, .ref 143]) rfl ?_
  refine w_gf H (pc' := 15) (L' := [(0, .ref 143), (1, .int ((48 : Int32) + ((xs 4) - (xs 4) / (10 : Int32) * (10 : Int32))))]) h_m234 (z_at.mk 3 rfl rfl) rfl (u := .int (12 : Int32)) rfl rfl rfl ?_
  refine w_p h_m234 2 (pc' := 17) (L' := [(0, .ref 143), (1, .int ((48 : Int32) + ((xs 4) - (xs 4) / (10 : Int32) * (10 : Int32))))]) (st' := [.int (13 : Int32), .ref 143]) rfl ?_
  refine w_pf H (22, 35, [(29, .int (13 : Int32)), (10, .int (1 : Int32)), (34, .ref 167), (33, .ref 166), (31, .ref 165), (30, .ref 164), (28, .ref 163), (26, .ref 162), (25, .ref 161), (24, .ref 160), (19, .ref 159), (18, .ref 158), (17, .ref 157), (16, .ref 156), (13, .ref 155), (12, .ref 154), (11, .ref 153), (9, .ref 152), (8, .ref 151), (7, .ref 150), (5, .ref 149), (4, .ref 148), (3, .ref 147), (2, .ref 146), (1, .ref 145), (0, .ref 144), (6, .int (0 : Int32)), (14, .int (0 : Int32)), (15, .int (0 : Int32)), (20, .int (0 : Int32)), (21, .int (0 : Int32)), (22, .int (0 : Int32)), (23, .int (0 : Int32)), (27, .int (0 : Int32)), (32, .int (0 : Int32))], none) (pc' := 20) (L' := [(0, .ref 143), (1, .int ((48 : Int32) + ((xs 4) - (xs 4) / (10 : Int32) * (10 : Int32))))]) h_m234 (z_at.mk 3 rfl rfl) rfl (by decide) rfl (Or.inl rfl) rfl rfl rfl ?_
  clear H m; intro m H
  refine w_rv h_m234 (z_at.mk 1 rfl rfl) rfl ?_
  show z_W 997 236 25 [(0, .ref 143), (1, .int (xs 4))] [] m _
  refine w_rv h_m236 (z_at.mk 1 rfl rfl) rfl ?_
  show z_W 998 237 52 [(0, .ref 143), (1, .ref 150), (2, .int (0 : Int32))] [] m _
  refine w_rv h_m237 (z_at.mk 1 rfl rfl) rfl ?_
  show z_W 999 239 180 [(0, .ref 143), (5, .int (0 : Int32)), (6, .int (0 : Int32))] [] m _
  refine w_p h_m239 2 (pc' := 183) (L' := [(0, .ref 143), (5, .int (0 : Int32)), (6, .int (0 : Int32))]) (st' := [.int (32 : Int32), .ref 143]) rfl ?_
  refine w_cv (H.t rfl) (pc' := 186) (L' := [(0, .ref 143), (5, .int (0 : Int32)), (6, .int (0 : Int32))]) (rest := []) (Ps := [.int (32 : Int32)]) (L0 := [(0, .ref 143), (1, .int (32 : Int32))]) h_m239 (z_at.mk 3 rfl rfl) (Or.inl ⟨rfl, rfl⟩) rfl rfl (by decide) (by decide) rfl rfl rfl rfl rfl rfl (by decide) rfl rfl rfl ?_
  refine w_p h_m234 1 (pc' := 1) (L' := [(0, .ref 143), (1, .int (32 : Int32))]) (st' := [.ref 143]) rfl ?_
  refine w_gf H (pc' := 4) (L' := [(0, .ref 143), (1, .int (32 : Int32))]) h_m234 (z_at.mk 3 rfl rfl) rfl (u := .ref 163) rfl rfl rfl ?_
  refine w_p h_m234 1 (pc' := 5) (L' := [(0, .ref 143), (1, .int (32 : Int32))]) (st' := [.ref 143, .ref 163]) rfl ?_
  refine w_gf H (pc' := 8) (L' := [(0, .ref 143), (1, .int (32 : Int32))]) h_m234 (z_at.mk 3 rfl rfl) rfl (u := .int (13 : Int32)) rfl rfl rfl ?_
  refine w_p h_m234 1 (pc' := 9) (L' := [(0, .ref 143), (1, .int (32 : Int32))]) (st' := [.int (32 : Int32), .int (13 : Int32), .ref 163]) rfl ?_
  refine w_as H (t := 0) (j := 13) (u := .int (32 : Int32)) (0, 40000, [(13, .int (32 : Int32)), (12, .int ((48 : Int32) + ((xs 4) - (xs 4) / (10 : Int32) * (10 : Int32)))), (11, .int ((48 : Int32) + (((xs 4) / (10 : Int32)) - ((xs 4) / (10 : Int32)) / (10 : Int32) * (10 : Int32)))), (10, .int (45 : Int32)), (9, .int ((48 : Int32) + ((xs 3) - (xs 3) / (10 : Int32) * (10 : Int32)))), (8, .int (44 : Int32)), (7, .int ((48 : Int32) + ((xs 2) - (xs 2) / (10 : Int32) * (10 : Int32)))), (6, .int ((48 : Int32) + (((xs 2) / (10 : Int32)) - ((xs 2) / (10 : Int32)) / (10 : Int32) * (10 : Int32)))), (5, .int (45 : Int32)), (4, .int ((48 : Int32) + ((xs 1) - (xs 1) / (10 : Int32) * (10 : Int32)))), (3, .int (32 : Int32)), (2, .int (107 : Int32)), (1, .int (115 : Int32)), (0, .int (97 : Int32))], some (.int (0 : Int32))) (pc' := 10) (L' := [(0, .ref 143), (1, .int (32 : Int32))]) h_m234 (z_at.mk 1 rfl rfl) rfl rfl (w_ui _ _ (by decide)) rfl rfl rfl rfl ?_
  clear H m; intro m H
  refine w_p h_m234 2 (pc' := 12) (L' := [(0, .ref 143), (1, .int (32 : Int32))]) (st' := [.ref 143, .ref 143]) rfl ?_
  refine w_gf H (pc' := 15) (L' := [(0, .ref 143), (1, .int (32 : Int32))]) h_m234 (z_at.mk 3 rfl rfl) rfl (u := .int (13 : Int32)) rfl rfl rfl ?_
  refine w_p h_m234 2 (pc' := 17) (L' := [(0, .ref 143), (1, .int (32 : Int32))]) (st' := [.int (14 : Int32), .ref 143]) rfl ?_
  refine w_pf H (22, 35, [(29, .int (14 : Int32)), (10, .int (1 : Int32)), (34, .ref 167), (33, .ref 166), (31, .ref 165), (30, .ref 164), (28, .ref 163), (26, .ref 162), (25, .ref 161), (24, .ref 160), (19, .ref 159), (18, .ref 158), (17, .ref 157), (16, .ref 156), (13, .ref 155), (12, .ref 154), (11, .ref 153), (9, .ref 152), (8, .ref 151), (7, .ref 150), (5, .ref 149), (4, .ref 148), (3, .ref 147), (2, .ref 146), (1, .ref 145), (0, .ref 144), (6, .int (0 : Int32)), (14, .int (0 : Int32)), (15, .int (0 : Int32)), (20, .int (0 : Int32)), (21, .int (0 : Int32)), (22, .int (0 : Int32)), (23, .int (0 : Int32)), (27, .int (0 : Int32)), (32, .int (0 : Int32))], none) (pc' := 20) (L' := [(0, .ref 143), (1, .int (32 : Int32))]) h_m234 (z_at.mk 3 rfl rfl) rfl (by decide) rfl (Or.inl rfl) rfl rfl rfl ?_
  clear H m; intro m H
  refine w_rv h_m234 (z_at.mk 1 rfl rfl) rfl ?_
  show z_W 999 239 186 [(0, .ref 143), (5, .int (0 : Int32)), (6, .int (0 : Int32))] [] m _
  refine w_p h_m239 3 (pc' := 189) (L' := [(0, .ref 143), (5, .int (0 : Int32)), (6, .int (0 : Int32))]) (st' := [.ref 143, .ref 143, .ref 143]) rfl ?_
  refine w_gf H (pc' := 192) (L' := [(0, .ref 143), (5, .int (0 : Int32)), (6, .int (0 : Int32))]) h_m239 (z_at.mk 3 rfl rfl) rfl (u := .ref 150) rfl rfl rfl ?_
  refine w_p h_m239 3 (pc' := 196) (L' := [(0, .ref 143), (5, .int (0 : Int32)), (6, .int (0 : Int32))]) (st' := [.int (0 : Int32), .ref 150, .ref 143, .ref 143]) rfl ?_
  refine w_cv (H.t rfl) (pc' := 199) (L' := [(0, .ref 143), (5, .int (0 : Int32)), (6, .int (0 : Int32))]) (rest := [.ref 143]) (Ps := [.ref 150, .int (0 : Int32)]) (L0 := [(0, .ref 143), (1, .ref 150), (2, .int (0 : Int32))]) h_m239 (z_at.mk 3 rfl rfl) (Or.inl ⟨rfl, rfl⟩) rfl rfl (by decide) (by decide) rfl rfl rfl rfl rfl rfl (by decide) rfl rfl rfl ?_
  refine w_p h_m177 1 (pc' := 1) (L' := [(0, .ref 143), (1, .ref 150), (2, .int (0 : Int32))]) (st' := [.ref 143]) rfl ?_
  refine w_gf H (pc' := 4) (L' := [(0, .ref 143), (1, .ref 150), (2, .int (0 : Int32))]) h_m177 (z_at.mk 3 rfl rfl) rfl (u := .ref 144) rfl rfl rfl ?_
  refine w_p h_m177 1 (pc' := 6) (L' := [(0, .ref 143), (1, .ref 150), (2, .int (0 : Int32))]) (st' := [.int (11 : Int32), .ref 144]) rfl ?_
  refine w_al H (t := 0) (j := 11) (pc' := 7) (L' := [(0, .ref 143), (1, .ref 150), (2, .int (0 : Int32))]) h_m177 (z_at.mk 1 rfl rfl) rfl rfl rfl (u := .int (10 : Int32)) rfl rfl rfl ?_
  refine w_p h_m177 3 (pc' := 10) (L' := [(0, .ref 143), (1, .ref 150), (2, .int (0 : Int32))]) (st' := [.int (0 : Int32), .ref 150, .ref 143, .int (10 : Int32)]) rfl ?_
  refine w_cv (H.t rfl) (pc' := 13) (L' := [(0, .ref 143), (1, .ref 150), (2, .int (0 : Int32))]) (rest := [.int (10 : Int32)]) (Ps := [.ref 150, .int (0 : Int32)]) (L0 := [(0, .ref 143), (1, .ref 150), (2, .int (0 : Int32))]) h_m177 (z_at.mk 3 rfl rfl) (Or.inl ⟨rfl, rfl⟩) rfl rfl (by decide) (by decide) rfl rfl rfl rfl rfl rfl (by decide) rfl rfl rfl ?_
  refine w_ri0 H rfl rfl rfl ?_
  clear H m; intro m H
  show z_W 998 177 13 [(0, .ref 143), (1, .ref 150), (2, .int (0 : Int32))] [.int (0 : Int32), .int (10 : Int32)] m _
  refine w_p h_m177 1 (pc' := 14) (L' := [(0, .ref 143), (1, .ref 150), (2, .int (0 : Int32))]) (st' := [.int (10 : Int32)]) rfl ?_
  refine w_ri h_m177 (z_at.mk 1 rfl rfl) rfl rfl ?_
  show z_W 999 239 199 [(0, .ref 143), (5, .int (0 : Int32)), (6, .int (0 : Int32))] [.int (10 : Int32), .ref 143] m _
  refine w_cv (H.t rfl) (pc' := 202) (L' := [(0, .ref 143), (5, .int (0 : Int32)), (6, .int (0 : Int32))]) (rest := []) (Ps := [.int (10 : Int32)]) (L0 := [(0, .ref 143), (1, .int (10 : Int32))]) h_m239 (z_at.mk 3 rfl rfl) (Or.inl ⟨rfl, rfl⟩) rfl rfl (by decide) (by decide) rfl rfl rfl rfl rfl rfl (by decide) rfl rfl rfl ?_
  refine w_p h_m236 7 (pc' := 11) (L' := [(0, .ref 143), (1, .int (10 : Int32))]) (st' := [.int (1 : Int32), .ref 143]) rfl ?_
  refine w_cv (H.t rfl) (pc' := 14) (L' := [(0, .ref 143), (1, .int (10 : Int32))]) (rest := []) (Ps := [.int (1 : Int32)]) (L0 := [(0, .ref 143), (1, .int (1 : Int32))]) h_m236 (z_at.mk 3 rfl rfl) (Or.inl ⟨rfl, rfl⟩) rfl rfl (by decide) (by decide) rfl rfl rfl rfl rfl rfl (by decide) rfl rfl rfl ?_
  refine w_p h_m236 9 (pc' := 22) (L' := [(0, .ref 143), (1, .int (1 : Int32))]) (st' := [.int (49 : Int32), .ref 143]) rfl ?_
  refine w_cv (H.t rfl) (pc' := 25) (L' := [(0, .ref 143), (1, .int (1 : Int32))]) (rest := []) (Ps := [.int (49 : Int32)]) (L0 := [(0, .ref 143), (1, .int (49 : Int32))]) h_m236 (z_at.mk 3 rfl rfl) (Or.inl ⟨rfl, rfl⟩) rfl rfl (by decide) (by decide) rfl rfl rfl rfl rfl rfl (by decide) rfl rfl rfl ?_
  refine w_p h_m234 1 (pc' := 1) (L' := [(0, .ref 143), (1, .int (49 : Int32))]) (st' := [.ref 143]) rfl ?_
  refine w_gf H (pc' := 4) (L' := [(0, .ref 143), (1, .int (49 : Int32))]) h_m234 (z_at.mk 3 rfl rfl) rfl (u := .ref 163) rfl rfl rfl ?_
  refine w_p h_m234 1 (pc' := 5) (L' := [(0, .ref 143), (1, .int (49 : Int32))]) (st' := [.ref 143, .ref 163]) rfl ?_
  refine w_gf H (pc' := 8) (L' := [(0, .ref 143), (1, .int (49 : Int32))]) h_m234 (z_at.mk 3 rfl rfl) rfl (u := .int (14 : Int32)) rfl rfl rfl ?_
  refine w_p h_m234 1 (pc' := 9) (L' := [(0, .ref 143), (1, .int (49 : Int32))]) (st' := [.int (49 : Int32), .int (14 : Int32), .ref 163]) rfl ?_
  refine w_as H (t := 0) (j := 14) (u := .int (49 : Int32)) (0, 40000, [(14, .int (49 : Int32)), (13, .int (32 : Int32)), (12, .int ((48 : Int32) + ((xs 4) - (xs 4) / (10 : Int32) * (10 : Int32)))), (11, .int ((48 : Int32) + (((xs 4) / (10 : Int32)) - ((xs 4) / (10 : Int32)) / (10 : Int32) * (10 : Int32)))), (10, .int (45 : Int32)), (9, .int ((48 : Int32) + ((xs 3) - (xs 3) / (10 : Int32) * (10 : Int32)))), (8, .int (44 : Int32)), (7, .int ((48 : Int32) + ((xs 2) - (xs 2) / (10 : Int32) * (10 : Int32)))), (6, .int ((48 : Int32) + (((xs 2) / (10 : Int32)) - ((xs 2) / (10 : Int32)) / (10 : Int32) * (10 : Int32)))), (5, .int (45 : Int32)), (4, .int ((48 : Int32) + ((xs 1) - (xs 1) / (10 : Int32) * (10 : Int32)))), (3, .int (32 : Int32)), (2, .int (107 : Int32)), (1, .int (115 : Int32)), (0, .int (97 : Int32))], some (.int (0 : Int32))) (pc' := 10) (L' := [(0, .ref 143), (1, .int (49 : Int32))]) h_m234 (z_at.mk 1 rfl rfl) rfl rfl (w_ui _ _ (by decide)) rfl rfl rfl rfl ?_
  clear H m; intro m H
  refine w_p h_m234 2 (pc' := 12) (L' := [(0, .ref 143), (1, .int (49 : Int32))]) (st' := [.ref 143, .ref 143]) rfl ?_
  refine w_gf H (pc' := 15) (L' := [(0, .ref 143), (1, .int (49 : Int32))]) h_m234 (z_at.mk 3 rfl rfl) rfl (u := .int (14 : Int32)) rfl rfl rfl ?_
  refine w_p h_m234 2 (pc' := 17) (L' := [(0, .ref 143), (1, .int (49 : Int32))]) (st' := [.int (15 : Int32), .ref 143]) rfl ?_
  refine w_pf H (22, 35, [(29, .int (15 : Int32)), (10, .int (1 : Int32)), (34, .ref 167), (33, .ref 166), (31, .ref 165), (30, .ref 164), (28, .ref 163), (26, .ref 162), (25, .ref 161), (24, .ref 160), (19, .ref 159), (18, .ref 158), (17, .ref 157), (16, .ref 156), (13, .ref 155), (12, .ref 154), (11, .ref 153), (9, .ref 152), (8, .ref 151), (7, .ref 150), (5, .ref 149), (4, .ref 148), (3, .ref 147), (2, .ref 146), (1, .ref 145), (0, .ref 144), (6, .int (0 : Int32)), (14, .int (0 : Int32)), (15, .int (0 : Int32)), (20, .int (0 : Int32)), (21, .int (0 : Int32)), (22, .int (0 : Int32)), (23, .int (0 : Int32)), (27, .int (0 : Int32)), (32, .int (0 : Int32))], none) (pc' := 20) (L' := [(0, .ref 143), (1, .int (49 : Int32))]) h_m234 (z_at.mk 3 rfl rfl) rfl (by decide) rfl (Or.inl rfl) rfl rfl rfl ?_
  clear H m; intro m H
  refine w_rv h_m234 (z_at.mk 1 rfl rfl) rfl ?_
  show z_W 997 236 25 [(0, .ref 143), (1, .int (1 : Int32))] [] m _
  refine w_rv h_m236 (z_at.mk 1 rfl rfl) rfl ?_
  show z_W 998 236 14 [(0, .ref 143), (1, .int (10 : Int32))] [] m _
  refine w_p h_m236 6 (pc' := 22) (L' := [(0, .ref 143), (1, .int (10 : Int32))]) (st' := [.int (48 : Int32), .ref 143]) rfl ?_
  refine w_cv (H.t rfl) (pc' := 25) (L' := [(0, .ref 143), (1, .int (10 : Int32))]) (rest := []) (Ps := [.int (48 : Int32)]) (L0 := [(0, .ref 143), (1, .int (48 : Int32))]) h_m236 (z_at.mk 3 rfl rfl) (Or.inl ⟨rfl, rfl⟩) rfl rfl (by decide) (by decide) rfl rfl rfl rfl rfl rfl (by decide) rfl rfl rfl ?_
  refine w_p h_m234 1 (pc' := 1) (L' := [(0, .ref 143), (1, .int (48 : Int32))]) (st' := [.ref 143]) rfl ?_
  refine w_gf H (pc' := 4) (L' := [(0, .ref 143), (1, .int (48 : Int32))]) h_m234 (z_at.mk 3 rfl rfl) rfl (u := .ref 163) rfl rfl rfl ?_
  refine w_p h_m234 1 (pc' := 5) (L' := [(0, .ref 143), (1, .int (48 : Int32))]) (st' := [.ref 143, .ref 163]) rfl ?_
  refine w_gf H (pc' := 8) (L' := [(0, .ref 143), (1, .int (48 : Int32))]) h_m234 (z_at.mk 3 rfl rfl) rfl (u := .int (15 : Int32)) rfl rfl rfl ?_
  refine w_p h_m234 1 (pc' := 9) (L' := [(0, .ref 143), (1, .int (48 : Int32))]) (st' := [.int (48 : Int32), .int (15 : Int32), .ref 163]) rfl ?_
  refine w_as H (t := 0) (j := 15) (u := .int (48 : Int32)) (0, 40000, [(15, .int (48 : Int32)), (14, .int (49 : Int32)), (13, .int (32 : Int32)), (12, .int ((48 : Int32) + ((xs 4) - (xs 4) / (10 : Int32) * (10 : Int32)))), (11, .int ((48 : Int32) + (((xs 4) / (10 : Int32)) - ((xs 4) / (10 : Int32)) / (10 : Int32) * (10 : Int32)))), (10, .int (45 : Int32)), (9, .int ((48 : Int32) + ((xs 3) - (xs 3) / (10 : Int32) * (10 : Int32)))), (8, .int (44 : Int32)), (7, .int ((48 : Int32) + ((xs 2) - (xs 2) / (10 : Int32) * (10 : Int32)))), (6, .int ((48 : Int32) + (((xs 2) / (10 : Int32)) - ((xs 2) / (10 : Int32)) / (10 : Int32) * (10 : Int32)))), (5, .int (45 : Int32)), (4, .int ((48 : Int32) + ((xs 1) - (xs 1) / (10 : Int32) * (10 : Int32)))), (3, .int (32 : Int32)), (2, .int (107 : Int32)), (1, .int (115 : Int32)), (0, .int (97 : Int32))], some (.int (0 : Int32))) (pc' := 10) (L' := [(0, .ref 143), (1, .int (48 : Int32))]) h_m234 (z_at.mk 1 rfl rfl) rfl rfl (w_ui _ _ (by decide)) rfl rfl rfl rfl ?_
  clear H m; intro m H
  refine w_p h_m234 2 (pc' := 12) (L' := [(0, .ref 143), (1, .int (48 : Int32))]) (st' := [.ref 143, .ref 143]) rfl ?_
  refine w_gf H (pc' := 15) (L' := [(0, .ref 143), (1, .int (48 : Int32))]) h_m234 (z_at.mk 3 rfl rfl) rfl (u := .int (15 : Int32)) rfl rfl rfl ?_
  refine w_p h_m234 2 (pc' := 17) (L' := [(0, .ref 143), (1, .int (48 : Int32))]) (st' := [.int (16 : Int32), .ref 143]) rfl ?_
  refine w_pf H (22, 35, [(29, .int (16 : Int32)), (10, .int (1 : Int32)), (34, .ref 167), (33, .ref 166), (31, .ref 165), (30, .ref 164), (28, .ref 163), (26, .ref 162), (25, .ref 161), (24, .ref 160), (19, .ref 159), (18, .ref 158), (17, .ref 157), (16, .ref 156), (13, .ref 155), (12, .ref 154), (11, .ref 153), (9, .ref 152), (8, .ref 151), (7, .ref 150), (5, .ref 149), (4, .ref 148), (3, .ref 147), (2, .ref 146), (1, .ref 145), (0, .ref 144), (6, .int (0 : Int32)), (14, .int (0 : Int32)), (15, .int (0 : Int32)), (20, .int (0 : Int32)), (21, .int (0 : Int32)), (22, .int (0 : Int32)), (23, .int (0 : Int32)), (27, .int (0 : Int32)), (32, .int (0 : Int32))], none) (pc' := 20) (L' := [(0, .ref 143), (1, .int (48 : Int32))]) h_m234 (z_at.mk 3 rfl rfl) rfl (by decide) rfl (Or.inl rfl) rfl rfl rfl ?_
  clear H m; intro m H
  refine w_rv h_m234 (z_at.mk 1 rfl rfl) rfl ?_
  show z_W 998 236 25 [(0, .ref 143), (1, .int (10 : Int32))] [] m _
  refine w_rv h_m236 (z_at.mk 1 rfl rfl) rfl ?_
  show z_W 999 239 202 [(0, .ref 143), (5, .int (0 : Int32)), (6, .int (0 : Int32))] [] m _
  refine w_p h_m239 3 (pc' := 206) (L' := [(0, .ref 143), (5, .int (0 : Int32)), (6, .int (0 : Int32))]) (st' := [.ref 143, .ref 143, .int (0 : Int32)]) rfl ?_
  refine w_gf H (pc' := 209) (L' := [(0, .ref 143), (5, .int (0 : Int32)), (6, .int (0 : Int32))]) h_m239 (z_at.mk 3 rfl rfl) rfl (u := .ref 150) rfl rfl rfl ?_
  refine w_p h_m239 3 (pc' := 213) (L' := [(0, .ref 143), (5, .int (0 : Int32)), (6, .int (0 : Int32))]) (st' := [.int (0 : Int32), .ref 150, .ref 143, .int (0 : Int32)]) rfl ?_
  refine w_cv (H.t rfl) (pc' := 216) (L' := [(0, .ref 143), (5, .int (0 : Int32)), (6, .int (0 : Int32))]) (rest := [.int (0 : Int32)]) (Ps := [.ref 150, .int (0 : Int32)]) (L0 := [(0, .ref 143), (1, .ref 150), (2, .int (0 : Int32))]) h_m239 (z_at.mk 3 rfl rfl) (Or.inl ⟨rfl, rfl⟩) rfl rfl (by decide) (by decide) rfl rfl rfl rfl rfl rfl (by decide) rfl rfl rfl ?_
  refine w_p h_m177 1 (pc' := 1) (L' := [(0, .ref 143), (1, .ref 150), (2, .int (0 : Int32))]) (st' := [.ref 143]) rfl ?_
  refine w_gf H (pc' := 4) (L' := [(0, .ref 143), (1, .ref 150), (2, .int (0 : Int32))]) h_m177 (z_at.mk 3 rfl rfl) rfl (u := .ref 144) rfl rfl rfl ?_
  refine w_p h_m177 1 (pc' := 6) (L' := [(0, .ref 143), (1, .ref 150), (2, .int (0 : Int32))]) (st' := [.int (11 : Int32), .ref 144]) rfl ?_
  refine w_al H (t := 0) (j := 11) (pc' := 7) (L' := [(0, .ref 143), (1, .ref 150), (2, .int (0 : Int32))]) h_m177 (z_at.mk 1 rfl rfl) rfl rfl rfl (u := .int (10 : Int32)) rfl rfl rfl ?_
  refine w_p h_m177 3 (pc' := 10) (L' := [(0, .ref 143), (1, .ref 150), (2, .int (0 : Int32))]) (st' := [.int (0 : Int32), .ref 150, .ref 143, .int (10 : Int32)]) rfl ?_
  refine w_cv (H.t rfl) (pc' := 13) (L' := [(0, .ref 143), (1, .ref 150), (2, .int (0 : Int32))]) (rest := [.int (10 : Int32)]) (Ps := [.ref 150, .int (0 : Int32)]) (L0 := [(0, .ref 143), (1, .ref 150), (2, .int (0 : Int32))]) h_m177 (z_at.mk 3 rfl rfl) (Or.inl ⟨rfl, rfl⟩) rfl rfl (by decide) (by decide) rfl rfl rfl rfl rfl rfl (by decide) rfl rfl rfl ?_
  refine w_ri0 H rfl rfl rfl ?_
  clear H m; intro m H
  show z_W 998 177 13 [(0, .ref 143), (1, .ref 150), (2, .int (0 : Int32))] [.int (0 : Int32), .int (10 : Int32)] m _
  refine w_p h_m177 1 (pc' := 14) (L' := [(0, .ref 143), (1, .ref 150), (2, .int (0 : Int32))]) (st' := [.int (10 : Int32)]) rfl ?_
  refine w_ri h_m177 (z_at.mk 1 rfl rfl) rfl rfl ?_
  show z_W 999 239 216 [(0, .ref 143), (5, .int (0 : Int32)), (6, .int (0 : Int32))] [.int (10 : Int32), .int (0 : Int32)] m _
  refine w_p h_m239 4 (pc' := 222) (L' := [(5, .int (10 : Int32)), (0, .ref 143), (6, .int (0 : Int32))]) (st' := [.int (59 : Int32), .ref 143]) rfl ?_
  refine w_cv (H.t rfl) (pc' := 225) (L' := [(5, .int (10 : Int32)), (0, .ref 143), (6, .int (0 : Int32))]) (rest := []) (Ps := [.int (59 : Int32)]) (L0 := [(0, .ref 143), (1, .int (59 : Int32))]) h_m239 (z_at.mk 3 rfl rfl) (Or.inl ⟨rfl, rfl⟩) rfl rfl (by decide) (by decide) rfl rfl rfl rfl rfl rfl (by decide) rfl rfl rfl ?_
  refine w_p h_m234 1 (pc' := 1) (L' := [(0, .ref 143), (1, .int (59 : Int32))]) (st' := [.ref 143]) rfl ?_
  refine w_gf H (pc' := 4) (L' := [(0, .ref 143), (1, .int (59 : Int32))]) h_m234 (z_at.mk 3 rfl rfl) rfl (u := .ref 163) rfl rfl rfl ?_
  refine w_p h_m234 1 (pc' := 5) (L' := [(0, .ref 143), (1, .int (59 : Int32))]) (st' := [.ref 143, .ref 163]) rfl ?_
  refine w_gf H (pc' := 8) (L' := [(0, .ref 143), (1, .int (59 : Int32))]) h_m234 (z_at.mk 3 rfl rfl) rfl (u := .int (16 : Int32)) rfl rfl rfl ?_
  refine w_p h_m234 1 (pc' := 9) (L' := [(0, .ref 143), (1, .int (59 : Int32))]) (st' := [.int (59 : Int32), .int (16 : Int32), .ref 163]) rfl ?_
  refine w_as H (t := 0) (j := 16) (u := .int (59 : Int32)) (0, 40000, [(16, .int (59 : Int32)), (15, .int (48 : Int32)), (14, .int (49 : Int32)), (13, .int (32 : Int32)), (12, .int ((48 : Int32) + ((xs 4) - (xs 4) / (10 : Int32) * (10 : Int32)))), (11, .int ((48 : Int32) + (((xs 4) / (10 : Int32)) - ((xs 4) / (10 : Int32)) / (10 : Int32) * (10 : Int32)))), (10, .int (45 : Int32)), (9, .int ((48 : Int32) + ((xs 3) - (xs 3) / (10 : Int32) * (10 : Int32)))), (8, .int (44 : Int32)), (7, .int ((48 : Int32) + ((xs 2) - (xs 2) / (10 : Int32) * (10 : Int32)))), (6, .int ((48 : Int32) + (((xs 2) / (10 : Int32)) - ((xs 2) / (10 : Int32)) / (10 : Int32) * (10 : Int32)))), (5, .int (45 : Int32)), (4, .int ((48 : Int32) + ((xs 1) - (xs 1) / (10 : Int32) * (10 : Int32)))), (3, .int (32 : Int32)), (2, .int (107 : Int32)), (1, .int (115 : Int32)), (0, .int (97 : Int32))], some (.int (0 : Int32))) (pc' := 10) (L' := [(0, .ref 143), (1, .int (59 : Int32))]) h_m234 (z_at.mk 1 rfl rfl) rfl rfl (w_ui _ _ (by decide)) rfl rfl rfl rfl ?_
  clear H m; intro m H
  refine w_p h_m234 2 (pc' := 12) (L' := [(0, .ref 143), (1, .int (59 : Int32))]) (st' := [.ref 143, .ref 143]) rfl ?_
  refine w_gf H (pc' := 15) (L' := [(0, .ref 143), (1, .int (59 : Int32))]) h_m234 (z_at.mk 3 rfl rfl) rfl (u := .int (16 : Int32)) rfl rfl rfl ?_
  refine w_p h_m234 2 (pc' := 17) (L' := [(0, .ref 143), (1, .int (59 : Int32))]) (st' := [.int (17 : Int32), .ref 143]) rfl ?_
  refine w_pf H (22, 35, [(29, .int (17 : Int32)), (10, .int (1 : Int32)), (34, .ref 167), (33, .ref 166), (31, .ref 165), (30, .ref 164), (28, .ref 163), (26, .ref 162), (25, .ref 161), (24, .ref 160), (19, .ref 159), (18, .ref 158), (17, .ref 157), (16, .ref 156), (13, .ref 155), (12, .ref 154), (11, .ref 153), (9, .ref 152), (8, .ref 151), (7, .ref 150), (5, .ref 149), (4, .ref 148), (3, .ref 147), (2, .ref 146), (1, .ref 145), (0, .ref 144), (6, .int (0 : Int32)), (14, .int (0 : Int32)), (15, .int (0 : Int32)), (20, .int (0 : Int32)), (21, .int (0 : Int32)), (22, .int (0 : Int32)), (23, .int (0 : Int32)), (27, .int (0 : Int32)), (32, .int (0 : Int32))], none) (pc' := 20) (L' := [(0, .ref 143), (1, .int (59 : Int32))]) h_m234 (z_at.mk 3 rfl rfl) rfl (by decide) rfl (Or.inl rfl) rfl rfl rfl ?_
  clear H m; intro m H
  refine w_rv h_m234 (z_at.mk 1 rfl rfl) rfl ?_
  show z_W 999 239 225 [(5, .int (10 : Int32)), (0, .ref 143), (6, .int (0 : Int32))] [] m _
  refine w_p h_m239 4 (pc' := 155) (L' := [(0, .ref 143), (5, .int (10 : Int32)), (6, .int (1 : Int32))]) (st' := [.ref 143, .int (1 : Int32)]) rfl ?_
  refine w_gf H (pc' := 158) (L' := [(0, .ref 143), (5, .int (10 : Int32)), (6, .int (1 : Int32))]) h_m239 (z_at.mk 3 rfl rfl) rfl (u := .int (1 : Int32)) rfl rfl rfl ?_
  refine w_p h_m239 3 (pc' := 235) (L' := [(0, .ref 143), (5, .int (10 : Int32)), (6, .int (1 : Int32))]) (st' := [.ref 18, .ref 143]) rfl ?_
  refine w_cv (H.t rfl) (pc' := 238) (L' := [(0, .ref 143), (5, .int (10 : Int32)), (6, .int (1 : Int32))]) (rest := []) (Ps := [.ref 18]) (L0 := [(0, .ref 143), (1, .ref 18)]) h_m239 (z_at.mk 3 rfl rfl) (Or.inl ⟨rfl, rfl⟩) rfl rfl (by decide) (by decide) rfl rfl rfl rfl rfl rfl (by decide) rfl rfl rfl ?_
  refine w_p h_m235 4 (pc' := 4) (L' := [(0, .ref 143), (1, .ref 18), (2, .int (0 : Int32))]) (st' := [.ref 18, .int (0 : Int32)]) rfl ?_
  refine w_cv (H.te (by decide) rfl).1 (pc' := 7) (L' := [(0, .ref 143), (1, .ref 18), (2, .int (0 : Int32))]) (rest := [.int (0 : Int32)]) (Ps := []) (L0 := [(0, .ref 18)]) h_m235 (z_at.mk 3 rfl rfl) (Or.inl ⟨rfl, rfl⟩) rfl rfl (by decide) (by decide) rfl rfl rfl rfl rfl rfl (by decide) rfl rfl rfl ?_
  refine w_p h_m293 1 (pc' := 1) (L' := [(0, .ref 18)]) (st' := [.ref 18]) rfl ?_
  refine w_gs H (pc' := 4) (L' := [(0, .ref 18)]) h_m293 (z_at.mk 3 rfl rfl) rfl (by decide) rfl rfl rfl rfl ?_
  refine w_lene H (x := (4 : Int32)) (pc' := 5) (L' := [(0, .ref 18)]) h_m293 (z_at.mk 1 rfl rfl) (by decide) rfl (by decide) rfl rfl rfl ?_
  refine w_p h_m293 1 (pc' := 6) (L' := [(0, .ref 18)]) (st' := [.ref 18, .int (4 : Int32)]) rfl ?_
  refine w_cv (H.te (by decide) rfl).1 (pc' := 9) (L' := [(0, .ref 18)]) (rest := [.int (4 : Int32)]) (Ps := []) (L0 := [(0, .ref 18)]) h_m293 (z_at.mk 3 rfl rfl) (Or.inl ⟨rfl, rfl⟩) rfl rfl (by decide) (by decide) rfl rfl rfl rfl rfl rfl (by decide) rfl rfl rfl ?_
  refine w_p h_m298 3 (pc' := 7) (L' := [(0, .ref 18)]) (st' := [.ref 18]) rfl ?_
  refine w_gs H (pc' := 10) (L' := [(0, .ref 18)]) h_m298 (z_at.mk 3 rfl rfl) rfl (by decide) rfl rfl rfl rfl ?_
  refine w_p h_m298 1 (pc' := 14) (L' := []) (st' := [.int (0 : Int32)]) rfl ?_
  refine w_ri h_m298 (z_at.mk 1 rfl rfl) rfl rfl ?_
  show z_W 997 293 9 [(0, .ref 18)] [.int (0 : Int32), .int (4 : Int32)] m _
  refine w_p h_m293 1 (pc' := 10) (L' := [(0, .ref 18)]) (st' := [.int (4 : Int32)]) rfl ?_
  refine w_ri h_m293 (z_at.mk 1 rfl rfl) rfl rfl ?_
  show z_W 998 235 7 [(0, .ref 143), (1, .ref 18), (2, .int (0 : Int32))] [.int (4 : Int32), .int (0 : Int32)] m _
  refine w_p h_m235 4 (pc' := 13) (L' := [(0, .ref 143), (1, .ref 18), (2, .int (0 : Int32))]) (st' := [.int (0 : Int32), .ref 18, .ref 143]) rfl ?_
  refine w_cv (H.te (by decide) rfl).1 (pc' := 16) (L' := [(0, .ref 143), (1, .ref 18), (2, .int (0 : Int32))]) (rest := [.ref 143]) (Ps := [.int (0 : Int32)]) (L0 := [(0, .ref 18), (1, .int (0 : Int32))]) h_m235 (z_at.mk 3 rfl rfl) (Or.inl ⟨rfl, rfl⟩) rfl rfl (by decide) (by decide) rfl rfl rfl rfl rfl rfl (by decide) rfl rfl rfl ?_
  refine w_p h_m294 1 (pc' := 1) (L' := [(0, .ref 18), (1, .int (0 : Int32))]) (st' := [.ref 18]) rfl ?_
  refine w_cv (H.te (by decide) rfl).1 (pc' := 4) (L' := [(0, .ref 18), (1, .int (0 : Int32))]) (rest := []) (Ps := []) (L0 := [(0, .ref 18)]) h_m294 (z_at.mk 3 rfl rfl) (Or.inl ⟨rfl, rfl⟩) rfl rfl (by decide) (by decide) rfl rfl rfl rfl rfl rfl (by decide) rfl rfl rfl ?_
  refine w_p h_m299 3 (pc' := 7) (L' := [(0, .ref 18)]) (st' := [.ref 18]) rfl ?_
  refine w_gs H (pc' := 10) (L' := [(0, .ref 18)]) h_m299 (z_at.mk 3 rfl rfl) rfl (by decide) rfl rfl rfl rfl ?_
  refine w_p h_m299 3 (pc' := 18) (L' := []) (st' := [.int (1 : Int32)]) rfl ?_
  refine w_ri h_m299 (z_at.mk 1 rfl rfl) rfl rfl ?_
  show z_W 997 294 4 [(0, .ref 18), (1, .int (0 : Int32))] [.int (1 : Int32)] m _
  refine w_p h_m294 2 (pc' := 8) (L' := [(0, .ref 18), (1, .int (0 : Int32))]) (st' := [.ref 18]) rfl ?_
  refine w_gs H (pc' := 11) (L' := [(0, .ref 18), (1, .int (0 : Int32))]) h_m294 (z_at.mk 3 rfl rfl) rfl (by decide) rfl rfl rfl rfl ?_
  refine w_p h_m294 1 (pc' := 12) (L' := [(0, .ref 18), (1, .int (0 : Int32))]) (st' := [.int (0 : Int32), .ref 36]) rfl ?_
  refine w_cs (As := [.ref 36, .int (0 : Int32)]) (rest := []) (j := 308) (L0 := [(0, .ref 36), (1, .int (0 : Int32))]) (pc' := 15) (L' := [(0, .ref 18), (1, .int (0 : Int32))]) h_m294 (z_at.mk 3 rfl rfl) (Or.inl ⟨rfl, rfl⟩) rfl rfl rfl rfl rfl ?_
  refine w_p h_m308 2 (pc' := 2) (L' := [(0, .ref 36), (1, .int (0 : Int32))]) (st' := [.ref 36, .int (0 : Int32)]) rfl ?_
  refine w_lene H (x := (4 : Int32)) (pc' := 3) (L' := [(0, .ref 36), (1, .int (0 : Int32))]) h_m308 (z_at.mk 1 rfl rfl) (by decide) rfl (by decide) rfl rfl rfl ?_
  refine w_ci (pc' := 6) (L' := [(0, .ref 36), (1, .int (0 : Int32))]) h_m308 (z_at.mk 3 rfl rfl) rfl (z_cat_le 0 rfl (by decide)) ⟨by decide, by decide⟩ rfl rfl ?_
  refine w_p h_m308 2 (pc' := 8) (L' := [(0, .ref 36), (1, .int (0 : Int32))]) (st' := [.int (0 : Int32), .ref 36]) rfl ?_
  refine w_ae H (j := 0) (pc' := 9) (L' := [(0, .ref 36), (1, .int (0 : Int32))]) h_m308 (z_at.mk 1 rfl rfl) rfl rfl rfl (by decide) rfl (by decide) rfl rfl rfl ?_
  refine w_p h_m308 3 (pc' := 14) (L' := [(0, .ref 36), (1, .int (0 : Int32))]) (st' := [.int (112 : Int32)]) rfl ?_
  refine w_ri h_m308 (z_at.mk 1 rfl rfl) rfl rfl ?_
  show z_W 997 294 15 [(0, .ref 18), (1, .int (0 : Int32))] [.int (112 : Int32)] m _
  refine w_ri h_m294 (z_at.mk 1 rfl rfl) rfl rfl ?_
  show z_W 998 235 16 [(0, .ref 143), (1, .ref 18), (2, .int (0 : Int32))] [.int (112 : Int32), .ref 143] m _
  refine w_cv (H.t rfl) (pc' := 19) (L' := [(0, .ref 143), (1, .ref 18), (2, .int (0 : Int32))]) (rest := []) (Ps := [.int (112 : Int32)]) (L0 := [(0, .ref 143), (1, .int (112 : Int32))]) h_m235 (z_at.mk 3 rfl rfl) (Or.inl ⟨rfl, rfl⟩) rfl rfl (by decide) (by decide) rfl rfl rfl rfl rfl rfl (by decide) rfl rfl rfl ?_
  refine w_p h_m234 1 (pc' := 1) (L' := [(0, .ref 143), (1, .int (112 : Int32))]) (st' := [.ref 143]) rfl ?_
  refine w_gf H (pc' := 4) (L' := [(0, .ref 143), (1, .int (112 : Int32))]) h_m234 (z_at.mk 3 rfl rfl) rfl (u := .ref 163) rfl rfl rfl ?_
  refine w_p h_m234 1 (pc' := 5) (L' := [(0, .ref 143), (1, .int (112 : Int32))]) (st' := [.ref 143, .ref 163]) rfl ?_
  refine w_gf H (pc' := 8) (L' := [(0, .ref 143), (1, .int (112 : Int32))]) h_m234 (z_at.mk 3 rfl rfl) rfl (u := .int (17 : Int32)) rfl rfl rfl ?_
  refine w_p h_m234 1 (pc' := 9) (L' := [(0, .ref 143), (1, .int (112 : Int32))]) (st' := [.int (112 : Int32), .int (17 : Int32), .ref 163]) rfl ?_
  refine w_as H (t := 0) (j := 17) (u := .int (112 : Int32)) (0, 40000, [(17, .int (112 : Int32)), (16, .int (59 : Int32)), (15, .int (48 : Int32)), (14, .int (49 : Int32)), (13, .int (32 : Int32)), (12, .int ((48 : Int32) + ((xs 4) - (xs 4) / (10 : Int32) * (10 : Int32)))), (11, .int ((48 : Int32) + (((xs 4) / (10 : Int32)) - ((xs 4) / (10 : Int32)) / (10 : Int32) * (10 : Int32)))), (10, .int (45 : Int32)), (9, .int ((48 : Int32) + ((xs 3) - (xs 3) / (10 : Int32) * (10 : Int32)))), (8, .int (44 : Int32)), (7, .int ((48 : Int32) + ((xs 2) - (xs 2) / (10 : Int32) * (10 : Int32)))), (6, .int ((48 : Int32) + (((xs 2) / (10 : Int32)) - ((xs 2) / (10 : Int32)) / (10 : Int32) * (10 : Int32)))), (5, .int (45 : Int32)), (4, .int ((48 : Int32) + ((xs 1) - (xs 1) / (10 : Int32) * (10 : Int32)))), (3, .int (32 : Int32)), (2, .int (107 : Int32)), (1, .int (115 : Int32)), (0, .int (97 : Int32))], some (.int (0 : Int32))) (pc' := 10) (L' := [(0, .ref 143), (1, .int (112 : Int32))]) h_m234 (z_at.mk 1 rfl rfl) rfl rfl (w_ui _ _ (by decide)) rfl rfl rfl rfl ?_
  clear H m; intro m H
  refine w_p h_m234 2 (pc' := 12) (L' := [(0, .ref 143), (1, .int (112 : Int32))]) (st' := [.ref 143, .ref 143]) rfl ?_
  refine w_gf H (pc' := 15) (L' := [(0, .ref 143), (1, .int (112 : Int32))]) h_m234 (z_at.mk 3 rfl rfl) rfl (u := .int (17 : Int32)) rfl rfl rfl ?_
  refine w_p h_m234 2 (pc' := 17) (L' := [(0, .ref 143), (1, .int (112 : Int32))]) (st' := [.int (18 : Int32), .ref 143]) rfl ?_
  refine w_pf H (22, 35, [(29, .int (18 : Int32)), (10, .int (1 : Int32)), (34, .ref 167), (33, .ref 166), (31, .ref 165), (30, .ref 164), (28, .ref 163), (26, .ref 162), (25, .ref 161), (24, .ref 160), (19, .ref 159), (18, .ref 158), (17, .ref 157), (16, .ref 156), (13, .ref 155), (12, .ref 154), (11, .ref 153), (9, .ref 152), (8, .ref 151), (7, .ref 150), (5, .ref 149), (4, .ref 148), (3, .ref 147), (2, .ref 146), (1, .ref 145), (0, .ref 144), (6, .int (0 : Int32)), (14, .int (0 : Int32)), (15, .int (0 : Int32)), (20, .int (0 : Int32)), (21, .int (0 : Int32)), (22, .int (0 : Int32)), (23, .int (0 : Int32)), (27, .int (0 : Int32)), (32, .int (0 : Int32))], none) (pc' := 20) (L' := [(0, .ref 143), (1, .int (112 : Int32))]) h_m234 (z_at.mk 3 rfl rfl) rfl (by decide) rfl (Or.inl rfl) rfl rfl rfl ?_
  clear H m; intro m H
  refine w_rv h_m234 (z_at.mk 1 rfl rfl) rfl ?_
  show z_W 998 235 19 [(0, .ref 143), (1, .ref 18), (2, .int (0 : Int32))] [] m _
  refine w_p h_m235 4 (pc' := 4) (L' := [(0, .ref 143), (1, .ref 18), (2, .int (1 : Int32))]) (st' := [.ref 18, .int (1 : Int32)]) rfl ?_
  refine w_cv (H.te (by decide) rfl).1 (pc' := 7) (L' := [(0, .ref 143), (1, .ref 18), (2, .int (1 : Int32))]) (rest := [.int (1 : Int32)]) (Ps := []) (L0 := [(0, .ref 18)]) h_m235 (z_at.mk 3 rfl rfl) (Or.inl ⟨rfl, rfl⟩) rfl rfl (by decide) (by decide) rfl rfl rfl rfl rfl rfl (by decide) rfl rfl rfl ?_
  refine w_p h_m293 1 (pc' := 1) (L' := [(0, .ref 18)]) (st' := [.ref 18]) rfl ?_
  refine w_gs H (pc' := 4) (L' := [(0, .ref 18)]) h_m293 (z_at.mk 3 rfl rfl) rfl (by decide) rfl rfl rfl rfl ?_
  refine w_lene H (x := (4 : Int32)) (pc' := 5) (L' := [(0, .ref 18)]) h_m293 (z_at.mk 1 rfl rfl) (by decide) rfl (by decide) rfl rfl rfl ?_
  refine w_p h_m293 1 (pc' := 6) (L' := [(0, .ref 18)]) (st' := [.ref 18, .int (4 : Int32)]) rfl ?_
  refine w_cv (H.te (by decide) rfl).1 (pc' := 9) (L' := [(0, .ref 18)]) (rest := [.int (4 : Int32)]) (Ps := []) (L0 := [(0, .ref 18)]) h_m293 (z_at.mk 3 rfl rfl) (Or.inl ⟨rfl, rfl⟩) rfl rfl (by decide) (by decide) rfl rfl rfl rfl rfl rfl (by decide) rfl rfl rfl ?_
  refine w_p h_m298 3 (pc' := 7) (L' := [(0, .ref 18)]) (st' := [.ref 18]) rfl ?_
  refine w_gs H (pc' := 10) (L' := [(0, .ref 18)]) h_m298 (z_at.mk 3 rfl rfl) rfl (by decide) rfl rfl rfl rfl ?_
  refine w_p h_m298 1 (pc' := 14) (L' := []) (st' := [.int (0 : Int32)]) rfl ?_
  refine w_ri h_m298 (z_at.mk 1 rfl rfl) rfl rfl ?_
  show z_W 997 293 9 [(0, .ref 18)] [.int (0 : Int32), .int (4 : Int32)] m _
  refine w_p h_m293 1 (pc' := 10) (L' := [(0, .ref 18)]) (st' := [.int (4 : Int32)]) rfl ?_
  refine w_ri h_m293 (z_at.mk 1 rfl rfl) rfl rfl ?_
  show z_W 998 235 7 [(0, .ref 143), (1, .ref 18), (2, .int (1 : Int32))] [.int (4 : Int32), .int (1 : Int32)] m _
  refine w_p h_m235 4 (pc' := 13) (L' := [(0, .ref 143), (1, .ref 18), (2, .int (1 : Int32))]) (st' := [.int (1 : Int32), .ref 18, .ref 143]) rfl ?_
  refine w_cv (H.te (by decide) rfl).1 (pc' := 16) (L' := [(0, .ref 143), (1, .ref 18), (2, .int (1 : Int32))]) (rest := [.ref 143]) (Ps := [.int (1 : Int32)]) (L0 := [(0, .ref 18), (1, .int (1 : Int32))]) h_m235 (z_at.mk 3 rfl rfl) (Or.inl ⟨rfl, rfl⟩) rfl rfl (by decide) (by decide) rfl rfl rfl rfl rfl rfl (by decide) rfl rfl rfl ?_
  refine w_p h_m294 1 (pc' := 1) (L' := [(0, .ref 18), (1, .int (1 : Int32))]) (st' := [.ref 18]) rfl ?_
  refine w_cv (H.te (by decide) rfl).1 (pc' := 4) (L' := [(0, .ref 18), (1, .int (1 : Int32))]) (rest := []) (Ps := []) (L0 := [(0, .ref 18)]) h_m294 (z_at.mk 3 rfl rfl) (Or.inl ⟨rfl, rfl⟩) rfl rfl (by decide) (by decide) rfl rfl rfl rfl rfl rfl (by decide) rfl rfl rfl ?_
  refine w_p h_m299 3 (pc' := 7) (L' := [(0, .ref 18)]) (st' := [.ref 18]) rfl ?_
  refine w_gs H (pc' := 10) (L' := [(0, .ref 18)]) h_m299 (z_at.mk 3 rfl rfl) rfl (by decide) rfl rfl rfl rfl ?_
  refine w_p h_m299 3 (pc' := 18) (L' := []) (st' := [.int (1 : Int32)]) rfl ?_
  refine w_ri h_m299 (z_at.mk 1 rfl rfl) rfl rfl ?_
  show z_W 997 294 4 [(0, .ref 18), (1, .int (1 : Int32))] [.int (1 : Int32)] m _
  refine w_p h_m294 2 (pc' := 8) (L' := [(0, .ref 18), (1, .int (1 : Int32))]) (st' := [.ref 18]) rfl ?_
  refine w_gs H (pc' := 11) (L' := [(0, .ref 18), (1, .int (1 : Int32))]) h_m294 (z_at.mk 3 rfl rfl) rfl (by decide) rfl rfl rfl rfl ?_
  refine w_p h_m294 1 (pc' := 12) (L' := [(0, .ref 18), (1, .int (1 : Int32))]) (st' := [.int (1 : Int32), .ref 36]) rfl ?_
  refine w_cs (As := [.ref 36, .int (1 : Int32)]) (rest := []) (j := 308) (L0 := [(0, .ref 36), (1, .int (1 : Int32))]) (pc' := 15) (L' := [(0, .ref 18), (1, .int (1 : Int32))]) h_m294 (z_at.mk 3 rfl rfl) (Or.inl ⟨rfl, rfl⟩) rfl rfl rfl rfl rfl ?_
  refine w_p h_m308 2 (pc' := 2) (L' := [(0, .ref 36), (1, .int (1 : Int32))]) (st' := [.ref 36, .int (1 : Int32)]) rfl ?_
  refine w_lene H (x := (4 : Int32)) (pc' := 3) (L' := [(0, .ref 36), (1, .int (1 : Int32))]) h_m308 (z_at.mk 1 rfl rfl) (by decide) rfl (by decide) rfl rfl rfl ?_
  refine w_ci (pc' := 6) (L' := [(0, .ref 36), (1, .int (1 : Int32))]) h_m308 (z_at.mk 3 rfl rfl) rfl (z_cat_le 0 rfl (by decide)) ⟨by decide, by decide⟩ rfl rfl ?_
  refine w_p h_m308 2 (pc' := 8) (L' := [(0, .ref 36), (1, .int (1 : Int32))]) (st' := [.int (1 : Int32), .ref 36]) rfl ?_
  refine w_ae H (j := 1) (pc' := 9) (L' := [(0, .ref 36), (1, .int (1 : Int32))]) h_m308 (z_at.mk 1 rfl rfl) rfl rfl rfl (by decide) rfl (by decide) rfl rfl rfl ?_
  refine w_p h_m308 3 (pc' := 14) (L' := [(0, .ref 36), (1, .int (1 : Int32))]) (st' := [.int (97 : Int32)]) rfl ?_
  refine w_ri h_m308 (z_at.mk 1 rfl rfl) rfl rfl ?_
  show z_W 997 294 15 [(0, .ref 18), (1, .int (1 : Int32))] [.int (97 : Int32)] m _
  refine w_ri h_m294 (z_at.mk 1 rfl rfl) rfl rfl ?_
  show z_W 998 235 16 [(0, .ref 143), (1, .ref 18), (2, .int (1 : Int32))] [.int (97 : Int32), .ref 143] m _
  refine w_cv (H.t rfl) (pc' := 19) (L' := [(0, .ref 143), (1, .ref 18), (2, .int (1 : Int32))]) (rest := []) (Ps := [.int (97 : Int32)]) (L0 := [(0, .ref 143), (1, .int (97 : Int32))]) h_m235 (z_at.mk 3 rfl rfl) (Or.inl ⟨rfl, rfl⟩) rfl rfl (by decide) (by decide) rfl rfl rfl rfl rfl rfl (by decide) rfl rfl rfl ?_
  refine w_p h_m234 1 (pc' := 1) (L' := [(0, .ref 143), (1, .int (97 : Int32))]) (st' := [.ref 143]) rfl ?_
  refine w_gf H (pc' := 4) (L' := [(0, .ref 143), (1, .int (97 : Int32))]) h_m234 (z_at.mk 3 rfl rfl) rfl (u := .ref 163) rfl rfl rfl ?_
  refine w_p h_m234 1 (pc' := 5) (L' := [(0, .ref 143), (1, .int (97 : Int32))]) (st' := [.ref 143, .ref 163]) rfl ?_
  refine w_gf H (pc' := 8) (L' := [(0, .ref 143), (1, .int (97 : Int32))]) h_m234 (z_at.mk 3 rfl rfl) rfl (u := .int (18 : Int32)) rfl rfl rfl ?_
  refine w_p h_m234 1 (pc' := 9) (L' := [(0, .ref 143), (1, .int (97 : Int32))]) (st' := [.int (97 : Int32), .int (18 : Int32), .ref 163]) rfl ?_
  refine w_as H (t := 0) (j := 18) (u := .int (97 : Int32)) (0, 40000, [(18, .int (97 : Int32)), (17, .int (112 : Int32)), (16, .int (59 : Int32)), (15, .int (48 : Int32)), (14, .int (49 : Int32)), (13, .int (32 : Int32)), (12, .int ((48 : Int32) + ((xs 4) - (xs 4) / (10 : Int32) * (10 : Int32)))), (11, .int ((48 : Int32) + (((xs 4) / (10 : Int32)) - ((xs 4) / (10 : Int32)) / (10 : Int32) * (10 : Int32)))), (10, .int (45 : Int32)), (9, .int ((48 : Int32) + ((xs 3) - (xs 3) / (10 : Int32) * (10 : Int32)))), (8, .int (44 : Int32)), (7, .int ((48 : Int32) + ((xs 2) - (xs 2) / (10 : Int32) * (10 : Int32)))), (6, .int ((48 : Int32) + (((xs 2) / (10 : Int32)) - ((xs 2) / (10 : Int32)) / (10 : Int32) * (10 : Int32)))), (5, .int (45 : Int32)), (4, .int ((48 : Int32) + ((xs 1) - (xs 1) / (10 : Int32) * (10 : Int32)))), (3, .int (32 : Int32)), (2, .int (107 : Int32)), (1, .int (115 : Int32)), (0, .int (97 : Int32))], some (.int (0 : Int32))) (pc' := 10) (L' := [(0, .ref 143), (1, .int (97 : Int32))]) h_m234 (z_at.mk 1 rfl rfl) rfl rfl (w_ui _ _ (by decide)) rfl rfl rfl rfl ?_
  clear H m; intro m H
  refine w_p h_m234 2 (pc' := 12) (L' := [(0, .ref 143), (1, .int (97 : Int32))]) (st' := [.ref 143, .ref 143]) rfl ?_
  refine w_gf H (pc' := 15) (L' := [(0, .ref 143), (1, .int (97 : Int32))]) h_m234 (z_at.mk 3 rfl rfl) rfl (u := .int (18 : Int32)) rfl rfl rfl ?_
  refine w_p h_m234 2 (pc' := 17) (L' := [(0, .ref 143), (1, .int (97 : Int32))]) (st' := [.int (19 : Int32), .ref 143]) rfl ?_
  refine w_pf H (22, 35, [(29, .int (19 : Int32)), (10, .int (1 : Int32)), (34, .ref 167), (33, .ref 166), (31, .ref 165), (30, .ref 164), (28, .ref 163), (26, .ref 162), (25, .ref 161), (24, .ref 160), (19, .ref 159), (18, .ref 158), (17, .ref 157), (16, .ref 156), (13, .ref 155), (12, .ref 154), (11, .ref 153), (9, .ref 152), (8, .ref 151), (7, .ref 150), (5, .ref 149), (4, .ref 148), (3, .ref 147), (2, .ref 146), (1, .ref 145), (0, .ref 144), (6, .int (0 : Int32)), (14, .int (0 : Int32)), (15, .int (0 : Int32)), (20, .int (0 : Int32)), (21, .int (0 : Int32)), (22, .int (0 : Int32)), (23, .int (0 : Int32)), (27, .int (0 : Int32)), (32, .int (0 : Int32))], none) (pc' := 20) (L' := [(0, .ref 143), (1, .int (97 : Int32))]) h_m234 (z_at.mk 3 rfl rfl) rfl (by decide) rfl (Or.inl rfl) rfl rfl rfl ?_
  clear H m; intro m H
  refine w_rv h_m234 (z_at.mk 1 rfl rfl) rfl ?_
  show z_W 998 235 19 [(0, .ref 143), (1, .ref 18), (2, .int (1 : Int32))] [] m _
  refine w_p h_m235 4 (pc' := 4) (L' := [(0, .ref 143), (1, .ref 18), (2, .int (2 : Int32))]) (st' := [.ref 18, .int (2 : Int32)]) rfl ?_
  refine w_cv (H.te (by decide) rfl).1 (pc' := 7) (L' := [(0, .ref 143), (1, .ref 18), (2, .int (2 : Int32))]) (rest := [.int (2 : Int32)]) (Ps := []) (L0 := [(0, .ref 18)]) h_m235 (z_at.mk 3 rfl rfl) (Or.inl ⟨rfl, rfl⟩) rfl rfl (by decide) (by decide) rfl rfl rfl rfl rfl rfl (by decide) rfl rfl rfl ?_
  refine w_p h_m293 1 (pc' := 1) (L' := [(0, .ref 18)]) (st' := [.ref 18]) rfl ?_
  refine w_gs H (pc' := 4) (L' := [(0, .ref 18)]) h_m293 (z_at.mk 3 rfl rfl) rfl (by decide) rfl rfl rfl rfl ?_
  refine w_lene H (x := (4 : Int32)) (pc' := 5) (L' := [(0, .ref 18)]) h_m293 (z_at.mk 1 rfl rfl) (by decide) rfl (by decide) rfl rfl rfl ?_
  refine w_p h_m293 1 (pc' := 6) (L' := [(0, .ref 18)]) (st' := [.ref 18, .int (4 : Int32)]) rfl ?_
  refine w_cv (H.te (by decide) rfl).1 (pc' := 9) (L' := [(0, .ref 18)]) (rest := [.int (4 : Int32)]) (Ps := []) (L0 := [(0, .ref 18)]) h_m293 (z_at.mk 3 rfl rfl) (Or.inl ⟨rfl, rfl⟩) rfl rfl (by decide) (by decide) rfl rfl rfl rfl rfl rfl (by decide) rfl rfl rfl ?_
  refine w_p h_m298 3 (pc' := 7) (L' := [(0, .ref 18)]) (st' := [.ref 18]) rfl ?_
  refine w_gs H (pc' := 10) (L' := [(0, .ref 18)]) h_m298 (z_at.mk 3 rfl rfl) rfl (by decide) rfl rfl rfl rfl ?_
  refine w_p h_m298 1 (pc' := 14) (L' := []) (st' := [.int (0 : Int32)]) rfl ?_
  refine w_ri h_m298 (z_at.mk 1 rfl rfl) rfl rfl ?_
  show z_W 997 293 9 [(0, .ref 18)] [.int (0 : Int32), .int (4 : Int32)] m _
  refine w_p h_m293 1 (pc' := 10) (L' := [(0, .ref 18)]) (st' := [.int (4 : Int32)]) rfl ?_
  refine w_ri h_m293 (z_at.mk 1 rfl rfl) rfl rfl ?_
  show z_W 998 235 7 [(0, .ref 143), (1, .ref 18), (2, .int (2 : Int32))] [.int (4 : Int32), .int (2 : Int32)] m _
  refine w_p h_m235 4 (pc' := 13) (L' := [(0, .ref 143), (1, .ref 18), (2, .int (2 : Int32))]) (st' := [.int (2 : Int32), .ref 18, .ref 143]) rfl ?_
  refine w_cv (H.te (by decide) rfl).1 (pc' := 16) (L' := [(0, .ref 143), (1, .ref 18), (2, .int (2 : Int32))]) (rest := [.ref 143]) (Ps := [.int (2 : Int32)]) (L0 := [(0, .ref 18), (1, .int (2 : Int32))]) h_m235 (z_at.mk 3 rfl rfl) (Or.inl ⟨rfl, rfl⟩) rfl rfl (by decide) (by decide) rfl rfl rfl rfl rfl rfl (by decide) rfl rfl rfl ?_
  refine w_p h_m294 1 (pc' := 1) (L' := [(0, .ref 18), (1, .int (2 : Int32))]) (st' := [.ref 18]) rfl ?_
  refine w_cv (H.te (by decide) rfl).1 (pc' := 4) (L' := [(0, .ref 18), (1, .int (2 : Int32))]) (rest := []) (Ps := []) (L0 := [(0, .ref 18)]) h_m294 (z_at.mk 3 rfl rfl) (Or.inl ⟨rfl, rfl⟩) rfl rfl (by decide) (by decide) rfl rfl rfl rfl rfl rfl (by decide) rfl rfl rfl ?_
  refine w_p h_m299 3 (pc' := 7) (L' := [(0, .ref 18)]) (st' := [.ref 18]) rfl ?_
  refine w_gs H (pc' := 10) (L' := [(0, .ref 18)]) h_m299 (z_at.mk 3 rfl rfl) rfl (by decide) rfl rfl rfl rfl ?_
  refine w_p h_m299 3 (pc' := 18) (L' := []) (st' := [.int (1 : Int32)]) rfl ?_
  refine w_ri h_m299 (z_at.mk 1 rfl rfl) rfl rfl ?_
  show z_W 997 294 4 [(0, .ref 18), (1, .int (2 : Int32))] [.int (1 : Int32)] m _
  refine w_p h_m294 2 (pc' := 8) (L' := [(0, .ref 18), (1, .int (2 : Int32))]) (st' := [.ref 18]) rfl ?_
  refine w_gs H (pc' := 11) (L' := [(0, .ref 18), (1, .int (2 : Int32))]) h_m294 (z_at.mk 3 rfl rfl) rfl (by decide) rfl rfl rfl rfl ?_
  refine w_p h_m294 1 (pc' := 12) (L' := [(0, .ref 18), (1, .int (2 : Int32))]) (st' := [.int (2 : Int32), .ref 36]) rfl ?_
  refine w_cs (As := [.ref 36, .int (2 : Int32)]) (rest := []) (j := 308) (L0 := [(0, .ref 36), (1, .int (2 : Int32))]) (pc' := 15) (L' := [(0, .ref 18), (1, .int (2 : Int32))]) h_m294 (z_at.mk 3 rfl rfl) (Or.inl ⟨rfl, rfl⟩) rfl rfl rfl rfl rfl ?_
  refine w_p h_m308 2 (pc' := 2) (L' := [(0, .ref 36), (1, .int (2 : Int32))]) (st' := [.ref 36, .int (2 : Int32)]) rfl ?_
  refine w_lene H (x := (4 : Int32)) (pc' := 3) (L' := [(0, .ref 36), (1, .int (2 : Int32))]) h_m308 (z_at.mk 1 rfl rfl) (by decide) rfl (by decide) rfl rfl rfl ?_
  refine w_ci (pc' := 6) (L' := [(0, .ref 36), (1, .int (2 : Int32))]) h_m308 (z_at.mk 3 rfl rfl) rfl (z_cat_le 0 rfl (by decide)) ⟨by decide, by decide⟩ rfl rfl ?_
  refine w_p h_m308 2 (pc' := 8) (L' := [(0, .ref 36), (1, .int (2 : Int32))]) (st' := [.int (2 : Int32), .ref 36]) rfl ?_
  refine w_ae H (j := 2) (pc' := 9) (L' := [(0, .ref 36), (1, .int (2 : Int32))]) h_m308 (z_at.mk 1 rfl rfl) rfl rfl rfl (by decide) rfl (by decide) rfl rfl rfl ?_
  refine w_p h_m308 3 (pc' := 14) (L' := [(0, .ref 36), (1, .int (2 : Int32))]) (st' := [.int (121 : Int32)]) rfl ?_
  refine w_ri h_m308 (z_at.mk 1 rfl rfl) rfl rfl ?_
  show z_W 997 294 15 [(0, .ref 18), (1, .int (2 : Int32))] [.int (121 : Int32)] m _
  refine w_ri h_m294 (z_at.mk 1 rfl rfl) rfl rfl ?_
  show z_W 998 235 16 [(0, .ref 143), (1, .ref 18), (2, .int (2 : Int32))] [.int (121 : Int32), .ref 143] m _
  refine w_cv (H.t rfl) (pc' := 19) (L' := [(0, .ref 143), (1, .ref 18), (2, .int (2 : Int32))]) (rest := []) (Ps := [.int (121 : Int32)]) (L0 := [(0, .ref 143), (1, .int (121 : Int32))]) h_m235 (z_at.mk 3 rfl rfl) (Or.inl ⟨rfl, rfl⟩) rfl rfl (by decide) (by decide) rfl rfl rfl rfl rfl rfl (by decide) rfl rfl rfl ?_
  refine w_p h_m234 1 (pc' := 1) (L' := [(0, .ref 143), (1, .int (121 : Int32))]) (st' := [.ref 143]) rfl ?_
  refine w_gf H (pc' := 4) (L' := [(0, .ref 143), (1, .int (121 : Int32))]) h_m234 (z_at.mk 3 rfl rfl) rfl (u := .ref 163) rfl rfl rfl ?_
  refine w_p h_m234 1 (pc' := 5) (L' := [(0, .ref 143), (1, .int (121 : Int32))]) (st' := [.ref 143, .ref 163]) rfl ?_
  refine w_gf H (pc' := 8) (L' := [(0, .ref 143), (1, .int (121 : Int32))]) h_m234 (z_at.mk 3 rfl rfl) rfl (u := .int (19 : Int32)) rfl rfl rfl ?_
  refine w_p h_m234 1 (pc' := 9) (L' := [(0, .ref 143), (1, .int (121 : Int32))]) (st' := [.int (121 : Int32), .int (19 : Int32), .ref 163]) rfl ?_
  refine w_as H (t := 0) (j := 19) (u := .int (121 : Int32)) (0, 40000, [(19, .int (121 : Int32)), (18, .int (97 : Int32)), (17, .int (112 : Int32)), (16, .int (59 : Int32)), (15, .int (48 : Int32)), (14, .int (49 : Int32)), (13, .int (32 : Int32)), (12, .int ((48 : Int32) + ((xs 4) - (xs 4) / (10 : Int32) * (10 : Int32)))), (11, .int ((48 : Int32) + (((xs 4) / (10 : Int32)) - ((xs 4) / (10 : Int32)) / (10 : Int32) * (10 : Int32)))), (10, .int (45 : Int32)), (9, .int ((48 : Int32) + ((xs 3) - (xs 3) / (10 : Int32) * (10 : Int32)))), (8, .int (44 : Int32)), (7, .int ((48 : Int32) + ((xs 2) - (xs 2) / (10 : Int32) * (10 : Int32)))), (6, .int ((48 : Int32) + (((xs 2) / (10 : Int32)) - ((xs 2) / (10 : Int32)) / (10 : Int32) * (10 : Int32)))), (5, .int (45 : Int32)), (4, .int ((48 : Int32) + ((xs 1) - (xs 1) / (10 : Int32) * (10 : Int32)))), (3, .int (32 : Int32)), (2, .int (107 : Int32)), (1, .int (115 : Int32)), (0, .int (97 : Int32))], some (.int (0 : Int32))) (pc' := 10) (L' := [(0, .ref 143), (1, .int (121 : Int32))]) h_m234 (z_at.mk 1 rfl rfl) rfl rfl (w_ui _ _ (by decide)) rfl rfl rfl rfl ?_
  clear H m; intro m H
  refine w_p h_m234 2 (pc' := 12) (L' := [(0, .ref 143), (1, .int (121 : Int32))]) (st' := [.ref 143, .ref 143]) rfl ?_
  refine w_gf H (pc' := 15) (L' := [(0, .ref 143), (1, .int (121 : Int32))]) h_m234 (z_at.mk 3 rfl rfl) rfl (u := .int (19 : Int32)) rfl rfl rfl ?_
  refine w_p h_m234 2 (pc' := 17) (L' := [(0, .ref 143), (1, .int (121 : Int32))]) (st' := [.int (20 : Int32), .ref 143]) rfl ?_
  refine w_pf H (22, 35, [(29, .int (20 : Int32)), (10, .int (1 : Int32)), (34, .ref 167), (33, .ref 166), (31, .ref 165), (30, .ref 164), (28, .ref 163), (26, .ref 162), (25, .ref 161), (24, .ref 160), (19, .ref 159), (18, .ref 158), (17, .ref 157), (16, .ref 156), (13, .ref 155), (12, .ref 154), (11, .ref 153), (9, .ref 152), (8, .ref 151), (7, .ref 150), (5, .ref 149), (4, .ref 148), (3, .ref 147), (2, .ref 146), (1, .ref 145), (0, .ref 144), (6, .int (0 : Int32)), (14, .int (0 : Int32)), (15, .int (0 : Int32)), (20, .int (0 : Int32)), (21, .int (0 : Int32)), (22, .int (0 : Int32)), (23, .int (0 : Int32)), (27, .int (0 : Int32)), (32, .int (0 : Int32))], none) (pc' := 20) (L' := [(0, .ref 143), (1, .int (121 : Int32))]) h_m234 (z_at.mk 3 rfl rfl) rfl (by decide) rfl (Or.inl rfl) rfl rfl rfl ?_
  clear H m; intro m H
  refine w_rv h_m234 (z_at.mk 1 rfl rfl) rfl ?_
  show z_W 998 235 19 [(0, .ref 143), (1, .ref 18), (2, .int (2 : Int32))] [] m _
  refine w_p h_m235 4 (pc' := 4) (L' := [(0, .ref 143), (1, .ref 18), (2, .int (3 : Int32))]) (st' := [.ref 18, .int (3 : Int32)]) rfl ?_
  refine w_cv (H.te (by decide) rfl).1 (pc' := 7) (L' := [(0, .ref 143), (1, .ref 18), (2, .int (3 : Int32))]) (rest := [.int (3 : Int32)]) (Ps := []) (L0 := [(0, .ref 18)]) h_m235 (z_at.mk 3 rfl rfl) (Or.inl ⟨rfl, rfl⟩) rfl rfl (by decide) (by decide) rfl rfl rfl rfl rfl rfl (by decide) rfl rfl rfl ?_
  refine w_p h_m293 1 (pc' := 1) (L' := [(0, .ref 18)]) (st' := [.ref 18]) rfl ?_
  refine w_gs H (pc' := 4) (L' := [(0, .ref 18)]) h_m293 (z_at.mk 3 rfl rfl) rfl (by decide) rfl rfl rfl rfl ?_
  refine w_lene H (x := (4 : Int32)) (pc' := 5) (L' := [(0, .ref 18)]) h_m293 (z_at.mk 1 rfl rfl) (by decide) rfl (by decide) rfl rfl rfl ?_
  refine w_p h_m293 1 (pc' := 6) (L' := [(0, .ref 18)]) (st' := [.ref 18, .int (4 : Int32)]) rfl ?_
  refine w_cv (H.te (by decide) rfl).1 (pc' := 9) (L' := [(0, .ref 18)]) (rest := [.int (4 : Int32)]) (Ps := []) (L0 := [(0, .ref 18)]) h_m293 (z_at.mk 3 rfl rfl) (Or.inl ⟨rfl, rfl⟩) rfl rfl (by decide) (by decide) rfl rfl rfl rfl rfl rfl (by decide) rfl rfl rfl ?_
  refine w_p h_m298 3 (pc' := 7) (L' := [(0, .ref 18)]) (st' := [.ref 18]) rfl ?_
  refine w_gs H (pc' := 10) (L' := [(0, .ref 18)]) h_m298 (z_at.mk 3 rfl rfl) rfl (by decide) rfl rfl rfl rfl ?_
  refine w_p h_m298 1 (pc' := 14) (L' := []) (st' := [.int (0 : Int32)]) rfl ?_
  refine w_ri h_m298 (z_at.mk 1 rfl rfl) rfl rfl ?_
  show z_W 997 293 9 [(0, .ref 18)] [.int (0 : Int32), .int (4 : Int32)] m _
  refine w_p h_m293 1 (pc' := 10) (L' := [(0, .ref 18)]) (st' := [.int (4 : Int32)]) rfl ?_
  refine w_ri h_m293 (z_at.mk 1 rfl rfl) rfl rfl ?_
  show z_W 998 235 7 [(0, .ref 143), (1, .ref 18), (2, .int (3 : Int32))] [.int (4 : Int32), .int (3 : Int32)] m _
  refine w_p h_m235 4 (pc' := 13) (L' := [(0, .ref 143), (1, .ref 18), (2, .int (3 : Int32))]) (st' := [.int (3 : Int32), .ref 18, .ref 143]) rfl ?_
  refine w_cv (H.te (by decide) rfl).1 (pc' := 16) (L' := [(0, .ref 143), (1, .ref 18), (2, .int (3 : Int32))]) (rest := [.ref 143]) (Ps := [.int (3 : Int32)]) (L0 := [(0, .ref 18), (1, .int (3 : Int32))]) h_m235 (z_at.mk 3 rfl rfl) (Or.inl ⟨rfl, rfl⟩) rfl rfl (by decide) (by decide) rfl rfl rfl rfl rfl rfl (by decide) rfl rfl rfl ?_
  refine w_p h_m294 1 (pc' := 1) (L' := [(0, .ref 18), (1, .int (3 : Int32))]) (st' := [.ref 18]) rfl ?_
  refine w_cv (H.te (by decide) rfl).1 (pc' := 4) (L' := [(0, .ref 18), (1, .int (3 : Int32))]) (rest := []) (Ps := []) (L0 := [(0, .ref 18)]) h_m294 (z_at.mk 3 rfl rfl) (Or.inl ⟨rfl, rfl⟩) rfl rfl (by decide) (by decide) rfl rfl rfl rfl rfl rfl (by decide) rfl rfl rfl ?_
  refine w_p h_m299 3 (pc' := 7) (L' := [(0, .ref 18)]) (st' := [.ref 18]) rfl ?_
  refine w_gs H (pc' := 10) (L' := [(0, .ref 18)]) h_m299 (z_at.mk 3 rfl rfl) rfl (by decide) rfl rfl rfl rfl ?_
  refine w_p h_m299 3 (pc' := 18) (L' := []) (st' := [.int (1 : Int32)]) rfl ?_
  refine w_ri h_m299 (z_at.mk 1 rfl rfl) rfl rfl ?_
  show z_W 997 294 4 [(0, .ref 18), (1, .int (3 : Int32))] [.int (1 : Int32)] m _
  refine w_p h_m294 2 (pc' := 8) (L' := [(0, .ref 18), (1, .int (3 : Int32))]) (st' := [.ref 18]) rfl ?_
  refine w_gs H (pc' := 11) (L' := [(0, .ref 18), (1, .int (3 : Int32))]) h_m294 (z_at.mk 3 rfl rfl) rfl (by decide) rfl rfl rfl rfl ?_
  refine w_p h_m294 1 (pc' := 12) (L' := [(0, .ref 18), (1, .int (3 : Int32))]) (st' := [.int (3 : Int32), .ref 36]) rfl ?_
  refine w_cs (As := [.ref 36, .int (3 : Int32)]) (rest := []) (j := 308) (L0 := [(0, .ref 36), (1, .int (3 : Int32))]) (pc' := 15) (L' := [(0, .ref 18), (1, .int (3 : Int32))]) h_m294 (z_at.mk 3 rfl rfl) (Or.inl ⟨rfl, rfl⟩) rfl rfl rfl rfl rfl ?_
  refine w_p h_m308 2 (pc' := 2) (L' := [(0, .ref 36), (1, .int (3 : Int32))]) (st' := [.ref 36, .int (3 : Int32)]) rfl ?_
  refine w_lene H (x := (4 : Int32)) (pc' := 3) (L' := [(0, .ref 36), (1, .int (3 : Int32))]) h_m308 (z_at.mk 1 rfl rfl) (by decide) rfl (by decide) rfl rfl rfl ?_
  refine w_ci (pc' := 6) (L' := [(0, .ref 36), (1, .int (3 : Int32))]) h_m308 (z_at.mk 3 rfl rfl) rfl (z_cat_le 0 rfl (by decide)) ⟨by decide, by decide⟩ rfl rfl ?_
  refine w_p h_m308 2 (pc' := 8) (L' := [(0, .ref 36), (1, .int (3 : Int32))]) (st' := [.int (3 : Int32), .ref 36]) rfl ?_
  refine w_ae H (j := 3) (pc' := 9) (L' := [(0, .ref 36), (1, .int (3 : Int32))]) h_m308 (z_at.mk 1 rfl rfl) rfl rfl rfl (by decide) rfl (by decide) rfl rfl rfl ?_
  refine w_p h_m308 3 (pc' := 14) (L' := [(0, .ref 36), (1, .int (3 : Int32))]) (st' := [.int (32 : Int32)]) rfl ?_
  refine w_ri h_m308 (z_at.mk 1 rfl rfl) rfl rfl ?_
  show z_W 997 294 15 [(0, .ref 18), (1, .int (3 : Int32))] [.int (32 : Int32)] m _
  refine w_ri h_m294 (z_at.mk 1 rfl rfl) rfl rfl ?_
  show z_W 998 235 16 [(0, .ref 143), (1, .ref 18), (2, .int (3 : Int32))] [.int (32 : Int32), .ref 143] m _
  refine w_cv (H.t rfl) (pc' := 19) (L' := [(0, .ref 143), (1, .ref 18), (2, .int (3 : Int32))]) (rest := []) (Ps := [.int (32 : Int32)]) (L0 := [(0, .ref 143), (1, .int (32 : Int32))]) h_m235 (z_at.mk 3 rfl rfl) (Or.inl ⟨rfl, rfl⟩) rfl rfl (by decide) (by decide) rfl rfl rfl rfl rfl rfl (by decide) rfl rfl rfl ?_
  refine w_p h_m234 1 (pc' := 1) (L' := [(0, .ref 143), (1, .int (32 : Int32))]) (st' := [.ref 143]) rfl ?_
  refine w_gf H (pc' := 4) (L' := [(0, .ref 143), (1, .int (32 : Int32))]) h_m234 (z_at.mk 3 rfl rfl) rfl (u := .ref 163) rfl rfl rfl ?_
  refine w_p h_m234 1 (pc' := 5) (L' := [(0, .ref 143), (1, .int (32 : Int32))]) (st' := [.ref 143, .ref 163]) rfl ?_
  refine w_gf H (pc' := 8) (L' := [(0, .ref 143), (1, .int (32 : Int32))]) h_m234 (z_at.mk 3 rfl rfl) rfl (u := .int (20 : Int32)) rfl rfl rfl ?_
  refine w_p h_m234 1 (pc' := 9) (L' := [(0, .ref 143), (1, .int (32 : Int32))]) (st' := [.int (32 : Int32), .int (20 : Int32), .ref 163]) rfl ?_
  refine w_as H (t := 0) (j := 20) (u := .int (32 : Int32)) (0, 40000, [(20, .int (32 : Int32)), (19, .int (121 : Int32)), (18, .int (97 : Int32)), (17, .int (112 : Int32)), (16, .int (59 : Int32)), (15, .int (48 : Int32)), (14, .int (49 : Int32)), (13, .int (32 : Int32)), (12, .int ((48 : Int32) + ((xs 4) - (xs 4) / (10 : Int32) * (10 : Int32)))), (11, .int ((48 : Int32) + (((xs 4) / (10 : Int32)) - ((xs 4) / (10 : Int32)) / (10 : Int32) * (10 : Int32)))), (10, .int (45 : Int32)), (9, .int ((48 : Int32) + ((xs 3) - (xs 3) / (10 : Int32) * (10 : Int32)))), (8, .int (44 : Int32)), (7, .int ((48 : Int32) + ((xs 2) - (xs 2) / (10 : Int32) * (10 : Int32)))), (6, .int ((48 : Int32) + (((xs 2) / (10 : Int32)) - ((xs 2) / (10 : Int32)) / (10 : Int32) * (10 : Int32)))), (5, .int (45 : Int32)), (4, .int ((48 : Int32) + ((xs 1) - (xs 1) / (10 : Int32) * (10 : Int32)))), (3, .int (32 : Int32)), (2, .int (107 : Int32)), (1, .int (115 : Int32)), (0, .int (97 : Int32))], some (.int (0 : Int32))) (pc' := 10) (L' := [(0, .ref 143), (1, .int (32 : Int32))]) h_m234 (z_at.mk 1 rfl rfl) rfl rfl (w_ui _ _ (by decide)) rfl rfl rfl rfl ?_
  clear H m; intro m H
  refine w_p h_m234 2 (pc' := 12) (L' := [(0, .ref 143), (1, .int (32 : Int32))]) (st' := [.ref 143, .ref 143]) rfl ?_
  refine w_gf H (pc' := 15) (L' := [(0, .ref 143), (1, .int (32 : Int32))]) h_m234 (z_at.mk 3 rfl rfl) rfl (u := .int (20 : Int32)) rfl rfl rfl ?_
  refine w_p h_m234 2 (pc' := 17) (L' := [(0, .ref 143), (1, .int (32 : Int32))]) (st' := [.int (21 : Int32), .ref 143]) rfl ?_
  refine w_pf H (22, 35, [(29, .int (21 : Int32)), (10, .int (1 : Int32)), (34, .ref 167), (33, .ref 166), (31, .ref 165), (30, .ref 164), (28, .ref 163), (26, .ref 162), (25, .ref 161), (24, .ref 160), (19, .ref 159), (18, .ref 158), (17, .ref 157), (16, .ref 156), (13, .ref 155), (12, .ref 154), (11, .ref 153), (9, .ref 152), (8, .ref 151), (7, .ref 150), (5, .ref 149), (4, .ref 148), (3, .ref 147), (2, .ref 146), (1, .ref 145), (0, .ref 144), (6, .int (0 : Int32)), (14, .int (0 : Int32)), (15, .int (0 : Int32)), (20, .int (0 : Int32)), (21, .int (0 : Int32)), (22, .int (0 : Int32)), (23, .int (0 : Int32)), (27, .int (0 : Int32)), (32, .int (0 : Int32))], none) (pc' := 20) (L' := [(0, .ref 143), (1, .int (32 : Int32))]) h_m234 (z_at.mk 3 rfl rfl) rfl (by decide) rfl (Or.inl rfl) rfl rfl rfl ?_
  clear H m; intro m H
  refine w_rv h_m234 (z_at.mk 1 rfl rfl) rfl ?_
  show z_W 998 235 19 [(0, .ref 143), (1, .ref 18), (2, .int (3 : Int32))] [] m _
  refine w_p h_m235 4 (pc' := 4) (L' := [(0, .ref 143), (1, .ref 18), (2, .int (4 : Int32))]) (st' := [.ref 18, .int (4 : Int32)]) rfl ?_
  refine w_cv (H.te (by decide) rfl).1 (pc' := 7) (L' := [(0, .ref 143), (1, .ref 18), (2, .int (4 : Int32))]) (rest := [.int (4 : Int32)]) (Ps := []) (L0 := [(0, .ref 18)]) h_m235 (z_at.mk 3 rfl rfl) (Or.inl ⟨rfl, rfl⟩) rfl rfl (by decide) (by decide) rfl rfl rfl rfl rfl rfl (by decide) rfl rfl rfl ?_
  refine w_p h_m293 1 (pc' := 1) (L' := [(0, .ref 18)]) (st' := [.ref 18]) rfl ?_
  refine w_gs H (pc' := 4) (L' := [(0, .ref 18)]) h_m293 (z_at.mk 3 rfl rfl) rfl (by decide) rfl rfl rfl rfl ?_
  refine w_lene H (x := (4 : Int32)) (pc' := 5) (L' := [(0, .ref 18)]) h_m293 (z_at.mk 1 rfl rfl) (by decide) rfl (by decide) rfl rfl rfl ?_
  refine w_p h_m293 1 (pc' := 6) (L' := [(0, .ref 18)]) (st' := [.ref 18, .int (4 : Int32)]) rfl ?_
  refine w_cv (H.te (by decide) rfl).1 (pc' := 9) (L' := [(0, .ref 18)]) (rest := [.int (4 : Int32)]) (Ps := []) (L0 := [(0, .ref 18)]) h_m293 (z_at.mk 3 rfl rfl) (Or.inl ⟨rfl, rfl⟩) rfl rfl (by decide) (by decide) rfl rfl rfl rfl rfl rfl (by decide) rfl rfl rfl ?_
  refine w_p h_m298 3 (pc' := 7) (L' := [(0, .ref 18)]) (st' := [.ref 18]) rfl ?_
  refine w_gs H (pc' := 10) (L' := [(0, .ref 18)]) h_m298 (z_at.mk 3 rfl rfl) rfl (by decide) rfl rfl rfl rfl ?_
  refine w_p h_m298 1 (pc' := 14) (L' := []) (st' := [.int (0 : Int32)]) rfl ?_
  refine w_ri h_m298 (z_at.mk 1 rfl rfl) rfl rfl ?_
  show z_W 997 293 9 [(0, .ref 18)] [.int (0 : Int32), .int (4 : Int32)] m _
  refine w_p h_m293 1 (pc' := 10) (L' := [(0, .ref 18)]) (st' := [.int (4 : Int32)]) rfl ?_
  refine w_ri h_m293 (z_at.mk 1 rfl rfl) rfl rfl ?_
  show z_W 998 235 7 [(0, .ref 143), (1, .ref 18), (2, .int (4 : Int32))] [.int (4 : Int32), .int (4 : Int32)] m _
  refine w_p h_m235 1 (pc' := 25) (L' := [(0, .ref 143), (1, .ref 18), (2, .int (4 : Int32))]) (st' := []) rfl ?_
  refine w_rv h_m235 (z_at.mk 1 rfl rfl) rfl ?_
  show z_W 999 239 238 [(0, .ref 143), (5, .int (10 : Int32)), (6, .int (1 : Int32))] [] m _
  refine w_p h_m239 2 (pc' := 241) (L' := [(0, .ref 143), (5, .int (10 : Int32)), (6, .int (1 : Int32))]) (st' := [.int (10 : Int32), .ref 143]) rfl ?_
  refine w_cv (H.t rfl) (pc' := 244) (L' := [(0, .ref 143), (5, .int (10 : Int32)), (6, .int (1 : Int32))]) (rest := []) (Ps := [.int (10 : Int32)]) (L0 := [(0, .ref 143), (1, .int (10 : Int32))]) h_m239 (z_at.mk 3 rfl rfl) (Or.inl ⟨rfl, rfl⟩) rfl rfl (by decide) (by decide) rfl rfl rfl rfl rfl rfl (by decide) rfl rfl rfl ?_
  refine w_p h_m236 7 (pc' := 11) (L' := [(0, .ref 143), (1, .int (10 : Int32))]) (st' := [.int (1 : Int32), .ref 143]) rfl ?_
  refine w_cv (H.t rfl) (pc' := 14) (L' := [(0, .ref 143), (1, .int (10 : Int32))]) (rest := []) (Ps := [.int (1 : Int32)]) (L0 := [(0, .ref 143), (1, .int (1 : Int32))]) h_m236 (z_at.mk 3 rfl rfl) (Or.inl ⟨rfl, rfl⟩) rfl rfl (by decide) (by decide) rfl rfl rfl rfl rfl rfl (by decide) rfl rfl rfl ?_
  refine w_p h_m236 9 (pc' := 22) (L' := [(0, .ref 143), (1, .int (1 : Int32))]) (st' := [.int (49 : Int32), .ref 143]) rfl ?_
  refine w_cv (H.t rfl) (pc' := 25) (L' := [(0, .ref 143), (1, .int (1 : Int32))]) (rest := []) (Ps := [.int (49 : Int32)]) (L0 := [(0, .ref 143), (1, .int (49 : Int32))]) h_m236 (z_at.mk 3 rfl rfl) (Or.inl ⟨rfl, rfl⟩) rfl rfl (by decide) (by decide) rfl rfl rfl rfl rfl rfl (by decide) rfl rfl rfl ?_
  refine w_p h_m234 1 (pc' := 1) (L' := [(0, .ref 143), (1, .int (49 : Int32))]) (st' := [.ref 143]) rfl ?_
  refine w_gf H (pc' := 4) (L' := [(0, .ref 143), (1, .int (49 : Int32))]) h_m234 (z_at.mk 3 rfl rfl) rfl (u := .ref 163) rfl rfl rfl ?_
  refine w_p h_m234 1 (pc' := 5) (L' := [(0, .ref 143), (1, .int (49 : Int32))]) (st' := [.ref 143, .ref 163]) rfl ?_
  refine w_gf H (pc' := 8) (L' := [(0, .ref 143), (1, .int (49 : Int32))]) h_m234 (z_at.mk 3 rfl rfl) rfl (u := .int (21 : Int32)) rfl rfl rfl ?_
  refine w_p h_m234 1 (pc' := 9) (L' := [(0, .ref 143), (1, .int (49 : Int32))]) (st' := [.int (49 : Int32), .int (21 : Int32), .ref 163]) rfl ?_
  refine w_as H (t := 0) (j := 21) (u := .int (49 : Int32)) (0, 40000, [(21, .int (49 : Int32)), (20, .int (32 : Int32)), (19, .int (121 : Int32)), (18, .int (97 : Int32)), (17, .int (112 : Int32)), (16, .int (59 : Int32)), (15, .int (48 : Int32)), (14, .int (49 : Int32)), (13, .int (32 : Int32)), (12, .int ((48 : Int32) + ((xs 4) - (xs 4) / (10 : Int32) * (10 : Int32)))), (11, .int ((48 : Int32) + (((xs 4) / (10 : Int32)) - ((xs 4) / (10 : Int32)) / (10 : Int32) * (10 : Int32)))), (10, .int (45 : Int32)), (9, .int ((48 : Int32) + ((xs 3) - (xs 3) / (10 : Int32) * (10 : Int32)))), (8, .int (44 : Int32)), (7, .int ((48 : Int32) + ((xs 2) - (xs 2) / (10 : Int32) * (10 : Int32)))), (6, .int ((48 : Int32) + (((xs 2) / (10 : Int32)) - ((xs 2) / (10 : Int32)) / (10 : Int32) * (10 : Int32)))), (5, .int (45 : Int32)), (4, .int ((48 : Int32) + ((xs 1) - (xs 1) / (10 : Int32) * (10 : Int32)))), (3, .int (32 : Int32)), (2, .int (107 : Int32)), (1, .int (115 : Int32)), (0, .int (97 : Int32))], some (.int (0 : Int32))) (pc' := 10) (L' := [(0, .ref 143), (1, .int (49 : Int32))]) h_m234 (z_at.mk 1 rfl rfl) rfl rfl (w_ui _ _ (by decide)) rfl rfl rfl rfl ?_
  clear H m; intro m H
  refine w_p h_m234 2 (pc' := 12) (L' := [(0, .ref 143), (1, .int (49 : Int32))]) (st' := [.ref 143, .ref 143]) rfl ?_
  refine w_gf H (pc' := 15) (L' := [(0, .ref 143), (1, .int (49 : Int32))]) h_m234 (z_at.mk 3 rfl rfl) rfl (u := .int (21 : Int32)) rfl rfl rfl ?_
  refine w_p h_m234 2 (pc' := 17) (L' := [(0, .ref 143), (1, .int (49 : Int32))]) (st' := [.int (22 : Int32), .ref 143]) rfl ?_
  refine w_pf H (22, 35, [(29, .int (22 : Int32)), (10, .int (1 : Int32)), (34, .ref 167), (33, .ref 166), (31, .ref 165), (30, .ref 164), (28, .ref 163), (26, .ref 162), (25, .ref 161), (24, .ref 160), (19, .ref 159), (18, .ref 158), (17, .ref 157), (16, .ref 156), (13, .ref 155), (12, .ref 154), (11, .ref 153), (9, .ref 152), (8, .ref 151), (7, .ref 150), (5, .ref 149), (4, .ref 148), (3, .ref 147), (2, .ref 146), (1, .ref 145), (0, .ref 144), (6, .int (0 : Int32)), (14, .int (0 : Int32)), (15, .int (0 : Int32)), (20, .int (0 : Int32)), (21, .int (0 : Int32)), (22, .int (0 : Int32)), (23, .int (0 : Int32)), (27, .int (0 : Int32)), (32, .int (0 : Int32))], none) (pc' := 20) (L' := [(0, .ref 143), (1, .int (49 : Int32))]) h_m234 (z_at.mk 3 rfl rfl) rfl (by decide) rfl (Or.inl rfl) rfl rfl rfl ?_
  clear H m; intro m H
  refine w_rv h_m234 (z_at.mk 1 rfl rfl) rfl ?_
  show z_W 997 236 25 [(0, .ref 143), (1, .int (1 : Int32))] [] m _
  refine w_rv h_m236 (z_at.mk 1 rfl rfl) rfl ?_
  show z_W 998 236 14 [(0, .ref 143), (1, .int (10 : Int32))] [] m _
  refine w_p h_m236 6 (pc' := 22) (L' := [(0, .ref 143), (1, .int (10 : Int32))]) (st' := [.int (48 : Int32), .ref 143]) rfl ?_
  refine w_cv (H.t rfl) (pc' := 25) (L' := [(0, .ref 143), (1, .int (10 : Int32))]) (rest := []) (Ps := [.int (48 : Int32)]) (L0 := [(0, .ref 143), (1, .int (48 : Int32))]) h_m236 (z_at.mk 3 rfl rfl) (Or.inl ⟨rfl, rfl⟩) rfl rfl (by decide) (by decide) rfl rfl rfl rfl rfl rfl (by decide) rfl rfl rfl ?_
  refine w_p h_m234 1 (pc' := 1) (L' := [(0, .ref 143), (1, .int (48 : Int32))]) (st' := [.ref 143]) rfl ?_
  refine w_gf H (pc' := 4) (L' := [(0, .ref 143), (1, .int (48 : Int32))]) h_m234 (z_at.mk 3 rfl rfl) rfl (u := .ref 163) rfl rfl rfl ?_
  refine w_p h_m234 1 (pc' := 5) (L' := [(0, .ref 143), (1, .int (48 : Int32))]) (st' := [.ref 143, .ref 163]) rfl ?_
  refine w_gf H (pc' := 8) (L' := [(0, .ref 143), (1, .int (48 : Int32))]) h_m234 (z_at.mk 3 rfl rfl) rfl (u := .int (22 : Int32)) rfl rfl rfl ?_
  refine w_p h_m234 1 (pc' := 9) (L' := [(0, .ref 143), (1, .int (48 : Int32))]) (st' := [.int (48 : Int32), .int (22 : Int32), .ref 163]) rfl ?_
  refine w_as H (t := 0) (j := 22) (u := .int (48 : Int32)) (0, 40000, [(22, .int (48 : Int32)), (21, .int (49 : Int32)), (20, .int (32 : Int32)), (19, .int (121 : Int32)), (18, .int (97 : Int32)), (17, .int (112 : Int32)), (16, .int (59 : Int32)), (15, .int (48 : Int32)), (14, .int (49 : Int32)), (13, .int (32 : Int32)), (12, .int ((48 : Int32) + ((xs 4) - (xs 4) / (10 : Int32) * (10 : Int32)))), (11, .int ((48 : Int32) + (((xs 4) / (10 : Int32)) - ((xs 4) / (10 : Int32)) / (10 : Int32) * (10 : Int32)))), (10, .int (45 : Int32)), (9, .int ((48 : Int32) + ((xs 3) - (xs 3) / (10 : Int32) * (10 : Int32)))), (8, .int (44 : Int32)), (7, .int ((48 : Int32) + ((xs 2) - (xs 2) / (10 : Int32) * (10 : Int32)))), (6, .int ((48 : Int32) + (((xs 2) / (10 : Int32)) - ((xs 2) / (10 : Int32)) / (10 : Int32) * (10 : Int32)))), (5, .int (45 : Int32)), (4, .int ((48 : Int32) + ((xs 1) - (xs 1) / (10 : Int32) * (10 : Int32)))), (3, .int (32 : Int32)), (2, .int (107 : Int32)), (1, .int (115 : Int32)), (0, .int (97 : Int32))], some (.int (0 : Int32))) (pc' := 10) (L' := [(0, .ref 143), (1, .int (48 : Int32))]) h_m234 (z_at.mk 1 rfl rfl) rfl rfl (w_ui _ _ (by decide)) rfl rfl rfl rfl ?_
  clear H m; intro m H
  refine w_p h_m234 2 (pc' := 12) (L' := [(0, .ref 143), (1, .int (48 : Int32))]) (st' := [.ref 143, .ref 143]) rfl ?_
  refine w_gf H (pc' := 15) (L' := [(0, .ref 143), (1, .int (48 : Int32))]) h_m234 (z_at.mk 3 rfl rfl) rfl (u := .int (22 : Int32)) rfl rfl rfl ?_
  refine w_p h_m234 2 (pc' := 17) (L' := [(0, .ref 143), (1, .int (48 : Int32))]) (st' := [.int (23 : Int32), .ref 143]) rfl ?_
  refine w_pf H (22, 35, [(29, .int (23 : Int32)), (10, .int (1 : Int32)), (34, .ref 167), (33, .ref 166), (31, .ref 165), (30, .ref 164), (28, .ref 163), (26, .ref 162), (25, .ref 161), (24, .ref 160), (19, .ref 159), (18, .ref 158), (17, .ref 157), (16, .ref 156), (13, .ref 155), (12, .ref 154), (11, .ref 153), (9, .ref 152), (8, .ref 151), (7, .ref 150), (5, .ref 149), (4, .ref 148), (3, .ref 147), (2, .ref 146), (1, .ref 145), (0, .ref 144), (6, .int (0 : Int32)), (14, .int (0 : Int32)), (15, .int (0 : Int32)), (20, .int (0 : Int32)), (21, .int (0 : Int32)), (22, .int (0 : Int32)), (23, .int (0 : Int32)), (27, .int (0 : Int32)), (32, .int (0 : Int32))], none) (pc' := 20) (L' := [(0, .ref 143), (1, .int (48 : Int32))]) h_m234 (z_at.mk 3 rfl rfl) rfl (by decide) rfl (Or.inl rfl) rfl rfl rfl ?_
  clear H m; intro m H
  refine w_rv h_m234 (z_at.mk 1 rfl rfl) rfl ?_
  show z_W 998 236 25 [(0, .ref 143), (1, .int (10 : Int32))] [] m _
  refine w_rv h_m236 (z_at.mk 1 rfl rfl) rfl ?_
  show z_W 999 239 244 [(0, .ref 143), (5, .int (10 : Int32)), (6, .int (1 : Int32))] [] m _
  refine w_p h_m239 1 (pc' := 245) (L' := [(0, .ref 143), (5, .int (10 : Int32)), (6, .int (1 : Int32))]) (st' := [.ref 143]) rfl ?_
  refine w_gf H (pc' := 248) (L' := [(0, .ref 143), (5, .int (10 : Int32)), (6, .int (1 : Int32))]) h_m239 (z_at.mk 3 rfl rfl) rfl (u := .int (23 : Int32)) rfl rfl rfl ?_
  refine w_ri h_m239 (z_at.mk 1 rfl rfl) rfl rfl ?_
  show z_W 1000 1000 542 [(0, .ref 0), (1, .ref 39), (2, .ref 143), (3, .int (0 : Int32))] [.int (23 : Int32), .int (23 : Int32)] m _
  refine w_p h_m1000 5 (pc' := 20) (L' := [(0, .ref 0), (1, .ref 39), (2, .ref 143), (3, .int (6 : Int32))]) (st' := [.ref 0, .int (6 : Int32)]) rfl ?_
  refine w_lene H (x := (6 : Int32)) (pc' := 21) (L' := [(0, .ref 0), (1, .ref 39), (2, .ref 143), (3, .int (6 : Int32))]) h_m1000 (z_at.mk 1 rfl rfl) (by decide) rfl (by decide) rfl rfl rfl ?_
  refine w_p h_m1000 4 (pc' := 1381) (L' := [(0, .ref 0), (1, .ref 39), (2, .ref 143), (3, .int (6 : Int32))]) (st' := [.int (1 : Int32)]) rfl ?_
  refine w_ri h_m1000 (z_at.mk 1 rfl rfl) rfl rfl ?_
  exact hQ _ _ _ _ H hN hS
