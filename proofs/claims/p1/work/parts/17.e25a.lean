/-! THE ROADS of calls 25 on a fresh object (by wip/px_cmd.py) -/
set_option maxHeartbeats 400000000 in
set_option maxRecDepth 20000 in
theorem w_turn_146_2 {xs : Nat → Int32} {m : zM} {Q : Option Value → zM → Prop} (hp : (xs 1).toInt < 0) (H : w_ok 6 xs 168 63950 ((106, (12, 18, [(15, .int (0 : Int32)), (14, .int (0 : Int32)), (13, .int (0 : Int32)), (12, .int (0 : Int32)), (11, .int (0 : Int32)), (10, .int (0 : Int32)), (9, .long (0 : Int64)), (8, .int (0 : Int32)), (2, .int (0 : Int32)), (0, .ref 41), (17, .ref 116), (16, .ref 114), (7, .ref 113), (6, .ref 112), (5, .ref 111), (4, .ref 110), (3, .ref 109), (1, .ref 107)], none)) :: (108, (0, 7, [(1, .int (1 : Int32)), (6, .int (1024 : Int32)), (5, .int (1 : Int32)), (4, .int (1 : Int32)), (3, .int (0 : Int32)), (2, .int (12 : Int32)), (0, .int (10 : Int32))], some (.int (0 : Int32)))) :: w_T0) m) (hQ : ∀ m, w_ok 6 xs 168 63950 ((106, (12, 18, [(15, .int (0 : Int32)), (14, .int (0 : Int32)), (13, .int (0 : Int32)), (12, .int (0 : Int32)), (11, .int (0 : Int32)), (10, .int (0 : Int32)), (9, .long (0 : Int64)), (8, .int (0 : Int32)), (2, .int (0 : Int32)), (0, .ref 41), (17, .ref 116), (16, .ref 114), (7, .ref 113), (6, .ref 112), (5, .ref 111), (4, .ref 110), (3, .ref 109), (1, .ref 107)], none)) :: (108, (0, 7, [(1, .int (2 : Int32)), (6, .int (1024 : Int32)), (5, .int (1 : Int32)), (4, .int (1 : Int32)), (3, .int (0 : Int32)), (2, .int (12 : Int32)), (0, .int (10 : Int32))], some (.int (0 : Int32)))) :: w_T0) m → z_W 999 146 2 [(0, .ref 39), (1, .int (xs 1)), (2, .int (3 : Int32))] [] m Q) : z_W 999 146 2 [(0, .ref 39), (1, .int (xs 1)), (2, .int (2 : Int32))] [] m Q := by
  refine w_p h_m146 5 (pc' := 10) (L' := [(0, .ref 39), (1, .int (xs 1)), (2, .int (2 : Int32))]) (st' := [.int (2 : Int32), .ref 39]) rfl ?_
  refine w_cv (H.t rfl) (pc' := 13) (L' := [(0, .ref 39), (1, .int (xs 1)), (2, .int (2 : Int32))]) (rest := []) (Ps := [.int (2 : Int32)]) (L0 := [(0, .ref 39), (1, .int (2 : Int32))]) h_m146 (z_at.mk 3 rfl rfl) (Or.inl ⟨rfl, rfl⟩) rfl rfl (by decide) (by decide) rfl rfl rfl rfl rfl rfl (by decide) rfl rfl rfl ?_
  refine w_p h_m145 1 (pc' := 1) (L' := [(0, .ref 39), (1, .int (2 : Int32))]) (st' := [.ref 39]) rfl ?_
  refine w_gf H (pc' := 4) (L' := [(0, .ref 39), (1, .int (2 : Int32))]) h_m145 (z_at.mk 3 rfl rfl) rfl (u := .ref 106) rfl rfl rfl ?_
  refine w_cv (H.t rfl) (pc' := 7) (L' := [(0, .ref 39), (1, .int (2 : Int32))]) (rest := []) (Ps := []) (L0 := [(0, .ref 106)]) h_m145 (z_at.mk 3 rfl rfl) (Or.inl ⟨rfl, rfl⟩) rfl rfl (by decide) (by decide) rfl rfl rfl rfl rfl rfl (by decide) rfl rfl rfl ?_
  refine w_p h_m20 2 (pc' := 2) (L' := [(0, .ref 106)]) (st' := [.int (0 : Int32), .ref 106]) rfl ?_
  refine w_pf H (12, 18, [(2, .int (0 : Int32)), (15, .int (0 : Int32)), (14, .int (0 : Int32)), (13, .int (0 : Int32)), (12, .int (0 : Int32)), (11, .int (0 : Int32)), (10, .int (0 : Int32)), (9, .long (0 : Int64)), (8, .int (0 : Int32)), (0, .ref 41), (17, .ref 116), (16, .ref 114), (7, .ref 113), (6, .ref 112), (5, .ref 111), (4, .ref 110), (3, .ref 109), (1, .ref 107)], none) (pc' := 5) (L' := [(0, .ref 106)]) h_m20 (z_at.mk 3 rfl rfl) rfl (by decide) rfl (Or.inl rfl) rfl rfl rfl ?_
  clear H m; intro m H
  refine w_p h_m20 2 (pc' := 7) (L' := [(0, .ref 106)]) (st' := [.int (0 : Int32), .ref 106]) rfl ?_
  refine w_pf H (12, 18, [(8, .int (0 : Int32)), (2, .int (0 : Int32)), (15, .int (0 : Int32)), (14, .int (0 : Int32)), (13, .int (0 : Int32)), (12, .int (0 : Int32)), (11, .int (0 : Int32)), (10, .int (0 : Int32)), (9, .long (0 : Int64)), (0, .ref 41), (17, .ref 116), (16, .ref 114), (7, .ref 113), (6, .ref 112), (5, .ref 111), (4, .ref 110), (3, .ref 109), (1, .ref 107)], none) (pc' := 10) (L' := [(0, .ref 106)]) h_m20 (z_at.mk 3 rfl rfl) rfl (by decide) rfl (Or.inl rfl) rfl rfl rfl ?_
  clear H m; intro m H
  refine w_p h_m20 2 (pc' := 12) (L' := [(0, .ref 106)]) (st' := [.long (0 : Int64), .ref 106]) rfl ?_
  refine w_pf H (12, 18, [(9, .long (0 : Int64)), (8, .int (0 : Int32)), (2, .int (0 : Int32)), (15, .int (0 : Int32)), (14, .int (0 : Int32)), (13, .int (0 : Int32)), (12, .int (0 : Int32)), (11, .int (0 : Int32)), (10, .int (0 : Int32)), (0, .ref 41), (17, .ref 116), (16, .ref 114), (7, .ref 113), (6, .ref 112), (5, .ref 111), (4, .ref 110), (3, .ref 109), (1, .ref 107)], none) (pc' := 15) (L' := [(0, .ref 106)]) h_m20 (z_at.mk 3 rfl rfl) rfl (by decide) rfl (Or.inl rfl) rfl rfl rfl ?_
  clear H m; intro m H
  refine w_p h_m20 2 (pc' := 17) (L' := [(0, .ref 106)]) (st' := [.int (0 : Int32), .ref 106]) rfl ?_
  refine w_pf H (12, 18, [(10, .int (0 : Int32)), (9, .long (0 : Int64)), (8, .int (0 : Int32)), (2, .int (0 : Int32)), (15, .int (0 : Int32)), (14, .int (0 : Int32)), (13, .int (0 : Int32)), (12, .int (0 : Int32)), (11, .int (0 : Int32)), (0, .ref 41), (17, .ref 116), (16, .ref 114), (7, .ref 113), (6, .ref 112), (5, .ref 111), (4, .ref 110), (3, .ref 109), (1, .ref 107)], none) (pc' := 20) (L' := [(0, .ref 106)]) h_m20 (z_at.mk 3 rfl rfl) rfl (by decide) rfl (Or.inl rfl) rfl rfl rfl ?_
  clear H m; intro m H
  refine w_p h_m20 2 (pc' := 22) (L' := [(0, .ref 106)]) (st' := [.int (0 : Int32), .ref 106]) rfl ?_
  refine w_pf H (12, 18, [(11, .int (0 : Int32)), (10, .int (0 : Int32)), (9, .long (0 : Int64)), (8, .int (0 : Int32)), (2, .int (0 : Int32)), (15, .int (0 : Int32)), (14, .int (0 : Int32)), (13, .int (0 : Int32)), (12, .int (0 : Int32)), (0, .ref 41), (17, .ref 116), (16, .ref 114), (7, .ref 113), (6, .ref 112), (5, .ref 111), (4, .ref 110), (3, .ref 109), (1, .ref 107)], none) (pc' := 25) (L' := [(0, .ref 106)]) h_m20 (z_at.mk 3 rfl rfl) rfl (by decide) rfl (Or.inl rfl) rfl rfl rfl ?_
  clear H m; intro m H
  refine w_p h_m20 2 (pc' := 27) (L' := [(0, .ref 106)]) (st' := [.int (0 : Int32), .ref 106]) rfl ?_
  refine w_pf H (12, 18, [(12, .int (0 : Int32)), (11, .int (0 : Int32)), (10, .int (0 : Int32)), (9, .long (0 : Int64)), (8, .int (0 : Int32)), (2, .int (0 : Int32)), (15, .int (0 : Int32)), (14, .int (0 : Int32)), (13, .int (0 : Int32)), (0, .ref 41), (17, .ref 116), (16, .ref 114), (7, .ref 113), (6, .ref 112), (5, .ref 111), (4, .ref 110), (3, .ref 109), (1, .ref 107)], none) (pc' := 30) (L' := [(0, .ref 106)]) h_m20 (z_at.mk 3 rfl rfl) rfl (by decide) rfl (Or.inl rfl) rfl rfl rfl ?_
  clear H m; intro m H
  refine w_p h_m20 2 (pc' := 32) (L' := [(0, .ref 106)]) (st' := [.int (0 : Int32), .ref 106]) rfl ?_
  refine w_pf H (12, 18, [(13, .int (0 : Int32)), (12, .int (0 : Int32)), (11, .int (0 : Int32)), (10, .int (0 : Int32)), (9, .long (0 : Int64)), (8, .int (0 : Int32)), (2, .int (0 : Int32)), (15, .int (0 : Int32)), (14, .int (0 : Int32)), (0, .ref 41), (17, .ref 116), (16, .ref 114), (7, .ref 113), (6, .ref 112), (5, .ref 111), (4, .ref 110), (3, .ref 109), (1, .ref 107)], none) (pc' := 35) (L' := [(0, .ref 106)]) h_m20 (z_at.mk 3 rfl rfl) rfl (by decide) rfl (Or.inl rfl) rfl rfl rfl ?_
  clear H m; intro m H
  refine w_p h_m20 2 (pc' := 37) (L' := [(0, .ref 106)]) (st' := [.int (0 : Int32), .ref 106]) rfl ?_
  refine w_pf H (12, 18, [(14, .int (0 : Int32)), (13, .int (0 : Int32)), (12, .int (0 : Int32)), (11, .int (0 : Int32)), (10, .int (0 : Int32)), (9, .long (0 : Int64)), (8, .int (0 : Int32)), (2, .int (0 : Int32)), (15, .int (0 : Int32)), (0, .ref 41), (17, .ref 116), (16, .ref 114), (7, .ref 113), (6, .ref 112), (5, .ref 111), (4, .ref 110), (3, .ref 109), (1, .ref 107)], none) (pc' := 40) (L' := [(0, .ref 106)]) h_m20 (z_at.mk 3 rfl rfl) rfl (by decide) rfl (Or.inl rfl) rfl rfl rfl ?_
  clear H m; intro m H
  refine w_p h_m20 2 (pc' := 42) (L' := [(0, .ref 106)]) (st' := [.int (0 : Int32), .ref 106]) rfl ?_
  refine w_pf H (12, 18, [(15, .int (0 : Int32)), (14, .int (0 : Int32)), (13, .int (0 : Int32)), (12, .int (0 : Int32)), (11, .int (0 : Int32)), (10, .int (0 : Int32)), (9, .long (0 : Int64)), (8, .int (0 : Int32)), (2, .int (0 : Int32)), (0, .ref 41), (17, .ref 116), (16, .ref 114), (7, .ref 113), (6, .ref 112), (5, .ref 111), (4, .ref 110), (3, .ref 109), (1, .ref 107)], none) (pc' := 45) (L' := [(0, .ref 106)]) h_m20 (z_at.mk 3 rfl rfl) rfl (by decide) rfl (Or.inl rfl) rfl rfl rfl ?_
  clear H m; intro m H
  refine w_rv h_m20 (z_at.mk 1 rfl rfl) rfl ?_
  show z_W 998 145 7 [(0, .ref 39), (1, .int (2 : Int32))] [] m _
  refine w_p h_m145 1 (pc' := 8) (L' := [(0, .ref 39), (1, .int (2 : Int32))]) (st' := [.ref 39]) rfl ?_
  refine w_gf H (pc' := 11) (L' := [(0, .ref 39), (1, .int (2 : Int32))]) h_m145 (z_at.mk 3 rfl rfl) rfl (u := .ref 106) rfl rfl rfl ?_
  refine w_gf H (pc' := 14) (L' := [(0, .ref 39), (1, .int (2 : Int32))]) h_m145 (z_at.mk 3 rfl rfl) rfl (u := .ref 107) rfl rfl rfl ?_
  refine w_p h_m145 1 (pc' := 15) (L' := [(0, .ref 39), (1, .int (2 : Int32))]) (st' := [.ref 39, .ref 107]) rfl ?_
  refine w_gf H (pc' := 18) (L' := [(0, .ref 39), (1, .int (2 : Int32))]) h_m145 (z_at.mk 3 rfl rfl) rfl (u := .ref 40) rfl rfl rfl ?_
  refine w_gf H (pc' := 21) (L' := [(0, .ref 39), (1, .int (2 : Int32))]) h_m145 (z_at.mk 3 rfl rfl) rfl (u := .ref 48) rfl rfl rfl ?_
  refine w_gf H (pc' := 24) (L' := [(0, .ref 39), (1, .int (2 : Int32))]) h_m145 (z_at.mk 3 rfl rfl) rfl (u := .ref 49) rfl rfl rfl ?_
  refine w_cv (H.t rfl) (pc' := 27) (L' := [(0, .ref 39), (1, .int (2 : Int32))]) (rest := []) (Ps := [.ref 49]) (L0 := [(0, .ref 107), (1, .ref 49)]) h_m145 (z_at.mk 3 rfl rfl) (Or.inl ⟨rfl, rfl⟩) rfl rfl (by decide) (by decide) rfl rfl rfl rfl rfl rfl (by decide) rfl rfl rfl ?_
  refine w_p h_m74 1 (pc' := 1) (L' := [(0, .ref 107), (1, .ref 49)]) (st' := [.ref 49]) rfl ?_
  refine w_gf H (pc' := 4) (L' := [(0, .ref 107), (1, .ref 49)]) h_m74 (z_at.mk 3 rfl rfl) rfl (u := .ref 50) rfl rfl rfl ?_
  refine w_p h_m74 2 (pc' := 6) (L' := [(0, .ref 107), (1, .ref 49)]) (st' := [.ref 107, .int (0 : Int32), .ref 50]) rfl ?_
  refine w_gf H (pc' := 9) (L' := [(0, .ref 107), (1, .ref 49)]) h_m74 (z_at.mk 3 rfl rfl) rfl (u := .ref 108) rfl rfl rfl ?_
  refine w_p h_m74 2 (pc' := 12) (L' := [(0, .ref 107), (1, .ref 49)]) (st' := [.int (7 : Int32), .int (0 : Int32), .ref 108, .int (0 : Int32), .ref 50]) rfl ?_
  refine w_cpf H (ra := (0, 7, [(6, .int (1024 : Int32)), (5, .int (1 : Int32)), (4, .int (1 : Int32)), (3, .int (0 : Int32)), (2, .int (12 : Int32)), (1, .int (40 : Int32)), (0, .int (10 : Int32))], some (.int (0 : Int32)))) (pc' := 15) (L' := [(0, .ref 107), (1, .ref 49)]) h_m74 (z_at.mk 3 rfl rfl) rfl (z_cat_le 0 rfl (by decide)) rfl rfl rfl rfl (by decide) rfl rfl ?_
  clear H m; intro m H
  refine w_rv h_m74 (z_at.mk 1 rfl rfl) rfl ?_
  show z_W 998 145 27 [(0, .ref 39), (1, .int (2 : Int32))] [] m _
  refine w_p h_m145 1 (pc' := 28) (L' := [(0, .ref 39), (1, .int (2 : Int32))]) (st' := [.ref 39]) rfl ?_
  refine w_gf H (pc' := 31) (L' := [(0, .ref 39), (1, .int (2 : Int32))]) h_m145 (z_at.mk 3 rfl rfl) rfl (u := .ref 106) rfl rfl rfl ?_
  refine w_gf H (pc' := 34) (L' := [(0, .ref 39), (1, .int (2 : Int32))]) h_m145 (z_at.mk 3 rfl rfl) rfl (u := .ref 107) rfl rfl rfl ?_
  refine w_p h_m145 2 (pc' := 36) (L' := [(0, .ref 39), (1, .int (2 : Int32))]) (st' := [.int (2 : Int32), .int (1 : Int32), .ref 107]) rfl ?_
  refine w_cv (H.t rfl) (pc' := 39) (L' := [(0, .ref 39), (1, .int (2 : Int32))]) (rest := []) (Ps := [.int (1 : Int32), .int (2 : Int32)]) (L0 := [(0, .ref 107), (1, .int (1 : Int32)), (2, .int (2 : Int32))]) h_m145 (z_at.mk 3 rfl rfl) (Or.inl ⟨rfl, rfl⟩) rfl rfl (by decide) (by decide) rfl rfl rfl rfl rfl rfl (by decide) rfl rfl rfl ?_
  refine w_p h_m73 6 (pc' := 11) (L' := [(0, .ref 107), (1, .int (1 : Int32)), (2, .int (2 : Int32))]) (st' := [.ref 107]) rfl ?_
  refine w_gf H (pc' := 14) (L' := [(0, .ref 107), (1, .int (1 : Int32)), (2, .int (2 : Int32))]) h_m73 (z_at.mk 3 rfl rfl) rfl (u := .ref 108) rfl rfl rfl ?_
  refine w_p h_m73 2 (pc' := 16) (L' := [(0, .ref 107), (1, .int (1 : Int32)), (2, .int (2 : Int32))]) (st' := [.int (2 : Int32), .int (1 : Int32), .ref 108]) rfl ?_
  refine w_as H (t := 0) (j := 1) (u := .int (2 : Int32)) (0, 7, [(1, .int (2 : Int32)), (6, .int (1024 : Int32)), (5, .int (1 : Int32)), (4, .int (1 : Int32)), (3, .int (0 : Int32)), (2, .int (12 : Int32)), (0, .int (10 : Int32))], some (.int (0 : Int32))) (pc' := 17) (L' := []) h_m73 (z_at.mk 1 rfl rfl) rfl rfl (w_ui _ _ (by decide)) rfl rfl rfl rfl ?_
  clear H m; intro m H
  refine w_rv h_m73 (z_at.mk 1 rfl rfl) rfl ?_
  show z_W 998 145 39 [(0, .ref 39), (1, .int (2 : Int32))] [] m _
  refine w_p h_m145 4 (pc' := 43) (L' := [(0, .ref 39), (2, .int (0 : Int32))]) (st' := [.ref 39, .int (0 : Int32)]) rfl ?_
  refine w_gf H (pc' := 46) (L' := [(0, .ref 39), (2, .int (0 : Int32))]) h_m145 (z_at.mk 3 rfl rfl) rfl (u := .ref 40) rfl rfl rfl ?_
  refine w_gf H (pc' := 49) (L' := [(0, .ref 39), (2, .int (0 : Int32))]) h_m145 (z_at.mk 3 rfl rfl) rfl (u := .ref 63) rfl rfl rfl ?_
  refine w_gf H (pc' := 52) (L' := [(0, .ref 39), (2, .int (0 : Int32))]) h_m145 (z_at.mk 3 rfl rfl) rfl (u := .int (0 : Int32)) rfl rfl rfl ?_
  refine w_p h_m145 1 (pc' := 79) (L' := [(0, .ref 39), (2, .int (0 : Int32))]) (st' := []) rfl ?_
  refine w_rv h_m145 (z_at.mk 1 rfl rfl) rfl ?_
  show z_W 999 146 13 [(0, .ref 39), (1, .int (xs 1)), (2, .int (2 : Int32))] [] m _
  refine w_p h_m146 1 (pc' := 14) (L' := [(0, .ref 39), (1, .int (xs 1)), (2, .int (2 : Int32))]) (st' := [.ref 39]) rfl ?_
  refine w_gf H (pc' := 17) (L' := [(0, .ref 39), (1, .int (xs 1)), (2, .int (2 : Int32))]) h_m146 (z_at.mk 3 rfl rfl) rfl (u := .ref 106) rfl rfl rfl ?_
  refine w_gf H (pc' := 20) (L' := [(0, .ref 39), (1, .int (xs 1)), (2, .int (2 : Int32))]) h_m146 (z_at.mk 3 rfl rfl) rfl (u := .int (0 : Int32)) rfl rfl rfl ?_
  refine w_p h_m146 1 (pc' := 21) (L' := [(0, .ref 39), (1, .int (xs 1)), (2, .int (2 : Int32))]) (st' := [.int (xs 1), .int (0 : Int32)]) rfl ?_
  refine w_t2 (pc' := 26) (L' := [(0, .ref 39), (1, .int (xs 1)), (2, .int (2 : Int32))]) h_m146 (z_at.mk 3 rfl rfl) rfl (zc (a := 0) (b := (xs 1).toInt) rfl rfl (decide_eq_true (by omega))) rfl rfl ?_
  refine w_p h_m146 2 (pc' := 2) (L' := [(0, .ref 39), (1, .int (xs 1)), (2, .int (3 : Int32))]) (st' := []) rfl ?_
  exact hQ m (H.subC (by decide +kernel))
set_option maxHeartbeats 400000000 in
set_option maxRecDepth 20000 in
theorem w_turn_146_3 {xs : Nat → Int32} {m : zM} {Q : Option Value → zM → Prop} (hp : (xs 1).toInt < 0) (H : w_ok 6 xs 168 63950 ((106, (12, 18, [(15, .int (0 : Int32)), (14, .int (0 : Int32)), (13, .int (0 : Int32)), (12, .int (0 : Int32)), (11, .int (0 : Int32)), (10, .int (0 : Int32)), (9, .long (0 : Int64)), (8, .int (0 : Int32)), (2, .int (0 : Int32)), (0, .ref 41), (17, .ref 116), (16, .ref 114), (7, .ref 113), (6, .ref 112), (5, .ref 111), (4, .ref 110), (3, .ref 109), (1, .ref 107)], none)) :: (108, (0, 7, [(1, .int (2 : Int32)), (6, .int (1024 : Int32)), (5, .int (1 : Int32)), (4, .int (1 : Int32)), (3, .int (0 : Int32)), (2, .int (12 : Int32)), (0, .int (10 : Int32))], some (.int (0 : Int32)))) :: w_T0) m) (hQ : ∀ m, w_ok 6 xs 168 63950 ((106, (12, 18, [(15, .int (0 : Int32)), (14, .int (0 : Int32)), (13, .int (0 : Int32)), (12, .int (0 : Int32)), (11, .int (0 : Int32)), (10, .int (0 : Int32)), (9, .long (0 : Int64)), (8, .int (0 : Int32)), (2, .int (0 : Int32)), (0, .ref 41), (17, .ref 116), (16, .ref 114), (7, .ref 113), (6, .ref 112), (5, .ref 111), (4, .ref 110), (3, .ref 109), (1, .ref 107)], none)) :: (108, (0, 7, [(1, .int (3 : Int32)), (6, .int (1024 : Int32)), (5, .int (1 : Int32)), (4, .int (1 : Int32)), (3, .int (0 : Int32)), (2, .int (12 : Int32)), (0, .int (10 : Int32))], some (.int (0 : Int32)))) :: w_T0) m → z_W 999 146 2 [(0, .ref 39), (1, .int (xs 1)), (2, .int (4 : Int32))] [] m Q) : z_W 999 146 2 [(0, .ref 39), (1, .int (xs 1)), (2, .int (3 : Int32))] [] m Q := by
  refine w_p h_m146 5 (pc' := 10) (L' := [(0, .ref 39), (1, .int (xs 1)), (2, .int (3 : Int32))]) (st' := [.int (3 : Int32), .ref 39]) rfl ?_
  refine w_cv (H.t rfl) (pc' := 13) (L' := [(0, .ref 39), (1, .int (xs 1)), (2, .int (3 : Int32))]) (rest := []) (Ps := [.int (3 : Int32)]) (L0 := [(0, .ref 39), (1, .int (3 : Int32))]) h_m146 (z_at.mk 3 rfl rfl) (Or.inl ⟨rfl, rfl⟩) rfl rfl (by decide) (by decide) rfl rfl rfl rfl rfl rfl (by decide) rfl rfl rfl ?_
  refine w_p h_m145 1 (pc' := 1) (L' := [(0, .ref 39), (1, .int (3 : Int32))]) (st' := [.ref 39]) rfl ?_
  refine w_gf H (pc' := 4) (L' := [(0, .ref 39), (1, .int (3 : Int32))]) h_m145 (z_at.mk 3 rfl rfl) rfl (u := .ref 106) rfl rfl rfl ?_
  refine w_cv (H.t rfl) (pc' := 7) (L' := [(0, .ref 39), (1, .int (3 : Int32))]) (rest := []) (Ps := []) (L0 := [(0, .ref 106)]) h_m145 (z_at.mk 3 rfl rfl) (Or.inl ⟨rfl, rfl⟩) rfl rfl (by decide) (by decide) rfl rfl rfl rfl rfl rfl (by decide) rfl rfl rfl ?_
  refine w_p h_m20 2 (pc' := 2) (L' := [(0, .ref 106)]) (st' := [.int (0 : Int32), .ref 106]) rfl ?_
  refine w_pf H (12, 18, [(2, .int (0 : Int32)), (15, .int (0 : Int32)), (14, .int (0 : Int32)), (13, .int (0 : Int32)), (12, .int (0 : Int32)), (11, .int (0 : Int32)), (10, .int (0 : Int32)), (9, .long (0 : Int64)), (8, .int (0 : Int32)), (0, .ref 41), (17, .ref 116), (16, .ref 114), (7, .ref 113), (6, .ref 112), (5, .ref 111), (4, .ref 110), (3, .ref 109), (1, .ref 107)], none) (pc' := 5) (L' := [(0, .ref 106)]) h_m20 (z_at.mk 3 rfl rfl) rfl (by decide) rfl (Or.inl rfl) rfl rfl rfl ?_
  clear H m; intro m H
  refine w_p h_m20 2 (pc' := 7) (L' := [(0, .ref 106)]) (st' := [.int (0 : Int32), .ref 106]) rfl ?_
  refine w_pf H (12, 18, [(8, .int (0 : Int32)), (2, .int (0 : Int32)), (15, .int (0 : Int32)), (14, .int (0 : Int32)), (13, .int (0 : Int32)), (12, .int (0 : Int32)), (11, .int (0 : Int32)), (10, .int (0 : Int32)), (9, .long (0 : Int64)), (0, .ref 41), (17, .ref 116), (16, .ref 114), (7, .ref 113), (6, .ref 112), (5, .ref 111), (4, .ref 110), (3, .ref 109), (1, .ref 107)], none) (pc' := 10) (L' := [(0, .ref 106)]) h_m20 (z_at.mk 3 rfl rfl) rfl (by decide) rfl (Or.inl rfl) rfl rfl rfl ?_
  clear H m; intro m H
  refine w_p h_m20 2 (pc' := 12) (L' := [(0, .ref 106)]) (st' := [.long (0 : Int64), .ref 106]) rfl ?_
  refine w_pf H (12, 18, [(9, .long (0 : Int64)), (8, .int (0 : Int32)), (2, .int (0 : Int32)), (15, .int (0 : Int32)), (14, .int (0 : Int32)), (13, .int (0 : Int32)), (12, .int (0 : Int32)), (11, .int (0 : Int32)), (10, .int (0 : Int32)), (0, .ref 41), (17, .ref 116), (16, .ref 114), (7, .ref 113), (6, .ref 112), (5, .ref 111), (4, .ref 110), (3, .ref 109), (1, .ref 107)], none) (pc' := 15) (L' := [(0, .ref 106)]) h_m20 (z_at.mk 3 rfl rfl) rfl (by decide) rfl (Or.inl rfl) rfl rfl rfl ?_
  clear H m; intro m H
  refine w_p h_m20 2 (pc' := 17) (L' := [(0, .ref 106)]) (st' := [.int (0 : Int32), .ref 106]) rfl ?_
  refine w_pf H (12, 18, [(10, .int (0 : Int32)), (9, .long (0 : Int64)), (8, .int (0 : Int32)), (2, .int (0 : Int32)), (15, .int (0 : Int32)), (14, .int (0 : Int32)), (13, .int (0 : Int32)), (12, .int (0 : Int32)), (11, .int (0 : Int32)), (0, .ref 41), (17, .ref 116), (16, .ref 114), (7, .ref 113), (6, .ref 112), (5, .ref 111), (4, .ref 110), (3, .ref 109), (1, .ref 107)], none) (pc' := 20) (L' := [(0, .ref 106)]) h_m20 (z_at.mk 3 rfl rfl) rfl (by decide) rfl (Or.inl rfl) rfl rfl rfl ?_
  clear H m; intro m H
  refine w_p h_m20 2 (pc' := 22) (L' := [(0, .ref 106)]) (st' := [.int (0 : Int32), .ref 106]) rfl ?_
  refine w_pf H (12, 18, [(11, .int (0 : Int32)), (10, .int (0 : Int32)), (9, .long (0 : Int64)), (8, .int (0 : Int32)), (2, .int (0 : Int32)), (15, .int (0 : Int32)), (14, .int (0 : Int32)), (13, .int (0 : Int32)), (12, .int (0 : Int32)), (0, .ref 41), (17, .ref 116), (16, .ref 114), (7, .ref 113), (6, .ref 112), (5, .ref 111), (4, .ref 110), (3, .ref 109), (1, .ref 107)], none) (pc' := 25) (L' := [(0, .ref 106)]) h_m20 (z_at.mk 3 rfl rfl) rfl (by decide) rfl (Or.inl rfl) rfl rfl rfl ?_
  clear H m; intro m H
  refine w_p h_m20 2 (pc' := 27) (L' := [(0, .ref 106)]) (st' := [.int (0 : Int32), .ref 106]) rfl ?_
  refine w_pf H (12, 18, [(12, .int (0 : Int32)), (11, .int (0 : Int32)), (10, .int (0 : Int32)), (9, .long (0 : Int64)), (8, .int (0 : Int32)), (2, .int (0 : Int32)), (15, .int (0 : Int32)), (14, .int (0 : Int32)), (13, .int (0 : Int32)), (0, .ref 41), (17, .ref 116), (16, .ref 114), (7, .ref 113), (6, .ref 112), (5, .ref 111), (4, .ref 110), (3, .ref 109), (1, .ref 107)], none) (pc' := 30) (L' := [(0, .ref 106)]) h_m20 (z_at.mk 3 rfl rfl) rfl (by decide) rfl (Or.inl rfl) rfl rfl rfl ?_
  clear H m; intro m H
  refine w_p h_m20 2 (pc' := 32) (L' := [(0, .ref 106)]) (st' := [.int (0 : Int32), .ref 106]) rfl ?_
  refine w_pf H (12, 18, [(13, .int (0 : Int32)), (12, .int (0 : Int32)), (11, .int (0 : Int32)), (10, .int (0 : Int32)), (9, .long (0 : Int64)), (8, .int (0 : Int32)), (2, .int (0 : Int32)), (15, .int (0 : Int32)), (14, .int (0 : Int32)), (0, .ref 41), (17, .ref 116), (16, .ref 114), (7, .ref 113), (6, .ref 112), (5, .ref 111), (4, .ref 110), (3, .ref 109), (1, .ref 107)], none) (pc' := 35) (L' := [(0, .ref 106)]) h_m20 (z_at.mk 3 rfl rfl) rfl (by decide) rfl (Or.inl rfl) rfl rfl rfl ?_
  clear H m; intro m H
  refine w_p h_m20 2 (pc' := 37) (L' := [(0, .ref 106)]) (st' := [.int (0 : Int32), .ref 106]) rfl ?_
  refine w_pf H (12, 18, [(14, .int (0 : Int32)), (13, .int (0 : Int32)), (12, .int (0 : Int32)), (11, .int (0 : Int32)), (10, .int (0 : Int32)), (9, .long (0 : Int64)), (8, .int (0 : Int32)), (2, .int (0 : Int32)), (15, .int (0 : Int32)), (0, .ref 41), (17, .ref 116), (16, .ref 114), (7, .ref 113), (6, .ref 112), (5, .ref 111), (4, .ref 110), (3, .ref 109), (1, .ref 107)], none) (pc' := 40) (L' := [(0, .ref 106)]) h_m20 (z_at.mk 3 rfl rfl) rfl (by decide) rfl (Or.inl rfl) rfl rfl rfl ?_
  clear H m; intro m H
  refine w_p h_m20 2 (pc' := 42) (L' := [(0, .ref 106)]) (st' := [.int (0 : Int32), .ref 106]) rfl ?_
  refine w_pf H (12, 18, [(15, .int (0 : Int32)), (14, .int (0 : Int32)), (13, .int (0 : Int32)), (12, .int (0 : Int32)), (11, .int (0 : Int32)), (10, .int (0 : Int32)), (9, .long (0 : Int64)), (8, .int (0 : Int32)), (2, .int (0 : Int32)), (0, .ref 41), (17, .ref 116), (16, .ref 114), (7, .ref 113), (6, .ref 112), (5, .ref 111), (4, .ref 110), (3, .ref 109), (1, .ref 107)], none) (pc' := 45) (L' := [(0, .ref 106)]) h_m20 (z_at.mk 3 rfl rfl) rfl (by decide) rfl (Or.inl rfl) rfl rfl rfl ?_
  clear H m; intro m H
  refine w_rv h_m20 (z_at.mk 1 rfl rfl) rfl ?_
  show z_W 998 145 7 [(0, .ref 39), (1, .int (3 : Int32))] [] m _
  refine w_p h_m145 1 (pc' := 8) (L' := [(0, .ref 39), (1, .int (3 : Int32))]) (st' := [.ref 39]) rfl ?_
  refine w_gf H (pc' := 11) (L' := [(0, .ref 39), (1, .int (3 : Int32))]) h_m145 (z_at.mk 3 rfl rfl) rfl (u := .ref 106) rfl rfl rfl ?_
  refine w_gf H (pc' := 14) (L' := [(0, .ref 39), (1, .int (3 : Int32))]) h_m145 (z_at.mk 3 rfl rfl) rfl (u := .ref 107) rfl rfl rfl ?_
  refine w_p h_m145 1 (pc' := 15) (L' := [(0, .ref 39), (1, .int (3 : Int32))]) (st' := [.ref 39, .ref 107]) rfl ?_
  refine w_gf H (pc' := 18) (L' := [(0, .ref 39), (1, .int (3 : Int32))]) h_m145 (z_at.mk 3 rfl rfl) rfl (u := .ref 40) rfl rfl rfl ?_
  refine w_gf H (pc' := 21) (L' := [(0, .ref 39), (1, .int (3 : Int32))]) h_m145 (z_at.mk 3 rfl rfl) rfl (u := .ref 48) rfl rfl rfl ?_
  refine w_gf H (pc' := 24) (L' := [(0, .ref 39), (1, .int (3 : Int32))]) h_m145 (z_at.mk 3 rfl rfl) rfl (u := .ref 49) rfl rfl rfl ?_
  refine w_cv (H.t rfl) (pc' := 27) (L' := [(0, .ref 39), (1, .int (3 : Int32))]) (rest := []) (Ps := [.ref 49]) (L0 := [(0, .ref 107), (1, .ref 49)]) h_m145 (z_at.mk 3 rfl rfl) (Or.inl ⟨rfl, rfl⟩) rfl rfl (by decide) (by decide) rfl rfl rfl rfl rfl rfl (by decide) rfl rfl rfl ?_
  refine w_p h_m74 1 (pc' := 1) (L' := [(0, .ref 107), (1, .ref 49)]) (st' := [.ref 49]) rfl ?_
  refine w_gf H (pc' := 4) (L' := [(0, .ref 107), (1, .ref 49)]) h_m74 (z_at.mk 3 rfl rfl) rfl (u := .ref 50) rfl rfl rfl ?_
  refine w_p h_m74 2 (pc' := 6) (L' := [(0, .ref 107), (1, .ref 49)]) (st' := [.ref 107, .int (0 : Int32), .ref 50]) rfl ?_
  refine w_gf H (pc' := 9) (L' := [(0, .ref 107), (1, .ref 49)]) h_m74 (z_at.mk 3 rfl rfl) rfl (u := .ref 108) rfl rfl rfl ?_
  refine w_p h_m74 2 (pc' := 12) (L' := [(0, .ref 107), (1, .ref 49)]) (st' := [.int (7 : Int32), .int (0 : Int32), .ref 108, .int (0 : Int32), .ref 50]) rfl ?_
  refine w_cpf H (ra := (0, 7, [(6, .int (1024 : Int32)), (5, .int (1 : Int32)), (4, .int (1 : Int32)), (3, .int (0 : Int32)), (2, .int (12 : Int32)), (1, .int (40 : Int32)), (0, .int (10 : Int32))], some (.int (0 : Int32)))) (pc' := 15) (L' := [(0, .ref 107), (1, .ref 49)]) h_m74 (z_at.mk 3 rfl rfl) rfl (z_cat_le 0 rfl (by decide)) rfl rfl rfl rfl (by decide) rfl rfl ?_
  clear H m; intro m H
  refine w_rv h_m74 (z_at.mk 1 rfl rfl) rfl ?_
  show z_W 998 145 27 [(0, .ref 39), (1, .int (3 : Int32))] [] m _
  refine w_p h_m145 1 (pc' := 28) (L' := [(0, .ref 39), (1, .int (3 : Int32))]) (st' := [.ref 39]) rfl ?_
  refine w_gf H (pc' := 31) (L' := [(0, .ref 39), (1, .int (3 : Int32))]) h_m145 (z_at.mk 3 rfl rfl) rfl (u := .ref 106) rfl rfl rfl ?_
  refine w_gf H (pc' := 34) (L' := [(0, .ref 39), (1, .int (3 : Int32))]) h_m145 (z_at.mk 3 rfl rfl) rfl (u := .ref 107) rfl rfl rfl ?_
  refine w_p h_m145 2 (pc' := 36) (L' := [(0, .ref 39), (1, .int (3 : Int32))]) (st' := [.int (3 : Int32), .int (1 : Int32), .ref 107]) rfl ?_
  refine w_cv (H.t rfl) (pc' := 39) (L' := [(0, .ref 39), (1, .int (3 : Int32))]) (rest := []) (Ps := [.int (1 : Int32), .int (3 : Int32)]) (L0 := [(0, .ref 107), (1, .int (1 : Int32)), (2, .int (3 : Int32))]) h_m145 (z_at.mk 3 rfl rfl) (Or.inl ⟨rfl, rfl⟩) rfl rfl (by decide) (by decide) rfl rfl rfl rfl rfl rfl (by decide) rfl rfl rfl ?_
  refine w_p h_m73 6 (pc' := 11) (L' := [(0, .ref 107), (1, .int (1 : Int32)), (2, .int (3 : Int32))]) (st' := [.ref 107]) rfl ?_
  refine w_gf H (pc' := 14) (L' := [(0, .ref 107), (1, .int (1 : Int32)), (2, .int (3 : Int32))]) h_m73 (z_at.mk 3 rfl rfl) rfl (u := .ref 108) rfl rfl rfl ?_
  refine w_p h_m73 2 (pc' := 16) (L' := [(0, .ref 107), (1, .int (1 : Int32)), (2, .int (3 : Int32))]) (st' := [.int (3 : Int32), .int (1 : Int32), .ref 108]) rfl ?_
  refine w_as H (t := 0) (j := 1) (u := .int (3 : Int32)) (0, 7, [(1, .int (3 : Int32)), (6, .int (1024 : Int32)), (5, .int (1 : Int32)), (4, .int (1 : Int32)), (3, .int (0 : Int32)), (2, .int (12 : Int32)), (0, .int (10 : Int32))], some (.int (0 : Int32))) (pc' := 17) (L' := []) h_m73 (z_at.mk 1 rfl rfl) rfl rfl (w_ui _ _ (by decide)) rfl rfl rfl rfl ?_
  clear H m; intro m H
  refine w_rv h_m73 (z_at.mk 1 rfl rfl) rfl ?_
  show z_W 998 145 39 [(0, .ref 39), (1, .int (3 : Int32))] [] m _
  refine w_p h_m145 4 (pc' := 43) (L' := [(0, .ref 39), (2, .int (0 : Int32))]) (st' := [.ref 39, .int (0 : Int32)]) rfl ?_
  refine w_gf H (pc' := 46) (L' := [(0, .ref 39), (2, .int (0 : Int32))]) h_m145 (z_at.mk 3 rfl rfl) rfl (u := .ref 40) rfl rfl rfl ?_
  refine w_gf H (pc' := 49) (L' := [(0, .ref 39), (2, .int (0 : Int32))]) h_m145 (z_at.mk 3 rfl rfl) rfl (u := .ref 63) rfl rfl rfl ?_
  refine w_gf H (pc' := 52) (L' := [(0, .ref 39), (2, .int (0 : Int32))]) h_m145 (z_at.mk 3 rfl rfl) rfl (u := .int (0 : Int32)) rfl rfl rfl ?_
  refine w_p h_m145 1 (pc' := 79) (L' := [(0, .ref 39), (2, .int (0 : Int32))]) (st' := []) rfl ?_
  refine w_rv h_m145 (z_at.mk 1 rfl rfl) rfl ?_
  show z_W 999 146 13 [(0, .ref 39), (1, .int (xs 1)), (2, .int (3 : Int32))] [] m _
  refine w_p h_m146 1 (pc' := 14) (L' := [(0, .ref 39), (1, .int (xs 1)), (2, .int (3 : Int32))]) (st' := [.ref 39]) rfl ?_
  refine w_gf H (pc' := 17) (L' := [(0, .ref 39), (1, .int (xs 1)), (2, .int (3 : Int32))]) h_m146 (z_at.mk 3 rfl rfl) rfl (u := .ref 106) rfl rfl rfl ?_
  refine w_gf H (pc' := 20) (L' := [(0, .ref 39), (1, .int (xs 1)), (2, .int (3 : Int32))]) h_m146 (z_at.mk 3 rfl rfl) rfl (u := .int (0 : Int32)) rfl rfl rfl ?_
  refine w_p h_m146 1 (pc' := 21) (L' := [(0, .ref 39), (1, .int (xs 1)), (2, .int (3 : Int32))]) (st' := [.int (xs 1), .int (0 : Int32)]) rfl ?_
  refine w_t2 (pc' := 26) (L' := [(0, .ref 39), (1, .int (xs 1)), (2, .int (3 : Int32))]) h_m146 (z_at.mk 3 rfl rfl) rfl (zc (a := 0) (b := (xs 1).toInt) rfl rfl (decide_eq_true (by omega))) rfl rfl ?_
  refine w_p h_m146 2 (pc' := 2) (L' := [(0, .ref 39), (1, .int (xs 1)), (2, .int (4 : Int32))]) (st' := []) rfl ?_
  exact hQ m (H.subC (by decide +kernel))
set_option maxHeartbeats 400000000 in
set_option maxRecDepth 20000 in
theorem w_turn_146_4 {xs : Nat → Int32} {m : zM} {Q : Option Value → zM → Prop} (hp : (xs 1).toInt < 0) (H : w_ok 6 xs 168 63950 ((106, (12, 18, [(15, .int (0 : Int32)), (14, .int (0 : Int32)), (13, .int (0 : Int32)), (12, .int (0 : Int32)), (11, .int (0 : Int32)), (10, .int (0 : Int32)), (9, .long (0 : Int64)), (8, .int (0 : Int32)), (2, .int (0 : Int32)), (0, .ref 41), (17, .ref 116), (16, .ref 114), (7, .ref 113), (6, .ref 112), (5, .ref 111), (4, .ref 110), (3, .ref 109), (1, .ref 107)], none)) :: (108, (0, 7, [(1, .int (3 : Int32)), (6, .int (1024 : Int32)), (5, .int (1 : Int32)), (4, .int (1 : Int32)), (3, .int (0 : Int32)), (2, .int (12 : Int32)), (0, .int (10 : Int32))], some (.int (0 : Int32)))) :: w_T0) m) (hQ : ∀ m, w_ok 6 xs 168 63950 ((106, (12, 18, [(15, .int (0 : Int32)), (14, .int (0 : Int32)), (13, .int (0 : Int32)), (12, .int (0 : Int32)), (11, .int (0 : Int32)), (10, .int (0 : Int32)), (9, .long (0 : Int64)), (8, .int (0 : Int32)), (2, .int (0 : Int32)), (0, .ref 41), (17, .ref 116), (16, .ref 114), (7, .ref 113), (6, .ref 112), (5, .ref 111), (4, .ref 110), (3, .ref 109), (1, .ref 107)], none)) :: (108, (0, 7, [(1, .int (4 : Int32)), (6, .int (1024 : Int32)), (5, .int (1 : Int32)), (4, .int (1 : Int32)), (3, .int (0 : Int32)), (2, .int (12 : Int32)), (0, .int (10 : Int32))], some (.int (0 : Int32)))) :: w_T0) m → z_W 999 146 2 [(0, .ref 39), (1, .int (xs 1)), (2, .int (5 : Int32))] [] m Q) : z_W 999 146 2 [(0, .ref 39), (1, .int (xs 1)), (2, .int (4 : Int32))] [] m Q := by
  refine w_p h_m146 5 (pc' := 10) (L' := [(0, .ref 39), (1, .int (xs 1)), (2, .int (4 : Int32))]) (st' := [.int (4 : Int32), .ref 39]) rfl ?_
  refine w_cv (H.t rfl) (pc' := 13) (L' := [(0, .ref 39), (1, .int (xs 1)), (2, .int (4 : Int32))]) (rest := []) (Ps := [.int (4 : Int32)]) (L0 := [(0, .ref 39), (1, .int (4 : Int32))]) h_m146 (z_at.mk 3 rfl rfl) (Or.inl ⟨rfl, rfl⟩) rfl rfl (by decide) (by decide) rfl rfl rfl rfl rfl rfl (by decide) rfl rfl rfl ?_
  refine w_p h_m145 1 (pc' := 1) (L' := [(0, .ref 39), (1, .int (4 : Int32))]) (st' := [.ref 39]) rfl ?_
  refine w_gf H (pc' := 4) (L' := [(0, .ref 39), (1, .int (4 : Int32))]) h_m145 (z_at.mk 3 rfl rfl) rfl (u := .ref 106) rfl rfl rfl ?_
  refine w_cv (H.t rfl) (pc' := 7) (L' := [(0, .ref 39), (1, .int (4 : Int32))]) (rest := []) (Ps := []) (L0 := [(0, .ref 106)]) h_m145 (z_at.mk 3 rfl rfl) (Or.inl ⟨rfl, rfl⟩) rfl rfl (by decide) (by decide) rfl rfl rfl rfl rfl rfl (by decide) rfl rfl rfl ?_
  refine w_p h_m20 2 (pc' := 2) (L' := [(0, .ref 106)]) (st' := [.int (0 : Int32), .ref 106]) rfl ?_
  refine w_pf H (12, 18, [(2, .int (0 : Int32)), (15, .int (0 : Int32)), (14, .int (0 : Int32)), (13, .int (0 : Int32)), (12, .int (0 : Int32)), (11, .int (0 : Int32)), (10, .int (0 : Int32)), (9, .long (0 : Int64)), (8, .int (0 : Int32)), (0, .ref 41), (17, .ref 116), (16, .ref 114), (7, .ref 113), (6, .ref 112), (5, .ref 111), (4, .ref 110), (3, .ref 109), (1, .ref 107)], none) (pc' := 5) (L' := [(0, .ref 106)]) h_m20 (z_at.mk 3 rfl rfl) rfl (by decide) rfl (Or.inl rfl) rfl rfl rfl ?_
  clear H m; intro m H
  refine w_p h_m20 2 (pc' := 7) (L' := [(0, .ref 106)]) (st' := [.int (0 : Int32), .ref 106]) rfl ?_
  refine w_pf H (12, 18, [(8, .int (0 : Int32)), (2, .int (0 : Int32)), (15, .int (0 : Int32)), (14, .int (0 : Int32)), (13, .int (0 : Int32)), (12, .int (0 : Int32)), (11, .int (0 : Int32)), (10, .int (0 : Int32)), (9, .long (0 : Int64)), (0, .ref 41), (17, .ref 116), (16, .ref 114), (7, .ref 113), (6, .ref 112), (5, .ref 111), (4, .ref 110), (3, .ref 109), (1, .ref 107)], none) (pc' := 10) (L' := [(0, .ref 106)]) h_m20 (z_at.mk 3 rfl rfl) rfl (by decide) rfl (Or.inl rfl) rfl rfl rfl ?_
  clear H m; intro m H
  refine w_p h_m20 2 (pc' := 12) (L' := [(0, .ref 106)]) (st' := [.long (0 : Int64), .ref 106]) rfl ?_
  refine w_pf H (12, 18, [(9, .long (0 : Int64)), (8, .int (0 : Int32)), (2, .int (0 : Int32)), (15, .int (0 : Int32)), (14, .int (0 : Int32)), (13, .int (0 : Int32)), (12, .int (0 : Int32)), (11, .int (0 : Int32)), (10, .int (0 : Int32)), (0, .ref 41), (17, .ref 116), (16, .ref 114), (7, .ref 113), (6, .ref 112), (5, .ref 111), (4, .ref 110), (3, .ref 109), (1, .ref 107)], none) (pc' := 15) (L' := [(0, .ref 106)]) h_m20 (z_at.mk 3 rfl rfl) rfl (by decide) rfl (Or.inl rfl) rfl rfl rfl ?_
  clear H m; intro m H
  refine w_p h_m20 2 (pc' := 17) (L' := [(0, .ref 106)]) (st' := [.int (0 : Int32), .ref 106]) rfl ?_
  refine w_pf H (12, 18, [(10, .int (0 : Int32)), (9, .long (0 : Int64)), (8, .int (0 : Int32)), (2, .int (0 : Int32)), (15, .int (0 : Int32)), (14, .int (0 : Int32)), (13, .int (0 : Int32)), (12, .int (0 : Int32)), (11, .int (0 : Int32)), (0, .ref 41), (17, .ref 116), (16, .ref 114), (7, .ref 113), (6, .ref 112), (5, .ref 111), (4, .ref 110), (3, .ref 109), (1, .ref 107)], none) (pc' := 20) (L' := [(0, .ref 106)]) h_m20 (z_at.mk 3 rfl rfl) rfl (by decide) rfl (Or.inl rfl) rfl rfl rfl ?_
  clear H m; intro m H
  refine w_p h_m20 2 (pc' := 22) (L' := [(0, .ref 106)]) (st' := [.int (0 : Int32), .ref 106]) rfl ?_
  refine w_pf H (12, 18, [(11, .int (0 : Int32)), (10, .int (0 : Int32)), (9, .long (0 : Int64)), (8, .int (0 : Int32)), (2, .int (0 : Int32)), (15, .int (0 : Int32)), (14, .int (0 : Int32)), (13, .int (0 : Int32)), (12, .int (0 : Int32)), (0, .ref 41), (17, .ref 116), (16, .ref 114), (7, .ref 113), (6, .ref 112), (5, .ref 111), (4, .ref 110), (3, .ref 109), (1, .ref 107)], none) (pc' := 25) (L' := [(0, .ref 106)]) h_m20 (z_at.mk 3 rfl rfl) rfl (by decide) rfl (Or.inl rfl) rfl rfl rfl ?_
  clear H m; intro m H
  refine w_p h_m20 2 (pc' := 27) (L' := [(0, .ref 106)]) (st' := [.int (0 : Int32), .ref 106]) rfl ?_
  refine w_pf H (12, 18, [(12, .int (0 : Int32)), (11, .int (0 : Int32)), (10, .int (0 : Int32)), (9, .long (0 : Int64)), (8, .int (0 : Int32)), (2, .int (0 : Int32)), (15, .int (0 : Int32)), (14, .int (0 : Int32)), (13, .int (0 : Int32)), (0, .ref 41), (17, .ref 116), (16, .ref 114), (7, .ref 113), (6, .ref 112), (5, .ref 111), (4, .ref 110), (3, .ref 109), (1, .ref 107)], none) (pc' := 30) (L' := [(0, .ref 106)]) h_m20 (z_at.mk 3 rfl rfl) rfl (by decide) rfl (Or.inl rfl) rfl rfl rfl ?_
  clear H m; intro m H
  refine w_p h_m20 2 (pc' := 32) (L' := [(0, .ref 106)]) (st' := [.int (0 : Int32), .ref 106]) rfl ?_
  refine w_pf H (12, 18, [(13, .int (0 : Int32)), (12, .int (0 : Int32)), (11, .int (0 : Int32)), (10, .int (0 : Int32)), (9, .long (0 : Int64)), (8, .int (0 : Int32)), (2, .int (0 : Int32)), (15, .int (0 : Int32)), (14, .int (0 : Int32)), (0, .ref 41), (17, .ref 116), (16, .ref 114), (7, .ref 113), (6, .ref 112), (5, .ref 111), (4, .ref 110), (3, .ref 109), (1, .ref 107)], none) (pc' := 35) (L' := [(0, .ref 106)]) h_m20 (z_at.mk 3 rfl rfl) rfl (by decide) rfl (Or.inl rfl) rfl rfl rfl ?_
  clear H m; intro m H
  refine w_p h_m20 2 (pc' := 37) (L' := [(0, .ref 106)]) (st' := [.int (0 : Int32), .ref 106]) rfl ?_
  refine w_pf H (12, 18, [(14, .int (0 : Int32)), (13, .int (0 : Int32)), (12, .int (0 : Int32)), (11, .int (0 : Int32)), (10, .int (0 : Int32)), (9, .long (0 : Int64)), (8, .int (0 : Int32)), (2, .int (0 : Int32)), (15, .int (0 : Int32)), (0, .ref 41), (17, .ref 116), (16, .ref 114), (7, .ref 113), (6, .ref 112), (5, .ref 111), (4, .ref 110), (3, .ref 109), (1, .ref 107)], none) (pc' := 40) (L' := [(0, .ref 106)]) h_m20 (z_at.mk 3 rfl rfl) rfl (by decide) rfl (Or.inl rfl) rfl rfl rfl ?_
  clear H m; intro m H
  refine w_p h_m20 2 (pc' := 42) (L' := [(0, .ref 106)]) (st' := [.int (0 : Int32), .ref 106]) rfl ?_
  refine w_pf H (12, 18, [(15, .int (0 : Int32)), (14, .int (0 : Int32)), (13, .int (0 : Int32)), (12, .int (0 : Int32)), (11, .int (0 : Int32)), (10, .int (0 : Int32)), (9, .long (0 : Int64)), (8, .int (0 : Int32)), (2, .int (0 : Int32)), (0, .ref 41), (17, .ref 116), (16, .ref 114), (7, .ref 113), (6, .ref 112), (5, .ref 111), (4, .ref 110), (3, .ref 109), (1, .ref 107)], none) (pc' := 45) (L' := [(0, .ref 106)]) h_m20 (z_at.mk 3 rfl rfl) rfl (by decide) rfl (Or.inl rfl) rfl rfl rfl ?_
  clear H m; intro m H
  refine w_rv h_m20 (z_at.mk 1 rfl rfl) rfl ?_
  show z_W 998 145 7 [(0, .ref 39), (1, .int (4 : Int32))] [] m _
  refine w_p h_m145 1 (pc' := 8) (L' := [(0, .ref 39), (1, .int (4 : Int32))]) (st' := [.ref 39]) rfl ?_
  refine w_gf H (pc' := 11) (L' := [(0, .ref 39), (1, .int (4 : Int32))]) h_m145 (z_at.mk 3 rfl rfl) rfl (u := .ref 106) rfl rfl rfl ?_
  refine w_gf H (pc' := 14) (L' := [(0, .ref 39), (1, .int (4 : Int32))]) h_m145 (z_at.mk 3 rfl rfl) rfl (u := .ref 107) rfl rfl rfl ?_
  refine w_p h_m145 1 (pc' := 15) (L' := [(0, .ref 39), (1, .int (4 : Int32))]) (st' := [.ref 39, .ref 107]) rfl ?_
  refine w_gf H (pc' := 18) (L' := [(0, .ref 39), (1, .int (4 : Int32))]) h_m145 (z_at.mk 3 rfl rfl) rfl (u := .ref 40) rfl rfl rfl ?_
  refine w_gf H (pc' := 21) (L' := [(0, .ref 39), (1, .int (4 : Int32))]) h_m145 (z_at.mk 3 rfl rfl) rfl (u := .ref 48) rfl rfl rfl ?_
  refine w_gf H (pc' := 24) (L' := [(0, .ref 39), (1, .int (4 : Int32))]) h_m145 (z_at.mk 3 rfl rfl) rfl (u := .ref 49) rfl rfl rfl ?_
  refine w_cv (H.t rfl) (pc' := 27) (L' := [(0, .ref 39), (1, .int (4 : Int32))]) (rest := []) (Ps := [.ref 49]) (L0 := [(0, .ref 107), (1, .ref 49)]) h_m145 (z_at.mk 3 rfl rfl) (Or.inl ⟨rfl, rfl⟩) rfl rfl (by decide) (by decide) rfl rfl rfl rfl rfl rfl (by decide) rfl rfl rfl ?_
  refine w_p h_m74 1 (pc' := 1) (L' := [(0, .ref 107), (1, .ref 49)]) (st' := [.ref 49]) rfl ?_
  refine w_gf H (pc' := 4) (L' := [(0, .ref 107), (1, .ref 49)]) h_m74 (z_at.mk 3 rfl rfl) rfl (u := .ref 50) rfl rfl rfl ?_
  refine w_p h_m74 2 (pc' := 6) (L' := [(0, .ref 107), (1, .ref 49)]) (st' := [.ref 107, .int (0 : Int32), .ref 50]) rfl ?_
  refine w_gf H (pc' := 9) (L' := [(0, .ref 107), (1, .ref 49)]) h_m74 (z_at.mk 3 rfl rfl) rfl (u := .ref 108) rfl rfl rfl ?_
  refine w_p h_m74 2 (pc' := 12) (L' := [(0, .ref 107), (1, .ref 49)]) (st' := [.int (7 : Int32), .int (0 : Int32), .ref 108, .int (0 : Int32), .ref 50]) rfl ?_
  refine w_cpf H (ra := (0, 7, [(6, .int (1024 : Int32)), (5, .int (1 : Int32)), (4, .int (1 : Int32)), (3, .int (0 : Int32)), (2, .int (12 : Int32)), (1, .int (40 : Int32)), (0, .int (10 : Int32))], some (.int (0 : Int32)))) (pc' := 15) (L' := [(0, .ref 107), (1, .ref 49)]) h_m74 (z_at.mk 3 rfl rfl) rfl (z_cat_le 0 rfl (by decide)) rfl rfl rfl rfl (by decide) rfl rfl ?_
  clear H m; intro m H
  refine w_rv h_m74 (z_at.mk 1 rfl rfl) rfl ?_
  show z_W 998 145 27 [(0, .ref 39), (1, .int (4 : Int32))] [] m _
  refine w_p h_m145 1 (pc' := 28) (L' := [(0, .ref 39), (1, .int (4 : Int32))]) (st' := [.ref 39]) rfl ?_
  refine w_gf H (pc' := 31) (L' := [(0, .ref 39), (1, .int (4 : Int32))]) h_m145 (z_at.mk 3 rfl rfl) rfl (u := .ref 106) rfl rfl rfl ?_
  refine w_gf H (pc' := 34) (L' := [(0, .ref 39), (1, .int (4 : Int32))]) h_m145 (z_at.mk 3 rfl rfl) rfl (u := .ref 107) rfl rfl rfl ?_
  refine w_p h_m145 2 (pc' := 36) (L' := [(0, .ref 39), (1, .int (4 : Int32))]) (st' := [.int (4 : Int32), .int (1 : Int32), .ref 107]) rfl ?_
  refine w_cv (H.t rfl) (pc' := 39) (L' := [(0, .ref 39), (1, .int (4 : Int32))]) (rest := []) (Ps := [.int (1 : Int32), .int (4 : Int32)]) (L0 := [(0, .ref 107), (1, .int (1 : Int32)), (2, .int (4 : Int32))]) h_m145 (z_at.mk 3 rfl rfl) (Or.inl ⟨rfl, rfl⟩) rfl rfl (by decide) (by decide) rfl rfl rfl rfl rfl rfl (by decide) rfl rfl rfl ?_
  refine w_p h_m73 6 (pc' := 11) (L' := [(0, .ref 107), (1, .int (1 : Int32)), (2, .int (4 : Int32))]) (st' := [.ref 107]) rfl ?_
  refine w_gf H (pc' := 14) (L' := [(0, .ref 107), (1, .int (1 : Int32)), (2, .int (4 : Int32))]) h_m73 (z_at.mk 3 rfl rfl) rfl (u := .ref 108) rfl rfl rfl ?_
  refine w_p h_m73 2 (pc' := 16) (L' := [(0, .ref 107), (1, .int (1 : Int32)), (2, .int (4 : Int32))]) (st' := [.int (4 : Int32), .int (1 : Int32), .ref 108]) rfl ?_
  refine w_as H (t := 0) (j := 1) (u := .int (4 : Int32)) (0, 7, [(1, .int (4 : Int32)), (6, .int (1024 : Int32)), (5, .int (1 : Int32)), (4, .int (1 : Int32)), (3, .int (0 : Int32)), (2, .int (12 : Int32)), (0, .int (10 : Int32))], some (.int (0 : Int32))) (pc' := 17) (L' := []) h_m73 (z_at.mk 1 rfl rfl) rfl rfl (w_ui _ _ (by decide)) rfl rfl rfl rfl ?_
  clear H m; intro m H
  refine w_rv h_m73 (z_at.mk 1 rfl rfl) rfl ?_
  show z_W 998 145 39 [(0, .ref 39), (1, .int (4 : Int32))] [] m _
  refine w_p h_m145 4 (pc' := 43) (L' := [(0, .ref 39), (2, .int (0 : Int32))]) (st' := [.ref 39, .int (0 : Int32)]) rfl ?_
  refine w_gf H (pc' := 46) (L' := [(0, .ref 39), (2, .int (0 : Int32))]) h_m145 (z_at.mk 3 rfl rfl) rfl (u := .ref 40) rfl rfl rfl ?_
  refine w_gf H (pc' := 49) (L' := [(0, .ref 39), (2, .int (0 : Int32))]) h_m145 (z_at.mk 3 rfl rfl) rfl (u := .ref 63) rfl rfl rfl ?_
  refine w_gf H (pc' := 52) (L' := [(0, .ref 39), (2, .int (0 : Int32))]) h_m145 (z_at.mk 3 rfl rfl) rfl (u := .int (0 : Int32)) rfl rfl rfl ?_
  refine w_p h_m145 1 (pc' := 79) (L' := [(0, .ref 39), (2, .int (0 : Int32))]) (st' := []) rfl ?_
  refine w_rv h_m145 (z_at.mk 1 rfl rfl) rfl ?_
  show z_W 999 146 13 [(0, .ref 39), (1, .int (xs 1)), (2, .int (4 : Int32))] [] m _
  refine w_p h_m146 1 (pc' := 14) (L' := [(0, .ref 39), (1, .int (xs 1)), (2, .int (4 : Int32))]) (st' := [.ref 39]) rfl ?_
  refine w_gf H (pc' := 17) (L' := [(0, .ref 39), (1, .int (xs 1)), (2, .int (4 : Int32))]) h_m146 (z_at.mk 3 rfl rfl) rfl (u := .ref 106) rfl rfl rfl ?_
  refine w_gf H (pc' := 20) (L' := [(0, .ref 39), (1, .int (xs 1)), (2, .int (4 : Int32))]) h_m146 (z_at.mk 3 rfl rfl) rfl (u := .int (0 : Int32)) rfl rfl rfl ?_
  refine w_p h_m146 1 (pc' := 21) (L' := [(0, .ref 39), (1, .int (xs 1)), (2, .int (4 : Int32))]) (st' := [.int (xs 1), .int (0 : Int32)]) rfl ?_
  refine w_t2 (pc' := 26) (L' := [(0, .ref 39), (1, .int (xs 1)), (2, .int (4 : Int32))]) h_m146 (z_at.mk 3 rfl rfl) rfl (zc (a := 0) (b := (xs 1).toInt) rfl rfl (decide_eq_true (by omega))) rfl rfl ?_
  refine w_p h_m146 2 (pc' := 2) (L' := [(0, .ref 39), (1, .int (xs 1)), (2, .int (5 : Int32))]) (st' := []) rfl ?_
  exact hQ m (H.subC (by decide +kernel))
set_option maxHeartbeats 400000000 in
set_option maxRecDepth 20000 in
theorem w_turn_146_5 {xs : Nat → Int32} {m : zM} {Q : Option Value → zM → Prop} (hp : (xs 1).toInt < 0) (H : w_ok 6 xs 168 63950 ((106, (12, 18, [(15, .int (0 : Int32)), (14, .int (0 : Int32)), (13, .int (0 : Int32)), (12, .int (0 : Int32)), (11, .int (0 : Int32)), (10, .int (0 : Int32)), (9, .long (0 : Int64)), (8, .int (0 : Int32)), (2, .int (0 : Int32)), (0, .ref 41), (17, .ref 116), (16, .ref 114), (7, .ref 113), (6, .ref 112), (5, .ref 111), (4, .ref 110), (3, .ref 109), (1, .ref 107)], none)) :: (108, (0, 7, [(1, .int (4 : Int32)), (6, .int (1024 : Int32)), (5, .int (1 : Int32)), (4, .int (1 : Int32)), (3, .int (0 : Int32)), (2, .int (12 : Int32)), (0, .int (10 : Int32))], some (.int (0 : Int32)))) :: w_T0) m) (hQ : ∀ m, w_ok 6 xs 168 63950 ((106, (12, 18, [(15, .int (0 : Int32)), (14, .int (0 : Int32)), (13, .int (0 : Int32)), (12, .int (0 : Int32)), (11, .int (0 : Int32)), (10, .int (0 : Int32)), (9, .long (0 : Int64)), (8, .int (0 : Int32)), (2, .int (0 : Int32)), (0, .ref 41), (17, .ref 116), (16, .ref 114), (7, .ref 113), (6, .ref 112), (5, .ref 111), (4, .ref 110), (3, .ref 109), (1, .ref 107)], none)) :: (108, (0, 7, [(1, .int (5 : Int32)), (6, .int (1024 : Int32)), (5, .int (1 : Int32)), (4, .int (1 : Int32)), (3, .int (0 : Int32)), (2, .int (12 : Int32)), (0, .int (10 : Int32))], some (.int (0 : Int32)))) :: w_T0) m → z_W 999 146 2 [(0, .ref 39), (1, .int (xs 1)), (2, .int (6 : Int32))] [] m Q) : z_W 999 146 2 [(0, .ref 39), (1, .int (xs 1)), (2, .int (5 : Int32))] [] m Q := by
  refine w_p h_m146 5 (pc' := 10) (L' := [(0, .ref 39), (1, .int (xs 1)), (2, .int (5 : Int32))]) (st' := [.int (5 : Int32), .ref 39]) rfl ?_
  refine w_cv (H.t rfl) (pc' := 13) (L' := [(0, .ref 39), (1, .int (xs 1)), (2, .int (5 : Int32))]) (rest := []) (Ps := [.int (5 : Int32)]) (L0 := [(0, .ref 39), (1, .int (5 : Int32))]) h_m146 (z_at.mk 3 rfl rfl) (Or.inl ⟨rfl, rfl⟩) rfl rfl (by decide) (by decide) rfl rfl rfl rfl rfl rfl (by decide) rfl rfl rfl ?_
  refine w_p h_m145 1 (pc' := 1) (L' := [(0, .ref 39), (1, .int (5 : Int32))]) (st' := [.ref 39]) rfl ?_
  refine w_gf H (pc' := 4) (L' := [(0, .ref 39), (1, .int (5 : Int32))]) h_m145 (z_at.mk 3 rfl rfl) rfl (u := .ref 106) rfl rfl rfl ?_
  refine w_cv (H.t rfl) (pc' := 7) (L' := [(0, .ref 39), (1, .int (5 : Int32))]) (rest := []) (Ps := []) (L0 := [(0, .ref 106)]) h_m145 (z_at.mk 3 rfl rfl) (Or.inl ⟨rfl, rfl⟩) rfl rfl (by decide) (by decide) rfl rfl rfl rfl rfl rfl (by decide) rfl rfl rfl ?_
  refine w_p h_m20 2 (pc' := 2) (L' := [(0, .ref 106)]) (st' := [.int (0 : Int32), .ref 106]) rfl ?_
  refine w_pf H (12, 18, [(2, .int (0 : Int32)), (15, .int (0 : Int32)), (14, .int (0 : Int32)), (13, .int (0 : Int32)), (12, .int (0 : Int32)), (11, .int (0 : Int32)), (10, .int (0 : Int32)), (9, .long (0 : Int64)), (8, .int (0 : Int32)), (0, .ref 41), (17, .ref 116), (16, .ref 114), (7, .ref 113), (6, .ref 112), (5, .ref 111), (4, .ref 110), (3, .ref 109), (1, .ref 107)], none) (pc' := 5) (L' := [(0, .ref 106)]) h_m20 (z_at.mk 3 rfl rfl) rfl (by decide) rfl (Or.inl rfl) rfl rfl rfl ?_
  clear H m; intro m H
  refine w_p h_m20 2 (pc' := 7) (L' := [(0, .ref 106)]) (st' := [.int (0 : Int32), .ref 106]) rfl ?_
  refine w_pf H (12, 18, [(8, .int (0 : Int32)), (2, .int (0 : Int32)), (15, .int (0 : Int32)), (14, .int (0 : Int32)), (13, .int (0 : Int32)), (12, .int (0 : Int32)), (11, .int (0 : Int32)), (10, .int (0 : Int32)), (9, .long (0 : Int64)), (0, .ref 41), (17, .ref 116), (16, .ref 114), (7, .ref 113), (6, .ref 112), (5, .ref 111), (4, .ref 110), (3, .ref 109), (1, .ref 107)], none) (pc' := 10) (L' := [(0, .ref 106)]) h_m20 (z_at.mk 3 rfl rfl) rfl (by decide) rfl (Or.inl rfl) rfl rfl rfl ?_
  clear H m; intro m H
  refine w_p h_m20 2 (pc' := 12) (L' := [(0, .ref 106)]) (st' := [.long (0 : Int64), .ref 106]) rfl ?_
  refine w_pf H (12, 18, [(9, .long (0 : Int64)), (8, .int (0 : Int32)), (2, .int (0 : Int32)), (15, .int (0 : Int32)), (14, .int (0 : Int32)), (13, .int (0 : Int32)), (12, .int (0 : Int32)), (11, .int (0 : Int32)), (10, .int (0 : Int32)), (0, .ref 41), (17, .ref 116), (16, .ref 114), (7, .ref 113), (6, .ref 112), (5, .ref 111), (4, .ref 110), (3, .ref 109), (1, .ref 107)], none) (pc' := 15) (L' := [(0, .ref 106)]) h_m20 (z_at.mk 3 rfl rfl) rfl (by decide) rfl (Or.inl rfl) rfl rfl rfl ?_
  clear H m; intro m H
  refine w_p h_m20 2 (pc' := 17) (L' := [(0, .ref 106)]) (st' := [.int (0 : Int32), .ref 106]) rfl ?_
  refine w_pf H (12, 18, [(10, .int (0 : Int32)), (9, .long (0 : Int64)), (8, .int (0 : Int32)), (2, .int (0 : Int32)), (15, .int (0 : Int32)), (14, .int (0 : Int32)), (13, .int (0 : Int32)), (12, .int (0 : Int32)), (11, .int (0 : Int32)), (0, .ref 41), (17, .ref 116), (16, .ref 114), (7, .ref 113), (6, .ref 112), (5, .ref 111), (4, .ref 110), (3, .ref 109), (1, .ref 107)], none) (pc' := 20) (L' := [(0, .ref 106)]) h_m20 (z_at.mk 3 rfl rfl) rfl (by decide) rfl (Or.inl rfl) rfl rfl rfl ?_
  clear H m; intro m H
  refine w_p h_m20 2 (pc' := 22) (L' := [(0, .ref 106)]) (st' := [.int (0 : Int32), .ref 106]) rfl ?_
  refine w_pf H (12, 18, [(11, .int (0 : Int32)), (10, .int (0 : Int32)), (9, .long (0 : Int64)), (8, .int (0 : Int32)), (2, .int (0 : Int32)), (15, .int (0 : Int32)), (14, .int (0 : Int32)), (13, .int (0 : Int32)), (12, .int (0 : Int32)), (0, .ref 41), (17, .ref 116), (16, .ref 114), (7, .ref 113), (6, .ref 112), (5, .ref 111), (4, .ref 110), (3, .ref 109), (1, .ref 107)], none) (pc' := 25) (L' := [(0, .ref 106)]) h_m20 (z_at.mk 3 rfl rfl) rfl (by decide) rfl (Or.inl rfl) rfl rfl rfl ?_
  clear H m; intro m H
  refine w_p h_m20 2 (pc' := 27) (L' := [(0, .ref 106)]) (st' := [.int (0 : Int32), .ref 106]) rfl ?_
  refine w_pf H (12, 18, [(12, .int (0 : Int32)), (11, .int (0 : Int32)), (10, .int (0 : Int32)), (9, .long (0 : Int64)), (8, .int (0 : Int32)), (2, .int (0 : Int32)), (15, .int (0 : Int32)), (14, .int (0 : Int32)), (13, .int (0 : Int32)), (0, .ref 41), (17, .ref 116), (16, .ref 114), (7, .ref 113), (6, .ref 112), (5, .ref 111), (4, .ref 110), (3, .ref 109), (1, .ref 107)], none) (pc' := 30) (L' := [(0, .ref 106)]) h_m20 (z_at.mk 3 rfl rfl) rfl (by decide) rfl (Or.inl rfl) rfl rfl rfl ?_
  clear H m; intro m H
  refine w_p h_m20 2 (pc' := 32) (L' := [(0, .ref 106)]) (st' := [.int (0 : Int32), .ref 106]) rfl ?_
  refine w_pf H (12, 18, [(13, .int (0 : Int32)), (12, .int (0 : Int32)), (11, .int (0 : Int32)), (10, .int (0 : Int32)), (9, .long (0 : Int64)), (8, .int (0 : Int32)), (2, .int (0 : Int32)), (15, .int (0 : Int32)), (14, .int (0 : Int32)), (0, .ref 41), (17, .ref 116), (16, .ref 114), (7, .ref 113), (6, .ref 112), (5, .ref 111), (4, .ref 110), (3, .ref 109), (1, .ref 107)], none) (pc' := 35) (L' := [(0, .ref 106)]) h_m20 (z_at.mk 3 rfl rfl) rfl (by decide) rfl (Or.inl rfl) rfl rfl rfl ?_
  clear H m; intro m H
  refine w_p h_m20 2 (pc' := 37) (L' := [(0, .ref 106)]) (st' := [.int (0 : Int32), .ref 106]) rfl ?_
  refine w_pf H (12, 18, [(14, .int (0 : Int32)), (13, .int (0 : Int32)), (12, .int (0 : Int32)), (11, .int (0 : Int32)), (10, .int (0 : Int32)), (9, .long (0 : Int64)), (8, .int (0 : Int32)), (2, .int (0 : Int32)), (15, .int (0 : Int32)), (0, .ref 41), (17, .ref 116), (16, .ref 114), (7, .ref 113), (6, .ref 112), (5, .ref 111), (4, .ref 110), (3, .ref 109), (1, .ref 107)], none) (pc' := 40) (L' := [(0, .ref 106)]) h_m20 (z_at.mk 3 rfl rfl) rfl (by decide) rfl (Or.inl rfl) rfl rfl rfl ?_
  clear H m; intro m H
  refine w_p h_m20 2 (pc' := 42) (L' := [(0, .ref 106)]) (st' := [.int (0 : Int32), .ref 106]) rfl ?_
  refine w_pf H (12, 18, [(15, .int (0 : Int32)), (14, .int (0 : Int32)), (13, .int (0 : Int32)), (12, .int (0 : Int32)), (11, .int (0 : Int32)), (10, .int (0 : Int32)), (9, .long (0 : Int64)), (8, .int (0 : Int32)), (2, .int (0 : Int32)), (0, .ref 41), (17, .ref 116), (16, .ref 114), (7, .ref 113), (6, .ref 112), (5, .ref 111), (4, .ref 110), (3, .ref 109), (1, .ref 107)], none) (pc' := 45) (L' := [(0, .ref 106)]) h_m20 (z_at.mk 3 rfl rfl) rfl (by decide) rfl (Or.inl rfl) rfl rfl rfl ?_
  clear H m; intro m H
  refine w_rv h_m20 (z_at.mk 1 rfl rfl) rfl ?_
  show z_W 998 145 7 [(0, .ref 39), (1, .int (5 : Int32))] [] m _
  refine w_p h_m145 1 (pc' := 8) (L' := [(0, .ref 39), (1, .int (5 : Int32))]) (st' := [.ref 39]) rfl ?_
  refine w_gf H (pc' := 11) (L' := [(0, .ref 39), (1, .int (5 : Int32))]) h_m145 (z_at.mk 3 rfl rfl) rfl (u := .ref 106) rfl rfl rfl ?_
  refine w_gf H (pc' := 14) (L' := [(0, .ref 39), (1, .int (5 : Int32))]) h_m145 (z_at.mk 3 rfl rfl) rfl (u := .ref 107) rfl rfl rfl ?_
  refine w_p h_m145 1 (pc' := 15) (L' := [(0, .ref 39), (1, .int (5 : Int32))]) (st' := [.ref 39, .ref 107]) rfl ?_
  refine w_gf H (pc' := 18) (L' := [(0, .ref 39), (1, .int (5 : Int32))]) h_m145 (z_at.mk 3 rfl rfl) rfl (u := .ref 40) rfl rfl rfl ?_
  refine w_gf H (pc' := 21) (L' := [(0, .ref 39), (1, .int (5 : Int32))]) h_m145 (z_at.mk 3 rfl rfl) rfl (u := .ref 48) rfl rfl rfl ?_
  refine w_gf H (pc' := 24) (L' := [(0, .ref 39), (1, .int (5 : Int32))]) h_m145 (z_at.mk 3 rfl rfl) rfl (u := .ref 49) rfl rfl rfl ?_
  refine w_cv (H.t rfl) (pc' := 27) (L' := [(0, .ref 39), (1, .int (5 : Int32))]) (rest := []) (Ps := [.ref 49]) (L0 := [(0, .ref 107), (1, .ref 49)]) h_m145 (z_at.mk 3 rfl rfl) (Or.inl ⟨rfl, rfl⟩) rfl rfl (by decide) (by decide) rfl rfl rfl rfl rfl rfl (by decide) rfl rfl rfl ?_
  refine w_p h_m74 1 (pc' := 1) (L' := [(0, .ref 107), (1, .ref 49)]) (st' := [.ref 49]) rfl ?_
  refine w_gf H (pc' := 4) (L' := [(0, .ref 107), (1, .ref 49)]) h_m74 (z_at.mk 3 rfl rfl) rfl (u := .ref 50) rfl rfl rfl ?_
  refine w_p h_m74 2 (pc' := 6) (L' := [(0, .ref 107), (1, .ref 49)]) (st' := [.ref 107, .int (0 : Int32), .ref 50]) rfl ?_
  refine w_gf H (pc' := 9) (L' := [(0, .ref 107), (1, .ref 49)]) h_m74 (z_at.mk 3 rfl rfl) rfl (u := .ref 108) rfl rfl rfl ?_
  refine w_p h_m74 2 (pc' := 12) (L' := [(0, .ref 107), (1, .ref 49)]) (st' := [.int (7 : Int32), .int (0 : Int32), .ref 108, .int (0 : Int32), .ref 50]) rfl ?_
  refine w_cpf H (ra := (0, 7, [(6, .int (1024 : Int32)), (5, .int (1 : Int32)), (4, .int (1 : Int32)), (3, .int (0 : Int32)), (2, .int (12 : Int32)), (1, .int (40 : Int32)), (0, .int (10 : Int32))], some (.int (0 : Int32)))) (pc' := 15) (L' := [(0, .ref 107), (1, .ref 49)]) h_m74 (z_at.mk 3 rfl rfl) rfl (z_cat_le 0 rfl (by decide)) rfl rfl rfl rfl (by decide) rfl rfl ?_
  clear H m; intro m H
  refine w_rv h_m74 (z_at.mk 1 rfl rfl) rfl ?_
  show z_W 998 145 27 [(0, .ref 39), (1, .int (5 : Int32))] [] m _
  refine w_p h_m145 1 (pc' := 28) (L' := [(0, .ref 39), (1, .int (5 : Int32))]) (st' := [.ref 39]) rfl ?_
  refine w_gf H (pc' := 31) (L' := [(0, .ref 39), (1, .int (5 : Int32))]) h_m145 (z_at.mk 3 rfl rfl) rfl (u := .ref 106) rfl rfl rfl ?_
  refine w_gf H (pc' := 34) (L' := [(0, .ref 39), (1, .int (5 : Int32))]) h_m145 (z_at.mk 3 rfl rfl) rfl (u := .ref 107) rfl rfl rfl ?_
  refine w_p h_m145 2 (pc' := 36) (L' := [(0, .ref 39), (1, .int (5 : Int32))]) (st' := [.int (5 : Int32), .int (1 : Int32), .ref 107]) rfl ?_
  refine w_cv (H.t rfl) (pc' := 39) (L' := [(0, .ref 39), (1, .int (5 : Int32))]) (rest := []) (Ps := [.int (1 : Int32), .int (5 : Int32)]) (L0 := [(0, .ref 107), (1, .int (1 : Int32)), (2, .int (5 : Int32))]) h_m145 (z_at.mk 3 rfl rfl) (Or.inl ⟨rfl, rfl⟩) rfl rfl (by decide) (by decide) rfl rfl rfl rfl rfl rfl (by decide) rfl rfl rfl ?_
  refine w_p h_m73 6 (pc' := 11) (L' := [(0, .ref 107), (1, .int (1 : Int32)), (2, .int (5 : Int32))]) (st' := [.ref 107]) rfl ?_
  refine w_gf H (pc' := 14) (L' := [(0, .ref 107), (1, .int (1 : Int32)), (2, .int (5 : Int32))]) h_m73 (z_at.mk 3 rfl rfl) rfl (u := .ref 108) rfl rfl rfl ?_
  refine w_p h_m73 2 (pc' := 16) (L' := [(0, .ref 107), (1, .int (1 : Int32)), (2, .int (5 : Int32))]) (st' := [.int (5 : Int32), .int (1 : Int32), .ref 108]) rfl ?_
  refine w_as H (t := 0) (j := 1) (u := .int (5 : Int32)) (0, 7, [(1, .int (5 : Int32)), (6, .int (1024 : Int32)), (5, .int (1 : Int32)), (4, .int (1 : Int32)), (3, .int (0 : Int32)), (2, .int (12 : Int32)), (0, .int (10 : Int32))], some (.int (0 : Int32))) (pc' := 17) (L' := []) h_m73 (z_at.mk 1 rfl rfl) rfl rfl (w_ui _ _ (by decide)) rfl rfl rfl rfl ?_
  clear H m; intro m H
  refine w_rv h_m73 (z_at.mk 1 rfl rfl) rfl ?_
  show z_W 998 145 39 [(0, .ref 39), (1, .int (5 : Int32))] [] m _
  refine w_p h_m145 4 (pc' := 43) (L' := [(0, .ref 39), (2, .int (0 : Int32))]) (st' := [.ref 39, .int (0 : Int32)]) rfl ?_
  refine w_gf H (pc' := 46) (L' := [(0, .ref 39), (2, .int (0 : Int32))]) h_m145 (z_at.mk 3 rfl rfl) rfl (u := .ref 40) rfl rfl rfl ?_
  refine w_gf H (pc' := 49) (L' := [(0, .ref 39), (2, .int (0 : Int32))]) h_m145 (z_at.mk 3 rfl rfl) rfl (u := .ref 63) rfl rfl rfl ?_
  refine w_gf H (pc' := 52) (L' := [(0, .ref 39), (2, .int (0 : Int32))]) h_m145 (z_at.mk 3 rfl rfl) rfl (u := .int (0 : Int32)) rfl rfl rfl ?_
  refine w_p h_m145 1 (pc' := 79) (L' := [(0, .ref 39), (2, .int (0 : Int32))]) (st' := []) rfl ?_
  refine w_rv h_m145 (z_at.mk 1 rfl rfl) rfl ?_
  show z_W 999 146 13 [(0, .ref 39), (1, .int (xs 1)), (2, .int (5 : Int32))] [] m _
  refine w_p h_m146 1 (pc' := 14) (L' := [(0, .ref 39), (1, .int (xs 1)), (2, .int (5 : Int32))]) (st' := [.ref 39]) rfl ?_
  refine w_gf H (pc' := 17) (L' := [(0, .ref 39), (1, .int (xs 1)), (2, .int (5 : Int32))]) h_m146 (z_at.mk 3 rfl rfl) rfl (u := .ref 106) rfl rfl rfl ?_
  refine w_gf H (pc' := 20) (L' := [(0, .ref 39), (1, .int (xs 1)), (2, .int (5 : Int32))]) h_m146 (z_at.mk 3 rfl rfl) rfl (u := .int (0 : Int32)) rfl rfl rfl ?_
  refine w_p h_m146 1 (pc' := 21) (L' := [(0, .ref 39), (1, .int (xs 1)), (2, .int (5 : Int32))]) (st' := [.int (xs 1), .int (0 : Int32)]) rfl ?_
  refine w_t2 (pc' := 26) (L' := [(0, .ref 39), (1, .int (xs 1)), (2, .int (5 : Int32))]) h_m146 (z_at.mk 3 rfl rfl) rfl (zc (a := 0) (b := (xs 1).toInt) rfl rfl (decide_eq_true (by omega))) rfl rfl ?_
  refine w_p h_m146 2 (pc' := 2) (L' := [(0, .ref 39), (1, .int (xs 1)), (2, .int (6 : Int32))]) (st' := []) rfl ?_
  exact hQ m (H.subC (by decide +kernel))
set_option maxHeartbeats 400000000 in
set_option maxRecDepth 20000 in
theorem w_turn_146_6 {xs : Nat → Int32} {m : zM} {Q : Option Value → zM → Prop} (hp : (xs 1).toInt < 0) (H : w_ok 6 xs 168 63950 ((106, (12, 18, [(15, .int (0 : Int32)), (14, .int (0 : Int32)), (13, .int (0 : Int32)), (12, .int (0 : Int32)), (11, .int (0 : Int32)), (10, .int (0 : Int32)), (9, .long (0 : Int64)), (8, .int (0 : Int32)), (2, .int (0 : Int32)), (0, .ref 41), (17, .ref 116), (16, .ref 114), (7, .ref 113), (6, .ref 112), (5, .ref 111), (4, .ref 110), (3, .ref 109), (1, .ref 107)], none)) :: (108, (0, 7, [(1, .int (5 : Int32)), (6, .int (1024 : Int32)), (5, .int (1 : Int32)), (4, .int (1 : Int32)), (3, .int (0 : Int32)), (2, .int (12 : Int32)), (0, .int (10 : Int32))], some (.int (0 : Int32)))) :: w_T0) m) (hQ : ∀ m, w_ok 6 xs 168 63950 ((106, (12, 18, [(15, .int (0 : Int32)), (14, .int (0 : Int32)), (13, .int (0 : Int32)), (12, .int (0 : Int32)), (11, .int (0 : Int32)), (10, .int (0 : Int32)), (9, .long (0 : Int64)), (8, .int (0 : Int32)), (2, .int (0 : Int32)), (0, .ref 41), (17, .ref 116), (16, .ref 114), (7, .ref 113), (6, .ref 112), (5, .ref 111), (4, .ref 110), (3, .ref 109), (1, .ref 107)], none)) :: (108, (0, 7, [(1, .int (6 : Int32)), (6, .int (1024 : Int32)), (5, .int (1 : Int32)), (4, .int (1 : Int32)), (3, .int (0 : Int32)), (2, .int (12 : Int32)), (0, .int (10 : Int32))], some (.int (0 : Int32)))) :: w_T0) m → z_W 999 146 2 [(0, .ref 39), (1, .int (xs 1)), (2, .int (7 : Int32))] [] m Q) : z_W 999 146 2 [(0, .ref 39), (1, .int (xs 1)), (2, .int (6 : Int32))] [] m Q := by
  refine w_p h_m146 5 (pc' := 10) (L' := [(0, .ref 39), (1, .int (xs 1)), (2, .int (6 : Int32))]) (st' := [.int (6 : Int32), .ref 39]) rfl ?_
  refine w_cv (H.t rfl) (pc' := 13) (L' := [(0, .ref 39), (1, .int (xs 1)), (2, .int (6 : Int32))]) (rest := []) (Ps := [.int (6 : Int32)]) (L0 := [(0, .ref 39), (1, .int (6 : Int32))]) h_m146 (z_at.mk 3 rfl rfl) (Or.inl ⟨rfl, rfl⟩) rfl rfl (by decide) (by decide) rfl rfl rfl rfl rfl rfl (by decide) rfl rfl rfl ?_
  refine w_p h_m145 1 (pc' := 1) (L' := [(0, .ref 39), (1, .int (6 : Int32))]) (st' := [.ref 39]) rfl ?_
  refine w_gf H (pc' := 4) (L' := [(0, .ref 39), (1, .int (6 : Int32))]) h_m145 (z_at.mk 3 rfl rfl) rfl (u := .ref 106) rfl rfl rfl ?_
  refine w_cv (H.t rfl) (pc' := 7) (L' := [(0, .ref 39), (1, .int (6 : Int32))]) (rest := []) (Ps := []) (L0 := [(0, .ref 106)]) h_m145 (z_at.mk 3 rfl rfl) (Or.inl ⟨rfl, rfl⟩) rfl rfl (by decide) (by decide) rfl rfl rfl rfl rfl rfl (by decide) rfl rfl rfl ?_
  refine w_p h_m20 2 (pc' := 2) (L' := [(0, .ref 106)]) (st' := [.int (0 : Int32), .ref 106]) rfl ?_
  refine w_pf H (12, 18, [(2, .int (0 : Int32)), (15, .int (0 : Int32)), (14, .int (0 : Int32)), (13, .int (0 : Int32)), (12, .int (0 : Int32)), (11, .int (0 : Int32)), (10, .int (0 : Int32)), (9, .long (0 : Int64)), (8, .int (0 : Int32)), (0, .ref 41), (17, .ref 116), (16, .ref 114), (7, .ref 113), (6, .ref 112), (5, .ref 111), (4, .ref 110), (3, .ref 109), (1, .ref 107)], none) (pc' := 5) (L' := [(0, .ref 106)]) h_m20 (z_at.mk 3 rfl rfl) rfl (by decide) rfl (Or.inl rfl) rfl rfl rfl ?_
  clear H m; intro m H
  refine w_p h_m20 2 (pc' := 7) (L' := [(0, .ref 106)]) (st' := [.int (0 : Int32), .ref 106]) rfl ?_
  refine w_pf H (12, 18, [(8, .int (0 : Int32)), (2, .int (0 : Int32)), (15, .int (0 : Int32)), (14, .int (0 : Int32)), (13, .int (0 : Int32)), (12, .int (0 : Int32)), (11, .int (0 : Int32)), (10, .int (0 : Int32)), (9, .long (0 : Int64)), (0, .ref 41), (17, .ref 116), (16, .ref 114), (7, .ref 113), (6, .ref 112), (5, .ref 111), (4, .ref 110), (3, .ref 109), (1, .ref 107)], none) (pc' := 10) (L' := [(0, .ref 106)]) h_m20 (z_at.mk 3 rfl rfl) rfl (by decide) rfl (Or.inl rfl) rfl rfl rfl ?_
  clear H m; intro m H
  refine w_p h_m20 2 (pc' := 12) (L' := [(0, .ref 106)]) (st' := [.long (0 : Int64), .ref 106]) rfl ?_
  refine w_pf H (12, 18, [(9, .long (0 : Int64)), (8, .int (0 : Int32)), (2, .int (0 : Int32)), (15, .int (0 : Int32)), (14, .int (0 : Int32)), (13, .int (0 : Int32)), (12, .int (0 : Int32)), (11, .int (0 : Int32)), (10, .int (0 : Int32)), (0, .ref 41), (17, .ref 116), (16, .ref 114), (7, .ref 113), (6, .ref 112), (5, .ref 111), (4, .ref 110), (3, .ref 109), (1, .ref 107)], none) (pc' := 15) (L' := [(0, .ref 106)]) h_m20 (z_at.mk 3 rfl rfl) rfl (by decide) rfl (Or.inl rfl) rfl rfl rfl ?_
  clear H m; intro m H
  refine w_p h_m20 2 (pc' := 17) (L' := [(0, .ref 106)]) (st' := [.int (0 : Int32), .ref 106]) rfl ?_
  refine w_pf H (12, 18, [(10, .int (0 : Int32)), (9, .long (0 : Int64)), (8, .int (0 : Int32)), (2, .int (0 : Int32)), (15, .int (0 : Int32)), (14, .int (0 : Int32)), (13, .int (0 : Int32)), (12, .int (0 : Int32)), (11, .int (0 : Int32)), (0, .ref 41), (17, .ref 116), (16, .ref 114), (7, .ref 113), (6, .ref 112), (5, .ref 111), (4, .ref 110), (3, .ref 109), (1, .ref 107)], none) (pc' := 20) (L' := [(0, .ref 106)]) h_m20 (z_at.mk 3 rfl rfl) rfl (by decide) rfl (Or.inl rfl) rfl rfl rfl ?_
  clear H m; intro m H
  refine w_p h_m20 2 (pc' := 22) (L' := [(0, .ref 106)]) (st' := [.int (0 : Int32), .ref 106]) rfl ?_
  refine w_pf H (12, 18, [(11, .int (0 : Int32)), (10, .int (0 : Int32)), (9, .long (0 : Int64)), (8, .int (0 : Int32)), (2, .int (0 : Int32)), (15, .int (0 : Int32)), (14, .int (0 : Int32)), (13, .int (0 : Int32)), (12, .int (0 : Int32)), (0, .ref 41), (17, .ref 116), (16, .ref 114), (7, .ref 113), (6, .ref 112), (5, .ref 111), (4, .ref 110), (3, .ref 109), (1, .ref 107)], none) (pc' := 25) (L' := [(0, .ref 106)]) h_m20 (z_at.mk 3 rfl rfl) rfl (by decide) rfl (Or.inl rfl) rfl rfl rfl ?_
  clear H m; intro m H
  refine w_p h_m20 2 (pc' := 27) (L' := [(0, .ref 106)]) (st' := [.int (0 : Int32), .ref 106]) rfl ?_
  refine w_pf H (12, 18, [(12, .int (0 : Int32)), (11, .int (0 : Int32)), (10, .int (0 : Int32)), (9, .long (0 : Int64)), (8, .int (0 : Int32)), (2, .int (0 : Int32)), (15, .int (0 : Int32)), (14, .int (0 : Int32)), (13, .int (0 : Int32)), (0, .ref 41), (17, .ref 116), (16, .ref 114), (7, .ref 113), (6, .ref 112), (5, .ref 111), (4, .ref 110), (3, .ref 109), (1, .ref 107)], none) (pc' := 30) (L' := [(0, .ref 106)]) h_m20 (z_at.mk 3 rfl rfl) rfl (by decide) rfl (Or.inl rfl) rfl rfl rfl ?_
  clear H m; intro m H
  refine w_p h_m20 2 (pc' := 32) (L' := [(0, .ref 106)]) (st' := [.int (0 : Int32), .ref 106]) rfl ?_
  refine w_pf H (12, 18, [(13, .int (0 : Int32)), (12, .int (0 : Int32)), (11, .int (0 : Int32)), (10, .int (0 : Int32)), (9, .long (0 : Int64)), (8, .int (0 : Int32)), (2, .int (0 : Int32)), (15, .int (0 : Int32)), (14, .int (0 : Int32)), (0, .ref 41), (17, .ref 116), (16, .ref 114), (7, .ref 113), (6, .ref 112), (5, .ref 111), (4, .ref 110), (3, .ref 109), (1, .ref 107)], none) (pc' := 35) (L' := [(0, .ref 106)]) h_m20 (z_at.mk 3 rfl rfl) rfl (by decide) rfl (Or.inl rfl) rfl rfl rfl ?_
  clear H m; intro m H
  refine w_p h_m20 2 (pc' := 37) (L' := [(0, .ref 106)]) (st' := [.int (0 : Int32), .ref 106]) rfl ?_
  refine w_pf H (12, 18, [(14, .int (0 : Int32)), (13, .int (0 : Int32)), (12, .int (0 : Int32)), (11, .int (0 : Int32)), (10, .int (0 : Int32)), (9, .long (0 : Int64)), (8, .int (0 : Int32)), (2, .int (0 : Int32)), (15, .int (0 : Int32)), (0, .ref 41), (17, .ref 116), (16, .ref 114), (7, .ref 113), (6, .ref 112), (5, .ref 111), (4, .ref 110), (3, .ref 109), (1, .ref 107)], none) (pc' := 40) (L' := [(0, .ref 106)]) h_m20 (z_at.mk 3 rfl rfl) rfl (by decide) rfl (Or.inl rfl) rfl rfl rfl ?_
  clear H m; intro m H
  refine w_p h_m20 2 (pc' := 42) (L' := [(0, .ref 106)]) (st' := [.int (0 : Int32), .ref 106]) rfl ?_
  refine w_pf H (12, 18, [(15, .int (0 : Int32)), (14, .int (0 : Int32)), (13, .int (0 : Int32)), (12, .int (0 : Int32)), (11, .int (0 : Int32)), (10, .int (0 : Int32)), (9, .long (0 : Int64)), (8, .int (0 : Int32)), (2, .int (0 : Int32)), (0, .ref 41), (17, .ref 116), (16, .ref 114), (7, .ref 113), (6, .ref 112), (5, .ref 111), (4, .ref 110), (3, .ref 109), (1, .ref 107)], none) (pc' := 45) (L' := [(0, .ref 106)]) h_m20 (z_at.mk 3 rfl rfl) rfl (by decide) rfl (Or.inl rfl) rfl rfl rfl ?_
  clear H m; intro m H
  refine w_rv h_m20 (z_at.mk 1 rfl rfl) rfl ?_
  show z_W 998 145 7 [(0, .ref 39), (1, .int (6 : Int32))] [] m _
  refine w_p h_m145 1 (pc' := 8) (L' := [(0, .ref 39), (1, .int (6 : Int32))]) (st' := [.ref 39]) rfl ?_
  refine w_gf H (pc' := 11) (L' := [(0, .ref 39), (1, .int (6 : Int32))]) h_m145 (z_at.mk 3 rfl rfl) rfl (u := .ref 106) rfl rfl rfl ?_
  refine w_gf H (pc' := 14) (L' := [(0, .ref 39), (1, .int (6 : Int32))]) h_m145 (z_at.mk 3 rfl rfl) rfl (u := .ref 107) rfl rfl rfl ?_
  refine w_p h_m145 1 (pc' := 15) (L' := [(0, .ref 39), (1, .int (6 : Int32))]) (st' := [.ref 39, .ref 107]) rfl ?_
  refine w_gf H (pc' := 18) (L' := [(0, .ref 39), (1, .int (6 : Int32))]) h_m145 (z_at.mk 3 rfl rfl) rfl (u := .ref 40) rfl rfl rfl ?_
  refine w_gf H (pc' := 21) (L' := [(0, .ref 39), (1, .int (6 : Int32))]) h_m145 (z_at.mk 3 rfl rfl) rfl (u := .ref 48) rfl rfl rfl ?_
  refine w_gf H (pc' := 24) (L' := [(0, .ref 39), (1, .int (6 : Int32))]) h_m145 (z_at.mk 3 rfl rfl) rfl (u := .ref 49) rfl rfl rfl ?_
  refine w_cv (H.t rfl) (pc' := 27) (L' := [(0, .ref 39), (1, .int (6 : Int32))]) (rest := []) (Ps := [.ref 49]) (L0 := [(0, .ref 107), (1, .ref 49)]) h_m145 (z_at.mk 3 rfl rfl) (Or.inl ⟨rfl, rfl⟩) rfl rfl (by decide) (by decide) rfl rfl rfl rfl rfl rfl (by decide) rfl rfl rfl ?_
  refine w_p h_m74 1 (pc' := 1) (L' := [(0, .ref 107), (1, .ref 49)]) (st' := [.ref 49]) rfl ?_
  refine w_gf H (pc' := 4) (L' := [(0, .ref 107), (1, .ref 49)]) h_m74 (z_at.mk 3 rfl rfl) rfl (u := .ref 50) rfl rfl rfl ?_
  refine w_p h_m74 2 (pc' := 6) (L' := [(0, .ref 107), (1, .ref 49)]) (st' := [.ref 107, .int (0 : Int32), .ref 50]) rfl ?_
  refine w_gf H (pc' := 9) (L' := [(0, .ref 107), (1, .ref 49)]) h_m74 (z_at.mk 3 rfl rfl) rfl (u := .ref 108) rfl rfl rfl ?_
  refine w_p h_m74 2 (pc' := 12) (L' := [(0, .ref 107), (1, .ref 49)]) (st' := [.int (7 : Int32), .int (0 : Int32), .ref 108, .int (0 : Int32), .ref 50]) rfl ?_
  refine w_cpf H (ra := (0, 7, [(6, .int (1024 : Int32)), (5, .int (1 : Int32)), (4, .int (1 : Int32)), (3, .int (0 : Int32)), (2, .int (12 : Int32)), (1, .int (40 : Int32)), (0, .int (10 : Int32))], some (.int (0 : Int32)))) (pc' := 15) (L' := [(0, .ref 107), (1, .ref 49)]) h_m74 (z_at.mk 3 rfl rfl) rfl (z_cat_le 0 rfl (by decide)) rfl rfl rfl rfl (by decide) rfl rfl ?_
  clear H m; intro m H
  refine w_rv h_m74 (z_at.mk 1 rfl rfl) rfl ?_
  show z_W 998 145 27 [(0, .ref 39), (1, .int (6 : Int32))] [] m _
  refine w_p h_m145 1 (pc' := 28) (L' := [(0, .ref 39), (1, .int (6 : Int32))]) (st' := [.ref 39]) rfl ?_
  refine w_gf H (pc' := 31) (L' := [(0, .ref 39), (1, .int (6 : Int32))]) h_m145 (z_at.mk 3 rfl rfl) rfl (u := .ref 106) rfl rfl rfl ?_
  refine w_gf H (pc' := 34) (L' := [(0, .ref 39), (1, .int (6 : Int32))]) h_m145 (z_at.mk 3 rfl rfl) rfl (u := .ref 107) rfl rfl rfl ?_
  refine w_p h_m145 2 (pc' := 36) (L' := [(0, .ref 39), (1, .int (6 : Int32))]) (st' := [.int (6 : Int32), .int (1 : Int32), .ref 107]) rfl ?_
  refine w_cv (H.t rfl) (pc' := 39) (L' := [(0, .ref 39), (1, .int (6 : Int32))]) (rest := []) (Ps := [.int (1 : Int32), .int (6 : Int32)]) (L0 := [(0, .ref 107), (1, .int (1 : Int32)), (2, .int (6 : Int32))]) h_m145 (z_at.mk 3 rfl rfl) (Or.inl ⟨rfl, rfl⟩) rfl rfl (by decide) (by decide) rfl rfl rfl rfl rfl rfl (by decide) rfl rfl rfl ?_
  refine w_p h_m73 6 (pc' := 11) (L' := [(0, .ref 107), (1, .int (1 : Int32)), (2, .int (6 : Int32))]) (st' := [.ref 107]) rfl ?_
  refine w_gf H (pc' := 14) (L' := [(0, .ref 107), (1, .int (1 : Int32)), (2, .int (6 : Int32))]) h_m73 (z_at.mk 3 rfl rfl) rfl (u := .ref 108) rfl rfl rfl ?_
  refine w_p h_m73 2 (pc' := 16) (L' := [(0, .ref 107), (1, .int (1 : Int32)), (2, .int (6 : Int32))]) (st' := [.int (6 : Int32), .int (1 : Int32), .ref 108]) rfl ?_
  refine w_as H (t := 0) (j := 1) (u := .int (6 : Int32)) (0, 7, [(1, .int (6 : Int32)), (6, .int (1024 : Int32)), (5, .int (1 : Int32)), (4, .int (1 : Int32)), (3, .int (0 : Int32)), (2, .int (12 : Int32)), (0, .int (10 : Int32))], some (.int (0 : Int32))) (pc' := 17) (L' := []) h_m73 (z_at.mk 1 rfl rfl) rfl rfl (w_ui _ _ (by decide)) rfl rfl rfl rfl ?_
  clear H m; intro m H
  refine w_rv h_m73 (z_at.mk 1 rfl rfl) rfl ?_
  show z_W 998 145 39 [(0, .ref 39), (1, .int (6 : Int32))] [] m _
  refine w_p h_m145 4 (pc' := 43) (L' := [(0, .ref 39), (2, .int (0 : Int32))]) (st' := [.ref 39, .int (0 : Int32)]) rfl ?_
  refine w_gf H (pc' := 46) (L' := [(0, .ref 39), (2, .int (0 : Int32))]) h_m145 (z_at.mk 3 rfl rfl) rfl (u := .ref 40) rfl rfl rfl ?_
  refine w_gf H (pc' := 49) (L' := [(0, .ref 39), (2, .int (0 : Int32))]) h_m145 (z_at.mk 3 rfl rfl) rfl (u := .ref 63) rfl rfl rfl ?_
  refine w_gf H (pc' := 52) (L' := [(0, .ref 39), (2, .int (0 : Int32))]) h_m145 (z_at.mk 3 rfl rfl) rfl (u := .int (0 : Int32)) rfl rfl rfl ?_
  refine w_p h_m145 1 (pc' := 79) (L' := [(0, .ref 39), (2, .int (0 : Int32))]) (st' := []) rfl ?_
  refine w_rv h_m145 (z_at.mk 1 rfl rfl) rfl ?_
  show z_W 999 146 13 [(0, .ref 39), (1, .int (xs 1)), (2, .int (6 : Int32))] [] m _
  refine w_p h_m146 1 (pc' := 14) (L' := [(0, .ref 39), (1, .int (xs 1)), (2, .int (6 : Int32))]) (st' := [.ref 39]) rfl ?_
  refine w_gf H (pc' := 17) (L' := [(0, .ref 39), (1, .int (xs 1)), (2, .int (6 : Int32))]) h_m146 (z_at.mk 3 rfl rfl) rfl (u := .ref 106) rfl rfl rfl ?_
  refine w_gf H (pc' := 20) (L' := [(0, .ref 39), (1, .int (xs 1)), (2, .int (6 : Int32))]) h_m146 (z_at.mk 3 rfl rfl) rfl (u := .int (0 : Int32)) rfl rfl rfl ?_
  refine w_p h_m146 1 (pc' := 21) (L' := [(0, .ref 39), (1, .int (xs 1)), (2, .int (6 : Int32))]) (st' := [.int (xs 1), .int (0 : Int32)]) rfl ?_
  refine w_t2 (pc' := 26) (L' := [(0, .ref 39), (1, .int (xs 1)), (2, .int (6 : Int32))]) h_m146 (z_at.mk 3 rfl rfl) rfl (zc (a := 0) (b := (xs 1).toInt) rfl rfl (decide_eq_true (by omega))) rfl rfl ?_
  refine w_p h_m146 2 (pc' := 2) (L' := [(0, .ref 39), (1, .int (xs 1)), (2, .int (7 : Int32))]) (st' := []) rfl ?_
  exact hQ m (H.subC (by decide +kernel))
set_option maxHeartbeats 400000000 in
set_option maxRecDepth 20000 in
theorem w_turn_146_7 {xs : Nat → Int32} {m : zM} {Q : Option Value → zM → Prop} (hp : (xs 1).toInt < 0) (H : w_ok 6 xs 168 63950 ((106, (12, 18, [(15, .int (0 : Int32)), (14, .int (0 : Int32)), (13, .int (0 : Int32)), (12, .int (0 : Int32)), (11, .int (0 : Int32)), (10, .int (0 : Int32)), (9, .long (0 : Int64)), (8, .int (0 : Int32)), (2, .int (0 : Int32)), (0, .ref 41), (17, .ref 116), (16, .ref 114), (7, .ref 113), (6, .ref 112), (5, .ref 111), (4, .ref 110), (3, .ref 109), (1, .ref 107)], none)) :: (108, (0, 7, [(1, .int (6 : Int32)), (6, .int (1024 : Int32)), (5, .int (1 : Int32)), (4, .int (1 : Int32)), (3, .int (0 : Int32)), (2, .int (12 : Int32)), (0, .int (10 : Int32))], some (.int (0 : Int32)))) :: w_T0) m) (hQ : ∀ m, w_ok 6 xs 168 63950 ((106, (12, 18, [(15, .int (0 : Int32)), (14, .int (0 : Int32)), (13, .int (0 : Int32)), (12, .int (0 : Int32)), (11, .int (0 : Int32)), (10, .int (0 : Int32)), (9, .long (0 : Int64)), (8, .int (0 : Int32)), (2, .int (0 : Int32)), (0, .ref 41), (17, .ref 116), (16, .ref 114), (7, .ref 113), (6, .ref 112), (5, .ref 111), (4, .ref 110), (3, .ref 109), (1, .ref 107)], none)) :: (108, (0, 7, [(1, .int (7 : Int32)), (6, .int (1024 : Int32)), (5, .int (1 : Int32)), (4, .int (1 : Int32)), (3, .int (0 : Int32)), (2, .int (12 : Int32)), (0, .int (10 : Int32))], some (.int (0 : Int32)))) :: w_T0) m → z_W 999 146 2 [(0, .ref 39), (1, .int (xs 1)), (2, .int (8 : Int32))] [] m Q) : z_W 999 146 2 [(0, .ref 39), (1, .int (xs 1)), (2, .int (7 : Int32))] [] m Q := by
  refine w_p h_m146 5 (pc' := 10) (L' := [(0, .ref 39), (1, .int (xs 1)), (2, .int (7 : Int32))]) (st' := [.int (7 : Int32), .ref 39]) rfl ?_
  refine w_cv (H.t rfl) (pc' := 13) (L' := [(0, .ref 39), (1, .int (xs 1)), (2, .int (7 : Int32))]) (rest := []) (Ps := [.int (7 : Int32)]) (L0 := [(0, .ref 39), (1, .int (7 : Int32))]) h_m146 (z_at.mk 3 rfl rfl) (Or.inl ⟨rfl, rfl⟩) rfl rfl (by decide) (by decide) rfl rfl rfl rfl rfl rfl (by decide) rfl rfl rfl ?_
  refine w_p h_m145 1 (pc' := 1) (L' := [(0, .ref 39), (1, .int (7 : Int32))]) (st' := [.ref 39]) rfl ?_
  refine w_gf H (pc' := 4) (L' := [(0, .ref 39), (1, .int (7 : Int32))]) h_m145 (z_at.mk 3 rfl rfl) rfl (u := .ref 106) rfl rfl rfl ?_
  refine w_cv (H.t rfl) (pc' := 7) (L' := [(0, .ref 39), (1, .int (7 : Int32))]) (rest := []) (Ps := []) (L0 := [(0, .ref 106)]) h_m145 (z_at.mk 3 rfl rfl) (Or.inl ⟨rfl, rfl⟩) rfl rfl (by decide) (by decide) rfl rfl rfl rfl rfl rfl (by decide) rfl rfl rfl ?_
  refine w_p h_m20 2 (pc' := 2) (L' := [(0, .ref 106)]) (st' := [.int (0 : Int32), .ref 106]) rfl ?_
  refine w_pf H (12, 18, [(2, .int (0 : Int32)), (15, .int (0 : Int32)), (14, .int (0 : Int32)), (13, .int (0 : Int32)), (12, .int (0 : Int32)), (11, .int (0 : Int32)), (10, .int (0 : Int32)), (9, .long (0 : Int64)), (8, .int (0 : Int32)), (0, .ref 41), (17, .ref 116), (16, .ref 114), (7, .ref 113), (6, .ref 112), (5, .ref 111), (4, .ref 110), (3, .ref 109), (1, .ref 107)], none) (pc' := 5) (L' := [(0, .ref 106)]) h_m20 (z_at.mk 3 rfl rfl) rfl (by decide) rfl (Or.inl rfl) rfl rfl rfl ?_
  clear H m; intro m H
  refine w_p h_m20 2 (pc' := 7) (L' := [(0, .ref 106)]) (st' := [.int (0 : Int32), .ref 106]) rfl ?_
  refine w_pf H (12, 18, [(8, .int (0 : Int32)), (2, .int (0 : Int32)), (15, .int (0 : Int32)), (14, .int (0 : Int32)), (13, .int (0 : Int32)), (12, .int (0 : Int32)), (11, .int (0 : Int32)), (10, .int (0 : Int32)), (9, .long (0 : Int64)), (0, .ref 41), (17, .ref 116), (16, .ref 114), (7, .ref 113), (6, .ref 112), (5, .ref 111), (4, .ref 110), (3, .ref 109), (1, .ref 107)], none) (pc' := 10) (L' := [(0, .ref 106)]) h_m20 (z_at.mk 3 rfl rfl) rfl (by decide) rfl (Or.inl rfl) rfl rfl rfl ?_
  clear H m; intro m H
  refine w_p h_m20 2 (pc' := 12) (L' := [(0, .ref 106)]) (st' := [.long (0 : Int64), .ref 106]) rfl ?_
  refine w_pf H (12, 18, [(9, .long (0 : Int64)), (8, .int (0 : Int32)), (2, .int (0 : Int32)), (15, .int (0 : Int32)), (14, .int (0 : Int32)), (13, .int (0 : Int32)), (12, .int (0 : Int32)), (11, .int (0 : Int32)), (10, .int (0 : Int32)), (0, .ref 41), (17, .ref 116), (16, .ref 114), (7, .ref 113), (6, .ref 112), (5, .ref 111), (4, .ref 110), (3, .ref 109), (1, .ref 107)], none) (pc' := 15) (L' := [(0, .ref 106)]) h_m20 (z_at.mk 3 rfl rfl) rfl (by decide) rfl (Or.inl rfl) rfl rfl rfl ?_
  clear H m; intro m H
  refine w_p h_m20 2 (pc' := 17) (L' := [(0, .ref 106)]) (st' := [.int (0 : Int32), .ref 106]) rfl ?_
  refine w_pf H (12, 18, [(10, .int (0 : Int32)), (9, .long (0 : Int64)), (8, .int (0 : Int32)), (2, .int (0 : Int32)), (15, .int (0 : Int32)), (14, .int (0 : Int32)), (13, .int (0 : Int32)), (12, .int (0 : Int32)), (11, .int (0 : Int32)), (0, .ref 41), (17, .ref 116), (16, .ref 114), (7, .ref 113), (6, .ref 112), (5, .ref 111), (4, .ref 110), (3, .ref 109), (1, .ref 107)], none) (pc' := 20) (L' := [(0, .ref 106)]) h_m20 (z_at.mk 3 rfl rfl) rfl (by decide) rfl (Or.inl rfl) rfl rfl rfl ?_
  clear H m; intro m H
  refine w_p h_m20 2 (pc' := 22) (L' := [(0, .ref 106)]) (st' := [.int (0 : Int32), .ref 106]) rfl ?_
  refine w_pf H (12, 18, [(11, .int (0 : Int32)), (10, .int (0 : Int32)), (9, .long (0 : Int64)), (8, .int (0 : Int32)), (2, .int (0 : Int32)), (15, .int (0 : Int32)), (14, .int (0 : Int32)), (13, .int (0 : Int32)), (12, .int (0 : Int32)), (0, .ref 41), (17, .ref 116), (16, .ref 114), (7, .ref 113), (6, .ref 112), (5, .ref 111), (4, .ref 110), (3, .ref 109), (1, .ref 107)], none) (pc' := 25) (L' := [(0, .ref 106)]) h_m20 (z_at.mk 3 rfl rfl) rfl (by decide) rfl (Or.inl rfl) rfl rfl rfl ?_
  clear H m; intro m H
  refine w_p h_m20 2 (pc' := 27) (L' := [(0, .ref 106)]) (st' := [.int (0 : Int32), .ref 106]) rfl ?_
  refine w_pf H (12, 18, [(12, .int (0 : Int32)), (11, .int (0 : Int32)), (10, .int (0 : Int32)), (9, .long (0 : Int64)), (8, .int (0 : Int32)), (2, .int (0 : Int32)), (15, .int (0 : Int32)), (14, .int (0 : Int32)), (13, .int (0 : Int32)), (0, .ref 41), (17, .ref 116), (16, .ref 114), (7, .ref 113), (6, .ref 112), (5, .ref 111), (4, .ref 110), (3, .ref 109), (1, .ref 107)], none) (pc' := 30) (L' := [(0, .ref 106)]) h_m20 (z_at.mk 3 rfl rfl) rfl (by decide) rfl (Or.inl rfl) rfl rfl rfl ?_
  clear H m; intro m H
  refine w_p h_m20 2 (pc' := 32) (L' := [(0, .ref 106)]) (st' := [.int (0 : Int32), .ref 106]) rfl ?_
  refine w_pf H (12, 18, [(13, .int (0 : Int32)), (12, .int (0 : Int32)), (11, .int (0 : Int32)), (10, .int (0 : Int32)), (9, .long (0 : Int64)), (8, .int (0 : Int32)), (2, .int (0 : Int32)), (15, .int (0 : Int32)), (14, .int (0 : Int32)), (0, .ref 41), (17, .ref 116), (16, .ref 114), (7, .ref 113), (6, .ref 112), (5, .ref 111), (4, .ref 110), (3, .ref 109), (1, .ref 107)], none) (pc' := 35) (L' := [(0, .ref 106)]) h_m20 (z_at.mk 3 rfl rfl) rfl (by decide) rfl (Or.inl rfl) rfl rfl rfl ?_
  clear H m; intro m H
  refine w_p h_m20 2 (pc' := 37) (L' := [(0, .ref 106)]) (st' := [.int (0 : Int32), .ref 106]) rfl ?_
  refine w_pf H (12, 18, [(14, .int (0 : Int32)), (13, .int (0 : Int32)), (12, .int (0 : Int32)), (11, .int (0 : Int32)), (10, .int (0 : Int32)), (9, .long (0 : Int64)), (8, .int (0 : Int32)), (2, .int (0 : Int32)), (15, .int (0 : Int32)), (0, .ref 41), (17, .ref 116), (16, .ref 114), (7, .ref 113), (6, .ref 112), (5, .ref 111), (4, .ref 110), (3, .ref 109), (1, .ref 107)], none) (pc' := 40) (L' := [(0, .ref 106)]) h_m20 (z_at.mk 3 rfl rfl) rfl (by decide) rfl (Or.inl rfl) rfl rfl rfl ?_
  clear H m; intro m H
  refine w_p h_m20 2 (pc' := 42) (L' := [(0, .ref 106)]) (st' := [.int (0 : Int32), .ref 106]) rfl ?_
  refine w_pf H (12, 18, [(15, .int (0 : Int32)), (14, .int (0 : Int32)), (13, .int (0 : Int32)), (12, .int (0 : Int32)), (11, .int (0 : Int32)), (10, .int (0 : Int32)), (9, .long (0 : Int64)), (8, .int (0 : Int32)), (2, .int (0 : Int32)), (0, .ref 41), (17, .ref 116), (16, .ref 114), (7, .ref 113), (6, .ref 112), (5, .ref 111), (4, .ref 110), (3, .ref 109), (1, .ref 107)], none) (pc' := 45) (L' := [(0, .ref 106)]) h_m20 (z_at.mk 3 rfl rfl) rfl (by decide) rfl (Or.inl rfl) rfl rfl rfl ?_
  clear H m; intro m H
  refine w_rv h_m20 (z_at.mk 1 rfl rfl) rfl ?_
  show z_W 998 145 7 [(0, .ref 39), (1, .int (7 : Int32))] [] m _
  refine w_p h_m145 1 (pc' := 8) (L' := [(0, .ref 39), (1, .int (7 : Int32))]) (st' := [.ref 39]) rfl ?_
  refine w_gf H (pc' := 11) (L' := [(0, .ref 39), (1, .int (7 : Int32))]) h_m145 (z_at.mk 3 rfl rfl) rfl (u := .ref 106) rfl rfl rfl ?_
  refine w_gf H (pc' := 14) (L' := [(0, .ref 39), (1, .int (7 : Int32))]) h_m145 (z_at.mk 3 rfl rfl) rfl (u := .ref 107) rfl rfl rfl ?_
  refine w_p h_m145 1 (pc' := 15) (L' := [(0, .ref 39), (1, .int (7 : Int32))]) (st' := [.ref 39, .ref 107]) rfl ?_
  refine w_gf H (pc' := 18) (L' := [(0, .ref 39), (1, .int (7 : Int32))]) h_m145 (z_at.mk 3 rfl rfl) rfl (u := .ref 40) rfl rfl rfl ?_
  refine w_gf H (pc' := 21) (L' := [(0, .ref 39), (1, .int (7 : Int32))]) h_m145 (z_at.mk 3 rfl rfl) rfl (u := .ref 48) rfl rfl rfl ?_
  refine w_gf H (pc' := 24) (L' := [(0, .ref 39), (1, .int (7 : Int32))]) h_m145 (z_at.mk 3 rfl rfl) rfl (u := .ref 49) rfl rfl rfl ?_
  refine w_cv (H.t rfl) (pc' := 27) (L' := [(0, .ref 39), (1, .int (7 : Int32))]) (rest := []) (Ps := [.ref 49]) (L0 := [(0, .ref 107), (1, .ref 49)]) h_m145 (z_at.mk 3 rfl rfl) (Or.inl ⟨rfl, rfl⟩) rfl rfl (by decide) (by decide) rfl rfl rfl rfl rfl rfl (by decide) rfl rfl rfl ?_
  refine w_p h_m74 1 (pc' := 1) (L' := [(0, .ref 107), (1, .ref 49)]) (st' := [.ref 49]) rfl ?_
  refine w_gf H (pc' := 4) (L' := [(0, .ref 107), (1, .ref 49)]) h_m74 (z_at.mk 3 rfl rfl) rfl (u := .ref 50) rfl rfl rfl ?_
  refine w_p h_m74 2 (pc' := 6) (L' := [(0, .ref 107), (1, .ref 49)]) (st' := [.ref 107, .int (0 : Int32), .ref 50]) rfl ?_
  refine w_gf H (pc' := 9) (L' := [(0, .ref 107), (1, .ref 49)]) h_m74 (z_at.mk 3 rfl rfl) rfl (u := .ref 108) rfl rfl rfl ?_
  refine w_p h_m74 2 (pc' := 12) (L' := [(0, .ref 107), (1, .ref 49)]) (st' := [.int (7 : Int32), .int (0 : Int32), .ref 108, .int (0 : Int32), .ref 50]) rfl ?_
  refine w_cpf H (ra := (0, 7, [(6, .int (1024 : Int32)), (5, .int (1 : Int32)), (4, .int (1 : Int32)), (3, .int (0 : Int32)), (2, .int (12 : Int32)), (1, .int (40 : Int32)), (0, .int (10 : Int32))], some (.int (0 : Int32)))) (pc' := 15) (L' := [(0, .ref 107), (1, .ref 49)]) h_m74 (z_at.mk 3 rfl rfl) rfl (z_cat_le 0 rfl (by decide)) rfl rfl rfl rfl (by decide) rfl rfl ?_
  clear H m; intro m H
  refine w_rv h_m74 (z_at.mk 1 rfl rfl) rfl ?_
  show z_W 998 145 27 [(0, .ref 39), (1, .int (7 : Int32))] [] m _
  refine w_p h_m145 1 (pc' := 28) (L' := [(0, .ref 39), (1, .int (7 : Int32))]) (st' := [.ref 39]) rfl ?_
  refine w_gf H (pc' := 31) (L' := [(0, .ref 39), (1, .int (7 : Int32))]) h_m145 (z_at.mk 3 rfl rfl) rfl (u := .ref 106) rfl rfl rfl ?_
  refine w_gf H (pc' := 34) (L' := [(0, .ref 39), (1, .int (7 : Int32))]) h_m145 (z_at.mk 3 rfl rfl) rfl (u := .ref 107) rfl rfl rfl ?_
  refine w_p h_m145 2 (pc' := 36) (L' := [(0, .ref 39), (1, .int (7 : Int32))]) (st' := [.int (7 : Int32), .int (1 : Int32), .ref 107]) rfl ?_
  refine w_cv (H.t rfl) (pc' := 39) (L' := [(0, .ref 39), (1, .int (7 : Int32))]) (rest := []) (Ps := [.int (1 : Int32), .int (7 : Int32)]) (L0 := [(0, .ref 107), (1, .int (1 : Int32)), (2, .int (7 : Int32))]) h_m145 (z_at.mk 3 rfl rfl) (Or.inl ⟨rfl, rfl⟩) rfl rfl (by decide) (by decide) rfl rfl rfl rfl rfl rfl (by decide) rfl rfl rfl ?_
  refine w_p h_m73 6 (pc' := 11) (L' := [(0, .ref 107), (1, .int (1 : Int32)), (2, .int (7 : Int32))]) (st' := [.ref 107]) rfl ?_
  refine w_gf H (pc' := 14) (L' := [(0, .ref 107), (1, .int (1 : Int32)), (2, .int (7 : Int32))]) h_m73 (z_at.mk 3 rfl rfl) rfl (u := .ref 108) rfl rfl rfl ?_
  refine w_p h_m73 2 (pc' := 16) (L' := [(0, .ref 107), (1, .int (1 : Int32)), (2, .int (7 : Int32))]) (st' := [.int (7 : Int32), .int (1 : Int32), .ref 108]) rfl ?_
  refine w_as H (t := 0) (j := 1) (u := .int (7 : Int32)) (0, 7, [(1, .int (7 : Int32)), (6, .int (1024 : Int32)), (5, .int (1 : Int32)), (4, .int (1 : Int32)), (3, .int (0 : Int32)), (2, .int (12 : Int32)), (0, .int (10 : Int32))], some (.int (0 : Int32))) (pc' := 17) (L' := []) h_m73 (z_at.mk 1 rfl rfl) rfl rfl (w_ui _ _ (by decide)) rfl rfl rfl rfl ?_
  clear H m; intro m H
  refine w_rv h_m73 (z_at.mk 1 rfl rfl) rfl ?_
  show z_W 998 145 39 [(0, .ref 39), (1, .int (7 : Int32))] [] m _
  refine w_p h_m145 4 (pc' := 43) (L' := [(0, .ref 39), (2, .int (0 : Int32))]) (st' := [.ref 39, .int (0 : Int32)]) rfl ?_
  refine w_gf H (pc' := 46) (L' := [(0, .ref 39), (2, .int (0 : Int32))]) h_m145 (z_at.mk 3 rfl rfl) rfl (u := .ref 40) rfl rfl rfl ?_
  refine w_gf H (pc' := 49) (L' := [(0, .ref 39), (2, .int (0 : Int32))]) h_m145 (z_at.mk 3 rfl rfl) rfl (u := .ref 63) rfl rfl rfl ?_
  refine w_gf H (pc' := 52) (L' := [(0, .ref 39), (2, .int (0 : Int32))]) h_m145 (z_at.mk 3 rfl rfl) rfl (u := .int (0 : Int32)) rfl rfl rfl ?_
  refine w_p h_m145 1 (pc' := 79) (L' := [(0, .ref 39), (2, .int (0 : Int32))]) (st' := []) rfl ?_
  refine w_rv h_m145 (z_at.mk 1 rfl rfl) rfl ?_
  show z_W 999 146 13 [(0, .ref 39), (1, .int (xs 1)), (2, .int (7 : Int32))] [] m _
  refine w_p h_m146 1 (pc' := 14) (L' := [(0, .ref 39), (1, .int (xs 1)), (2, .int (7 : Int32))]) (st' := [.ref 39]) rfl ?_
  refine w_gf H (pc' := 17) (L' := [(0, .ref 39), (1, .int (xs 1)), (2, .int (7 : Int32))]) h_m146 (z_at.mk 3 rfl rfl) rfl (u := .ref 106) rfl rfl rfl ?_
  refine w_gf H (pc' := 20) (L' := [(0, .ref 39), (1, .int (xs 1)), (2, .int (7 : Int32))]) h_m146 (z_at.mk 3 rfl rfl) rfl (u := .int (0 : Int32)) rfl rfl rfl ?_
  refine w_p h_m146 1 (pc' := 21) (L' := [(0, .ref 39), (1, .int (xs 1)), (2, .int (7 : Int32))]) (st' := [.int (xs 1), .int (0 : Int32)]) rfl ?_
  refine w_t2 (pc' := 26) (L' := [(0, .ref 39), (1, .int (xs 1)), (2, .int (7 : Int32))]) h_m146 (z_at.mk 3 rfl rfl) rfl (zc (a := 0) (b := (xs 1).toInt) rfl rfl (decide_eq_true (by omega))) rfl rfl ?_
  refine w_p h_m146 2 (pc' := 2) (L' := [(0, .ref 39), (1, .int (xs 1)), (2, .int (8 : Int32))]) (st' := []) rfl ?_
  exact hQ m (H.subC (by decide +kernel))
set_option maxHeartbeats 400000000 in
set_option maxRecDepth 20000 in
theorem w_turn_146_8 {xs : Nat → Int32} {m : zM} {Q : Option Value → zM → Prop} (hp : (xs 1).toInt < 0) (H : w_ok 6 xs 168 63950 ((106, (12, 18, [(15, .int (0 : Int32)), (14, .int (0 : Int32)), (13, .int (0 : Int32)), (12, .int (0 : Int32)), (11, .int (0 : Int32)), (10, .int (0 : Int32)), (9, .long (0 : Int64)), (8, .int (0 : Int32)), (2, .int (0 : Int32)), (0, .ref 41), (17, .ref 116), (16, .ref 114), (7, .ref 113), (6, .ref 112), (5, .ref 111), (4, .ref 110), (3, .ref 109), (1, .ref 107)], none)) :: (108, (0, 7, [(1, .int (7 : Int32)), (6, .int (1024 : Int32)), (5, .int (1 : Int32)), (4, .int (1 : Int32)), (3, .int (0 : Int32)), (2, .int (12 : Int32)), (0, .int (10 : Int32))], some (.int (0 : Int32)))) :: w_T0) m) (hQ : ∀ m, w_ok 6 xs 168 63950 ((106, (12, 18, [(15, .int (0 : Int32)), (14, .int (0 : Int32)), (13, .int (0 : Int32)), (12, .int (0 : Int32)), (11, .int (0 : Int32)), (10, .int (0 : Int32)), (9, .long (0 : Int64)), (8, .int (0 : Int32)), (2, .int (0 : Int32)), (0, .ref 41), (17, .ref 116), (16, .ref 114), (7, .ref 113), (6, .ref 112), (5, .ref 111), (4, .ref 110), (3, .ref 109), (1, .ref 107)], none)) :: (108, (0, 7, [(1, .int (8 : Int32)), (6, .int (1024 : Int32)), (5, .int (1 : Int32)), (4, .int (1 : Int32)), (3, .int (0 : Int32)), (2, .int (12 : Int32)), (0, .int (10 : Int32))], some (.int (0 : Int32)))) :: w_T0) m → z_W 999 146 2 [(0, .ref 39), (1, .int (xs 1)), (2, .int (9 : Int32))] [] m Q) : z_W 999 146 2 [(0, .ref 39), (1, .int (xs 1)), (2, .int (8 : Int32))] [] m Q := by
  refine w_p h_m146 5 (pc' := 10) (L' := [(0, .ref 39), (1, .int (xs 1)), (2, .int (8 : Int32))]) (st' := [.int (8 : Int32), .ref 39]) rfl ?_
  refine w_cv (H.t rfl) (pc' := 13) (L' := [(0, .ref 39), (1, .int (xs 1)), (2, .int (8 : Int32))]) (rest := []) (Ps := [.int (8 : Int32)]) (L0 := [(0, .ref 39), (1, .int (8 : Int32))]) h_m146 (z_at.mk 3 rfl rfl) (Or.inl ⟨rfl, rfl⟩) rfl rfl (by decide) (by decide) rfl rfl rfl rfl rfl rfl (by decide) rfl rfl rfl ?_
  refine w_p h_m145 1 (pc' := 1) (L' := [(0, .ref 39), (1, .int (8 : Int32))]) (st' := [.ref 39]) rfl ?_
  refine w_gf H (pc' := 4) (L' := [(0, .ref 39), (1, .int (8 : Int32))]) h_m145 (z_at.mk 3 rfl rfl) rfl (u := .ref 106) rfl rfl rfl ?_
  refine w_cv (H.t rfl) (pc' := 7) (L' := [(0, .ref 39), (1, .int (8 : Int32))]) (rest := []) (Ps := []) (L0 := [(0, .ref 106)]) h_m145 (z_at.mk 3 rfl rfl) (Or.inl ⟨rfl, rfl⟩) rfl rfl (by decide) (by decide) rfl rfl rfl rfl rfl rfl (by decide) rfl rfl rfl ?_
  refine w_p h_m20 2 (pc' := 2) (L' := [(0, .ref 106)]) (st' := [.int (0 : Int32), .ref 106]) rfl ?_
  refine w_pf H (12, 18, [(2, .int (0 : Int32)), (15, .int (0 : Int32)), (14, .int (0 : Int32)), (13, .int (0 : Int32)), (12, .int (0 : Int32)), (11, .int (0 : Int32)), (10, .int (0 : Int32)), (9, .long (0 : Int64)), (8, .int (0 : Int32)), (0, .ref 41), (17, .ref 116), (16, .ref 114), (7, .ref 113), (6, .ref 112), (5, .ref 111), (4, .ref 110), (3, .ref 109), (1, .ref 107)], none) (pc' := 5) (L' := [(0, .ref 106)]) h_m20 (z_at.mk 3 rfl rfl) rfl (by decide) rfl (Or.inl rfl) rfl rfl rfl ?_
  clear H m; intro m H
  refine w_p h_m20 2 (pc' := 7) (L' := [(0, .ref 106)]) (st' := [.int (0 : Int32), .ref 106]) rfl ?_
  refine w_pf H (12, 18, [(8, .int (0 : Int32)), (2, .int (0 : Int32)), (15, .int (0 : Int32)), (14, .int (0 : Int32)), (13, .int (0 : Int32)), (12, .int (0 : Int32)), (11, .int (0 : Int32)), (10, .int (0 : Int32)), (9, .long (0 : Int64)), (0, .ref 41), (17, .ref 116), (16, .ref 114), (7, .ref 113), (6, .ref 112), (5, .ref 111), (4, .ref 110), (3, .ref 109), (1, .ref 107)], none) (pc' := 10) (L' := [(0, .ref 106)]) h_m20 (z_at.mk 3 rfl rfl) rfl (by decide) rfl (Or.inl rfl) rfl rfl rfl ?_
  clear H m; intro m H
  refine w_p h_m20 2 (pc' := 12) (L' := [(0, .ref 106)]) (st' := [.long (0 : Int64), .ref 106]) rfl ?_
  refine w_pf H (12, 18, [(9, .long (0 : Int64)), (8, .int (0 : Int32)), (2, .int (0 : Int32)), (15, .int (0 : Int32)), (14, .int (0 : Int32)), (13, .int (0 : Int32)), (12, .int (0 : Int32)), (11, .int (0 : Int32)), (10, .int (0 : Int32)), (0, .ref 41), (17, .ref 116), (16, .ref 114), (7, .ref 113), (6, .ref 112), (5, .ref 111), (4, .ref 110), (3, .ref 109), (1, .ref 107)], none) (pc' := 15) (L' := [(0, .ref 106)]) h_m20 (z_at.mk 3 rfl rfl) rfl (by decide) rfl (Or.inl rfl) rfl rfl rfl ?_
  clear H m; intro m H
  refine w_p h_m20 2 (pc' := 17) (L' := [(0, .ref 106)]) (st' := [.int (0 : Int32), .ref 106]) rfl ?_
  refine w_pf H (12, 18, [(10, .int (0 : Int32)), (9, .long (0 : Int64)), (8, .int (0 : Int32)), (2, .int (0 : Int32)), (15, .int (0 : Int32)), (14, .int (0 : Int32)), (13, .int (0 : Int32)), (12, .int (0 : Int32)), (11, .int (0 : Int32)), (0, .ref 41), (17, .ref 116), (16, .ref 114), (7, .ref 113), (6, .ref 112), (5, .ref 111), (4, .ref 110), (3, .ref 109), (1, .ref 107)], none) (pc' := 20) (L' := [(0, .ref 106)]) h_m20 (z_at.mk 3 rfl rfl) rfl (by decide) rfl (Or.inl rfl) rfl rfl rfl ?_
  clear H m; intro m H
  refine w_p h_m20 2 (pc' := 22) (L' := [(0, .ref 106)]) (st' := [.int (0 : Int32), .ref 106]) rfl ?_
  refine w_pf H (12, 18, [(11, .int (0 : Int32)), (10, .int (0 : Int32)), (9, .long (0 : Int64)), (8, .int (0 : Int32)), (2, .int (0 : Int32)), (15, .int (0 : Int32)), (14, .int (0 : Int32)), (13, .int (0 : Int32)), (12, .int (0 : Int32)), (0, .ref 41), (17, .ref 116), (16, .ref 114), (7, .ref 113), (6, .ref 112), (5, .ref 111), (4, .ref 110), (3, .ref 109), (1, .ref 107)], none) (pc' := 25) (L' := [(0, .ref 106)]) h_m20 (z_at.mk 3 rfl rfl) rfl (by decide) rfl (Or.inl rfl) rfl rfl rfl ?_
  clear H m; intro m H
  refine w_p h_m20 2 (pc' := 27) (L' := [(0, .ref 106)]) (st' := [.int (0 : Int32), .ref 106]) rfl ?_
  refine w_pf H (12, 18, [(12, .int (0 : Int32)), (11, .int (0 : Int32)), (10, .int (0 : Int32)), (9, .long (0 : Int64)), (8, .int (0 : Int32)), (2, .int (0 : Int32)), (15, .int (0 : Int32)), (14, .int (0 : Int32)), (13, .int (0 : Int32)), (0, .ref 41), (17, .ref 116), (16, .ref 114), (7, .ref 113), (6, .ref 112), (5, .ref 111), (4, .ref 110), (3, .ref 109), (1, .ref 107)], none) (pc' := 30) (L' := [(0, .ref 106)]) h_m20 (z_at.mk 3 rfl rfl) rfl (by decide) rfl (Or.inl rfl) rfl rfl rfl ?_
  clear H m; intro m H
  refine w_p h_m20 2 (pc' := 32) (L' := [(0, .ref 106)]) (st' := [.int (0 : Int32), .ref 106]) rfl ?_
  refine w_pf H (12, 18, [(13, .int (0 : Int32)), (12, .int (0 : Int32)), (11, .int (0 : Int32)), (10, .int (0 : Int32)), (9, .long (0 : Int64)), (8, .int (0 : Int32)), (2, .int (0 : Int32)), (15, .int (0 : Int32)), (14, .int (0 : Int32)), (0, .ref 41), (17, .ref 116), (16, .ref 114), (7, .ref 113), (6, .ref 112), (5, .ref 111), (4, .ref 110), (3, .ref 109), (1, .ref 107)], none) (pc' := 35) (L' := [(0, .ref 106)]) h_m20 (z_at.mk 3 rfl rfl) rfl (by decide) rfl (Or.inl rfl) rfl rfl rfl ?_
  clear H m; intro m H
  refine w_p h_m20 2 (pc' := 37) (L' := [(0, .ref 106)]) (st' := [.int (0 : Int32), .ref 106]) rfl ?_
  refine w_pf H (12, 18, [(14, .int (0 : Int32)), (13, .int (0 : Int32)), (12, .int (0 : Int32)), (11, .int (0 : Int32)), (10, .int (0 : Int32)), (9, .long (0 : Int64)), (8, .int (0 : Int32)), (2, .int (0 : Int32)), (15, .int (0 : Int32)), (0, .ref 41), (17, .ref 116), (16, .ref 114), (7, .ref 113), (6, .ref 112), (5, .ref 111), (4, .ref 110), (3, .ref 109), (1, .ref 107)], none) (pc' := 40) (L' := [(0, .ref 106)]) h_m20 (z_at.mk 3 rfl rfl) rfl (by decide) rfl (Or.inl rfl) rfl rfl rfl ?_
  clear H m; intro m H
  refine w_p h_m20 2 (pc' := 42) (L' := [(0, .ref 106)]) (st' := [.int (0 : Int32), .ref 106]) rfl ?_
  refine w_pf H (12, 18, [(15, .int (0 : Int32)), (14, .int (0 : Int32)), (13, .int (0 : Int32)), (12, .int (0 : Int32)), (11, .int (0 : Int32)), (10, .int (0 : Int32)), (9, .long (0 : Int64)), (8, .int (0 : Int32)), (2, .int (0 : Int32)), (0, .ref 41), (17, .ref 116), (16, .ref 114), (7, .ref 113), (6, .ref 112), (5, .ref 111), (4, .ref 110), (3, .ref 109), (1, .ref 107)], none) (pc' := 45) (L' := [(0, .ref 106)]) h_m20 (z_at.mk 3 rfl rfl) rfl (by decide) rfl (Or.inl rfl) rfl rfl rfl ?_
  clear H m; intro m H
  refine w_rv h_m20 (z_at.mk 1 rfl rfl) rfl ?_
  show z_W 998 145 7 [(0, .ref 39), (1, .int (8 : Int32))] [] m _
  refine w_p h_m145 1 (pc' := 8) (L' := [(0, .ref 39), (1, .int (8 : Int32))]) (st' := [.ref 39]) rfl ?_
  refine w_gf H (pc' := 11) (L' := [(0, .ref 39), (1, .int (8 : Int32))]) h_m145 (z_at.mk 3 rfl rfl) rfl (u := .ref 106) rfl rfl rfl ?_
  refine w_gf H (pc' := 14) (L' := [(0, .ref 39), (1, .int (8 : Int32))]) h_m145 (z_at.mk 3 rfl rfl) rfl (u := .ref 107) rfl rfl rfl ?_
  refine w_p h_m145 1 (pc' := 15) (L' := [(0, .ref 39), (1, .int (8 : Int32))]) (st' := [.ref 39, .ref 107]) rfl ?_
  refine w_gf H (pc' := 18) (L' := [(0, .ref 39), (1, .int (8 : Int32))]) h_m145 (z_at.mk 3 rfl rfl) rfl (u := .ref 40) rfl rfl rfl ?_
  refine w_gf H (pc' := 21) (L' := [(0, .ref 39), (1, .int (8 : Int32))]) h_m145 (z_at.mk 3 rfl rfl) rfl (u := .ref 48) rfl rfl rfl ?_
  refine w_gf H (pc' := 24) (L' := [(0, .ref 39), (1, .int (8 : Int32))]) h_m145 (z_at.mk 3 rfl rfl) rfl (u := .ref 49) rfl rfl rfl ?_
  refine w_cv (H.t rfl) (pc' := 27) (L' := [(0, .ref 39), (1, .int (8 : Int32))]) (rest := []) (Ps := [.ref 49]) (L0 := [(0, .ref 107), (1, .ref 49)]) h_m145 (z_at.mk 3 rfl rfl) (Or.inl ⟨rfl, rfl⟩) rfl rfl (by decide) (by decide) rfl rfl rfl rfl rfl rfl (by decide) rfl rfl rfl ?_
  refine w_p h_m74 1 (pc' := 1) (L' := [(0, .ref 107), (1, .ref 49)]) (st' := [.ref 49]) rfl ?_
  refine w_gf H (pc' := 4) (L' := [(0, .ref 107), (1, .ref 49)]) h_m74 (z_at.mk 3 rfl rfl) rfl (u := .ref 50) rfl rfl rfl ?_
  refine w_p h_m74 2 (pc' := 6) (L' := [(0, .ref 107), (1, .ref 49)]) (st' := [.ref 107, .int (0 : Int32), .ref 50]) rfl ?_
  refine w_gf H (pc' := 9) (L' := [(0, .ref 107), (1, .ref 49)]) h_m74 (z_at.mk 3 rfl rfl) rfl (u := .ref 108) rfl rfl rfl ?_
  refine w_p h_m74 2 (pc' := 12) (L' := [(0, .ref 107), (1, .ref 49)]) (st' := [.int (7 : Int32), .int (0 : Int32), .ref 108, .int (0 : Int32), .ref 50]) rfl ?_
  refine w_cpf H (ra := (0, 7, [(6, .int (1024 : Int32)), (5, .int (1 : Int32)), (4, .int (1 : Int32)), (3, .int (0 : Int32)), (2, .int (12 : Int32)), (1, .int (40 : Int32)), (0, .int (10 : Int32))], some (.int (0 : Int32)))) (pc' := 15) (L' := [(0, .ref 107), (1, .ref 49)]) h_m74 (z_at.mk 3 rfl rfl) rfl (z_cat_le 0 rfl (by decide)) rfl rfl rfl rfl (by decide) rfl rfl ?_
  clear H m; intro m H
  refine w_rv h_m74 (z_at.mk 1 rfl rfl) rfl ?_
  show z_W 998 145 27 [(0, .ref 39), (1, .int (8 : Int32))] [] m _
  refine w_p h_m145 1 (pc' := 28) (L' := [(0, .ref 39), (1, .int (8 : Int32))]) (st' := [.ref 39]) rfl ?_
  refine w_gf H (pc' := 31) (L' := [(0, .ref 39), (1, .int (8 : Int32))]) h_m145 (z_at.mk 3 rfl rfl) rfl (u := .ref 106) rfl rfl rfl ?_
  refine w_gf H (pc' := 34) (L' := [(0, .ref 39), (1, .int (8 : Int32))]) h_m145 (z_at.mk 3 rfl rfl) rfl (u := .ref 107) rfl rfl rfl ?_
  refine w_p h_m145 2 (pc' := 36) (L' := [(0, .ref 39), (1, .int (8 : Int32))]) (st' := [.int (8 : Int32), .int (1 : Int32), .ref 107]) rfl ?_
  refine w_cv (H.t rfl) (pc' := 39) (L' := [(0, .ref 39), (1, .int (8 : Int32))]) (rest := []) (Ps := [.int (1 : Int32), .int (8 : Int32)]) (L0 := [(0, .ref 107), (1, .int (1 : Int32)), (2, .int (8 : Int32))]) h_m145 (z_at.mk 3 rfl rfl) (Or.inl ⟨rfl, rfl⟩) rfl rfl (by decide) (by decide) rfl rfl rfl rfl rfl rfl (by decide) rfl rfl rfl ?_
  refine w_p h_m73 6 (pc' := 11) (L' := [(0, .ref 107), (1, .int (1 : Int32)), (2, .int (8 : Int32))]) (st' := [.ref 107]) rfl ?_
  refine w_gf H (pc' := 14) (L' := [(0, .ref 107), (1, .int (1 : Int32)), (2, .int (8 : Int32))]) h_m73 (z_at.mk 3 rfl rfl) rfl (u := .ref 108) rfl rfl rfl ?_
  refine w_p h_m73 2 (pc' := 16) (L' := [(0, .ref 107), (1, .int (1 : Int32)), (2, .int (8 : Int32))]) (st' := [.int (8 : Int32), .int (1 : Int32), .ref 108]) rfl ?_
  refine w_as H (t := 0) (j := 1) (u := .int (8 : Int32)) (0, 7, [(1, .int (8 : Int32)), (6, .int (1024 : Int32)), (5, .int (1 : Int32)), (4, .int (1 : Int32)), (3, .int (0 : Int32)), (2, .int (12 : Int32)), (0, .int (10 : Int32))], some (.int (0 : Int32))) (pc' := 17) (L' := []) h_m73 (z_at.mk 1 rfl rfl) rfl rfl (w_ui _ _ (by decide)) rfl rfl rfl rfl ?_
  clear H m; intro m H
  refine w_rv h_m73 (z_at.mk 1 rfl rfl) rfl ?_
  show z_W 998 145 39 [(0, .ref 39), (1, .int (8 : Int32))] [] m _
  refine w_p h_m145 4 (pc' := 43) (L' := [(0, .ref 39), (2, .int (0 : Int32))]) (st' := [.ref 39, .int (0 : Int32)]) rfl ?_
  refine w_gf H (pc' := 46) (L' := [(0, .ref 39), (2, .int (0 : Int32))]) h_m145 (z_at.mk 3 rfl rfl) rfl (u := .ref 40) rfl rfl rfl ?_
  refine w_gf H (pc' := 49) (L' := [(0, .ref 39), (2, .int (0 : Int32))]) h_m145 (z_at.mk 3 rfl rfl) rfl (u := .ref 63) rfl rfl rfl ?_
  refine w_gf H (pc' := 52) (L' := [(0, .ref 39), (2, .int (0 : Int32))]) h_m145 (z_at.mk 3 rfl rfl) rfl (u := .int (0 : Int32)) rfl rfl rfl ?_
  refine w_p h_m145 1 (pc' := 79) (L' := [(0, .ref 39), (2, .int (0 : Int32))]) (st' := []) rfl ?_
  refine w_rv h_m145 (z_at.mk 1 rfl rfl) rfl ?_
  show z_W 999 146 13 [(0, .ref 39), (1, .int (xs 1)), (2, .int (8 : Int32))] [] m _
  refine w_p h_m146 1 (pc' := 14) (L' := [(0, .ref 39), (1, .int (xs 1)), (2, .int (8 : Int32))]) (st' := [.ref 39]) rfl ?_
  refine w_gf H (pc' := 17) (L' := [(0, .ref 39), (1, .int (xs 1)), (2, .int (8 : Int32))]) h_m146 (z_at.mk 3 rfl rfl) rfl (u := .ref 106) rfl rfl rfl ?_
  refine w_gf H (pc' := 20) (L' := [(0, .ref 39), (1, .int (xs 1)), (2, .int (8 : Int32))]) h_m146 (z_at.mk 3 rfl rfl) rfl (u := .int (0 : Int32)) rfl rfl rfl ?_
  refine w_p h_m146 1 (pc' := 21) (L' := [(0, .ref 39), (1, .int (xs 1)), (2, .int (8 : Int32))]) (st' := [.int (xs 1), .int (0 : Int32)]) rfl ?_
  refine w_t2 (pc' := 26) (L' := [(0, .ref 39), (1, .int (xs 1)), (2, .int (8 : Int32))]) h_m146 (z_at.mk 3 rfl rfl) rfl (zc (a := 0) (b := (xs 1).toInt) rfl rfl (decide_eq_true (by omega))) rfl rfl ?_
  refine w_p h_m146 2 (pc' := 2) (L' := [(0, .ref 39), (1, .int (xs 1)), (2, .int (9 : Int32))]) (st' := []) rfl ?_
  exact hQ m (H.subC (by decide +kernel))
set_option maxHeartbeats 400000000 in
set_option maxRecDepth 20000 in
theorem w_turn_146_9 {xs : Nat → Int32} {m : zM} {Q : Option Value → zM → Prop} (hp : (xs 1).toInt < 0) (H : w_ok 6 xs 168 63950 ((106, (12, 18, [(15, .int (0 : Int32)), (14, .int (0 : Int32)), (13, .int (0 : Int32)), (12, .int (0 : Int32)), (11, .int (0 : Int32)), (10, .int (0 : Int32)), (9, .long (0 : Int64)), (8, .int (0 : Int32)), (2, .int (0 : Int32)), (0, .ref 41), (17, .ref 116), (16, .ref 114), (7, .ref 113), (6, .ref 112), (5, .ref 111), (4, .ref 110), (3, .ref 109), (1, .ref 107)], none)) :: (108, (0, 7, [(1, .int (8 : Int32)), (6, .int (1024 : Int32)), (5, .int (1 : Int32)), (4, .int (1 : Int32)), (3, .int (0 : Int32)), (2, .int (12 : Int32)), (0, .int (10 : Int32))], some (.int (0 : Int32)))) :: w_T0) m) (hQ : ∀ m, w_ok 6 xs 168 63950 ((106, (12, 18, [(15, .int (0 : Int32)), (14, .int (0 : Int32)), (13, .int (0 : Int32)), (12, .int (0 : Int32)), (11, .int (0 : Int32)), (10, .int (0 : Int32)), (9, .long (0 : Int64)), (8, .int (0 : Int32)), (2, .int (0 : Int32)), (0, .ref 41), (17, .ref 116), (16, .ref 114), (7, .ref 113), (6, .ref 112), (5, .ref 111), (4, .ref 110), (3, .ref 109), (1, .ref 107)], none)) :: (108, (0, 7, [(1, .int (9 : Int32)), (6, .int (1024 : Int32)), (5, .int (1 : Int32)), (4, .int (1 : Int32)), (3, .int (0 : Int32)), (2, .int (12 : Int32)), (0, .int (10 : Int32))], some (.int (0 : Int32)))) :: w_T0) m → z_W 999 146 2 [(0, .ref 39), (1, .int (xs 1)), (2, .int (10 : Int32))] [] m Q) : z_W 999 146 2 [(0, .ref 39), (1, .int (xs 1)), (2, .int (9 : Int32))] [] m Q := by
  refine w_p h_m146 5 (pc' := 10) (L' := [(0, .ref 39), (1, .int (xs 1)), (2, .int (9 : Int32))]) (st' := [.int (9 : Int32), .ref 39]) rfl ?_
  refine w_cv (H.t rfl) (pc' := 13) (L' := [(0, .ref 39), (1, .int (xs 1)), (2, .int (9 : Int32))]) (rest := []) (Ps := [.int (9 : Int32)]) (L0 := [(0, .ref 39), (1, .int (9 : Int32))]) h_m146 (z_at.mk 3 rfl rfl) (Or.inl ⟨rfl, rfl⟩) rfl rfl (by decide) (by decide) rfl rfl rfl rfl rfl rfl (by decide) rfl rfl rfl ?_
  refine w_p h_m145 1 (pc' := 1) (L' := [(0, .ref 39), (1, .int (9 : Int32))]) (st' := [.ref 39]) rfl ?_
  refine w_gf H (pc' := 4) (L' := [(0, .ref 39), (1, .int (9 : Int32))]) h_m145 (z_at.mk 3 rfl rfl) rfl (u := .ref 106) rfl rfl rfl ?_
  refine w_cv (H.t rfl) (pc' := 7) (L' := [(0, .ref 39), (1, .int (9 : Int32))]) (rest := []) (Ps := []) (L0 := [(0, .ref 106)]) h_m145 (z_at.mk 3 rfl rfl) (Or.inl ⟨rfl, rfl⟩) rfl rfl (by decide) (by decide) rfl rfl rfl rfl rfl rfl (by decide) rfl rfl rfl ?_
  refine w_p h_m20 2 (pc' := 2) (L' := [(0, .ref 106)]) (st' := [.int (0 : Int32), .ref 106]) rfl ?_
  refine w_pf H (12, 18, [(2, .int (0 : Int32)), (15, .int (0 : Int32)), (14, .int (0 : Int32)), (13, .int (0 : Int32)), (12, .int (0 : Int32)), (11, .int (0 : Int32)), (10, .int (0 : Int32)), (9, .long (0 : Int64)), (8, .int (0 : Int32)), (0, .ref 41), (17, .ref 116), (16, .ref 114), (7, .ref 113), (6, .ref 112), (5, .ref 111), (4, .ref 110), (3, .ref 109), (1, .ref 107)], none) (pc' := 5) (L' := [(0, .ref 106)]) h_m20 (z_at.mk 3 rfl rfl) rfl (by decide) rfl (Or.inl rfl) rfl rfl rfl ?_
  clear H m; intro m H
  refine w_p h_m20 2 (pc' := 7) (L' := [(0, .ref 106)]) (st' := [.int (0 : Int32), .ref 106]) rfl ?_
  refine w_pf H (12, 18, [(8, .int (0 : Int32)), (2, .int (0 : Int32)), (15, .int (0 : Int32)), (14, .int (0 : Int32)), (13, .int (0 : Int32)), (12, .int (0 : Int32)), (11, .int (0 : Int32)), (10, .int (0 : Int32)), (9, .long (0 : Int64)), (0, .ref 41), (17, .ref 116), (16, .ref 114), (7, .ref 113), (6, .ref 112), (5, .ref 111), (4, .ref 110), (3, .ref 109), (1, .ref 107)], none) (pc' := 10) (L' := [(0, .ref 106)]) h_m20 (z_at.mk 3 rfl rfl) rfl (by decide) rfl (Or.inl rfl) rfl rfl rfl ?_
  clear H m; intro m H
  refine w_p h_m20 2 (pc' := 12) (L' := [(0, .ref 106)]) (st' := [.long (0 : Int64), .ref 106]) rfl ?_
  refine w_pf H (12, 18, [(9, .long (0 : Int64)), (8, .int (0 : Int32)), (2, .int (0 : Int32)), (15, .int (0 : Int32)), (14, .int (0 : Int32)), (13, .int (0 : Int32)), (12, .int (0 : Int32)), (11, .int (0 : Int32)), (10, .int (0 : Int32)), (0, .ref 41), (17, .ref 116), (16, .ref 114), (7, .ref 113), (6, .ref 112), (5, .ref 111), (4, .ref 110), (3, .ref 109), (1, .ref 107)], none) (pc' := 15) (L' := [(0, .ref 106)]) h_m20 (z_at.mk 3 rfl rfl) rfl (by decide) rfl (Or.inl rfl) rfl rfl rfl ?_
  clear H m; intro m H
  refine w_p h_m20 2 (pc' := 17) (L' := [(0, .ref 106)]) (st' := [.int (0 : Int32), .ref 106]) rfl ?_
  refine w_pf H (12, 18, [(10, .int (0 : Int32)), (9, .long (0 : Int64)), (8, .int (0 : Int32)), (2, .int (0 : Int32)), (15, .int (0 : Int32)), (14, .int (0 : Int32)), (13, .int (0 : Int32)), (12, .int (0 : Int32)), (11, .int (0 : Int32)), (0, .ref 41), (17, .ref 116), (16, .ref 114), (7, .ref 113), (6, .ref 112), (5, .ref 111), (4, .ref 110), (3, .ref 109), (1, .ref 107)], none) (pc' := 20) (L' := [(0, .ref 106)]) h_m20 (z_at.mk 3 rfl rfl) rfl (by decide) rfl (Or.inl rfl) rfl rfl rfl ?_
  clear H m; intro m H
  refine w_p h_m20 2 (pc' := 22) (L' := [(0, .ref 106)]) (st' := [.int (0 : Int32), .ref 106]) rfl ?_
  refine w_pf H (12, 18, [(11, .int (0 : Int32)), (10, .int (0 : Int32)), (9, .long (0 : Int64)), (8, .int (0 : Int32)), (2, .int (0 : Int32)), (15, .int (0 : Int32)), (14, .int (0 : Int32)), (13, .int (0 : Int32)), (12, .int (0 : Int32)), (0, .ref 41), (17, .ref 116), (16, .ref 114), (7, .ref 113), (6, .ref 112), (5, .ref 111), (4, .ref 110), (3, .ref 109), (1, .ref 107)], none) (pc' := 25) (L' := [(0, .ref 106)]) h_m20 (z_at.mk 3 rfl rfl) rfl (by decide) rfl (Or.inl rfl) rfl rfl rfl ?_
  clear H m; intro m H
  refine w_p h_m20 2 (pc' := 27) (L' := [(0, .ref 106)]) (st' := [.int (0 : Int32), .ref 106]) rfl ?_
  refine w_pf H (12, 18, [(12, .int (0 : Int32)), (11, .int (0 : Int32)), (10, .int (0 : Int32)), (9, .long (0 : Int64)), (8, .int (0 : Int32)), (2, .int (0 : Int32)), (15, .int (0 : Int32)), (14, .int (0 : Int32)), (13, .int (0 : Int32)), (0, .ref 41), (17, .ref 116), (16, .ref 114), (7, .ref 113), (6, .ref 112), (5, .ref 111), (4, .ref 110), (3, .ref 109), (1, .ref 107)], none) (pc' := 30) (L' := [(0, .ref 106)]) h_m20 (z_at.mk 3 rfl rfl) rfl (by decide) rfl (Or.inl rfl) rfl rfl rfl ?_
  clear H m; intro m H
  refine w_p h_m20 2 (pc' := 32) (L' := [(0, .ref 106)]) (st' := [.int (0 : Int32), .ref 106]) rfl ?_
  refine w_pf H (12, 18, [(13, .int (0 : Int32)), (12, .int (0 : Int32)), (11, .int (0 : Int32)), (10, .int (0 : Int32)), (9, .long (0 : Int64)), (8, .int (0 : Int32)), (2, .int (0 : Int32)), (15, .int (0 : Int32)), (14, .int (0 : Int32)), (0, .ref 41), (17, .ref 116), (16, .ref 114), (7, .ref 113), (6, .ref 112), (5, .ref 111), (4, .ref 110), (3, .ref 109), (1, .ref 107)], none) (pc' := 35) (L' := [(0, .ref 106)]) h_m20 (z_at.mk 3 rfl rfl) rfl (by decide) rfl (Or.inl rfl) rfl rfl rfl ?_
  clear H m; intro m H
  refine w_p h_m20 2 (pc' := 37) (L' := [(0, .ref 106)]) (st' := [.int (0 : Int32), .ref 106]) rfl ?_
  refine w_pf H (12, 18, [(14, .int (0 : Int32)), (13, .int (0 : Int32)), (12, .int (0 : Int32)), (11, .int (0 : Int32)), (10, .int (0 : Int32)), (9, .long (0 : Int64)), (8, .int (0 : Int32)), (2, .int (0 : Int32)), (15, .int (0 : Int32)), (0, .ref 41), (17, .ref 116), (16, .ref 114), (7, .ref 113), (6, .ref 112), (5, .ref 111), (4, .ref 110), (3, .ref 109), (1, .ref 107)], none) (pc' := 40) (L' := [(0, .ref 106)]) h_m20 (z_at.mk 3 rfl rfl) rfl (by decide) rfl (Or.inl rfl) rfl rfl rfl ?_
  clear H m; intro m H
  refine w_p h_m20 2 (pc' := 42) (L' := [(0, .ref 106)]) (st' := [.int (0 : Int32), .ref 106]) rfl ?_
  refine w_pf H (12, 18, [(15, .int (0 : Int32)), (14, .int (0 : Int32)), (13, .int (0 : Int32)), (12, .int (0 : Int32)), (11, .int (0 : Int32)), (10, .int (0 : Int32)), (9, .long (0 : Int64)), (8, .int (0 : Int32)), (2, .int (0 : Int32)), (0, .ref 41), (17, .ref 116), (16, .ref 114), (7, .ref 113), (6, .ref 112), (5, .ref 111), (4, .ref 110), (3, .ref 109), (1, .ref 107)], none) (pc' := 45) (L' := [(0, .ref 106)]) h_m20 (z_at.mk 3 rfl rfl) rfl (by decide) rfl (Or.inl rfl) rfl rfl rfl ?_
  clear H m; intro m H
  refine w_rv h_m20 (z_at.mk 1 rfl rfl) rfl ?_
  show z_W 998 145 7 [(0, .ref 39), (1, .int (9 : Int32))] [] m _
  refine w_p h_m145 1 (pc' := 8) (L' := [(0, .ref 39), (1, .int (9 : Int32))]) (st' := [.ref 39]) rfl ?_
  refine w_gf H (pc' := 11) (L' := [(0, .ref 39), (1, .int (9 : Int32))]) h_m145 (z_at.mk 3 rfl rfl) rfl (u := .ref 106) rfl rfl rfl ?_
  refine w_gf H (pc' := 14) (L' := [(0, .ref 39), (1, .int (9 : Int32))]) h_m145 (z_at.mk 3 rfl rfl) rfl (u := .ref 107) rfl rfl rfl ?_
  refine w_p h_m145 1 (pc' := 15) (L' := [(0, .ref 39), (1, .int (9 : Int32))]) (st' := [.ref 39, .ref 107]) rfl ?_
  refine w_gf H (pc' := 18) (L' := [(0, .ref 39), (1, .int (9 : Int32))]) h_m145 (z_at.mk 3 rfl rfl) rfl (u := .ref 40) rfl rfl rfl ?_
  refine w_gf H (pc' := 21) (L' := [(0, .ref 39), (1, .int (9 : Int32))]) h_m145 (z_at.mk 3 rfl rfl) rfl (u := .ref 48) rfl rfl rfl ?_
  refine w_gf H (pc' := 24) (L' := [(0, .ref 39), (1, .int (9 : Int32))]) h_m145 (z_at.mk 3 rfl rfl) rfl (u := .ref 49) rfl rfl rfl ?_
  refine w_cv (H.t rfl) (pc' := 27) (L' := [(0, .ref 39), (1, .int (9 : Int32))]) (rest := []) (Ps := [.ref 49]) (L0 := [(0, .ref 107), (1, .ref 49)]) h_m145 (z_at.mk 3 rfl rfl) (Or.inl ⟨rfl, rfl⟩) rfl rfl (by decide) (by decide) rfl rfl rfl rfl rfl rfl (by decide) rfl rfl rfl ?_
  refine w_p h_m74 1 (pc' := 1) (L' := [(0, .ref 107), (1, .ref 49)]) (st' := [.ref 49]) rfl ?_
  refine w_gf H (pc' := 4) (L' := [(0, .ref 107), (1, .ref 49)]) h_m74 (z_at.mk 3 rfl rfl) rfl (u := .ref 50) rfl rfl rfl ?_
  refine w_p h_m74 2 (pc' := 6) (L' := [(0, .ref 107), (1, .ref 49)]) (st' := [.ref 107, .int (0 : Int32), .ref 50]) rfl ?_
  refine w_gf H (pc' := 9) (L' := [(0, .ref 107), (1, .ref 49)]) h_m74 (z_at.mk 3 rfl rfl) rfl (u := .ref 108) rfl rfl rfl ?_
  refine w_p h_m74 2 (pc' := 12) (L' := [(0, .ref 107), (1, .ref 49)]) (st' := [.int (7 : Int32), .int (0 : Int32), .ref 108, .int (0 : Int32), .ref 50]) rfl ?_
  refine w_cpf H (ra := (0, 7, [(6, .int (1024 : Int32)), (5, .int (1 : Int32)), (4, .int (1 : Int32)), (3, .int (0 : Int32)), (2, .int (12 : Int32)), (1, .int (40 : Int32)), (0, .int (10 : Int32))], some (.int (0 : Int32)))) (pc' := 15) (L' := [(0, .ref 107), (1, .ref 49)]) h_m74 (z_at.mk 3 rfl rfl) rfl (z_cat_le 0 rfl (by decide)) rfl rfl rfl rfl (by decide) rfl rfl ?_
  clear H m; intro m H
  refine w_rv h_m74 (z_at.mk 1 rfl rfl) rfl ?_
  show z_W 998 145 27 [(0, .ref 39), (1, .int (9 : Int32))] [] m _
  refine w_p h_m145 1 (pc' := 28) (L' := [(0, .ref 39), (1, .int (9 : Int32))]) (st' := [.ref 39]) rfl ?_
  refine w_gf H (pc' := 31) (L' := [(0, .ref 39), (1, .int (9 : Int32))]) h_m145 (z_at.mk 3 rfl rfl) rfl (u := .ref 106) rfl rfl rfl ?_
  refine w_gf H (pc' := 34) (L' := [(0, .ref 39), (1, .int (9 : Int32))]) h_m145 (z_at.mk 3 rfl rfl) rfl (u := .ref 107) rfl rfl rfl ?_
  refine w_p h_m145 2 (pc' := 36) (L' := [(0, .ref 39), (1, .int (9 : Int32))]) (st' := [.int (9 : Int32), .int (1 : Int32), .ref 107]) rfl ?_
  refine w_cv (H.t rfl) (pc' := 39) (L' := [(0, .ref 39), (1, .int (9 : Int32))]) (rest := []) (Ps := [.int (1 : Int32), .int (9 : Int32)]) (L0 := [(0, .ref 107), (1, .int (1 : Int32)), (2, .int (9 : Int32))]) h_m145 (z_at.mk 3 rfl rfl) (Or.inl ⟨rfl, rfl⟩) rfl rfl (by decide) (by decide) rfl rfl rfl rfl rfl rfl (by decide) rfl rfl rfl ?_
  refine w_p h_m73 6 (pc' := 11) (L' := [(0, .ref 107), (1, .int (1 : Int32)), (2, .int (9 : Int32))]) (st' := [.ref 107]) rfl ?_
  refine w_gf H (pc' := 14) (L' := [(0, .ref 107), (1, .int (1 : Int32)), (2, .int (9 : Int32))]) h_m73 (z_at.mk 3 rfl rfl) rfl (u := .ref 108) rfl rfl rfl ?_
  refine w_p h_m73 2 (pc' := 16) (L' := [(0, .ref 107), (1, .int (1 : Int32)), (2, .int (9 : Int32))]) (st' := [.int (9 : Int32), .int (1 : Int32), .ref 108]) rfl ?_
  refine w_as H (t := 0) (j := 1) (u := .int (9 : Int32)) (0, 7, [(1, .int (9 : Int32)), (6, .int (1024 : Int32)), (5, .int (1 : Int32)), (4, .int (1 : Int32)), (3, .int (0 : Int32)), (2, .int (12 : Int32)), (0, .int (10 : Int32))], some (.int (0 : Int32))) (pc' := 17) (L' := []) h_m73 (z_at.mk 1 rfl rfl) rfl rfl (w_ui _ _ (by decide)) rfl rfl rfl rfl ?_
  clear H m; intro m H
  refine w_rv h_m73 (z_at.mk 1 rfl rfl) rfl ?_
  show z_W 998 145 39 [(0, .ref 39), (1, .int (9 : Int32))] [] m _
  refine w_p h_m145 4 (pc' := 43) (L' := [(0, .ref 39), (2, .int (0 : Int32))]) (st' := [.ref 39, .int (0 : Int32)]) rfl ?_
  refine w_gf H (pc' := 46) (L' := [(0, .ref 39), (2, .int (0 : Int32))]) h_m145 (z_at.mk 3 rfl rfl) rfl (u := .ref 40) rfl rfl rfl ?_
  refine w_gf H (pc' := 49) (L' := [(0, .ref 39), (2, .int (0 : Int32))]) h_m145 (z_at.mk 3 rfl rfl) rfl (u := .ref 63) rfl rfl rfl ?_
  refine w_gf H (pc' := 52) (L' := [(0, .ref 39), (2, .int (0 : Int32))]) h_m145 (z_at.mk 3 rfl rfl) rfl (u := .int (0 : Int32)) rfl rfl rfl ?_
  refine w_p h_m145 1 (pc' := 79) (L' := [(0, .ref 39), (2, .int (0 : Int32))]) (st' := []) rfl ?_
  refine w_rv h_m145 (z_at.mk 1 rfl rfl) rfl ?_
  show z_W 999 146 13 [(0, .ref 39), (1, .int (xs 1)), (2, .int (9 : Int32))] [] m _
  refine w_p h_m146 1 (pc' := 14) (L' := [(0, .ref 39), (1, .int (xs 1)), (2, .int (9 : Int32))]) (st' := [.ref 39]) rfl ?_
  refine w_gf H (pc' := 17) (L' := [(0, .ref 39), (1, .int (xs 1)), (2, .int (9 : Int32))]) h_m146 (z_at.mk 3 rfl rfl) rfl (u := .ref 106) rfl rfl rfl ?_
  refine w_gf H (pc' := 20) (L' := [(0, .ref 39), (1, .int (xs 1)), (2, .int (9 : Int32))]) h_m146 (z_at.mk 3 rfl rfl) rfl (u := .int (0 : Int32)) rfl rfl rfl ?_
  refine w_p h_m146 1 (pc' := 21) (L' := [(0, .ref 39), (1, .int (xs 1)), (2, .int (9 : Int32))]) (st' := [.int (xs 1), .int (0 : Int32)]) rfl ?_
  refine w_t2 (pc' := 26) (L' := [(0, .ref 39), (1, .int (xs 1)), (2, .int (9 : Int32))]) h_m146 (z_at.mk 3 rfl rfl) rfl (zc (a := 0) (b := (xs 1).toInt) rfl rfl (decide_eq_true (by omega))) rfl rfl ?_
  refine w_p h_m146 2 (pc' := 2) (L' := [(0, .ref 39), (1, .int (xs 1)), (2, .int (10 : Int32))]) (st' := []) rfl ?_
  exact hQ m (H.subC (by decide +kernel))
set_option maxHeartbeats 400000000 in
set_option maxRecDepth 20000 in
theorem w_turn_146_10 {xs : Nat → Int32} {m : zM} {Q : Option Value → zM → Prop} (hp : (xs 1).toInt < 0) (H : w_ok 6 xs 168 63950 ((106, (12, 18, [(15, .int (0 : Int32)), (14, .int (0 : Int32)), (13, .int (0 : Int32)), (12, .int (0 : Int32)), (11, .int (0 : Int32)), (10, .int (0 : Int32)), (9, .long (0 : Int64)), (8, .int (0 : Int32)), (2, .int (0 : Int32)), (0, .ref 41), (17, .ref 116), (16, .ref 114), (7, .ref 113), (6, .ref 112), (5, .ref 111), (4, .ref 110), (3, .ref 109), (1, .ref 107)], none)) :: (108, (0, 7, [(1, .int (9 : Int32)), (6, .int (1024 : Int32)), (5, .int (1 : Int32)), (4, .int (1 : Int32)), (3, .int (0 : Int32)), (2, .int (12 : Int32)), (0, .int (10 : Int32))], some (.int (0 : Int32)))) :: w_T0) m) (hQ : ∀ m, w_ok 6 xs 168 63950 ((106, (12, 18, [(15, .int (0 : Int32)), (14, .int (0 : Int32)), (13, .int (0 : Int32)), (12, .int (0 : Int32)), (11, .int (0 : Int32)), (10, .int (0 : Int32)), (9, .long (0 : Int64)), (8, .int (0 : Int32)), (2, .int (0 : Int32)), (0, .ref 41), (17, .ref 116), (16, .ref 114), (7, .ref 113), (6, .ref 112), (5, .ref 111), (4, .ref 110), (3, .ref 109), (1, .ref 107)], none)) :: (108, (0, 7, [(1, .int (10 : Int32)), (6, .int (1024 : Int32)), (5, .int (1 : Int32)), (4, .int (1 : Int32)), (3, .int (0 : Int32)), (2, .int (12 : Int32)), (0, .int (10 : Int32))], some (.int (0 : Int32)))) :: w_T0) m → z_W 999 146 2 [(0, .ref 39), (1, .int (xs 1)), (2, .int (11 : Int32))] [] m Q) : z_W 999 146 2 [(0, .ref 39), (1, .int (xs 1)), (2, .int (10 : Int32))] [] m Q := by
  refine w_p h_m146 5 (pc' := 10) (L' := [(0, .ref 39), (1, .int (xs 1)), (2, .int (10 : Int32))]) (st' := [.int (10 : Int32), .ref 39]) rfl ?_
  refine w_cv (H.t rfl) (pc' := 13) (L' := [(0, .ref 39), (1, .int (xs 1)), (2, .int (10 : Int32))]) (rest := []) (Ps := [.int (10 : Int32)]) (L0 := [(0, .ref 39), (1, .int (10 : Int32))]) h_m146 (z_at.mk 3 rfl rfl) (Or.inl ⟨rfl, rfl⟩) rfl rfl (by decide) (by decide) rfl rfl rfl rfl rfl rfl (by decide) rfl rfl rfl ?_
  refine w_p h_m145 1 (pc' := 1) (L' := [(0, .ref 39), (1, .int (10 : Int32))]) (st' := [.ref 39]) rfl ?_
  refine w_gf H (pc' := 4) (L' := [(0, .ref 39), (1, .int (10 : Int32))]) h_m145 (z_at.mk 3 rfl rfl) rfl (u := .ref 106) rfl rfl rfl ?_
  refine w_cv (H.t rfl) (pc' := 7) (L' := [(0, .ref 39), (1, .int (10 : Int32))]) (rest := []) (Ps := []) (L0 := [(0, .ref 106)]) h_m145 (z_at.mk 3 rfl rfl) (Or.inl ⟨rfl, rfl⟩) rfl rfl (by decide) (by decide) rfl rfl rfl rfl rfl rfl (by decide) rfl rfl rfl ?_
  refine w_p h_m20 2 (pc' := 2) (L' := [(0, .ref 106)]) (st' := [.int (0 : Int32), .ref 106]) rfl ?_
  refine w_pf H (12, 18, [(2, .int (0 : Int32)), (15, .int (0 : Int32)), (14, .int (0 : Int32)), (13, .int (0 : Int32)), (12, .int (0 : Int32)), (11, .int (0 : Int32)), (10, .int (0 : Int32)), (9, .long (0 : Int64)), (8, .int (0 : Int32)), (0, .ref 41), (17, .ref 116), (16, .ref 114), (7, .ref 113), (6, .ref 112), (5, .ref 111), (4, .ref 110), (3, .ref 109), (1, .ref 107)], none) (pc' := 5) (L' := [(0, .ref 106)]) h_m20 (z_at.mk 3 rfl rfl) rfl (by decide) rfl (Or.inl rfl) rfl rfl rfl ?_
  clear H m; intro m H
  refine w_p h_m20 2 (pc' := 7) (L' := [(0, .ref 106)]) (st' := [.int (0 : Int32), .ref 106]) rfl ?_
  refine w_pf H (12, 18, [(8, .int (0 : Int32)), (2, .int (0 : Int32)), (15, .int (0 : Int32)), (14, .int (0 : Int32)), (13, .int (0 : Int32)), (12, .int (0 : Int32)), (11, .int (0 : Int32)), (10, .int (0 : Int32)), (9, .long (0 : Int64)), (0, .ref 41), (17, .ref 116), (16, .ref 114), (7, .ref 113), (6, .ref 112), (5, .ref 111), (4, .ref 110), (3, .ref 109), (1, .ref 107)], none) (pc' := 10) (L' := [(0, .ref 106)]) h_m20 (z_at.mk 3 rfl rfl) rfl (by decide) rfl (Or.inl rfl) rfl rfl rfl ?_
  clear H m; intro m H
  refine w_p h_m20 2 (pc' := 12) (L' := [(0, .ref 106)]) (st' := [.long (0 : Int64), .ref 106]) rfl ?_
  refine w_pf H (12, 18, [(9, .long (0 : Int64)), (8, .int (0 : Int32)), (2, .int (0 : Int32)), (15, .int (0 : Int32)), (14, .int (0 : Int32)), (13, .int (0 : Int32)), (12, .int (0 : Int32)), (11, .int (0 : Int32)), (10, .int (0 : Int32)), (0, .ref 41), (17, .ref 116), (16, .ref 114), (7, .ref 113), (6, .ref 112), (5, .ref 111), (4, .ref 110), (3, .ref 109), (1, .ref 107)], none) (pc' := 15) (L' := [(0, .ref 106)]) h_m20 (z_at.mk 3 rfl rfl) rfl (by decide) rfl (Or.inl rfl) rfl rfl rfl ?_
  clear H m; intro m H
  refine w_p h_m20 2 (pc' := 17) (L' := [(0, .ref 106)]) (st' := [.int (0 : Int32), .ref 106]) rfl ?_
  refine w_pf H (12, 18, [(10, .int (0 : Int32)), (9, .long (0 : Int64)), (8, .int (0 : Int32)), (2, .int (0 : Int32)), (15, .int (0 : Int32)), (14, .int (0 : Int32)), (13, .int (0 : Int32)), (12, .int (0 : Int32)), (11, .int (0 : Int32)), (0, .ref 41), (17, .ref 116), (16, .ref 114), (7, .ref 113), (6, .ref 112), (5, .ref 111), (4, .ref 110), (3, .ref 109), (1, .ref 107)], none) (pc' := 20) (L' := [(0, .ref 106)]) h_m20 (z_at.mk 3 rfl rfl) rfl (by decide) rfl (Or.inl rfl) rfl rfl rfl ?_
  clear H m; intro m H
  refine w_p h_m20 2 (pc' := 22) (L' := [(0, .ref 106)]) (st' := [.int (0 : Int32), .ref 106]) rfl ?_
  refine w_pf H (12, 18, [(11, .int (0 : Int32)), (10, .int (0 : Int32)), (9, .long (0 : Int64)), (8, .int (0 : Int32)), (2, .int (0 : Int32)), (15, .int (0 : Int32)), (14, .int (0 : Int32)), (13, .int (0 : Int32)), (12, .int (0 : Int32)), (0, .ref 41), (17, .ref 116), (16, .ref 114), (7, .ref 113), (6, .ref 112), (5, .ref 111), (4, .ref 110), (3, .ref 109), (1, .ref 107)], none) (pc' := 25) (L' := [(0, .ref 106)]) h_m20 (z_at.mk 3 rfl rfl) rfl (by decide) rfl (Or.inl rfl) rfl rfl rfl ?_
  clear H m; intro m H
  refine w_p h_m20 2 (pc' := 27) (L' := [(0, .ref 106)]) (st' := [.int (0 : Int32), .ref 106]) rfl ?_
  refine w_pf H (12, 18, [(12, .int (0 : Int32)), (11, .int (0 : Int32)), (10, .int (0 : Int32)), (9, .long (0 : Int64)), (8, .int (0 : Int32)), (2, .int (0 : Int32)), (15, .int (0 : Int32)), (14, .int (0 : Int32)), (13, .int (0 : Int32)), (0, .ref 41), (17, .ref 116), (16, .ref 114), (7, .ref 113), (6, .ref 112), (5, .ref 111), (4, .ref 110), (3, .ref 109), (1, .ref 107)], none) (pc' := 30) (L' := [(0, .ref 106)]) h_m20 (z_at.mk 3 rfl rfl) rfl (by decide) rfl (Or.inl rfl) rfl rfl rfl ?_
  clear H m; intro m H
  refine w_p h_m20 2 (pc' := 32) (L' := [(0, .ref 106)]) (st' := [.int (0 : Int32), .ref 106]) rfl ?_
  refine w_pf H (12, 18, [(13, .int (0 : Int32)), (12, .int (0 : Int32)), (11, .int (0 : Int32)), (10, .int (0 : Int32)), (9, .long (0 : Int64)), (8, .int (0 : Int32)), (2, .int (0 : Int32)), (15, .int (0 : Int32)), (14, .int (0 : Int32)), (0, .ref 41), (17, .ref 116), (16, .ref 114), (7, .ref 113), (6, .ref 112), (5, .ref 111), (4, .ref 110), (3, .ref 109), (1, .ref 107)], none) (pc' := 35) (L' := [(0, .ref 106)]) h_m20 (z_at.mk 3 rfl rfl) rfl (by decide) rfl (Or.inl rfl) rfl rfl rfl ?_
  clear H m; intro m H
  refine w_p h_m20 2 (pc' := 37) (L' := [(0, .ref 106)]) (st' := [.int (0 : Int32), .ref 106]) rfl ?_
  refine w_pf H (12, 18, [(14, .int (0 : Int32)), (13, .int (0 : Int32)), (12, .int (0 : Int32)), (11, .int (0 : Int32)), (10, .int (0 : Int32)), (9, .long (0 : Int64)), (8, .int (0 : Int32)), (2, .int (0 : Int32)), (15, .int (0 : Int32)), (0, .ref 41), (17, .ref 116), (16, .ref 114), (7, .ref 113), (6, .ref 112), (5, .ref 111), (4, .ref 110), (3, .ref 109), (1, .ref 107)], none) (pc' := 40) (L' := [(0, .ref 106)]) h_m20 (z_at.mk 3 rfl rfl) rfl (by decide) rfl (Or.inl rfl) rfl rfl rfl ?_
  clear H m; intro m H
  refine w_p h_m20 2 (pc' := 42) (L' := [(0, .ref 106)]) (st' := [.int (0 : Int32), .ref 106]) rfl ?_
  refine w_pf H (12, 18, [(15, .int (0 : Int32)), (14, .int (0 : Int32)), (13, .int (0 : Int32)), (12, .int (0 : Int32)), (11, .int (0 : Int32)), (10, .int (0 : Int32)), (9, .long (0 : Int64)), (8, .int (0 : Int32)), (2, .int (0 : Int32)), (0, .ref 41), (17, .ref 116), (16, .ref 114), (7, .ref 113), (6, .ref 112), (5, .ref 111), (4, .ref 110), (3, .ref 109), (1, .ref 107)], none) (pc' := 45) (L' := [(0, .ref 106)]) h_m20 (z_at.mk 3 rfl rfl) rfl (by decide) rfl (Or.inl rfl) rfl rfl rfl ?_
  clear H m; intro m H
  refine w_rv h_m20 (z_at.mk 1 rfl rfl) rfl ?_
  show z_W 998 145 7 [(0, .ref 39), (1, .int (10 : Int32))] [] m _
  refine w_p h_m145 1 (pc' := 8) (L' := [(0, .ref 39), (1, .int (10 : Int32))]) (st' := [.ref 39]) rfl ?_
  refine w_gf H (pc' := 11) (L' := [(0, .ref 39), (1, .int (10 : Int32))]) h_m145 (z_at.mk 3 rfl rfl) rfl (u := .ref 106) rfl rfl rfl ?_
  refine w_gf H (pc' := 14) (L' := [(0, .ref 39), (1, .int (10 : Int32))]) h_m145 (z_at.mk 3 rfl rfl) rfl (u := .ref 107) rfl rfl rfl ?_
  refine w_p h_m145 1 (pc' := 15) (L' := [(0, .ref 39), (1, .int (10 : Int32))]) (st' := [.ref 39, .ref 107]) rfl ?_
  refine w_gf H (pc' := 18) (L' := [(0, .ref 39), (1, .int (10 : Int32))]) h_m145 (z_at.mk 3 rfl rfl) rfl (u := .ref 40) rfl rfl rfl ?_
  refine w_gf H (pc' := 21) (L' := [(0, .ref 39), (1, .int (10 : Int32))]) h_m145 (z_at.mk 3 rfl rfl) rfl (u := .ref 48) rfl rfl rfl ?_
  refine w_gf H (pc' := 24) (L' := [(0, .ref 39), (1, .int (10 : Int32))]) h_m145 (z_at.mk 3 rfl rfl) rfl (u := .ref 49) rfl rfl rfl ?_
  refine w_cv (H.t rfl) (pc' := 27) (L' := [(0, .ref 39), (1, .int (10 : Int32))]) (rest := []) (Ps := [.ref 49]) (L0 := [(0, .ref 107), (1, .ref 49)]) h_m145 (z_at.mk 3 rfl rfl) (Or.inl ⟨rfl, rfl⟩) rfl rfl (by decide) (by decide) rfl rfl rfl rfl rfl rfl (by decide) rfl rfl rfl ?_
  refine w_p h_m74 1 (pc' := 1) (L' := [(0, .ref 107), (1, .ref 49)]) (st' := [.ref 49]) rfl ?_
  refine w_gf H (pc' := 4) (L' := [(0, .ref 107), (1, .ref 49)]) h_m74 (z_at.mk 3 rfl rfl) rfl (u := .ref 50) rfl rfl rfl ?_
  refine w_p h_m74 2 (pc' := 6) (L' := [(0, .ref 107), (1, .ref 49)]) (st' := [.ref 107, .int (0 : Int32), .ref 50]) rfl ?_
  refine w_gf H (pc' := 9) (L' := [(0, .ref 107), (1, .ref 49)]) h_m74 (z_at.mk 3 rfl rfl) rfl (u := .ref 108) rfl rfl rfl ?_
  refine w_p h_m74 2 (pc' := 12) (L' := [(0, .ref 107), (1, .ref 49)]) (st' := [.int (7 : Int32), .int (0 : Int32), .ref 108, .int (0 : Int32), .ref 50]) rfl ?_
  refine w_cpf H (ra := (0, 7, [(6, .int (1024 : Int32)), (5, .int (1 : Int32)), (4, .int (1 : Int32)), (3, .int (0 : Int32)), (2, .int (12 : Int32)), (1, .int (40 : Int32)), (0, .int (10 : Int32))], some (.int (0 : Int32)))) (pc' := 15) (L' := [(0, .ref 107), (1, .ref 49)]) h_m74 (z_at.mk 3 rfl rfl) rfl (z_cat_le 0 rfl (by decide)) rfl rfl rfl rfl (by decide) rfl rfl ?_
  clear H m; intro m H
  refine w_rv h_m74 (z_at.mk 1 rfl rfl) rfl ?_
  show z_W 998 145 27 [(0, .ref 39), (1, .int (10 : Int32))] [] m _
  refine w_p h_m145 1 (pc' := 28) (L' := [(0, .ref 39), (1, .int (10 : Int32))]) (st' := [.ref 39]) rfl ?_
  refine w_gf H (pc' := 31) (L' := [(0, .ref 39), (1, .int (10 : Int32))]) h_m145 (z_at.mk 3 rfl rfl) rfl (u := .ref 106) rfl rfl rfl ?_
  refine w_gf H (pc' := 34) (L' := [(0, .ref 39), (1, .int (10 : Int32))]) h_m145 (z_at.mk 3 rfl rfl) rfl (u := .ref 107) rfl rfl rfl ?_
  refine w_p h_m145 2 (pc' := 36) (L' := [(0, .ref 39), (1, .int (10 : Int32))]) (st' := [.int (10 : Int32), .int (1 : Int32), .ref 107]) rfl ?_
  refine w_cv (H.t rfl) (pc' := 39) (L' := [(0, .ref 39), (1, .int (10 : Int32))]) (rest := []) (Ps := [.int (1 : Int32), .int (10 : Int32)]) (L0 := [(0, .ref 107), (1, .int (1 : Int32)), (2, .int (10 : Int32))]) h_m145 (z_at.mk 3 rfl rfl) (Or.inl ⟨rfl, rfl⟩) rfl rfl (by decide) (by decide) rfl rfl rfl rfl rfl rfl (by decide) rfl rfl rfl ?_
  refine w_p h_m73 6 (pc' := 11) (L' := [(0, .ref 107), (1, .int (1 : Int32)), (2, .int (10 : Int32))]) (st' := [.ref 107]) rfl ?_
  refine w_gf H (pc' := 14) (L' := [(0, .ref 107), (1, .int (1 : Int32)), (2, .int (10 : Int32))]) h_m73 (z_at.mk 3 rfl rfl) rfl (u := .ref 108) rfl rfl rfl ?_
  refine w_p h_m73 2 (pc' := 16) (L' := [(0, .ref 107), (1, .int (1 : Int32)), (2, .int (10 : Int32))]) (st' := [.int (10 : Int32), .int (1 : Int32), .ref 108]) rfl ?_
  refine w_as H (t := 0) (j := 1) (u := .int (10 : Int32)) (0, 7, [(1, .int (10 : Int32)), (6, .int (1024 : Int32)), (5, .int (1 : Int32)), (4, .int (1 : Int32)), (3, .int (0 : Int32)), (2, .int (12 : Int32)), (0, .int (10 : Int32))], some (.int (0 : Int32))) (pc' := 17) (L' := []) h_m73 (z_at.mk 1 rfl rfl) rfl rfl (w_ui _ _ (by decide)) rfl rfl rfl rfl ?_
  clear H m; intro m H
  refine w_rv h_m73 (z_at.mk 1 rfl rfl) rfl ?_
  show z_W 998 145 39 [(0, .ref 39), (1, .int (10 : Int32))] [] m _
  refine w_p h_m145 4 (pc' := 43) (L' := [(0, .ref 39), (2, .int (0 : Int32))]) (st' := [.ref 39, .int (0 : Int32)]) rfl ?_
  refine w_gf H (pc' := 46) (L' := [(0, .ref 39), (2, .int (0 : Int32))]) h_m145 (z_at.mk 3 rfl rfl) rfl (u := .ref 40) rfl rfl rfl ?_
  refine w_gf H (pc' := 49) (L' := [(0, .ref 39), (2, .int (0 : Int32))]) h_m145 (z_at.mk 3 rfl rfl) rfl (u := .ref 63) rfl rfl rfl ?_
  refine w_gf H (pc' := 52) (L' := [(0, .ref 39), (2, .int (0 : Int32))]) h_m145 (z_at.mk 3 rfl rfl) rfl (u := .int (0 : Int32)) rfl rfl rfl ?_
  refine w_p h_m145 1 (pc' := 79) (L' := [(0, .ref 39), (2, .int (0 : Int32))]) (st' := []) rfl ?_
  refine w_rv h_m145 (z_at.mk 1 rfl rfl) rfl ?_
  show z_W 999 146 13 [(0, .ref 39), (1, .int (xs 1)), (2, .int (10 : Int32))] [] m _
  refine w_p h_m146 1 (pc' := 14) (L' := [(0, .ref 39), (1, .int (xs 1)), (2, .int (10 : Int32))]) (st' := [.ref 39]) rfl ?_
  refine w_gf H (pc' := 17) (L' := [(0, .ref 39), (1, .int (xs 1)), (2, .int (10 : Int32))]) h_m146 (z_at.mk 3 rfl rfl) rfl (u := .ref 106) rfl rfl rfl ?_
  refine w_gf H (pc' := 20) (L' := [(0, .ref 39), (1, .int (xs 1)), (2, .int (10 : Int32))]) h_m146 (z_at.mk 3 rfl rfl) rfl (u := .int (0 : Int32)) rfl rfl rfl ?_
  refine w_p h_m146 1 (pc' := 21) (L' := [(0, .ref 39), (1, .int (xs 1)), (2, .int (10 : Int32))]) (st' := [.int (xs 1), .int (0 : Int32)]) rfl ?_
  refine w_t2 (pc' := 26) (L' := [(0, .ref 39), (1, .int (xs 1)), (2, .int (10 : Int32))]) h_m146 (z_at.mk 3 rfl rfl) rfl (zc (a := 0) (b := (xs 1).toInt) rfl rfl (decide_eq_true (by omega))) rfl rfl ?_
  refine w_p h_m146 2 (pc' := 2) (L' := [(0, .ref 39), (1, .int (xs 1)), (2, .int (11 : Int32))]) (st' := []) rfl ?_
  exact hQ m (H.subC (by decide +kernel))
set_option maxHeartbeats 400000000 in
set_option maxRecDepth 20000 in
theorem w_turn_146_11 {xs : Nat → Int32} {m : zM} {Q : Option Value → zM → Prop} (hp : (xs 1).toInt < 0) (H : w_ok 6 xs 168 63950 ((106, (12, 18, [(15, .int (0 : Int32)), (14, .int (0 : Int32)), (13, .int (0 : Int32)), (12, .int (0 : Int32)), (11, .int (0 : Int32)), (10, .int (0 : Int32)), (9, .long (0 : Int64)), (8, .int (0 : Int32)), (2, .int (0 : Int32)), (0, .ref 41), (17, .ref 116), (16, .ref 114), (7, .ref 113), (6, .ref 112), (5, .ref 111), (4, .ref 110), (3, .ref 109), (1, .ref 107)], none)) :: (108, (0, 7, [(1, .int (10 : Int32)), (6, .int (1024 : Int32)), (5, .int (1 : Int32)), (4, .int (1 : Int32)), (3, .int (0 : Int32)), (2, .int (12 : Int32)), (0, .int (10 : Int32))], some (.int (0 : Int32)))) :: w_T0) m) (hQ : ∀ m, w_ok 6 xs 168 63950 ((106, (12, 18, [(15, .int (0 : Int32)), (14, .int (0 : Int32)), (13, .int (0 : Int32)), (12, .int (0 : Int32)), (11, .int (0 : Int32)), (10, .int (0 : Int32)), (9, .long (0 : Int64)), (8, .int (0 : Int32)), (2, .int (0 : Int32)), (0, .ref 41), (17, .ref 116), (16, .ref 114), (7, .ref 113), (6, .ref 112), (5, .ref 111), (4, .ref 110), (3, .ref 109), (1, .ref 107)], none)) :: (108, (0, 7, [(1, .int (11 : Int32)), (6, .int (1024 : Int32)), (5, .int (1 : Int32)), (4, .int (1 : Int32)), (3, .int (0 : Int32)), (2, .int (12 : Int32)), (0, .int (10 : Int32))], some (.int (0 : Int32)))) :: w_T0) m → z_W 999 146 2 [(0, .ref 39), (1, .int (xs 1)), (2, .int (12 : Int32))] [] m Q) : z_W 999 146 2 [(0, .ref 39), (1, .int (xs 1)), (2, .int (11 : Int32))] [] m Q := by
  refine w_p h_m146 5 (pc' := 10) (L' := [(0, .ref 39), (1, .int (xs 1)), (2, .int (11 : Int32))]) (st' := [.int (11 : Int32), .ref 39]) rfl ?_
  refine w_cv (H.t rfl) (pc' := 13) (L' := [(0, .ref 39), (1, .int (xs 1)), (2, .int (11 : Int32))]) (rest := []) (Ps := [.int (11 : Int32)]) (L0 := [(0, .ref 39), (1, .int (11 : Int32))]) h_m146 (z_at.mk 3 rfl rfl) (Or.inl ⟨rfl, rfl⟩) rfl rfl (by decide) (by decide) rfl rfl rfl rfl rfl rfl (by decide) rfl rfl rfl ?_
  refine w_p h_m145 1 (pc' := 1) (L' := [(0, .ref 39), (1, .int (11 : Int32))]) (st' := [.ref 39]) rfl ?_
  refine w_gf H (pc' := 4) (L' := [(0, .ref 39), (1, .int (11 : Int32))]) h_m145 (z_at.mk 3 rfl rfl) rfl (u := .ref 106) rfl rfl rfl ?_
  refine w_cv (H.t rfl) (pc' := 7) (L' := [(0, .ref 39), (1, .int (11 : Int32))]) (rest := []) (Ps := []) (L0 := [(0, .ref 106)]) h_m145 (z_at.mk 3 rfl rfl) (Or.inl ⟨rfl, rfl⟩) rfl rfl (by decide) (by decide) rfl rfl rfl rfl rfl rfl (by decide) rfl rfl rfl ?_
  refine w_p h_m20 2 (pc' := 2) (L' := [(0, .ref 106)]) (st' := [.int (0 : Int32), .ref 106]) rfl ?_
  refine w_pf H (12, 18, [(2, .int (0 : Int32)), (15, .int (0 : Int32)), (14, .int (0 : Int32)), (13, .int (0 : Int32)), (12, .int (0 : Int32)), (11, .int (0 : Int32)), (10, .int (0 : Int32)), (9, .long (0 : Int64)), (8, .int (0 : Int32)), (0, .ref 41), (17, .ref 116), (16, .ref 114), (7, .ref 113), (6, .ref 112), (5, .ref 111), (4, .ref 110), (3, .ref 109), (1, .ref 107)], none) (pc' := 5) (L' := [(0, .ref 106)]) h_m20 (z_at.mk 3 rfl rfl) rfl (by decide) rfl (Or.inl rfl) rfl rfl rfl ?_
  clear H m; intro m H
  refine w_p h_m20 2 (pc' := 7) (L' := [(0, .ref 106)]) (st' := [.int (0 : Int32), .ref 106]) rfl ?_
  refine w_pf H (12, 18, [(8, .int (0 : Int32)), (2, .int (0 : Int32)), (15, .int (0 : Int32)), (14, .int (0 : Int32)), (13, .int (0 : Int32)), (12, .int (0 : Int32)), (11, .int (0 : Int32)), (10, .int (0 : Int32)), (9, .long (0 : Int64)), (0, .ref 41), (17, .ref 116), (16, .ref 114), (7, .ref 113), (6, .ref 112), (5, .ref 111), (4, .ref 110), (3, .ref 109), (1, .ref 107)], none) (pc' := 10) (L' := [(0, .ref 106)]) h_m20 (z_at.mk 3 rfl rfl) rfl (by decide) rfl (Or.inl rfl) rfl rfl rfl ?_
  clear H m; intro m H
  refine w_p h_m20 2 (pc' := 12) (L' := [(0, .ref 106)]) (st' := [.long (0 : Int64), .ref 106]) rfl ?_
  refine w_pf H (12, 18, [(9, .long (0 : Int64)), (8, .int (0 : Int32)), (2, .int (0 : Int32)), (15, .int (0 : Int32)), (14, .int (0 : Int32)), (13, .int (0 : Int32)), (12, .int (0 : Int32)), (11, .int (0 : Int32)), (10, .int (0 : Int32)), (0, .ref 41), (17, .ref 116), (16, .ref 114), (7, .ref 113), (6, .ref 112), (5, .ref 111), (4, .ref 110), (3, .ref 109), (1, .ref 107)], none) (pc' := 15) (L' := [(0, .ref 106)]) h_m20 (z_at.mk 3 rfl rfl) rfl (by decide) rfl (Or.inl rfl) rfl rfl rfl ?_
  clear H m; intro m H
  refine w_p h_m20 2 (pc' := 17) (L' := [(0, .ref 106)]) (st' := [.int (0 : Int32), .ref 106]) rfl ?_
  refine w_pf H (12, 18, [(10, .int (0 : Int32)), (9, .long (0 : Int64)), (8, .int (0 : Int32)), (2, .int (0 : Int32)), (15, .int (0 : Int32)), (14, .int (0 : Int32)), (13, .int (0 : Int32)), (12, .int (0 : Int32)), (11, .int (0 : Int32)), (0, .ref 41), (17, .ref 116), (16, .ref 114), (7, .ref 113), (6, .ref 112), (5, .ref 111), (4, .ref 110), (3, .ref 109), (1, .ref 107)], none) (pc' := 20) (L' := [(0, .ref 106)]) h_m20 (z_at.mk 3 rfl rfl) rfl (by decide) rfl (Or.inl rfl) rfl rfl rfl ?_
  clear H m; intro m H
  refine w_p h_m20 2 (pc' := 22) (L' := [(0, .ref 106)]) (st' := [.int (0 : Int32), .ref 106]) rfl ?_
  refine w_pf H (12, 18, [(11, .int (0 : Int32)), (10, .int (0 : Int32)), (9, .long (0 : Int64)), (8, .int (0 : Int32)), (2, .int (0 : Int32)), (15, .int (0 : Int32)), (14, .int (0 : Int32)), (13, .int (0 : Int32)), (12, .int (0 : Int32)), (0, .ref 41), (17, .ref 116), (16, .ref 114), (7, .ref 113), (6, .ref 112), (5, .ref 111), (4, .ref 110), (3, .ref 109), (1, .ref 107)], none) (pc' := 25) (L' := [(0, .ref 106)]) h_m20 (z_at.mk 3 rfl rfl) rfl (by decide) rfl (Or.inl rfl) rfl rfl rfl ?_
  clear H m; intro m H
  refine w_p h_m20 2 (pc' := 27) (L' := [(0, .ref 106)]) (st' := [.int (0 : Int32), .ref 106]) rfl ?_
  refine w_pf H (12, 18, [(12, .int (0 : Int32)), (11, .int (0 : Int32)), (10, .int (0 : Int32)), (9, .long (0 : Int64)), (8, .int (0 : Int32)), (2, .int (0 : Int32)), (15, .int (0 : Int32)), (14, .int (0 : Int32)), (13, .int (0 : Int32)), (0, .ref 41), (17, .ref 116), (16, .ref 114), (7, .ref 113), (6, .ref 112), (5, .ref 111), (4, .ref 110), (3, .ref 109), (1, .ref 107)], none) (pc' := 30) (L' := [(0, .ref 106)]) h_m20 (z_at.mk 3 rfl rfl) rfl (by decide) rfl (Or.inl rfl) rfl rfl rfl ?_
  clear H m; intro m H
  refine w_p h_m20 2 (pc' := 32) (L' := [(0, .ref 106)]) (st' := [.int (0 : Int32), .ref 106]) rfl ?_
  refine w_pf H (12, 18, [(13, .int (0 : Int32)), (12, .int (0 : Int32)), (11, .int (0 : Int32)), (10, .int (0 : Int32)), (9, .long (0 : Int64)), (8, .int (0 : Int32)), (2, .int (0 : Int32)), (15, .int (0 : Int32)), (14, .int (0 : Int32)), (0, .ref 41), (17, .ref 116), (16, .ref 114), (7, .ref 113), (6, .ref 112), (5, .ref 111), (4, .ref 110), (3, .ref 109), (1, .ref 107)], none) (pc' := 35) (L' := [(0, .ref 106)]) h_m20 (z_at.mk 3 rfl rfl) rfl (by decide) rfl (Or.inl rfl) rfl rfl rfl ?_
  clear H m; intro m H
  refine w_p h_m20 2 (pc' := 37) (L' := [(0, .ref 106)]) (st' := [.int (0 : Int32), .ref 106]) rfl ?_
  refine w_pf H (12, 18, [(14, .int (0 : Int32)), (13, .int (0 : Int32)), (12, .int (0 : Int32)), (11, .int (0 : Int32)), (10, .int (0 : Int32)), (9, .long (0 : Int64)), (8, .int (0 : Int32)), (2, .int (0 : Int32)), (15, .int (0 : Int32)), (0, .ref 41), (17, .ref 116), (16, .ref 114), (7, .ref 113), (6, .ref 112), (5, .ref 111), (4, .ref 110), (3, .ref 109), (1, .ref 107)], none) (pc' := 40) (L' := [(0, .ref 106)]) h_m20 (z_at.mk 3 rfl rfl) rfl (by decide) rfl (Or.inl rfl) rfl rfl rfl ?_
  clear H m; intro m H
  refine w_p h_m20 2 (pc' := 42) (L' := [(0, .ref 106)]) (st' := [.int (0 : Int32), .ref 106]) rfl ?_
  refine w_pf H (12, 18, [(15, .int (0 : Int32)), (14, .int (0 : Int32)), (13, .int (0 : Int32)), (12, .int (0 : Int32)), (11, .int (0 : Int32)), (10, .int (0 : Int32)), (9, .long (0 : Int64)), (8, .int (0 : Int32)), (2, .int (0 : Int32)), (0, .ref 41), (17, .ref 116), (16, .ref 114), (7, .ref 113), (6, .ref 112), (5, .ref 111), (4, .ref 110), (3, .ref 109), (1, .ref 107)], none) (pc' := 45) (L' := [(0, .ref 106)]) h_m20 (z_at.mk 3 rfl rfl) rfl (by decide) rfl (Or.inl rfl) rfl rfl rfl ?_
  clear H m; intro m H
  refine w_rv h_m20 (z_at.mk 1 rfl rfl) rfl ?_
  show z_W 998 145 7 [(0, .ref 39), (1, .int (11 : Int32))] [] m _
  refine w_p h_m145 1 (pc' := 8) (L' := [(0, .ref 39), (1, .int (11 : Int32))]) (st' := [.ref 39]) rfl ?_
  refine w_gf H (pc' := 11) (L' := [(0, .ref 39), (1, .int (11 : Int32))]) h_m145 (z_at.mk 3 rfl rfl) rfl (u := .ref 106) rfl rfl rfl ?_
  refine w_gf H (pc' := 14) (L' := [(0, .ref 39), (1, .int (11 : Int32))]) h_m145 (z_at.mk 3 rfl rfl) rfl (u := .ref 107) rfl rfl rfl ?_
  refine w_p h_m145 1 (pc' := 15) (L' := [(0, .ref 39), (1, .int (11 : Int32))]) (st' := [.ref 39, .ref 107]) rfl ?_
  refine w_gf H (pc' := 18) (L' := [(0, .ref 39), (1, .int (11 : Int32))]) h_m145 (z_at.mk 3 rfl rfl) rfl (u := .ref 40) rfl rfl rfl ?_
  refine w_gf H (pc' := 21) (L' := [(0, .ref 39), (1, .int (11 : Int32))]) h_m145 (z_at.mk 3 rfl rfl) rfl (u := .ref 48) rfl rfl rfl ?_
  refine w_gf H (pc' := 24) (L' := [(0, .ref 39), (1, .int (11 : Int32))]) h_m145 (z_at.mk 3 rfl rfl) rfl (u := .ref 49) rfl rfl rfl ?_
  refine w_cv (H.t rfl) (pc' := 27) (L' := [(0, .ref 39), (1, .int (11 : Int32))]) (rest := []) (Ps := [.ref 49]) (L0 := [(0, .ref 107), (1, .ref 49)]) h_m145 (z_at.mk 3 rfl rfl) (Or.inl ⟨rfl, rfl⟩) rfl rfl (by decide) (by decide) rfl rfl rfl rfl rfl rfl (by decide) rfl rfl rfl ?_
  refine w_p h_m74 1 (pc' := 1) (L' := [(0, .ref 107), (1, .ref 49)]) (st' := [.ref 49]) rfl ?_
  refine w_gf H (pc' := 4) (L' := [(0, .ref 107), (1, .ref 49)]) h_m74 (z_at.mk 3 rfl rfl) rfl (u := .ref 50) rfl rfl rfl ?_
  refine w_p h_m74 2 (pc' := 6) (L' := [(0, .ref 107), (1, .ref 49)]) (st' := [.ref 107, .int (0 : Int32), .ref 50]) rfl ?_
  refine w_gf H (pc' := 9) (L' := [(0, .ref 107), (1, .ref 49)]) h_m74 (z_at.mk 3 rfl rfl) rfl (u := .ref 108) rfl rfl rfl ?_
  refine w_p h_m74 2 (pc' := 12) (L' := [(0, .ref 107), (1, .ref 49)]) (st' := [.int (7 : Int32), .int (0 : Int32), .ref 108, .int (0 : Int32), .ref 50]) rfl ?_
  refine w_cpf H (ra := (0, 7, [(6, .int (1024 : Int32)), (5, .int (1 : Int32)), (4, .int (1 : Int32)), (3, .int (0 : Int32)), (2, .int (12 : Int32)), (1, .int (40 : Int32)), (0, .int (10 : Int32))], some (.int (0 : Int32)))) (pc' := 15) (L' := [(0, .ref 107), (1, .ref 49)]) h_m74 (z_at.mk 3 rfl rfl) rfl (z_cat_le 0 rfl (by decide)) rfl rfl rfl rfl (by decide) rfl rfl ?_
  clear H m; intro m H
  refine w_rv h_m74 (z_at.mk 1 rfl rfl) rfl ?_
  show z_W 998 145 27 [(0, .ref 39), (1, .int (11 : Int32))] [] m _
  refine w_p h_m145 1 (pc' := 28) (L' := [(0, .ref 39), (1, .int (11 : Int32))]) (st' := [.ref 39]) rfl ?_
  refine w_gf H (pc' := 31) (L' := [(0, .ref 39), (1, .int (11 : Int32))]) h_m145 (z_at.mk 3 rfl rfl) rfl (u := .ref 106) rfl rfl rfl ?_
  refine w_gf H (pc' := 34) (L' := [(0, .ref 39), (1, .int (11 : Int32))]) h_m145 (z_at.mk 3 rfl rfl) rfl (u := .ref 107) rfl rfl rfl ?_
  refine w_p h_m145 2 (pc' := 36) (L' := [(0, .ref 39), (1, .int (11 : Int32))]) (st' := [.int (11 : Int32), .int (1 : Int32), .ref 107]) rfl ?_
  refine w_cv (H.t rfl) (pc' := 39) (L' := [(0, .ref 39), (1, .int (11 : Int32))]) (rest := []) (Ps := [.int (1 : Int32), .int (11 : Int32)]) (L0 := [(0, .ref 107), (1, .int (1 : Int32)), (2, .int (11 : Int32))]) h_m145 (z_at.mk 3 rfl rfl) (Or.inl ⟨rfl, rfl⟩) rfl rfl (by decide) (by decide) rfl rfl rfl rfl rfl rfl (by decide) rfl rfl rfl ?_
  refine w_p h_m73 6 (pc' := 11) (L' := [(0, .ref 107), (1, .int (1 : Int32)), (2, .int (11 : Int32))]) (st' := [.ref 107]) rfl ?_
  refine w_gf H (pc' := 14) (L' := [(0, .ref 107), (1, .int (1 : Int32)), (2, .int (11 : Int32))]) h_m73 (z_at.mk 3 rfl rfl) rfl (u := .ref 108) rfl rfl rfl ?_
  refine w_p h_m73 2 (pc' := 16) (L' := [(0, .ref 107), (1, .int (1 : Int32)), (2, .int (11 : Int32))]) (st' := [.int (11 : Int32), .int (1 : Int32), .ref 108]) rfl ?_
  refine w_as H (t := 0) (j := 1) (u := .int (11 : Int32)) (0, 7, [(1, .int (11 : Int32)), (6, .int (1024 : Int32)), (5, .int (1 : Int32)), (4, .int (1 : Int32)), (3, .int (0 : Int32)), (2, .int (12 : Int32)), (0, .int (10 : Int32))], some (.int (0 : Int32))) (pc' := 17) (L' := []) h_m73 (z_at.mk 1 rfl rfl) rfl rfl (w_ui _ _ (by decide)) rfl rfl rfl rfl ?_
  clear H m; intro m H
  refine w_rv h_m73 (z_at.mk 1 rfl rfl) rfl ?_
  show z_W 998 145 39 [(0, .ref 39), (1, .int (11 : Int32))] [] m _
  refine w_p h_m145 4 (pc' := 43) (L' := [(0, .ref 39), (2, .int (0 : Int32))]) (st' := [.ref 39, .int (0 : Int32)]) rfl ?_
  refine w_gf H (pc' := 46) (L' := [(0, .ref 39), (2, .int (0 : Int32))]) h_m145 (z_at.mk 3 rfl rfl) rfl (u := .ref 40) rfl rfl rfl ?_
  refine w_gf H (pc' := 49) (L' := [(0, .ref 39), (2, .int (0 : Int32))]) h_m145 (z_at.mk 3 rfl rfl) rfl (u := .ref 63) rfl rfl rfl ?_
  refine w_gf H (pc' := 52) (L' := [(0, .ref 39), (2, .int (0 : Int32))]) h_m145 (z_at.mk 3 rfl rfl) rfl (u := .int (0 : Int32)) rfl rfl rfl ?_
  refine w_p h_m145 1 (pc' := 79) (L' := [(0, .ref 39), (2, .int (0 : Int32))]) (st' := []) rfl ?_
  refine w_rv h_m145 (z_at.mk 1 rfl rfl) rfl ?_
  show z_W 999 146 13 [(0, .ref 39), (1, .int (xs 1)), (2, .int (11 : Int32))] [] m _
  refine w_p h_m146 1 (pc' := 14) (L' := [(0, .ref 39), (1, .int (xs 1)), (2, .int (11 : Int32))]) (st' := [.ref 39]) rfl ?_
  refine w_gf H (pc' := 17) (L' := [(0, .ref 39), (1, .int (xs 1)), (2, .int (11 : Int32))]) h_m146 (z_at.mk 3 rfl rfl) rfl (u := .ref 106) rfl rfl rfl ?_
  refine w_gf H (pc' := 20) (L' := [(0, .ref 39), (1, .int (xs 1)), (2, .int (11 : Int32))]) h_m146 (z_at.mk 3 rfl rfl) rfl (u := .int (0 : Int32)) rfl rfl rfl ?_
  refine w_p h_m146 1 (pc' := 21) (L' := [(0, .ref 39), (1, .int (xs 1)), (2, .int (11 : Int32))]) (st' := [.int (xs 1), .int (0 : Int32)]) rfl ?_
  refine w_t2 (pc' := 26) (L' := [(0, .ref 39), (1, .int (xs 1)), (2, .int (11 : Int32))]) h_m146 (z_at.mk 3 rfl rfl) rfl (zc (a := 0) (b := (xs 1).toInt) rfl rfl (decide_eq_true (by omega))) rfl rfl ?_
  refine w_p h_m146 2 (pc' := 2) (L' := [(0, .ref 39), (1, .int (xs 1)), (2, .int (12 : Int32))]) (st' := []) rfl ?_
  exact hQ m (H.subC (by decide +kernel))
set_option maxHeartbeats 400000000 in
set_option maxRecDepth 20000 in
theorem w_turn_146_12 {xs : Nat → Int32} {m : zM} {Q : Option Value → zM → Prop} (hp : (xs 1).toInt < 0) (H : w_ok 6 xs 168 63950 ((106, (12, 18, [(15, .int (0 : Int32)), (14, .int (0 : Int32)), (13, .int (0 : Int32)), (12, .int (0 : Int32)), (11, .int (0 : Int32)), (10, .int (0 : Int32)), (9, .long (0 : Int64)), (8, .int (0 : Int32)), (2, .int (0 : Int32)), (0, .ref 41), (17, .ref 116), (16, .ref 114), (7, .ref 113), (6, .ref 112), (5, .ref 111), (4, .ref 110), (3, .ref 109), (1, .ref 107)], none)) :: (108, (0, 7, [(1, .int (11 : Int32)), (6, .int (1024 : Int32)), (5, .int (1 : Int32)), (4, .int (1 : Int32)), (3, .int (0 : Int32)), (2, .int (12 : Int32)), (0, .int (10 : Int32))], some (.int (0 : Int32)))) :: w_T0) m) (hQ : ∀ m, w_ok 6 xs 168 63950 ((106, (12, 18, [(15, .int (0 : Int32)), (14, .int (0 : Int32)), (13, .int (0 : Int32)), (12, .int (0 : Int32)), (11, .int (0 : Int32)), (10, .int (0 : Int32)), (9, .long (0 : Int64)), (8, .int (0 : Int32)), (2, .int (0 : Int32)), (0, .ref 41), (17, .ref 116), (16, .ref 114), (7, .ref 113), (6, .ref 112), (5, .ref 111), (4, .ref 110), (3, .ref 109), (1, .ref 107)], none)) :: (108, (0, 7, [(1, .int (12 : Int32)), (6, .int (1024 : Int32)), (5, .int (1 : Int32)), (4, .int (1 : Int32)), (3, .int (0 : Int32)), (2, .int (12 : Int32)), (0, .int (10 : Int32))], some (.int (0 : Int32)))) :: w_T0) m → z_W 999 146 2 [(0, .ref 39), (1, .int (xs 1)), (2, .int (13 : Int32))] [] m Q) : z_W 999 146 2 [(0, .ref 39), (1, .int (xs 1)), (2, .int (12 : Int32))] [] m Q := by
  refine w_p h_m146 5 (pc' := 10) (L' := [(0, .ref 39), (1, .int (xs 1)), (2, .int (12 : Int32))]) (st' := [.int (12 : Int32), .ref 39]) rfl ?_
  refine w_cv (H.t rfl) (pc' := 13) (L' := [(0, .ref 39), (1, .int (xs 1)), (2, .int (12 : Int32))]) (rest := []) (Ps := [.int (12 : Int32)]) (L0 := [(0, .ref 39), (1, .int (12 : Int32))]) h_m146 (z_at.mk 3 rfl rfl) (Or.inl ⟨rfl, rfl⟩) rfl rfl (by decide) (by decide) rfl rfl rfl rfl rfl rfl (by decide) rfl rfl rfl ?_
  refine w_p h_m145 1 (pc' := 1) (L' := [(0, .ref 39), (1, .int (12 : Int32))]) (st' := [.ref 39]) rfl ?_
  refine w_gf H (pc' := 4) (L' := [(0, .ref 39), (1, .int (12 : Int32))]) h_m145 (z_at.mk 3 rfl rfl) rfl (u := .ref 106) rfl rfl rfl ?_
  refine w_cv (H.t rfl) (pc' := 7) (L' := [(0, .ref 39), (1, .int (12 : Int32))]) (rest := []) (Ps := []) (L0 := [(0, .ref 106)]) h_m145 (z_at.mk 3 rfl rfl) (Or.inl ⟨rfl, rfl⟩) rfl rfl (by decide) (by decide) rfl rfl rfl rfl rfl rfl (by decide) rfl rfl rfl ?_
  refine w_p h_m20 2 (pc' := 2) (L' := [(0, .ref 106)]) (st' := [.int (0 : Int32), .ref 106]) rfl ?_
  refine w_pf H (12, 18, [(2, .int (0 : Int32)), (15, .int (0 : Int32)), (14, .int (0 : Int32)), (13, .int (0 : Int32)), (12, .int (0 : Int32)), (11, .int (0 : Int32)), (10, .int (0 : Int32)), (9, .long (0 : Int64)), (8, .int (0 : Int32)), (0, .ref 41), (17, .ref 116), (16, .ref 114), (7, .ref 113), (6, .ref 112), (5, .ref 111), (4, .ref 110), (3, .ref 109), (1, .ref 107)], none) (pc' := 5) (L' := [(0, .ref 106)]) h_m20 (z_at.mk 3 rfl rfl) rfl (by decide) rfl (Or.inl rfl) rfl rfl rfl ?_
  clear H m; intro m H
  refine w_p h_m20 2 (pc' := 7) (L' := [(0, .ref 106)]) (st' := [.int (0 : Int32), .ref 106]) rfl ?_
  refine w_pf H (12, 18, [(8, .int (0 : Int32)), (2, .int (0 : Int32)), (15, .int (0 : Int32)), (14, .int (0 : Int32)), (13, .int (0 : Int32)), (12, .int (0 : Int32)), (11, .int (0 : Int32)), (10, .int (0 : Int32)), (9, .long (0 : Int64)), (0, .ref 41), (17, .ref 116), (16, .ref 114), (7, .ref 113), (6, .ref 112), (5, .ref 111), (4, .ref 110), (3, .ref 109), (1, .ref 107)], none) (pc' := 10) (L' := [(0, .ref 106)]) h_m20 (z_at.mk 3 rfl rfl) rfl (by decide) rfl (Or.inl rfl) rfl rfl rfl ?_
  clear H m; intro m H
  refine w_p h_m20 2 (pc' := 12) (L' := [(0, .ref 106)]) (st' := [.long (0 : Int64), .ref 106]) rfl ?_
  refine w_pf H (12, 18, [(9, .long (0 : Int64)), (8, .int (0 : Int32)), (2, .int (0 : Int32)), (15, .int (0 : Int32)), (14, .int (0 : Int32)), (13, .int (0 : Int32)), (12, .int (0 : Int32)), (11, .int (0 : Int32)), (10, .int (0 : Int32)), (0, .ref 41), (17, .ref 116), (16, .ref 114), (7, .ref 113), (6, .ref 112), (5, .ref 111), (4, .ref 110), (3, .ref 109), (1, .ref 107)], none) (pc' := 15) (L' := [(0, .ref 106)]) h_m20 (z_at.mk 3 rfl rfl) rfl (by decide) rfl (Or.inl rfl) rfl rfl rfl ?_
  clear H m; intro m H
  refine w_p h_m20 2 (pc' := 17) (L' := [(0, .ref 106)]) (st' := [.int (0 : Int32), .ref 106]) rfl ?_
  refine w_pf H (12, 18, [(10, .int (0 : Int32)), (9, .long (0 : Int64)), (8, .int (0 : Int32)), (2, .int (0 : Int32)), (15, .int (0 : Int32)), (14, .int (0 : Int32)), (13, .int (0 : Int32)), (12, .int (0 : Int32)), (11, .int (0 : Int32)), (0, .ref 41), (17, .ref 116), (16, .ref 114), (7, .ref 113), (6, .ref 112), (5, .ref 111), (4, .ref 110), (3, .ref 109), (1, .ref 107)], none) (pc' := 20) (L' := [(0, .ref 106)]) h_m20 (z_at.mk 3 rfl rfl) rfl (by decide) rfl (Or.inl rfl) rfl rfl rfl ?_
  clear H m; intro m H
  refine w_p h_m20 2 (pc' := 22) (L' := [(0, .ref 106)]) (st' := [.int (0 : Int32), .ref 106]) rfl ?_
  refine w_pf H (12, 18, [(11, .int (0 : Int32)), (10, .int (0 : Int32)), (9, .long (0 : Int64)), (8, .int (0 : Int32)), (2, .int (0 : Int32)), (15, .int (0 : Int32)), (14, .int (0 : Int32)), (13, .int (0 : Int32)), (12, .int (0 : Int32)), (0, .ref 41), (17, .ref 116), (16, .ref 114), (7, .ref 113), (6, .ref 112), (5, .ref 111), (4, .ref 110), (3, .ref 109), (1, .ref 107)], none) (pc' := 25) (L' := [(0, .ref 106)]) h_m20 (z_at.mk 3 rfl rfl) rfl (by decide) rfl (Or.inl rfl) rfl rfl rfl ?_
  clear H m; intro m H
  refine w_p h_m20 2 (pc' := 27) (L' := [(0, .ref 106)]) (st' := [.int (0 : Int32), .ref 106]) rfl ?_
  refine w_pf H (12, 18, [(12, .int (0 : Int32)), (11, .int (0 : Int32)), (10, .int (0 : Int32)), (9, .long (0 : Int64)), (8, .int (0 : Int32)), (2, .int (0 : Int32)), (15, .int (0 : Int32)), (14, .int (0 : Int32)), (13, .int (0 : Int32)), (0, .ref 41), (17, .ref 116), (16, .ref 114), (7, .ref 113), (6, .ref 112), (5, .ref 111), (4, .ref 110), (3, .ref 109), (1, .ref 107)], none) (pc' := 30) (L' := [(0, .ref 106)]) h_m20 (z_at.mk 3 rfl rfl) rfl (by decide) rfl (Or.inl rfl) rfl rfl rfl ?_
  clear H m; intro m H
  refine w_p h_m20 2 (pc' := 32) (L' := [(0, .ref 106)]) (st' := [.int (0 : Int32), .ref 106]) rfl ?_
  refine w_pf H (12, 18, [(13, .int (0 : Int32)), (12, .int (0 : Int32)), (11, .int (0 : Int32)), (10, .int (0 : Int32)), (9, .long (0 : Int64)), (8, .int (0 : Int32)), (2, .int (0 : Int32)), (15, .int (0 : Int32)), (14, .int (0 : Int32)), (0, .ref 41), (17, .ref 116), (16, .ref 114), (7, .ref 113), (6, .ref 112), (5, .ref 111), (4, .ref 110), (3, .ref 109), (1, .ref 107)], none) (pc' := 35) (L' := [(0, .ref 106)]) h_m20 (z_at.mk 3 rfl rfl) rfl (by decide) rfl (Or.inl rfl) rfl rfl rfl ?_
  clear H m; intro m H
  refine w_p h_m20 2 (pc' := 37) (L' := [(0, .ref 106)]) (st' := [.int (0 : Int32), .ref 106]) rfl ?_
  refine w_pf H (12, 18, [(14, .int (0 : Int32)), (13, .int (0 : Int32)), (12, .int (0 : Int32)), (11, .int (0 : Int32)), (10, .int (0 : Int32)), (9, .long (0 : Int64)), (8, .int (0 : Int32)), (2, .int (0 : Int32)), (15, .int (0 : Int32)), (0, .ref 41), (17, .ref 116), (16, .ref 114), (7, .ref 113), (6, .ref 112), (5, .ref 111), (4, .ref 110), (3, .ref 109), (1, .ref 107)], none) (pc' := 40) (L' := [(0, .ref 106)]) h_m20 (z_at.mk 3 rfl rfl) rfl (by decide) rfl (Or.inl rfl) rfl rfl rfl ?_
  clear H m; intro m H
  refine w_p h_m20 2 (pc' := 42) (L' := [(0, .ref 106)]) (st' := [.int (0 : Int32), .ref 106]) rfl ?_
  refine w_pf H (12, 18, [(15, .int (0 : Int32)), (14, .int (0 : Int32)), (13, .int (0 : Int32)), (12, .int (0 : Int32)), (11, .int (0 : Int32)), (10, .int (0 : Int32)), (9, .long (0 : Int64)), (8, .int (0 : Int32)), (2, .int (0 : Int32)), (0, .ref 41), (17, .ref 116), (16, .ref 114), (7, .ref 113), (6, .ref 112), (5, .ref 111), (4, .ref 110), (3, .ref 109), (1, .ref 107)], none) (pc' := 45) (L' := [(0, .ref 106)]) h_m20 (z_at.mk 3 rfl rfl) rfl (by decide) rfl (Or.inl rfl) rfl rfl rfl ?_
  clear H m; intro m H
  refine w_rv h_m20 (z_at.mk 1 rfl rfl) rfl ?_
  show z_W 998 145 7 [(0, .ref 39), (1, .int (12 : Int32))] [] m _
  refine w_p h_m145 1 (pc' := 8) (L' := [(0, .ref 39), (1, .int (12 : Int32))]) (st' := [.ref 39]) rfl ?_
  refine w_gf H (pc' := 11) (L' := [(0, .ref 39), (1, .int (12 : Int32))]) h_m145 (z_at.mk 3 rfl rfl) rfl (u := .ref 106) rfl rfl rfl ?_
  refine w_gf H (pc' := 14) (L' := [(0, .ref 39), (1, .int (12 : Int32))]) h_m145 (z_at.mk 3 rfl rfl) rfl (u := .ref 107) rfl rfl rfl ?_
  refine w_p h_m145 1 (pc' := 15) (L' := [(0, .ref 39), (1, .int (12 : Int32))]) (st' := [.ref 39, .ref 107]) rfl ?_
  refine w_gf H (pc' := 18) (L' := [(0, .ref 39), (1, .int (12 : Int32))]) h_m145 (z_at.mk 3 rfl rfl) rfl (u := .ref 40) rfl rfl rfl ?_
  refine w_gf H (pc' := 21) (L' := [(0, .ref 39), (1, .int (12 : Int32))]) h_m145 (z_at.mk 3 rfl rfl) rfl (u := .ref 48) rfl rfl rfl ?_
  refine w_gf H (pc' := 24) (L' := [(0, .ref 39), (1, .int (12 : Int32))]) h_m145 (z_at.mk 3 rfl rfl) rfl (u := .ref 49) rfl rfl rfl ?_
  refine w_cv (H.t rfl) (pc' := 27) (L' := [(0, .ref 39), (1, .int (12 : Int32))]) (rest := []) (Ps := [.ref 49]) (L0 := [(0, .ref 107), (1, .ref 49)]) h_m145 (z_at.mk 3 rfl rfl) (Or.inl ⟨rfl, rfl⟩) rfl rfl (by decide) (by decide) rfl rfl rfl rfl rfl rfl (by decide) rfl rfl rfl ?_
  refine w_p h_m74 1 (pc' := 1) (L' := [(0, .ref 107), (1, .ref 49)]) (st' := [.ref 49]) rfl ?_
  refine w_gf H (pc' := 4) (L' := [(0, .ref 107), (1, .ref 49)]) h_m74 (z_at.mk 3 rfl rfl) rfl (u := .ref 50) rfl rfl rfl ?_
  refine w_p h_m74 2 (pc' := 6) (L' := [(0, .ref 107), (1, .ref 49)]) (st' := [.ref 107, .int (0 : Int32), .ref 50]) rfl ?_
  refine w_gf H (pc' := 9) (L' := [(0, .ref 107), (1, .ref 49)]) h_m74 (z_at.mk 3 rfl rfl) rfl (u := .ref 108) rfl rfl rfl ?_
  refine w_p h_m74 2 (pc' := 12) (L' := [(0, .ref 107), (1, .ref 49)]) (st' := [.int (7 : Int32), .int (0 : Int32), .ref 108, .int (0 : Int32), .ref 50]) rfl ?_
  refine w_cpf H (ra := (0, 7, [(6, .int (1024 : Int32)), (5, .int (1 : Int32)), (4, .int (1 : Int32)), (3, .int (0 : Int32)), (2, .int (12 : Int32)), (1, .int (40 : Int32)), (0, .int (10 : Int32))], some (.int (0 : Int32)))) (pc' := 15) (L' := [(0, .ref 107), (1, .ref 49)]) h_m74 (z_at.mk 3 rfl rfl) rfl (z_cat_le 0 rfl (by decide)) rfl rfl rfl rfl (by decide) rfl rfl ?_
  clear H m; intro m H
  refine w_rv h_m74 (z_at.mk 1 rfl rfl) rfl ?_
  show z_W 998 145 27 [(0, .ref 39), (1, .int (12 : Int32))] [] m _
  refine w_p h_m145 1 (pc' := 28) (L' := [(0, .ref 39), (1, .int (12 : Int32))]) (st' := [.ref 39]) rfl ?_
  refine w_gf H (pc' := 31) (L' := [(0, .ref 39), (1, .int (12 : Int32))]) h_m145 (z_at.mk 3 rfl rfl) rfl (u := .ref 106) rfl rfl rfl ?_
  refine w_gf H (pc' := 34) (L' := [(0, .ref 39), (1, .int (12 : Int32))]) h_m145 (z_at.mk 3 rfl rfl) rfl (u := .ref 107) rfl rfl rfl ?_
  refine w_p h_m145 2 (pc' := 36) (L' := [(0, .ref 39), (1, .int (12 : Int32))]) (st' := [.int (12 : Int32), .int (1 : Int32), .ref 107]) rfl ?_
  refine w_cv (H.t rfl) (pc' := 39) (L' := [(0, .ref 39), (1, .int (12 : Int32))]) (rest := []) (Ps := [.int (1 : Int32), .int (12 : Int32)]) (L0 := [(0, .ref 107), (1, .int (1 : Int32)), (2, .int (12 : Int32))]) h_m145 (z_at.mk 3 rfl rfl) (Or.inl ⟨rfl, rfl⟩) rfl rfl (by decide) (by decide) rfl rfl rfl rfl rfl rfl (by decide) rfl rfl rfl ?_
  refine w_p h_m73 6 (pc' := 11) (L' := [(0, .ref 107), (1, .int (1 : Int32)), (2, .int (12 : Int32))]) (st' := [.ref 107]) rfl ?_
  refine w_gf H (pc' := 14) (L' := [(0, .ref 107), (1, .int (1 : Int32)), (2, .int (12 : Int32))]) h_m73 (z_at.mk 3 rfl rfl) rfl (u := .ref 108) rfl rfl rfl ?_
  refine w_p h_m73 2 (pc' := 16) (L' := [(0, .ref 107), (1, .int (1 : Int32)), (2, .int (12 : Int32))]) (st' := [.int (12 : Int32), .int (1 : Int32), .ref 108]) rfl ?_
  refine w_as H (t := 0) (j := 1) (u := .int (12 : Int32)) (0, 7, [(1, .int (12 : Int32)), (6, .int (1024 : Int32)), (5, .int (1 : Int32)), (4, .int (1 : Int32)), (3, .int (0 : Int32)), (2, .int (12 : Int32)), (0, .int (10 : Int32))], some (.int (0 : Int32))) (pc' := 17) (L' := []) h_m73 (z_at.mk 1 rfl rfl) rfl rfl (w_ui _ _ (by decide)) rfl rfl rfl rfl ?_
  clear H m; intro m H
  refine w_rv h_m73 (z_at.mk 1 rfl rfl) rfl ?_
  show z_W 998 145 39 [(0, .ref 39), (1, .int (12 : Int32))] [] m _
  refine w_p h_m145 4 (pc' := 43) (L' := [(0, .ref 39), (2, .int (0 : Int32))]) (st' := [.ref 39, .int (0 : Int32)]) rfl ?_
  refine w_gf H (pc' := 46) (L' := [(0, .ref 39), (2, .int (0 : Int32))]) h_m145 (z_at.mk 3 rfl rfl) rfl (u := .ref 40) rfl rfl rfl ?_
  refine w_gf H (pc' := 49) (L' := [(0, .ref 39), (2, .int (0 : Int32))]) h_m145 (z_at.mk 3 rfl rfl) rfl (u := .ref 63) rfl rfl rfl ?_
  refine w_gf H (pc' := 52) (L' := [(0, .ref 39), (2, .int (0 : Int32))]) h_m145 (z_at.mk 3 rfl rfl) rfl (u := .int (0 : Int32)) rfl rfl rfl ?_
  refine w_p h_m145 1 (pc' := 79) (L' := [(0, .ref 39), (2, .int (0 : Int32))]) (st' := []) rfl ?_
  refine w_rv h_m145 (z_at.mk 1 rfl rfl) rfl ?_
  show z_W 999 146 13 [(0, .ref 39), (1, .int (xs 1)), (2, .int (12 : Int32))] [] m _
  refine w_p h_m146 1 (pc' := 14) (L' := [(0, .ref 39), (1, .int (xs 1)), (2, .int (12 : Int32))]) (st' := [.ref 39]) rfl ?_
  refine w_gf H (pc' := 17) (L' := [(0, .ref 39), (1, .int (xs 1)), (2, .int (12 : Int32))]) h_m146 (z_at.mk 3 rfl rfl) rfl (u := .ref 106) rfl rfl rfl ?_
  refine w_gf H (pc' := 20) (L' := [(0, .ref 39), (1, .int (xs 1)), (2, .int (12 : Int32))]) h_m146 (z_at.mk 3 rfl rfl) rfl (u := .int (0 : Int32)) rfl rfl rfl ?_
  refine w_p h_m146 1 (pc' := 21) (L' := [(0, .ref 39), (1, .int (xs 1)), (2, .int (12 : Int32))]) (st' := [.int (xs 1), .int (0 : Int32)]) rfl ?_
  refine w_t2 (pc' := 26) (L' := [(0, .ref 39), (1, .int (xs 1)), (2, .int (12 : Int32))]) h_m146 (z_at.mk 3 rfl rfl) rfl (zc (a := 0) (b := (xs 1).toInt) rfl rfl (decide_eq_true (by omega))) rfl rfl ?_
  refine w_p h_m146 2 (pc' := 2) (L' := [(0, .ref 39), (1, .int (xs 1)), (2, .int (13 : Int32))]) (st' := []) rfl ?_
  exact hQ m (H.subC (by decide +kernel))
set_option maxHeartbeats 400000000 in
set_option maxRecDepth 20000 in
theorem w_turn_146_13 {xs : Nat → Int32} {m : zM} {Q : Option Value → zM → Prop} (hp : (xs 1).toInt < 0) (H : w_ok 6 xs 168 63950 ((106, (12, 18, [(15, .int (0 : Int32)), (14, .int (0 : Int32)), (13, .int (0 : Int32)), (12, .int (0 : Int32)), (11, .int (0 : Int32)), (10, .int (0 : Int32)), (9, .long (0 : Int64)), (8, .int (0 : Int32)), (2, .int (0 : Int32)), (0, .ref 41), (17, .ref 116), (16, .ref 114), (7, .ref 113), (6, .ref 112), (5, .ref 111), (4, .ref 110), (3, .ref 109), (1, .ref 107)], none)) :: (108, (0, 7, [(1, .int (12 : Int32)), (6, .int (1024 : Int32)), (5, .int (1 : Int32)), (4, .int (1 : Int32)), (3, .int (0 : Int32)), (2, .int (12 : Int32)), (0, .int (10 : Int32))], some (.int (0 : Int32)))) :: w_T0) m) (hQ : ∀ m, w_ok 6 xs 168 63950 ((106, (12, 18, [(15, .int (0 : Int32)), (14, .int (0 : Int32)), (13, .int (0 : Int32)), (12, .int (0 : Int32)), (11, .int (0 : Int32)), (10, .int (0 : Int32)), (9, .long (0 : Int64)), (8, .int (0 : Int32)), (2, .int (0 : Int32)), (0, .ref 41), (17, .ref 116), (16, .ref 114), (7, .ref 113), (6, .ref 112), (5, .ref 111), (4, .ref 110), (3, .ref 109), (1, .ref 107)], none)) :: (108, (0, 7, [(1, .int (13 : Int32)), (6, .int (1024 : Int32)), (5, .int (1 : Int32)), (4, .int (1 : Int32)), (3, .int (0 : Int32)), (2, .int (12 : Int32)), (0, .int (10 : Int32))], some (.int (0 : Int32)))) :: w_T0) m → z_W 999 146 2 [(0, .ref 39), (1, .int (xs 1)), (2, .int (14 : Int32))] [] m Q) : z_W 999 146 2 [(0, .ref 39), (1, .int (xs 1)), (2, .int (13 : Int32))] [] m Q := by
  refine w_p h_m146 5 (pc' := 10) (L' := [(0, .ref 39), (1, .int (xs 1)), (2, .int (13 : Int32))]) (st' := [.int (13 : Int32), .ref 39]) rfl ?_
  refine w_cv (H.t rfl) (pc' := 13) (L' := [(0, .ref 39), (1, .int (xs 1)), (2, .int (13 : Int32))]) (rest := []) (Ps := [.int (13 : Int32)]) (L0 := [(0, .ref 39), (1, .int (13 : Int32))]) h_m146 (z_at.mk 3 rfl rfl) (Or.inl ⟨rfl, rfl⟩) rfl rfl (by decide) (by decide) rfl rfl rfl rfl rfl rfl (by decide) rfl rfl rfl ?_
  refine w_p h_m145 1 (pc' := 1) (L' := [(0, .ref 39), (1, .int (13 : Int32))]) (st' := [.ref 39]) rfl ?_
  refine w_gf H (pc' := 4) (L' := [(0, .ref 39), (1, .int (13 : Int32))]) h_m145 (z_at.mk 3 rfl rfl) rfl (u := .ref 106) rfl rfl rfl ?_
  refine w_cv (H.t rfl) (pc' := 7) (L' := [(0, .ref 39), (1, .int (13 : Int32))]) (rest := []) (Ps := []) (L0 := [(0, .ref 106)]) h_m145 (z_at.mk 3 rfl rfl) (Or.inl ⟨rfl, rfl⟩) rfl rfl (by decide) (by decide) rfl rfl rfl rfl rfl rfl (by decide) rfl rfl rfl ?_
  refine w_p h_m20 2 (pc' := 2) (L' := [(0, .ref 106)]) (st' := [.int (0 : Int32), .ref 106]) rfl ?_
  refine w_pf H (12, 18, [(2, .int (0 : Int32)), (15, .int (0 : Int32)), (14, .int (0 : Int32)), (13, .int (0 : Int32)), (12, .int (0 : Int32)), (11, .int (0 : Int32)), (10, .int (0 : Int32)), (9, .long (0 : Int64)), (8, .int (0 : Int32)), (0, .ref 41), (17, .ref 116), (16, .ref 114), (7, .ref 113), (6, .ref 112), (5, .ref 111), (4, .ref 110), (3, .ref 109), (1, .ref 107)], none) (pc' := 5) (L' := [(0, .ref 106)]) h_m20 (z_at.mk 3 rfl rfl) rfl (by decide) rfl (Or.inl rfl) rfl rfl rfl ?_
  clear H m; intro m H
  refine w_p h_m20 2 (pc' := 7) (L' := [(0, .ref 106)]) (st' := [.int (0 : Int32), .ref 106]) rfl ?_
  refine w_pf H (12, 18, [(8, .int (0 : Int32)), (2, .int (0 : Int32)), (15, .int (0 : Int32)), (14, .int (0 : Int32)), (13, .int (0 : Int32)), (12, .int (0 : Int32)), (11, .int (0 : Int32)), (10, .int (0 : Int32)), (9, .long (0 : Int64)), (0, .ref 41), (17, .ref 116), (16, .ref 114), (7, .ref 113), (6, .ref 112), (5, .ref 111), (4, .ref 110), (3, .ref 109), (1, .ref 107)], none) (pc' := 10) (L' := [(0, .ref 106)]) h_m20 (z_at.mk 3 rfl rfl) rfl (by decide) rfl (Or.inl rfl) rfl rfl rfl ?_
  clear H m; intro m H
  refine w_p h_m20 2 (pc' := 12) (L' := [(0, .ref 106)]) (st' := [.long (0 : Int64), .ref 106]) rfl ?_
  refine w_pf H (12, 18, [(9, .long (0 : Int64)), (8, .int (0 : Int32)), (2, .int (0 : Int32)), (15, .int (0 : Int32)), (14, .int (0 : Int32)), (13, .int (0 : Int32)), (12, .int (0 : Int32)), (11, .int (0 : Int32)), (10, .int (0 : Int32)), (0, .ref 41), (17, .ref 116), (16, .ref 114), (7, .ref 113), (6, .ref 112), (5, .ref 111), (4, .ref 110), (3, .ref 109), (1, .ref 107)], none) (pc' := 15) (L' := [(0, .ref 106)]) h_m20 (z_at.mk 3 rfl rfl) rfl (by decide) rfl (Or.inl rfl) rfl rfl rfl ?_
  clear H m; intro m H
  refine w_p h_m20 2 (pc' := 17) (L' := [(0, .ref 106)]) (st' := [.int (0 : Int32), .ref 106]) rfl ?_
  refine w_pf H (12, 18, [(10, .int (0 : Int32)), (9, .long (0 : Int64)), (8, .int (0 : Int32)), (2, .int (0 : Int32)), (15, .int (0 : Int32)), (14, .int (0 : Int32)), (13, .int (0 : Int32)), (12, .int (0 : Int32)), (11, .int (0 : Int32)), (0, .ref 41), (17, .ref 116), (16, .ref 114), (7, .ref 113), (6, .ref 112), (5, .ref 111), (4, .ref 110), (3, .ref 109), (1, .ref 107)], none) (pc' := 20) (L' := [(0, .ref 106)]) h_m20 (z_at.mk 3 rfl rfl) rfl (by decide) rfl (Or.inl rfl) rfl rfl rfl ?_
  clear H m; intro m H
  refine w_p h_m20 2 (pc' := 22) (L' := [(0, .ref 106)]) (st' := [.int (0 : Int32), .ref 106]) rfl ?_
  refine w_pf H (12, 18, [(11, .int (0 : Int32)), (10, .int (0 : Int32)), (9, .long (0 : Int64)), (8, .int (0 : Int32)), (2, .int (0 : Int32)), (15, .int (0 : Int32)), (14, .int (0 : Int32)), (13, .int (0 : Int32)), (12, .int (0 : Int32)), (0, .ref 41), (17, .ref 116), (16, .ref 114), (7, .ref 113), (6, .ref 112), (5, .ref 111), (4, .ref 110), (3, .ref 109), (1, .ref 107)], none) (pc' := 25) (L' := [(0, .ref 106)]) h_m20 (z_at.mk 3 rfl rfl) rfl (by decide) rfl (Or.inl rfl) rfl rfl rfl ?_
  clear H m; intro m H
  refine w_p h_m20 2 (pc' := 27) (L' := [(0, .ref 106)]) (st' := [.int (0 : Int32), .ref 106]) rfl ?_
  refine w_pf H (12, 18, [(12, .int (0 : Int32)), (11, .int (0 : Int32)), (10, .int (0 : Int32)), (9, .long (0 : Int64)), (8, .int (0 : Int32)), (2, .int (0 : Int32)), (15, .int (0 : Int32)), (14, .int (0 : Int32)), (13, .int (0 : Int32)), (0, .ref 41), (17, .ref 116), (16, .ref 114), (7, .ref 113), (6, .ref 112), (5, .ref 111), (4, .ref 110), (3, .ref 109), (1, .ref 107)], none) (pc' := 30) (L' := [(0, .ref 106)]) h_m20 (z_at.mk 3 rfl rfl) rfl (by decide) rfl (Or.inl rfl) rfl rfl rfl ?_
  clear H m; intro m H
  refine w_p h_m20 2 (pc' := 32) (L' := [(0, .ref 106)]) (st' := [.int (0 : Int32), .ref 106]) rfl ?_
  refine w_pf H (12, 18, [(13, .int (0 : Int32)), (12, .int (0 : Int32)), (11, .int (0 : Int32)), (10, .int (0 : Int32)), (9, .long (0 : Int64)), (8, .int (0 : Int32)), (2, .int (0 : Int32)), (15, .int (0 : Int32)), (14, .int (0 : Int32)), (0, .ref 41), (17, .ref 116), (16, .ref 114), (7, .ref 113), (6, .ref 112), (5, .ref 111), (4, .ref 110), (3, .ref 109), (1, .ref 107)], none) (pc' := 35) (L' := [(0, .ref 106)]) h_m20 (z_at.mk 3 rfl rfl) rfl (by decide) rfl (Or.inl rfl) rfl rfl rfl ?_
  clear H m; intro m H
  refine w_p h_m20 2 (pc' := 37) (L' := [(0, .ref 106)]) (st' := [.int (0 : Int32), .ref 106]) rfl ?_
  refine w_pf H (12, 18, [(14, .int (0 : Int32)), (13, .int (0 : Int32)), (12, .int (0 : Int32)), (11, .int (0 : Int32)), (10, .int (0 : Int32)), (9, .long (0 : Int64)), (8, .int (0 : Int32)), (2, .int (0 : Int32)), (15, .int (0 : Int32)), (0, .ref 41), (17, .ref 116), (16, .ref 114), (7, .ref 113), (6, .ref 112), (5, .ref 111), (4, .ref 110), (3, .ref 109), (1, .ref 107)], none) (pc' := 40) (L' := [(0, .ref 106)]) h_m20 (z_at.mk 3 rfl rfl) rfl (by decide) rfl (Or.inl rfl) rfl rfl rfl ?_
  clear H m; intro m H
  refine w_p h_m20 2 (pc' := 42) (L' := [(0, .ref 106)]) (st' := [.int (0 : Int32), .ref 106]) rfl ?_
  refine w_pf H (12, 18, [(15, .int (0 : Int32)), (14, .int (0 : Int32)), (13, .int (0 : Int32)), (12, .int (0 : Int32)), (11, .int (0 : Int32)), (10, .int (0 : Int32)), (9, .long (0 : Int64)), (8, .int (0 : Int32)), (2, .int (0 : Int32)), (0, .ref 41), (17, .ref 116), (16, .ref 114), (7, .ref 113), (6, .ref 112), (5, .ref 111), (4, .ref 110), (3, .ref 109), (1, .ref 107)], none) (pc' := 45) (L' := [(0, .ref 106)]) h_m20 (z_at.mk 3 rfl rfl) rfl (by decide) rfl (Or.inl rfl) rfl rfl rfl ?_
  clear H m; intro m H
  refine w_rv h_m20 (z_at.mk 1 rfl rfl) rfl ?_
  show z_W 998 145 7 [(0, .ref 39), (1, .int (13 : Int32))] [] m _
  refine w_p h_m145 1 (pc' := 8) (L' := [(0, .ref 39), (1, .int (13 : Int32))]) (st' := [.ref 39]) rfl ?_
  refine w_gf H (pc' := 11) (L' := [(0, .ref 39), (1, .int (13 : Int32))]) h_m145 (z_at.mk 3 rfl rfl) rfl (u := .ref 106) rfl rfl rfl ?_
  refine w_gf H (pc' := 14) (L' := [(0, .ref 39), (1, .int (13 : Int32))]) h_m145 (z_at.mk 3 rfl rfl) rfl (u := .ref 107) rfl rfl rfl ?_
  refine w_p h_m145 1 (pc' := 15) (L' := [(0, .ref 39), (1, .int (13 : Int32))]) (st' := [.ref 39, .ref 107]) rfl ?_
  refine w_gf H (pc' := 18) (L' := [(0, .ref 39), (1, .int (13 : Int32))]) h_m145 (z_at.mk 3 rfl rfl) rfl (u := .ref 40) rfl rfl rfl ?_
  refine w_gf H (pc' := 21) (L' := [(0, .ref 39), (1, .int (13 : Int32))]) h_m145 (z_at.mk 3 rfl rfl) rfl (u := .ref 48) rfl rfl rfl ?_
  refine w_gf H (pc' := 24) (L' := [(0, .ref 39), (1, .int (13 : Int32))]) h_m145 (z_at.mk 3 rfl rfl) rfl (u := .ref 49) rfl rfl rfl ?_
  refine w_cv (H.t rfl) (pc' := 27) (L' := [(0, .ref 39), (1, .int (13 : Int32))]) (rest := []) (Ps := [.ref 49]) (L0 := [(0, .ref 107), (1, .ref 49)]) h_m145 (z_at.mk 3 rfl rfl) (Or.inl ⟨rfl, rfl⟩) rfl rfl (by decide) (by decide) rfl rfl rfl rfl rfl rfl (by decide) rfl rfl rfl ?_
  refine w_p h_m74 1 (pc' := 1) (L' := [(0, .ref 107), (1, .ref 49)]) (st' := [.ref 49]) rfl ?_
  refine w_gf H (pc' := 4) (L' := [(0, .ref 107), (1, .ref 49)]) h_m74 (z_at.mk 3 rfl rfl) rfl (u := .ref 50) rfl rfl rfl ?_
  refine w_p h_m74 2 (pc' := 6) (L' := [(0, .ref 107), (1, .ref 49)]) (st' := [.ref 107, .int (0 : Int32), .ref 50]) rfl ?_
  refine w_gf H (pc' := 9) (L' := [(0, .ref 107), (1, .ref 49)]) h_m74 (z_at.mk 3 rfl rfl) rfl (u := .ref 108) rfl rfl rfl ?_
  refine w_p h_m74 2 (pc' := 12) (L' := [(0, .ref 107), (1, .ref 49)]) (st' := [.int (7 : Int32), .int (0 : Int32), .ref 108, .int (0 : Int32), .ref 50]) rfl ?_
  refine w_cpf H (ra := (0, 7, [(6, .int (1024 : Int32)), (5, .int (1 : Int32)), (4, .int (1 : Int32)), (3, .int (0 : Int32)), (2, .int (12 : Int32)), (1, .int (40 : Int32)), (0, .int (10 : Int32))], some (.int (0 : Int32)))) (pc' := 15) (L' := [(0, .ref 107), (1, .ref 49)]) h_m74 (z_at.mk 3 rfl rfl) rfl (z_cat_le 0 rfl (by decide)) rfl rfl rfl rfl (by decide) rfl rfl ?_
  clear H m; intro m H
  refine w_rv h_m74 (z_at.mk 1 rfl rfl) rfl ?_
  show z_W 998 145 27 [(0, .ref 39), (1, .int (13 : Int32))] [] m _
  refine w_p h_m145 1 (pc' := 28) (L' := [(0, .ref 39), (1, .int (13 : Int32))]) (st' := [.ref 39]) rfl ?_
  refine w_gf H (pc' := 31) (L' := [(0, .ref 39), (1, .int (13 : Int32))]) h_m145 (z_at.mk 3 rfl rfl) rfl (u := .ref 106) rfl rfl rfl ?_
  refine w_gf H (pc' := 34) (L' := [(0, .ref 39), (1, .int (13 : Int32))]) h_m145 (z_at.mk 3 rfl rfl) rfl (u := .ref 107) rfl rfl rfl ?_
  refine w_p h_m145 2 (pc' := 36) (L' := [(0, .ref 39), (1, .int (13 : Int32))]) (st' := [.int (13 : Int32), .int (1 : Int32), .ref 107]) rfl ?_
  refine w_cv (H.t rfl) (pc' := 39) (L' := [(0, .ref 39), (1, .int (13 : Int32))]) (rest := []) (Ps := [.int (1 : Int32), .int (13 : Int32)]) (L0 := [(0, .ref 107), (1, .int (1 : Int32)), (2, .int (13 : Int32))]) h_m145 (z_at.mk 3 rfl rfl) (Or.inl ⟨rfl, rfl⟩) rfl rfl (by decide) (by decide) rfl rfl rfl rfl rfl rfl (by decide) rfl rfl rfl ?_
  refine w_p h_m73 6 (pc' := 11) (L' := [(0, .ref 107), (1, .int (1 : Int32)), (2, .int (13 : Int32))]) (st' := [.ref 107]) rfl ?_
  refine w_gf H (pc' := 14) (L' := [(0, .ref 107), (1, .int (1 : Int32)), (2, .int (13 : Int32))]) h_m73 (z_at.mk 3 rfl rfl) rfl (u := .ref 108) rfl rfl rfl ?_
  refine w_p h_m73 2 (pc' := 16) (L' := [(0, .ref 107), (1, .int (1 : Int32)), (2, .int (13 : Int32))]) (st' := [.int (13 : Int32), .int (1 : Int32), .ref 108]) rfl ?_
  refine w_as H (t := 0) (j := 1) (u := .int (13 : Int32)) (0, 7, [(1, .int (13 : Int32)), (6, .int (1024 : Int32)), (5, .int (1 : Int32)), (4, .int (1 : Int32)), (3, .int (0 : Int32)), (2, .int (12 : Int32)), (0, .int (10 : Int32))], some (.int (0 : Int32))) (pc' := 17) (L' := []) h_m73 (z_at.mk 1 rfl rfl) rfl rfl (w_ui _ _ (by decide)) rfl rfl rfl rfl ?_
  clear H m; intro m H
  refine w_rv h_m73 (z_at.mk 1 rfl rfl) rfl ?_
  show z_W 998 145 39 [(0, .ref 39), (1, .int (13 : Int32))] [] m _
  refine w_p h_m145 4 (pc' := 43) (L' := [(0, .ref 39), (2, .int (0 : Int32))]) (st' := [.ref 39, .int (0 : Int32)]) rfl ?_
  refine w_gf H (pc' := 46) (L' := [(0, .ref 39), (2, .int (0 : Int32))]) h_m145 (z_at.mk 3 rfl rfl) rfl (u := .ref 40) rfl rfl rfl ?_
  refine w_gf H (pc' := 49) (L' := [(0, .ref 39), (2, .int (0 : Int32))]) h_m145 (z_at.mk 3 rfl rfl) rfl (u := .ref 63) rfl rfl rfl ?_
  refine w_gf H (pc' := 52) (L' := [(0, .ref 39), (2, .int (0 : Int32))]) h_m145 (z_at.mk 3 rfl rfl) rfl (u := .int (0 : Int32)) rfl rfl rfl ?_
  refine w_p h_m145 1 (pc' := 79) (L' := [(0, .ref 39), (2, .int (0 : Int32))]) (st' := []) rfl ?_
  refine w_rv h_m145 (z_at.mk 1 rfl rfl) rfl ?_
  show z_W 999 146 13 [(0, .ref 39), (1, .int (xs 1)), (2, .int (13 : Int32))] [] m _
  refine w_p h_m146 1 (pc' := 14) (L' := [(0, .ref 39), (1, .int (xs 1)), (2, .int (13 : Int32))]) (st' := [.ref 39]) rfl ?_
  refine w_gf H (pc' := 17) (L' := [(0, .ref 39), (1, .int (xs 1)), (2, .int (13 : Int32))]) h_m146 (z_at.mk 3 rfl rfl) rfl (u := .ref 106) rfl rfl rfl ?_
  refine w_gf H (pc' := 20) (L' := [(0, .ref 39), (1, .int (xs 1)), (2, .int (13 : Int32))]) h_m146 (z_at.mk 3 rfl rfl) rfl (u := .int (0 : Int32)) rfl rfl rfl ?_
  refine w_p h_m146 1 (pc' := 21) (L' := [(0, .ref 39), (1, .int (xs 1)), (2, .int (13 : Int32))]) (st' := [.int (xs 1), .int (0 : Int32)]) rfl ?_
  refine w_t2 (pc' := 26) (L' := [(0, .ref 39), (1, .int (xs 1)), (2, .int (13 : Int32))]) h_m146 (z_at.mk 3 rfl rfl) rfl (zc (a := 0) (b := (xs 1).toInt) rfl rfl (decide_eq_true (by omega))) rfl rfl ?_
  refine w_p h_m146 2 (pc' := 2) (L' := [(0, .ref 39), (1, .int (xs 1)), (2, .int (14 : Int32))]) (st' := []) rfl ?_
  exact hQ m (H.subC (by decide +kernel))
set_option maxHeartbeats 400000000 in
set_option maxRecDepth 20000 in
theorem w_turn_146_14 {xs : Nat → Int32} {m : zM} {Q : Option Value → zM → Prop} (hp : (xs 1).toInt < 0) (H : w_ok 6 xs 168 63950 ((106, (12, 18, [(15, .int (0 : Int32)), (14, .int (0 : Int32)), (13, .int (0 : Int32)), (12, .int (0 : Int32)), (11, .int (0 : Int32)), (10, .int (0 : Int32)), (9, .long (0 : Int64)), (8, .int (0 : Int32)), (2, .int (0 : Int32)), (0, .ref 41), (17, .ref 116), (16, .ref 114), (7, .ref 113), (6, .ref 112), (5, .ref 111), (4, .ref 110), (3, .ref 109), (1, .ref 107)], none)) :: (108, (0, 7, [(1, .int (13 : Int32)), (6, .int (1024 : Int32)), (5, .int (1 : Int32)), (4, .int (1 : Int32)), (3, .int (0 : Int32)), (2, .int (12 : Int32)), (0, .int (10 : Int32))], some (.int (0 : Int32)))) :: w_T0) m) (hQ : ∀ m, w_ok 6 xs 168 63950 ((106, (12, 18, [(15, .int (0 : Int32)), (14, .int (0 : Int32)), (13, .int (0 : Int32)), (12, .int (0 : Int32)), (11, .int (0 : Int32)), (10, .int (0 : Int32)), (9, .long (0 : Int64)), (8, .int (0 : Int32)), (2, .int (0 : Int32)), (0, .ref 41), (17, .ref 116), (16, .ref 114), (7, .ref 113), (6, .ref 112), (5, .ref 111), (4, .ref 110), (3, .ref 109), (1, .ref 107)], none)) :: (108, (0, 7, [(1, .int (14 : Int32)), (6, .int (1024 : Int32)), (5, .int (1 : Int32)), (4, .int (1 : Int32)), (3, .int (0 : Int32)), (2, .int (12 : Int32)), (0, .int (10 : Int32))], some (.int (0 : Int32)))) :: w_T0) m → z_W 999 146 2 [(0, .ref 39), (1, .int (xs 1)), (2, .int (15 : Int32))] [] m Q) : z_W 999 146 2 [(0, .ref 39), (1, .int (xs 1)), (2, .int (14 : Int32))] [] m Q := by
  refine w_p h_m146 5 (pc' := 10) (L' := [(0, .ref 39), (1, .int (xs 1)), (2, .int (14 : Int32))]) (st' := [.int (14 : Int32), .ref 39]) rfl ?_
  refine w_cv (H.t rfl) (pc' := 13) (L' := [(0, .ref 39), (1, .int (xs 1)), (2, .int (14 : Int32))]) (rest := []) (Ps := [.int (14 : Int32)]) (L0 := [(0, .ref 39), (1, .int (14 : Int32))]) h_m146 (z_at.mk 3 rfl rfl) (Or.inl ⟨rfl, rfl⟩) rfl rfl (by decide) (by decide) rfl rfl rfl rfl rfl rfl (by decide) rfl rfl rfl ?_
  refine w_p h_m145 1 (pc' := 1) (L' := [(0, .ref 39), (1, .int (14 : Int32))]) (st' := [.ref 39]) rfl ?_
  refine w_gf H (pc' := 4) (L' := [(0, .ref 39), (1, .int (14 : Int32))]) h_m145 (z_at.mk 3 rfl rfl) rfl (u := .ref 106) rfl rfl rfl ?_
  refine w_cv (H.t rfl) (pc' := 7) (L' := [(0, .ref 39), (1, .int (14 : Int32))]) (rest := []) (Ps := []) (L0 := [(0, .ref 106)]) h_m145 (z_at.mk 3 rfl rfl) (Or.inl ⟨rfl, rfl⟩) rfl rfl (by decide) (by decide) rfl rfl rfl rfl rfl rfl (by decide) rfl rfl rfl ?_
  refine w_p h_m20 2 (pc' := 2) (L' := [(0, .ref 106)]) (st' := [.int (0 : Int32), .ref 106]) rfl ?_
  refine w_pf H (12, 18, [(2, .int (0 : Int32)), (15, .int (0 : Int32)), (14, .int (0 : Int32)), (13, .int (0 : Int32)), (12, .int (0 : Int32)), (11, .int (0 : Int32)), (10, .int (0 : Int32)), (9, .long (0 : Int64)), (8, .int (0 : Int32)), (0, .ref 41), (17, .ref 116), (16, .ref 114), (7, .ref 113), (6, .ref 112), (5, .ref 111), (4, .ref 110), (3, .ref 109), (1, .ref 107)], none) (pc' := 5) (L' := [(0, .ref 106)]) h_m20 (z_at.mk 3 rfl rfl) rfl (by decide) rfl (Or.inl rfl) rfl rfl rfl ?_
  clear H m; intro m H
  refine w_p h_m20 2 (pc' := 7) (L' := [(0, .ref 106)]) (st' := [.int (0 : Int32), .ref 106]) rfl ?_
  refine w_pf H (12, 18, [(8, .int (0 : Int32)), (2, .int (0 : Int32)), (15, .int (0 : Int32)), (14, .int (0 : Int32)), (13, .int (0 : Int32)), (12, .int (0 : Int32)), (11, .int (0 : Int32)), (10, .int (0 : Int32)), (9, .long (0 : Int64)), (0, .ref 41), (17, .ref 116), (16, .ref 114), (7, .ref 113), (6, .ref 112), (5, .ref 111), (4, .ref 110), (3, .ref 109), (1, .ref 107)], none) (pc' := 10) (L' := [(0, .ref 106)]) h_m20 (z_at.mk 3 rfl rfl) rfl (by decide) rfl (Or.inl rfl) rfl rfl rfl ?_
  clear H m; intro m H
  refine w_p h_m20 2 (pc' := 12) (L' := [(0, .ref 106)]) (st' := [.long (0 : Int64), .ref 106]) rfl ?_
  refine w_pf H (12, 18, [(9, .long (0 : Int64)), (8, .int (0 : Int32)), (2, .int (0 : Int32)), (15, .int (0 : Int32)), (14, .int (0 : Int32)), (13, .int (0 : Int32)), (12, .int (0 : Int32)), (11, .int (0 : Int32)), (10, .int (0 : Int32)), (0, .ref 41), (17, .ref 116), (16, .ref 114), (7, .ref 113), (6, .ref 112), (5, .ref 111), (4, .ref 110), (3, .ref 109), (1, .ref 107)], none) (pc' := 15) (L' := [(0, .ref 106)]) h_m20 (z_at.mk 3 rfl rfl) rfl (by decide) rfl (Or.inl rfl) rfl rfl rfl ?_
  clear H m; intro m H
  refine w_p h_m20 2 (pc' := 17) (L' := [(0, .ref 106)]) (st' := [.int (0 : Int32), .ref 106]) rfl ?_
  refine w_pf H (12, 18, [(10, .int (0 : Int32)), (9, .long (0 : Int64)), (8, .int (0 : Int32)), (2, .int (0 : Int32)), (15, .int (0 : Int32)), (14, .int (0 : Int32)), (13, .int (0 : Int32)), (12, .int (0 : Int32)), (11, .int (0 : Int32)), (0, .ref 41), (17, .ref 116), (16, .ref 114), (7, .ref 113), (6, .ref 112), (5, .ref 111), (4, .ref 110), (3, .ref 109), (1, .ref 107)], none) (pc' := 20) (L' := [(0, .ref 106)]) h_m20 (z_at.mk 3 rfl rfl) rfl (by decide) rfl (Or.inl rfl) rfl rfl rfl ?_
  clear H m; intro m H
  refine w_p h_m20 2 (pc' := 22) (L' := [(0, .ref 106)]) (st' := [.int (0 : Int32), .ref 106]) rfl ?_
  refine w_pf H (12, 18, [(11, .int (0 : Int32)), (10, .int (0 : Int32)), (9, .long (0 : Int64)), (8, .int (0 : Int32)), (2, .int (0 : Int32)), (15, .int (0 : Int32)), (14, .int (0 : Int32)), (13, .int (0 : Int32)), (12, .int (0 : Int32)), (0, .ref 41), (17, .ref 116), (16, .ref 114), (7, .ref 113), (6, .ref 112), (5, .ref 111), (4, .ref 110), (3, .ref 109), (1, .ref 107)], none) (pc' := 25) (L' := [(0, .ref 106)]) h_m20 (z_at.mk 3 rfl rfl) rfl (by decide) rfl (Or.inl rfl) rfl rfl rfl ?_
  clear H m; intro m H
  refine w_p h_m20 2 (pc' := 27) (L' := [(0, .ref 106)]) (st' := [.int (0 : Int32), .ref 106]) rfl ?_
  refine w_pf H (12, 18, [(12, .int (0 : Int32)), (11, .int (0 : Int32)), (10, .int (0 : Int32)), (9, .long (0 : Int64)), (8, .int (0 : Int32)), (2, .int (0 : Int32)), (15, .int (0 : Int32)), (14, .int (0 : Int32)), (13, .int (0 : Int32)), (0, .ref 41), (17, .ref 116), (16, .ref 114), (7, .ref 113), (6, .ref 112), (5, .ref 111), (4, .ref 110), (3, .ref 109), (1, .ref 107)], none) (pc' := 30) (L' := [(0, .ref 106)]) h_m20 (z_at.mk 3 rfl rfl) rfl (by decide) rfl (Or.inl rfl) rfl rfl rfl ?_
  clear H m; intro m H
  refine w_p h_m20 2 (pc' := 32) (L' := [(0, .ref 106)]) (st' := [.int (0 : Int32), .ref 106]) rfl ?_
  refine w_pf H (12, 18, [(13, .int (0 : Int32)), (12, .int (0 : Int32)), (11, .int (0 : Int32)), (10, .int (0 : Int32)), (9, .long (0 : Int64)), (8, .int (0 : Int32)), (2, .int (0 : Int32)), (15, .int (0 : Int32)), (14, .int (0 : Int32)), (0, .ref 41), (17, .ref 116), (16, .ref 114), (7, .ref 113), (6, .ref 112), (5, .ref 111), (4, .ref 110), (3, .ref 109), (1, .ref 107)], none) (pc' := 35) (L' := [(0, .ref 106)]) h_m20 (z_at.mk 3 rfl rfl) rfl (by decide) rfl (Or.inl rfl) rfl rfl rfl ?_
  clear H m; intro m H
  refine w_p h_m20 2 (pc' := 37) (L' := [(0, .ref 106)]) (st' := [.int (0 : Int32), .ref 106]) rfl ?_
  refine w_pf H (12, 18, [(14, .int (0 : Int32)), (13, .int (0 : Int32)), (12, .int (0 : Int32)), (11, .int (0 : Int32)), (10, .int (0 : Int32)), (9, .long (0 : Int64)), (8, .int (0 : Int32)), (2, .int (0 : Int32)), (15, .int (0 : Int32)), (0, .ref 41), (17, .ref 116), (16, .ref 114), (7, .ref 113), (6, .ref 112), (5, .ref 111), (4, .ref 110), (3, .ref 109), (1, .ref 107)], none) (pc' := 40) (L' := [(0, .ref 106)]) h_m20 (z_at.mk 3 rfl rfl) rfl (by decide) rfl (Or.inl rfl) rfl rfl rfl ?_
  clear H m; intro m H
  refine w_p h_m20 2 (pc' := 42) (L' := [(0, .ref 106)]) (st' := [.int (0 : Int32), .ref 106]) rfl ?_
  refine w_pf H (12, 18, [(15, .int (0 : Int32)), (14, .int (0 : Int32)), (13, .int (0 : Int32)), (12, .int (0 : Int32)), (11, .int (0 : Int32)), (10, .int (0 : Int32)), (9, .long (0 : Int64)), (8, .int (0 : Int32)), (2, .int (0 : Int32)), (0, .ref 41), (17, .ref 116), (16, .ref 114), (7, .ref 113), (6, .ref 112), (5, .ref 111), (4, .ref 110), (3, .ref 109), (1, .ref 107)], none) (pc' := 45) (L' := [(0, .ref 106)]) h_m20 (z_at.mk 3 rfl rfl) rfl (by decide) rfl (Or.inl rfl) rfl rfl rfl ?_
  clear H m; intro m H
  refine w_rv h_m20 (z_at.mk 1 rfl rfl) rfl ?_
  show z_W 998 145 7 [(0, .ref 39), (1, .int (14 : Int32))] [] m _
  refine w_p h_m145 1 (pc' := 8) (L' := [(0, .ref 39), (1, .int (14 : Int32))]) (st' := [.ref 39]) rfl ?_
  refine w_gf H (pc' := 11) (L' := [(0, .ref 39), (1, .int (14 : Int32))]) h_m145 (z_at.mk 3 rfl rfl) rfl (u := .ref 106) rfl rfl rfl ?_
  refine w_gf H (pc' := 14) (L' := [(0, .ref 39), (1, .int (14 : Int32))]) h_m145 (z_at.mk 3 rfl rfl) rfl (u := .ref 107) rfl rfl rfl ?_
  refine w_p h_m145 1 (pc' := 15) (L' := [(0, .ref 39), (1, .int (14 : Int32))]) (st' := [.ref 39, .ref 107]) rfl ?_
  refine w_gf H (pc' := 18) (L' := [(0, .ref 39), (1, .int (14 : Int32))]) h_m145 (z_at.mk 3 rfl rfl) rfl (u := .ref 40) rfl rfl rfl ?_
  refine w_gf H (pc' := 21) (L' := [(0, .ref 39), (1, .int (14 : Int32))]) h_m145 (z_at.mk 3 rfl rfl) rfl (u := .ref 48) rfl rfl rfl ?_
  refine w_gf H (pc' := 24) (L' := [(0, .ref 39), (1, .int (14 : Int32))]) h_m145 (z_at.mk 3 rfl rfl) rfl (u := .ref 49) rfl rfl rfl ?_
  refine w_cv (H.t rfl) (pc' := 27) (L' := [(0, .ref 39), (1, .int (14 : Int32))]) (rest := []) (Ps := [.ref 49]) (L0 := [(0, .ref 107), (1, .ref 49)]) h_m145 (z_at.mk 3 rfl rfl) (Or.inl ⟨rfl, rfl⟩) rfl rfl (by decide) (by decide) rfl rfl rfl rfl rfl rfl (by decide) rfl rfl rfl ?_
  refine w_p h_m74 1 (pc' := 1) (L' := [(0, .ref 107), (1, .ref 49)]) (st' := [.ref 49]) rfl ?_
  refine w_gf H (pc' := 4) (L' := [(0, .ref 107), (1, .ref 49)]) h_m74 (z_at.mk 3 rfl rfl) rfl (u := .ref 50) rfl rfl rfl ?_
  refine w_p h_m74 2 (pc' := 6) (L' := [(0, .ref 107), (1, .ref 49)]) (st' := [.ref 107, .int (0 : Int32), .ref 50]) rfl ?_
  refine w_gf H (pc' := 9) (L' := [(0, .ref 107), (1, .ref 49)]) h_m74 (z_at.mk 3 rfl rfl) rfl (u := .ref 108) rfl rfl rfl ?_
  refine w_p h_m74 2 (pc' := 12) (L' := [(0, .ref 107), (1, .ref 49)]) (st' := [.int (7 : Int32), .int (0 : Int32), .ref 108, .int (0 : Int32), .ref 50]) rfl ?_
  refine w_cpf H (ra := (0, 7, [(6, .int (1024 : Int32)), (5, .int (1 : Int32)), (4, .int (1 : Int32)), (3, .int (0 : Int32)), (2, .int (12 : Int32)), (1, .int (40 : Int32)), (0, .int (10 : Int32))], some (.int (0 : Int32)))) (pc' := 15) (L' := [(0, .ref 107), (1, .ref 49)]) h_m74 (z_at.mk 3 rfl rfl) rfl (z_cat_le 0 rfl (by decide)) rfl rfl rfl rfl (by decide) rfl rfl ?_
  clear H m; intro m H
  refine w_rv h_m74 (z_at.mk 1 rfl rfl) rfl ?_
  show z_W 998 145 27 [(0, .ref 39), (1, .int (14 : Int32))] [] m _
  refine w_p h_m145 1 (pc' := 28) (L' := [(0, .ref 39), (1, .int (14 : Int32))]) (st' := [.ref 39]) rfl ?_
  refine w_gf H (pc' := 31) (L' := [(0, .ref 39), (1, .int (14 : Int32))]) h_m145 (z_at.mk 3 rfl rfl) rfl (u := .ref 106) rfl rfl rfl ?_
  refine w_gf H (pc' := 34) (L' := [(0, .ref 39), (1, .int (14 : Int32))]) h_m145 (z_at.mk 3 rfl rfl) rfl (u := .ref 107) rfl rfl rfl ?_
  refine w_p h_m145 2 (pc' := 36) (L' := [(0, .ref 39), (1, .int (14 : Int32))]) (st' := [.int (14 : Int32), .int (1 : Int32), .ref 107]) rfl ?_
  refine w_cv (H.t rfl) (pc' := 39) (L' := [(0, .ref 39), (1, .int (14 : Int32))]) (rest := []) (Ps := [.int (1 : Int32), .int (14 : Int32)]) (L0 := [(0, .ref 107), (1, .int (1 : Int32)), (2, .int (14 : Int32))]) h_m145 (z_at.mk 3 rfl rfl) (Or.inl ⟨rfl, rfl⟩) rfl rfl (by decide) (by decide) rfl rfl rfl rfl rfl rfl (by decide) rfl rfl rfl ?_
  refine w_p h_m73 6 (pc' := 11) (L' := [(0, .ref 107), (1, .int (1 : Int32)), (2, .int (14 : Int32))]) (st' := [.ref 107]) rfl ?_
  refine w_gf H (pc' := 14) (L' := [(0, .ref 107), (1, .int (1 : Int32)), (2, .int (14 : Int32))]) h_m73 (z_at.mk 3 rfl rfl) rfl (u := .ref 108) rfl rfl rfl ?_
  refine w_p h_m73 2 (pc' := 16) (L' := [(0, .ref 107), (1, .int (1 : Int32)), (2, .int (14 : Int32))]) (st' := [.int (14 : Int32), .int (1 : Int32), .ref 108]) rfl ?_
  refine w_as H (t := 0) (j := 1) (u := .int (14 : Int32)) (0, 7, [(1, .int (14 : Int32)), (6, .int (1024 : Int32)), (5, .int (1 : Int32)), (4, .int (1 : Int32)), (3, .int (0 : Int32)), (2, .int (12 : Int32)), (0, .int (10 : Int32))], some (.int (0 : Int32))) (pc' := 17) (L' := []) h_m73 (z_at.mk 1 rfl rfl) rfl rfl (w_ui _ _ (by decide)) rfl rfl rfl rfl ?_
  clear H m; intro m H
  refine w_rv h_m73 (z_at.mk 1 rfl rfl) rfl ?_
  show z_W 998 145 39 [(0, .ref 39), (1, .int (14 : Int32))] [] m _
  refine w_p h_m145 4 (pc' := 43) (L' := [(0, .ref 39), (2, .int (0 : Int32))]) (st' := [.ref 39, .int (0 : Int32)]) rfl ?_
  refine w_gf H (pc' := 46) (L' := [(0, .ref 39), (2, .int (0 : Int32))]) h_m145 (z_at.mk 3 rfl rfl) rfl (u := .ref 40) rfl rfl rfl ?_
  refine w_gf H (pc' := 49) (L' := [(0, .ref 39), (2, .int (0 : Int32))]) h_m145 (z_at.mk 3 rfl rfl) rfl (u := .ref 63) rfl rfl rfl ?_
  refine w_gf H (pc' := 52) (L' := [(0, .ref 39), (2, .int (0 : Int32))]) h_m145 (z_at.mk 3 rfl rfl) rfl (u := .int (0 : Int32)) rfl rfl rfl ?_
  refine w_p h_m145 1 (pc' := 79) (L' := [(0, .ref 39), (2, .int (0 : Int32))]) (st' := []) rfl ?_
  refine w_rv h_m145 (z_at.mk 1 rfl rfl) rfl ?_
  show z_W 999 146 13 [(0, .ref 39), (1, .int (xs 1)), (2, .int (14 : Int32))] [] m _
  refine w_p h_m146 1 (pc' := 14) (L' := [(0, .ref 39), (1, .int (xs 1)), (2, .int (14 : Int32))]) (st' := [.ref 39]) rfl ?_
  refine w_gf H (pc' := 17) (L' := [(0, .ref 39), (1, .int (xs 1)), (2, .int (14 : Int32))]) h_m146 (z_at.mk 3 rfl rfl) rfl (u := .ref 106) rfl rfl rfl ?_
  refine w_gf H (pc' := 20) (L' := [(0, .ref 39), (1, .int (xs 1)), (2, .int (14 : Int32))]) h_m146 (z_at.mk 3 rfl rfl) rfl (u := .int (0 : Int32)) rfl rfl rfl ?_
  refine w_p h_m146 1 (pc' := 21) (L' := [(0, .ref 39), (1, .int (xs 1)), (2, .int (14 : Int32))]) (st' := [.int (xs 1), .int (0 : Int32)]) rfl ?_
  refine w_t2 (pc' := 26) (L' := [(0, .ref 39), (1, .int (xs 1)), (2, .int (14 : Int32))]) h_m146 (z_at.mk 3 rfl rfl) rfl (zc (a := 0) (b := (xs 1).toInt) rfl rfl (decide_eq_true (by omega))) rfl rfl ?_
  refine w_p h_m146 2 (pc' := 2) (L' := [(0, .ref 39), (1, .int (xs 1)), (2, .int (15 : Int32))]) (st' := []) rfl ?_
  exact hQ m (H.subC (by decide +kernel))
set_option maxHeartbeats 400000000 in
set_option maxRecDepth 20000 in
theorem w_turn_146_15 {xs : Nat → Int32} {m : zM} {Q : Option Value → zM → Prop} (hp : (xs 1).toInt < 0) (H : w_ok 6 xs 168 63950 ((106, (12, 18, [(15, .int (0 : Int32)), (14, .int (0 : Int32)), (13, .int (0 : Int32)), (12, .int (0 : Int32)), (11, .int (0 : Int32)), (10, .int (0 : Int32)), (9, .long (0 : Int64)), (8, .int (0 : Int32)), (2, .int (0 : Int32)), (0, .ref 41), (17, .ref 116), (16, .ref 114), (7, .ref 113), (6, .ref 112), (5, .ref 111), (4, .ref 110), (3, .ref 109), (1, .ref 107)], none)) :: (108, (0, 7, [(1, .int (14 : Int32)), (6, .int (1024 : Int32)), (5, .int (1 : Int32)), (4, .int (1 : Int32)), (3, .int (0 : Int32)), (2, .int (12 : Int32)), (0, .int (10 : Int32))], some (.int (0 : Int32)))) :: w_T0) m) (hQ : ∀ m, w_ok 6 xs 168 63950 ((106, (12, 18, [(15, .int (0 : Int32)), (14, .int (0 : Int32)), (13, .int (0 : Int32)), (12, .int (0 : Int32)), (11, .int (0 : Int32)), (10, .int (0 : Int32)), (9, .long (0 : Int64)), (8, .int (0 : Int32)), (2, .int (0 : Int32)), (0, .ref 41), (17, .ref 116), (16, .ref 114), (7, .ref 113), (6, .ref 112), (5, .ref 111), (4, .ref 110), (3, .ref 109), (1, .ref 107)], none)) :: (108, (0, 7, [(1, .int (15 : Int32)), (6, .int (1024 : Int32)), (5, .int (1 : Int32)), (4, .int (1 : Int32)), (3, .int (0 : Int32)), (2, .int (12 : Int32)), (0, .int (10 : Int32))], some (.int (0 : Int32)))) :: w_T0) m → z_W 999 146 2 [(0, .ref 39), (1, .int (xs 1)), (2, .int (16 : Int32))] [] m Q) : z_W 999 146 2 [(0, .ref 39), (1, .int (xs 1)), (2, .int (15 : Int32))] [] m Q := by
  refine w_p h_m146 5 (pc' := 10) (L' := [(0, .ref 39), (1, .int (xs 1)), (2, .int (15 : Int32))]) (st' := [.int (15 : Int32), .ref 39]) rfl ?_
  refine w_cv (H.t rfl) (pc' := 13) (L' := [(0, .ref 39), (1, .int (xs 1)), (2, .int (15 : Int32))]) (rest := []) (Ps := [.int (15 : Int32)]) (L0 := [(0, .ref 39), (1, .int (15 : Int32))]) h_m146 (z_at.mk 3 rfl rfl) (Or.inl ⟨rfl, rfl⟩) rfl rfl (by decide) (by decide) rfl rfl rfl rfl rfl rfl (by decide) rfl rfl rfl ?_
  refine w_p h_m145 1 (pc' := 1) (L' := [(0, .ref 39), (1, .int (15 : Int32))]) (st' := [.ref 39]) rfl ?_
  refine w_gf H (pc' := 4) (L' := [(0, .ref 39), (1, .int (15 : Int32))]) h_m145 (z_at.mk 3 rfl rfl) rfl (u := .ref 106) rfl rfl rfl ?_
  refine w_cv (H.t rfl) (pc' := 7) (L' := [(0, .ref 39), (1, .int (15 : Int32))]) (rest := []) (Ps := []) (L0 := [(0, .ref 106)]) h_m145 (z_at.mk 3 rfl rfl) (Or.inl ⟨rfl, rfl⟩) rfl rfl (by decide) (by decide) rfl rfl rfl rfl rfl rfl (by decide) rfl rfl rfl ?_
  refine w_p h_m20 2 (pc' := 2) (L' := [(0, .ref 106)]) (st' := [.int (0 : Int32), .ref 106]) rfl ?_
  refine w_pf H (12, 18, [(2, .int (0 : Int32)), (15, .int (0 : Int32)), (14, .int (0 : Int32)), (13, .int (0 : Int32)), (12, .int (0 : Int32)), (11, .int (0 : Int32)), (10, .int (0 : Int32)), (9, .long (0 : Int64)), (8, .int (0 : Int32)), (0, .ref 41), (17, .ref 116), (16, .ref 114), (7, .ref 113), (6, .ref 112), (5, .ref 111), (4, .ref 110), (3, .ref 109), (1, .ref 107)], none) (pc' := 5) (L' := [(0, .ref 106)]) h_m20 (z_at.mk 3 rfl rfl) rfl (by decide) rfl (Or.inl rfl) rfl rfl rfl ?_
  clear H m; intro m H
  refine w_p h_m20 2 (pc' := 7) (L' := [(0, .ref 106)]) (st' := [.int (0 : Int32), .ref 106]) rfl ?_
  refine w_pf H (12, 18, [(8, .int (0 : Int32)), (2, .int (0 : Int32)), (15, .int (0 : Int32)), (14, .int (0 : Int32)), (13, .int (0 : Int32)), (12, .int (0 : Int32)), (11, .int (0 : Int32)), (10, .int (0 : Int32)), (9, .long (0 : Int64)), (0, .ref 41), (17, .ref 116), (16, .ref 114), (7, .ref 113), (6, .ref 112), (5, .ref 111), (4, .ref 110), (3, .ref 109), (1, .ref 107)], none) (pc' := 10) (L' := [(0, .ref 106)]) h_m20 (z_at.mk 3 rfl rfl) rfl (by decide) rfl (Or.inl rfl) rfl rfl rfl ?_
  clear H m; intro m H
  refine w_p h_m20 2 (pc' := 12) (L' := [(0, .ref 106)]) (st' := [.long (0 : Int64), .ref 106]) rfl ?_
  refine w_pf H (12, 18, [(9, .long (0 : Int64)), (8, .int (0 : Int32)), (2, .int (0 : Int32)), (15, .int (0 : Int32)), (14, .int (0 : Int32)), (13, .int (0 : Int32)), (12, .int (0 : Int32)), (11, .int (0 : Int32)), (10, .int (0 : Int32)), (0, .ref 41), (17, .ref 116), (16, .ref 114), (7, .ref 113), (6, .ref 112), (5, .ref 111), (4, .ref 110), (3, .ref 109), (1, .ref 107)], none) (pc' := 15) (L' := [(0, .ref 106)]) h_m20 (z_at.mk 3 rfl rfl) rfl (by decide) rfl (Or.inl rfl) rfl rfl rfl ?_
  clear H m; intro m H
  refine w_p h_m20 2 (pc' := 17) (L' := [(0, .ref 106)]) (st' := [.int (0 : Int32), .ref 106]) rfl ?_
  refine w_pf H (12, 18, [(10, .int (0 : Int32)), (9, .long (0 : Int64)), (8, .int (0 : Int32)), (2, .int (0 : Int32)), (15, .int (0 : Int32)), (14, .int (0 : Int32)), (13, .int (0 : Int32)), (12, .int (0 : Int32)), (11, .int (0 : Int32)), (0, .ref 41), (17, .ref 116), (16, .ref 114), (7, .ref 113), (6, .ref 112), (5, .ref 111), (4, .ref 110), (3, .ref 109), (1, .ref 107)], none) (pc' := 20) (L' := [(0, .ref 106)]) h_m20 (z_at.mk 3 rfl rfl) rfl (by decide) rfl (Or.inl rfl) rfl rfl rfl ?_
  clear H m; intro m H
  refine w_p h_m20 2 (pc' := 22) (L' := [(0, .ref 106)]) (st' := [.int (0 : Int32), .ref 106]) rfl ?_
  refine w_pf H (12, 18, [(11, .int (0 : Int32)), (10, .int (0 : Int32)), (9, .long (0 : Int64)), (8, .int (0 : Int32)), (2, .int (0 : Int32)), (15, .int (0 : Int32)), (14, .int (0 : Int32)), (13, .int (0 : Int32)), (12, .int (0 : Int32)), (0, .ref 41), (17, .ref 116), (16, .ref 114), (7, .ref 113), (6, .ref 112), (5, .ref 111), (4, .ref 110), (3, .ref 109), (1, .ref 107)], none) (pc' := 25) (L' := [(0, .ref 106)]) h_m20 (z_at.mk 3 rfl rfl) rfl (by decide) rfl (Or.inl rfl) rfl rfl rfl ?_
  clear H m; intro m H
  refine w_p h_m20 2 (pc' := 27) (L' := [(0, .ref 106)]) (st' := [.int (0 : Int32), .ref 106]) rfl ?_
  refine w_pf H (12, 18, [(12, .int (0 : Int32)), (11, .int (0 : Int32)), (10, .int (0 : Int32)), (9, .long (0 : Int64)), (8, .int (0 : Int32)), (2, .int (0 : Int32)), (15, .int (0 : Int32)), (14, .int (0 : Int32)), (13, .int (0 : Int32)), (0, .ref 41), (17, .ref 116), (16, .ref 114), (7, .ref 113), (6, .ref 112), (5, .ref 111), (4, .ref 110), (3, .ref 109), (1, .ref 107)], none) (pc' := 30) (L' := [(0, .ref 106)]) h_m20 (z_at.mk 3 rfl rfl) rfl (by decide) rfl (Or.inl rfl) rfl rfl rfl ?_
  clear H m; intro m H
  refine w_p h_m20 2 (pc' := 32) (L' := [(0, .ref 106)]) (st' := [.int (0 : Int32), .ref 106]) rfl ?_
  refine w_pf H (12, 18, [(13, .int (0 : Int32)), (12, .int (0 : Int32)), (11, .int (0 : Int32)), (10, .int (0 : Int32)), (9, .long (0 : Int64)), (8, .int (0 : Int32)), (2, .int (0 : Int32)), (15, .int (0 : Int32)), (14, .int (0 : Int32)), (0, .ref 41), (17, .ref 116), (16, .ref 114), (7, .ref 113), (6, .ref 112), (5, .ref 111), (4, .ref 110), (3, .ref 109), (1, .ref 107)], none) (pc' := 35) (L' := [(0, .ref 106)]) h_m20 (z_at.mk 3 rfl rfl) rfl (by decide) rfl (Or.inl rfl) rfl rfl rfl ?_
  clear H m; intro m H
  refine w_p h_m20 2 (pc' := 37) (L' := [(0, .ref 106)]) (st' := [.int (0 : Int32), .ref 106]) rfl ?_
  refine w_pf H (12, 18, [(14, .int (0 : Int32)), (13, .int (0 : Int32)), (12, .int (0 : Int32)), (11, .int (0 : Int32)), (10, .int (0 : Int32)), (9, .long (0 : Int64)), (8, .int (0 : Int32)), (2, .int (0 : Int32)), (15, .int (0 : Int32)), (0, .ref 41), (17, .ref 116), (16, .ref 114), (7, .ref 113), (6, .ref 112), (5, .ref 111), (4, .ref 110), (3, .ref 109), (1, .ref 107)], none) (pc' := 40) (L' := [(0, .ref 106)]) h_m20 (z_at.mk 3 rfl rfl) rfl (by decide) rfl (Or.inl rfl) rfl rfl rfl ?_
  clear H m; intro m H
  refine w_p h_m20 2 (pc' := 42) (L' := [(0, .ref 106)]) (st' := [.int (0 : Int32), .ref 106]) rfl ?_
  refine w_pf H (12, 18, [(15, .int (0 : Int32)), (14, .int (0 : Int32)), (13, .int (0 : Int32)), (12, .int (0 : Int32)), (11, .int (0 : Int32)), (10, .int (0 : Int32)), (9, .long (0 : Int64)), (8, .int (0 : Int32)), (2, .int (0 : Int32)), (0, .ref 41), (17, .ref 116), (16, .ref 114), (7, .ref 113), (6, .ref 112), (5, .ref 111), (4, .ref 110), (3, .ref 109), (1, .ref 107)], none) (pc' := 45) (L' := [(0, .ref 106)]) h_m20 (z_at.mk 3 rfl rfl) rfl (by decide) rfl (Or.inl rfl) rfl rfl rfl ?_
  clear H m; intro m H
  refine w_rv h_m20 (z_at.mk 1 rfl rfl) rfl ?_
  show z_W 998 145 7 [(0, .ref 39), (1, .int (15 : Int32))] [] m _
  refine w_p h_m145 1 (pc' := 8) (L' := [(0, .ref 39), (1, .int (15 : Int32))]) (st' := [.ref 39]) rfl ?_
  refine w_gf H (pc' := 11) (L' := [(0, .ref 39), (1, .int (15 : Int32))]) h_m145 (z_at.mk 3 rfl rfl) rfl (u := .ref 106) rfl rfl rfl ?_
  refine w_gf H (pc' := 14) (L' := [(0, .ref 39), (1, .int (15 : Int32))]) h_m145 (z_at.mk 3 rfl rfl) rfl (u := .ref 107) rfl rfl rfl ?_
  refine w_p h_m145 1 (pc' := 15) (L' := [(0, .ref 39), (1, .int (15 : Int32))]) (st' := [.ref 39, .ref 107]) rfl ?_
  refine w_gf H (pc' := 18) (L' := [(0, .ref 39), (1, .int (15 : Int32))]) h_m145 (z_at.mk 3 rfl rfl) rfl (u := .ref 40) rfl rfl rfl ?_
  refine w_gf H (pc' := 21) (L' := [(0, .ref 39), (1, .int (15 : Int32))]) h_m145 (z_at.mk 3 rfl rfl) rfl (u := .ref 48) rfl rfl rfl ?_
  refine w_gf H (pc' := 24) (L' := [(0, .ref 39), (1, .int (15 : Int32))]) h_m145 (z_at.mk 3 rfl rfl) rfl (u := .ref 49) rfl rfl rfl ?_
  refine w_cv (H.t rfl) (pc' := 27) (L' := [(0, .ref 39), (1, .int (15 : Int32))]) (rest := []) (Ps := [.ref 49]) (L0 := [(0, .ref 107), (1, .ref 49)]) h_m145 (z_at.mk 3 rfl rfl) (Or.inl ⟨rfl, rfl⟩) rfl rfl (by decide) (by decide) rfl rfl rfl rfl rfl rfl (by decide) rfl rfl rfl ?_
  refine w_p h_m74 1 (pc' := 1) (L' := [(0, .ref 107), (1, .ref 49)]) (st' := [.ref 49]) rfl ?_
  refine w_gf H (pc' := 4) (L' := [(0, .ref 107), (1, .ref 49)]) h_m74 (z_at.mk 3 rfl rfl) rfl (u := .ref 50) rfl rfl rfl ?_
  refine w_p h_m74 2 (pc' := 6) (L' := [(0, .ref 107), (1, .ref 49)]) (st' := [.ref 107, .int (0 : Int32), .ref 50]) rfl ?_
  refine w_gf H (pc' := 9) (L' := [(0, .ref 107), (1, .ref 49)]) h_m74 (z_at.mk 3 rfl rfl) rfl (u := .ref 108) rfl rfl rfl ?_
  refine w_p h_m74 2 (pc' := 12) (L' := [(0, .ref 107), (1, .ref 49)]) (st' := [.int (7 : Int32), .int (0 : Int32), .ref 108, .int (0 : Int32), .ref 50]) rfl ?_
  refine w_cpf H (ra := (0, 7, [(6, .int (1024 : Int32)), (5, .int (1 : Int32)), (4, .int (1 : Int32)), (3, .int (0 : Int32)), (2, .int (12 : Int32)), (1, .int (40 : Int32)), (0, .int (10 : Int32))], some (.int (0 : Int32)))) (pc' := 15) (L' := [(0, .ref 107), (1, .ref 49)]) h_m74 (z_at.mk 3 rfl rfl) rfl (z_cat_le 0 rfl (by decide)) rfl rfl rfl rfl (by decide) rfl rfl ?_
  clear H m; intro m H
  refine w_rv h_m74 (z_at.mk 1 rfl rfl) rfl ?_
  show z_W 998 145 27 [(0, .ref 39), (1, .int (15 : Int32))] [] m _
  refine w_p h_m145 1 (pc' := 28) (L' := [(0, .ref 39), (1, .int (15 : Int32))]) (st' := [.ref 39]) rfl ?_
  refine w_gf H (pc' := 31) (L' := [(0, .ref 39), (1, .int (15 : Int32))]) h_m145 (z_at.mk 3 rfl rfl) rfl (u := .ref 106) rfl rfl rfl ?_
  refine w_gf H (pc' := 34) (L' := [(0, .ref 39), (1, .int (15 : Int32))]) h_m145 (z_at.mk 3 rfl rfl) rfl (u := .ref 107) rfl rfl rfl ?_
  refine w_p h_m145 2 (pc' := 36) (L' := [(0, .ref 39), (1, .int (15 : Int32))]) (st' := [.int (15 : Int32), .int (1 : Int32), .ref 107]) rfl ?_
  refine w_cv (H.t rfl) (pc' := 39) (L' := [(0, .ref 39), (1, .int (15 : Int32))]) (rest := []) (Ps := [.int (1 : Int32), .int (15 : Int32)]) (L0 := [(0, .ref 107), (1, .int (1 : Int32)), (2, .int (15 : Int32))]) h_m145 (z_at.mk 3 rfl rfl) (Or.inl ⟨rfl, rfl⟩) rfl rfl (by decide) (by decide) rfl rfl rfl rfl rfl rfl (by decide) rfl rfl rfl ?_
  refine w_p h_m73 6 (pc' := 11) (L' := [(0, .ref 107), (1, .int (1 : Int32)), (2, .int (15 : Int32))]) (st' := [.ref 107]) rfl ?_
  refine w_gf H (pc' := 14) (L' := [(0, .ref 107), (1, .int (1 : Int32)), (2, .int (15 : Int32))]) h_m73 (z_at.mk 3 rfl rfl) rfl (u := .ref 108) rfl rfl rfl ?_
  refine w_p h_m73 2 (pc' := 16) (L' := [(0, .ref 107), (1, .int (1 : Int32)), (2, .int (15 : Int32))]) (st' := [.int (15 : Int32), .int (1 : Int32), .ref 108]) rfl ?_
  refine w_as H (t := 0) (j := 1) (u := .int (15 : Int32)) (0, 7, [(1, .int (15 : Int32)), (6, .int (1024 : Int32)), (5, .int (1 : Int32)), (4, .int (1 : Int32)), (3, .int (0 : Int32)), (2, .int (12 : Int32)), (0, .int (10 : Int32))], some (.int (0 : Int32))) (pc' := 17) (L' := []) h_m73 (z_at.mk 1 rfl rfl) rfl rfl (w_ui _ _ (by decide)) rfl rfl rfl rfl ?_
  clear H m; intro m H
  refine w_rv h_m73 (z_at.mk 1 rfl rfl) rfl ?_
  show z_W 998 145 39 [(0, .ref 39), (1, .int (15 : Int32))] [] m _
  refine w_p h_m145 4 (pc' := 43) (L' := [(0, .ref 39), (2, .int (0 : Int32))]) (st' := [.ref 39, .int (0 : Int32)]) rfl ?_
  refine w_gf H (pc' := 46) (L' := [(0, .ref 39), (2, .int (0 : Int32))]) h_m145 (z_at.mk 3 rfl rfl) rfl (u := .ref 40) rfl rfl rfl ?_
  refine w_gf H (pc' := 49) (L' := [(0, .ref 39), (2, .int (0 : Int32))]) h_m145 (z_at.mk 3 rfl rfl) rfl (u := .ref 63) rfl rfl rfl ?_
  refine w_gf H (pc' := 52) (L' := [(0, .ref 39), (2, .int (0 : Int32))]) h_m145 (z_at.mk 3 rfl rfl) rfl (u := .int (0 : Int32)) rfl rfl rfl ?_
  refine w_p h_m145 1 (pc' := 79) (L' := [(0, .ref 39), (2, .int (0 : Int32))]) (st' := []) rfl ?_
  refine w_rv h_m145 (z_at.mk 1 rfl rfl) rfl ?_
  show z_W 999 146 13 [(0, .ref 39), (1, .int (xs 1)), (2, .int (15 : Int32))] [] m _
  refine w_p h_m146 1 (pc' := 14) (L' := [(0, .ref 39), (1, .int (xs 1)), (2, .int (15 : Int32))]) (st' := [.ref 39]) rfl ?_
  refine w_gf H (pc' := 17) (L' := [(0, .ref 39), (1, .int (xs 1)), (2, .int (15 : Int32))]) h_m146 (z_at.mk 3 rfl rfl) rfl (u := .ref 106) rfl rfl rfl ?_
  refine w_gf H (pc' := 20) (L' := [(0, .ref 39), (1, .int (xs 1)), (2, .int (15 : Int32))]) h_m146 (z_at.mk 3 rfl rfl) rfl (u := .int (0 : Int32)) rfl rfl rfl ?_
  refine w_p h_m146 1 (pc' := 21) (L' := [(0, .ref 39), (1, .int (xs 1)), (2, .int (15 : Int32))]) (st' := [.int (xs 1), .int (0 : Int32)]) rfl ?_
  refine w_t2 (pc' := 26) (L' := [(0, .ref 39), (1, .int (xs 1)), (2, .int (15 : Int32))]) h_m146 (z_at.mk 3 rfl rfl) rfl (zc (a := 0) (b := (xs 1).toInt) rfl rfl (decide_eq_true (by omega))) rfl rfl ?_
  refine w_p h_m146 2 (pc' := 2) (L' := [(0, .ref 39), (1, .int (xs 1)), (2, .int (16 : Int32))]) (st' := []) rfl ?_
  exact hQ m (H.subC (by decide +kernel))
set_option maxHeartbeats 400000000 in
set_option maxRecDepth 20000 in
theorem w_turn_146_16 {xs : Nat → Int32} {m : zM} {Q : Option Value → zM → Prop} (hp : (xs 1).toInt < 0) (H : w_ok 6 xs 168 63950 ((106, (12, 18, [(15, .int (0 : Int32)), (14, .int (0 : Int32)), (13, .int (0 : Int32)), (12, .int (0 : Int32)), (11, .int (0 : Int32)), (10, .int (0 : Int32)), (9, .long (0 : Int64)), (8, .int (0 : Int32)), (2, .int (0 : Int32)), (0, .ref 41), (17, .ref 116), (16, .ref 114), (7, .ref 113), (6, .ref 112), (5, .ref 111), (4, .ref 110), (3, .ref 109), (1, .ref 107)], none)) :: (108, (0, 7, [(1, .int (15 : Int32)), (6, .int (1024 : Int32)), (5, .int (1 : Int32)), (4, .int (1 : Int32)), (3, .int (0 : Int32)), (2, .int (12 : Int32)), (0, .int (10 : Int32))], some (.int (0 : Int32)))) :: w_T0) m) (hQ : ∀ m, w_ok 6 xs 168 63950 ((106, (12, 18, [(15, .int (0 : Int32)), (14, .int (0 : Int32)), (13, .int (0 : Int32)), (12, .int (0 : Int32)), (11, .int (0 : Int32)), (10, .int (0 : Int32)), (9, .long (0 : Int64)), (8, .int (0 : Int32)), (2, .int (0 : Int32)), (0, .ref 41), (17, .ref 116), (16, .ref 114), (7, .ref 113), (6, .ref 112), (5, .ref 111), (4, .ref 110), (3, .ref 109), (1, .ref 107)], none)) :: (108, (0, 7, [(1, .int (16 : Int32)), (6, .int (1024 : Int32)), (5, .int (1 : Int32)), (4, .int (1 : Int32)), (3, .int (0 : Int32)), (2, .int (12 : Int32)), (0, .int (10 : Int32))], some (.int (0 : Int32)))) :: w_T0) m → z_W 999 146 2 [(0, .ref 39), (1, .int (xs 1)), (2, .int (17 : Int32))] [] m Q) : z_W 999 146 2 [(0, .ref 39), (1, .int (xs 1)), (2, .int (16 : Int32))] [] m Q := by
  refine w_p h_m146 5 (pc' := 10) (L' := [(0, .ref 39), (1, .int (xs 1)), (2, .int (16 : Int32))]) (st' := [.int (16 : Int32), .ref 39]) rfl ?_
  refine w_cv (H.t rfl) (pc' := 13) (L' := [(0, .ref 39), (1, .int (xs 1)), (2, .int (16 : Int32))]) (rest := []) (Ps := [.int (16 : Int32)]) (L0 := [(0, .ref 39), (1, .int (16 : Int32))]) h_m146 (z_at.mk 3 rfl rfl) (Or.inl ⟨rfl, rfl⟩) rfl rfl (by decide) (by decide) rfl rfl rfl rfl rfl rfl (by decide) rfl rfl rfl ?_
  refine w_p h_m145 1 (pc' := 1) (L' := [(0, .ref 39), (1, .int (16 : Int32))]) (st' := [.ref 39]) rfl ?_
  refine w_gf H (pc' := 4) (L' := [(0, .ref 39), (1, .int (16 : Int32))]) h_m145 (z_at.mk 3 rfl rfl) rfl (u := .ref 106) rfl rfl rfl ?_
  refine w_cv (H.t rfl) (pc' := 7) (L' := [(0, .ref 39), (1, .int (16 : Int32))]) (rest := []) (Ps := []) (L0 := [(0, .ref 106)]) h_m145 (z_at.mk 3 rfl rfl) (Or.inl ⟨rfl, rfl⟩) rfl rfl (by decide) (by decide) rfl rfl rfl rfl rfl rfl (by decide) rfl rfl rfl ?_
  refine w_p h_m20 2 (pc' := 2) (L' := [(0, .ref 106)]) (st' := [.int (0 : Int32), .ref 106]) rfl ?_
  refine w_pf H (12, 18, [(2, .int (0 : Int32)), (15, .int (0 : Int32)), (14, .int (0 : Int32)), (13, .int (0 : Int32)), (12, .int (0 : Int32)), (11, .int (0 : Int32)), (10, .int (0 : Int32)), (9, .long (0 : Int64)), (8, .int (0 : Int32)), (0, .ref 41), (17, .ref 116), (16, .ref 114), (7, .ref 113), (6, .ref 112), (5, .ref 111), (4, .ref 110), (3, .ref 109), (1, .ref 107)], none) (pc' := 5) (L' := [(0, .ref 106)]) h_m20 (z_at.mk 3 rfl rfl) rfl (by decide) rfl (Or.inl rfl) rfl rfl rfl ?_
  clear H m; intro m H
  refine w_p h_m20 2 (pc' := 7) (L' := [(0, .ref 106)]) (st' := [.int (0 : Int32), .ref 106]) rfl ?_
  refine w_pf H (12, 18, [(8, .int (0 : Int32)), (2, .int (0 : Int32)), (15, .int (0 : Int32)), (14, .int (0 : Int32)), (13, .int (0 : Int32)), (12, .int (0 : Int32)), (11, .int (0 : Int32)), (10, .int (0 : Int32)), (9, .long (0 : Int64)), (0, .ref 41), (17, .ref 116), (16, .ref 114), (7, .ref 113), (6, .ref 112), (5, .ref 111), (4, .ref 110), (3, .ref 109), (1, .ref 107)], none) (pc' := 10) (L' := [(0, .ref 106)]) h_m20 (z_at.mk 3 rfl rfl) rfl (by decide) rfl (Or.inl rfl) rfl rfl rfl ?_
  clear H m; intro m H
  refine w_p h_m20 2 (pc' := 12) (L' := [(0, .ref 106)]) (st' := [.long (0 : Int64), .ref 106]) rfl ?_
  refine w_pf H (12, 18, [(9, .long (0 : Int64)), (8, .int (0 : Int32)), (2, .int (0 : Int32)), (15, .int (0 : Int32)), (14, .int (0 : Int32)), (13, .int (0 : Int32)), (12, .int (0 : Int32)), (11, .int (0 : Int32)), (10, .int (0 : Int32)), (0, .ref 41), (17, .ref 116), (16, .ref 114), (7, .ref 113), (6, .ref 112), (5, .ref 111), (4, .ref 110), (3, .ref 109), (1, .ref 107)], none) (pc' := 15) (L' := [(0, .ref 106)]) h_m20 (z_at.mk 3 rfl rfl) rfl (by decide) rfl (Or.inl rfl) rfl rfl rfl ?_
  clear H m; intro m H
  refine w_p h_m20 2 (pc' := 17) (L' := [(0, .ref 106)]) (st' := [.int (0 : Int32), .ref 106]) rfl ?_
  refine w_pf H (12, 18, [(10, .int (0 : Int32)), (9, .long (0 : Int64)), (8, .int (0 : Int32)), (2, .int (0 : Int32)), (15, .int (0 : Int32)), (14, .int (0 : Int32)), (13, .int (0 : Int32)), (12, .int (0 : Int32)), (11, .int (0 : Int32)), (0, .ref 41), (17, .ref 116), (16, .ref 114), (7, .ref 113), (6, .ref 112), (5, .ref 111), (4, .ref 110), (3, .ref 109), (1, .ref 107)], none) (pc' := 20) (L' := [(0, .ref 106)]) h_m20 (z_at.mk 3 rfl rfl) rfl (by decide) rfl (Or.inl rfl) rfl rfl rfl ?_
  clear H m; intro m H
  refine w_p h_m20 2 (pc' := 22) (L' := [(0, .ref 106)]) (st' := [.int (0 : Int32), .ref 106]) rfl ?_
  refine w_pf H (12, 18, [(11, .int (0 : Int32)), (10, .int (0 : Int32)), (9, .long (0 : Int64)), (8, .int (0 : Int32)), (2, .int (0 : Int32)), (15, .int (0 : Int32)), (14, .int (0 : Int32)), (13, .int (0 : Int32)), (12, .int (0 : Int32)), (0, .ref 41), (17, .ref 116), (16, .ref 114), (7, .ref 113), (6, .ref 112), (5, .ref 111), (4, .ref 110), (3, .ref 109), (1, .ref 107)], none) (pc' := 25) (L' := [(0, .ref 106)]) h_m20 (z_at.mk 3 rfl rfl) rfl (by decide) rfl (Or.inl rfl) rfl rfl rfl ?_
  clear H m; intro m H
  refine w_p h_m20 2 (pc' := 27) (L' := [(0, .ref 106)]) (st' := [.int (0 : Int32), .ref 106]) rfl ?_
  refine w_pf H (12, 18, [(12, .int (0 : Int32)), (11, .int (0 : Int32)), (10, .int (0 : Int32)), (9, .long (0 : Int64)), (8, .int (0 : Int32)), (2, .int (0 : Int32)), (15, .int (0 : Int32)), (14, .int (0 : Int32)), (13, .int (0 : Int32)), (0, .ref 41), (17, .ref 116), (16, .ref 114), (7, .ref 113), (6, .ref 112), (5, .ref 111), (4, .ref 110), (3, .ref 109), (1, .ref 107)], none) (pc' := 30) (L' := [(0, .ref 106)]) h_m20 (z_at.mk 3 rfl rfl) rfl (by decide) rfl (Or.inl rfl) rfl rfl rfl ?_
  clear H m; intro m H
  refine w_p h_m20 2 (pc' := 32) (L' := [(0, .ref 106)]) (st' := [.int (0 : Int32), .ref 106]) rfl ?_
  refine w_pf H (12, 18, [(13, .int (0 : Int32)), (12, .int (0 : Int32)), (11, .int (0 : Int32)), (10, .int (0 : Int32)), (9, .long (0 : Int64)), (8, .int (0 : Int32)), (2, .int (0 : Int32)), (15, .int (0 : Int32)), (14, .int (0 : Int32)), (0, .ref 41), (17, .ref 116), (16, .ref 114), (7, .ref 113), (6, .ref 112), (5, .ref 111), (4, .ref 110), (3, .ref 109), (1, .ref 107)], none) (pc' := 35) (L' := [(0, .ref 106)]) h_m20 (z_at.mk 3 rfl rfl) rfl (by decide) rfl (Or.inl rfl) rfl rfl rfl ?_
  clear H m; intro m H
  refine w_p h_m20 2 (pc' := 37) (L' := [(0, .ref 106)]) (st' := [.int (0 : Int32), .ref 106]) rfl ?_
  refine w_pf H (12, 18, [(14, .int (0 : Int32)), (13, .int (0 : Int32)), (12, .int (0 : Int32)), (11, .int (0 : Int32)), (10, .int (0 : Int32)), (9, .long (0 : Int64)), (8, .int (0 : Int32)), (2, .int (0 : Int32)), (15, .int (0 : Int32)), (0, .ref 41), (17, .ref 116), (16, .ref 114), (7, .ref 113), (6, .ref 112), (5, .ref 111), (4, .ref 110), (3, .ref 109), (1, .ref 107)], none) (pc' := 40) (L' := [(0, .ref 106)]) h_m20 (z_at.mk 3 rfl rfl) rfl (by decide) rfl (Or.inl rfl) rfl rfl rfl ?_
  clear H m; intro m H
  refine w_p h_m20 2 (pc' := 42) (L' := [(0, .ref 106)]) (st' := [.int (0 : Int32), .ref 106]) rfl ?_
  refine w_pf H (12, 18, [(15, .int (0 : Int32)), (14, .int (0 : Int32)), (13, .int (0 : Int32)), (12, .int (0 : Int32)), (11, .int (0 : Int32)), (10, .int (0 : Int32)), (9, .long (0 : Int64)), (8, .int (0 : Int32)), (2, .int (0 : Int32)), (0, .ref 41), (17, .ref 116), (16, .ref 114), (7, .ref 113), (6, .ref 112), (5, .ref 111), (4, .ref 110), (3, .ref 109), (1, .ref 107)], none) (pc' := 45) (L' := [(0, .ref 106)]) h_m20 (z_at.mk 3 rfl rfl) rfl (by decide) rfl (Or.inl rfl) rfl rfl rfl ?_
  clear H m; intro m H
  refine w_rv h_m20 (z_at.mk 1 rfl rfl) rfl ?_
  show z_W 998 145 7 [(0, .ref 39), (1, .int (16 : Int32))] [] m _
  refine w_p h_m145 1 (pc' := 8) (L' := [(0, .ref 39), (1, .int (16 : Int32))]) (st' := [.ref 39]) rfl ?_
  refine w_gf H (pc' := 11) (L' := [(0, .ref 39), (1, .int (16 : Int32))]) h_m145 (z_at.mk 3 rfl rfl) rfl (u := .ref 106) rfl rfl rfl ?_
  refine w_gf H (pc' := 14) (L' := [(0, .ref 39), (1, .int (16 : Int32))]) h_m145 (z_at.mk 3 rfl rfl) rfl (u := .ref 107) rfl rfl rfl ?_
  refine w_p h_m145 1 (pc' := 15) (L' := [(0, .ref 39), (1, .int (16 : Int32))]) (st' := [.ref 39, .ref 107]) rfl ?_
  refine w_gf H (pc' := 18) (L' := [(0, .ref 39), (1, .int (16 : Int32))]) h_m145 (z_at.mk 3 rfl rfl) rfl (u := .ref 40) rfl rfl rfl ?_
  refine w_gf H (pc' := 21) (L' := [(0, .ref 39), (1, .int (16 : Int32))]) h_m145 (z_at.mk 3 rfl rfl) rfl (u := .ref 48) rfl rfl rfl ?_
  refine w_gf H (pc' := 24) (L' := [(0, .ref 39), (1, .int (16 : Int32))]) h_m145 (z_at.mk 3 rfl rfl) rfl (u := .ref 49) rfl rfl rfl ?_
  refine w_cv (H.t rfl) (pc' := 27) (L' := [(0, .ref 39), (1, .int (16 : Int32))]) (rest := []) (Ps := [.ref 49]) (L0 := [(0, .ref 107), (1, .ref 49)]) h_m145 (z_at.mk 3 rfl rfl) (Or.inl ⟨rfl, rfl⟩) rfl rfl (by decide) (by decide) rfl rfl rfl rfl rfl rfl (by decide) rfl rfl rfl ?_
  refine w_p h_m74 1 (pc' := 1) (L' := [(0, .ref 107), (1, .ref 49)]) (st' := [.ref 49]) rfl ?_
  refine w_gf H (pc' := 4) (L' := [(0, .ref 107), (1, .ref 49)]) h_m74 (z_at.mk 3 rfl rfl) rfl (u := .ref 50) rfl rfl rfl ?_
  refine w_p h_m74 2 (pc' := 6) (L' := [(0, .ref 107), (1, .ref 49)]) (st' := [.ref 107, .int (0 : Int32), .ref 50]) rfl ?_
  refine w_gf H (pc' := 9) (L' := [(0, .ref 107), (1, .ref 49)]) h_m74 (z_at.mk 3 rfl rfl) rfl (u := .ref 108) rfl rfl rfl ?_
  refine w_p h_m74 2 (pc' := 12) (L' := [(0, .ref 107), (1, .ref 49)]) (st' := [.int (7 : Int32), .int (0 : Int32), .ref 108, .int (0 : Int32), .ref 50]) rfl ?_
  refine w_cpf H (ra := (0, 7, [(6, .int (1024 : Int32)), (5, .int (1 : Int32)), (4, .int (1 : Int32)), (3, .int (0 : Int32)), (2, .int (12 : Int32)), (1, .int (40 : Int32)), (0, .int (10 : Int32))], some (.int (0 : Int32)))) (pc' := 15) (L' := [(0, .ref 107), (1, .ref 49)]) h_m74 (z_at.mk 3 rfl rfl) rfl (z_cat_le 0 rfl (by decide)) rfl rfl rfl rfl (by decide) rfl rfl ?_
  clear H m; intro m H
  refine w_rv h_m74 (z_at.mk 1 rfl rfl) rfl ?_
  show z_W 998 145 27 [(0, .ref 39), (1, .int (16 : Int32))] [] m _
  refine w_p h_m145 1 (pc' := 28) (L' := [(0, .ref 39), (1, .int (16 : Int32))]) (st' := [.ref 39]) rfl ?_
  refine w_gf H (pc' := 31) (L' := [(0, .ref 39), (1, .int (16 : Int32))]) h_m145 (z_at.mk 3 rfl rfl) rfl (u := .ref 106) rfl rfl rfl ?_
  refine w_gf H (pc' := 34) (L' := [(0, .ref 39), (1, .int (16 : Int32))]) h_m145 (z_at.mk 3 rfl rfl) rfl (u := .ref 107) rfl rfl rfl ?_
  refine w_p h_m145 2 (pc' := 36) (L' := [(0, .ref 39), (1, .int (16 : Int32))]) (st' := [.int (16 : Int32), .int (1 : Int32), .ref 107]) rfl ?_
  refine w_cv (H.t rfl) (pc' := 39) (L' := [(0, .ref 39), (1, .int (16 : Int32))]) (rest := []) (Ps := [.int (1 : Int32), .int (16 : Int32)]) (L0 := [(0, .ref 107), (1, .int (1 : Int32)), (2, .int (16 : Int32))]) h_m145 (z_at.mk 3 rfl rfl) (Or.inl ⟨rfl, rfl⟩) rfl rfl (by decide) (by decide) rfl rfl rfl rfl rfl rfl (by decide) rfl rfl rfl ?_
  refine w_p h_m73 6 (pc' := 11) (L' := [(0, .ref 107), (1, .int (1 : Int32)), (2, .int (16 : Int32))]) (st' := [.ref 107]) rfl ?_
  refine w_gf H (pc' := 14) (L' := [(0, .ref 107), (1, .int (1 : Int32)), (2, .int (16 : Int32))]) h_m73 (z_at.mk 3 rfl rfl) rfl (u := .ref 108) rfl rfl rfl ?_
  refine w_p h_m73 2 (pc' := 16) (L' := [(0, .ref 107), (1, .int (1 : Int32)), (2, .int (16 : Int32))]) (st' := [.int (16 : Int32), .int (1 : Int32), .ref 108]) rfl ?_
  refine w_as H (t := 0) (j := 1) (u := .int (16 : Int32)) (0, 7, [(1, .int (16 : Int32)), (6, .int (1024 : Int32)), (5, .int (1 : Int32)), (4, .int (1 : Int32)), (3, .int (0 : Int32)), (2, .int (12 : Int32)), (0, .int (10 : Int32))], some (.int (0 : Int32))) (pc' := 17) (L' := []) h_m73 (z_at.mk 1 rfl rfl) rfl rfl (w_ui _ _ (by decide)) rfl rfl rfl rfl ?_
  clear H m; intro m H
  refine w_rv h_m73 (z_at.mk 1 rfl rfl) rfl ?_
  show z_W 998 145 39 [(0, .ref 39), (1, .int (16 : Int32))] [] m _
  refine w_p h_m145 4 (pc' := 43) (L' := [(0, .ref 39), (2, .int (0 : Int32))]) (st' := [.ref 39, .int (0 : Int32)]) rfl ?_
  refine w_gf H (pc' := 46) (L' := [(0, .ref 39), (2, .int (0 : Int32))]) h_m145 (z_at.mk 3 rfl rfl) rfl (u := .ref 40) rfl rfl rfl ?_
  refine w_gf H (pc' := 49) (L' := [(0, .ref 39), (2, .int (0 : Int32))]) h_m145 (z_at.mk 3 rfl rfl) rfl (u := .ref 63) rfl rfl rfl ?_
  refine w_gf H (pc' := 52) (L' := [(0, .ref 39), (2, .int (0 : Int32))]) h_m145 (z_at.mk 3 rfl rfl) rfl (u := .int (0 : Int32)) rfl rfl rfl ?_
  refine w_p h_m145 1 (pc' := 79) (L' := [(0, .ref 39), (2, .int (0 : Int32))]) (st' := []) rfl ?_
  refine w_rv h_m145 (z_at.mk 1 rfl rfl) rfl ?_
  show z_W 999 146 13 [(0, .ref 39), (1, .int (xs 1)), (2, .int (16 : Int32))] [] m _
  refine w_p h_m146 1 (pc' := 14) (L' := [(0, .ref 39), (1, .int (xs 1)), (2, .int (16 : Int32))]) (st' := [.ref 39]) rfl ?_
  refine w_gf H (pc' := 17) (L' := [(0, .ref 39), (1, .int (xs 1)), (2, .int (16 : Int32))]) h_m146 (z_at.mk 3 rfl rfl) rfl (u := .ref 106) rfl rfl rfl ?_
  refine w_gf H (pc' := 20) (L' := [(0, .ref 39), (1, .int (xs 1)), (2, .int (16 : Int32))]) h_m146 (z_at.mk 3 rfl rfl) rfl (u := .int (0 : Int32)) rfl rfl rfl ?_
  refine w_p h_m146 1 (pc' := 21) (L' := [(0, .ref 39), (1, .int (xs 1)), (2, .int (16 : Int32))]) (st' := [.int (xs 1), .int (0 : Int32)]) rfl ?_
  refine w_t2 (pc' := 26) (L' := [(0, .ref 39), (1, .int (xs 1)), (2, .int (16 : Int32))]) h_m146 (z_at.mk 3 rfl rfl) rfl (zc (a := 0) (b := (xs 1).toInt) rfl rfl (decide_eq_true (by omega))) rfl rfl ?_
  refine w_p h_m146 2 (pc' := 2) (L' := [(0, .ref 39), (1, .int (xs 1)), (2, .int (17 : Int32))]) (st' := []) rfl ?_
  exact hQ m (H.subC (by decide +kernel))
set_option maxHeartbeats 400000000 in
set_option maxRecDepth 20000 in
theorem w_turn_146_17 {xs : Nat → Int32} {m : zM} {Q : Option Value → zM → Prop} (hp : (xs 1).toInt < 0) (H : w_ok 6 xs 168 63950 ((106, (12, 18, [(15, .int (0 : Int32)), (14, .int (0 : Int32)), (13, .int (0 : Int32)), (12, .int (0 : Int32)), (11, .int (0 : Int32)), (10, .int (0 : Int32)), (9, .long (0 : Int64)), (8, .int (0 : Int32)), (2, .int (0 : Int32)), (0, .ref 41), (17, .ref 116), (16, .ref 114), (7, .ref 113), (6, .ref 112), (5, .ref 111), (4, .ref 110), (3, .ref 109), (1, .ref 107)], none)) :: (108, (0, 7, [(1, .int (16 : Int32)), (6, .int (1024 : Int32)), (5, .int (1 : Int32)), (4, .int (1 : Int32)), (3, .int (0 : Int32)), (2, .int (12 : Int32)), (0, .int (10 : Int32))], some (.int (0 : Int32)))) :: w_T0) m) (hQ : ∀ m, w_ok 6 xs 168 63950 ((106, (12, 18, [(15, .int (0 : Int32)), (14, .int (0 : Int32)), (13, .int (0 : Int32)), (12, .int (0 : Int32)), (11, .int (0 : Int32)), (10, .int (0 : Int32)), (9, .long (0 : Int64)), (8, .int (0 : Int32)), (2, .int (0 : Int32)), (0, .ref 41), (17, .ref 116), (16, .ref 114), (7, .ref 113), (6, .ref 112), (5, .ref 111), (4, .ref 110), (3, .ref 109), (1, .ref 107)], none)) :: (108, (0, 7, [(1, .int (17 : Int32)), (6, .int (1024 : Int32)), (5, .int (1 : Int32)), (4, .int (1 : Int32)), (3, .int (0 : Int32)), (2, .int (12 : Int32)), (0, .int (10 : Int32))], some (.int (0 : Int32)))) :: w_T0) m → z_W 999 146 2 [(0, .ref 39), (1, .int (xs 1)), (2, .int (18 : Int32))] [] m Q) : z_W 999 146 2 [(0, .ref 39), (1, .int (xs 1)), (2, .int (17 : Int32))] [] m Q := by
  refine w_p h_m146 5 (pc' := 10) (L' := [(0, .ref 39), (1, .int (xs 1)), (2, .int (17 : Int32))]) (st' := [.int (17 : Int32), .ref 39]) rfl ?_
  refine w_cv (H.t rfl) (pc' := 13) (L' := [(0, .ref 39), (1, .int (xs 1)), (2, .int (17 : Int32))]) (rest := []) (Ps := [.int (17 : Int32)]) (L0 := [(0, .ref 39), (1, .int (17 : Int32))]) h_m146 (z_at.mk 3 rfl rfl) (Or.inl ⟨rfl, rfl⟩) rfl rfl (by decide) (by decide) rfl rfl rfl rfl rfl rfl (by decide) rfl rfl rfl ?_
  refine w_p h_m145 1 (pc' := 1) (L' := [(0, .ref 39), (1, .int (17 : Int32))]) (st' := [.ref 39]) rfl ?_
  refine w_gf H (pc' := 4) (L' := [(0, .ref 39), (1, .int (17 : Int32))]) h_m145 (z_at.mk 3 rfl rfl) rfl (u := .ref 106) rfl rfl rfl ?_
  refine w_cv (H.t rfl) (pc' := 7) (L' := [(0, .ref 39), (1, .int (17 : Int32))]) (rest := []) (Ps := []) (L0 := [(0, .ref 106)]) h_m145 (z_at.mk 3 rfl rfl) (Or.inl ⟨rfl, rfl⟩) rfl rfl (by decide) (by decide) rfl rfl rfl rfl rfl rfl (by decide) rfl rfl rfl ?_
  refine w_p h_m20 2 (pc' := 2) (L' := [(0, .ref 106)]) (st' := [.int (0 : Int32), .ref 106]) rfl ?_
  refine w_pf H (12, 18, [(2, .int (0 : Int32)), (15, .int (0 : Int32)), (14, .int (0 : Int32)), (13, .int (0 : Int32)), (12, .int (0 : Int32)), (11, .int (0 : Int32)), (10, .int (0 : Int32)), (9, .long (0 : Int64)), (8, .int (0 : Int32)), (0, .ref 41), (17, .ref 116), (16, .ref 114), (7, .ref 113), (6, .ref 112), (5, .ref 111), (4, .ref 110), (3, .ref 109), (1, .ref 107)], none) (pc' := 5) (L' := [(0, .ref 106)]) h_m20 (z_at.mk 3 rfl rfl) rfl (by decide) rfl (Or.inl rfl) rfl rfl rfl ?_
  clear H m; intro m H
  refine w_p h_m20 2 (pc' := 7) (L' := [(0, .ref 106)]) (st' := [.int (0 : Int32), .ref 106]) rfl ?_
  refine w_pf H (12, 18, [(8, .int (0 : Int32)), (2, .int (0 : Int32)), (15, .int (0 : Int32)), (14, .int (0 : Int32)), (13, .int (0 : Int32)), (12, .int (0 : Int32)), (11, .int (0 : Int32)), (10, .int (0 : Int32)), (9, .long (0 : Int64)), (0, .ref 41), (17, .ref 116), (16, .ref 114), (7, .ref 113), (6, .ref 112), (5, .ref 111), (4, .ref 110), (3, .ref 109), (1, .ref 107)], none) (pc' := 10) (L' := [(0, .ref 106)]) h_m20 (z_at.mk 3 rfl rfl) rfl (by decide) rfl (Or.inl rfl) rfl rfl rfl ?_
  clear H m; intro m H
  refine w_p h_m20 2 (pc' := 12) (L' := [(0, .ref 106)]) (st' := [.long (0 : Int64), .ref 106]) rfl ?_
  refine w_pf H (12, 18, [(9, .long (0 : Int64)), (8, .int (0 : Int32)), (2, .int (0 : Int32)), (15, .int (0 : Int32)), (14, .int (0 : Int32)), (13, .int (0 : Int32)), (12, .int (0 : Int32)), (11, .int (0 : Int32)), (10, .int (0 : Int32)), (0, .ref 41), (17, .ref 116), (16, .ref 114), (7, .ref 113), (6, .ref 112), (5, .ref 111), (4, .ref 110), (3, .ref 109), (1, .ref 107)], none) (pc' := 15) (L' := [(0, .ref 106)]) h_m20 (z_at.mk 3 rfl rfl) rfl (by decide) rfl (Or.inl rfl) rfl rfl rfl ?_
  clear H m; intro m H
  refine w_p h_m20 2 (pc' := 17) (L' := [(0, .ref 106)]) (st' := [.int (0 : Int32), .ref 106]) rfl ?_
  refine w_pf H (12, 18, [(10, .int (0 : Int32)), (9, .long (0 : Int64)), (8, .int (0 : Int32)), (2, .int (0 : Int32)), (15, .int (0 : Int32)), (14, .int (0 : Int32)), (13, .int (0 : Int32)), (12, .int (0 : Int32)), (11, .int (0 : Int32)), (0, .ref 41), (17, .ref 116), (16, .ref 114), (7, .ref 113), (6, .ref 112), (5, .ref 111), (4, .ref 110), (3, .ref 109), (1, .ref 107)], none) (pc' := 20) (L' := [(0, .ref 106)]) h_m20 (z_at.mk 3 rfl rfl) rfl (by decide) rfl (Or.inl rfl) rfl rfl rfl ?_
  clear H m; intro m H
  refine w_p h_m20 2 (pc' := 22) (L' := [(0, .ref 106)]) (st' := [.int (0 : Int32), .ref 106]) rfl ?_
  refine w_pf H (12, 18, [(11, .int (0 : Int32)), (10, .int (0 : Int32)), (9, .long (0 : Int64)), (8, .int (0 : Int32)), (2, .int (0 : Int32)), (15, .int (0 : Int32)), (14, .int (0 : Int32)), (13, .int (0 : Int32)), (12, .int (0 : Int32)), (0, .ref 41), (17, .ref 116), (16, .ref 114), (7, .ref 113), (6, .ref 112), (5, .ref 111), (4, .ref 110), (3, .ref 109), (1, .ref 107)], none) (pc' := 25) (L' := [(0, .ref 106)]) h_m20 (z_at.mk 3 rfl rfl) rfl (by decide) rfl (Or.inl rfl) rfl rfl rfl ?_
  clear H m; intro m H
  refine w_p h_m20 2 (pc' := 27) (L' := [(0, .ref 106)]) (st' := [.int (0 : Int32), .ref 106]) rfl ?_
  refine w_pf H (12, 18, [(12, .int (0 : Int32)), (11, .int (0 : Int32)), (10, .int (0 : Int32)), (9, .long (0 : Int64)), (8, .int (0 : Int32)), (2, .int (0 : Int32)), (15, .int (0 : Int32)), (14, .int (0 : Int32)), (13, .int (0 : Int32)), (0, .ref 41), (17, .ref 116), (16, .ref 114), (7, .ref 113), (6, .ref 112), (5, .ref 111), (4, .ref 110), (3, .ref 109), (1, .ref 107)], none) (pc' := 30) (L' := [(0, .ref 106)]) h_m20 (z_at.mk 3 rfl rfl) rfl (by decide) rfl (Or.inl rfl) rfl rfl rfl ?_
  clear H m; intro m H
  refine w_p h_m20 2 (pc' := 32) (L' := [(0, .ref 106)]) (st' := [.int (0 : Int32), .ref 106]) rfl ?_
  refine w_pf H (12, 18, [(13, .int (0 : Int32)), (12, .int (0 : Int32)), (11, .int (0 : Int32)), (10, .int (0 : Int32)), (9, .long (0 : Int64)), (8, .int (0 : Int32)), (2, .int (0 : Int32)), (15, .int (0 : Int32)), (14, .int (0 : Int32)), (0, .ref 41), (17, .ref 116), (16, .ref 114), (7, .ref 113), (6, .ref 112), (5, .ref 111), (4, .ref 110), (3, .ref 109), (1, .ref 107)], none) (pc' := 35) (L' := [(0, .ref 106)]) h_m20 (z_at.mk 3 rfl rfl) rfl (by decide) rfl (Or.inl rfl) rfl rfl rfl ?_
  clear H m; intro m H
  refine w_p h_m20 2 (pc' := 37) (L' := [(0, .ref 106)]) (st' := [.int (0 : Int32), .ref 106]) rfl ?_
  refine w_pf H (12, 18, [(14, .int (0 : Int32)), (13, .int (0 : Int32)), (12, .int (0 : Int32)), (11, .int (0 : Int32)), (10, .int (0 : Int32)), (9, .long (0 : Int64)), (8, .int (0 : Int32)), (2, .int (0 : Int32)), (15, .int (0 : Int32)), (0, .ref 41), (17, .ref 116), (16, .ref 114), (7, .ref 113), (6, .ref 112), (5, .ref 111), (4, .ref 110), (3, .ref 109), (1, .ref 107)], none) (pc' := 40) (L' := [(0, .ref 106)]) h_m20 (z_at.mk 3 rfl rfl) rfl (by decide) rfl (Or.inl rfl) rfl rfl rfl ?_
  clear H m; intro m H
  refine w_p h_m20 2 (pc' := 42) (L' := [(0, .ref 106)]) (st' := [.int (0 : Int32), .ref 106]) rfl ?_
  refine w_pf H (12, 18, [(15, .int (0 : Int32)), (14, .int (0 : Int32)), (13, .int (0 : Int32)), (12, .int (0 : Int32)), (11, .int (0 : Int32)), (10, .int (0 : Int32)), (9, .long (0 : Int64)), (8, .int (0 : Int32)), (2, .int (0 : Int32)), (0, .ref 41), (17, .ref 116), (16, .ref 114), (7, .ref 113), (6, .ref 112), (5, .ref 111), (4, .ref 110), (3, .ref 109), (1, .ref 107)], none) (pc' := 45) (L' := [(0, .ref 106)]) h_m20 (z_at.mk 3 rfl rfl) rfl (by decide) rfl (Or.inl rfl) rfl rfl rfl ?_
  clear H m; intro m H
  refine w_rv h_m20 (z_at.mk 1 rfl rfl) rfl ?_
  show z_W 998 145 7 [(0, .ref 39), (1, .int (17 : Int32))] [] m _
  refine w_p h_m145 1 (pc' := 8) (L' := [(0, .ref 39), (1, .int (17 : Int32))]) (st' := [.ref 39]) rfl ?_
  refine w_gf H (pc' := 11) (L' := [(0, .ref 39), (1, .int (17 : Int32))]) h_m145 (z_at.mk 3 rfl rfl) rfl (u := .ref 106) rfl rfl rfl ?_
  refine w_gf H (pc' := 14) (L' := [(0, .ref 39), (1, .int (17 : Int32))]) h_m145 (z_at.mk 3 rfl rfl) rfl (u := .ref 107) rfl rfl rfl ?_
  refine w_p h_m145 1 (pc' := 15) (L' := [(0, .ref 39), (1, .int (17 : Int32))]) (st' := [.ref 39, .ref 107]) rfl ?_
  refine w_gf H (pc' := 18) (L' := [(0, .ref 39), (1, .int (17 : Int32))]) h_m145 (z_at.mk 3 rfl rfl) rfl (u := .ref 40) rfl rfl rfl ?_
  refine w_gf H (pc' := 21) (L' := [(0, .ref 39), (1, .int (17 : Int32))]) h_m145 (z_at.mk 3 rfl rfl) rfl (u := .ref 48) rfl rfl rfl ?_
  refine w_gf H (pc' := 24) (L' := [(0, .ref 39), (1, .int (17 : Int32))]) h_m145 (z_at.mk 3 rfl rfl) rfl (u := .ref 49) rfl rfl rfl ?_
  refine w_cv (H.t rfl) (pc' := 27) (L' := [(0, .ref 39), (1, .int (17 : Int32))]) (rest := []) (Ps := [.ref 49]) (L0 := [(0, .ref 107), (1, .ref 49)]) h_m145 (z_at.mk 3 rfl rfl) (Or.inl ⟨rfl, rfl⟩) rfl rfl (by decide) (by decide) rfl rfl rfl rfl rfl rfl (by decide) rfl rfl rfl ?_
  refine w_p h_m74 1 (pc' := 1) (L' := [(0, .ref 107), (1, .ref 49)]) (st' := [.ref 49]) rfl ?_
  refine w_gf H (pc' := 4) (L' := [(0, .ref 107), (1, .ref 49)]) h_m74 (z_at.mk 3 rfl rfl) rfl (u := .ref 50) rfl rfl rfl ?_
  refine w_p h_m74 2 (pc' := 6) (L' := [(0, .ref 107), (1, .ref 49)]) (st' := [.ref 107, .int (0 : Int32), .ref 50]) rfl ?_
  refine w_gf H (pc' := 9) (L' := [(0, .ref 107), (1, .ref 49)]) h_m74 (z_at.mk 3 rfl rfl) rfl (u := .ref 108) rfl rfl rfl ?_
  refine w_p h_m74 2 (pc' := 12) (L' := [(0, .ref 107), (1, .ref 49)]) (st' := [.int (7 : Int32), .int (0 : Int32), .ref 108, .int (0 : Int32), .ref 50]) rfl ?_
  refine w_cpf H (ra := (0, 7, [(6, .int (1024 : Int32)), (5, .int (1 : Int32)), (4, .int (1 : Int32)), (3, .int (0 : Int32)), (2, .int (12 : Int32)), (1, .int (40 : Int32)), (0, .int (10 : Int32))], some (.int (0 : Int32)))) (pc' := 15) (L' := [(0, .ref 107), (1, .ref 49)]) h_m74 (z_at.mk 3 rfl rfl) rfl (z_cat_le 0 rfl (by decide)) rfl rfl rfl rfl (by decide) rfl rfl ?_
  clear H m; intro m H
  refine w_rv h_m74 (z_at.mk 1 rfl rfl) rfl ?_
  show z_W 998 145 27 [(0, .ref 39), (1, .int (17 : Int32))] [] m _
  refine w_p h_m145 1 (pc' := 28) (L' := [(0, .ref 39), (1, .int (17 : Int32))]) (st' := [.ref 39]) rfl ?_
  refine w_gf H (pc' := 31) (L' := [(0, .ref 39), (1, .int (17 : Int32))]) h_m145 (z_at.mk 3 rfl rfl) rfl (u := .ref 106) rfl rfl rfl ?_
  refine w_gf H (pc' := 34) (L' := [(0, .ref 39), (1, .int (17 : Int32))]) h_m145 (z_at.mk 3 rfl rfl) rfl (u := .ref 107) rfl rfl rfl ?_
  refine w_p h_m145 2 (pc' := 36) (L' := [(0, .ref 39), (1, .int (17 : Int32))]) (st' := [.int (17 : Int32), .int (1 : Int32), .ref 107]) rfl ?_
  refine w_cv (H.t rfl) (pc' := 39) (L' := [(0, .ref 39), (1, .int (17 : Int32))]) (rest := []) (Ps := [.int (1 : Int32), .int (17 : Int32)]) (L0 := [(0, .ref 107), (1, .int (1 : Int32)), (2, .int (17 : Int32))]) h_m145 (z_at.mk 3 rfl rfl) (Or.inl ⟨rfl, rfl⟩) rfl rfl (by decide) (by decide) rfl rfl rfl rfl rfl rfl (by decide) rfl rfl rfl ?_
  refine w_p h_m73 6 (pc' := 11) (L' := [(0, .ref 107), (1, .int (1 : Int32)), (2, .int (17 : Int32))]) (st' := [.ref 107]) rfl ?_
  refine w_gf H (pc' := 14) (L' := [(0, .ref 107), (1, .int (1 : Int32)), (2, .int (17 : Int32))]) h_m73 (z_at.mk 3 rfl rfl) rfl (u := .ref 108) rfl rfl rfl ?_
  refine w_p h_m73 2 (pc' := 16) (L' := [(0, .ref 107), (1, .int (1 : Int32)), (2, .int (17 : Int32))]) (st' := [.int (17 : Int32), .int (1 : Int32), .ref 108]) rfl ?_
  refine w_as H (t := 0) (j := 1) (u := .int (17 : Int32)) (0, 7, [(1, .int (17 : Int32)), (6, .int (1024 : Int32)), (5, .int (1 : Int32)), (4, .int (1 : Int32)), (3, .int (0 : Int32)), (2, .int (12 : Int32)), (0, .int (10 : Int32))], some (.int (0 : Int32))) (pc' := 17) (L' := []) h_m73 (z_at.mk 1 rfl rfl) rfl rfl (w_ui _ _ (by decide)) rfl rfl rfl rfl ?_
  clear H m; intro m H
  refine w_rv h_m73 (z_at.mk 1 rfl rfl) rfl ?_
  show z_W 998 145 39 [(0, .ref 39), (1, .int (17 : Int32))] [] m _
  refine w_p h_m145 4 (pc' := 43) (L' := [(0, .ref 39), (2, .int (0 : Int32))]) (st' := [.ref 39, .int (0 : Int32)]) rfl ?_
  refine w_gf H (pc' := 46) (L' := [(0, .ref 39), (2, .int (0 : Int32))]) h_m145 (z_at.mk 3 rfl rfl) rfl (u := .ref 40) rfl rfl rfl ?_
  refine w_gf H (pc' := 49) (L' := [(0, .ref 39), (2, .int (0 : Int32))]) h_m145 (z_at.mk 3 rfl rfl) rfl (u := .ref 63) rfl rfl rfl ?_
  refine w_gf H (pc' := 52) (L' := [(0, .ref 39), (2, .int (0 : Int32))]) h_m145 (z_at.mk 3 rfl rfl) rfl (u := .int (0 : Int32)) rfl rfl rfl ?_
  refine w_p h_m145 1 (pc' := 79) (L' := [(0, .ref 39), (2, .int (0 : Int32))]) (st' := []) rfl ?_
  refine w_rv h_m145 (z_at.mk 1 rfl rfl) rfl ?_
  show z_W 999 146 13 [(0, .ref 39), (1, .int (xs 1)), (2, .int (17 : Int32))] [] m _
  refine w_p h_m146 1 (pc' := 14) (L' := [(0, .ref 39), (1, .int (xs 1)), (2, .int (17 : Int32))]) (st' := [.ref 39]) rfl ?_
  refine w_gf H (pc' := 17) (L' := [(0, .ref 39), (1, .int (xs 1)), (2, .int (17 : Int32))]) h_m146 (z_at.mk 3 rfl rfl) rfl (u := .ref 106) rfl rfl rfl ?_
  refine w_gf H (pc' := 20) (L' := [(0, .ref 39), (1, .int (xs 1)), (2, .int (17 : Int32))]) h_m146 (z_at.mk 3 rfl rfl) rfl (u := .int (0 : Int32)) rfl rfl rfl ?_
  refine w_p h_m146 1 (pc' := 21) (L' := [(0, .ref 39), (1, .int (xs 1)), (2, .int (17 : Int32))]) (st' := [.int (xs 1), .int (0 : Int32)]) rfl ?_
  refine w_t2 (pc' := 26) (L' := [(0, .ref 39), (1, .int (xs 1)), (2, .int (17 : Int32))]) h_m146 (z_at.mk 3 rfl rfl) rfl (zc (a := 0) (b := (xs 1).toInt) rfl rfl (decide_eq_true (by omega))) rfl rfl ?_
  refine w_p h_m146 2 (pc' := 2) (L' := [(0, .ref 39), (1, .int (xs 1)), (2, .int (18 : Int32))]) (st' := []) rfl ?_
  exact hQ m (H.subC (by decide +kernel))
set_option maxHeartbeats 400000000 in
set_option maxRecDepth 20000 in
theorem w_turn_146_18 {xs : Nat → Int32} {m : zM} {Q : Option Value → zM → Prop} (hp : (xs 1).toInt < 0) (H : w_ok 6 xs 168 63950 ((106, (12, 18, [(15, .int (0 : Int32)), (14, .int (0 : Int32)), (13, .int (0 : Int32)), (12, .int (0 : Int32)), (11, .int (0 : Int32)), (10, .int (0 : Int32)), (9, .long (0 : Int64)), (8, .int (0 : Int32)), (2, .int (0 : Int32)), (0, .ref 41), (17, .ref 116), (16, .ref 114), (7, .ref 113), (6, .ref 112), (5, .ref 111), (4, .ref 110), (3, .ref 109), (1, .ref 107)], none)) :: (108, (0, 7, [(1, .int (17 : Int32)), (6, .int (1024 : Int32)), (5, .int (1 : Int32)), (4, .int (1 : Int32)), (3, .int (0 : Int32)), (2, .int (12 : Int32)), (0, .int (10 : Int32))], some (.int (0 : Int32)))) :: w_T0) m) (hQ : ∀ m, w_ok 6 xs 168 63950 ((106, (12, 18, [(15, .int (0 : Int32)), (14, .int (0 : Int32)), (13, .int (0 : Int32)), (12, .int (0 : Int32)), (11, .int (0 : Int32)), (10, .int (0 : Int32)), (9, .long (0 : Int64)), (8, .int (0 : Int32)), (2, .int (0 : Int32)), (0, .ref 41), (17, .ref 116), (16, .ref 114), (7, .ref 113), (6, .ref 112), (5, .ref 111), (4, .ref 110), (3, .ref 109), (1, .ref 107)], none)) :: (108, (0, 7, [(1, .int (18 : Int32)), (6, .int (1024 : Int32)), (5, .int (1 : Int32)), (4, .int (1 : Int32)), (3, .int (0 : Int32)), (2, .int (12 : Int32)), (0, .int (10 : Int32))], some (.int (0 : Int32)))) :: w_T0) m → z_W 999 146 2 [(0, .ref 39), (1, .int (xs 1)), (2, .int (19 : Int32))] [] m Q) : z_W 999 146 2 [(0, .ref 39), (1, .int (xs 1)), (2, .int (18 : Int32))] [] m Q := by
  refine w_p h_m146 5 (pc' := 10) (L' := [(0, .ref 39), (1, .int (xs 1)), (2, .int (18 : Int32))]) (st' := [.int (18 : Int32), .ref 39]) rfl ?_
  refine w_cv (H.t rfl) (pc' := 13) (L' := [(0, .ref 39), (1, .int (xs 1)), (2, .int (18 : Int32))]) (rest := []) (Ps := [.int (18 : Int32)]) (L0 := [(0, .ref 39), (1, .int (18 : Int32))]) h_m146 (z_at.mk 3 rfl rfl) (Or.inl ⟨rfl, rfl⟩) rfl rfl (by decide) (by decide) rfl rfl rfl rfl rfl rfl (by decide) rfl rfl rfl ?_
  refine w_p h_m145 1 (pc' := 1) (L' := [(0, .ref 39), (1, .int (18 : Int32))]) (st' := [.ref 39]) rfl ?_
  refine w_gf H (pc' := 4) (L' := [(0, .ref 39), (1, .int (18 : Int32))]) h_m145 (z_at.mk 3 rfl rfl) rfl (u := .ref 106) rfl rfl rfl ?_
  refine w_cv (H.t rfl) (pc' := 7) (L' := [(0, .ref 39), (1, .int (18 : Int32))]) (rest := []) (Ps := []) (L0 := [(0, .ref 106)]) h_m145 (z_at.mk 3 rfl rfl) (Or.inl ⟨rfl, rfl⟩) rfl rfl (by decide) (by decide) rfl rfl rfl rfl rfl rfl (by decide) rfl rfl rfl ?_
  refine w_p h_m20 2 (pc' := 2) (L' := [(0, .ref 106)]) (st' := [.int (0 : Int32), .ref 106]) rfl ?_
  refine w_pf H (12, 18, [(2, .int (0 : Int32)), (15, .int (0 : Int32)), (14, .int (0 : Int32)), (13, .int (0 : Int32)), (12, .int (0 : Int32)), (11, .int (0 : Int32)), (10, .int (0 : Int32)), (9, .long (0 : Int64)), (8, .int (0 : Int32)), (0, .ref 41), (17, .ref 116), (16, .ref 114), (7, .ref 113), (6, .ref 112), (5, .ref 111), (4, .ref 110), (3, .ref 109), (1, .ref 107)], none) (pc' := 5) (L' := [(0, .ref 106)]) h_m20 (z_at.mk 3 rfl rfl) rfl (by decide) rfl (Or.inl rfl) rfl rfl rfl ?_
  clear H m; intro m H
  refine w_p h_m20 2 (pc' := 7) (L' := [(0, .ref 106)]) (st' := [.int (0 : Int32), .ref 106]) rfl ?_
  refine w_pf H (12, 18, [(8, .int (0 : Int32)), (2, .int (0 : Int32)), (15, .int (0 : Int32)), (14, .int (0 : Int32)), (13, .int (0 : Int32)), (12, .int (0 : Int32)), (11, .int (0 : Int32)), (10, .int (0 : Int32)), (9, .long (0 : Int64)), (0, .ref 41), (17, .ref 116), (16, .ref 114), (7, .ref 113), (6, .ref 112), (5, .ref 111), (4, .ref 110), (3, .ref 109), (1, .ref 107)], none) (pc' := 10) (L' := [(0, .ref 106)]) h_m20 (z_at.mk 3 rfl rfl) rfl (by decide) rfl (Or.inl rfl) rfl rfl rfl ?_
  clear H m; intro m H
  refine w_p h_m20 2 (pc' := 12) (L' := [(0, .ref 106)]) (st' := [.long (0 : Int64), .ref 106]) rfl ?_
  refine w_pf H (12, 18, [(9, .long (0 : Int64)), (8, .int (0 : Int32)), (2, .int (0 : Int32)), (15, .int (0 : Int32)), (14, .int (0 : Int32)), (13, .int (0 : Int32)), (12, .int (0 : Int32)), (11, .int (0 : Int32)), (10, .int (0 : Int32)), (0, .ref 41), (17, .ref 116), (16, .ref 114), (7, .ref 113), (6, .ref 112), (5, .ref 111), (4, .ref 110), (3, .ref 109), (1, .ref 107)], none) (pc' := 15) (L' := [(0, .ref 106)]) h_m20 (z_at.mk 3 rfl rfl) rfl (by decide) rfl (Or.inl rfl) rfl rfl rfl ?_
  clear H m; intro m H
  refine w_p h_m20 2 (pc' := 17) (L' := [(0, .ref 106)]) (st' := [.int (0 : Int32), .ref 106]) rfl ?_
  refine w_pf H (12, 18, [(10, .int (0 : Int32)), (9, .long (0 : Int64)), (8, .int (0 : Int32)), (2, .int (0 : Int32)), (15, .int (0 : Int32)), (14, .int (0 : Int32)), (13, .int (0 : Int32)), (12, .int (0 : Int32)), (11, .int (0 : Int32)), (0, .ref 41), (17, .ref 116), (16, .ref 114), (7, .ref 113), (6, .ref 112), (5, .ref 111), (4, .ref 110), (3, .ref 109), (1, .ref 107)], none) (pc' := 20) (L' := [(0, .ref 106)]) h_m20 (z_at.mk 3 rfl rfl) rfl (by decide) rfl (Or.inl rfl) rfl rfl rfl ?_
  clear H m; intro m H
  refine w_p h_m20 2 (pc' := 22) (L' := [(0, .ref 106)]) (st' := [.int (0 : Int32), .ref 106]) rfl ?_
  refine w_pf H (12, 18, [(11, .int (0 : Int32)), (10, .int (0 : Int32)), (9, .long (0 : Int64)), (8, .int (0 : Int32)), (2, .int (0 : Int32)), (15, .int (0 : Int32)), (14, .int (0 : Int32)), (13, .int (0 : Int32)), (12, .int (0 : Int32)), (0, .ref 41), (17, .ref 116), (16, .ref 114), (7, .ref 113), (6, .ref 112), (5, .ref 111), (4, .ref 110), (3, .ref 109), (1, .ref 107)], none) (pc' := 25) (L' := [(0, .ref 106)]) h_m20 (z_at.mk 3 rfl rfl) rfl (by decide) rfl (Or.inl rfl) rfl rfl rfl ?_
  clear H m; intro m H
  refine w_p h_m20 2 (pc' := 27) (L' := [(0, .ref 106)]) (st' := [.int (0 : Int32), .ref 106]) rfl ?_
  refine w_pf H (12, 18, [(12, .int (0 : Int32)), (11, .int (0 : Int32)), (10, .int (0 : Int32)), (9, .long (0 : Int64)), (8, .int (0 : Int32)), (2, .int (0 : Int32)), (15, .int (0 : Int32)), (14, .int (0 : Int32)), (13, .int (0 : Int32)), (0, .ref 41), (17, .ref 116), (16, .ref 114), (7, .ref 113), (6, .ref 112), (5, .ref 111), (4, .ref 110), (3, .ref 109), (1, .ref 107)], none) (pc' := 30) (L' := [(0, .ref 106)]) h_m20 (z_at.mk 3 rfl rfl) rfl (by decide) rfl (Or.inl rfl) rfl rfl rfl ?_
  clear H m; intro m H
  refine w_p h_m20 2 (pc' := 32) (L' := [(0, .ref 106)]) (st' := [.int (0 : Int32), .ref 106]) rfl ?_
  refine w_pf H (12, 18, [(13, .int (0 : Int32)), (12, .int (0 : Int32)), (11, .int (0 : Int32)), (10, .int (0 : Int32)), (9, .long (0 : Int64)), (8, .int (0 : Int32)), (2, .int (0 : Int32)), (15, .int (0 : Int32)), (14, .int (0 : Int32)), (0, .ref 41), (17, .ref 116), (16, .ref 114), (7, .ref 113), (6, .ref 112), (5, .ref 111), (4, .ref 110), (3, .ref 109), (1, .ref 107)], none) (pc' := 35) (L' := [(0, .ref 106)]) h_m20 (z_at.mk 3 rfl rfl) rfl (by decide) rfl (Or.inl rfl) rfl rfl rfl ?_
  clear H m; intro m H
  refine w_p h_m20 2 (pc' := 37) (L' := [(0, .ref 106)]) (st' := [.int (0 : Int32), .ref 106]) rfl ?_
  refine w_pf H (12, 18, [(14, .int (0 : Int32)), (13, .int (0 : Int32)), (12, .int (0 : Int32)), (11, .int (0 : Int32)), (10, .int (0 : Int32)), (9, .long (0 : Int64)), (8, .int (0 : Int32)), (2, .int (0 : Int32)), (15, .int (0 : Int32)), (0, .ref 41), (17, .ref 116), (16, .ref 114), (7, .ref 113), (6, .ref 112), (5, .ref 111), (4, .ref 110), (3, .ref 109), (1, .ref 107)], none) (pc' := 40) (L' := [(0, .ref 106)]) h_m20 (z_at.mk 3 rfl rfl) rfl (by decide) rfl (Or.inl rfl) rfl rfl rfl ?_
  clear H m; intro m H
  refine w_p h_m20 2 (pc' := 42) (L' := [(0, .ref 106)]) (st' := [.int (0 : Int32), .ref 106]) rfl ?_
  refine w_pf H (12, 18, [(15, .int (0 : Int32)), (14, .int (0 : Int32)), (13, .int (0 : Int32)), (12, .int (0 : Int32)), (11, .int (0 : Int32)), (10, .int (0 : Int32)), (9, .long (0 : Int64)), (8, .int (0 : Int32)), (2, .int (0 : Int32)), (0, .ref 41), (17, .ref 116), (16, .ref 114), (7, .ref 113), (6, .ref 112), (5, .ref 111), (4, .ref 110), (3, .ref 109), (1, .ref 107)], none) (pc' := 45) (L' := [(0, .ref 106)]) h_m20 (z_at.mk 3 rfl rfl) rfl (by decide) rfl (Or.inl rfl) rfl rfl rfl ?_
  clear H m; intro m H
  refine w_rv h_m20 (z_at.mk 1 rfl rfl) rfl ?_
  show z_W 998 145 7 [(0, .ref 39), (1, .int (18 : Int32))] [] m _
  refine w_p h_m145 1 (pc' := 8) (L' := [(0, .ref 39), (1, .int (18 : Int32))]) (st' := [.ref 39]) rfl ?_
  refine w_gf H (pc' := 11) (L' := [(0, .ref 39), (1, .int (18 : Int32))]) h_m145 (z_at.mk 3 rfl rfl) rfl (u := .ref 106) rfl rfl rfl ?_
  refine w_gf H (pc' := 14) (L' := [(0, .ref 39), (1, .int (18 : Int32))]) h_m145 (z_at.mk 3 rfl rfl) rfl (u := .ref 107) rfl rfl rfl ?_
  refine w_p h_m145 1 (pc' := 15) (L' := [(0, .ref 39), (1, .int (18 : Int32))]) (st' := [.ref 39, .ref 107]) rfl ?_
  refine w_gf H (pc' := 18) (L' := [(0, .ref 39), (1, .int (18 : Int32))]) h_m145 (z_at.mk 3 rfl rfl) rfl (u := .ref 40) rfl rfl rfl ?_
  refine w_gf H (pc' := 21) (L' := [(0, .ref 39), (1, .int (18 : Int32))]) h_m145 (z_at.mk 3 rfl rfl) rfl (u := .ref 48) rfl rfl rfl ?_
  refine w_gf H (pc' := 24) (L' := [(0, .ref 39), (1, .int (18 : Int32))]) h_m145 (z_at.mk 3 rfl rfl) rfl (u := .ref 49) rfl rfl rfl ?_
  refine w_cv (H.t rfl) (pc' := 27) (L' := [(0, .ref 39), (1, .int (18 : Int32))]) (rest := []) (Ps := [.ref 49]) (L0 := [(0, .ref 107), (1, .ref 49)]) h_m145 (z_at.mk 3 rfl rfl) (Or.inl ⟨rfl, rfl⟩) rfl rfl (by decide) (by decide) rfl rfl rfl rfl rfl rfl (by decide) rfl rfl rfl ?_
  refine w_p h_m74 1 (pc' := 1) (L' := [(0, .ref 107), (1, .ref 49)]) (st' := [.ref 49]) rfl ?_
  refine w_gf H (pc' := 4) (L' := [(0, .ref 107), (1, .ref 49)]) h_m74 (z_at.mk 3 rfl rfl) rfl (u := .ref 50) rfl rfl rfl ?_
  refine w_p h_m74 2 (pc' := 6) (L' := [(0, .ref 107), (1, .ref 49)]) (st' := [.ref 107, .int (0 : Int32), .ref 50]) rfl ?_
  refine w_gf H (pc' := 9) (L' := [(0, .ref 107), (1, .ref 49)]) h_m74 (z_at.mk 3 rfl rfl) rfl (u := .ref 108) rfl rfl rfl ?_
  refine w_p h_m74 2 (pc' := 12) (L' := [(0, .ref 107), (1, .ref 49)]) (st' := [.int (7 : Int32), .int (0 : Int32), .ref 108, .int (0 : Int32), .ref 50]) rfl ?_
  refine w_cpf H (ra := (0, 7, [(6, .int (1024 : Int32)), (5, .int (1 : Int32)), (4, .int (1 : Int32)), (3, .int (0 : Int32)), (2, .int (12 : Int32)), (1, .int (40 : Int32)), (0, .int (10 : Int32))], some (.int (0 : Int32)))) (pc' := 15) (L' := [(0, .ref 107), (1, .ref 49)]) h_m74 (z_at.mk 3 rfl rfl) rfl (z_cat_le 0 rfl (by decide)) rfl rfl rfl rfl (by decide) rfl rfl ?_
  clear H m; intro m H
  refine w_rv h_m74 (z_at.mk 1 rfl rfl) rfl ?_
  show z_W 998 145 27 [(0, .ref 39), (1, .int (18 : Int32))] [] m _
  refine w_p h_m145 1 (pc' := 28) (L' := [(0, .ref 39), (1, .int (18 : Int32))]) (st' := [.ref 39]) rfl ?_
  refine w_gf H (pc' := 31) (L' := [(0, .ref 39), (1, .int (18 : Int32))]) h_m145 (z_at.mk 3 rfl rfl) rfl (u := .ref 106) rfl rfl rfl ?_
  refine w_gf H (pc' := 34) (L' := [(0, .ref 39), (1, .int (18 : Int32))]) h_m145 (z_at.mk 3 rfl rfl) rfl (u := .ref 107) rfl rfl rfl ?_
  refine w_p h_m145 2 (pc' := 36) (L' := [(0, .ref 39), (1, .int (18 : Int32))]) (st' := [.int (18 : Int32), .int (1 : Int32), .ref 107]) rfl ?_
  refine w_cv (H.t rfl) (pc' := 39) (L' := [(0, .ref 39), (1, .int (18 : Int32))]) (rest := []) (Ps := [.int (1 : Int32), .int (18 : Int32)]) (L0 := [(0, .ref 107), (1, .int (1 : Int32)), (2, .int (18 : Int32))]) h_m145 (z_at.mk 3 rfl rfl) (Or.inl ⟨rfl, rfl⟩) rfl rfl (by decide) (by decide) rfl rfl rfl rfl rfl rfl (by decide) rfl rfl rfl ?_
  refine w_p h_m73 6 (pc' := 11) (L' := [(0, .ref 107), (1, .int (1 : Int32)), (2, .int (18 : Int32))]) (st' := [.ref 107]) rfl ?_
  refine w_gf H (pc' := 14) (L' := [(0, .ref 107), (1, .int (1 : Int32)), (2, .int (18 : Int32))]) h_m73 (z_at.mk 3 rfl rfl) rfl (u := .ref 108) rfl rfl rfl ?_
  refine w_p h_m73 2 (pc' := 16) (L' := [(0, .ref 107), (1, .int (1 : Int32)), (2, .int (18 : Int32))]) (st' := [.int (18 : Int32), .int (1 : Int32), .ref 108]) rfl ?_
  refine w_as H (t := 0) (j := 1) (u := .int (18 : Int32)) (0, 7, [(1, .int (18 : Int32)), (6, .int (1024 : Int32)), (5, .int (1 : Int32)), (4, .int (1 : Int32)), (3, .int (0 : Int32)), (2, .int (12 : Int32)), (0, .int (10 : Int32))], some (.int (0 : Int32))) (pc' := 17) (L' := []) h_m73 (z_at.mk 1 rfl rfl) rfl rfl (w_ui _ _ (by decide)) rfl rfl rfl rfl ?_
  clear H m; intro m H
  refine w_rv h_m73 (z_at.mk 1 rfl rfl) rfl ?_
  show z_W 998 145 39 [(0, .ref 39), (1, .int (18 : Int32))] [] m _
  refine w_p h_m145 4 (pc' := 43) (L' := [(0, .ref 39), (2, .int (0 : Int32))]) (st' := [.ref 39, .int (0 : Int32)]) rfl ?_
  refine w_gf H (pc' := 46) (L' := [(0, .ref 39), (2, .int (0 : Int32))]) h_m145 (z_at.mk 3 rfl rfl) rfl (u := .ref 40) rfl rfl rfl ?_
  refine w_gf H (pc' := 49) (L' := [(0, .ref 39), (2, .int (0 : Int32))]) h_m145 (z_at.mk 3 rfl rfl) rfl (u := .ref 63) rfl rfl rfl ?_
  refine w_gf H (pc' := 52) (L' := [(0, .ref 39), (2, .int (0 : Int32))]) h_m145 (z_at.mk 3 rfl rfl) rfl (u := .int (0 : Int32)) rfl rfl rfl ?_
  refine w_p h_m145 1 (pc' := 79) (L' := [(0, .ref 39), (2, .int (0 : Int32))]) (st' := []) rfl ?_
  refine w_rv h_m145 (z_at.mk 1 rfl rfl) rfl ?_
  show z_W 999 146 13 [(0, .ref 39), (1, .int (xs 1)), (2, .int (18 : Int32))] [] m _
  refine w_p h_m146 1 (pc' := 14) (L' := [(0, .ref 39), (1, .int (xs 1)), (2, .int (18 : Int32))]) (st' := [.ref 39]) rfl ?_
  refine w_gf H (pc' := 17) (L' := [(0, .ref 39), (1, .int (xs 1)), (2, .int (18 : Int32))]) h_m146 (z_at.mk 3 rfl rfl) rfl (u := .ref 106) rfl rfl rfl ?_
  refine w_gf H (pc' := 20) (L' := [(0, .ref 39), (1, .int (xs 1)), (2, .int (18 : Int32))]) h_m146 (z_at.mk 3 rfl rfl) rfl (u := .int (0 : Int32)) rfl rfl rfl ?_
  refine w_p h_m146 1 (pc' := 21) (L' := [(0, .ref 39), (1, .int (xs 1)), (2, .int (18 : Int32))]) (st' := [.int (xs 1), .int (0 : Int32)]) rfl ?_
  refine w_t2 (pc' := 26) (L' := [(0, .ref 39), (1, .int (xs 1)), (2, .int (18 : Int32))]) h_m146 (z_at.mk 3 rfl rfl) rfl (zc (a := 0) (b := (xs 1).toInt) rfl rfl (decide_eq_true (by omega))) rfl rfl ?_
  refine w_p h_m146 2 (pc' := 2) (L' := [(0, .ref 39), (1, .int (xs 1)), (2, .int (19 : Int32))]) (st' := []) rfl ?_
  exact hQ m (H.subC (by decide +kernel))
set_option maxHeartbeats 400000000 in
set_option maxRecDepth 20000 in
theorem w_turn_146_19 {xs : Nat → Int32} {m : zM} {Q : Option Value → zM → Prop} (hp : (xs 1).toInt < 0) (H : w_ok 6 xs 168 63950 ((106, (12, 18, [(15, .int (0 : Int32)), (14, .int (0 : Int32)), (13, .int (0 : Int32)), (12, .int (0 : Int32)), (11, .int (0 : Int32)), (10, .int (0 : Int32)), (9, .long (0 : Int64)), (8, .int (0 : Int32)), (2, .int (0 : Int32)), (0, .ref 41), (17, .ref 116), (16, .ref 114), (7, .ref 113), (6, .ref 112), (5, .ref 111), (4, .ref 110), (3, .ref 109), (1, .ref 107)], none)) :: (108, (0, 7, [(1, .int (18 : Int32)), (6, .int (1024 : Int32)), (5, .int (1 : Int32)), (4, .int (1 : Int32)), (3, .int (0 : Int32)), (2, .int (12 : Int32)), (0, .int (10 : Int32))], some (.int (0 : Int32)))) :: w_T0) m) (hQ : ∀ m, w_ok 6 xs 168 63950 ((106, (12, 18, [(15, .int (0 : Int32)), (14, .int (0 : Int32)), (13, .int (0 : Int32)), (12, .int (0 : Int32)), (11, .int (0 : Int32)), (10, .int (0 : Int32)), (9, .long (0 : Int64)), (8, .int (0 : Int32)), (2, .int (0 : Int32)), (0, .ref 41), (17, .ref 116), (16, .ref 114), (7, .ref 113), (6, .ref 112), (5, .ref 111), (4, .ref 110), (3, .ref 109), (1, .ref 107)], none)) :: (108, (0, 7, [(1, .int (19 : Int32)), (6, .int (1024 : Int32)), (5, .int (1 : Int32)), (4, .int (1 : Int32)), (3, .int (0 : Int32)), (2, .int (12 : Int32)), (0, .int (10 : Int32))], some (.int (0 : Int32)))) :: w_T0) m → z_W 999 146 2 [(0, .ref 39), (1, .int (xs 1)), (2, .int (20 : Int32))] [] m Q) : z_W 999 146 2 [(0, .ref 39), (1, .int (xs 1)), (2, .int (19 : Int32))] [] m Q := by
  refine w_p h_m146 5 (pc' := 10) (L' := [(0, .ref 39), (1, .int (xs 1)), (2, .int (19 : Int32))]) (st' := [.int (19 : Int32), .ref 39]) rfl ?_
  refine w_cv (H.t rfl) (pc' := 13) (L' := [(0, .ref 39), (1, .int (xs 1)), (2, .int (19 : Int32))]) (rest := []) (Ps := [.int (19 : Int32)]) (L0 := [(0, .ref 39), (1, .int (19 : Int32))]) h_m146 (z_at.mk 3 rfl rfl) (Or.inl ⟨rfl, rfl⟩) rfl rfl (by decide) (by decide) rfl rfl rfl rfl rfl rfl (by decide) rfl rfl rfl ?_
  refine w_p h_m145 1 (pc' := 1) (L' := [(0, .ref 39), (1, .int (19 : Int32))]) (st' := [.ref 39]) rfl ?_
  refine w_gf H (pc' := 4) (L' := [(0, .ref 39), (1, .int (19 : Int32))]) h_m145 (z_at.mk 3 rfl rfl) rfl (u := .ref 106) rfl rfl rfl ?_
  refine w_cv (H.t rfl) (pc' := 7) (L' := [(0, .ref 39), (1, .int (19 : Int32))]) (rest := []) (Ps := []) (L0 := [(0, .ref 106)]) h_m145 (z_at.mk 3 rfl rfl) (Or.inl ⟨rfl, rfl⟩) rfl rfl (by decide) (by decide) rfl rfl rfl rfl rfl rfl (by decide) rfl rfl rfl ?_
  refine w_p h_m20 2 (pc' := 2) (L' := [(0, .ref 106)]) (st' := [.int (0 : Int32), .ref 106]) rfl ?_
  refine w_pf H (12, 18, [(2, .int (0 : Int32)), (15, .int (0 : Int32)), (14, .int (0 : Int32)), (13, .int (0 : Int32)), (12, .int (0 : Int32)), (11, .int (0 : Int32)), (10, .int (0 : Int32)), (9, .long (0 : Int64)), (8, .int (0 : Int32)), (0, .ref 41), (17, .ref 116), (16, .ref 114), (7, .ref 113), (6, .ref 112), (5, .ref 111), (4, .ref 110), (3, .ref 109), (1, .ref 107)], none) (pc' := 5) (L' := [(0, .ref 106)]) h_m20 (z_at.mk 3 rfl rfl) rfl (by decide) rfl (Or.inl rfl) rfl rfl rfl ?_
  clear H m; intro m H
  refine w_p h_m20 2 (pc' := 7) (L' := [(0, .ref 106)]) (st' := [.int (0 : Int32), .ref 106]) rfl ?_
  refine w_pf H (12, 18, [(8, .int (0 : Int32)), (2, .int (0 : Int32)), (15, .int (0 : Int32)), (14, .int (0 : Int32)), (13, .int (0 : Int32)), (12, .int (0 : Int32)), (11, .int (0 : Int32)), (10, .int (0 : Int32)), (9, .long (0 : Int64)), (0, .ref 41), (17, .ref 116), (16, .ref 114), (7, .ref 113), (6, .ref 112), (5, .ref 111), (4, .ref 110), (3, .ref 109), (1, .ref 107)], none) (pc' := 10) (L' := [(0, .ref 106)]) h_m20 (z_at.mk 3 rfl rfl) rfl (by decide) rfl (Or.inl rfl) rfl rfl rfl ?_
  clear H m; intro m H
  refine w_p h_m20 2 (pc' := 12) (L' := [(0, .ref 106)]) (st' := [.long (0 : Int64), .ref 106]) rfl ?_
  refine w_pf H (12, 18, [(9, .long (0 : Int64)), (8, .int (0 : Int32)), (2, .int (0 : Int32)), (15, .int (0 : Int32)), (14, .int (0 : Int32)), (13, .int (0 : Int32)), (12, .int (0 : Int32)), (11, .int (0 : Int32)), (10, .int (0 : Int32)), (0, .ref 41), (17, .ref 116), (16, .ref 114), (7, .ref 113), (6, .ref 112), (5, .ref 111), (4, .ref 110), (3, .ref 109), (1, .ref 107)], none) (pc' := 15) (L' := [(0, .ref 106)]) h_m20 (z_at.mk 3 rfl rfl) rfl (by decide) rfl (Or.inl rfl) rfl rfl rfl ?_
  clear H m; intro m H
  refine w_p h_m20 2 (pc' := 17) (L' := [(0, .ref 106)]) (st' := [.int (0 : Int32), .ref 106]) rfl ?_
  refine w_pf H (12, 18, [(10, .int (0 : Int32)), (9, .long (0 : Int64)), (8, .int (0 : Int32)), (2, .int (0 : Int32)), (15, .int (0 : Int32)), (14, .int (0 : Int32)), (13, .int (0 : Int32)), (12, .int (0 : Int32)), (11, .int (0 : Int32)), (0, .ref 41), (17, .ref 116), (16, .ref 114), (7, .ref 113), (6, .ref 112), (5, .ref 111), (4, .ref 110), (3, .ref 109), (1, .ref 107)], none) (pc' := 20) (L' := [(0, .ref 106)]) h_m20 (z_at.mk 3 rfl rfl) rfl (by decide) rfl (Or.inl rfl) rfl rfl rfl ?_
  clear H m; intro m H
  refine w_p h_m20 2 (pc' := 22) (L' := [(0, .ref 106)]) (st' := [.int (0 : Int32), .ref 106]) rfl ?_
  refine w_pf H (12, 18, [(11, .int (0 : Int32)), (10, .int (0 : Int32)), (9, .long (0 : Int64)), (8, .int (0 : Int32)), (2, .int (0 : Int32)), (15, .int (0 : Int32)), (14, .int (0 : Int32)), (13, .int (0 : Int32)), (12, .int (0 : Int32)), (0, .ref 41), (17, .ref 116), (16, .ref 114), (7, .ref 113), (6, .ref 112), (5, .ref 111), (4, .ref 110), (3, .ref 109), (1, .ref 107)], none) (pc' := 25) (L' := [(0, .ref 106)]) h_m20 (z_at.mk 3 rfl rfl) rfl (by decide) rfl (Or.inl rfl) rfl rfl rfl ?_
  clear H m; intro m H
  refine w_p h_m20 2 (pc' := 27) (L' := [(0, .ref 106)]) (st' := [.int (0 : Int32), .ref 106]) rfl ?_
  refine w_pf H (12, 18, [(12, .int (0 : Int32)), (11, .int (0 : Int32)), (10, .int (0 : Int32)), (9, .long (0 : Int64)), (8, .int (0 : Int32)), (2, .int (0 : Int32)), (15, .int (0 : Int32)), (14, .int (0 : Int32)), (13, .int (0 : Int32)), (0, .ref 41), (17, .ref 116), (16, .ref 114), (7, .ref 113), (6, .ref 112), (5, .ref 111), (4, .ref 110), (3, .ref 109), (1, .ref 107)], none) (pc' := 30) (L' := [(0, .ref 106)]) h_m20 (z_at.mk 3 rfl rfl) rfl (by decide) rfl (Or.inl rfl) rfl rfl rfl ?_
  clear H m; intro m H
  refine w_p h_m20 2 (pc' := 32) (L' := [(0, .ref 106)]) (st' := [.int (0 : Int32), .ref 106]) rfl ?_
  refine w_pf H (12, 18, [(13, .int (0 : Int32)), (12, .int (0 : Int32)), (11, .int (0 : Int32)), (10, .int (0 : Int32)), (9, .long (0 : Int64)), (8, .int (0 : Int32)), (2, .int (0 : Int32)), (15, .int (0 : Int32)), (14, .int (0 : Int32)), (0, .ref 41), (17, .ref 116), (16, .ref 114), (7, .ref 113), (6, .ref 112), (5, .ref 111), (4, .ref 110), (3, .ref 109), (1, .ref 107)], none) (pc' := 35) (L' := [(0, .ref 106)]) h_m20 (z_at.mk 3 rfl rfl) rfl (by decide) rfl (Or.inl rfl) rfl rfl rfl ?_
  clear H m; intro m H
  refine w_p h_m20 2 (pc' := 37) (L' := [(0, .ref 106)]) (st' := [.int (0 : Int32), .ref 106]) rfl ?_
  refine w_pf H (12, 18, [(14, .int (0 : Int32)), (13, .int (0 : Int32)), (12, .int (0 : Int32)), (11, .int (0 : Int32)), (10, .int (0 : Int32)), (9, .long (0 : Int64)), (8, .int (0 : Int32)), (2, .int (0 : Int32)), (15, .int (0 : Int32)), (0, .ref 41), (17, .ref 116), (16, .ref 114), (7, .ref 113), (6, .ref 112), (5, .ref 111), (4, .ref 110), (3, .ref 109), (1, .ref 107)], none) (pc' := 40) (L' := [(0, .ref 106)]) h_m20 (z_at.mk 3 rfl rfl) rfl (by decide) rfl (Or.inl rfl) rfl rfl rfl ?_
  clear H m; intro m H
  refine w_p h_m20 2 (pc' := 42) (L' := [(0, .ref 106)]) (st' := [.int (0 : Int32), .ref 106]) rfl ?_
  refine w_pf H (12, 18, [(15, .int (0 : Int32)), (14, .int (0 : Int32)), (13, .int (0 : Int32)), (12, .int (0 : Int32)), (11, .int (0 : Int32)), (10, .int (0 : Int32)), (9, .long (0 : Int64)), (8, .int (0 : Int32)), (2, .int (0 : Int32)), (0, .ref 41), (17, .ref 116), (16, .ref 114), (7, .ref 113), (6, .ref 112), (5, .ref 111), (4, .ref 110), (3, .ref 109), (1, .ref 107)], none) (pc' := 45) (L' := [(0, .ref 106)]) h_m20 (z_at.mk 3 rfl rfl) rfl (by decide) rfl (Or.inl rfl) rfl rfl rfl ?_
  clear H m; intro m H
  refine w_rv h_m20 (z_at.mk 1 rfl rfl) rfl ?_
  show z_W 998 145 7 [(0, .ref 39), (1, .int (19 : Int32))] [] m _
  refine w_p h_m145 1 (pc' := 8) (L' := [(0, .ref 39), (1, .int (19 : Int32))]) (st' := [.ref 39]) rfl ?_
  refine w_gf H (pc' := 11) (L' := [(0, .ref 39), (1, .int (19 : Int32))]) h_m145 (z_at.mk 3 rfl rfl) rfl (u := .ref 106) rfl rfl rfl ?_
  refine w_gf H (pc' := 14) (L' := [(0, .ref 39), (1, .int (19 : Int32))]) h_m145 (z_at.mk 3 rfl rfl) rfl (u := .ref 107) rfl rfl rfl ?_
  refine w_p h_m145 1 (pc' := 15) (L' := [(0, .ref 39), (1, .int (19 : Int32))]) (st' := [.ref 39, .ref 107]) rfl ?_
  refine w_gf H (pc' := 18) (L' := [(0, .ref 39), (1, .int (19 : Int32))]) h_m145 (z_at.mk 3 rfl rfl) rfl (u := .ref 40) rfl rfl rfl ?_
  refine w_gf H (pc' := 21) (L' := [(0, .ref 39), (1, .int (19 : Int32))]) h_m145 (z_at.mk 3 rfl rfl) rfl (u := .ref 48) rfl rfl rfl ?_
  refine w_gf H (pc' := 24) (L' := [(0, .ref 39), (1, .int (19 : Int32))]) h_m145 (z_at.mk 3 rfl rfl) rfl (u := .ref 49) rfl rfl rfl ?_
  refine w_cv (H.t rfl) (pc' := 27) (L' := [(0, .ref 39), (1, .int (19 : Int32))]) (rest := []) (Ps := [.ref 49]) (L0 := [(0, .ref 107), (1, .ref 49)]) h_m145 (z_at.mk 3 rfl rfl) (Or.inl ⟨rfl, rfl⟩) rfl rfl (by decide) (by decide) rfl rfl rfl rfl rfl rfl (by decide) rfl rfl rfl ?_
  refine w_p h_m74 1 (pc' := 1) (L' := [(0, .ref 107), (1, .ref 49)]) (st' := [.ref 49]) rfl ?_
  refine w_gf H (pc' := 4) (L' := [(0, .ref 107), (1, .ref 49)]) h_m74 (z_at.mk 3 rfl rfl) rfl (u := .ref 50) rfl rfl rfl ?_
  refine w_p h_m74 2 (pc' := 6) (L' := [(0, .ref 107), (1, .ref 49)]) (st' := [.ref 107, .int (0 : Int32), .ref 50]) rfl ?_
  refine w_gf H (pc' := 9) (L' := [(0, .ref 107), (1, .ref 49)]) h_m74 (z_at.mk 3 rfl rfl) rfl (u := .ref 108) rfl rfl rfl ?_
  refine w_p h_m74 2 (pc' := 12) (L' := [(0, .ref 107), (1, .ref 49)]) (st' := [.int (7 : Int32), .int (0 : Int32), .ref 108, .int (0 : Int32), .ref 50]) rfl ?_
  refine w_cpf H (ra := (0, 7, [(6, .int (1024 : Int32)), (5, .int (1 : Int32)), (4, .int (1 : Int32)), (3, .int (0 : Int32)), (2, .int (12 : Int32)), (1, .int (40 : Int32)), (0, .int (10 : Int32))], some (.int (0 : Int32)))) (pc' := 15) (L' := [(0, .ref 107), (1, .ref 49)]) h_m74 (z_at.mk 3 rfl rfl) rfl (z_cat_le 0 rfl (by decide)) rfl rfl rfl rfl (by decide) rfl rfl ?_
  clear H m; intro m H
  refine w_rv h_m74 (z_at.mk 1 rfl rfl) rfl ?_
  show z_W 998 145 27 [(0, .ref 39), (1, .int (19 : Int32))] [] m _
  refine w_p h_m145 1 (pc' := 28) (L' := [(0, .ref 39), (1, .int (19 : Int32))]) (st' := [.ref 39]) rfl ?_
  refine w_gf H (pc' := 31) (L' := [(0, .ref 39), (1, .int (19 : Int32))]) h_m145 (z_at.mk 3 rfl rfl) rfl (u := .ref 106) rfl rfl rfl ?_
  refine w_gf H (pc' := 34) (L' := [(0, .ref 39), (1, .int (19 : Int32))]) h_m145 (z_at.mk 3 rfl rfl) rfl (u := .ref 107) rfl rfl rfl ?_
  refine w_p h_m145 2 (pc' := 36) (L' := [(0, .ref 39), (1, .int (19 : Int32))]) (st' := [.int (19 : Int32), .int (1 : Int32), .ref 107]) rfl ?_
  refine w_cv (H.t rfl) (pc' := 39) (L' := [(0, .ref 39), (1, .int (19 : Int32))]) (rest := []) (Ps := [.int (1 : Int32), .int (19 : Int32)]) (L0 := [(0, .ref 107), (1, .int (1 : Int32)), (2, .int (19 : Int32))]) h_m145 (z_at.mk 3 rfl rfl) (Or.inl ⟨rfl, rfl⟩) rfl rfl (by decide) (by decide) rfl rfl rfl rfl rfl rfl (by decide) rfl rfl rfl ?_
  refine w_p h_m73 6 (pc' := 11) (L' := [(0, .ref 107), (1, .int (1 : Int32)), (2, .int (19 : Int32))]) (st' := [.ref 107]) rfl ?_
  refine w_gf H (pc' := 14) (L' := [(0, .ref 107), (1, .int (1 : Int32)), (2, .int (19 : Int32))]) h_m73 (z_at.mk 3 rfl rfl) rfl (u := .ref 108) rfl rfl rfl ?_
  refine w_p h_m73 2 (pc' := 16) (L' := [(0, .ref 107), (1, .int (1 : Int32)), (2, .int (19 : Int32))]) (st' := [.int (19 : Int32), .int (1 : Int32), .ref 108]) rfl ?_
  refine w_as H (t := 0) (j := 1) (u := .int (19 : Int32)) (0, 7, [(1, .int (19 : Int32)), (6, .int (1024 : Int32)), (5, .int (1 : Int32)), (4, .int (1 : Int32)), (3, .int (0 : Int32)), (2, .int (12 : Int32)), (0, .int (10 : Int32))], some (.int (0 : Int32))) (pc' := 17) (L' := []) h_m73 (z_at.mk 1 rfl rfl) rfl rfl (w_ui _ _ (by decide)) rfl rfl rfl rfl ?_
  clear H m; intro m H
  refine w_rv h_m73 (z_at.mk 1 rfl rfl) rfl ?_
  show z_W 998 145 39 [(0, .ref 39), (1, .int (19 : Int32))] [] m _
  refine w_p h_m145 4 (pc' := 43) (L' := [(0, .ref 39), (2, .int (0 : Int32))]) (st' := [.ref 39, .int (0 : Int32)]) rfl ?_
  refine w_gf H (pc' := 46) (L' := [(0, .ref 39), (2, .int (0 : Int32))]) h_m145 (z_at.mk 3 rfl rfl) rfl (u := .ref 40) rfl rfl rfl ?_
  refine w_gf H (pc' := 49) (L' := [(0, .ref 39), (2, .int (0 : Int32))]) h_m145 (z_at.mk 3 rfl rfl) rfl (u := .ref 63) rfl rfl rfl ?_
  refine w_gf H (pc' := 52) (L' := [(0, .ref 39), (2, .int (0 : Int32))]) h_m145 (z_at.mk 3 rfl rfl) rfl (u := .int (0 : Int32)) rfl rfl rfl ?_
  refine w_p h_m145 1 (pc' := 79) (L' := [(0, .ref 39), (2, .int (0 : Int32))]) (st' := []) rfl ?_
  refine w_rv h_m145 (z_at.mk 1 rfl rfl) rfl ?_
  show z_W 999 146 13 [(0, .ref 39), (1, .int (xs 1)), (2, .int (19 : Int32))] [] m _
  refine w_p h_m146 1 (pc' := 14) (L' := [(0, .ref 39), (1, .int (xs 1)), (2, .int (19 : Int32))]) (st' := [.ref 39]) rfl ?_
  refine w_gf H (pc' := 17) (L' := [(0, .ref 39), (1, .int (xs 1)), (2, .int (19 : Int32))]) h_m146 (z_at.mk 3 rfl rfl) rfl (u := .ref 106) rfl rfl rfl ?_
  refine w_gf H (pc' := 20) (L' := [(0, .ref 39), (1, .int (xs 1)), (2, .int (19 : Int32))]) h_m146 (z_at.mk 3 rfl rfl) rfl (u := .int (0 : Int32)) rfl rfl rfl ?_
  refine w_p h_m146 1 (pc' := 21) (L' := [(0, .ref 39), (1, .int (xs 1)), (2, .int (19 : Int32))]) (st' := [.int (xs 1), .int (0 : Int32)]) rfl ?_
  refine w_t2 (pc' := 26) (L' := [(0, .ref 39), (1, .int (xs 1)), (2, .int (19 : Int32))]) h_m146 (z_at.mk 3 rfl rfl) rfl (zc (a := 0) (b := (xs 1).toInt) rfl rfl (decide_eq_true (by omega))) rfl rfl ?_
  refine w_p h_m146 2 (pc' := 2) (L' := [(0, .ref 39), (1, .int (xs 1)), (2, .int (20 : Int32))]) (st' := []) rfl ?_
  exact hQ m (H.subC (by decide +kernel))
set_option maxHeartbeats 400000000 in
set_option maxRecDepth 20000 in
theorem w_turn_146_20 {xs : Nat → Int32} {m : zM} {Q : Option Value → zM → Prop} (hp : (xs 1).toInt < 0) (H : w_ok 6 xs 168 63950 ((106, (12, 18, [(15, .int (0 : Int32)), (14, .int (0 : Int32)), (13, .int (0 : Int32)), (12, .int (0 : Int32)), (11, .int (0 : Int32)), (10, .int (0 : Int32)), (9, .long (0 : Int64)), (8, .int (0 : Int32)), (2, .int (0 : Int32)), (0, .ref 41), (17, .ref 116), (16, .ref 114), (7, .ref 113), (6, .ref 112), (5, .ref 111), (4, .ref 110), (3, .ref 109), (1, .ref 107)], none)) :: (108, (0, 7, [(1, .int (19 : Int32)), (6, .int (1024 : Int32)), (5, .int (1 : Int32)), (4, .int (1 : Int32)), (3, .int (0 : Int32)), (2, .int (12 : Int32)), (0, .int (10 : Int32))], some (.int (0 : Int32)))) :: w_T0) m) (hQ : ∀ m, w_ok 6 xs 168 63950 ((106, (12, 18, [(15, .int (0 : Int32)), (14, .int (0 : Int32)), (13, .int (0 : Int32)), (12, .int (0 : Int32)), (11, .int (0 : Int32)), (10, .int (0 : Int32)), (9, .long (0 : Int64)), (8, .int (0 : Int32)), (2, .int (0 : Int32)), (0, .ref 41), (17, .ref 116), (16, .ref 114), (7, .ref 113), (6, .ref 112), (5, .ref 111), (4, .ref 110), (3, .ref 109), (1, .ref 107)], none)) :: (108, (0, 7, [(1, .int (20 : Int32)), (6, .int (1024 : Int32)), (5, .int (1 : Int32)), (4, .int (1 : Int32)), (3, .int (0 : Int32)), (2, .int (12 : Int32)), (0, .int (10 : Int32))], some (.int (0 : Int32)))) :: w_T0) m → z_W 999 146 2 [(0, .ref 39), (1, .int (xs 1)), (2, .int (21 : Int32))] [] m Q) : z_W 999 146 2 [(0, .ref 39), (1, .int (xs 1)), (2, .int (20 : Int32))] [] m Q := by
  refine w_p h_m146 5 (pc' := 10) (L' := [(0, .ref 39), (1, .int (xs 1)), (2, .int (20 : Int32))]) (st' := [.int (20 : Int32), .ref 39]) rfl ?_
  refine w_cv (H.t rfl) (pc' := 13) (L' := [(0, .ref 39), (1, .int (xs 1)), (2, .int (20 : Int32))]) (rest := []) (Ps := [.int (20 : Int32)]) (L0 := [(0, .ref 39), (1, .int (20 : Int32))]) h_m146 (z_at.mk 3 rfl rfl) (Or.inl ⟨rfl, rfl⟩) rfl rfl (by decide) (by decide) rfl rfl rfl rfl rfl rfl (by decide) rfl rfl rfl ?_
  refine w_p h_m145 1 (pc' := 1) (L' := [(0, .ref 39), (1, .int (20 : Int32))]) (st' := [.ref 39]) rfl ?_
  refine w_gf H (pc' := 4) (L' := [(0, .ref 39), (1, .int (20 : Int32))]) h_m145 (z_at.mk 3 rfl rfl) rfl (u := .ref 106) rfl rfl rfl ?_
  refine w_cv (H.t rfl) (pc' := 7) (L' := [(0, .ref 39), (1, .int (20 : Int32))]) (rest := []) (Ps := []) (L0 := [(0, .ref 106)]) h_m145 (z_at.mk 3 rfl rfl) (Or.inl ⟨rfl, rfl⟩) rfl rfl (by decide) (by decide) rfl rfl rfl rfl rfl rfl (by decide) rfl rfl rfl ?_
  refine w_p h_m20 2 (pc' := 2) (L' := [(0, .ref 106)]) (st' := [.int (0 : Int32), .ref 106]) rfl ?_
  refine w_pf H (12, 18, [(2, .int (0 : Int32)), (15, .int (0 : Int32)), (14, .int (0 : Int32)), (13, .int (0 : Int32)), (12, .int (0 : Int32)), (11, .int (0 : Int32)), (10, .int (0 : Int32)), (9, .long (0 : Int64)), (8, .int (0 : Int32)), (0, .ref 41), (17, .ref 116), (16, .ref 114), (7, .ref 113), (6, .ref 112), (5, .ref 111), (4, .ref 110), (3, .ref 109), (1, .ref 107)], none) (pc' := 5) (L' := [(0, .ref 106)]) h_m20 (z_at.mk 3 rfl rfl) rfl (by decide) rfl (Or.inl rfl) rfl rfl rfl ?_
  clear H m; intro m H
  refine w_p h_m20 2 (pc' := 7) (L' := [(0, .ref 106)]) (st' := [.int (0 : Int32), .ref 106]) rfl ?_
  refine w_pf H (12, 18, [(8, .int (0 : Int32)), (2, .int (0 : Int32)), (15, .int (0 : Int32)), (14, .int (0 : Int32)), (13, .int (0 : Int32)), (12, .int (0 : Int32)), (11, .int (0 : Int32)), (10, .int (0 : Int32)), (9, .long (0 : Int64)), (0, .ref 41), (17, .ref 116), (16, .ref 114), (7, .ref 113), (6, .ref 112), (5, .ref 111), (4, .ref 110), (3, .ref 109), (1, .ref 107)], none) (pc' := 10) (L' := [(0, .ref 106)]) h_m20 (z_at.mk 3 rfl rfl) rfl (by decide) rfl (Or.inl rfl) rfl rfl rfl ?_
  clear H m; intro m H
  refine w_p h_m20 2 (pc' := 12) (L' := [(0, .ref 106)]) (st' := [.long (0 : Int64), .ref 106]) rfl ?_
  refine w_pf H (12, 18, [(9, .long (0 : Int64)), (8, .int (0 : Int32)), (2, .int (0 : Int32)), (15, .int (0 : Int32)), (14, .int (0 : Int32)), (13, .int (0 : Int32)), (12, .int (0 : Int32)), (11, .int (0 : Int32)), (10, .int (0 : Int32)), (0, .ref 41), (17, .ref 116), (16, .ref 114), (7, .ref 113), (6, .ref 112), (5, .ref 111), (4, .ref 110), (3, .ref 109), (1, .ref 107)], none) (pc' := 15) (L' := [(0, .ref 106)]) h_m20 (z_at.mk 3 rfl rfl) rfl (by decide) rfl (Or.inl rfl) rfl rfl rfl ?_
  clear H m; intro m H
  refine w_p h_m20 2 (pc' := 17) (L' := [(0, .ref 106)]) (st' := [.int (0 : Int32), .ref 106]) rfl ?_
  refine w_pf H (12, 18, [(10, .int (0 : Int32)), (9, .long (0 : Int64)), (8, .int (0 : Int32)), (2, .int (0 : Int32)), (15, .int (0 : Int32)), (14, .int (0 : Int32)), (13, .int (0 : Int32)), (12, .int (0 : Int32)), (11, .int (0 : Int32)), (0, .ref 41), (17, .ref 116), (16, .ref 114), (7, .ref 113), (6, .ref 112), (5, .ref 111), (4, .ref 110), (3, .ref 109), (1, .ref 107)], none) (pc' := 20) (L' := [(0, .ref 106)]) h_m20 (z_at.mk 3 rfl rfl) rfl (by decide) rfl (Or.inl rfl) rfl rfl rfl ?_
  clear H m; intro m H
  refine w_p h_m20 2 (pc' := 22) (L' := [(0, .ref 106)]) (st' := [.int (0 : Int32), .ref 106]) rfl ?_
  refine w_pf H (12, 18, [(11, .int (0 : Int32)), (10, .int (0 : Int32)), (9, .long (0 : Int64)), (8, .int (0 : Int32)), (2, .int (0 : Int32)), (15, .int (0 : Int32)), (14, .int (0 : Int32)), (13, .int (0 : Int32)), (12, .int (0 : Int32)), (0, .ref 41), (17, .ref 116), (16, .ref 114), (7, .ref 113), (6, .ref 112), (5, .ref 111), (4, .ref 110), (3, .ref 109), (1, .ref 107)], none) (pc' := 25) (L' := [(0, .ref 106)]) h_m20 (z_at.mk 3 rfl rfl) rfl (by decide) rfl (Or.inl rfl) rfl rfl rfl ?_
  clear H m; intro m H
  refine w_p h_m20 2 (pc' := 27) (L' := [(0, .ref 106)]) (st' := [.int (0 : Int32), .ref 106]) rfl ?_
  refine w_pf H (12, 18, [(12, .int (0 : Int32)), (11, .int (0 : Int32)), (10, .int (0 : Int32)), (9, .long (0 : Int64)), (8, .int (0 : Int32)), (2, .int (0 : Int32)), (15, .int (0 : Int32)), (14, .int (0 : Int32)), (13, .int (0 : Int32)), (0, .ref 41), (17, .ref 116), (16, .ref 114), (7, .ref 113), (6, .ref 112), (5, .ref 111), (4, .ref 110), (3, .ref 109), (1, .ref 107)], none) (pc' := 30) (L' := [(0, .ref 106)]) h_m20 (z_at.mk 3 rfl rfl) rfl (by decide) rfl (Or.inl rfl) rfl rfl rfl ?_
  clear H m; intro m H
  refine w_p h_m20 2 (pc' := 32) (L' := [(0, .ref 106)]) (st' := [.int (0 : Int32), .ref 106]) rfl ?_
  refine w_pf H (12, 18, [(13, .int (0 : Int32)), (12, .int (0 : Int32)), (11, .int (0 : Int32)), (10, .int (0 : Int32)), (9, .long (0 : Int64)), (8, .int (0 : Int32)), (2, .int (0 : Int32)), (15, .int (0 : Int32)), (14, .int (0 : Int32)), (0, .ref 41), (17, .ref 116), (16, .ref 114), (7, .ref 113), (6, .ref 112), (5, .ref 111), (4, .ref 110), (3, .ref 109), (1, .ref 107)], none) (pc' := 35) (L' := [(0, .ref 106)]) h_m20 (z_at.mk 3 rfl rfl) rfl (by decide) rfl (Or.inl rfl) rfl rfl rfl ?_
  clear H m; intro m H
  refine w_p h_m20 2 (pc' := 37) (L' := [(0, .ref 106)]) (st' := [.int (0 : Int32), .ref 106]) rfl ?_
  refine w_pf H (12, 18, [(14, .int (0 : Int32)), (13, .int (0 : Int32)), (12, .int (0 : Int32)), (11, .int (0 : Int32)), (10, .int (0 : Int32)), (9, .long (0 : Int64)), (8, .int (0 : Int32)), (2, .int (0 : Int32)), (15, .int (0 : Int32)), (0, .ref 41), (17, .ref 116), (16, .ref 114), (7, .ref 113), (6, .ref 112), (5, .ref 111), (4, .ref 110), (3, .ref 109), (1, .ref 107)], none) (pc' := 40) (L' := [(0, .ref 106)]) h_m20 (z_at.mk 3 rfl rfl) rfl (by decide) rfl (Or.inl rfl) rfl rfl rfl ?_
  clear H m; intro m H
  refine w_p h_m20 2 (pc' := 42) (L' := [(0, .ref 106)]) (st' := [.int (0 : Int32), .ref 106]) rfl ?_
  refine w_pf H (12, 18, [(15, .int (0 : Int32)), (14, .int (0 : Int32)), (13, .int (0 : Int32)), (12, .int (0 : Int32)), (11, .int (0 : Int32)), (10, .int (0 : Int32)), (9, .long (0 : Int64)), (8, .int (0 : Int32)), (2, .int (0 : Int32)), (0, .ref 41), (17, .ref 116), (16, .ref 114), (7, .ref 113), (6, .ref 112), (5, .ref 111), (4, .ref 110), (3, .ref 109), (1, .ref 107)], none) (pc' := 45) (L' := [(0, .ref 106)]) h_m20 (z_at.mk 3 rfl rfl) rfl (by decide) rfl (Or.inl rfl) rfl rfl rfl ?_
  clear H m; intro m H
  refine w_rv h_m20 (z_at.mk 1 rfl rfl) rfl ?_
  show z_W 998 145 7 [(0, .ref 39), (1, .int (20 : Int32))] [] m _
  refine w_p h_m145 1 (pc' := 8) (L' := [(0, .ref 39), (1, .int (20 : Int32))]) (st' := [.ref 39]) rfl ?_
  refine w_gf H (pc' := 11) (L' := [(0, .ref 39), (1, .int (20 : Int32))]) h_m145 (z_at.mk 3 rfl rfl) rfl (u := .ref 106) rfl rfl rfl ?_
  refine w_gf H (pc' := 14) (L' := [(0, .ref 39), (1, .int (20 : Int32))]) h_m145 (z_at.mk 3 rfl rfl) rfl (u := .ref 107) rfl rfl rfl ?_
  refine w_p h_m145 1 (pc' := 15) (L' := [(0, .ref 39), (1, .int (20 : Int32))]) (st' := [.ref 39, .ref 107]) rfl ?_
  refine w_gf H (pc' := 18) (L' := [(0, .ref 39), (1, .int (20 : Int32))]) h_m145 (z_at.mk 3 rfl rfl) rfl (u := .ref 40) rfl rfl rfl ?_
  refine w_gf H (pc' := 21) (L' := [(0, .ref 39), (1, .int (20 : Int32))]) h_m145 (z_at.mk 3 rfl rfl) rfl (u := .ref 48) rfl rfl rfl ?_
  refine w_gf H (pc' := 24) (L' := [(0, .ref 39), (1, .int (20 : Int32))]) h_m145 (z_at.mk 3 rfl rfl) rfl (u := .ref 49) rfl rfl rfl ?_
  refine w_cv (H.t rfl) (pc' := 27) (L' := [(0, .ref 39), (1, .int (20 : Int32))]) (rest := []) (Ps := [.ref 49]) (L0 := [(0, .ref 107), (1, .ref 49)]) h_m145 (z_at.mk 3 rfl rfl) (Or.inl ⟨rfl, rfl⟩) rfl rfl (by decide) (by decide) rfl rfl rfl rfl rfl rfl (by decide) rfl rfl rfl ?_
  refine w_p h_m74 1 (pc' := 1) (L' := [(0, .ref 107), (1, .ref 49)]) (st' := [.ref 49]) rfl ?_
  refine w_gf H (pc' := 4) (L' := [(0, .ref 107), (1, .ref 49)]) h_m74 (z_at.mk 3 rfl rfl) rfl (u := .ref 50) rfl rfl rfl ?_
  refine w_p h_m74 2 (pc' := 6) (L' := [(0, .ref 107), (1, .ref 49)]) (st' := [.ref 107, .int (0 : Int32), .ref 50]) rfl ?_
  refine w_gf H (pc' := 9) (L' := [(0, .ref 107), (1, .ref 49)]) h_m74 (z_at.mk 3 rfl rfl) rfl (u := .ref 108) rfl rfl rfl ?_
  refine w_p h_m74 2 (pc' := 12) (L' := [(0, .ref 107), (1, .ref 49)]) (st' := [.int (7 : Int32), .int (0 : Int32), .ref 108, .int (0 : Int32), .ref 50]) rfl ?_
  refine w_cpf H (ra := (0, 7, [(6, .int (1024 : Int32)), (5, .int (1 : Int32)), (4, .int (1 : Int32)), (3, .int (0 : Int32)), (2, .int (12 : Int32)), (1, .int (40 : Int32)), (0, .int (10 : Int32))], some (.int (0 : Int32)))) (pc' := 15) (L' := [(0, .ref 107), (1, .ref 49)]) h_m74 (z_at.mk 3 rfl rfl) rfl (z_cat_le 0 rfl (by decide)) rfl rfl rfl rfl (by decide) rfl rfl ?_
  clear H m; intro m H
  refine w_rv h_m74 (z_at.mk 1 rfl rfl) rfl ?_
  show z_W 998 145 27 [(0, .ref 39), (1, .int (20 : Int32))] [] m _
  refine w_p h_m145 1 (pc' := 28) (L' := [(0, .ref 39), (1, .int (20 : Int32))]) (st' := [.ref 39]) rfl ?_
  refine w_gf H (pc' := 31) (L' := [(0, .ref 39), (1, .int (20 : Int32))]) h_m145 (z_at.mk 3 rfl rfl) rfl (u := .ref 106) rfl rfl rfl ?_
  refine w_gf H (pc' := 34) (L' := [(0, .ref 39), (1, .int (20 : Int32))]) h_m145 (z_at.mk 3 rfl rfl) rfl (u := .ref 107) rfl rfl rfl ?_
  refine w_p h_m145 2 (pc' := 36) (L' := [(0, .ref 39), (1, .int (20 : Int32))]) (st' := [.int (20 : Int32), .int (1 : Int32), .ref 107]) rfl ?_
  refine w_cv (H.t rfl) (pc' := 39) (L' := [(0, .ref 39), (1, .int (20 : Int32))]) (rest := []) (Ps := [.int (1 : Int32), .int (20 : Int32)]) (L0 := [(0, .ref 107), (1, .int (1 : Int32)), (2, .int (20 : Int32))]) h_m145 (z_at.mk 3 rfl rfl) (Or.inl ⟨rfl, rfl⟩) rfl rfl (by decide) (by decide) rfl rfl rfl rfl rfl rfl (by decide) rfl rfl rfl ?_
  refine w_p h_m73 6 (pc' := 11) (L' := [(0, .ref 107), (1, .int (1 : Int32)), (2, .int (20 : Int32))]) (st' := [.ref 107]) rfl ?_
  refine w_gf H (pc' := 14) (L' := [(0, .ref 107), (1, .int (1 : Int32)), (2, .int (20 : Int32))]) h_m73 (z_at.mk 3 rfl rfl) rfl (u := .ref 108) rfl rfl rfl ?_
  refine w_p h_m73 2 (pc' := 16) (L' := [(0, .ref 107), (1, .int (1 : Int32)), (2, .int (20 : Int32))]) (st' := [.int (20 : Int32), .int (1 : Int32), .ref 108]) rfl ?_
  refine w_as H (t := 0) (j := 1) (u := .int (20 : Int32)) (0, 7, [(1, .int (20 : Int32)), (6, .int (1024 : Int32)), (5, .int (1 : Int32)), (4, .int (1 : Int32)), (3, .int (0 : Int32)), (2, .int (12 : Int32)), (0, .int (10 : Int32))], some (.int (0 : Int32))) (pc' := 17) (L' := []) h_m73 (z_at.mk 1 rfl rfl) rfl rfl (w_ui _ _ (by decide)) rfl rfl rfl rfl ?_
  clear H m; intro m H
  refine w_rv h_m73 (z_at.mk 1 rfl rfl) rfl ?_
  show z_W 998 145 39 [(0, .ref 39), (1, .int (20 : Int32))] [] m _
  refine w_p h_m145 4 (pc' := 43) (L' := [(0, .ref 39), (2, .int (0 : Int32))]) (st' := [.ref 39, .int (0 : Int32)]) rfl ?_
  refine w_gf H (pc' := 46) (L' := [(0, .ref 39), (2, .int (0 : Int32))]) h_m145 (z_at.mk 3 rfl rfl) rfl (u := .ref 40) rfl rfl rfl ?_
  refine w_gf H (pc' := 49) (L' := [(0, .ref 39), (2, .int (0 : Int32))]) h_m145 (z_at.mk 3 rfl rfl) rfl (u := .ref 63) rfl rfl rfl ?_
  refine w_gf H (pc' := 52) (L' := [(0, .ref 39), (2, .int (0 : Int32))]) h_m145 (z_at.mk 3 rfl rfl) rfl (u := .int (0 : Int32)) rfl rfl rfl ?_
  refine w_p h_m145 1 (pc' := 79) (L' := [(0, .ref 39), (2, .int (0 : Int32))]) (st' := []) rfl ?_
  refine w_rv h_m145 (z_at.mk 1 rfl rfl) rfl ?_
  show z_W 999 146 13 [(0, .ref 39), (1, .int (xs 1)), (2, .int (20 : Int32))] [] m _
  refine w_p h_m146 1 (pc' := 14) (L' := [(0, .ref 39), (1, .int (xs 1)), (2, .int (20 : Int32))]) (st' := [.ref 39]) rfl ?_
  refine w_gf H (pc' := 17) (L' := [(0, .ref 39), (1, .int (xs 1)), (2, .int (20 : Int32))]) h_m146 (z_at.mk 3 rfl rfl) rfl (u := .ref 106) rfl rfl rfl ?_
  refine w_gf H (pc' := 20) (L' := [(0, .ref 39), (1, .int (xs 1)), (2, .int (20 : Int32))]) h_m146 (z_at.mk 3 rfl rfl) rfl (u := .int (0 : Int32)) rfl rfl rfl ?_
  refine w_p h_m146 1 (pc' := 21) (L' := [(0, .ref 39), (1, .int (xs 1)), (2, .int (20 : Int32))]) (st' := [.int (xs 1), .int (0 : Int32)]) rfl ?_
  refine w_t2 (pc' := 26) (L' := [(0, .ref 39), (1, .int (xs 1)), (2, .int (20 : Int32))]) h_m146 (z_at.mk 3 rfl rfl) rfl (zc (a := 0) (b := (xs 1).toInt) rfl rfl (decide_eq_true (by omega))) rfl rfl ?_
  refine w_p h_m146 2 (pc' := 2) (L' := [(0, .ref 39), (1, .int (xs 1)), (2, .int (21 : Int32))]) (st' := []) rfl ?_
  exact hQ m (H.subC (by decide +kernel))
set_option maxHeartbeats 400000000 in
set_option maxRecDepth 20000 in
theorem w_turn_146_21 {xs : Nat → Int32} {m : zM} {Q : Option Value → zM → Prop} (hp : (xs 1).toInt < 0) (H : w_ok 6 xs 168 63950 ((106, (12, 18, [(15, .int (0 : Int32)), (14, .int (0 : Int32)), (13, .int (0 : Int32)), (12, .int (0 : Int32)), (11, .int (0 : Int32)), (10, .int (0 : Int32)), (9, .long (0 : Int64)), (8, .int (0 : Int32)), (2, .int (0 : Int32)), (0, .ref 41), (17, .ref 116), (16, .ref 114), (7, .ref 113), (6, .ref 112), (5, .ref 111), (4, .ref 110), (3, .ref 109), (1, .ref 107)], none)) :: (108, (0, 7, [(1, .int (20 : Int32)), (6, .int (1024 : Int32)), (5, .int (1 : Int32)), (4, .int (1 : Int32)), (3, .int (0 : Int32)), (2, .int (12 : Int32)), (0, .int (10 : Int32))], some (.int (0 : Int32)))) :: w_T0) m) (hQ : ∀ m, w_ok 6 xs 168 63950 ((106, (12, 18, [(15, .int (0 : Int32)), (14, .int (0 : Int32)), (13, .int (0 : Int32)), (12, .int (0 : Int32)), (11, .int (0 : Int32)), (10, .int (0 : Int32)), (9, .long (0 : Int64)), (8, .int (0 : Int32)), (2, .int (0 : Int32)), (0, .ref 41), (17, .ref 116), (16, .ref 114), (7, .ref 113), (6, .ref 112), (5, .ref 111), (4, .ref 110), (3, .ref 109), (1, .ref 107)], none)) :: (108, (0, 7, [(1, .int (21 : Int32)), (6, .int (1024 : Int32)), (5, .int (1 : Int32)), (4, .int (1 : Int32)), (3, .int (0 : Int32)), (2, .int (12 : Int32)), (0, .int (10 : Int32))], some (.int (0 : Int32)))) :: w_T0) m → z_W 999 146 2 [(0, .ref 39), (1, .int (xs 1)), (2, .int (22 : Int32))] [] m Q) : z_W 999 146 2 [(0, .ref 39), (1, .int (xs 1)), (2, .int (21 : Int32))] [] m Q := by
  refine w_p h_m146 5 (pc' := 10) (L' := [(0, .ref 39), (1, .int (xs 1)), (2, .int (21 : Int32))]) (st' := [.int (21 : Int32), .ref 39]) rfl ?_
  refine w_cv (H.t rfl) (pc' := 13) (L' := [(0, .ref 39), (1, .int (xs 1)), (2, .int (21 : Int32))]) (rest := []) (Ps := [.int (21 : Int32)]) (L0 := [(0, .ref 39), (1, .int (21 : Int32))]) h_m146 (z_at.mk 3 rfl rfl) (Or.inl ⟨rfl, rfl⟩) rfl rfl (by decide) (by decide) rfl rfl rfl rfl rfl rfl (by decide) rfl rfl rfl ?_
  refine w_p h_m145 1 (pc' := 1) (L' := [(0, .ref 39), (1, .int (21 : Int32))]) (st' := [.ref 39]) rfl ?_
  refine w_gf H (pc' := 4) (L' := [(0, .ref 39), (1, .int (21 : Int32))]) h_m145 (z_at.mk 3 rfl rfl) rfl (u := .ref 106) rfl rfl rfl ?_
  refine w_cv (H.t rfl) (pc' := 7) (L' := [(0, .ref 39), (1, .int (21 : Int32))]) (rest := []) (Ps := []) (L0 := [(0, .ref 106)]) h_m145 (z_at.mk 3 rfl rfl) (Or.inl ⟨rfl, rfl⟩) rfl rfl (by decide) (by decide) rfl rfl rfl rfl rfl rfl (by decide) rfl rfl rfl ?_
  refine w_p h_m20 2 (pc' := 2) (L' := [(0, .ref 106)]) (st' := [.int (0 : Int32), .ref 106]) rfl ?_
  refine w_pf H (12, 18, [(2, .int (0 : Int32)), (15, .int (0 : Int32)), (14, .int (0 : Int32)), (13, .int (0 : Int32)), (12, .int (0 : Int32)), (11, .int (0 : Int32)), (10, .int (0 : Int32)), (9, .long (0 : Int64)), (8, .int (0 : Int32)), (0, .ref 41), (17, .ref 116), (16, .ref 114), (7, .ref 113), (6, .ref 112), (5, .ref 111), (4, .ref 110), (3, .ref 109), (1, .ref 107)], none) (pc' := 5) (L' := [(0, .ref 106)]) h_m20 (z_at.mk 3 rfl rfl) rfl (by decide) rfl (Or.inl rfl) rfl rfl rfl ?_
  clear H m; intro m H
  refine w_p h_m20 2 (pc' := 7) (L' := [(0, .ref 106)]) (st' := [.int (0 : Int32), .ref 106]) rfl ?_
  refine w_pf H (12, 18, [(8, .int (0 : Int32)), (2, .int (0 : Int32)), (15, .int (0 : Int32)), (14, .int (0 : Int32)), (13, .int (0 : Int32)), (12, .int (0 : Int32)), (11, .int (0 : Int32)), (10, .int (0 : Int32)), (9, .long (0 : Int64)), (0, .ref 41), (17, .ref 116), (16, .ref 114), (7, .ref 113), (6, .ref 112), (5, .ref 111), (4, .ref 110), (3, .ref 109), (1, .ref 107)], none) (pc' := 10) (L' := [(0, .ref 106)]) h_m20 (z_at.mk 3 rfl rfl) rfl (by decide) rfl (Or.inl rfl) rfl rfl rfl ?_
  clear H m; intro m H
  refine w_p h_m20 2 (pc' := 12) (L' := [(0, .ref 106)]) (st' := [.long (0 : Int64), .ref 106]) rfl ?_
  refine w_pf H (12, 18, [(9, .long (0 : Int64)), (8, .int (0 : Int32)), (2, .int (0 : Int32)), (15, .int (0 : Int32)), (14, .int (0 : Int32)), (13, .int (0 : Int32)), (12, .int (0 : Int32)), (11, .int (0 : Int32)), (10, .int (0 : Int32)), (0, .ref 41), (17, .ref 116), (16, .ref 114), (7, .ref 113), (6, .ref 112), (5, .ref 111), (4, .ref 110), (3, .ref 109), (1, .ref 107)], none) (pc' := 15) (L' := [(0, .ref 106)]) h_m20 (z_at.mk 3 rfl rfl) rfl (by decide) rfl (Or.inl rfl) rfl rfl rfl ?_
  clear H m; intro m H
  refine w_p h_m20 2 (pc' := 17) (L' := [(0, .ref 106)]) (st' := [.int (0 : Int32), .ref 106]) rfl ?_
  refine w_pf H (12, 18, [(10, .int (0 : Int32)), (9, .long (0 : Int64)), (8, .int (0 : Int32)), (2, .int (0 : Int32)), (15, .int (0 : Int32)), (14, .int (0 : Int32)), (13, .int (0 : Int32)), (12, .int (0 : Int32)), (11, .int (0 : Int32)), (0, .ref 41), (17, .ref 116), (16, .ref 114), (7, .ref 113), (6, .ref 112), (5, .ref 111), (4, .ref 110), (3, .ref 109), (1, .ref 107)], none) (pc' := 20) (L' := [(0, .ref 106)]) h_m20 (z_at.mk 3 rfl rfl) rfl (by decide) rfl (Or.inl rfl) rfl rfl rfl ?_
  clear H m; intro m H
  refine w_p h_m20 2 (pc' := 22) (L' := [(0, .ref 106)]) (st' := [.int (0 : Int32), .ref 106]) rfl ?_
  refine w_pf H (12, 18, [(11, .int (0 : Int32)), (10, .int (0 : Int32)), (9, .long (0 : Int64)), (8, .int (0 : Int32)), (2, .int (0 : Int32)), (15, .int (0 : Int32)), (14, .int (0 : Int32)), (13, .int (0 : Int32)), (12, .int (0 : Int32)), (0, .ref 41), (17, .ref 116), (16, .ref 114), (7, .ref 113), (6, .ref 112), (5, .ref 111), (4, .ref 110), (3, .ref 109), (1, .ref 107)], none) (pc' := 25) (L' := [(0, .ref 106)]) h_m20 (z_at.mk 3 rfl rfl) rfl (by decide) rfl (Or.inl rfl) rfl rfl rfl ?_
  clear H m; intro m H
  refine w_p h_m20 2 (pc' := 27) (L' := [(0, .ref 106)]) (st' := [.int (0 : Int32), .ref 106]) rfl ?_
  refine w_pf H (12, 18, [(12, .int (0 : Int32)), (11, .int (0 : Int32)), (10, .int (0 : Int32)), (9, .long (0 : Int64)), (8, .int (0 : Int32)), (2, .int (0 : Int32)), (15, .int (0 : Int32)), (14, .int (0 : Int32)), (13, .int (0 : Int32)), (0, .ref 41), (17, .ref 116), (16, .ref 114), (7, .ref 113), (6, .ref 112), (5, .ref 111), (4, .ref 110), (3, .ref 109), (1, .ref 107)], none) (pc' := 30) (L' := [(0, .ref 106)]) h_m20 (z_at.mk 3 rfl rfl) rfl (by decide) rfl (Or.inl rfl) rfl rfl rfl ?_
  clear H m; intro m H
  refine w_p h_m20 2 (pc' := 32) (L' := [(0, .ref 106)]) (st' := [.int (0 : Int32), .ref 106]) rfl ?_
  refine w_pf H (12, 18, [(13, .int (0 : Int32)), (12, .int (0 : Int32)), (11, .int (0 : Int32)), (10, .int (0 : Int32)), (9, .long (0 : Int64)), (8, .int (0 : Int32)), (2, .int (0 : Int32)), (15, .int (0 : Int32)), (14, .int (0 : Int32)), (0, .ref 41), (17, .ref 116), (16, .ref 114), (7, .ref 113), (6, .ref 112), (5, .ref 111), (4, .ref 110), (3, .ref 109), (1, .ref 107)], none) (pc' := 35) (L' := [(0, .ref 106)]) h_m20 (z_at.mk 3 rfl rfl) rfl (by decide) rfl (Or.inl rfl) rfl rfl rfl ?_
  clear H m; intro m H
  refine w_p h_m20 2 (pc' := 37) (L' := [(0, .ref 106)]) (st' := [.int (0 : Int32), .ref 106]) rfl ?_
  refine w_pf H (12, 18, [(14, .int (0 : Int32)), (13, .int (0 : Int32)), (12, .int (0 : Int32)), (11, .int (0 : Int32)), (10, .int (0 : Int32)), (9, .long (0 : Int64)), (8, .int (0 : Int32)), (2, .int (0 : Int32)), (15, .int (0 : Int32)), (0, .ref 41), (17, .ref 116), (16, .ref 114), (7, .ref 113), (6, .ref 112), (5, .ref 111), (4, .ref 110), (3, .ref 109), (1, .ref 107)], none) (pc' := 40) (L' := [(0, .ref 106)]) h_m20 (z_at.mk 3 rfl rfl) rfl (by decide) rfl (Or.inl rfl) rfl rfl rfl ?_
  clear H m; intro m H
  refine w_p h_m20 2 (pc' := 42) (L' := [(0, .ref 106)]) (st' := [.int (0 : Int32), .ref 106]) rfl ?_
  refine w_pf H (12, 18, [(15, .int (0 : Int32)), (14, .int (0 : Int32)), (13, .int (0 : Int32)), (12, .int (0 : Int32)), (11, .int (0 : Int32)), (10, .int (0 : Int32)), (9, .long (0 : Int64)), (8, .int (0 : Int32)), (2, .int (0 : Int32)), (0, .ref 41), (17, .ref 116), (16, .ref 114), (7, .ref 113), (6, .ref 112), (5, .ref 111), (4, .ref 110), (3, .ref 109), (1, .ref 107)], none) (pc' := 45) (L' := [(0, .ref 106)]) h_m20 (z_at.mk 3 rfl rfl) rfl (by decide) rfl (Or.inl rfl) rfl rfl rfl ?_
  clear H m; intro m H
  refine w_rv h_m20 (z_at.mk 1 rfl rfl) rfl ?_
  show z_W 998 145 7 [(0, .ref 39), (1, .int (21 : Int32))] [] m _
  refine w_p h_m145 1 (pc' := 8) (L' := [(0, .ref 39), (1, .int (21 : Int32))]) (st' := [.ref 39]) rfl ?_
  refine w_gf H (pc' := 11) (L' := [(0, .ref 39), (1, .int (21 : Int32))]) h_m145 (z_at.mk 3 rfl rfl) rfl (u := .ref 106) rfl rfl rfl ?_
  refine w_gf H (pc' := 14) (L' := [(0, .ref 39), (1, .int (21 : Int32))]) h_m145 (z_at.mk 3 rfl rfl) rfl (u := .ref 107) rfl rfl rfl ?_
  refine w_p h_m145 1 (pc' := 15) (L' := [(0, .ref 39), (1, .int (21 : Int32))]) (st' := [.ref 39, .ref 107]) rfl ?_
  refine w_gf H (pc' := 18) (L' := [(0, .ref 39), (1, .int (21 : Int32))]) h_m145 (z_at.mk 3 rfl rfl) rfl (u := .ref 40) rfl rfl rfl ?_
  refine w_gf H (pc' := 21) (L' := [(0, .ref 39), (1, .int (21 : Int32))]) h_m145 (z_at.mk 3 rfl rfl) rfl (u := .ref 48) rfl rfl rfl ?_
  refine w_gf H (pc' := 24) (L' := [(0, .ref 39), (1, .int (21 : Int32))]) h_m145 (z_at.mk 3 rfl rfl) rfl (u := .ref 49) rfl rfl rfl ?_
  refine w_cv (H.t rfl) (pc' := 27) (L' := [(0, .ref 39), (1, .int (21 : Int32))]) (rest := []) (Ps := [.ref 49]) (L0 := [(0, .ref 107), (1, .ref 49)]) h_m145 (z_at.mk 3 rfl rfl) (Or.inl ⟨rfl, rfl⟩) rfl rfl (by decide) (by decide) rfl rfl rfl rfl rfl rfl (by decide) rfl rfl rfl ?_
  refine w_p h_m74 1 (pc' := 1) (L' := [(0, .ref 107), (1, .ref 49)]) (st' := [.ref 49]) rfl ?_
  refine w_gf H (pc' := 4) (L' := [(0, .ref 107), (1, .ref 49)]) h_m74 (z_at.mk 3 rfl rfl) rfl (u := .ref 50) rfl rfl rfl ?_
  refine w_p h_m74 2 (pc' := 6) (L' := [(0, .ref 107), (1, .ref 49)]) (st' := [.ref 107, .int (0 : Int32), .ref 50]) rfl ?_
  refine w_gf H (pc' := 9) (L' := [(0, .ref 107), (1, .ref 49)]) h_m74 (z_at.mk 3 rfl rfl) rfl (u := .ref 108) rfl rfl rfl ?_
  refine w_p h_m74 2 (pc' := 12) (L' := [(0, .ref 107), (1, .ref 49)]) (st' := [.int (7 : Int32), .int (0 : Int32), .ref 108, .int (0 : Int32), .ref 50]) rfl ?_
  refine w_cpf H (ra := (0, 7, [(6, .int (1024 : Int32)), (5, .int (1 : Int32)), (4, .int (1 : Int32)), (3, .int (0 : Int32)), (2, .int (12 : Int32)), (1, .int (40 : Int32)), (0, .int (10 : Int32))], some (.int (0 : Int32)))) (pc' := 15) (L' := [(0, .ref 107), (1, .ref 49)]) h_m74 (z_at.mk 3 rfl rfl) rfl (z_cat_le 0 rfl (by decide)) rfl rfl rfl rfl (by decide) rfl rfl ?_
  clear H m; intro m H
  refine w_rv h_m74 (z_at.mk 1 rfl rfl) rfl ?_
  show z_W 998 145 27 [(0, .ref 39), (1, .int (21 : Int32))] [] m _
  refine w_p h_m145 1 (pc' := 28) (L' := [(0, .ref 39), (1, .int (21 : Int32))]) (st' := [.ref 39]) rfl ?_
  refine w_gf H (pc' := 31) (L' := [(0, .ref 39), (1, .int (21 : Int32))]) h_m145 (z_at.mk 3 rfl rfl) rfl (u := .ref 106) rfl rfl rfl ?_
  refine w_gf H (pc' := 34) (L' := [(0, .ref 39), (1, .int (21 : Int32))]) h_m145 (z_at.mk 3 rfl rfl) rfl (u := .ref 107) rfl rfl rfl ?_
  refine w_p h_m145 2 (pc' := 36) (L' := [(0, .ref 39), (1, .int (21 : Int32))]) (st' := [.int (21 : Int32), .int (1 : Int32), .ref 107]) rfl ?_
  refine w_cv (H.t rfl) (pc' := 39) (L' := [(0, .ref 39), (1, .int (21 : Int32))]) (rest := []) (Ps := [.int (1 : Int32), .int (21 : Int32)]) (L0 := [(0, .ref 107), (1, .int (1 : Int32)), (2, .int (21 : Int32))]) h_m145 (z_at.mk 3 rfl rfl) (Or.inl ⟨rfl, rfl⟩) rfl rfl (by decide) (by decide) rfl rfl rfl rfl rfl rfl (by decide) rfl rfl rfl ?_
  refine w_p h_m73 6 (pc' := 11) (L' := [(0, .ref 107), (1, .int (1 : Int32)), (2, .int (21 : Int32))]) (st' := [.ref 107]) rfl ?_
  refine w_gf H (pc' := 14) (L' := [(0, .ref 107), (1, .int (1 : Int32)), (2, .int (21 : Int32))]) h_m73 (z_at.mk 3 rfl rfl) rfl (u := .ref 108) rfl rfl rfl ?_
  refine w_p h_m73 2 (pc' := 16) (L' := [(0, .ref 107), (1, .int (1 : Int32)), (2, .int (21 : Int32))]) (st' := [.int (21 : Int32), .int (1 : Int32), .ref 108]) rfl ?_
  refine w_as H (t := 0) (j := 1) (u := .int (21 : Int32)) (0, 7, [(1, .int (21 : Int32)), (6, .int (1024 : Int32)), (5, .int (1 : Int32)), (4, .int (1 : Int32)), (3, .int (0 : Int32)), (2, .int (12 : Int32)), (0, .int (10 : Int32))], some (.int (0 : Int32))) (pc' := 17) (L' := []) h_m73 (z_at.mk 1 rfl rfl) rfl rfl (w_ui _ _ (by decide)) rfl rfl rfl rfl ?_
  clear H m; intro m H
  refine w_rv h_m73 (z_at.mk 1 rfl rfl) rfl ?_
  show z_W 998 145 39 [(0, .ref 39), (1, .int (21 : Int32))] [] m _
  refine w_p h_m145 4 (pc' := 43) (L' := [(0, .ref 39), (2, .int (0 : Int32))]) (st' := [.ref 39, .int (0 : Int32)]) rfl ?_
  refine w_gf H (pc' := 46) (L' := [(0, .ref 39), (2, .int (0 : Int32))]) h_m145 (z_at.mk 3 rfl rfl) rfl (u := .ref 40) rfl rfl rfl ?_
  refine w_gf H (pc' := 49) (L' := [(0, .ref 39), (2, .int (0 : Int32))]) h_m145 (z_at.mk 3 rfl rfl) rfl (u := .ref 63) rfl rfl rfl ?_
  refine w_gf H (pc' := 52) (L' := [(0, .ref 39), (2, .int (0 : Int32))]) h_m145 (z_at.mk 3 rfl rfl) rfl (u := .int (0 : Int32)) rfl rfl rfl ?_
  refine w_p h_m145 1 (pc' := 79) (L' := [(0, .ref 39), (2, .int (0 : Int32))]) (st' := []) rfl ?_
  refine w_rv h_m145 (z_at.mk 1 rfl rfl) rfl ?_
  show z_W 999 146 13 [(0, .ref 39), (1, .int (xs 1)), (2, .int (21 : Int32))] [] m _
  refine w_p h_m146 1 (pc' := 14) (L' := [(0, .ref 39), (1, .int (xs 1)), (2, .int (21 : Int32))]) (st' := [.ref 39]) rfl ?_
  refine w_gf H (pc' := 17) (L' := [(0, .ref 39), (1, .int (xs 1)), (2, .int (21 : Int32))]) h_m146 (z_at.mk 3 rfl rfl) rfl (u := .ref 106) rfl rfl rfl ?_
  refine w_gf H (pc' := 20) (L' := [(0, .ref 39), (1, .int (xs 1)), (2, .int (21 : Int32))]) h_m146 (z_at.mk 3 rfl rfl) rfl (u := .int (0 : Int32)) rfl rfl rfl ?_
  refine w_p h_m146 1 (pc' := 21) (L' := [(0, .ref 39), (1, .int (xs 1)), (2, .int (21 : Int32))]) (st' := [.int (xs 1), .int (0 : Int32)]) rfl ?_
  refine w_t2 (pc' := 26) (L' := [(0, .ref 39), (1, .int (xs 1)), (2, .int (21 : Int32))]) h_m146 (z_at.mk 3 rfl rfl) rfl (zc (a := 0) (b := (xs 1).toInt) rfl rfl (decide_eq_true (by omega))) rfl rfl ?_
  refine w_p h_m146 2 (pc' := 2) (L' := [(0, .ref 39), (1, .int (xs 1)), (2, .int (22 : Int32))]) (st' := []) rfl ?_
  exact hQ m (H.subC (by decide +kernel))
set_option maxHeartbeats 400000000 in
set_option maxRecDepth 20000 in
theorem w_turn_146_22 {xs : Nat → Int32} {m : zM} {Q : Option Value → zM → Prop} (hp : (xs 1).toInt < 0) (H : w_ok 6 xs 168 63950 ((106, (12, 18, [(15, .int (0 : Int32)), (14, .int (0 : Int32)), (13, .int (0 : Int32)), (12, .int (0 : Int32)), (11, .int (0 : Int32)), (10, .int (0 : Int32)), (9, .long (0 : Int64)), (8, .int (0 : Int32)), (2, .int (0 : Int32)), (0, .ref 41), (17, .ref 116), (16, .ref 114), (7, .ref 113), (6, .ref 112), (5, .ref 111), (4, .ref 110), (3, .ref 109), (1, .ref 107)], none)) :: (108, (0, 7, [(1, .int (21 : Int32)), (6, .int (1024 : Int32)), (5, .int (1 : Int32)), (4, .int (1 : Int32)), (3, .int (0 : Int32)), (2, .int (12 : Int32)), (0, .int (10 : Int32))], some (.int (0 : Int32)))) :: w_T0) m) (hQ : ∀ m, w_ok 6 xs 168 63950 ((106, (12, 18, [(15, .int (0 : Int32)), (14, .int (0 : Int32)), (13, .int (0 : Int32)), (12, .int (0 : Int32)), (11, .int (0 : Int32)), (10, .int (0 : Int32)), (9, .long (0 : Int64)), (8, .int (0 : Int32)), (2, .int (0 : Int32)), (0, .ref 41), (17, .ref 116), (16, .ref 114), (7, .ref 113), (6, .ref 112), (5, .ref 111), (4, .ref 110), (3, .ref 109), (1, .ref 107)], none)) :: (108, (0, 7, [(1, .int (22 : Int32)), (6, .int (1024 : Int32)), (5, .int (1 : Int32)), (4, .int (1 : Int32)), (3, .int (0 : Int32)), (2, .int (12 : Int32)), (0, .int (10 : Int32))], some (.int (0 : Int32)))) :: w_T0) m → z_W 999 146 2 [(0, .ref 39), (1, .int (xs 1)), (2, .int (23 : Int32))] [] m Q) : z_W 999 146 2 [(0, .ref 39), (1, .int (xs 1)), (2, .int (22 : Int32))] [] m Q := by
  refine w_p h_m146 5 (pc' := 10) (L' := [(0, .ref 39), (1, .int (xs 1)), (2, .int (22 : Int32))]) (st' := [.int (22 : Int32), .ref 39]) rfl ?_
  refine w_cv (H.t rfl) (pc' := 13) (L' := [(0, .ref 39), (1, .int (xs 1)), (2, .int (22 : Int32))]) (rest := []) (Ps := [.int (22 : Int32)]) (L0 := [(0, .ref 39), (1, .int (22 : Int32))]) h_m146 (z_at.mk 3 rfl rfl) (Or.inl ⟨rfl, rfl⟩) rfl rfl (by decide) (by decide) rfl rfl rfl rfl rfl rfl (by decide) rfl rfl rfl ?_
  refine w_p h_m145 1 (pc' := 1) (L' := [(0, .ref 39), (1, .int (22 : Int32))]) (st' := [.ref 39]) rfl ?_
  refine w_gf H (pc' := 4) (L' := [(0, .ref 39), (1, .int (22 : Int32))]) h_m145 (z_at.mk 3 rfl rfl) rfl (u := .ref 106) rfl rfl rfl ?_
  refine w_cv (H.t rfl) (pc' := 7) (L' := [(0, .ref 39), (1, .int (22 : Int32))]) (rest := []) (Ps := []) (L0 := [(0, .ref 106)]) h_m145 (z_at.mk 3 rfl rfl) (Or.inl ⟨rfl, rfl⟩) rfl rfl (by decide) (by decide) rfl rfl rfl rfl rfl rfl (by decide) rfl rfl rfl ?_
  refine w_p h_m20 2 (pc' := 2) (L' := [(0, .ref 106)]) (st' := [.int (0 : Int32), .ref 106]) rfl ?_
  refine w_pf H (12, 18, [(2, .int (0 : Int32)), (15, .int (0 : Int32)), (14, .int (0 : Int32)), (13, .int (0 : Int32)), (12, .int (0 : Int32)), (11, .int (0 : Int32)), (10, .int (0 : Int32)), (9, .long (0 : Int64)), (8, .int (0 : Int32)), (0, .ref 41), (17, .ref 116), (16, .ref 114), (7, .ref 113), (6, .ref 112), (5, .ref 111), (4, .ref 110), (3, .ref 109), (1, .ref 107)], none) (pc' := 5) (L' := [(0, .ref 106)]) h_m20 (z_at.mk 3 rfl rfl) rfl (by decide) rfl (Or.inl rfl) rfl rfl rfl ?_
  clear H m; intro m H
  refine w_p h_m20 2 (pc' := 7) (L' := [(0, .ref 106)]) (st' := [.int (0 : Int32), .ref 106]) rfl ?_
  refine w_pf H (12, 18, [(8, .int (0 : Int32)), (2, .int (0 : Int32)), (15, .int (0 : Int32)), (14, .int (0 : Int32)), (13, .int (0 : Int32)), (12, .int (0 : Int32)), (11, .int (0 : Int32)), (10, .int (0 : Int32)), (9, .long (0 : Int64)), (0, .ref 41), (17, .ref 116), (16, .ref 114), (7, .ref 113), (6, .ref 112), (5, .ref 111), (4, .ref 110), (3, .ref 109), (1, .ref 107)], none) (pc' := 10) (L' := [(0, .ref 106)]) h_m20 (z_at.mk 3 rfl rfl) rfl (by decide) rfl (Or.inl rfl) rfl rfl rfl ?_
  clear H m; intro m H
  refine w_p h_m20 2 (pc' := 12) (L' := [(0, .ref 106)]) (st' := [.long (0 : Int64), .ref 106]) rfl ?_
  refine w_pf H (12, 18, [(9, .long (0 : Int64)), (8, .int (0 : Int32)), (2, .int (0 : Int32)), (15, .int (0 : Int32)), (14, .int (0 : Int32)), (13, .int (0 : Int32)), (12, .int (0 : Int32)), (11, .int (0 : Int32)), (10, .int (0 : Int32)), (0, .ref 41), (17, .ref 116), (16, .ref 114), (7, .ref 113), (6, .ref 112), (5, .ref 111), (4, .ref 110), (3, .ref 109), (1, .ref 107)], none) (pc' := 15) (L' := [(0, .ref 106)]) h_m20 (z_at.mk 3 rfl rfl) rfl (by decide) rfl (Or.inl rfl) rfl rfl rfl ?_
  clear H m; intro m H
  refine w_p h_m20 2 (pc' := 17) (L' := [(0, .ref 106)]) (st' := [.int (0 : Int32), .ref 106]) rfl ?_
  refine w_pf H (12, 18, [(10, .int (0 : Int32)), (9, .long (0 : Int64)), (8, .int (0 : Int32)), (2, .int (0 : Int32)), (15, .int (0 : Int32)), (14, .int (0 : Int32)), (13, .int (0 : Int32)), (12, .int (0 : Int32)), (11, .int (0 : Int32)), (0, .ref 41), (17, .ref 116), (16, .ref 114), (7, .ref 113), (6, .ref 112), (5, .ref 111), (4, .ref 110), (3, .ref 109), (1, .ref 107)], none) (pc' := 20) (L' := [(0, .ref 106)]) h_m20 (z_at.mk 3 rfl rfl) rfl (by decide) rfl (Or.inl rfl) rfl rfl rfl ?_
  clear H m; intro m H
  refine w_p h_m20 2 (pc' := 22) (L' := [(0, .ref 106)]) (st' := [.int (0 : Int32), .ref 106]) rfl ?_
  refine w_pf H (12, 18, [(11, .int (0 : Int32)), (10, .int (0 : Int32)), (9, .long (0 : Int64)), (8, .int (0 : Int32)), (2, .int (0 : Int32)), (15, .int (0 : Int32)), (14, .int (0 : Int32)), (13, .int (0 : Int32)), (12, .int (0 : Int32)), (0, .ref 41), (17, .ref 116), (16, .ref 114), (7, .ref 113), (6, .ref 112), (5, .ref 111), (4, .ref 110), (3, .ref 109), (1, .ref 107)], none) (pc' := 25) (L' := [(0, .ref 106)]) h_m20 (z_at.mk 3 rfl rfl) rfl (by decide) rfl (Or.inl rfl) rfl rfl rfl ?_
  clear H m; intro m H
  refine w_p h_m20 2 (pc' := 27) (L' := [(0, .ref 106)]) (st' := [.int (0 : Int32), .ref 106]) rfl ?_
  refine w_pf H (12, 18, [(12, .int (0 : Int32)), (11, .int (0 : Int32)), (10, .int (0 : Int32)), (9, .long (0 : Int64)), (8, .int (0 : Int32)), (2, .int (0 : Int32)), (15, .int (0 : Int32)), (14, .int (0 : Int32)), (13, .int (0 : Int32)), (0, .ref 41), (17, .ref 116), (16, .ref 114), (7, .ref 113), (6, .ref 112), (5, .ref 111), (4, .ref 110), (3, .ref 109), (1, .ref 107)], none) (pc' := 30) (L' := [(0, .ref 106)]) h_m20 (z_at.mk 3 rfl rfl) rfl (by decide) rfl (Or.inl rfl) rfl rfl rfl ?_
  clear H m; intro m H
  refine w_p h_m20 2 (pc' := 32) (L' := [(0, .ref 106)]) (st' := [.int (0 : Int32), .ref 106]) rfl ?_
  refine w_pf H (12, 18, [(13, .int (0 : Int32)), (12, .int (0 : Int32)), (11, .int (0 : Int32)), (10, .int (0 : Int32)), (9, .long (0 : Int64)), (8, .int (0 : Int32)), (2, .int (0 : Int32)), (15, .int (0 : Int32)), (14, .int (0 : Int32)), (0, .ref 41), (17, .ref 116), (16, .ref 114), (7, .ref 113), (6, .ref 112), (5, .ref 111), (4, .ref 110), (3, .ref 109), (1, .ref 107)], none) (pc' := 35) (L' := [(0, .ref 106)]) h_m20 (z_at.mk 3 rfl rfl) rfl (by decide) rfl (Or.inl rfl) rfl rfl rfl ?_
  clear H m; intro m H
  refine w_p h_m20 2 (pc' := 37) (L' := [(0, .ref 106)]) (st' := [.int (0 : Int32), .ref 106]) rfl ?_
  refine w_pf H (12, 18, [(14, .int (0 : Int32)), (13, .int (0 : Int32)), (12, .int (0 : Int32)), (11, .int (0 : Int32)), (10, .int (0 : Int32)), (9, .long (0 : Int64)), (8, .int (0 : Int32)), (2, .int (0 : Int32)), (15, .int (0 : Int32)), (0, .ref 41), (17, .ref 116), (16, .ref 114), (7, .ref 113), (6, .ref 112), (5, .ref 111), (4, .ref 110), (3, .ref 109), (1, .ref 107)], none) (pc' := 40) (L' := [(0, .ref 106)]) h_m20 (z_at.mk 3 rfl rfl) rfl (by decide) rfl (Or.inl rfl) rfl rfl rfl ?_
  clear H m; intro m H
  refine w_p h_m20 2 (pc' := 42) (L' := [(0, .ref 106)]) (st' := [.int (0 : Int32), .ref 106]) rfl ?_
  refine w_pf H (12, 18, [(15, .int (0 : Int32)), (14, .int (0 : Int32)), (13, .int (0 : Int32)), (12, .int (0 : Int32)), (11, .int (0 : Int32)), (10, .int (0 : Int32)), (9, .long (0 : Int64)), (8, .int (0 : Int32)), (2, .int (0 : Int32)), (0, .ref 41), (17, .ref 116), (16, .ref 114), (7, .ref 113), (6, .ref 112), (5, .ref 111), (4, .ref 110), (3, .ref 109), (1, .ref 107)], none) (pc' := 45) (L' := [(0, .ref 106)]) h_m20 (z_at.mk 3 rfl rfl) rfl (by decide) rfl (Or.inl rfl) rfl rfl rfl ?_
  clear H m; intro m H
  refine w_rv h_m20 (z_at.mk 1 rfl rfl) rfl ?_
  show z_W 998 145 7 [(0, .ref 39), (1, .int (22 : Int32))] [] m _
  refine w_p h_m145 1 (pc' := 8) (L' := [(0, .ref 39), (1, .int (22 : Int32))]) (st' := [.ref 39]) rfl ?_
  refine w_gf H (pc' := 11) (L' := [(0, .ref 39), (1, .int (22 : Int32))]) h_m145 (z_at.mk 3 rfl rfl) rfl (u := .ref 106) rfl rfl rfl ?_
  refine w_gf H (pc' := 14) (L' := [(0, .ref 39), (1, .int (22 : Int32))]) h_m145 (z_at.mk 3 rfl rfl) rfl (u := .ref 107) rfl rfl rfl ?_
  refine w_p h_m145 1 (pc' := 15) (L' := [(0, .ref 39), (1, .int (22 : Int32))]) (st' := [.ref 39, .ref 107]) rfl ?_
  refine w_gf H (pc' := 18) (L' := [(0, .ref 39), (1, .int (22 : Int32))]) h_m145 (z_at.mk 3 rfl rfl) rfl (u := .ref 40) rfl rfl rfl ?_
  refine w_gf H (pc' := 21) (L' := [(0, .ref 39), (1, .int (22 : Int32))]) h_m145 (z_at.mk 3 rfl rfl) rfl (u := .ref 48) rfl rfl rfl ?_
  refine w_gf H (pc' := 24) (L' := [(0, .ref 39), (1, .int (22 : Int32))]) h_m145 (z_at.mk 3 rfl rfl) rfl (u := .ref 49) rfl rfl rfl ?_
  refine w_cv (H.t rfl) (pc' := 27) (L' := [(0, .ref 39), (1, .int (22 : Int32))]) (rest := []) (Ps := [.ref 49]) (L0 := [(0, .ref 107), (1, .ref 49)]) h_m145 (z_at.mk 3 rfl rfl) (Or.inl ⟨rfl, rfl⟩) rfl rfl (by decide) (by decide) rfl rfl rfl rfl rfl rfl (by decide) rfl rfl rfl ?_
  refine w_p h_m74 1 (pc' := 1) (L' := [(0, .ref 107), (1, .ref 49)]) (st' := [.ref 49]) rfl ?_
  refine w_gf H (pc' := 4) (L' := [(0, .ref 107), (1, .ref 49)]) h_m74 (z_at.mk 3 rfl rfl) rfl (u := .ref 50) rfl rfl rfl ?_
  refine w_p h_m74 2 (pc' := 6) (L' := [(0, .ref 107), (1, .ref 49)]) (st' := [.ref 107, .int (0 : Int32), .ref 50]) rfl ?_
  refine w_gf H (pc' := 9) (L' := [(0, .ref 107), (1, .ref 49)]) h_m74 (z_at.mk 3 rfl rfl) rfl (u := .ref 108) rfl rfl rfl ?_
  refine w_p h_m74 2 (pc' := 12) (L' := [(0, .ref 107), (1, .ref 49)]) (st' := [.int (7 : Int32), .int (0 : Int32), .ref 108, .int (0 : Int32), .ref 50]) rfl ?_
  refine w_cpf H (ra := (0, 7, [(6, .int (1024 : Int32)), (5, .int (1 : Int32)), (4, .int (1 : Int32)), (3, .int (0 : Int32)), (2, .int (12 : Int32)), (1, .int (40 : Int32)), (0, .int (10 : Int32))], some (.int (0 : Int32)))) (pc' := 15) (L' := [(0, .ref 107), (1, .ref 49)]) h_m74 (z_at.mk 3 rfl rfl) rfl (z_cat_le 0 rfl (by decide)) rfl rfl rfl rfl (by decide) rfl rfl ?_
  clear H m; intro m H
  refine w_rv h_m74 (z_at.mk 1 rfl rfl) rfl ?_
  show z_W 998 145 27 [(0, .ref 39), (1, .int (22 : Int32))] [] m _
  refine w_p h_m145 1 (pc' := 28) (L' := [(0, .ref 39), (1, .int (22 : Int32))]) (st' := [.ref 39]) rfl ?_
  refine w_gf H (pc' := 31) (L' := [(0, .ref 39), (1, .int (22 : Int32))]) h_m145 (z_at.mk 3 rfl rfl) rfl (u := .ref 106) rfl rfl rfl ?_
  refine w_gf H (pc' := 34) (L' := [(0, .ref 39), (1, .int (22 : Int32))]) h_m145 (z_at.mk 3 rfl rfl) rfl (u := .ref 107) rfl rfl rfl ?_
  refine w_p h_m145 2 (pc' := 36) (L' := [(0, .ref 39), (1, .int (22 : Int32))]) (st' := [.int (22 : Int32), .int (1 : Int32), .ref 107]) rfl ?_
  refine w_cv (H.t rfl) (pc' := 39) (L' := [(0, .ref 39), (1, .int (22 : Int32))]) (rest := []) (Ps := [.int (1 : Int32), .int (22 : Int32)]) (L0 := [(0, .ref 107), (1, .int (1 : Int32)), (2, .int (22 : Int32))]) h_m145 (z_at.mk 3 rfl rfl) (Or.inl ⟨rfl, rfl⟩) rfl rfl (by decide) (by decide) rfl rfl rfl rfl rfl rfl (by decide) rfl rfl rfl ?_
  refine w_p h_m73 6 (pc' := 11) (L' := [(0, .ref 107), (1, .int (1 : Int32)), (2, .int (22 : Int32))]) (st' := [.ref 107]) rfl ?_
  refine w_gf H (pc' := 14) (L' := [(0, .ref 107), (1, .int (1 : Int32)), (2, .int (22 : Int32))]) h_m73 (z_at.mk 3 rfl rfl) rfl (u := .ref 108) rfl rfl rfl ?_
  refine w_p h_m73 2 (pc' := 16) (L' := [(0, .ref 107), (1, .int (1 : Int32)), (2, .int (22 : Int32))]) (st' := [.int (22 : Int32), .int (1 : Int32), .ref 108]) rfl ?_
  refine w_as H (t := 0) (j := 1) (u := .int (22 : Int32)) (0, 7, [(1, .int (22 : Int32)), (6, .int (1024 : Int32)), (5, .int (1 : Int32)), (4, .int (1 : Int32)), (3, .int (0 : Int32)), (2, .int (12 : Int32)), (0, .int (10 : Int32))], some (.int (0 : Int32))) (pc' := 17) (L' := []) h_m73 (z_at.mk 1 rfl rfl) rfl rfl (w_ui _ _ (by decide)) rfl rfl rfl rfl ?_
  clear H m; intro m H
  refine w_rv h_m73 (z_at.mk 1 rfl rfl) rfl ?_
  show z_W 998 145 39 [(0, .ref 39), (1, .int (22 : Int32))] [] m _
  refine w_p h_m145 4 (pc' := 43) (L' := [(0, .ref 39), (2, .int (0 : Int32))]) (st' := [.ref 39, .int (0 : Int32)]) rfl ?_
  refine w_gf H (pc' := 46) (L' := [(0, .ref 39), (2, .int (0 : Int32))]) h_m145 (z_at.mk 3 rfl rfl) rfl (u := .ref 40) rfl rfl rfl ?_
  refine w_gf H (pc' := 49) (L' := [(0, .ref 39), (2, .int (0 : Int32))]) h_m145 (z_at.mk 3 rfl rfl) rfl (u := .ref 63) rfl rfl rfl ?_
  refine w_gf H (pc' := 52) (L' := [(0, .ref 39), (2, .int (0 : Int32))]) h_m145 (z_at.mk 3 rfl rfl) rfl (u := .int (0 : Int32)) rfl rfl rfl ?_
  refine w_p h_m145 1 (pc' := 79) (L' := [(0, .ref 39), (2, .int (0 : Int32))]) (st' := []) rfl ?_
  refine w_rv h_m145 (z_at.mk 1 rfl rfl) rfl ?_
  show z_W 999 146 13 [(0, .ref 39), (1, .int (xs 1)), (2, .int (22 : Int32))] [] m _
  refine w_p h_m146 1 (pc' := 14) (L' := [(0, .ref 39), (1, .int (xs 1)), (2, .int (22 : Int32))]) (st' := [.ref 39]) rfl ?_
  refine w_gf H (pc' := 17) (L' := [(0, .ref 39), (1, .int (xs 1)), (2, .int (22 : Int32))]) h_m146 (z_at.mk 3 rfl rfl) rfl (u := .ref 106) rfl rfl rfl ?_
  refine w_gf H (pc' := 20) (L' := [(0, .ref 39), (1, .int (xs 1)), (2, .int (22 : Int32))]) h_m146 (z_at.mk 3 rfl rfl) rfl (u := .int (0 : Int32)) rfl rfl rfl ?_
  refine w_p h_m146 1 (pc' := 21) (L' := [(0, .ref 39), (1, .int (xs 1)), (2, .int (22 : Int32))]) (st' := [.int (xs 1), .int (0 : Int32)]) rfl ?_
  refine w_t2 (pc' := 26) (L' := [(0, .ref 39), (1, .int (xs 1)), (2, .int (22 : Int32))]) h_m146 (z_at.mk 3 rfl rfl) rfl (zc (a := 0) (b := (xs 1).toInt) rfl rfl (decide_eq_true (by omega))) rfl rfl ?_
  refine w_p h_m146 2 (pc' := 2) (L' := [(0, .ref 39), (1, .int (xs 1)), (2, .int (23 : Int32))]) (st' := []) rfl ?_
  exact hQ m (H.subC (by decide +kernel))
set_option maxHeartbeats 400000000 in
set_option maxRecDepth 20000 in
theorem w_turn_146_23 {xs : Nat → Int32} {m : zM} {Q : Option Value → zM → Prop} (hp : (xs 1).toInt < 0) (H : w_ok 6 xs 168 63950 ((106, (12, 18, [(15, .int (0 : Int32)), (14, .int (0 : Int32)), (13, .int (0 : Int32)), (12, .int (0 : Int32)), (11, .int (0 : Int32)), (10, .int (0 : Int32)), (9, .long (0 : Int64)), (8, .int (0 : Int32)), (2, .int (0 : Int32)), (0, .ref 41), (17, .ref 116), (16, .ref 114), (7, .ref 113), (6, .ref 112), (5, .ref 111), (4, .ref 110), (3, .ref 109), (1, .ref 107)], none)) :: (108, (0, 7, [(1, .int (22 : Int32)), (6, .int (1024 : Int32)), (5, .int (1 : Int32)), (4, .int (1 : Int32)), (3, .int (0 : Int32)), (2, .int (12 : Int32)), (0, .int (10 : Int32))], some (.int (0 : Int32)))) :: w_T0) m) (hQ : ∀ m, w_ok 6 xs 168 63950 ((106, (12, 18, [(15, .int (0 : Int32)), (14, .int (0 : Int32)), (13, .int (0 : Int32)), (12, .int (0 : Int32)), (11, .int (0 : Int32)), (10, .int (0 : Int32)), (9, .long (0 : Int64)), (8, .int (0 : Int32)), (2, .int (0 : Int32)), (0, .ref 41), (17, .ref 116), (16, .ref 114), (7, .ref 113), (6, .ref 112), (5, .ref 111), (4, .ref 110), (3, .ref 109), (1, .ref 107)], none)) :: (108, (0, 7, [(1, .int (23 : Int32)), (6, .int (1024 : Int32)), (5, .int (1 : Int32)), (4, .int (1 : Int32)), (3, .int (0 : Int32)), (2, .int (12 : Int32)), (0, .int (10 : Int32))], some (.int (0 : Int32)))) :: w_T0) m → z_W 999 146 2 [(0, .ref 39), (1, .int (xs 1)), (2, .int (24 : Int32))] [] m Q) : z_W 999 146 2 [(0, .ref 39), (1, .int (xs 1)), (2, .int (23 : Int32))] [] m Q := by
  refine w_p h_m146 5 (pc' := 10) (L' := [(0, .ref 39), (1, .int (xs 1)), (2, .int (23 : Int32))]) (st' := [.int (23 : Int32), .ref 39]) rfl ?_
  refine w_cv (H.t rfl) (pc' := 13) (L' := [(0, .ref 39), (1, .int (xs 1)), (2, .int (23 : Int32))]) (rest := []) (Ps := [.int (23 : Int32)]) (L0 := [(0, .ref 39), (1, .int (23 : Int32))]) h_m146 (z_at.mk 3 rfl rfl) (Or.inl ⟨rfl, rfl⟩) rfl rfl (by decide) (by decide) rfl rfl rfl rfl rfl rfl (by decide) rfl rfl rfl ?_
  refine w_p h_m145 1 (pc' := 1) (L' := [(0, .ref 39), (1, .int (23 : Int32))]) (st' := [.ref 39]) rfl ?_
  refine w_gf H (pc' := 4) (L' := [(0, .ref 39), (1, .int (23 : Int32))]) h_m145 (z_at.mk 3 rfl rfl) rfl (u := .ref 106) rfl rfl rfl ?_
  refine w_cv (H.t rfl) (pc' := 7) (L' := [(0, .ref 39), (1, .int (23 : Int32))]) (rest := []) (Ps := []) (L0 := [(0, .ref 106)]) h_m145 (z_at.mk 3 rfl rfl) (Or.inl ⟨rfl, rfl⟩) rfl rfl (by decide) (by decide) rfl rfl rfl rfl rfl rfl (by decide) rfl rfl rfl ?_
  refine w_p h_m20 2 (pc' := 2) (L' := [(0, .ref 106)]) (st' := [.int (0 : Int32), .ref 106]) rfl ?_
  refine w_pf H (12, 18, [(2, .int (0 : Int32)), (15, .int (0 : Int32)), (14, .int (0 : Int32)), (13, .int (0 : Int32)), (12, .int (0 : Int32)), (11, .int (0 : Int32)), (10, .int (0 : Int32)), (9, .long (0 : Int64)), (8, .int (0 : Int32)), (0, .ref 41), (17, .ref 116), (16, .ref 114), (7, .ref 113), (6, .ref 112), (5, .ref 111), (4, .ref 110), (3, .ref 109), (1, .ref 107)], none) (pc' := 5) (L' := [(0, .ref 106)]) h_m20 (z_at.mk 3 rfl rfl) rfl (by decide) rfl (Or.inl rfl) rfl rfl rfl ?_
  clear H m; intro m H
  refine w_p h_m20 2 (pc' := 7) (L' := [(0, .ref 106)]) (st' := [.int (0 : Int32), .ref 106]) rfl ?_
  refine w_pf H (12, 18, [(8, .int (0 : Int32)), (2, .int (0 : Int32)), (15, .int (0 : Int32)), (14, .int (0 : Int32)), (13, .int (0 : Int32)), (12, .int (0 : Int32)), (11, .int (0 : Int32)), (10, .int (0 : Int32)), (9, .long (0 : Int64)), (0, .ref 41), (17, .ref 116), (16, .ref 114), (7, .ref 113), (6, .ref 112), (5, .ref 111), (4, .ref 110), (3, .ref 109), (1, .ref 107)], none) (pc' := 10) (L' := [(0, .ref 106)]) h_m20 (z_at.mk 3 rfl rfl) rfl (by decide) rfl (Or.inl rfl) rfl rfl rfl ?_
  clear H m; intro m H
  refine w_p h_m20 2 (pc' := 12) (L' := [(0, .ref 106)]) (st' := [.long (0 : Int64), .ref 106]) rfl ?_
  refine w_pf H (12, 18, [(9, .long (0 : Int64)), (8, .int (0 : Int32)), (2, .int (0 : Int32)), (15, .int (0 : Int32)), (14, .int (0 : Int32)), (13, .int (0 : Int32)), (12, .int (0 : Int32)), (11, .int (0 : Int32)), (10, .int (0 : Int32)), (0, .ref 41), (17, .ref 116), (16, .ref 114), (7, .ref 113), (6, .ref 112), (5, .ref 111), (4, .ref 110), (3, .ref 109), (1, .ref 107)], none) (pc' := 15) (L' := [(0, .ref 106)]) h_m20 (z_at.mk 3 rfl rfl) rfl (by decide) rfl (Or.inl rfl) rfl rfl rfl ?_
  clear H m; intro m H
  refine w_p h_m20 2 (pc' := 17) (L' := [(0, .ref 106)]) (st' := [.int (0 : Int32), .ref 106]) rfl ?_
  refine w_pf H (12, 18, [(10, .int (0 : Int32)), (9, .long (0 : Int64)), (8, .int (0 : Int32)), (2, .int (0 : Int32)), (15, .int (0 : Int32)), (14, .int (0 : Int32)), (13, .int (0 : Int32)), (12, .int (0 : Int32)), (11, .int (0 : Int32)), (0, .ref 41), (17, .ref 116), (16, .ref 114), (7, .ref 113), (6, .ref 112), (5, .ref 111), (4, .ref 110), (3, .ref 109), (1, .ref 107)], none) (pc' := 20) (L' := [(0, .ref 106)]) h_m20 (z_at.mk 3 rfl rfl) rfl (by decide) rfl (Or.inl rfl) rfl rfl rfl ?_
  clear H m; intro m H
  refine w_p h_m20 2 (pc' := 22) (L' := [(0, .ref 106)]) (st' := [.int (0 : Int32), .ref 106]) rfl ?_
  refine w_pf H (12, 18, [(11, .int (0 : Int32)), (10, .int (0 : Int32)), (9, .long (0 : Int64)), (8, .int (0 : Int32)), (2, .int (0 : Int32)), (15, .int (0 : Int32)), (14, .int (0 : Int32)), (13, .int (0 : Int32)), (12, .int (0 : Int32)), (0, .ref 41), (17, .ref 116), (16, .ref 114), (7, .ref 113), (6, .ref 112), (5, .ref 111), (4, .ref 110), (3, .ref 109), (1, .ref 107)], none) (pc' := 25) (L' := [(0, .ref 106)]) h_m20 (z_at.mk 3 rfl rfl) rfl (by decide) rfl (Or.inl rfl) rfl rfl rfl ?_
  clear H m; intro m H
  refine w_p h_m20 2 (pc' := 27) (L' := [(0, .ref 106)]) (st' := [.int (0 : Int32), .ref 106]) rfl ?_
  refine w_pf H (12, 18, [(12, .int (0 : Int32)), (11, .int (0 : Int32)), (10, .int (0 : Int32)), (9, .long (0 : Int64)), (8, .int (0 : Int32)), (2, .int (0 : Int32)), (15, .int (0 : Int32)), (14, .int (0 : Int32)), (13, .int (0 : Int32)), (0, .ref 41), (17, .ref 116), (16, .ref 114), (7, .ref 113), (6, .ref 112), (5, .ref 111), (4, .ref 110), (3, .ref 109), (1, .ref 107)], none) (pc' := 30) (L' := [(0, .ref 106)]) h_m20 (z_at.mk 3 rfl rfl) rfl (by decide) rfl (Or.inl rfl) rfl rfl rfl ?_
  clear H m; intro m H
  refine w_p h_m20 2 (pc' := 32) (L' := [(0, .ref 106)]) (st' := [.int (0 : Int32), .ref 106]) rfl ?_
  refine w_pf H (12, 18, [(13, .int (0 : Int32)), (12, .int (0 : Int32)), (11, .int (0 : Int32)), (10, .int (0 : Int32)), (9, .long (0 : Int64)), (8, .int (0 : Int32)), (2, .int (0 : Int32)), (15, .int (0 : Int32)), (14, .int (0 : Int32)), (0, .ref 41), (17, .ref 116), (16, .ref 114), (7, .ref 113), (6, .ref 112), (5, .ref 111), (4, .ref 110), (3, .ref 109), (1, .ref 107)], none) (pc' := 35) (L' := [(0, .ref 106)]) h_m20 (z_at.mk 3 rfl rfl) rfl (by decide) rfl (Or.inl rfl) rfl rfl rfl ?_
  clear H m; intro m H
  refine w_p h_m20 2 (pc' := 37) (L' := [(0, .ref 106)]) (st' := [.int (0 : Int32), .ref 106]) rfl ?_
  refine w_pf H (12, 18, [(14, .int (0 : Int32)), (13, .int (0 : Int32)), (12, .int (0 : Int32)), (11, .int (0 : Int32)), (10, .int (0 : Int32)), (9, .long (0 : Int64)), (8, .int (0 : Int32)), (2, .int (0 : Int32)), (15, .int (0 : Int32)), (0, .ref 41), (17, .ref 116), (16, .ref 114), (7, .ref 113), (6, .ref 112), (5, .ref 111), (4, .ref 110), (3, .ref 109), (1, .ref 107)], none) (pc' := 40) (L' := [(0, .ref 106)]) h_m20 (z_at.mk 3 rfl rfl) rfl (by decide) rfl (Or.inl rfl) rfl rfl rfl ?_
  clear H m; intro m H
  refine w_p h_m20 2 (pc' := 42) (L' := [(0, .ref 106)]) (st' := [.int (0 : Int32), .ref 106]) rfl ?_
  refine w_pf H (12, 18, [(15, .int (0 : Int32)), (14, .int (0 : Int32)), (13, .int (0 : Int32)), (12, .int (0 : Int32)), (11, .int (0 : Int32)), (10, .int (0 : Int32)), (9, .long (0 : Int64)), (8, .int (0 : Int32)), (2, .int (0 : Int32)), (0, .ref 41), (17, .ref 116), (16, .ref 114), (7, .ref 113), (6, .ref 112), (5, .ref 111), (4, .ref 110), (3, .ref 109), (1, .ref 107)], none) (pc' := 45) (L' := [(0, .ref 106)]) h_m20 (z_at.mk 3 rfl rfl) rfl (by decide) rfl (Or.inl rfl) rfl rfl rfl ?_
  clear H m; intro m H
  refine w_rv h_m20 (z_at.mk 1 rfl rfl) rfl ?_
  show z_W 998 145 7 [(0, .ref 39), (1, .int (23 : Int32))] [] m _
  refine w_p h_m145 1 (pc' := 8) (L' := [(0, .ref 39), (1, .int (23 : Int32))]) (st' := [.ref 39]) rfl ?_
  refine w_gf H (pc' := 11) (L' := [(0, .ref 39), (1, .int (23 : Int32))]) h_m145 (z_at.mk 3 rfl rfl) rfl (u := .ref 106) rfl rfl rfl ?_
  refine w_gf H (pc' := 14) (L' := [(0, .ref 39), (1, .int (23 : Int32))]) h_m145 (z_at.mk 3 rfl rfl) rfl (u := .ref 107) rfl rfl rfl ?_
  refine w_p h_m145 1 (pc' := 15) (L' := [(0, .ref 39), (1, .int (23 : Int32))]) (st' := [.ref 39, .ref 107]) rfl ?_
  refine w_gf H (pc' := 18) (L' := [(0, .ref 39), (1, .int (23 : Int32))]) h_m145 (z_at.mk 3 rfl rfl) rfl (u := .ref 40) rfl rfl rfl ?_
  refine w_gf H (pc' := 21) (L' := [(0, .ref 39), (1, .int (23 : Int32))]) h_m145 (z_at.mk 3 rfl rfl) rfl (u := .ref 48) rfl rfl rfl ?_
  refine w_gf H (pc' := 24) (L' := [(0, .ref 39), (1, .int (23 : Int32))]) h_m145 (z_at.mk 3 rfl rfl) rfl (u := .ref 49) rfl rfl rfl ?_
  refine w_cv (H.t rfl) (pc' := 27) (L' := [(0, .ref 39), (1, .int (23 : Int32))]) (rest := []) (Ps := [.ref 49]) (L0 := [(0, .ref 107), (1, .ref 49)]) h_m145 (z_at.mk 3 rfl rfl) (Or.inl ⟨rfl, rfl⟩) rfl rfl (by decide) (by decide) rfl rfl rfl rfl rfl rfl (by decide) rfl rfl rfl ?_
  refine w_p h_m74 1 (pc' := 1) (L' := [(0, .ref 107), (1, .ref 49)]) (st' := [.ref 49]) rfl ?_
  refine w_gf H (pc' := 4) (L' := [(0, .ref 107), (1, .ref 49)]) h_m74 (z_at.mk 3 rfl rfl) rfl (u := .ref 50) rfl rfl rfl ?_
  refine w_p h_m74 2 (pc' := 6) (L' := [(0, .ref 107), (1, .ref 49)]) (st' := [.ref 107, .int (0 : Int32), .ref 50]) rfl ?_
  refine w_gf H (pc' := 9) (L' := [(0, .ref 107), (1, .ref 49)]) h_m74 (z_at.mk 3 rfl rfl) rfl (u := .ref 108) rfl rfl rfl ?_
  refine w_p h_m74 2 (pc' := 12) (L' := [(0, .ref 107), (1, .ref 49)]) (st' := [.int (7 : Int32), .int (0 : Int32), .ref 108, .int (0 : Int32), .ref 50]) rfl ?_
  refine w_cpf H (ra := (0, 7, [(6, .int (1024 : Int32)), (5, .int (1 : Int32)), (4, .int (1 : Int32)), (3, .int (0 : Int32)), (2, .int (12 : Int32)), (1, .int (40 : Int32)), (0, .int (10 : Int32))], some (.int (0 : Int32)))) (pc' := 15) (L' := [(0, .ref 107), (1, .ref 49)]) h_m74 (z_at.mk 3 rfl rfl) rfl (z_cat_le 0 rfl (by decide)) rfl rfl rfl rfl (by decide) rfl rfl ?_
  clear H m; intro m H
  refine w_rv h_m74 (z_at.mk 1 rfl rfl) rfl ?_
  show z_W 998 145 27 [(0, .ref 39), (1, .int (23 : Int32))] [] m _
  refine w_p h_m145 1 (pc' := 28) (L' := [(0, .ref 39), (1, .int (23 : Int32))]) (st' := [.ref 39]) rfl ?_
  refine w_gf H (pc' := 31) (L' := [(0, .ref 39), (1, .int (23 : Int32))]) h_m145 (z_at.mk 3 rfl rfl) rfl (u := .ref 106) rfl rfl rfl ?_
  refine w_gf H (pc' := 34) (L' := [(0, .ref 39), (1, .int (23 : Int32))]) h_m145 (z_at.mk 3 rfl rfl) rfl (u := .ref 107) rfl rfl rfl ?_
  refine w_p h_m145 2 (pc' := 36) (L' := [(0, .ref 39), (1, .int (23 : Int32))]) (st' := [.int (23 : Int32), .int (1 : Int32), .ref 107]) rfl ?_
  refine w_cv (H.t rfl) (pc' := 39) (L' := [(0, .ref 39), (1, .int (23 : Int32))]) (rest := []) (Ps := [.int (1 : Int32), .int (23 : Int32)]) (L0 := [(0, .ref 107), (1, .int (1 : Int32)), (2, .int (23 : Int32))]) h_m145 (z_at.mk 3 rfl rfl) (Or.inl ⟨rfl, rfl⟩) rfl rfl (by decide) (by decide) rfl rfl rfl rfl rfl rfl (by decide) rfl rfl rfl ?_
  refine w_p h_m73 6 (pc' := 11) (L' := [(0, .ref 107), (1, .int (1 : Int32)), (2, .int (23 : Int32))]) (st' := [.ref 107]) rfl ?_
  refine w_gf H (pc' := 14) (L' := [(0, .ref 107), (1, .int (1 : Int32)), (2, .int (23 : Int32))]) h_m73 (z_at.mk 3 rfl rfl) rfl (u := .ref 108) rfl rfl rfl ?_
  refine w_p h_m73 2 (pc' := 16) (L' := [(0, .ref 107), (1, .int (1 : Int32)), (2, .int (23 : Int32))]) (st' := [.int (23 : Int32), .int (1 : Int32), .ref 108]) rfl ?_
  refine w_as H (t := 0) (j := 1) (u := .int (23 : Int32)) (0, 7, [(1, .int (23 : Int32)), (6, .int (1024 : Int32)), (5, .int (1 : Int32)), (4, .int (1 : Int32)), (3, .int (0 : Int32)), (2, .int (12 : Int32)), (0, .int (10 : Int32))], some (.int (0 : Int32))) (pc' := 17) (L' := []) h_m73 (z_at.mk 1 rfl rfl) rfl rfl (w_ui _ _ (by decide)) rfl rfl rfl rfl ?_
  clear H m; intro m H
  refine w_rv h_m73 (z_at.mk 1 rfl rfl) rfl ?_
  show z_W 998 145 39 [(0, .ref 39), (1, .int (23 : Int32))] [] m _
  refine w_p h_m145 4 (pc' := 43) (L' := [(0, .ref 39), (2, .int (0 : Int32))]) (st' := [.ref 39, .int (0 : Int32)]) rfl ?_
  refine w_gf H (pc' := 46) (L' := [(0, .ref 39), (2, .int (0 : Int32))]) h_m145 (z_at.mk 3 rfl rfl) rfl (u := .ref 40) rfl rfl rfl ?_
  refine w_gf H (pc' := 49) (L' := [(0, .ref 39), (2, .int (0 : Int32))]) h_m145 (z_at.mk 3 rfl rfl) rfl (u := .ref 63) rfl rfl rfl ?_
  refine w_gf H (pc' := 52) (L' := [(0, .ref 39), (2, .int (0 : Int32))]) h_m145 (z_at.mk 3 rfl rfl) rfl (u := .int (0 : Int32)) rfl rfl rfl ?_
  refine w_p h_m145 1 (pc' := 79) (L' := [(0, .ref 39), (2, .int (0 : Int32))]) (st' := []) rfl ?_
  refine w_rv h_m145 (z_at.mk 1 rfl rfl) rfl ?_
  show z_W 999 146 13 [(0, .ref 39), (1, .int (xs 1)), (2, .int (23 : Int32))] [] m _
  refine w_p h_m146 1 (pc' := 14) (L' := [(0, .ref 39), (1, .int (xs 1)), (2, .int (23 : Int32))]) (st' := [.ref 39]) rfl ?_
  refine w_gf H (pc' := 17) (L' := [(0, .ref 39), (1, .int (xs 1)), (2, .int (23 : Int32))]) h_m146 (z_at.mk 3 rfl rfl) rfl (u := .ref 106) rfl rfl rfl ?_
  refine w_gf H (pc' := 20) (L' := [(0, .ref 39), (1, .int (xs 1)), (2, .int (23 : Int32))]) h_m146 (z_at.mk 3 rfl rfl) rfl (u := .int (0 : Int32)) rfl rfl rfl ?_
  refine w_p h_m146 1 (pc' := 21) (L' := [(0, .ref 39), (1, .int (xs 1)), (2, .int (23 : Int32))]) (st' := [.int (xs 1), .int (0 : Int32)]) rfl ?_
  refine w_t2 (pc' := 26) (L' := [(0, .ref 39), (1, .int (xs 1)), (2, .int (23 : Int32))]) h_m146 (z_at.mk 3 rfl rfl) rfl (zc (a := 0) (b := (xs 1).toInt) rfl rfl (decide_eq_true (by omega))) rfl rfl ?_
  refine w_p h_m146 2 (pc' := 2) (L' := [(0, .ref 39), (1, .int (xs 1)), (2, .int (24 : Int32))]) (st' := []) rfl ?_
  exact hQ m (H.subC (by decide +kernel))
set_option maxHeartbeats 400000000 in
set_option maxRecDepth 20000 in
theorem w_turn_146_24 {xs : Nat → Int32} {m : zM} {Q : Option Value → zM → Prop} (hp : (xs 1).toInt < 0) (H : w_ok 6 xs 168 63950 ((106, (12, 18, [(15, .int (0 : Int32)), (14, .int (0 : Int32)), (13, .int (0 : Int32)), (12, .int (0 : Int32)), (11, .int (0 : Int32)), (10, .int (0 : Int32)), (9, .long (0 : Int64)), (8, .int (0 : Int32)), (2, .int (0 : Int32)), (0, .ref 41), (17, .ref 116), (16, .ref 114), (7, .ref 113), (6, .ref 112), (5, .ref 111), (4, .ref 110), (3, .ref 109), (1, .ref 107)], none)) :: (108, (0, 7, [(1, .int (23 : Int32)), (6, .int (1024 : Int32)), (5, .int (1 : Int32)), (4, .int (1 : Int32)), (3, .int (0 : Int32)), (2, .int (12 : Int32)), (0, .int (10 : Int32))], some (.int (0 : Int32)))) :: w_T0) m) (hQ : ∀ m, w_ok 6 xs 168 63950 ((106, (12, 18, [(15, .int (0 : Int32)), (14, .int (0 : Int32)), (13, .int (0 : Int32)), (12, .int (0 : Int32)), (11, .int (0 : Int32)), (10, .int (0 : Int32)), (9, .long (0 : Int64)), (8, .int (0 : Int32)), (2, .int (0 : Int32)), (0, .ref 41), (17, .ref 116), (16, .ref 114), (7, .ref 113), (6, .ref 112), (5, .ref 111), (4, .ref 110), (3, .ref 109), (1, .ref 107)], none)) :: (108, (0, 7, [(1, .int (24 : Int32)), (6, .int (1024 : Int32)), (5, .int (1 : Int32)), (4, .int (1 : Int32)), (3, .int (0 : Int32)), (2, .int (12 : Int32)), (0, .int (10 : Int32))], some (.int (0 : Int32)))) :: w_T0) m → z_W 999 146 2 [(0, .ref 39), (1, .int (xs 1)), (2, .int (25 : Int32))] [] m Q) : z_W 999 146 2 [(0, .ref 39), (1, .int (xs 1)), (2, .int (24 : Int32))] [] m Q := by
  refine w_p h_m146 5 (pc' := 10) (L' := [(0, .ref 39), (1, .int (xs 1)), (2, .int (24 : Int32))]) (st' := [.int (24 : Int32), .ref 39]) rfl ?_
  refine w_cv (H.t rfl) (pc' := 13) (L' := [(0, .ref 39), (1, .int (xs 1)), (2, .int (24 : Int32))]) (rest := []) (Ps := [.int (24 : Int32)]) (L0 := [(0, .ref 39), (1, .int (24 : Int32))]) h_m146 (z_at.mk 3 rfl rfl) (Or.inl ⟨rfl, rfl⟩) rfl rfl (by decide) (by decide) rfl rfl rfl rfl rfl rfl (by decide) rfl rfl rfl ?_
  refine w_p h_m145 1 (pc' := 1) (L' := [(0, .ref 39), (1, .int (24 : Int32))]) (st' := [.ref 39]) rfl ?_
  refine w_gf H (pc' := 4) (L' := [(0, .ref 39), (1, .int (24 : Int32))]) h_m145 (z_at.mk 3 rfl rfl) rfl (u := .ref 106) rfl rfl rfl ?_
  refine w_cv (H.t rfl) (pc' := 7) (L' := [(0, .ref 39), (1, .int (24 : Int32))]) (rest := []) (Ps := []) (L0 := [(0, .ref 106)]) h_m145 (z_at.mk 3 rfl rfl) (Or.inl ⟨rfl, rfl⟩) rfl rfl (by decide) (by decide) rfl rfl rfl rfl rfl rfl (by decide) rfl rfl rfl ?_
  refine w_p h_m20 2 (pc' := 2) (L' := [(0, .ref 106)]) (st' := [.int (0 : Int32), .ref 106]) rfl ?_
  refine w_pf H (12, 18, [(2, .int (0 : Int32)), (15, .int (0 : Int32)), (14, .int (0 : Int32)), (13, .int (0 : Int32)), (12, .int (0 : Int32)), (11, .int (0 : Int32)), (10, .int (0 : Int32)), (9, .long (0 : Int64)), (8, .int (0 : Int32)), (0, .ref 41), (17, .ref 116), (16, .ref 114), (7, .ref 113), (6, .ref 112), (5, .ref 111), (4, .ref 110), (3, .ref 109), (1, .ref 107)], none) (pc' := 5) (L' := [(0, .ref 106)]) h_m20 (z_at.mk 3 rfl rfl) rfl (by decide) rfl (Or.inl rfl) rfl rfl rfl ?_
  clear H m; intro m H
  refine w_p h_m20 2 (pc' := 7) (L' := [(0, .ref 106)]) (st' := [.int (0 : Int32), .ref 106]) rfl ?_
  refine w_pf H (12, 18, [(8, .int (0 : Int32)), (2, .int (0 : Int32)), (15, .int (0 : Int32)), (14, .int (0 : Int32)), (13, .int (0 : Int32)), (12, .int (0 : Int32)), (11, .int (0 : Int32)), (10, .int (0 : Int32)), (9, .long (0 : Int64)), (0, .ref 41), (17, .ref 116), (16, .ref 114), (7, .ref 113), (6, .ref 112), (5, .ref 111), (4, .ref 110), (3, .ref 109), (1, .ref 107)], none) (pc' := 10) (L' := [(0, .ref 106)]) h_m20 (z_at.mk 3 rfl rfl) rfl (by decide) rfl (Or.inl rfl) rfl rfl rfl ?_
  clear H m; intro m H
  refine w_p h_m20 2 (pc' := 12) (L' := [(0, .ref 106)]) (st' := [.long (0 : Int64), .ref 106]) rfl ?_
  refine w_pf H (12, 18, [(9, .long (0 : Int64)), (8, .int (0 : Int32)), (2, .int (0 : Int32)), (15, .int (0 : Int32)), (14, .int (0 : Int32)), (13, .int (0 : Int32)), (12, .int (0 : Int32)), (11, .int (0 : Int32)), (10, .int (0 : Int32)), (0, .ref 41), (17, .ref 116), (16, .ref 114), (7, .ref 113), (6, .ref 112), (5, .ref 111), (4, .ref 110), (3, .ref 109), (1, .ref 107)], none) (pc' := 15) (L' := [(0, .ref 106)]) h_m20 (z_at.mk 3 rfl rfl) rfl (by decide) rfl (Or.inl rfl) rfl rfl rfl ?_
  clear H m; intro m H
  refine w_p h_m20 2 (pc' := 17) (L' := [(0, .ref 106)]) (st' := [.int (0 : Int32), .ref 106]) rfl ?_
  refine w_pf H (12, 18, [(10, .int (0 : Int32)), (9, .long (0 : Int64)), (8, .int (0 : Int32)), (2, .int (0 : Int32)), (15, .int (0 : Int32)), (14, .int (0 : Int32)), (13, .int (0 : Int32)), (12, .int (0 : Int32)), (11, .int (0 : Int32)), (0, .ref 41), (17, .ref 116), (16, .ref 114), (7, .ref 113), (6, .ref 112), (5, .ref 111), (4, .ref 110), (3, .ref 109), (1, .ref 107)], none) (pc' := 20) (L' := [(0, .ref 106)]) h_m20 (z_at.mk 3 rfl rfl) rfl (by decide) rfl (Or.inl rfl) rfl rfl rfl ?_
  clear H m; intro m H
  refine w_p h_m20 2 (pc' := 22) (L' := [(0, .ref 106)]) (st' := [.int (0 : Int32), .ref 106]) rfl ?_
  refine w_pf H (12, 18, [(11, .int (0 : Int32)), (10, .int (0 : Int32)), (9, .long (0 : Int64)), (8, .int (0 : Int32)), (2, .int (0 : Int32)), (15, .int (0 : Int32)), (14, .int (0 : Int32)), (13, .int (0 : Int32)), (12, .int (0 : Int32)), (0, .ref 41), (17, .ref 116), (16, .ref 114), (7, .ref 113), (6, .ref 112), (5, .ref 111), (4, .ref 110), (3, .ref 109), (1, .ref 107)], none) (pc' := 25) (L' := [(0, .ref 106)]) h_m20 (z_at.mk 3 rfl rfl) rfl (by decide) rfl (Or.inl rfl) rfl rfl rfl ?_
  clear H m; intro m H
  refine w_p h_m20 2 (pc' := 27) (L' := [(0, .ref 106)]) (st' := [.int (0 : Int32), .ref 106]) rfl ?_
  refine w_pf H (12, 18, [(12, .int (0 : Int32)), (11, .int (0 : Int32)), (10, .int (0 : Int32)), (9, .long (0 : Int64)), (8, .int (0 : Int32)), (2, .int (0 : Int32)), (15, .int (0 : Int32)), (14, .int (0 : Int32)), (13, .int (0 : Int32)), (0, .ref 41), (17, .ref 116), (16, .ref 114), (7, .ref 113), (6, .ref 112), (5, .ref 111), (4, .ref 110), (3, .ref 109), (1, .ref 107)], none) (pc' := 30) (L' := [(0, .ref 106)]) h_m20 (z_at.mk 3 rfl rfl) rfl (by decide) rfl (Or.inl rfl) rfl rfl rfl ?_
  clear H m; intro m H
  refine w_p h_m20 2 (pc' := 32) (L' := [(0, .ref 106)]) (st' := [.int (0 : Int32), .ref 106]) rfl ?_
  refine w_pf H (12, 18, [(13, .int (0 : Int32)), (12, .int (0 : Int32)), (11, .int (0 : Int32)), (10, .int (0 : Int32)), (9, .long (0 : Int64)), (8, .int (0 : Int32)), (2, .int (0 : Int32)), (15, .int (0 : Int32)), (14, .int (0 : Int32)), (0, .ref 41), (17, .ref 116), (16, .ref 114), (7, .ref 113), (6, .ref 112), (5, .ref 111), (4, .ref 110), (3, .ref 109), (1, .ref 107)], none) (pc' := 35) (L' := [(0, .ref 106)]) h_m20 (z_at.mk 3 rfl rfl) rfl (by decide) rfl (Or.inl rfl) rfl rfl rfl ?_
  clear H m; intro m H
  refine w_p h_m20 2 (pc' := 37) (L' := [(0, .ref 106)]) (st' := [.int (0 : Int32), .ref 106]) rfl ?_
  refine w_pf H (12, 18, [(14, .int (0 : Int32)), (13, .int (0 : Int32)), (12, .int (0 : Int32)), (11, .int (0 : Int32)), (10, .int (0 : Int32)), (9, .long (0 : Int64)), (8, .int (0 : Int32)), (2, .int (0 : Int32)), (15, .int (0 : Int32)), (0, .ref 41), (17, .ref 116), (16, .ref 114), (7, .ref 113), (6, .ref 112), (5, .ref 111), (4, .ref 110), (3, .ref 109), (1, .ref 107)], none) (pc' := 40) (L' := [(0, .ref 106)]) h_m20 (z_at.mk 3 rfl rfl) rfl (by decide) rfl (Or.inl rfl) rfl rfl rfl ?_
  clear H m; intro m H
  refine w_p h_m20 2 (pc' := 42) (L' := [(0, .ref 106)]) (st' := [.int (0 : Int32), .ref 106]) rfl ?_
  refine w_pf H (12, 18, [(15, .int (0 : Int32)), (14, .int (0 : Int32)), (13, .int (0 : Int32)), (12, .int (0 : Int32)), (11, .int (0 : Int32)), (10, .int (0 : Int32)), (9, .long (0 : Int64)), (8, .int (0 : Int32)), (2, .int (0 : Int32)), (0, .ref 41), (17, .ref 116), (16, .ref 114), (7, .ref 113), (6, .ref 112), (5, .ref 111), (4, .ref 110), (3, .ref 109), (1, .ref 107)], none) (pc' := 45) (L' := [(0, .ref 106)]) h_m20 (z_at.mk 3 rfl rfl) rfl (by decide) rfl (Or.inl rfl) rfl rfl rfl ?_
  clear H m; intro m H
  refine w_rv h_m20 (z_at.mk 1 rfl rfl) rfl ?_
  show z_W 998 145 7 [(0, .ref 39), (1, .int (24 : Int32))] [] m _
  refine w_p h_m145 1 (pc' := 8) (L' := [(0, .ref 39), (1, .int (24 : Int32))]) (st' := [.ref 39]) rfl ?_
  refine w_gf H (pc' := 11) (L' := [(0, .ref 39), (1, .int (24 : Int32))]) h_m145 (z_at.mk 3 rfl rfl) rfl (u := .ref 106) rfl rfl rfl ?_
  refine w_gf H (pc' := 14) (L' := [(0, .ref 39), (1, .int (24 : Int32))]) h_m145 (z_at.mk 3 rfl rfl) rfl (u := .ref 107) rfl rfl rfl ?_
  refine w_p h_m145 1 (pc' := 15) (L' := [(0, .ref 39), (1, .int (24 : Int32))]) (st' := [.ref 39, .ref 107]) rfl ?_
  refine w_gf H (pc' := 18) (L' := [(0, .ref 39), (1, .int (24 : Int32))]) h_m145 (z_at.mk 3 rfl rfl) rfl (u := .ref 40) rfl rfl rfl ?_
  refine w_gf H (pc' := 21) (L' := [(0, .ref 39), (1, .int (24 : Int32))]) h_m145 (z_at.mk 3 rfl rfl) rfl (u := .ref 48) rfl rfl rfl ?_
  refine w_gf H (pc' := 24) (L' := [(0, .ref 39), (1, .int (24 : Int32))]) h_m145 (z_at.mk 3 rfl rfl) rfl (u := .ref 49) rfl rfl rfl ?_
  refine w_cv (H.t rfl) (pc' := 27) (L' := [(0, .ref 39), (1, .int (24 : Int32))]) (rest := []) (Ps := [.ref 49]) (L0 := [(0, .ref 107), (1, .ref 49)]) h_m145 (z_at.mk 3 rfl rfl) (Or.inl ⟨rfl, rfl⟩) rfl rfl (by decide) (by decide) rfl rfl rfl rfl rfl rfl (by decide) rfl rfl rfl ?_
  refine w_p h_m74 1 (pc' := 1) (L' := [(0, .ref 107), (1, .ref 49)]) (st' := [.ref 49]) rfl ?_
  refine w_gf H (pc' := 4) (L' := [(0, .ref 107), (1, .ref 49)]) h_m74 (z_at.mk 3 rfl rfl) rfl (u := .ref 50) rfl rfl rfl ?_
  refine w_p h_m74 2 (pc' := 6) (L' := [(0, .ref 107), (1, .ref 49)]) (st' := [.ref 107, .int (0 : Int32), .ref 50]) rfl ?_
  refine w_gf H (pc' := 9) (L' := [(0, .ref 107), (1, .ref 49)]) h_m74 (z_at.mk 3 rfl rfl) rfl (u := .ref 108) rfl rfl rfl ?_
  refine w_p h_m74 2 (pc' := 12) (L' := [(0, .ref 107), (1, .ref 49)]) (st' := [.int (7 : Int32), .int (0 : Int32), .ref 108, .int (0 : Int32), .ref 50]) rfl ?_
  refine w_cpf H (ra := (0, 7, [(6, .int (1024 : Int32)), (5, .int (1 : Int32)), (4, .int (1 : Int32)), (3, .int (0 : Int32)), (2, .int (12 : Int32)), (1, .int (40 : Int32)), (0, .int (10 : Int32))], some (.int (0 : Int32)))) (pc' := 15) (L' := [(0, .ref 107), (1, .ref 49)]) h_m74 (z_at.mk 3 rfl rfl) rfl (z_cat_le 0 rfl (by decide)) rfl rfl rfl rfl (by decide) rfl rfl ?_
  clear H m; intro m H
  refine w_rv h_m74 (z_at.mk 1 rfl rfl) rfl ?_
  show z_W 998 145 27 [(0, .ref 39), (1, .int (24 : Int32))] [] m _
  refine w_p h_m145 1 (pc' := 28) (L' := [(0, .ref 39), (1, .int (24 : Int32))]) (st' := [.ref 39]) rfl ?_
  refine w_gf H (pc' := 31) (L' := [(0, .ref 39), (1, .int (24 : Int32))]) h_m145 (z_at.mk 3 rfl rfl) rfl (u := .ref 106) rfl rfl rfl ?_
  refine w_gf H (pc' := 34) (L' := [(0, .ref 39), (1, .int (24 : Int32))]) h_m145 (z_at.mk 3 rfl rfl) rfl (u := .ref 107) rfl rfl rfl ?_
  refine w_p h_m145 2 (pc' := 36) (L' := [(0, .ref 39), (1, .int (24 : Int32))]) (st' := [.int (24 : Int32), .int (1 : Int32), .ref 107]) rfl ?_
  refine w_cv (H.t rfl) (pc' := 39) (L' := [(0, .ref 39), (1, .int (24 : Int32))]) (rest := []) (Ps := [.int (1 : Int32), .int (24 : Int32)]) (L0 := [(0, .ref 107), (1, .int (1 : Int32)), (2, .int (24 : Int32))]) h_m145 (z_at.mk 3 rfl rfl) (Or.inl ⟨rfl, rfl⟩) rfl rfl (by decide) (by decide) rfl rfl rfl rfl rfl rfl (by decide) rfl rfl rfl ?_
  refine w_p h_m73 6 (pc' := 11) (L' := [(0, .ref 107), (1, .int (1 : Int32)), (2, .int (24 : Int32))]) (st' := [.ref 107]) rfl ?_
  refine w_gf H (pc' := 14) (L' := [(0, .ref 107), (1, .int (1 : Int32)), (2, .int (24 : Int32))]) h_m73 (z_at.mk 3 rfl rfl) rfl (u := .ref 108) rfl rfl rfl ?_
  refine w_p h_m73 2 (pc' := 16) (L' := [(0, .ref 107), (1, .int (1 : Int32)), (2, .int (24 : Int32))]) (st' := [.int (24 : Int32), .int (1 : Int32), .ref 108]) rfl ?_
  refine w_as H (t := 0) (j := 1) (u := .int (24 : Int32)) (0, 7, [(1, .int (24 : Int32)), (6, .int (1024 : Int32)), (5, .int (1 : Int32)), (4, .int (1 : Int32)), (3, .int (0 : Int32)), (2, .int (12 : Int32)), (0, .int (10 : Int32))], some (.int (0 : Int32))) (pc' := 17) (L' := []) h_m73 (z_at.mk 1 rfl rfl) rfl rfl (w_ui _ _ (by decide)) rfl rfl rfl rfl ?_
  clear H m; intro m H
  refine w_rv h_m73 (z_at.mk 1 rfl rfl) rfl ?_
  show z_W 998 145 39 [(0, .ref 39), (1, .int (24 : Int32))] [] m _
  refine w_p h_m145 4 (pc' := 43) (L' := [(0, .ref 39), (2, .int (0 : Int32))]) (st' := [.ref 39, .int (0 : Int32)]) rfl ?_
  refine w_gf H (pc' := 46) (L' := [(0, .ref 39), (2, .int (0 : Int32))]) h_m145 (z_at.mk 3 rfl rfl) rfl (u := .ref 40) rfl rfl rfl ?_
  refine w_gf H (pc' := 49) (L' := [(0, .ref 39), (2, .int (0 : Int32))]) h_m145 (z_at.mk 3 rfl rfl) rfl (u := .ref 63) rfl rfl rfl ?_
  refine w_gf H (pc' := 52) (L' := [(0, .ref 39), (2, .int (0 : Int32))]) h_m145 (z_at.mk 3 rfl rfl) rfl (u := .int (0 : Int32)) rfl rfl rfl ?_
  refine w_p h_m145 1 (pc' := 79) (L' := [(0, .ref 39), (2, .int (0 : Int32))]) (st' := []) rfl ?_
  refine w_rv h_m145 (z_at.mk 1 rfl rfl) rfl ?_
  show z_W 999 146 13 [(0, .ref 39), (1, .int (xs 1)), (2, .int (24 : Int32))] [] m _
  refine w_p h_m146 1 (pc' := 14) (L' := [(0, .ref 39), (1, .int (xs 1)), (2, .int (24 : Int32))]) (st' := [.ref 39]) rfl ?_
  refine w_gf H (pc' := 17) (L' := [(0, .ref 39), (1, .int (xs 1)), (2, .int (24 : Int32))]) h_m146 (z_at.mk 3 rfl rfl) rfl (u := .ref 106) rfl rfl rfl ?_
  refine w_gf H (pc' := 20) (L' := [(0, .ref 39), (1, .int (xs 1)), (2, .int (24 : Int32))]) h_m146 (z_at.mk 3 rfl rfl) rfl (u := .int (0 : Int32)) rfl rfl rfl ?_
  refine w_p h_m146 1 (pc' := 21) (L' := [(0, .ref 39), (1, .int (xs 1)), (2, .int (24 : Int32))]) (st' := [.int (xs 1), .int (0 : Int32)]) rfl ?_
  refine w_t2 (pc' := 26) (L' := [(0, .ref 39), (1, .int (xs 1)), (2, .int (24 : Int32))]) h_m146 (z_at.mk 3 rfl rfl) rfl (zc (a := 0) (b := (xs 1).toInt) rfl rfl (decide_eq_true (by omega))) rfl rfl ?_
  refine w_p h_m146 2 (pc' := 2) (L' := [(0, .ref 39), (1, .int (xs 1)), (2, .int (25 : Int32))]) (st' := []) rfl ?_
  exact hQ m (H.subC (by decide +kernel))
set_option maxHeartbeats 400000000 in
set_option maxRecDepth 20000 in
theorem w_turn_146_25 {xs : Nat → Int32} {m : zM} {Q : Option Value → zM → Prop} (hp : (xs 1).toInt < 0) (H : w_ok 6 xs 168 63950 ((106, (12, 18, [(15, .int (0 : Int32)), (14, .int (0 : Int32)), (13, .int (0 : Int32)), (12, .int (0 : Int32)), (11, .int (0 : Int32)), (10, .int (0 : Int32)), (9, .long (0 : Int64)), (8, .int (0 : Int32)), (2, .int (0 : Int32)), (0, .ref 41), (17, .ref 116), (16, .ref 114), (7, .ref 113), (6, .ref 112), (5, .ref 111), (4, .ref 110), (3, .ref 109), (1, .ref 107)], none)) :: (108, (0, 7, [(1, .int (24 : Int32)), (6, .int (1024 : Int32)), (5, .int (1 : Int32)), (4, .int (1 : Int32)), (3, .int (0 : Int32)), (2, .int (12 : Int32)), (0, .int (10 : Int32))], some (.int (0 : Int32)))) :: w_T0) m) (hQ : ∀ m, w_ok 6 xs 168 63950 ((106, (12, 18, [(15, .int (0 : Int32)), (14, .int (0 : Int32)), (13, .int (0 : Int32)), (12, .int (0 : Int32)), (11, .int (0 : Int32)), (10, .int (0 : Int32)), (9, .long (0 : Int64)), (8, .int (0 : Int32)), (2, .int (0 : Int32)), (0, .ref 41), (17, .ref 116), (16, .ref 114), (7, .ref 113), (6, .ref 112), (5, .ref 111), (4, .ref 110), (3, .ref 109), (1, .ref 107)], none)) :: (108, (0, 7, [(1, .int (25 : Int32)), (6, .int (1024 : Int32)), (5, .int (1 : Int32)), (4, .int (1 : Int32)), (3, .int (0 : Int32)), (2, .int (12 : Int32)), (0, .int (10 : Int32))], some (.int (0 : Int32)))) :: w_T0) m → z_W 999 146 2 [(0, .ref 39), (1, .int (xs 1)), (2, .int (26 : Int32))] [] m Q) : z_W 999 146 2 [(0, .ref 39), (1, .int (xs 1)), (2, .int (25 : Int32))] [] m Q := by
  refine w_p h_m146 5 (pc' := 10) (L' := [(0, .ref 39), (1, .int (xs 1)), (2, .int (25 : Int32))]) (st' := [.int (25 : Int32), .ref 39]) rfl ?_
  refine w_cv (H.t rfl) (pc' := 13) (L' := [(0, .ref 39), (1, .int (xs 1)), (2, .int (25 : Int32))]) (rest := []) (Ps := [.int (25 : Int32)]) (L0 := [(0, .ref 39), (1, .int (25 : Int32))]) h_m146 (z_at.mk 3 rfl rfl) (Or.inl ⟨rfl, rfl⟩) rfl rfl (by decide) (by decide) rfl rfl rfl rfl rfl rfl (by decide) rfl rfl rfl ?_
  refine w_p h_m145 1 (pc' := 1) (L' := [(0, .ref 39), (1, .int (25 : Int32))]) (st' := [.ref 39]) rfl ?_
  refine w_gf H (pc' := 4) (L' := [(0, .ref 39), (1, .int (25 : Int32))]) h_m145 (z_at.mk 3 rfl rfl) rfl (u := .ref 106) rfl rfl rfl ?_
  refine w_cv (H.t rfl) (pc' := 7) (L' := [(0, .ref 39), (1, .int (25 : Int32))]) (rest := []) (Ps := []) (L0 := [(0, .ref 106)]) h_m145 (z_at.mk 3 rfl rfl) (Or.inl ⟨rfl, rfl⟩) rfl rfl (by decide) (by decide) rfl rfl rfl rfl rfl rfl (by decide) rfl rfl rfl ?_
  refine w_p h_m20 2 (pc' := 2) (L' := [(0, .ref 106)]) (st' := [.int (0 : Int32), .ref 106]) rfl ?_
  refine w_pf H (12, 18, [(2, .int (0 : Int32)), (15, .int (0 : Int32)), (14, .int (0 : Int32)), (13, .int (0 : Int32)), (12, .int (0 : Int32)), (11, .int (0 : Int32)), (10, .int (0 : Int32)), (9, .long (0 : Int64)), (8, .int (0 : Int32)), (0, .ref 41), (17, .ref 116), (16, .ref 114), (7, .ref 113), (6, .ref 112), (5, .ref 111), (4, .ref 110), (3, .ref 109), (1, .ref 107)], none) (pc' := 5) (L' := [(0, .ref 106)]) h_m20 (z_at.mk 3 rfl rfl) rfl (by decide) rfl (Or.inl rfl) rfl rfl rfl ?_
  clear H m; intro m H
  refine w_p h_m20 2 (pc' := 7) (L' := [(0, .ref 106)]) (st' := [.int (0 : Int32), .ref 106]) rfl ?_
  refine w_pf H (12, 18, [(8, .int (0 : Int32)), (2, .int (0 : Int32)), (15, .int (0 : Int32)), (14, .int (0 : Int32)), (13, .int (0 : Int32)), (12, .int (0 : Int32)), (11, .int (0 : Int32)), (10, .int (0 : Int32)), (9, .long (0 : Int64)), (0, .ref 41), (17, .ref 116), (16, .ref 114), (7, .ref 113), (6, .ref 112), (5, .ref 111), (4, .ref 110), (3, .ref 109), (1, .ref 107)], none) (pc' := 10) (L' := [(0, .ref 106)]) h_m20 (z_at.mk 3 rfl rfl) rfl (by decide) rfl (Or.inl rfl) rfl rfl rfl ?_
  clear H m; intro m H
  refine w_p h_m20 2 (pc' := 12) (L' := [(0, .ref 106)]) (st' := [.long (0 : Int64), .ref 106]) rfl ?_
  refine w_pf H (12, 18, [(9, .long (0 : Int64)), (8, .int (0 : Int32)), (2, .int (0 : Int32)), (15, .int (0 : Int32)), (14, .int (0 : Int32)), (13, .int (0 : Int32)), (12, .int (0 : Int32)), (11, .int (0 : Int32)), (10, .int (0 : Int32)), (0, .ref 41), (17, .ref 116), (16, .ref 114), (7, .ref 113), (6, .ref 112), (5, .ref 111), (4, .ref 110), (3, .ref 109), (1, .ref 107)], none) (pc' := 15) (L' := [(0, .ref 106)]) h_m20 (z_at.mk 3 rfl rfl) rfl (by decide) rfl (Or.inl rfl) rfl rfl rfl ?_
  clear H m; intro m H
  refine w_p h_m20 2 (pc' := 17) (L' := [(0, .ref 106)]) (st' := [.int (0 : Int32), .ref 106]) rfl ?_
  refine w_pf H (12, 18, [(10, .int (0 : Int32)), (9, .long (0 : Int64)), (8, .int (0 : Int32)), (2, .int (0 : Int32)), (15, .int (0 : Int32)), (14, .int (0 : Int32)), (13, .int (0 : Int32)), (12, .int (0 : Int32)), (11, .int (0 : Int32)), (0, .ref 41), (17, .ref 116), (16, .ref 114), (7, .ref 113), (6, .ref 112), (5, .ref 111), (4, .ref 110), (3, .ref 109), (1, .ref 107)], none) (pc' := 20) (L' := [(0, .ref 106)]) h_m20 (z_at.mk 3 rfl rfl) rfl (by decide) rfl (Or.inl rfl) rfl rfl rfl ?_
  clear H m; intro m H
  refine w_p h_m20 2 (pc' := 22) (L' := [(0, .ref 106)]) (st' := [.int (0 : Int32), .ref 106]) rfl ?_
  refine w_pf H (12, 18, [(11, .int (0 : Int32)), (10, .int (0 : Int32)), (9, .long (0 : Int64)), (8, .int (0 : Int32)), (2, .int (0 : Int32)), (15, .int (0 : Int32)), (14, .int (0 : Int32)), (13, .int (0 : Int32)), (12, .int (0 : Int32)), (0, .ref 41), (17, .ref 116), (16, .ref 114), (7, .ref 113), (6, .ref 112), (5, .ref 111), (4, .ref 110), (3, .ref 109), (1, .ref 107)], none) (pc' := 25) (L' := [(0, .ref 106)]) h_m20 (z_at.mk 3 rfl rfl) rfl (by decide) rfl (Or.inl rfl) rfl rfl rfl ?_
  clear H m; intro m H
  refine w_p h_m20 2 (pc' := 27) (L' := [(0, .ref 106)]) (st' := [.int (0 : Int32), .ref 106]) rfl ?_
  refine w_pf H (12, 18, [(12, .int (0 : Int32)), (11, .int (0 : Int32)), (10, .int (0 : Int32)), (9, .long (0 : Int64)), (8, .int (0 : Int32)), (2, .int (0 : Int32)), (15, .int (0 : Int32)), (14, .int (0 : Int32)), (13, .int (0 : Int32)), (0, .ref 41), (17, .ref 116), (16, .ref 114), (7, .ref 113), (6, .ref 112), (5, .ref 111), (4, .ref 110), (3, .ref 109), (1, .ref 107)], none) (pc' := 30) (L' := [(0, .ref 106)]) h_m20 (z_at.mk 3 rfl rfl) rfl (by decide) rfl (Or.inl rfl) rfl rfl rfl ?_
  clear H m; intro m H
  refine w_p h_m20 2 (pc' := 32) (L' := [(0, .ref 106)]) (st' := [.int (0 : Int32), .ref 106]) rfl ?_
  refine w_pf H (12, 18, [(13, .int (0 : Int32)), (12, .int (0 : Int32)), (11, .int (0 : Int32)), (10, .int (0 : Int32)), (9, .long (0 : Int64)), (8, .int (0 : Int32)), (2, .int (0 : Int32)), (15, .int (0 : Int32)), (14, .int (0 : Int32)), (0, .ref 41), (17, .ref 116), (16, .ref 114), (7, .ref 113), (6, .ref 112), (5, .ref 111), (4, .ref 110), (3, .ref 109), (1, .ref 107)], none) (pc' := 35) (L' := [(0, .ref 106)]) h_m20 (z_at.mk 3 rfl rfl) rfl (by decide) rfl (Or.inl rfl) rfl rfl rfl ?_
  clear H m; intro m H
  refine w_p h_m20 2 (pc' := 37) (L' := [(0, .ref 106)]) (st' := [.int (0 : Int32), .ref 106]) rfl ?_
  refine w_pf H (12, 18, [(14, .int (0 : Int32)), (13, .int (0 : Int32)), (12, .int (0 : Int32)), (11, .int (0 : Int32)), (10, .int (0 : Int32)), (9, .long (0 : Int64)), (8, .int (0 : Int32)), (2, .int (0 : Int32)), (15, .int (0 : Int32)), (0, .ref 41), (17, .ref 116), (16, .ref 114), (7, .ref 113), (6, .ref 112), (5, .ref 111), (4, .ref 110), (3, .ref 109), (1, .ref 107)], none) (pc' := 40) (L' := [(0, .ref 106)]) h_m20 (z_at.mk 3 rfl rfl) rfl (by decide) rfl (Or.inl rfl) rfl rfl rfl ?_
  clear H m; intro m H
  refine w_p h_m20 2 (pc' := 42) (L' := [(0, .ref 106)]) (st' := [.int (0 : Int32), .ref 106]) rfl ?_
  refine w_pf H (12, 18, [(15, .int (0 : Int32)), (14, .int (0 : Int32)), (13, .int (0 : Int32)), (12, .int (0 : Int32)), (11, .int (0 : Int32)), (10, .int (0 : Int32)), (9, .long (0 : Int64)), (8, .int (0 : Int32)), (2, .int (0 : Int32)), (0, .ref 41), (17, .ref 116), (16, .ref 114), (7, .ref 113), (6, .ref 112), (5, .ref 111), (4, .ref 110), (3, .ref 109), (1, .ref 107)], none) (pc' := 45) (L' := [(0, .ref 106)]) h_m20 (z_at.mk 3 rfl rfl) rfl (by decide) rfl (Or.inl rfl) rfl rfl rfl ?_
  clear H m; intro m H
  refine w_rv h_m20 (z_at.mk 1 rfl rfl) rfl ?_
  show z_W 998 145 7 [(0, .ref 39), (1, .int (25 : Int32))] [] m _
  refine w_p h_m145 1 (pc' := 8) (L' := [(0, .ref 39), (1, .int (25 : Int32))]) (st' := [.ref 39]) rfl ?_
  refine w_gf H (pc' := 11) (L' := [(0, .ref 39), (1, .int (25 : Int32))]) h_m145 (z_at.mk 3 rfl rfl) rfl (u := .ref 106) rfl rfl rfl ?_
  refine w_gf H (pc' := 14) (L' := [(0, .ref 39), (1, .int (25 : Int32))]) h_m145 (z_at.mk 3 rfl rfl) rfl (u := .ref 107) rfl rfl rfl ?_
  refine w_p h_m145 1 (pc' := 15) (L' := [(0, .ref 39), (1, .int (25 : Int32))]) (st' := [.ref 39, .ref 107]) rfl ?_
  refine w_gf H (pc' := 18) (L' := [(0, .ref 39), (1, .int (25 : Int32))]) h_m145 (z_at.mk 3 rfl rfl) rfl (u := .ref 40) rfl rfl rfl ?_
  refine w_gf H (pc' := 21) (L' := [(0, .ref 39), (1, .int (25 : Int32))]) h_m145 (z_at.mk 3 rfl rfl) rfl (u := .ref 48) rfl rfl rfl ?_
  refine w_gf H (pc' := 24) (L' := [(0, .ref 39), (1, .int (25 : Int32))]) h_m145 (z_at.mk 3 rfl rfl) rfl (u := .ref 49) rfl rfl rfl ?_
  refine w_cv (H.t rfl) (pc' := 27) (L' := [(0, .ref 39), (1, .int (25 : Int32))]) (rest := []) (Ps := [.ref 49]) (L0 := [(0, .ref 107), (1, .ref 49)]) h_m145 (z_at.mk 3 rfl rfl) (Or.inl ⟨rfl, rfl⟩) rfl rfl (by decide) (by decide) rfl rfl rfl rfl rfl rfl (by decide) rfl rfl rfl ?_
  refine w_p h_m74 1 (pc' := 1) (L' := [(0, .ref 107), (1, .ref 49)]) (st' := [.ref 49]) rfl ?_
  refine w_gf H (pc' := 4) (L' := [(0, .ref 107), (1, .ref 49)]) h_m74 (z_at.mk 3 rfl rfl) rfl (u := .ref 50) rfl rfl rfl ?_
  refine w_p h_m74 2 (pc' := 6) (L' := [(0, .ref 107), (1, .ref 49)]) (st' := [.ref 107, .int (0 : Int32), .ref 50]) rfl ?_
  refine w_gf H (pc' := 9) (L' := [(0, .ref 107), (1, .ref 49)]) h_m74 (z_at.mk 3 rfl rfl) rfl (u := .ref 108) rfl rfl rfl ?_
  refine w_p h_m74 2 (pc' := 12) (L' := [(0, .ref 107), (1, .ref 49)]) (st' := [.int (7 : Int32), .int (0 : Int32), .ref 108, .int (0 : Int32), .ref 50]) rfl ?_
  refine w_cpf H (ra := (0, 7, [(6, .int (1024 : Int32)), (5, .int (1 : Int32)), (4, .int (1 : Int32)), (3, .int (0 : Int32)), (2, .int (12 : Int32)), (1, .int (40 : Int32)), (0, .int (10 : Int32))], some (.int (0 : Int32)))) (pc' := 15) (L' := [(0, .ref 107), (1, .ref 49)]) h_m74 (z_at.mk 3 rfl rfl) rfl (z_cat_le 0 rfl (by decide)) rfl rfl rfl rfl (by decide) rfl rfl ?_
  clear H m; intro m H
  refine w_rv h_m74 (z_at.mk 1 rfl rfl) rfl ?_
  show z_W 998 145 27 [(0, .ref 39), (1, .int (25 : Int32))] [] m _
  refine w_p h_m145 1 (pc' := 28) (L' := [(0, .ref 39), (1, .int (25 : Int32))]) (st' := [.ref 39]) rfl ?_
  refine w_gf H (pc' := 31) (L' := [(0, .ref 39), (1, .int (25 : Int32))]) h_m145 (z_at.mk 3 rfl rfl) rfl (u := .ref 106) rfl rfl rfl ?_
  refine w_gf H (pc' := 34) (L' := [(0, .ref 39), (1, .int (25 : Int32))]) h_m145 (z_at.mk 3 rfl rfl) rfl (u := .ref 107) rfl rfl rfl ?_
  refine w_p h_m145 2 (pc' := 36) (L' := [(0, .ref 39), (1, .int (25 : Int32))]) (st' := [.int (25 : Int32), .int (1 : Int32), .ref 107]) rfl ?_
  refine w_cv (H.t rfl) (pc' := 39) (L' := [(0, .ref 39), (1, .int (25 : Int32))]) (rest := []) (Ps := [.int (1 : Int32), .int (25 : Int32)]) (L0 := [(0, .ref 107), (1, .int (1 : Int32)), (2, .int (25 : Int32))]) h_m145 (z_at.mk 3 rfl rfl) (Or.inl ⟨rfl, rfl⟩) rfl rfl (by decide) (by decide) rfl rfl rfl rfl rfl rfl (by decide) rfl rfl rfl ?_
  refine w_p h_m73 6 (pc' := 11) (L' := [(0, .ref 107), (1, .int (1 : Int32)), (2, .int (25 : Int32))]) (st' := [.ref 107]) rfl ?_
  refine w_gf H (pc' := 14) (L' := [(0, .ref 107), (1, .int (1 : Int32)), (2, .int (25 : Int32))]) h_m73 (z_at.mk 3 rfl rfl) rfl (u := .ref 108) rfl rfl rfl ?_
  refine w_p h_m73 2 (pc' := 16) (L' := [(0, .ref 107), (1, .int (1 : Int32)), (2, .int (25 : Int32))]) (st' := [.int (25 : Int32), .int (1 : Int32), .ref 108]) rfl ?_
  refine w_as H (t := 0) (j := 1) (u := .int (25 : Int32)) (0, 7, [(1, .int (25 : Int32)), (6, .int (1024 : Int32)), (5, .int (1 : Int32)), (4, .int (1 : Int32)), (3, .int (0 : Int32)), (2, .int (12 : Int32)), (0, .int (10 : Int32))], some (.int (0 : Int32))) (pc' := 17) (L' := []) h_m73 (z_at.mk 1 rfl rfl) rfl rfl (w_ui _ _ (by decide)) rfl rfl rfl rfl ?_
  clear H m; intro m H
  refine w_rv h_m73 (z_at.mk 1 rfl rfl) rfl ?_
  show z_W 998 145 39 [(0, .ref 39), (1, .int (25 : Int32))] [] m _
  refine w_p h_m145 4 (pc' := 43) (L' := [(0, .ref 39), (2, .int (0 : Int32))]) (st' := [.ref 39, .int (0 : Int32)]) rfl ?_
  refine w_gf H (pc' := 46) (L' := [(0, .ref 39), (2, .int (0 : Int32))]) h_m145 (z_at.mk 3 rfl rfl) rfl (u := .ref 40) rfl rfl rfl ?_
  refine w_gf H (pc' := 49) (L' := [(0, .ref 39), (2, .int (0 : Int32))]) h_m145 (z_at.mk 3 rfl rfl) rfl (u := .ref 63) rfl rfl rfl ?_
  refine w_gf H (pc' := 52) (L' := [(0, .ref 39), (2, .int (0 : Int32))]) h_m145 (z_at.mk 3 rfl rfl) rfl (u := .int (0 : Int32)) rfl rfl rfl ?_
  refine w_p h_m145 1 (pc' := 79) (L' := [(0, .ref 39), (2, .int (0 : Int32))]) (st' := []) rfl ?_
  refine w_rv h_m145 (z_at.mk 1 rfl rfl) rfl ?_
  show z_W 999 146 13 [(0, .ref 39), (1, .int (xs 1)), (2, .int (25 : Int32))] [] m _
  refine w_p h_m146 1 (pc' := 14) (L' := [(0, .ref 39), (1, .int (xs 1)), (2, .int (25 : Int32))]) (st' := [.ref 39]) rfl ?_
  refine w_gf H (pc' := 17) (L' := [(0, .ref 39), (1, .int (xs 1)), (2, .int (25 : Int32))]) h_m146 (z_at.mk 3 rfl rfl) rfl (u := .ref 106) rfl rfl rfl ?_
  refine w_gf H (pc' := 20) (L' := [(0, .ref 39), (1, .int (xs 1)), (2, .int (25 : Int32))]) h_m146 (z_at.mk 3 rfl rfl) rfl (u := .int (0 : Int32)) rfl rfl rfl ?_
  refine w_p h_m146 1 (pc' := 21) (L' := [(0, .ref 39), (1, .int (xs 1)), (2, .int (25 : Int32))]) (st' := [.int (xs 1), .int (0 : Int32)]) rfl ?_
  refine w_t2 (pc' := 26) (L' := [(0, .ref 39), (1, .int (xs 1)), (2, .int (25 : Int32))]) h_m146 (z_at.mk 3 rfl rfl) rfl (zc (a := 0) (b := (xs 1).toInt) rfl rfl (decide_eq_true (by omega))) rfl rfl ?_
  refine w_p h_m146 2 (pc' := 2) (L' := [(0, .ref 39), (1, .int (xs 1)), (2, .int (26 : Int32))]) (st' := []) rfl ?_
  exact hQ m (H.subC (by decide +kernel))
set_option maxHeartbeats 400000000 in
set_option maxRecDepth 20000 in
theorem w_turn_146_26 {xs : Nat → Int32} {m : zM} {Q : Option Value → zM → Prop} (hp : (xs 1).toInt < 0) (H : w_ok 6 xs 168 63950 ((106, (12, 18, [(15, .int (0 : Int32)), (14, .int (0 : Int32)), (13, .int (0 : Int32)), (12, .int (0 : Int32)), (11, .int (0 : Int32)), (10, .int (0 : Int32)), (9, .long (0 : Int64)), (8, .int (0 : Int32)), (2, .int (0 : Int32)), (0, .ref 41), (17, .ref 116), (16, .ref 114), (7, .ref 113), (6, .ref 112), (5, .ref 111), (4, .ref 110), (3, .ref 109), (1, .ref 107)], none)) :: (108, (0, 7, [(1, .int (25 : Int32)), (6, .int (1024 : Int32)), (5, .int (1 : Int32)), (4, .int (1 : Int32)), (3, .int (0 : Int32)), (2, .int (12 : Int32)), (0, .int (10 : Int32))], some (.int (0 : Int32)))) :: w_T0) m) (hQ : ∀ m, w_ok 6 xs 168 63950 ((106, (12, 18, [(15, .int (0 : Int32)), (14, .int (0 : Int32)), (13, .int (0 : Int32)), (12, .int (0 : Int32)), (11, .int (0 : Int32)), (10, .int (0 : Int32)), (9, .long (0 : Int64)), (8, .int (0 : Int32)), (2, .int (0 : Int32)), (0, .ref 41), (17, .ref 116), (16, .ref 114), (7, .ref 113), (6, .ref 112), (5, .ref 111), (4, .ref 110), (3, .ref 109), (1, .ref 107)], none)) :: (108, (0, 7, [(1, .int (26 : Int32)), (6, .int (1024 : Int32)), (5, .int (1 : Int32)), (4, .int (1 : Int32)), (3, .int (0 : Int32)), (2, .int (12 : Int32)), (0, .int (10 : Int32))], some (.int (0 : Int32)))) :: w_T0) m → z_W 999 146 2 [(0, .ref 39), (1, .int (xs 1)), (2, .int (27 : Int32))] [] m Q) : z_W 999 146 2 [(0, .ref 39), (1, .int (xs 1)), (2, .int (26 : Int32))] [] m Q := by
  refine w_p h_m146 5 (pc' := 10) (L' := [(0, .ref 39), (1, .int (xs 1)), (2, .int (26 : Int32))]) (st' := [.int (26 : Int32), .ref 39]) rfl ?_
  refine w_cv (H.t rfl) (pc' := 13) (L' := [(0, .ref 39), (1, .int (xs 1)), (2, .int (26 : Int32))]) (rest := []) (Ps := [.int (26 : Int32)]) (L0 := [(0, .ref 39), (1, .int (26 : Int32))]) h_m146 (z_at.mk 3 rfl rfl) (Or.inl ⟨rfl, rfl⟩) rfl rfl (by decide) (by decide) rfl rfl rfl rfl rfl rfl (by decide) rfl rfl rfl ?_
  refine w_p h_m145 1 (pc' := 1) (L' := [(0, .ref 39), (1, .int (26 : Int32))]) (st' := [.ref 39]) rfl ?_
  refine w_gf H (pc' := 4) (L' := [(0, .ref 39), (1, .int (26 : Int32))]) h_m145 (z_at.mk 3 rfl rfl) rfl (u := .ref 106) rfl rfl rfl ?_
  refine w_cv (H.t rfl) (pc' := 7) (L' := [(0, .ref 39), (1, .int (26 : Int32))]) (rest := []) (Ps := []) (L0 := [(0, .ref 106)]) h_m145 (z_at.mk 3 rfl rfl) (Or.inl ⟨rfl, rfl⟩) rfl rfl (by decide) (by decide) rfl rfl rfl rfl rfl rfl (by decide) rfl rfl rfl ?_
  refine w_p h_m20 2 (pc' := 2) (L' := [(0, .ref 106)]) (st' := [.int (0 : Int32), .ref 106]) rfl ?_
  refine w_pf H (12, 18, [(2, .int (0 : Int32)), (15, .int (0 : Int32)), (14, .int (0 : Int32)), (13, .int (0 : Int32)), (12, .int (0 : Int32)), (11, .int (0 : Int32)), (10, .int (0 : Int32)), (9, .long (0 : Int64)), (8, .int (0 : Int32)), (0, .ref 41), (17, .ref 116), (16, .ref 114), (7, .ref 113), (6, .ref 112), (5, .ref 111), (4, .ref 110), (3, .ref 109), (1, .ref 107)], none) (pc' := 5) (L' := [(0, .ref 106)]) h_m20 (z_at.mk 3 rfl rfl) rfl (by decide) rfl (Or.inl rfl) rfl rfl rfl ?_
  clear H m; intro m H
  refine w_p h_m20 2 (pc' := 7) (L' := [(0, .ref 106)]) (st' := [.int (0 : Int32), .ref 106]) rfl ?_
  refine w_pf H (12, 18, [(8, .int (0 : Int32)), (2, .int (0 : Int32)), (15, .int (0 : Int32)), (14, .int (0 : Int32)), (13, .int (0 : Int32)), (12, .int (0 : Int32)), (11, .int (0 : Int32)), (10, .int (0 : Int32)), (9, .long (0 : Int64)), (0, .ref 41), (17, .ref 116), (16, .ref 114), (7, .ref 113), (6, .ref 112), (5, .ref 111), (4, .ref 110), (3, .ref 109), (1, .ref 107)], none) (pc' := 10) (L' := [(0, .ref 106)]) h_m20 (z_at.mk 3 rfl rfl) rfl (by decide) rfl (Or.inl rfl) rfl rfl rfl ?_
  clear H m; intro m H
  refine w_p h_m20 2 (pc' := 12) (L' := [(0, .ref 106)]) (st' := [.long (0 : Int64), .ref 106]) rfl ?_
  refine w_pf H (12, 18, [(9, .long (0 : Int64)), (8, .int (0 : Int32)), (2, .int (0 : Int32)), (15, .int (0 : Int32)), (14, .int (0 : Int32)), (13, .int (0 : Int32)), (12, .int (0 : Int32)), (11, .int (0 : Int32)), (10, .int (0 : Int32)), (0, .ref 41), (17, .ref 116), (16, .ref 114), (7, .ref 113), (6, .ref 112), (5, .ref 111), (4, .ref 110), (3, .ref 109), (1, .ref 107)], none) (pc' := 15) (L' := [(0, .ref 106)]) h_m20 (z_at.mk 3 rfl rfl) rfl (by decide) rfl (Or.inl rfl) rfl rfl rfl ?_
  clear H m; intro m H
  refine w_p h_m20 2 (pc' := 17) (L' := [(0, .ref 106)]) (st' := [.int (0 : Int32), .ref 106]) rfl ?_
  refine w_pf H (12, 18, [(10, .int (0 : Int32)), (9, .long (0 : Int64)), (8, .int (0 : Int32)), (2, .int (0 : Int32)), (15, .int (0 : Int32)), (14, .int (0 : Int32)), (13, .int (0 : Int32)), (12, .int (0 : Int32)), (11, .int (0 : Int32)), (0, .ref 41), (17, .ref 116), (16, .ref 114), (7, .ref 113), (6, .ref 112), (5, .ref 111), (4, .ref 110), (3, .ref 109), (1, .ref 107)], none) (pc' := 20) (L' := [(0, .ref 106)]) h_m20 (z_at.mk 3 rfl rfl) rfl (by decide) rfl (Or.inl rfl) rfl rfl rfl ?_
  clear H m; intro m H
  refine w_p h_m20 2 (pc' := 22) (L' := [(0, .ref 106)]) (st' := [.int (0 : Int32), .ref 106]) rfl ?_
  refine w_pf H (12, 18, [(11, .int (0 : Int32)), (10, .int (0 : Int32)), (9, .long (0 : Int64)), (8, .int (0 : Int32)), (2, .int (0 : Int32)), (15, .int (0 : Int32)), (14, .int (0 : Int32)), (13, .int (0 : Int32)), (12, .int (0 : Int32)), (0, .ref 41), (17, .ref 116), (16, .ref 114), (7, .ref 113), (6, .ref 112), (5, .ref 111), (4, .ref 110), (3, .ref 109), (1, .ref 107)], none) (pc' := 25) (L' := [(0, .ref 106)]) h_m20 (z_at.mk 3 rfl rfl) rfl (by decide) rfl (Or.inl rfl) rfl rfl rfl ?_
  clear H m; intro m H
  refine w_p h_m20 2 (pc' := 27) (L' := [(0, .ref 106)]) (st' := [.int (0 : Int32), .ref 106]) rfl ?_
  refine w_pf H (12, 18, [(12, .int (0 : Int32)), (11, .int (0 : Int32)), (10, .int (0 : Int32)), (9, .long (0 : Int64)), (8, .int (0 : Int32)), (2, .int (0 : Int32)), (15, .int (0 : Int32)), (14, .int (0 : Int32)), (13, .int (0 : Int32)), (0, .ref 41), (17, .ref 116), (16, .ref 114), (7, .ref 113), (6, .ref 112), (5, .ref 111), (4, .ref 110), (3, .ref 109), (1, .ref 107)], none) (pc' := 30) (L' := [(0, .ref 106)]) h_m20 (z_at.mk 3 rfl rfl) rfl (by decide) rfl (Or.inl rfl) rfl rfl rfl ?_
  clear H m; intro m H
  refine w_p h_m20 2 (pc' := 32) (L' := [(0, .ref 106)]) (st' := [.int (0 : Int32), .ref 106]) rfl ?_
  refine w_pf H (12, 18, [(13, .int (0 : Int32)), (12, .int (0 : Int32)), (11, .int (0 : Int32)), (10, .int (0 : Int32)), (9, .long (0 : Int64)), (8, .int (0 : Int32)), (2, .int (0 : Int32)), (15, .int (0 : Int32)), (14, .int (0 : Int32)), (0, .ref 41), (17, .ref 116), (16, .ref 114), (7, .ref 113), (6, .ref 112), (5, .ref 111), (4, .ref 110), (3, .ref 109), (1, .ref 107)], none) (pc' := 35) (L' := [(0, .ref 106)]) h_m20 (z_at.mk 3 rfl rfl) rfl (by decide) rfl (Or.inl rfl) rfl rfl rfl ?_
  clear H m; intro m H
  refine w_p h_m20 2 (pc' := 37) (L' := [(0, .ref 106)]) (st' := [.int (0 : Int32), .ref 106]) rfl ?_
  refine w_pf H (12, 18, [(14, .int (0 : Int32)), (13, .int (0 : Int32)), (12, .int (0 : Int32)), (11, .int (0 : Int32)), (10, .int (0 : Int32)), (9, .long (0 : Int64)), (8, .int (0 : Int32)), (2, .int (0 : Int32)), (15, .int (0 : Int32)), (0, .ref 41), (17, .ref 116), (16, .ref 114), (7, .ref 113), (6, .ref 112), (5, .ref 111), (4, .ref 110), (3, .ref 109), (1, .ref 107)], none) (pc' := 40) (L' := [(0, .ref 106)]) h_m20 (z_at.mk 3 rfl rfl) rfl (by decide) rfl (Or.inl rfl) rfl rfl rfl ?_
  clear H m; intro m H
  refine w_p h_m20 2 (pc' := 42) (L' := [(0, .ref 106)]) (st' := [.int (0 : Int32), .ref 106]) rfl ?_
  refine w_pf H (12, 18, [(15, .int (0 : Int32)), (14, .int (0 : Int32)), (13, .int (0 : Int32)), (12, .int (0 : Int32)), (11, .int (0 : Int32)), (10, .int (0 : Int32)), (9, .long (0 : Int64)), (8, .int (0 : Int32)), (2, .int (0 : Int32)), (0, .ref 41), (17, .ref 116), (16, .ref 114), (7, .ref 113), (6, .ref 112), (5, .ref 111), (4, .ref 110), (3, .ref 109), (1, .ref 107)], none) (pc' := 45) (L' := [(0, .ref 106)]) h_m20 (z_at.mk 3 rfl rfl) rfl (by decide) rfl (Or.inl rfl) rfl rfl rfl ?_
  clear H m; intro m H
  refine w_rv h_m20 (z_at.mk 1 rfl rfl) rfl ?_
  show z_W 998 145 7 [(0, .ref 39), (1, .int (26 : Int32))] [] m _
  refine w_p h_m145 1 (pc' := 8) (L' := [(0, .ref 39), (1, .int (26 : Int32))]) (st' := [.ref 39]) rfl ?_
  refine w_gf H (pc' := 11) (L' := [(0, .ref 39), (1, .int (26 : Int32))]) h_m145 (z_at.mk 3 rfl rfl) rfl (u := .ref 106) rfl rfl rfl ?_
  refine w_gf H (pc' := 14) (L' := [(0, .ref 39), (1, .int (26 : Int32))]) h_m145 (z_at.mk 3 rfl rfl) rfl (u := .ref 107) rfl rfl rfl ?_
  refine w_p h_m145 1 (pc' := 15) (L' := [(0, .ref 39), (1, .int (26 : Int32))]) (st' := [.ref 39, .ref 107]) rfl ?_
  refine w_gf H (pc' := 18) (L' := [(0, .ref 39), (1, .int (26 : Int32))]) h_m145 (z_at.mk 3 rfl rfl) rfl (u := .ref 40) rfl rfl rfl ?_
  refine w_gf H (pc' := 21) (L' := [(0, .ref 39), (1, .int (26 : Int32))]) h_m145 (z_at.mk 3 rfl rfl) rfl (u := .ref 48) rfl rfl rfl ?_
  refine w_gf H (pc' := 24) (L' := [(0, .ref 39), (1, .int (26 : Int32))]) h_m145 (z_at.mk 3 rfl rfl) rfl (u := .ref 49) rfl rfl rfl ?_
  refine w_cv (H.t rfl) (pc' := 27) (L' := [(0, .ref 39), (1, .int (26 : Int32))]) (rest := []) (Ps := [.ref 49]) (L0 := [(0, .ref 107), (1, .ref 49)]) h_m145 (z_at.mk 3 rfl rfl) (Or.inl ⟨rfl, rfl⟩) rfl rfl (by decide) (by decide) rfl rfl rfl rfl rfl rfl (by decide) rfl rfl rfl ?_
  refine w_p h_m74 1 (pc' := 1) (L' := [(0, .ref 107), (1, .ref 49)]) (st' := [.ref 49]) rfl ?_
  refine w_gf H (pc' := 4) (L' := [(0, .ref 107), (1, .ref 49)]) h_m74 (z_at.mk 3 rfl rfl) rfl (u := .ref 50) rfl rfl rfl ?_
  refine w_p h_m74 2 (pc' := 6) (L' := [(0, .ref 107), (1, .ref 49)]) (st' := [.ref 107, .int (0 : Int32), .ref 50]) rfl ?_
  refine w_gf H (pc' := 9) (L' := [(0, .ref 107), (1, .ref 49)]) h_m74 (z_at.mk 3 rfl rfl) rfl (u := .ref 108) rfl rfl rfl ?_
  refine w_p h_m74 2 (pc' := 12) (L' := [(0, .ref 107), (1, .ref 49)]) (st' := [.int (7 : Int32), .int (0 : Int32), .ref 108, .int (0 : Int32), .ref 50]) rfl ?_
  refine w_cpf H (ra := (0, 7, [(6, .int (1024 : Int32)), (5, .int (1 : Int32)), (4, .int (1 : Int32)), (3, .int (0 : Int32)), (2, .int (12 : Int32)), (1, .int (40 : Int32)), (0, .int (10 : Int32))], some (.int (0 : Int32)))) (pc' := 15) (L' := [(0, .ref 107), (1, .ref 49)]) h_m74 (z_at.mk 3 rfl rfl) rfl (z_cat_le 0 rfl (by decide)) rfl rfl rfl rfl (by decide) rfl rfl ?_
  clear H m; intro m H
  refine w_rv h_m74 (z_at.mk 1 rfl rfl) rfl ?_
  show z_W 998 145 27 [(0, .ref 39), (1, .int (26 : Int32))] [] m _
  refine w_p h_m145 1 (pc' := 28) (L' := [(0, .ref 39), (1, .int (26 : Int32))]) (st' := [.ref 39]) rfl ?_
  refine w_gf H (pc' := 31) (L' := [(0, .ref 39), (1, .int (26 : Int32))]) h_m145 (z_at.mk 3 rfl rfl) rfl (u := .ref 106) rfl rfl rfl ?_
  refine w_gf H (pc' := 34) (L' := [(0, .ref 39), (1, .int (26 : Int32))]) h_m145 (z_at.mk 3 rfl rfl) rfl (u := .ref 107) rfl rfl rfl ?_
  refine w_p h_m145 2 (pc' := 36) (L' := [(0, .ref 39), (1, .int (26 : Int32))]) (st' := [.int (26 : Int32), .int (1 : Int32), .ref 107]) rfl ?_
  refine w_cv (H.t rfl) (pc' := 39) (L' := [(0, .ref 39), (1, .int (26 : Int32))]) (rest := []) (Ps := [.int (1 : Int32), .int (26 : Int32)]) (L0 := [(0, .ref 107), (1, .int (1 : Int32)), (2, .int (26 : Int32))]) h_m145 (z_at.mk 3 rfl rfl) (Or.inl ⟨rfl, rfl⟩) rfl rfl (by decide) (by decide) rfl rfl rfl rfl rfl rfl (by decide) rfl rfl rfl ?_
  refine w_p h_m73 6 (pc' := 11) (L' := [(0, .ref 107), (1, .int (1 : Int32)), (2, .int (26 : Int32))]) (st' := [.ref 107]) rfl ?_
  refine w_gf H (pc' := 14) (L' := [(0, .ref 107), (1, .int (1 : Int32)), (2, .int (26 : Int32))]) h_m73 (z_at.mk 3 rfl rfl) rfl (u := .ref 108) rfl rfl rfl ?_
  refine w_p h_m73 2 (pc' := 16) (L' := [(0, .ref 107), (1, .int (1 : Int32)), (2, .int (26 : Int32))]) (st' := [.int (26 : Int32), .int (1 : Int32), .ref 108]) rfl ?_
  refine w_as H (t := 0) (j := 1) (u := .int (26 : Int32)) (0, 7, [(1, .int (26 : Int32)), (6, .int (1024 : Int32)), (5, .int (1 : Int32)), (4, .int (1 : Int32)), (3, .int (0 : Int32)), (2, .int (12 : Int32)), (0, .int (10 : Int32))], some (.int (0 : Int32))) (pc' := 17) (L' := []) h_m73 (z_at.mk 1 rfl rfl) rfl rfl (w_ui _ _ (by decide)) rfl rfl rfl rfl ?_
  clear H m; intro m H
  refine w_rv h_m73 (z_at.mk 1 rfl rfl) rfl ?_
  show z_W 998 145 39 [(0, .ref 39), (1, .int (26 : Int32))] [] m _
  refine w_p h_m145 4 (pc' := 43) (L' := [(0, .ref 39), (2, .int (0 : Int32))]) (st' := [.ref 39, .int (0 : Int32)]) rfl ?_
  refine w_gf H (pc' := 46) (L' := [(0, .ref 39), (2, .int (0 : Int32))]) h_m145 (z_at.mk 3 rfl rfl) rfl (u := .ref 40) rfl rfl rfl ?_
  refine w_gf H (pc' := 49) (L' := [(0, .ref 39), (2, .int (0 : Int32))]) h_m145 (z_at.mk 3 rfl rfl) rfl (u := .ref 63) rfl rfl rfl ?_
  refine w_gf H (pc' := 52) (L' := [(0, .ref 39), (2, .int (0 : Int32))]) h_m145 (z_at.mk 3 rfl rfl) rfl (u := .int (0 : Int32)) rfl rfl rfl ?_
  refine w_p h_m145 1 (pc' := 79) (L' := [(0, .ref 39), (2, .int (0 : Int32))]) (st' := []) rfl ?_
  refine w_rv h_m145 (z_at.mk 1 rfl rfl) rfl ?_
  show z_W 999 146 13 [(0, .ref 39), (1, .int (xs 1)), (2, .int (26 : Int32))] [] m _
  refine w_p h_m146 1 (pc' := 14) (L' := [(0, .ref 39), (1, .int (xs 1)), (2, .int (26 : Int32))]) (st' := [.ref 39]) rfl ?_
  refine w_gf H (pc' := 17) (L' := [(0, .ref 39), (1, .int (xs 1)), (2, .int (26 : Int32))]) h_m146 (z_at.mk 3 rfl rfl) rfl (u := .ref 106) rfl rfl rfl ?_
  refine w_gf H (pc' := 20) (L' := [(0, .ref 39), (1, .int (xs 1)), (2, .int (26 : Int32))]) h_m146 (z_at.mk 3 rfl rfl) rfl (u := .int (0 : Int32)) rfl rfl rfl ?_
  refine w_p h_m146 1 (pc' := 21) (L' := [(0, .ref 39), (1, .int (xs 1)), (2, .int (26 : Int32))]) (st' := [.int (xs 1), .int (0 : Int32)]) rfl ?_
  refine w_t2 (pc' := 26) (L' := [(0, .ref 39), (1, .int (xs 1)), (2, .int (26 : Int32))]) h_m146 (z_at.mk 3 rfl rfl) rfl (zc (a := 0) (b := (xs 1).toInt) rfl rfl (decide_eq_true (by omega))) rfl rfl ?_
  refine w_p h_m146 2 (pc' := 2) (L' := [(0, .ref 39), (1, .int (xs 1)), (2, .int (27 : Int32))]) (st' := []) rfl ?_
  exact hQ m (H.subC (by decide +kernel))
set_option maxHeartbeats 400000000 in
set_option maxRecDepth 20000 in
theorem w_turn_146_27 {xs : Nat → Int32} {m : zM} {Q : Option Value → zM → Prop} (hp : (xs 1).toInt < 0) (H : w_ok 6 xs 168 63950 ((106, (12, 18, [(15, .int (0 : Int32)), (14, .int (0 : Int32)), (13, .int (0 : Int32)), (12, .int (0 : Int32)), (11, .int (0 : Int32)), (10, .int (0 : Int32)), (9, .long (0 : Int64)), (8, .int (0 : Int32)), (2, .int (0 : Int32)), (0, .ref 41), (17, .ref 116), (16, .ref 114), (7, .ref 113), (6, .ref 112), (5, .ref 111), (4, .ref 110), (3, .ref 109), (1, .ref 107)], none)) :: (108, (0, 7, [(1, .int (26 : Int32)), (6, .int (1024 : Int32)), (5, .int (1 : Int32)), (4, .int (1 : Int32)), (3, .int (0 : Int32)), (2, .int (12 : Int32)), (0, .int (10 : Int32))], some (.int (0 : Int32)))) :: w_T0) m) (hQ : ∀ m, w_ok 6 xs 168 63950 ((106, (12, 18, [(15, .int (0 : Int32)), (14, .int (0 : Int32)), (13, .int (0 : Int32)), (12, .int (0 : Int32)), (11, .int (0 : Int32)), (10, .int (0 : Int32)), (9, .long (0 : Int64)), (8, .int (0 : Int32)), (2, .int (0 : Int32)), (0, .ref 41), (17, .ref 116), (16, .ref 114), (7, .ref 113), (6, .ref 112), (5, .ref 111), (4, .ref 110), (3, .ref 109), (1, .ref 107)], none)) :: (108, (0, 7, [(1, .int (27 : Int32)), (6, .int (1024 : Int32)), (5, .int (1 : Int32)), (4, .int (1 : Int32)), (3, .int (0 : Int32)), (2, .int (12 : Int32)), (0, .int (10 : Int32))], some (.int (0 : Int32)))) :: w_T0) m → z_W 999 146 2 [(0, .ref 39), (1, .int (xs 1)), (2, .int (28 : Int32))] [] m Q) : z_W 999 146 2 [(0, .ref 39), (1, .int (xs 1)), (2, .int (27 : Int32))] [] m Q := by
  refine w_p h_m146 5 (pc' := 10) (L' := [(0, .ref 39), (1, .int (xs 1)), (2, .int (27 : Int32))]) (st' := [.int (27 : Int32), .ref 39]) rfl ?_
  refine w_cv (H.t rfl) (pc' := 13) (L' := [(0, .ref 39), (1, .int (xs 1)), (2, .int (27 : Int32))]) (rest := []) (Ps := [.int (27 : Int32)]) (L0 := [(0, .ref 39), (1, .int (27 : Int32))]) h_m146 (z_at.mk 3 rfl rfl) (Or.inl ⟨rfl, rfl⟩) rfl rfl (by decide) (by decide) rfl rfl rfl rfl rfl rfl (by decide) rfl rfl rfl ?_
  refine w_p h_m145 1 (pc' := 1) (L' := [(0, .ref 39), (1, .int (27 : Int32))]) (st' := [.ref 39]) rfl ?_
  refine w_gf H (pc' := 4) (L' := [(0, .ref 39), (1, .int (27 : Int32))]) h_m145 (z_at.mk 3 rfl rfl) rfl (u := .ref 106) rfl rfl rfl ?_
  refine w_cv (H.t rfl) (pc' := 7) (L' := [(0, .ref 39), (1, .int (27 : Int32))]) (rest := []) (Ps := []) (L0 := [(0, .ref 106)]) h_m145 (z_at.mk 3 rfl rfl) (Or.inl ⟨rfl, rfl⟩) rfl rfl (by decide) (by decide) rfl rfl rfl rfl rfl rfl (by decide) rfl rfl rfl ?_
  refine w_p h_m20 2 (pc' := 2) (L' := [(0, .ref 106)]) (st' := [.int (0 : Int32), .ref 106]) rfl ?_
  refine w_pf H (12, 18, [(2, .int (0 : Int32)), (15, .int (0 : Int32)), (14, .int (0 : Int32)), (13, .int (0 : Int32)), (12, .int (0 : Int32)), (11, .int (0 : Int32)), (10, .int (0 : Int32)), (9, .long (0 : Int64)), (8, .int (0 : Int32)), (0, .ref 41), (17, .ref 116), (16, .ref 114), (7, .ref 113), (6, .ref 112), (5, .ref 111), (4, .ref 110), (3, .ref 109), (1, .ref 107)], none) (pc' := 5) (L' := [(0, .ref 106)]) h_m20 (z_at.mk 3 rfl rfl) rfl (by decide) rfl (Or.inl rfl) rfl rfl rfl ?_
  clear H m; intro m H
  refine w_p h_m20 2 (pc' := 7) (L' := [(0, .ref 106)]) (st' := [.int (0 : Int32), .ref 106]) rfl ?_
  refine w_pf H (12, 18, [(8, .int (0 : Int32)), (2, .int (0 : Int32)), (15, .int (0 : Int32)), (14, .int (0 : Int32)), (13, .int (0 : Int32)), (12, .int (0 : Int32)), (11, .int (0 : Int32)), (10, .int (0 : Int32)), (9, .long (0 : Int64)), (0, .ref 41), (17, .ref 116), (16, .ref 114), (7, .ref 113), (6, .ref 112), (5, .ref 111), (4, .ref 110), (3, .ref 109), (1, .ref 107)], none) (pc' := 10) (L' := [(0, .ref 106)]) h_m20 (z_at.mk 3 rfl rfl) rfl (by decide) rfl (Or.inl rfl) rfl rfl rfl ?_
  clear H m; intro m H
  refine w_p h_m20 2 (pc' := 12) (L' := [(0, .ref 106)]) (st' := [.long (0 : Int64), .ref 106]) rfl ?_
  refine w_pf H (12, 18, [(9, .long (0 : Int64)), (8, .int (0 : Int32)), (2, .int (0 : Int32)), (15, .int (0 : Int32)), (14, .int (0 : Int32)), (13, .int (0 : Int32)), (12, .int (0 : Int32)), (11, .int (0 : Int32)), (10, .int (0 : Int32)), (0, .ref 41), (17, .ref 116), (16, .ref 114), (7, .ref 113), (6, .ref 112), (5, .ref 111), (4, .ref 110), (3, .ref 109), (1, .ref 107)], none) (pc' := 15) (L' := [(0, .ref 106)]) h_m20 (z_at.mk 3 rfl rfl) rfl (by decide) rfl (Or.inl rfl) rfl rfl rfl ?_
  clear H m; intro m H
  refine w_p h_m20 2 (pc' := 17) (L' := [(0, .ref 106)]) (st' := [.int (0 : Int32), .ref 106]) rfl ?_
  refine w_pf H (12, 18, [(10, .int (0 : Int32)), (9, .long (0 : Int64)), (8, .int (0 : Int32)), (2, .int (0 : Int32)), (15, .int (0 : Int32)), (14, .int (0 : Int32)), (13, .int (0 : Int32)), (12, .int (0 : Int32)), (11, .int (0 : Int32)), (0, .ref 41), (17, .ref 116), (16, .ref 114), (7, .ref 113), (6, .ref 112), (5, .ref 111), (4, .ref 110), (3, .ref 109), (1, .ref 107)], none) (pc' := 20) (L' := [(0, .ref 106)]) h_m20 (z_at.mk 3 rfl rfl) rfl (by decide) rfl (Or.inl rfl) rfl rfl rfl ?_
  clear H m; intro m H
  refine w_p h_m20 2 (pc' := 22) (L' := [(0, .ref 106)]) (st' := [.int (0 : Int32), .ref 106]) rfl ?_
  refine w_pf H (12, 18, [(11, .int (0 : Int32)), (10, .int (0 : Int32)), (9, .long (0 : Int64)), (8, .int (0 : Int32)), (2, .int (0 : Int32)), (15, .int (0 : Int32)), (14, .int (0 : Int32)), (13, .int (0 : Int32)), (12, .int (0 : Int32)), (0, .ref 41), (17, .ref 116), (16, .ref 114), (7, .ref 113), (6, .ref 112), (5, .ref 111), (4, .ref 110), (3, .ref 109), (1, .ref 107)], none) (pc' := 25) (L' := [(0, .ref 106)]) h_m20 (z_at.mk 3 rfl rfl) rfl (by decide) rfl (Or.inl rfl) rfl rfl rfl ?_
  clear H m; intro m H
  refine w_p h_m20 2 (pc' := 27) (L' := [(0, .ref 106)]) (st' := [.int (0 : Int32), .ref 106]) rfl ?_
  refine w_pf H (12, 18, [(12, .int (0 : Int32)), (11, .int (0 : Int32)), (10, .int (0 : Int32)), (9, .long (0 : Int64)), (8, .int (0 : Int32)), (2, .int (0 : Int32)), (15, .int (0 : Int32)), (14, .int (0 : Int32)), (13, .int (0 : Int32)), (0, .ref 41), (17, .ref 116), (16, .ref 114), (7, .ref 113), (6, .ref 112), (5, .ref 111), (4, .ref 110), (3, .ref 109), (1, .ref 107)], none) (pc' := 30) (L' := [(0, .ref 106)]) h_m20 (z_at.mk 3 rfl rfl) rfl (by decide) rfl (Or.inl rfl) rfl rfl rfl ?_
  clear H m; intro m H
  refine w_p h_m20 2 (pc' := 32) (L' := [(0, .ref 106)]) (st' := [.int (0 : Int32), .ref 106]) rfl ?_
  refine w_pf H (12, 18, [(13, .int (0 : Int32)), (12, .int (0 : Int32)), (11, .int (0 : Int32)), (10, .int (0 : Int32)), (9, .long (0 : Int64)), (8, .int (0 : Int32)), (2, .int (0 : Int32)), (15, .int (0 : Int32)), (14, .int (0 : Int32)), (0, .ref 41), (17, .ref 116), (16, .ref 114), (7, .ref 113), (6, .ref 112), (5, .ref 111), (4, .ref 110), (3, .ref 109), (1, .ref 107)], none) (pc' := 35) (L' := [(0, .ref 106)]) h_m20 (z_at.mk 3 rfl rfl) rfl (by decide) rfl (Or.inl rfl) rfl rfl rfl ?_
  clear H m; intro m H
  refine w_p h_m20 2 (pc' := 37) (L' := [(0, .ref 106)]) (st' := [.int (0 : Int32), .ref 106]) rfl ?_
  refine w_pf H (12, 18, [(14, .int (0 : Int32)), (13, .int (0 : Int32)), (12, .int (0 : Int32)), (11, .int (0 : Int32)), (10, .int (0 : Int32)), (9, .long (0 : Int64)), (8, .int (0 : Int32)), (2, .int (0 : Int32)), (15, .int (0 : Int32)), (0, .ref 41), (17, .ref 116), (16, .ref 114), (7, .ref 113), (6, .ref 112), (5, .ref 111), (4, .ref 110), (3, .ref 109), (1, .ref 107)], none) (pc' := 40) (L' := [(0, .ref 106)]) h_m20 (z_at.mk 3 rfl rfl) rfl (by decide) rfl (Or.inl rfl) rfl rfl rfl ?_
  clear H m; intro m H
  refine w_p h_m20 2 (pc' := 42) (L' := [(0, .ref 106)]) (st' := [.int (0 : Int32), .ref 106]) rfl ?_
  refine w_pf H (12, 18, [(15, .int (0 : Int32)), (14, .int (0 : Int32)), (13, .int (0 : Int32)), (12, .int (0 : Int32)), (11, .int (0 : Int32)), (10, .int (0 : Int32)), (9, .long (0 : Int64)), (8, .int (0 : Int32)), (2, .int (0 : Int32)), (0, .ref 41), (17, .ref 116), (16, .ref 114), (7, .ref 113), (6, .ref 112), (5, .ref 111), (4, .ref 110), (3, .ref 109), (1, .ref 107)], none) (pc' := 45) (L' := [(0, .ref 106)]) h_m20 (z_at.mk 3 rfl rfl) rfl (by decide) rfl (Or.inl rfl) rfl rfl rfl ?_
  clear H m; intro m H
  refine w_rv h_m20 (z_at.mk 1 rfl rfl) rfl ?_
  show z_W 998 145 7 [(0, .ref 39), (1, .int (27 : Int32))] [] m _
  refine w_p h_m145 1 (pc' := 8) (L' := [(0, .ref 39), (1, .int (27 : Int32))]) (st' := [.ref 39]) rfl ?_
  refine w_gf H (pc' := 11) (L' := [(0, .ref 39), (1, .int (27 : Int32))]) h_m145 (z_at.mk 3 rfl rfl) rfl (u := .ref 106) rfl rfl rfl ?_
  refine w_gf H (pc' := 14) (L' := [(0, .ref 39), (1, .int (27 : Int32))]) h_m145 (z_at.mk 3 rfl rfl) rfl (u := .ref 107) rfl rfl rfl ?_
  refine w_p h_m145 1 (pc' := 15) (L' := [(0, .ref 39), (1, .int (27 : Int32))]) (st' := [.ref 39, .ref 107]) rfl ?_
  refine w_gf H (pc' := 18) (L' := [(0, .ref 39), (1, .int (27 : Int32))]) h_m145 (z_at.mk 3 rfl rfl) rfl (u := .ref 40) rfl rfl rfl ?_
  refine w_gf H (pc' := 21) (L' := [(0, .ref 39), (1, .int (27 : Int32))]) h_m145 (z_at.mk 3 rfl rfl) rfl (u := .ref 48) rfl rfl rfl ?_
  refine w_gf H (pc' := 24) (L' := [(0, .ref 39), (1, .int (27 : Int32))]) h_m145 (z_at.mk 3 rfl rfl) rfl (u := .ref 49) rfl rfl rfl ?_
  refine w_cv (H.t rfl) (pc' := 27) (L' := [(0, .ref 39), (1, .int (27 : Int32))]) (rest := []) (Ps := [.ref 49]) (L0 := [(0, .ref 107), (1, .ref 49)]) h_m145 (z_at.mk 3 rfl rfl) (Or.inl ⟨rfl, rfl⟩) rfl rfl (by decide) (by decide) rfl rfl rfl rfl rfl rfl (by decide) rfl rfl rfl ?_
  refine w_p h_m74 1 (pc' := 1) (L' := [(0, .ref 107), (1, .ref 49)]) (st' := [.ref 49]) rfl ?_
  refine w_gf H (pc' := 4) (L' := [(0, .ref 107), (1, .ref 49)]) h_m74 (z_at.mk 3 rfl rfl) rfl (u := .ref 50) rfl rfl rfl ?_
  refine w_p h_m74 2 (pc' := 6) (L' := [(0, .ref 107), (1, .ref 49)]) (st' := [.ref 107, .int (0 : Int32), .ref 50]) rfl ?_
  refine w_gf H (pc' := 9) (L' := [(0, .ref 107), (1, .ref 49)]) h_m74 (z_at.mk 3 rfl rfl) rfl (u := .ref 108) rfl rfl rfl ?_
  refine w_p h_m74 2 (pc' := 12) (L' := [(0, .ref 107), (1, .ref 49)]) (st' := [.int (7 : Int32), .int (0 : Int32), .ref 108, .int (0 : Int32), .ref 50]) rfl ?_
  refine w_cpf H (ra := (0, 7, [(6, .int (1024 : Int32)), (5, .int (1 : Int32)), (4, .int (1 : Int32)), (3, .int (0 : Int32)), (2, .int (12 : Int32)), (1, .int (40 : Int32)), (0, .int (10 : Int32))], some (.int (0 : Int32)))) (pc' := 15) (L' := [(0, .ref 107), (1, .ref 49)]) h_m74 (z_at.mk 3 rfl rfl) rfl (z_cat_le 0 rfl (by decide)) rfl rfl rfl rfl (by decide) rfl rfl ?_
  clear H m; intro m H
  refine w_rv h_m74 (z_at.mk 1 rfl rfl) rfl ?_
  show z_W 998 145 27 [(0, .ref 39), (1, .int (27 : Int32))] [] m _
  refine w_p h_m145 1 (pc' := 28) (L' := [(0, .ref 39), (1, .int (27 : Int32))]) (st' := [.ref 39]) rfl ?_
  refine w_gf H (pc' := 31) (L' := [(0, .ref 39), (1, .int (27 : Int32))]) h_m145 (z_at.mk 3 rfl rfl) rfl (u := .ref 106) rfl rfl rfl ?_
  refine w_gf H (pc' := 34) (L' := [(0, .ref 39), (1, .int (27 : Int32))]) h_m145 (z_at.mk 3 rfl rfl) rfl (u := .ref 107) rfl rfl rfl ?_
  refine w_p h_m145 2 (pc' := 36) (L' := [(0, .ref 39), (1, .int (27 : Int32))]) (st' := [.int (27 : Int32), .int (1 : Int32), .ref 107]) rfl ?_
  refine w_cv (H.t rfl) (pc' := 39) (L' := [(0, .ref 39), (1, .int (27 : Int32))]) (rest := []) (Ps := [.int (1 : Int32), .int (27 : Int32)]) (L0 := [(0, .ref 107), (1, .int (1 : Int32)), (2, .int (27 : Int32))]) h_m145 (z_at.mk 3 rfl rfl) (Or.inl ⟨rfl, rfl⟩) rfl rfl (by decide) (by decide) rfl rfl rfl rfl rfl rfl (by decide) rfl rfl rfl ?_
  refine w_p h_m73 6 (pc' := 11) (L' := [(0, .ref 107), (1, .int (1 : Int32)), (2, .int (27 : Int32))]) (st' := [.ref 107]) rfl ?_
  refine w_gf H (pc' := 14) (L' := [(0, .ref 107), (1, .int (1 : Int32)), (2, .int (27 : Int32))]) h_m73 (z_at.mk 3 rfl rfl) rfl (u := .ref 108) rfl rfl rfl ?_
  refine w_p h_m73 2 (pc' := 16) (L' := [(0, .ref 107), (1, .int (1 : Int32)), (2, .int (27 : Int32))]) (st' := [.int (27 : Int32), .int (1 : Int32), .ref 108]) rfl ?_
  refine w_as H (t := 0) (j := 1) (u := .int (27 : Int32)) (0, 7, [(1, .int (27 : Int32)), (6, .int (1024 : Int32)), (5, .int (1 : Int32)), (4, .int (1 : Int32)), (3, .int (0 : Int32)), (2, .int (12 : Int32)), (0, .int (10 : Int32))], some (.int (0 : Int32))) (pc' := 17) (L' := []) h_m73 (z_at.mk 1 rfl rfl) rfl rfl (w_ui _ _ (by decide)) rfl rfl rfl rfl ?_
  clear H m; intro m H
  refine w_rv h_m73 (z_at.mk 1 rfl rfl) rfl ?_
  show z_W 998 145 39 [(0, .ref 39), (1, .int (27 : Int32))] [] m _
  refine w_p h_m145 4 (pc' := 43) (L' := [(0, .ref 39), (2, .int (0 : Int32))]) (st' := [.ref 39, .int (0 : Int32)]) rfl ?_
  refine w_gf H (pc' := 46) (L' := [(0, .ref 39), (2, .int (0 : Int32))]) h_m145 (z_at.mk 3 rfl rfl) rfl (u := .ref 40) rfl rfl rfl ?_
  refine w_gf H (pc' := 49) (L' := [(0, .ref 39), (2, .int (0 : Int32))]) h_m145 (z_at.mk 3 rfl rfl) rfl (u := .ref 63) rfl rfl rfl ?_
  refine w_gf H (pc' := 52) (L' := [(0, .ref 39), (2, .int (0 : Int32))]) h_m145 (z_at.mk 3 rfl rfl) rfl (u := .int (0 : Int32)) rfl rfl rfl ?_
  refine w_p h_m145 1 (pc' := 79) (L' := [(0, .ref 39), (2, .int (0 : Int32))]) (st' := []) rfl ?_
  refine w_rv h_m145 (z_at.mk 1 rfl rfl) rfl ?_
  show z_W 999 146 13 [(0, .ref 39), (1, .int (xs 1)), (2, .int (27 : Int32))] [] m _
  refine w_p h_m146 1 (pc' := 14) (L' := [(0, .ref 39), (1, .int (xs 1)), (2, .int (27 : Int32))]) (st' := [.ref 39]) rfl ?_
  refine w_gf H (pc' := 17) (L' := [(0, .ref 39), (1, .int (xs 1)), (2, .int (27 : Int32))]) h_m146 (z_at.mk 3 rfl rfl) rfl (u := .ref 106) rfl rfl rfl ?_
  refine w_gf H (pc' := 20) (L' := [(0, .ref 39), (1, .int (xs 1)), (2, .int (27 : Int32))]) h_m146 (z_at.mk 3 rfl rfl) rfl (u := .int (0 : Int32)) rfl rfl rfl ?_
  refine w_p h_m146 1 (pc' := 21) (L' := [(0, .ref 39), (1, .int (xs 1)), (2, .int (27 : Int32))]) (st' := [.int (xs 1), .int (0 : Int32)]) rfl ?_
  refine w_t2 (pc' := 26) (L' := [(0, .ref 39), (1, .int (xs 1)), (2, .int (27 : Int32))]) h_m146 (z_at.mk 3 rfl rfl) rfl (zc (a := 0) (b := (xs 1).toInt) rfl rfl (decide_eq_true (by omega))) rfl rfl ?_
  refine w_p h_m146 2 (pc' := 2) (L' := [(0, .ref 39), (1, .int (xs 1)), (2, .int (28 : Int32))]) (st' := []) rfl ?_
  exact hQ m (H.subC (by decide +kernel))
set_option maxHeartbeats 400000000 in
set_option maxRecDepth 20000 in
theorem w_turn_146_28 {xs : Nat → Int32} {m : zM} {Q : Option Value → zM → Prop} (hp : (xs 1).toInt < 0) (H : w_ok 6 xs 168 63950 ((106, (12, 18, [(15, .int (0 : Int32)), (14, .int (0 : Int32)), (13, .int (0 : Int32)), (12, .int (0 : Int32)), (11, .int (0 : Int32)), (10, .int (0 : Int32)), (9, .long (0 : Int64)), (8, .int (0 : Int32)), (2, .int (0 : Int32)), (0, .ref 41), (17, .ref 116), (16, .ref 114), (7, .ref 113), (6, .ref 112), (5, .ref 111), (4, .ref 110), (3, .ref 109), (1, .ref 107)], none)) :: (108, (0, 7, [(1, .int (27 : Int32)), (6, .int (1024 : Int32)), (5, .int (1 : Int32)), (4, .int (1 : Int32)), (3, .int (0 : Int32)), (2, .int (12 : Int32)), (0, .int (10 : Int32))], some (.int (0 : Int32)))) :: w_T0) m) (hQ : ∀ m, w_ok 6 xs 168 63950 ((106, (12, 18, [(15, .int (0 : Int32)), (14, .int (0 : Int32)), (13, .int (0 : Int32)), (12, .int (0 : Int32)), (11, .int (0 : Int32)), (10, .int (0 : Int32)), (9, .long (0 : Int64)), (8, .int (0 : Int32)), (2, .int (0 : Int32)), (0, .ref 41), (17, .ref 116), (16, .ref 114), (7, .ref 113), (6, .ref 112), (5, .ref 111), (4, .ref 110), (3, .ref 109), (1, .ref 107)], none)) :: (108, (0, 7, [(1, .int (28 : Int32)), (6, .int (1024 : Int32)), (5, .int (1 : Int32)), (4, .int (1 : Int32)), (3, .int (0 : Int32)), (2, .int (12 : Int32)), (0, .int (10 : Int32))], some (.int (0 : Int32)))) :: w_T0) m → z_W 999 146 2 [(0, .ref 39), (1, .int (xs 1)), (2, .int (29 : Int32))] [] m Q) : z_W 999 146 2 [(0, .ref 39), (1, .int (xs 1)), (2, .int (28 : Int32))] [] m Q := by
  refine w_p h_m146 5 (pc' := 10) (L' := [(0, .ref 39), (1, .int (xs 1)), (2, .int (28 : Int32))]) (st' := [.int (28 : Int32), .ref 39]) rfl ?_
  refine w_cv (H.t rfl) (pc' := 13) (L' := [(0, .ref 39), (1, .int (xs 1)), (2, .int (28 : Int32))]) (rest := []) (Ps := [.int (28 : Int32)]) (L0 := [(0, .ref 39), (1, .int (28 : Int32))]) h_m146 (z_at.mk 3 rfl rfl) (Or.inl ⟨rfl, rfl⟩) rfl rfl (by decide) (by decide) rfl rfl rfl rfl rfl rfl (by decide) rfl rfl rfl ?_
  refine w_p h_m145 1 (pc' := 1) (L' := [(0, .ref 39), (1, .int (28 : Int32))]) (st' := [.ref 39]) rfl ?_
  refine w_gf H (pc' := 4) (L' := [(0, .ref 39), (1, .int (28 : Int32))]) h_m145 (z_at.mk 3 rfl rfl) rfl (u := .ref 106) rfl rfl rfl ?_
  refine w_cv (H.t rfl) (pc' := 7) (L' := [(0, .ref 39), (1, .int (28 : Int32))]) (rest := []) (Ps := []) (L0 := [(0, .ref 106)]) h_m145 (z_at.mk 3 rfl rfl) (Or.inl ⟨rfl, rfl⟩) rfl rfl (by decide) (by decide) rfl rfl rfl rfl rfl rfl (by decide) rfl rfl rfl ?_
  refine w_p h_m20 2 (pc' := 2) (L' := [(0, .ref 106)]) (st' := [.int (0 : Int32), .ref 106]) rfl ?_
  refine w_pf H (12, 18, [(2, .int (0 : Int32)), (15, .int (0 : Int32)), (14, .int (0 : Int32)), (13, .int (0 : Int32)), (12, .int (0 : Int32)), (11, .int (0 : Int32)), (10, .int (0 : Int32)), (9, .long (0 : Int64)), (8, .int (0 : Int32)), (0, .ref 41), (17, .ref 116), (16, .ref 114), (7, .ref 113), (6, .ref 112), (5, .ref 111), (4, .ref 110), (3, .ref 109), (1, .ref 107)], none) (pc' := 5) (L' := [(0, .ref 106)]) h_m20 (z_at.mk 3 rfl rfl) rfl (by decide) rfl (Or.inl rfl) rfl rfl rfl ?_
  clear H m; intro m H
  refine w_p h_m20 2 (pc' := 7) (L' := [(0, .ref 106)]) (st' := [.int (0 : Int32), .ref 106]) rfl ?_
  refine w_pf H (12, 18, [(8, .int (0 : Int32)), (2, .int (0 : Int32)), (15, .int (0 : Int32)), (14, .int (0 : Int32)), (13, .int (0 : Int32)), (12, .int (0 : Int32)), (11, .int (0 : Int32)), (10, .int (0 : Int32)), (9, .long (0 : Int64)), (0, .ref 41), (17, .ref 116), (16, .ref 114), (7, .ref 113), (6, .ref 112), (5, .ref 111), (4, .ref 110), (3, .ref 109), (1, .ref 107)], none) (pc' := 10) (L' := [(0, .ref 106)]) h_m20 (z_at.mk 3 rfl rfl) rfl (by decide) rfl (Or.inl rfl) rfl rfl rfl ?_
  clear H m; intro m H
  refine w_p h_m20 2 (pc' := 12) (L' := [(0, .ref 106)]) (st' := [.long (0 : Int64), .ref 106]) rfl ?_
  refine w_pf H (12, 18, [(9, .long (0 : Int64)), (8, .int (0 : Int32)), (2, .int (0 : Int32)), (15, .int (0 : Int32)), (14, .int (0 : Int32)), (13, .int (0 : Int32)), (12, .int (0 : Int32)), (11, .int (0 : Int32)), (10, .int (0 : Int32)), (0, .ref 41), (17, .ref 116), (16, .ref 114), (7, .ref 113), (6, .ref 112), (5, .ref 111), (4, .ref 110), (3, .ref 109), (1, .ref 107)], none) (pc' := 15) (L' := [(0, .ref 106)]) h_m20 (z_at.mk 3 rfl rfl) rfl (by decide) rfl (Or.inl rfl) rfl rfl rfl ?_
  clear H m; intro m H
  refine w_p h_m20 2 (pc' := 17) (L' := [(0, .ref 106)]) (st' := [.int (0 : Int32), .ref 106]) rfl ?_
  refine w_pf H (12, 18, [(10, .int (0 : Int32)), (9, .long (0 : Int64)), (8, .int (0 : Int32)), (2, .int (0 : Int32)), (15, .int (0 : Int32)), (14, .int (0 : Int32)), (13, .int (0 : Int32)), (12, .int (0 : Int32)), (11, .int (0 : Int32)), (0, .ref 41), (17, .ref 116), (16, .ref 114), (7, .ref 113), (6, .ref 112), (5, .ref 111), (4, .ref 110), (3, .ref 109), (1, .ref 107)], none) (pc' := 20) (L' := [(0, .ref 106)]) h_m20 (z_at.mk 3 rfl rfl) rfl (by decide) rfl (Or.inl rfl) rfl rfl rfl ?_
  clear H m; intro m H
  refine w_p h_m20 2 (pc' := 22) (L' := [(0, .ref 106)]) (st' := [.int (0 : Int32), .ref 106]) rfl ?_
  refine w_pf H (12, 18, [(11, .int (0 : Int32)), (10, .int (0 : Int32)), (9, .long (0 : Int64)), (8, .int (0 : Int32)), (2, .int (0 : Int32)), (15, .int (0 : Int32)), (14, .int (0 : Int32)), (13, .int (0 : Int32)), (12, .int (0 : Int32)), (0, .ref 41), (17, .ref 116), (16, .ref 114), (7, .ref 113), (6, .ref 112), (5, .ref 111), (4, .ref 110), (3, .ref 109), (1, .ref 107)], none) (pc' := 25) (L' := [(0, .ref 106)]) h_m20 (z_at.mk 3 rfl rfl) rfl (by decide) rfl (Or.inl rfl) rfl rfl rfl ?_
  clear H m; intro m H
  refine w_p h_m20 2 (pc' := 27) (L' := [(0, .ref 106)]) (st' := [.int (0 : Int32), .ref 106]) rfl ?_
  refine w_pf H (12, 18, [(12, .int (0 : Int32)), (11, .int (0 : Int32)), (10, .int (0 : Int32)), (9, .long (0 : Int64)), (8, .int (0 : Int32)), (2, .int (0 : Int32)), (15, .int (0 : Int32)), (14, .int (0 : Int32)), (13, .int (0 : Int32)), (0, .ref 41), (17, .ref 116), (16, .ref 114), (7, .ref 113), (6, .ref 112), (5, .ref 111), (4, .ref 110), (3, .ref 109), (1, .ref 107)], none) (pc' := 30) (L' := [(0, .ref 106)]) h_m20 (z_at.mk 3 rfl rfl) rfl (by decide) rfl (Or.inl rfl) rfl rfl rfl ?_
  clear H m; intro m H
  refine w_p h_m20 2 (pc' := 32) (L' := [(0, .ref 106)]) (st' := [.int (0 : Int32), .ref 106]) rfl ?_
  refine w_pf H (12, 18, [(13, .int (0 : Int32)), (12, .int (0 : Int32)), (11, .int (0 : Int32)), (10, .int (0 : Int32)), (9, .long (0 : Int64)), (8, .int (0 : Int32)), (2, .int (0 : Int32)), (15, .int (0 : Int32)), (14, .int (0 : Int32)), (0, .ref 41), (17, .ref 116), (16, .ref 114), (7, .ref 113), (6, .ref 112), (5, .ref 111), (4, .ref 110), (3, .ref 109), (1, .ref 107)], none) (pc' := 35) (L' := [(0, .ref 106)]) h_m20 (z_at.mk 3 rfl rfl) rfl (by decide) rfl (Or.inl rfl) rfl rfl rfl ?_
  clear H m; intro m H
  refine w_p h_m20 2 (pc' := 37) (L' := [(0, .ref 106)]) (st' := [.int (0 : Int32), .ref 106]) rfl ?_
  refine w_pf H (12, 18, [(14, .int (0 : Int32)), (13, .int (0 : Int32)), (12, .int (0 : Int32)), (11, .int (0 : Int32)), (10, .int (0 : Int32)), (9, .long (0 : Int64)), (8, .int (0 : Int32)), (2, .int (0 : Int32)), (15, .int (0 : Int32)), (0, .ref 41), (17, .ref 116), (16, .ref 114), (7, .ref 113), (6, .ref 112), (5, .ref 111), (4, .ref 110), (3, .ref 109), (1, .ref 107)], none) (pc' := 40) (L' := [(0, .ref 106)]) h_m20 (z_at.mk 3 rfl rfl) rfl (by decide) rfl (Or.inl rfl) rfl rfl rfl ?_
  clear H m; intro m H
  refine w_p h_m20 2 (pc' := 42) (L' := [(0, .ref 106)]) (st' := [.int (0 : Int32), .ref 106]) rfl ?_
  refine w_pf H (12, 18, [(15, .int (0 : Int32)), (14, .int (0 : Int32)), (13, .int (0 : Int32)), (12, .int (0 : Int32)), (11, .int (0 : Int32)), (10, .int (0 : Int32)), (9, .long (0 : Int64)), (8, .int (0 : Int32)), (2, .int (0 : Int32)), (0, .ref 41), (17, .ref 116), (16, .ref 114), (7, .ref 113), (6, .ref 112), (5, .ref 111), (4, .ref 110), (3, .ref 109), (1, .ref 107)], none) (pc' := 45) (L' := [(0, .ref 106)]) h_m20 (z_at.mk 3 rfl rfl) rfl (by decide) rfl (Or.inl rfl) rfl rfl rfl ?_
  clear H m; intro m H
  refine w_rv h_m20 (z_at.mk 1 rfl rfl) rfl ?_
  show z_W 998 145 7 [(0, .ref 39), (1, .int (28 : Int32))] [] m _
  refine w_p h_m145 1 (pc' := 8) (L' := [(0, .ref 39), (1, .int (28 : Int32))]) (st' := [.ref 39]) rfl ?_
  refine w_gf H (pc' := 11) (L' := [(0, .ref 39), (1, .int (28 : Int32))]) h_m145 (z_at.mk 3 rfl rfl) rfl (u := .ref 106) rfl rfl rfl ?_
  refine w_gf H (pc' := 14) (L' := [(0, .ref 39), (1, .int (28 : Int32))]) h_m145 (z_at.mk 3 rfl rfl) rfl (u := .ref 107) rfl rfl rfl ?_
  refine w_p h_m145 1 (pc' := 15) (L' := [(0, .ref 39), (1, .int (28 : Int32))]) (st' := [.ref 39, .ref 107]) rfl ?_
  refine w_gf H (pc' := 18) (L' := [(0, .ref 39), (1, .int (28 : Int32))]) h_m145 (z_at.mk 3 rfl rfl) rfl (u := .ref 40) rfl rfl rfl ?_
  refine w_gf H (pc' := 21) (L' := [(0, .ref 39), (1, .int (28 : Int32))]) h_m145 (z_at.mk 3 rfl rfl) rfl (u := .ref 48) rfl rfl rfl ?_
  refine w_gf H (pc' := 24) (L' := [(0, .ref 39), (1, .int (28 : Int32))]) h_m145 (z_at.mk 3 rfl rfl) rfl (u := .ref 49) rfl rfl rfl ?_
  refine w_cv (H.t rfl) (pc' := 27) (L' := [(0, .ref 39), (1, .int (28 : Int32))]) (rest := []) (Ps := [.ref 49]) (L0 := [(0, .ref 107), (1, .ref 49)]) h_m145 (z_at.mk 3 rfl rfl) (Or.inl ⟨rfl, rfl⟩) rfl rfl (by decide) (by decide) rfl rfl rfl rfl rfl rfl (by decide) rfl rfl rfl ?_
  refine w_p h_m74 1 (pc' := 1) (L' := [(0, .ref 107), (1, .ref 49)]) (st' := [.ref 49]) rfl ?_
  refine w_gf H (pc' := 4) (L' := [(0, .ref 107), (1, .ref 49)]) h_m74 (z_at.mk 3 rfl rfl) rfl (u := .ref 50) rfl rfl rfl ?_
  refine w_p h_m74 2 (pc' := 6) (L' := [(0, .ref 107), (1, .ref 49)]) (st' := [.ref 107, .int (0 : Int32), .ref 50]) rfl ?_
  refine w_gf H (pc' := 9) (L' := [(0, .ref 107), (1, .ref 49)]) h_m74 (z_at.mk 3 rfl rfl) rfl (u := .ref 108) rfl rfl rfl ?_
  refine w_p h_m74 2 (pc' := 12) (L' := [(0, .ref 107), (1, .ref 49)]) (st' := [.int (7 : Int32), .int (0 : Int32), .ref 108, .int (0 : Int32), .ref 50]) rfl ?_
  refine w_cpf H (ra := (0, 7, [(6, .int (1024 : Int32)), (5, .int (1 : Int32)), (4, .int (1 : Int32)), (3, .int (0 : Int32)), (2, .int (12 : Int32)), (1, .int (40 : Int32)), (0, .int (10 : Int32))], some (.int (0 : Int32)))) (pc' := 15) (L' := [(0, .ref 107), (1, .ref 49)]) h_m74 (z_at.mk 3 rfl rfl) rfl (z_cat_le 0 rfl (by decide)) rfl rfl rfl rfl (by decide) rfl rfl ?_
  clear H m; intro m H
  refine w_rv h_m74 (z_at.mk 1 rfl rfl) rfl ?_
  show z_W 998 145 27 [(0, .ref 39), (1, .int (28 : Int32))] [] m _
  refine w_p h_m145 1 (pc' := 28) (L' := [(0, .ref 39), (1, .int (28 : Int32))]) (st' := [.ref 39]) rfl ?_
  refine w_gf H (pc' := 31) (L' := [(0, .ref 39), (1, .int (28 : Int32))]) h_m145 (z_at.mk 3 rfl rfl) rfl (u := .ref 106) rfl rfl rfl ?_
  refine w_gf H (pc' := 34) (L' := [(0, .ref 39), (1, .int (28 : Int32))]) h_m145 (z_at.mk 3 rfl rfl) rfl (u := .ref 107) rfl rfl rfl ?_
  refine w_p h_m145 2 (pc' := 36) (L' := [(0, .ref 39), (1, .int (28 : Int32))]) (st' := [.int (28 : Int32), .int (1 : Int32), .ref 107]) rfl ?_
  refine w_cv (H.t rfl) (pc' := 39) (L' := [(0, .ref 39), (1, .int (28 : Int32))]) (rest := []) (Ps := [.int (1 : Int32), .int (28 : Int32)]) (L0 := [(0, .ref 107), (1, .int (1 : Int32)), (2, .int (28 : Int32))]) h_m145 (z_at.mk 3 rfl rfl) (Or.inl ⟨rfl, rfl⟩) rfl rfl (by decide) (by decide) rfl rfl rfl rfl rfl rfl (by decide) rfl rfl rfl ?_
  refine w_p h_m73 6 (pc' := 11) (L' := [(0, .ref 107), (1, .int (1 : Int32)), (2, .int (28 : Int32))]) (st' := [.ref 107]) rfl ?_
  refine w_gf H (pc' := 14) (L' := [(0, .ref 107), (1, .int (1 : Int32)), (2, .int (28 : Int32))]) h_m73 (z_at.mk 3 rfl rfl) rfl (u := .ref 108) rfl rfl rfl ?_
  refine w_p h_m73 2 (pc' := 16) (L' := [(0, .ref 107), (1, .int (1 : Int32)), (2, .int (28 : Int32))]) (st' := [.int (28 : Int32), .int (1 : Int32), .ref 108]) rfl ?_
  refine w_as H (t := 0) (j := 1) (u := .int (28 : Int32)) (0, 7, [(1, .int (28 : Int32)), (6, .int (1024 : Int32)), (5, .int (1 : Int32)), (4, .int (1 : Int32)), (3, .int (0 : Int32)), (2, .int (12 : Int32)), (0, .int (10 : Int32))], some (.int (0 : Int32))) (pc' := 17) (L' := []) h_m73 (z_at.mk 1 rfl rfl) rfl rfl (w_ui _ _ (by decide)) rfl rfl rfl rfl ?_
  clear H m; intro m H
  refine w_rv h_m73 (z_at.mk 1 rfl rfl) rfl ?_
  show z_W 998 145 39 [(0, .ref 39), (1, .int (28 : Int32))] [] m _
  refine w_p h_m145 4 (pc' := 43) (L' := [(0, .ref 39), (2, .int (0 : Int32))]) (st' := [.ref 39, .int (0 : Int32)]) rfl ?_
  refine w_gf H (pc' := 46) (L' := [(0, .ref 39), (2, .int (0 : Int32))]) h_m145 (z_at.mk 3 rfl rfl) rfl (u := .ref 40) rfl rfl rfl ?_
  refine w_gf H (pc' := 49) (L' := [(0, .ref 39), (2, .int (0 : Int32))]) h_m145 (z_at.mk 3 rfl rfl) rfl (u := .ref 63) rfl rfl rfl ?_
  refine w_gf H (pc' := 52) (L' := [(0, .ref 39), (2, .int (0 : Int32))]) h_m145 (z_at.mk 3 rfl rfl) rfl (u := .int (0 : Int32)) rfl rfl rfl ?_
  refine w_p h_m145 1 (pc' := 79) (L' := [(0, .ref 39), (2, .int (0 : Int32))]) (st' := []) rfl ?_
  refine w_rv h_m145 (z_at.mk 1 rfl rfl) rfl ?_
  show z_W 999 146 13 [(0, .ref 39), (1, .int (xs 1)), (2, .int (28 : Int32))] [] m _
  refine w_p h_m146 1 (pc' := 14) (L' := [(0, .ref 39), (1, .int (xs 1)), (2, .int (28 : Int32))]) (st' := [.ref 39]) rfl ?_
  refine w_gf H (pc' := 17) (L' := [(0, .ref 39), (1, .int (xs 1)), (2, .int (28 : Int32))]) h_m146 (z_at.mk 3 rfl rfl) rfl (u := .ref 106) rfl rfl rfl ?_
  refine w_gf H (pc' := 20) (L' := [(0, .ref 39), (1, .int (xs 1)), (2, .int (28 : Int32))]) h_m146 (z_at.mk 3 rfl rfl) rfl (u := .int (0 : Int32)) rfl rfl rfl ?_
  refine w_p h_m146 1 (pc' := 21) (L' := [(0, .ref 39), (1, .int (xs 1)), (2, .int (28 : Int32))]) (st' := [.int (xs 1), .int (0 : Int32)]) rfl ?_
  refine w_t2 (pc' := 26) (L' := [(0, .ref 39), (1, .int (xs 1)), (2, .int (28 : Int32))]) h_m146 (z_at.mk 3 rfl rfl) rfl (zc (a := 0) (b := (xs 1).toInt) rfl rfl (decide_eq_true (by omega))) rfl rfl ?_
  refine w_p h_m146 2 (pc' := 2) (L' := [(0, .ref 39), (1, .int (xs 1)), (2, .int (29 : Int32))]) (st' := []) rfl ?_
  exact hQ m (H.subC (by decide +kernel))
set_option maxHeartbeats 400000000 in
set_option maxRecDepth 20000 in
theorem w_turn_146_29 {xs : Nat → Int32} {m : zM} {Q : Option Value → zM → Prop} (hp : (xs 1).toInt < 0) (H : w_ok 6 xs 168 63950 ((106, (12, 18, [(15, .int (0 : Int32)), (14, .int (0 : Int32)), (13, .int (0 : Int32)), (12, .int (0 : Int32)), (11, .int (0 : Int32)), (10, .int (0 : Int32)), (9, .long (0 : Int64)), (8, .int (0 : Int32)), (2, .int (0 : Int32)), (0, .ref 41), (17, .ref 116), (16, .ref 114), (7, .ref 113), (6, .ref 112), (5, .ref 111), (4, .ref 110), (3, .ref 109), (1, .ref 107)], none)) :: (108, (0, 7, [(1, .int (28 : Int32)), (6, .int (1024 : Int32)), (5, .int (1 : Int32)), (4, .int (1 : Int32)), (3, .int (0 : Int32)), (2, .int (12 : Int32)), (0, .int (10 : Int32))], some (.int (0 : Int32)))) :: w_T0) m) (hQ : ∀ m, w_ok 6 xs 168 63950 ((106, (12, 18, [(15, .int (0 : Int32)), (14, .int (0 : Int32)), (13, .int (0 : Int32)), (12, .int (0 : Int32)), (11, .int (0 : Int32)), (10, .int (0 : Int32)), (9, .long (0 : Int64)), (8, .int (0 : Int32)), (2, .int (0 : Int32)), (0, .ref 41), (17, .ref 116), (16, .ref 114), (7, .ref 113), (6, .ref 112), (5, .ref 111), (4, .ref 110), (3, .ref 109), (1, .ref 107)], none)) :: (108, (0, 7, [(1, .int (29 : Int32)), (6, .int (1024 : Int32)), (5, .int (1 : Int32)), (4, .int (1 : Int32)), (3, .int (0 : Int32)), (2, .int (12 : Int32)), (0, .int (10 : Int32))], some (.int (0 : Int32)))) :: w_T0) m → z_W 999 146 2 [(0, .ref 39), (1, .int (xs 1)), (2, .int (30 : Int32))] [] m Q) : z_W 999 146 2 [(0, .ref 39), (1, .int (xs 1)), (2, .int (29 : Int32))] [] m Q := by
  refine w_p h_m146 5 (pc' := 10) (L' := [(0, .ref 39), (1, .int (xs 1)), (2, .int (29 : Int32))]) (st' := [.int (29 : Int32), .ref 39]) rfl ?_
  refine w_cv (H.t rfl) (pc' := 13) (L' := [(0, .ref 39), (1, .int (xs 1)), (2, .int (29 : Int32))]) (rest := []) (Ps := [.int (29 : Int32)]) (L0 := [(0, .ref 39), (1, .int (29 : Int32))]) h_m146 (z_at.mk 3 rfl rfl) (Or.inl ⟨rfl, rfl⟩) rfl rfl (by decide) (by decide) rfl rfl rfl rfl rfl rfl (by decide) rfl rfl rfl ?_
  refine w_p h_m145 1 (pc' := 1) (L' := [(0, .ref 39), (1, .int (29 : Int32))]) (st' := [.ref 39]) rfl ?_
  refine w_gf H (pc' := 4) (L' := [(0, .ref 39), (1, .int (29 : Int32))]) h_m145 (z_at.mk 3 rfl rfl) rfl (u := .ref 106) rfl rfl rfl ?_
  refine w_cv (H.t rfl) (pc' := 7) (L' := [(0, .ref 39), (1, .int (29 : Int32))]) (rest := []) (Ps := []) (L0 := [(0, .ref 106)]) h_m145 (z_at.mk 3 rfl rfl) (Or.inl ⟨rfl, rfl⟩) rfl rfl (by decide) (by decide) rfl rfl rfl rfl rfl rfl (by decide) rfl rfl rfl ?_
  refine w_p h_m20 2 (pc' := 2) (L' := [(0, .ref 106)]) (st' := [.int (0 : Int32), .ref 106]) rfl ?_
  refine w_pf H (12, 18, [(2, .int (0 : Int32)), (15, .int (0 : Int32)), (14, .int (0 : Int32)), (13, .int (0 : Int32)), (12, .int (0 : Int32)), (11, .int (0 : Int32)), (10, .int (0 : Int32)), (9, .long (0 : Int64)), (8, .int (0 : Int32)), (0, .ref 41), (17, .ref 116), (16, .ref 114), (7, .ref 113), (6, .ref 112), (5, .ref 111), (4, .ref 110), (3, .ref 109), (1, .ref 107)], none) (pc' := 5) (L' := [(0, .ref 106)]) h_m20 (z_at.mk 3 rfl rfl) rfl (by decide) rfl (Or.inl rfl) rfl rfl rfl ?_
  clear H m; intro m H
  refine w_p h_m20 2 (pc' := 7) (L' := [(0, .ref 106)]) (st' := [.int (0 : Int32), .ref 106]) rfl ?_
  refine w_pf H (12, 18, [(8, .int (0 : Int32)), (2, .int (0 : Int32)), (15, .int (0 : Int32)), (14, .int (0 : Int32)), (13, .int (0 : Int32)), (12, .int (0 : Int32)), (11, .int (0 : Int32)), (10, .int (0 : Int32)), (9, .long (0 : Int64)), (0, .ref 41), (17, .ref 116), (16, .ref 114), (7, .ref 113), (6, .ref 112), (5, .ref 111), (4, .ref 110), (3, .ref 109), (1, .ref 107)], none) (pc' := 10) (L' := [(0, .ref 106)]) h_m20 (z_at.mk 3 rfl rfl) rfl (by decide) rfl (Or.inl rfl) rfl rfl rfl ?_
  clear H m; intro m H
  refine w_p h_m20 2 (pc' := 12) (L' := [(0, .ref 106)]) (st' := [.long (0 : Int64), .ref 106]) rfl ?_
  refine w_pf H (12, 18, [(9, .long (0 : Int64)), (8, .int (0 : Int32)), (2, .int (0 : Int32)), (15, .int (0 : Int32)), (14, .int (0 : Int32)), (13, .int (0 : Int32)), (12, .int (0 : Int32)), (11, .int (0 : Int32)), (10, .int (0 : Int32)), (0, .ref 41), (17, .ref 116), (16, .ref 114), (7, .ref 113), (6, .ref 112), (5, .ref 111), (4, .ref 110), (3, .ref 109), (1, .ref 107)], none) (pc' := 15) (L' := [(0, .ref 106)]) h_m20 (z_at.mk 3 rfl rfl) rfl (by decide) rfl (Or.inl rfl) rfl rfl rfl ?_
  clear H m; intro m H
  refine w_p h_m20 2 (pc' := 17) (L' := [(0, .ref 106)]) (st' := [.int (0 : Int32), .ref 106]) rfl ?_
  refine w_pf H (12, 18, [(10, .int (0 : Int32)), (9, .long (0 : Int64)), (8, .int (0 : Int32)), (2, .int (0 : Int32)), (15, .int (0 : Int32)), (14, .int (0 : Int32)), (13, .int (0 : Int32)), (12, .int (0 : Int32)), (11, .int (0 : Int32)), (0, .ref 41), (17, .ref 116), (16, .ref 114), (7, .ref 113), (6, .ref 112), (5, .ref 111), (4, .ref 110), (3, .ref 109), (1, .ref 107)], none) (pc' := 20) (L' := [(0, .ref 106)]) h_m20 (z_at.mk 3 rfl rfl) rfl (by decide) rfl (Or.inl rfl) rfl rfl rfl ?_
  clear H m; intro m H
  refine w_p h_m20 2 (pc' := 22) (L' := [(0, .ref 106)]) (st' := [.int (0 : Int32), .ref 106]) rfl ?_
  refine w_pf H (12, 18, [(11, .int (0 : Int32)), (10, .int (0 : Int32)), (9, .long (0 : Int64)), (8, .int (0 : Int32)), (2, .int (0 : Int32)), (15, .int (0 : Int32)), (14, .int (0 : Int32)), (13, .int (0 : Int32)), (12, .int (0 : Int32)), (0, .ref 41), (17, .ref 116), (16, .ref 114), (7, .ref 113), (6, .ref 112), (5, .ref 111), (4, .ref 110), (3, .ref 109), (1, .ref 107)], none) (pc' := 25) (L' := [(0, .ref 106)]) h_m20 (z_at.mk 3 rfl rfl) rfl (by decide) rfl (Or.inl rfl) rfl rfl rfl ?_
  clear H m; intro m H
  refine w_p h_m20 2 (pc' := 27) (L' := [(0, .ref 106)]) (st' := [.int (0 : Int32), .ref 106]) rfl ?_
  refine w_pf H (12, 18, [(12, .int (0 : Int32)), (11, .int (0 : Int32)), (10, .int (0 : Int32)), (9, .long (0 : Int64)), (8, .int (0 : Int32)), (2, .int (0 : Int32)), (15, .int (0 : Int32)), (14, .int (0 : Int32)), (13, .int (0 : Int32)), (0, .ref 41), (17, .ref 116), (16, .ref 114), (7, .ref 113), (6, .ref 112), (5, .ref 111), (4, .ref 110), (3, .ref 109), (1, .ref 107)], none) (pc' := 30) (L' := [(0, .ref 106)]) h_m20 (z_at.mk 3 rfl rfl) rfl (by decide) rfl (Or.inl rfl) rfl rfl rfl ?_
  clear H m; intro m H
  refine w_p h_m20 2 (pc' := 32) (L' := [(0, .ref 106)]) (st' := [.int (0 : Int32), .ref 106]) rfl ?_
  refine w_pf H (12, 18, [(13, .int (0 : Int32)), (12, .int (0 : Int32)), (11, .int (0 : Int32)), (10, .int (0 : Int32)), (9, .long (0 : Int64)), (8, .int (0 : Int32)), (2, .int (0 : Int32)), (15, .int (0 : Int32)), (14, .int (0 : Int32)), (0, .ref 41), (17, .ref 116), (16, .ref 114), (7, .ref 113), (6, .ref 112), (5, .ref 111), (4, .ref 110), (3, .ref 109), (1, .ref 107)], none) (pc' := 35) (L' := [(0, .ref 106)]) h_m20 (z_at.mk 3 rfl rfl) rfl (by decide) rfl (Or.inl rfl) rfl rfl rfl ?_
  clear H m; intro m H
  refine w_p h_m20 2 (pc' := 37) (L' := [(0, .ref 106)]) (st' := [.int (0 : Int32), .ref 106]) rfl ?_
  refine w_pf H (12, 18, [(14, .int (0 : Int32)), (13, .int (0 : Int32)), (12, .int (0 : Int32)), (11, .int (0 : Int32)), (10, .int (0 : Int32)), (9, .long (0 : Int64)), (8, .int (0 : Int32)), (2, .int (0 : Int32)), (15, .int (0 : Int32)), (0, .ref 41), (17, .ref 116), (16, .ref 114), (7, .ref 113), (6, .ref 112), (5, .ref 111), (4, .ref 110), (3, .ref 109), (1, .ref 107)], none) (pc' := 40) (L' := [(0, .ref 106)]) h_m20 (z_at.mk 3 rfl rfl) rfl (by decide) rfl (Or.inl rfl) rfl rfl rfl ?_
  clear H m; intro m H
  refine w_p h_m20 2 (pc' := 42) (L' := [(0, .ref 106)]) (st' := [.int (0 : Int32), .ref 106]) rfl ?_
  refine w_pf H (12, 18, [(15, .int (0 : Int32)), (14, .int (0 : Int32)), (13, .int (0 : Int32)), (12, .int (0 : Int32)), (11, .int (0 : Int32)), (10, .int (0 : Int32)), (9, .long (0 : Int64)), (8, .int (0 : Int32)), (2, .int (0 : Int32)), (0, .ref 41), (17, .ref 116), (16, .ref 114), (7, .ref 113), (6, .ref 112), (5, .ref 111), (4, .ref 110), (3, .ref 109), (1, .ref 107)], none) (pc' := 45) (L' := [(0, .ref 106)]) h_m20 (z_at.mk 3 rfl rfl) rfl (by decide) rfl (Or.inl rfl) rfl rfl rfl ?_
  clear H m; intro m H
  refine w_rv h_m20 (z_at.mk 1 rfl rfl) rfl ?_
  show z_W 998 145 7 [(0, .ref 39), (1, .int (29 : Int32))] [] m _
  refine w_p h_m145 1 (pc' := 8) (L' := [(0, .ref 39), (1, .int (29 : Int32))]) (st' := [.ref 39]) rfl ?_
  refine w_gf H (pc' := 11) (L' := [(0, .ref 39), (1, .int (29 : Int32))]) h_m145 (z_at.mk 3 rfl rfl) rfl (u := .ref 106) rfl rfl rfl ?_
  refine w_gf H (pc' := 14) (L' := [(0, .ref 39), (1, .int (29 : Int32))]) h_m145 (z_at.mk 3 rfl rfl) rfl (u := .ref 107) rfl rfl rfl ?_
  refine w_p h_m145 1 (pc' := 15) (L' := [(0, .ref 39), (1, .int (29 : Int32))]) (st' := [.ref 39, .ref 107]) rfl ?_
  refine w_gf H (pc' := 18) (L' := [(0, .ref 39), (1, .int (29 : Int32))]) h_m145 (z_at.mk 3 rfl rfl) rfl (u := .ref 40) rfl rfl rfl ?_
  refine w_gf H (pc' := 21) (L' := [(0, .ref 39), (1, .int (29 : Int32))]) h_m145 (z_at.mk 3 rfl rfl) rfl (u := .ref 48) rfl rfl rfl ?_
  refine w_gf H (pc' := 24) (L' := [(0, .ref 39), (1, .int (29 : Int32))]) h_m145 (z_at.mk 3 rfl rfl) rfl (u := .ref 49) rfl rfl rfl ?_
  refine w_cv (H.t rfl) (pc' := 27) (L' := [(0, .ref 39), (1, .int (29 : Int32))]) (rest := []) (Ps := [.ref 49]) (L0 := [(0, .ref 107), (1, .ref 49)]) h_m145 (z_at.mk 3 rfl rfl) (Or.inl ⟨rfl, rfl⟩) rfl rfl (by decide) (by decide) rfl rfl rfl rfl rfl rfl (by decide) rfl rfl rfl ?_
  refine w_p h_m74 1 (pc' := 1) (L' := [(0, .ref 107), (1, .ref 49)]) (st' := [.ref 49]) rfl ?_
  refine w_gf H (pc' := 4) (L' := [(0, .ref 107), (1, .ref 49)]) h_m74 (z_at.mk 3 rfl rfl) rfl (u := .ref 50) rfl rfl rfl ?_
  refine w_p h_m74 2 (pc' := 6) (L' := [(0, .ref 107), (1, .ref 49)]) (st' := [.ref 107, .int (0 : Int32), .ref 50]) rfl ?_
  refine w_gf H (pc' := 9) (L' := [(0, .ref 107), (1, .ref 49)]) h_m74 (z_at.mk 3 rfl rfl) rfl (u := .ref 108) rfl rfl rfl ?_
  refine w_p h_m74 2 (pc' := 12) (L' := [(0, .ref 107), (1, .ref 49)]) (st' := [.int (7 : Int32), .int (0 : Int32), .ref 108, .int (0 : Int32), .ref 50]) rfl ?_
  refine w_cpf H (ra := (0, 7, [(6, .int (1024 : Int32)), (5, .int (1 : Int32)), (4, .int (1 : Int32)), (3, .int (0 : Int32)), (2, .int (12 : Int32)), (1, .int (40 : Int32)), (0, .int (10 : Int32))], some (.int (0 : Int32)))) (pc' := 15) (L' := [(0, .ref 107), (1, .ref 49)]) h_m74 (z_at.mk 3 rfl rfl) rfl (z_cat_le 0 rfl (by decide)) rfl rfl rfl rfl (by decide) rfl rfl ?_
  clear H m; intro m H
  refine w_rv h_m74 (z_at.mk 1 rfl rfl) rfl ?_
  show z_W 998 145 27 [(0, .ref 39), (1, .int (29 : Int32))] [] m _
  refine w_p h_m145 1 (pc' := 28) (L' := [(0, .ref 39), (1, .int (29 : Int32))]) (st' := [.ref 39]) rfl ?_
  refine w_gf H (pc' := 31) (L' := [(0, .ref 39), (1, .int (29 : Int32))]) h_m145 (z_at.mk 3 rfl rfl) rfl (u := .ref 106) rfl rfl rfl ?_
  refine w_gf H (pc' := 34) (L' := [(0, .ref 39), (1, .int (29 : Int32))]) h_m145 (z_at.mk 3 rfl rfl) rfl (u := .ref 107) rfl rfl rfl ?_
  refine w_p h_m145 2 (pc' := 36) (L' := [(0, .ref 39), (1, .int (29 : Int32))]) (st' := [.int (29 : Int32), .int (1 : Int32), .ref 107]) rfl ?_
  refine w_cv (H.t rfl) (pc' := 39) (L' := [(0, .ref 39), (1, .int (29 : Int32))]) (rest := []) (Ps := [.int (1 : Int32), .int (29 : Int32)]) (L0 := [(0, .ref 107), (1, .int (1 : Int32)), (2, .int (29 : Int32))]) h_m145 (z_at.mk 3 rfl rfl) (Or.inl ⟨rfl, rfl⟩) rfl rfl (by decide) (by decide) rfl rfl rfl rfl rfl rfl (by decide) rfl rfl rfl ?_
  refine w_p h_m73 6 (pc' := 11) (L' := [(0, .ref 107), (1, .int (1 : Int32)), (2, .int (29 : Int32))]) (st' := [.ref 107]) rfl ?_
  refine w_gf H (pc' := 14) (L' := [(0, .ref 107), (1, .int (1 : Int32)), (2, .int (29 : Int32))]) h_m73 (z_at.mk 3 rfl rfl) rfl (u := .ref 108) rfl rfl rfl ?_
  refine w_p h_m73 2 (pc' := 16) (L' := [(0, .ref 107), (1, .int (1 : Int32)), (2, .int (29 : Int32))]) (st' := [.int (29 : Int32), .int (1 : Int32), .ref 108]) rfl ?_
  refine w_as H (t := 0) (j := 1) (u := .int (29 : Int32)) (0, 7, [(1, .int (29 : Int32)), (6, .int (1024 : Int32)), (5, .int (1 : Int32)), (4, .int (1 : Int32)), (3, .int (0 : Int32)), (2, .int (12 : Int32)), (0, .int (10 : Int32))], some (.int (0 : Int32))) (pc' := 17) (L' := []) h_m73 (z_at.mk 1 rfl rfl) rfl rfl (w_ui _ _ (by decide)) rfl rfl rfl rfl ?_
  clear H m; intro m H
  refine w_rv h_m73 (z_at.mk 1 rfl rfl) rfl ?_
  show z_W 998 145 39 [(0, .ref 39), (1, .int (29 : Int32))] [] m _
  refine w_p h_m145 4 (pc' := 43) (L' := [(0, .ref 39), (2, .int (0 : Int32))]) (st' := [.ref 39, .int (0 : Int32)]) rfl ?_
  refine w_gf H (pc' := 46) (L' := [(0, .ref 39), (2, .int (0 : Int32))]) h_m145 (z_at.mk 3 rfl rfl) rfl (u := .ref 40) rfl rfl rfl ?_
  refine w_gf H (pc' := 49) (L' := [(0, .ref 39), (2, .int (0 : Int32))]) h_m145 (z_at.mk 3 rfl rfl) rfl (u := .ref 63) rfl rfl rfl ?_
  refine w_gf H (pc' := 52) (L' := [(0, .ref 39), (2, .int (0 : Int32))]) h_m145 (z_at.mk 3 rfl rfl) rfl (u := .int (0 : Int32)) rfl rfl rfl ?_
  refine w_p h_m145 1 (pc' := 79) (L' := [(0, .ref 39), (2, .int (0 : Int32))]) (st' := []) rfl ?_
  refine w_rv h_m145 (z_at.mk 1 rfl rfl) rfl ?_
  show z_W 999 146 13 [(0, .ref 39), (1, .int (xs 1)), (2, .int (29 : Int32))] [] m _
  refine w_p h_m146 1 (pc' := 14) (L' := [(0, .ref 39), (1, .int (xs 1)), (2, .int (29 : Int32))]) (st' := [.ref 39]) rfl ?_
  refine w_gf H (pc' := 17) (L' := [(0, .ref 39), (1, .int (xs 1)), (2, .int (29 : Int32))]) h_m146 (z_at.mk 3 rfl rfl) rfl (u := .ref 106) rfl rfl rfl ?_
  refine w_gf H (pc' := 20) (L' := [(0, .ref 39), (1, .int (xs 1)), (2, .int (29 : Int32))]) h_m146 (z_at.mk 3 rfl rfl) rfl (u := .int (0 : Int32)) rfl rfl rfl ?_
  refine w_p h_m146 1 (pc' := 21) (L' := [(0, .ref 39), (1, .int (xs 1)), (2, .int (29 : Int32))]) (st' := [.int (xs 1), .int (0 : Int32)]) rfl ?_
  refine w_t2 (pc' := 26) (L' := [(0, .ref 39), (1, .int (xs 1)), (2, .int (29 : Int32))]) h_m146 (z_at.mk 3 rfl rfl) rfl (zc (a := 0) (b := (xs 1).toInt) rfl rfl (decide_eq_true (by omega))) rfl rfl ?_
  refine w_p h_m146 2 (pc' := 2) (L' := [(0, .ref 39), (1, .int (xs 1)), (2, .int (30 : Int32))]) (st' := []) rfl ?_
  exact hQ m (H.subC (by decide +kernel))
set_option maxHeartbeats 400000000 in
set_option maxRecDepth 20000 in
theorem w_turn_146_30 {xs : Nat → Int32} {m : zM} {Q : Option Value → zM → Prop} (hp : (xs 1).toInt < 0) (H : w_ok 6 xs 168 63950 ((106, (12, 18, [(15, .int (0 : Int32)), (14, .int (0 : Int32)), (13, .int (0 : Int32)), (12, .int (0 : Int32)), (11, .int (0 : Int32)), (10, .int (0 : Int32)), (9, .long (0 : Int64)), (8, .int (0 : Int32)), (2, .int (0 : Int32)), (0, .ref 41), (17, .ref 116), (16, .ref 114), (7, .ref 113), (6, .ref 112), (5, .ref 111), (4, .ref 110), (3, .ref 109), (1, .ref 107)], none)) :: (108, (0, 7, [(1, .int (29 : Int32)), (6, .int (1024 : Int32)), (5, .int (1 : Int32)), (4, .int (1 : Int32)), (3, .int (0 : Int32)), (2, .int (12 : Int32)), (0, .int (10 : Int32))], some (.int (0 : Int32)))) :: w_T0) m) (hQ : ∀ m, w_ok 6 xs 168 63950 ((106, (12, 18, [(15, .int (0 : Int32)), (14, .int (0 : Int32)), (13, .int (0 : Int32)), (12, .int (0 : Int32)), (11, .int (0 : Int32)), (10, .int (0 : Int32)), (9, .long (0 : Int64)), (8, .int (0 : Int32)), (2, .int (0 : Int32)), (0, .ref 41), (17, .ref 116), (16, .ref 114), (7, .ref 113), (6, .ref 112), (5, .ref 111), (4, .ref 110), (3, .ref 109), (1, .ref 107)], none)) :: (108, (0, 7, [(1, .int (30 : Int32)), (6, .int (1024 : Int32)), (5, .int (1 : Int32)), (4, .int (1 : Int32)), (3, .int (0 : Int32)), (2, .int (12 : Int32)), (0, .int (10 : Int32))], some (.int (0 : Int32)))) :: w_T0) m → z_W 999 146 2 [(0, .ref 39), (1, .int (xs 1)), (2, .int (31 : Int32))] [] m Q) : z_W 999 146 2 [(0, .ref 39), (1, .int (xs 1)), (2, .int (30 : Int32))] [] m Q := by
  refine w_p h_m146 5 (pc' := 10) (L' := [(0, .ref 39), (1, .int (xs 1)), (2, .int (30 : Int32))]) (st' := [.int (30 : Int32), .ref 39]) rfl ?_
  refine w_cv (H.t rfl) (pc' := 13) (L' := [(0, .ref 39), (1, .int (xs 1)), (2, .int (30 : Int32))]) (rest := []) (Ps := [.int (30 : Int32)]) (L0 := [(0, .ref 39), (1, .int (30 : Int32))]) h_m146 (z_at.mk 3 rfl rfl) (Or.inl ⟨rfl, rfl⟩) rfl rfl (by decide) (by decide) rfl rfl rfl rfl rfl rfl (by decide) rfl rfl rfl ?_
  refine w_p h_m145 1 (pc' := 1) (L' := [(0, .ref 39), (1, .int (30 : Int32))]) (st' := [.ref 39]) rfl ?_
  refine w_gf H (pc' := 4) (L' := [(0, .ref 39), (1, .int (30 : Int32))]) h_m145 (z_at.mk 3 rfl rfl) rfl (u := .ref 106) rfl rfl rfl ?_
  refine w_cv (H.t rfl) (pc' := 7) (L' := [(0, .ref 39), (1, .int (30 : Int32))]) (rest := []) (Ps := []) (L0 := [(0, .ref 106)]) h_m145 (z_at.mk 3 rfl rfl) (Or.inl ⟨rfl, rfl⟩) rfl rfl (by decide) (by decide) rfl rfl rfl rfl rfl rfl (by decide) rfl rfl rfl ?_
  refine w_p h_m20 2 (pc' := 2) (L' := [(0, .ref 106)]) (st' := [.int (0 : Int32), .ref 106]) rfl ?_
  refine w_pf H (12, 18, [(2, .int (0 : Int32)), (15, .int (0 : Int32)), (14, .int (0 : Int32)), (13, .int (0 : Int32)), (12, .int (0 : Int32)), (11, .int (0 : Int32)), (10, .int (0 : Int32)), (9, .long (0 : Int64)), (8, .int (0 : Int32)), (0, .ref 41), (17, .ref 116), (16, .ref 114), (7, .ref 113), (6, .ref 112), (5, .ref 111), (4, .ref 110), (3, .ref 109), (1, .ref 107)], none) (pc' := 5) (L' := [(0, .ref 106)]) h_m20 (z_at.mk 3 rfl rfl) rfl (by decide) rfl (Or.inl rfl) rfl rfl rfl ?_
  clear H m; intro m H
  refine w_p h_m20 2 (pc' := 7) (L' := [(0, .ref 106)]) (st' := [.int (0 : Int32), .ref 106]) rfl ?_
  refine w_pf H (12, 18, [(8, .int (0 : Int32)), (2, .int (0 : Int32)), (15, .int (0 : Int32)), (14, .int (0 : Int32)), (13, .int (0 : Int32)), (12, .int (0 : Int32)), (11, .int (0 : Int32)), (10, .int (0 : Int32)), (9, .long (0 : Int64)), (0, .ref 41), (17, .ref 116), (16, .ref 114), (7, .ref 113), (6, .ref 112), (5, .ref 111), (4, .ref 110), (3, .ref 109), (1, .ref 107)], none) (pc' := 10) (L' := [(0, .ref 106)]) h_m20 (z_at.mk 3 rfl rfl) rfl (by decide) rfl (Or.inl rfl) rfl rfl rfl ?_
  clear H m; intro m H
  refine w_p h_m20 2 (pc' := 12) (L' := [(0, .ref 106)]) (st' := [.long (0 : Int64), .ref 106]) rfl ?_
  refine w_pf H (12, 18, [(9, .long (0 : Int64)), (8, .int (0 : Int32)), (2, .int (0 : Int32)), (15, .int (0 : Int32)), (14, .int (0 : Int32)), (13, .int (0 : Int32)), (12, .int (0 : Int32)), (11, .int (0 : Int32)), (10, .int (0 : Int32)), (0, .ref 41), (17, .ref 116), (16, .ref 114), (7, .ref 113), (6, .ref 112), (5, .ref 111), (4, .ref 110), (3, .ref 109), (1, .ref 107)], none) (pc' := 15) (L' := [(0, .ref 106)]) h_m20 (z_at.mk 3 rfl rfl) rfl (by decide) rfl (Or.inl rfl) rfl rfl rfl ?_
  clear H m; intro m H
  refine w_p h_m20 2 (pc' := 17) (L' := [(0, .ref 106)]) (st' := [.int (0 : Int32), .ref 106]) rfl ?_
  refine w_pf H (12, 18, [(10, .int (0 : Int32)), (9, .long (0 : Int64)), (8, .int (0 : Int32)), (2, .int (0 : Int32)), (15, .int (0 : Int32)), (14, .int (0 : Int32)), (13, .int (0 : Int32)), (12, .int (0 : Int32)), (11, .int (0 : Int32)), (0, .ref 41), (17, .ref 116), (16, .ref 114), (7, .ref 113), (6, .ref 112), (5, .ref 111), (4, .ref 110), (3, .ref 109), (1, .ref 107)], none) (pc' := 20) (L' := [(0, .ref 106)]) h_m20 (z_at.mk 3 rfl rfl) rfl (by decide) rfl (Or.inl rfl) rfl rfl rfl ?_
  clear H m; intro m H
  refine w_p h_m20 2 (pc' := 22) (L' := [(0, .ref 106)]) (st' := [.int (0 : Int32), .ref 106]) rfl ?_
  refine w_pf H (12, 18, [(11, .int (0 : Int32)), (10, .int (0 : Int32)), (9, .long (0 : Int64)), (8, .int (0 : Int32)), (2, .int (0 : Int32)), (15, .int (0 : Int32)), (14, .int (0 : Int32)), (13, .int (0 : Int32)), (12, .int (0 : Int32)), (0, .ref 41), (17, .ref 116), (16, .ref 114), (7, .ref 113), (6, .ref 112), (5, .ref 111), (4, .ref 110), (3, .ref 109), (1, .ref 107)], none) (pc' := 25) (L' := [(0, .ref 106)]) h_m20 (z_at.mk 3 rfl rfl) rfl (by decide) rfl (Or.inl rfl) rfl rfl rfl ?_
  clear H m; intro m H
  refine w_p h_m20 2 (pc' := 27) (L' := [(0, .ref 106)]) (st' := [.int (0 : Int32), .ref 106]) rfl ?_
  refine w_pf H (12, 18, [(12, .int (0 : Int32)), (11, .int (0 : Int32)), (10, .int (0 : Int32)), (9, .long (0 : Int64)), (8, .int (0 : Int32)), (2, .int (0 : Int32)), (15, .int (0 : Int32)), (14, .int (0 : Int32)), (13, .int (0 : Int32)), (0, .ref 41), (17, .ref 116), (16, .ref 114), (7, .ref 113), (6, .ref 112), (5, .ref 111), (4, .ref 110), (3, .ref 109), (1, .ref 107)], none) (pc' := 30) (L' := [(0, .ref 106)]) h_m20 (z_at.mk 3 rfl rfl) rfl (by decide) rfl (Or.inl rfl) rfl rfl rfl ?_
  clear H m; intro m H
  refine w_p h_m20 2 (pc' := 32) (L' := [(0, .ref 106)]) (st' := [.int (0 : Int32), .ref 106]) rfl ?_
  refine w_pf H (12, 18, [(13, .int (0 : Int32)), (12, .int (0 : Int32)), (11, .int (0 : Int32)), (10, .int (0 : Int32)), (9, .long (0 : Int64)), (8, .int (0 : Int32)), (2, .int (0 : Int32)), (15, .int (0 : Int32)), (14, .int (0 : Int32)), (0, .ref 41), (17, .ref 116), (16, .ref 114), (7, .ref 113), (6, .ref 112), (5, .ref 111), (4, .ref 110), (3, .ref 109), (1, .ref 107)], none) (pc' := 35) (L' := [(0, .ref 106)]) h_m20 (z_at.mk 3 rfl rfl) rfl (by decide) rfl (Or.inl rfl) rfl rfl rfl ?_
  clear H m; intro m H
  refine w_p h_m20 2 (pc' := 37) (L' := [(0, .ref 106)]) (st' := [.int (0 : Int32), .ref 106]) rfl ?_
  refine w_pf H (12, 18, [(14, .int (0 : Int32)), (13, .int (0 : Int32)), (12, .int (0 : Int32)), (11, .int (0 : Int32)), (10, .int (0 : Int32)), (9, .long (0 : Int64)), (8, .int (0 : Int32)), (2, .int (0 : Int32)), (15, .int (0 : Int32)), (0, .ref 41), (17, .ref 116), (16, .ref 114), (7, .ref 113), (6, .ref 112), (5, .ref 111), (4, .ref 110), (3, .ref 109), (1, .ref 107)], none) (pc' := 40) (L' := [(0, .ref 106)]) h_m20 (z_at.mk 3 rfl rfl) rfl (by decide) rfl (Or.inl rfl) rfl rfl rfl ?_
  clear H m; intro m H
  refine w_p h_m20 2 (pc' := 42) (L' := [(0, .ref 106)]) (st' := [.int (0 : Int32), .ref 106]) rfl ?_
  refine w_pf H (12, 18, [(15, .int (0 : Int32)), (14, .int (0 : Int32)), (13, .int (0 : Int32)), (12, .int (0 : Int32)), (11, .int (0 : Int32)), (10, .int (0 : Int32)), (9, .long (0 : Int64)), (8, .int (0 : Int32)), (2, .int (0 : Int32)), (0, .ref 41), (17, .ref 116), (16, .ref 114), (7, .ref 113), (6, .ref 112), (5, .ref 111), (4, .ref 110), (3, .ref 109), (1, .ref 107)], none) (pc' := 45) (L' := [(0, .ref 106)]) h_m20 (z_at.mk 3 rfl rfl) rfl (by decide) rfl (Or.inl rfl) rfl rfl rfl ?_
  clear H m; intro m H
  refine w_rv h_m20 (z_at.mk 1 rfl rfl) rfl ?_
  show z_W 998 145 7 [(0, .ref 39), (1, .int (30 : Int32))] [] m _
  refine w_p h_m145 1 (pc' := 8) (L' := [(0, .ref 39), (1, .int (30 : Int32))]) (st' := [.ref 39]) rfl ?_
  refine w_gf H (pc' := 11) (L' := [(0, .ref 39), (1, .int (30 : Int32))]) h_m145 (z_at.mk 3 rfl rfl) rfl (u := .ref 106) rfl rfl rfl ?_
  refine w_gf H (pc' := 14) (L' := [(0, .ref 39), (1, .int (30 : Int32))]) h_m145 (z_at.mk 3 rfl rfl) rfl (u := .ref 107) rfl rfl rfl ?_
  refine w_p h_m145 1 (pc' := 15) (L' := [(0, .ref 39), (1, .int (30 : Int32))]) (st' := [.ref 39, .ref 107]) rfl ?_
  refine w_gf H (pc' := 18) (L' := [(0, .ref 39), (1, .int (30 : Int32))]) h_m145 (z_at.mk 3 rfl rfl) rfl (u := .ref 40) rfl rfl rfl ?_
  refine w_gf H (pc' := 21) (L' := [(0, .ref 39), (1, .int (30 : Int32))]) h_m145 (z_at.mk 3 rfl rfl) rfl (u := .ref 48) rfl rfl rfl ?_
  refine w_gf H (pc' := 24) (L' := [(0, .ref 39), (1, .int (30 : Int32))]) h_m145 (z_at.mk 3 rfl rfl) rfl (u := .ref 49) rfl rfl rfl ?_
  refine w_cv (H.t rfl) (pc' := 27) (L' := [(0, .ref 39), (1, .int (30 : Int32))]) (rest := []) (Ps := [.ref 49]) (L0 := [(0, .ref 107), (1, .ref 49)]) h_m145 (z_at.mk 3 rfl rfl) (Or.inl ⟨rfl, rfl⟩) rfl rfl (by decide) (by decide) rfl rfl rfl rfl rfl rfl (by decide) rfl rfl rfl ?_
  refine w_p h_m74 1 (pc' := 1) (L' := [(0, .ref 107), (1, .ref 49)]) (st' := [.ref 49]) rfl ?_
  refine w_gf H (pc' := 4) (L' := [(0, .ref 107), (1, .ref 49)]) h_m74 (z_at.mk 3 rfl rfl) rfl (u := .ref 50) rfl rfl rfl ?_
  refine w_p h_m74 2 (pc' := 6) (L' := [(0, .ref 107), (1, .ref 49)]) (st' := [.ref 107, .int (0 : Int32), .ref 50]) rfl ?_
  refine w_gf H (pc' := 9) (L' := [(0, .ref 107), (1, .ref 49)]) h_m74 (z_at.mk 3 rfl rfl) rfl (u := .ref 108) rfl rfl rfl ?_
  refine w_p h_m74 2 (pc' := 12) (L' := [(0, .ref 107), (1, .ref 49)]) (st' := [.int (7 : Int32), .int (0 : Int32), .ref 108, .int (0 : Int32), .ref 50]) rfl ?_
  refine w_cpf H (ra := (0, 7, [(6, .int (1024 : Int32)), (5, .int (1 : Int32)), (4, .int (1 : Int32)), (3, .int (0 : Int32)), (2, .int (12 : Int32)), (1, .int (40 : Int32)), (0, .int (10 : Int32))], some (.int (0 : Int32)))) (pc' := 15) (L' := [(0, .ref 107), (1, .ref 49)]) h_m74 (z_at.mk 3 rfl rfl) rfl (z_cat_le 0 rfl (by decide)) rfl rfl rfl rfl (by decide) rfl rfl ?_
  clear H m; intro m H
  refine w_rv h_m74 (z_at.mk 1 rfl rfl) rfl ?_
  show z_W 998 145 27 [(0, .ref 39), (1, .int (30 : Int32))] [] m _
  refine w_p h_m145 1 (pc' := 28) (L' := [(0, .ref 39), (1, .int (30 : Int32))]) (st' := [.ref 39]) rfl ?_
  refine w_gf H (pc' := 31) (L' := [(0, .ref 39), (1, .int (30 : Int32))]) h_m145 (z_at.mk 3 rfl rfl) rfl (u := .ref 106) rfl rfl rfl ?_
  refine w_gf H (pc' := 34) (L' := [(0, .ref 39), (1, .int (30 : Int32))]) h_m145 (z_at.mk 3 rfl rfl) rfl (u := .ref 107) rfl rfl rfl ?_
  refine w_p h_m145 2 (pc' := 36) (L' := [(0, .ref 39), (1, .int (30 : Int32))]) (st' := [.int (30 : Int32), .int (1 : Int32), .ref 107]) rfl ?_
  refine w_cv (H.t rfl) (pc' := 39) (L' := [(0, .ref 39), (1, .int (30 : Int32))]) (rest := []) (Ps := [.int (1 : Int32), .int (30 : Int32)]) (L0 := [(0, .ref 107), (1, .int (1 : Int32)), (2, .int (30 : Int32))]) h_m145 (z_at.mk 3 rfl rfl) (Or.inl ⟨rfl, rfl⟩) rfl rfl (by decide) (by decide) rfl rfl rfl rfl rfl rfl (by decide) rfl rfl rfl ?_
  refine w_p h_m73 6 (pc' := 11) (L' := [(0, .ref 107), (1, .int (1 : Int32)), (2, .int (30 : Int32))]) (st' := [.ref 107]) rfl ?_
  refine w_gf H (pc' := 14) (L' := [(0, .ref 107), (1, .int (1 : Int32)), (2, .int (30 : Int32))]) h_m73 (z_at.mk 3 rfl rfl) rfl (u := .ref 108) rfl rfl rfl ?_
  refine w_p h_m73 2 (pc' := 16) (L' := [(0, .ref 107), (1, .int (1 : Int32)), (2, .int (30 : Int32))]) (st' := [.int (30 : Int32), .int (1 : Int32), .ref 108]) rfl ?_
  refine w_as H (t := 0) (j := 1) (u := .int (30 : Int32)) (0, 7, [(1, .int (30 : Int32)), (6, .int (1024 : Int32)), (5, .int (1 : Int32)), (4, .int (1 : Int32)), (3, .int (0 : Int32)), (2, .int (12 : Int32)), (0, .int (10 : Int32))], some (.int (0 : Int32))) (pc' := 17) (L' := []) h_m73 (z_at.mk 1 rfl rfl) rfl rfl (w_ui _ _ (by decide)) rfl rfl rfl rfl ?_
  clear H m; intro m H
  refine w_rv h_m73 (z_at.mk 1 rfl rfl) rfl ?_
  show z_W 998 145 39 [(0, .ref 39), (1, .int (30 : Int32))] [] m _
  refine w_p h_m145 4 (pc' := 43) (L' := [(0, .ref 39), (2, .int (0 : Int32))]) (st' := [.ref 39, .int (0 : Int32)]) rfl ?_
  refine w_gf H (pc' := 46) (L' := [(0, .ref 39), (2, .int (0 : Int32))]) h_m145 (z_at.mk 3 rfl rfl) rfl (u := .ref 40) rfl rfl rfl ?_
  refine w_gf H (pc' := 49) (L' := [(0, .ref 39), (2, .int (0 : Int32))]) h_m145 (z_at.mk 3 rfl rfl) rfl (u := .ref 63) rfl rfl rfl ?_
  refine w_gf H (pc' := 52) (L' := [(0, .ref 39), (2, .int (0 : Int32))]) h_m145 (z_at.mk 3 rfl rfl) rfl (u := .int (0 : Int32)) rfl rfl rfl ?_
  refine w_p h_m145 1 (pc' := 79) (L' := [(0, .ref 39), (2, .int (0 : Int32))]) (st' := []) rfl ?_
  refine w_rv h_m145 (z_at.mk 1 rfl rfl) rfl ?_
  show z_W 999 146 13 [(0, .ref 39), (1, .int (xs 1)), (2, .int (30 : Int32))] [] m _
  refine w_p h_m146 1 (pc' := 14) (L' := [(0, .ref 39), (1, .int (xs 1)), (2, .int (30 : Int32))]) (st' := [.ref 39]) rfl ?_
  refine w_gf H (pc' := 17) (L' := [(0, .ref 39), (1, .int (xs 1)), (2, .int (30 : Int32))]) h_m146 (z_at.mk 3 rfl rfl) rfl (u := .ref 106) rfl rfl rfl ?_
  refine w_gf H (pc' := 20) (L' := [(0, .ref 39), (1, .int (xs 1)), (2, .int (30 : Int32))]) h_m146 (z_at.mk 3 rfl rfl) rfl (u := .int (0 : Int32)) rfl rfl rfl ?_
  refine w_p h_m146 1 (pc' := 21) (L' := [(0, .ref 39), (1, .int (xs 1)), (2, .int (30 : Int32))]) (st' := [.int (xs 1), .int (0 : Int32)]) rfl ?_
  refine w_t2 (pc' := 26) (L' := [(0, .ref 39), (1, .int (xs 1)), (2, .int (30 : Int32))]) h_m146 (z_at.mk 3 rfl rfl) rfl (zc (a := 0) (b := (xs 1).toInt) rfl rfl (decide_eq_true (by omega))) rfl rfl ?_
  refine w_p h_m146 2 (pc' := 2) (L' := [(0, .ref 39), (1, .int (xs 1)), (2, .int (31 : Int32))]) (st' := []) rfl ?_
  exact hQ m (H.subC (by decide +kernel))
set_option maxHeartbeats 400000000 in
set_option maxRecDepth 20000 in
theorem w_turn_146_31 {xs : Nat → Int32} {m : zM} {Q : Option Value → zM → Prop} (hp : (xs 1).toInt < 0) (H : w_ok 6 xs 168 63950 ((106, (12, 18, [(15, .int (0 : Int32)), (14, .int (0 : Int32)), (13, .int (0 : Int32)), (12, .int (0 : Int32)), (11, .int (0 : Int32)), (10, .int (0 : Int32)), (9, .long (0 : Int64)), (8, .int (0 : Int32)), (2, .int (0 : Int32)), (0, .ref 41), (17, .ref 116), (16, .ref 114), (7, .ref 113), (6, .ref 112), (5, .ref 111), (4, .ref 110), (3, .ref 109), (1, .ref 107)], none)) :: (108, (0, 7, [(1, .int (30 : Int32)), (6, .int (1024 : Int32)), (5, .int (1 : Int32)), (4, .int (1 : Int32)), (3, .int (0 : Int32)), (2, .int (12 : Int32)), (0, .int (10 : Int32))], some (.int (0 : Int32)))) :: w_T0) m) (hQ : ∀ m, w_ok 6 xs 168 63950 ((106, (12, 18, [(15, .int (0 : Int32)), (14, .int (0 : Int32)), (13, .int (0 : Int32)), (12, .int (0 : Int32)), (11, .int (0 : Int32)), (10, .int (0 : Int32)), (9, .long (0 : Int64)), (8, .int (0 : Int32)), (2, .int (0 : Int32)), (0, .ref 41), (17, .ref 116), (16, .ref 114), (7, .ref 113), (6, .ref 112), (5, .ref 111), (4, .ref 110), (3, .ref 109), (1, .ref 107)], none)) :: (108, (0, 7, [(1, .int (31 : Int32)), (6, .int (1024 : Int32)), (5, .int (1 : Int32)), (4, .int (1 : Int32)), (3, .int (0 : Int32)), (2, .int (12 : Int32)), (0, .int (10 : Int32))], some (.int (0 : Int32)))) :: w_T0) m → z_W 999 146 2 [(0, .ref 39), (1, .int (xs 1)), (2, .int (32 : Int32))] [] m Q) : z_W 999 146 2 [(0, .ref 39), (1, .int (xs 1)), (2, .int (31 : Int32))] [] m Q := by
  refine w_p h_m146 5 (pc' := 10) (L' := [(0, .ref 39), (1, .int (xs 1)), (2, .int (31 : Int32))]) (st' := [.int (31 : Int32), .ref 39]) rfl ?_
  refine w_cv (H.t rfl) (pc' := 13) (L' := [(0, .ref 39), (1, .int (xs 1)), (2, .int (31 : Int32))]) (rest := []) (Ps := [.int (31 : Int32)]) (L0 := [(0, .ref 39), (1, .int (31 : Int32))]) h_m146 (z_at.mk 3 rfl rfl) (Or.inl ⟨rfl, rfl⟩) rfl rfl (by decide) (by decide) rfl rfl rfl rfl rfl rfl (by decide) rfl rfl rfl ?_
  refine w_p h_m145 1 (pc' := 1) (L' := [(0, .ref 39), (1, .int (31 : Int32))]) (st' := [.ref 39]) rfl ?_
  refine w_gf H (pc' := 4) (L' := [(0, .ref 39), (1, .int (31 : Int32))]) h_m145 (z_at.mk 3 rfl rfl) rfl (u := .ref 106) rfl rfl rfl ?_
  refine w_cv (H.t rfl) (pc' := 7) (L' := [(0, .ref 39), (1, .int (31 : Int32))]) (rest := []) (Ps := []) (L0 := [(0, .ref 106)]) h_m145 (z_at.mk 3 rfl rfl) (Or.inl ⟨rfl, rfl⟩) rfl rfl (by decide) (by decide) rfl rfl rfl rfl rfl rfl (by decide) rfl rfl rfl ?_
  refine w_p h_m20 2 (pc' := 2) (L' := [(0, .ref 106)]) (st' := [.int (0 : Int32), .ref 106]) rfl ?_
  refine w_pf H (12, 18, [(2, .int (0 : Int32)), (15, .int (0 : Int32)), (14, .int (0 : Int32)), (13, .int (0 : Int32)), (12, .int (0 : Int32)), (11, .int (0 : Int32)), (10, .int (0 : Int32)), (9, .long (0 : Int64)), (8, .int (0 : Int32)), (0, .ref 41), (17, .ref 116), (16, .ref 114), (7, .ref 113), (6, .ref 112), (5, .ref 111), (4, .ref 110), (3, .ref 109), (1, .ref 107)], none) (pc' := 5) (L' := [(0, .ref 106)]) h_m20 (z_at.mk 3 rfl rfl) rfl (by decide) rfl (Or.inl rfl) rfl rfl rfl ?_
  clear H m; intro m H
  refine w_p h_m20 2 (pc' := 7) (L' := [(0, .ref 106)]) (st' := [.int (0 : Int32), .ref 106]) rfl ?_
  refine w_pf H (12, 18, [(8, .int (0 : Int32)), (2, .int (0 : Int32)), (15, .int (0 : Int32)), (14, .int (0 : Int32)), (13, .int (0 : Int32)), (12, .int (0 : Int32)), (11, .int (0 : Int32)), (10, .int (0 : Int32)), (9, .long (0 : Int64)), (0, .ref 41), (17, .ref 116), (16, .ref 114), (7, .ref 113), (6, .ref 112), (5, .ref 111), (4, .ref 110), (3, .ref 109), (1, .ref 107)], none) (pc' := 10) (L' := [(0, .ref 106)]) h_m20 (z_at.mk 3 rfl rfl) rfl (by decide) rfl (Or.inl rfl) rfl rfl rfl ?_
  clear H m; intro m H
  refine w_p h_m20 2 (pc' := 12) (L' := [(0, .ref 106)]) (st' := [.long (0 : Int64), .ref 106]) rfl ?_
  refine w_pf H (12, 18, [(9, .long (0 : Int64)), (8, .int (0 : Int32)), (2, .int (0 : Int32)), (15, .int (0 : Int32)), (14, .int (0 : Int32)), (13, .int (0 : Int32)), (12, .int (0 : Int32)), (11, .int (0 : Int32)), (10, .int (0 : Int32)), (0, .ref 41), (17, .ref 116), (16, .ref 114), (7, .ref 113), (6, .ref 112), (5, .ref 111), (4, .ref 110), (3, .ref 109), (1, .ref 107)], none) (pc' := 15) (L' := [(0, .ref 106)]) h_m20 (z_at.mk 3 rfl rfl) rfl (by decide) rfl (Or.inl rfl) rfl rfl rfl ?_
  clear H m; intro m H
  refine w_p h_m20 2 (pc' := 17) (L' := [(0, .ref 106)]) (st' := [.int (0 : Int32), .ref 106]) rfl ?_
  refine w_pf H (12, 18, [(10, .int (0 : Int32)), (9, .long (0 : Int64)), (8, .int (0 : Int32)), (2, .int (0 : Int32)), (15, .int (0 : Int32)), (14, .int (0 : Int32)), (13, .int (0 : Int32)), (12, .int (0 : Int32)), (11, .int (0 : Int32)), (0, .ref 41), (17, .ref 116), (16, .ref 114), (7, .ref 113), (6, .ref 112), (5, .ref 111), (4, .ref 110), (3, .ref 109), (1, .ref 107)], none) (pc' := 20) (L' := [(0, .ref 106)]) h_m20 (z_at.mk 3 rfl rfl) rfl (by decide) rfl (Or.inl rfl) rfl rfl rfl ?_
  clear H m; intro m H
  refine w_p h_m20 2 (pc' := 22) (L' := [(0, .ref 106)]) (st' := [.int (0 : Int32), .ref 106]) rfl ?_
  refine w_pf H (12, 18, [(11, .int (0 : Int32)), (10, .int (0 : Int32)), (9, .long (0 : Int64)), (8, .int (0 : Int32)), (2, .int (0 : Int32)), (15, .int (0 : Int32)), (14, .int (0 : Int32)), (13, .int (0 : Int32)), (12, .int (0 : Int32)), (0, .ref 41), (17, .ref 116), (16, .ref 114), (7, .ref 113), (6, .ref 112), (5, .ref 111), (4, .ref 110), (3, .ref 109), (1, .ref 107)], none) (pc' := 25) (L' := [(0, .ref 106)]) h_m20 (z_at.mk 3 rfl rfl) rfl (by decide) rfl (Or.inl rfl) rfl rfl rfl ?_
  clear H m; intro m H
  refine w_p h_m20 2 (pc' := 27) (L' := [(0, .ref 106)]) (st' := [.int (0 : Int32), .ref 106]) rfl ?_
  refine w_pf H (12, 18, [(12, .int (0 : Int32)), (11, .int (0 : Int32)), (10, .int (0 : Int32)), (9, .long (0 : Int64)), (8, .int (0 : Int32)), (2, .int (0 : Int32)), (15, .int (0 : Int32)), (14, .int (0 : Int32)), (13, .int (0 : Int32)), (0, .ref 41), (17, .ref 116), (16, .ref 114), (7, .ref 113), (6, .ref 112), (5, .ref 111), (4, .ref 110), (3, .ref 109), (1, .ref 107)], none) (pc' := 30) (L' := [(0, .ref 106)]) h_m20 (z_at.mk 3 rfl rfl) rfl (by decide) rfl (Or.inl rfl) rfl rfl rfl ?_
  clear H m; intro m H
  refine w_p h_m20 2 (pc' := 32) (L' := [(0, .ref 106)]) (st' := [.int (0 : Int32), .ref 106]) rfl ?_
  refine w_pf H (12, 18, [(13, .int (0 : Int32)), (12, .int (0 : Int32)), (11, .int (0 : Int32)), (10, .int (0 : Int32)), (9, .long (0 : Int64)), (8, .int (0 : Int32)), (2, .int (0 : Int32)), (15, .int (0 : Int32)), (14, .int (0 : Int32)), (0, .ref 41), (17, .ref 116), (16, .ref 114), (7, .ref 113), (6, .ref 112), (5, .ref 111), (4, .ref 110), (3, .ref 109), (1, .ref 107)], none) (pc' := 35) (L' := [(0, .ref 106)]) h_m20 (z_at.mk 3 rfl rfl) rfl (by decide) rfl (Or.inl rfl) rfl rfl rfl ?_
  clear H m; intro m H
  refine w_p h_m20 2 (pc' := 37) (L' := [(0, .ref 106)]) (st' := [.int (0 : Int32), .ref 106]) rfl ?_
  refine w_pf H (12, 18, [(14, .int (0 : Int32)), (13, .int (0 : Int32)), (12, .int (0 : Int32)), (11, .int (0 : Int32)), (10, .int (0 : Int32)), (9, .long (0 : Int64)), (8, .int (0 : Int32)), (2, .int (0 : Int32)), (15, .int (0 : Int32)), (0, .ref 41), (17, .ref 116), (16, .ref 114), (7, .ref 113), (6, .ref 112), (5, .ref 111), (4, .ref 110), (3, .ref 109), (1, .ref 107)], none) (pc' := 40) (L' := [(0, .ref 106)]) h_m20 (z_at.mk 3 rfl rfl) rfl (by decide) rfl (Or.inl rfl) rfl rfl rfl ?_
  clear H m; intro m H
  refine w_p h_m20 2 (pc' := 42) (L' := [(0, .ref 106)]) (st' := [.int (0 : Int32), .ref 106]) rfl ?_
  refine w_pf H (12, 18, [(15, .int (0 : Int32)), (14, .int (0 : Int32)), (13, .int (0 : Int32)), (12, .int (0 : Int32)), (11, .int (0 : Int32)), (10, .int (0 : Int32)), (9, .long (0 : Int64)), (8, .int (0 : Int32)), (2, .int (0 : Int32)), (0, .ref 41), (17, .ref 116), (16, .ref 114), (7, .ref 113), (6, .ref 112), (5, .ref 111), (4, .ref 110), (3, .ref 109), (1, .ref 107)], none) (pc' := 45) (L' := [(0, .ref 106)]) h_m20 (z_at.mk 3 rfl rfl) rfl (by decide) rfl (Or.inl rfl) rfl rfl rfl ?_
  clear H m; intro m H
  refine w_rv h_m20 (z_at.mk 1 rfl rfl) rfl ?_
  show z_W 998 145 7 [(0, .ref 39), (1, .int (31 : Int32))] [] m _
  refine w_p h_m145 1 (pc' := 8) (L' := [(0, .ref 39), (1, .int (31 : Int32))]) (st' := [.ref 39]) rfl ?_
  refine w_gf H (pc' := 11) (L' := [(0, .ref 39), (1, .int (31 : Int32))]) h_m145 (z_at.mk 3 rfl rfl) rfl (u := .ref 106) rfl rfl rfl ?_
  refine w_gf H (pc' := 14) (L' := [(0, .ref 39), (1, .int (31 : Int32))]) h_m145 (z_at.mk 3 rfl rfl) rfl (u := .ref 107) rfl rfl rfl ?_
  refine w_p h_m145 1 (pc' := 15) (L' := [(0, .ref 39), (1, .int (31 : Int32))]) (st' := [.ref 39, .ref 107]) rfl ?_
  refine w_gf H (pc' := 18) (L' := [(0, .ref 39), (1, .int (31 : Int32))]) h_m145 (z_at.mk 3 rfl rfl) rfl (u := .ref 40) rfl rfl rfl ?_
  refine w_gf H (pc' := 21) (L' := [(0, .ref 39), (1, .int (31 : Int32))]) h_m145 (z_at.mk 3 rfl rfl) rfl (u := .ref 48) rfl rfl rfl ?_
  refine w_gf H (pc' := 24) (L' := [(0, .ref 39), (1, .int (31 : Int32))]) h_m145 (z_at.mk 3 rfl rfl) rfl (u := .ref 49) rfl rfl rfl ?_
  refine w_cv (H.t rfl) (pc' := 27) (L' := [(0, .ref 39), (1, .int (31 : Int32))]) (rest := []) (Ps := [.ref 49]) (L0 := [(0, .ref 107), (1, .ref 49)]) h_m145 (z_at.mk 3 rfl rfl) (Or.inl ⟨rfl, rfl⟩) rfl rfl (by decide) (by decide) rfl rfl rfl rfl rfl rfl (by decide) rfl rfl rfl ?_
  refine w_p h_m74 1 (pc' := 1) (L' := [(0, .ref 107), (1, .ref 49)]) (st' := [.ref 49]) rfl ?_
  refine w_gf H (pc' := 4) (L' := [(0, .ref 107), (1, .ref 49)]) h_m74 (z_at.mk 3 rfl rfl) rfl (u := .ref 50) rfl rfl rfl ?_
  refine w_p h_m74 2 (pc' := 6) (L' := [(0, .ref 107), (1, .ref 49)]) (st' := [.ref 107, .int (0 : Int32), .ref 50]) rfl ?_
  refine w_gf H (pc' := 9) (L' := [(0, .ref 107), (1, .ref 49)]) h_m74 (z_at.mk 3 rfl rfl) rfl (u := .ref 108) rfl rfl rfl ?_
  refine w_p h_m74 2 (pc' := 12) (L' := [(0, .ref 107), (1, .ref 49)]) (st' := [.int (7 : Int32), .int (0 : Int32), .ref 108, .int (0 : Int32), .ref 50]) rfl ?_
  refine w_cpf H (ra := (0, 7, [(6, .int (1024 : Int32)), (5, .int (1 : Int32)), (4, .int (1 : Int32)), (3, .int (0 : Int32)), (2, .int (12 : Int32)), (1, .int (40 : Int32)), (0, .int (10 : Int32))], some (.int (0 : Int32)))) (pc' := 15) (L' := [(0, .ref 107), (1, .ref 49)]) h_m74 (z_at.mk 3 rfl rfl) rfl (z_cat_le 0 rfl (by decide)) rfl rfl rfl rfl (by decide) rfl rfl ?_
  clear H m; intro m H
  refine w_rv h_m74 (z_at.mk 1 rfl rfl) rfl ?_
  show z_W 998 145 27 [(0, .ref 39), (1, .int (31 : Int32))] [] m _
  refine w_p h_m145 1 (pc' := 28) (L' := [(0, .ref 39), (1, .int (31 : Int32))]) (st' := [.ref 39]) rfl ?_
  refine w_gf H (pc' := 31) (L' := [(0, .ref 39), (1, .int (31 : Int32))]) h_m145 (z_at.mk 3 rfl rfl) rfl (u := .ref 106) rfl rfl rfl ?_
  refine w_gf H (pc' := 34) (L' := [(0, .ref 39), (1, .int (31 : Int32))]) h_m145 (z_at.mk 3 rfl rfl) rfl (u := .ref 107) rfl rfl rfl ?_
  refine w_p h_m145 2 (pc' := 36) (L' := [(0, .ref 39), (1, .int (31 : Int32))]) (st' := [.int (31 : Int32), .int (1 : Int32), .ref 107]) rfl ?_
  refine w_cv (H.t rfl) (pc' := 39) (L' := [(0, .ref 39), (1, .int (31 : Int32))]) (rest := []) (Ps := [.int (1 : Int32), .int (31 : Int32)]) (L0 := [(0, .ref 107), (1, .int (1 : Int32)), (2, .int (31 : Int32))]) h_m145 (z_at.mk 3 rfl rfl) (Or.inl ⟨rfl, rfl⟩) rfl rfl (by decide) (by decide) rfl rfl rfl rfl rfl rfl (by decide) rfl rfl rfl ?_
  refine w_p h_m73 6 (pc' := 11) (L' := [(0, .ref 107), (1, .int (1 : Int32)), (2, .int (31 : Int32))]) (st' := [.ref 107]) rfl ?_
  refine w_gf H (pc' := 14) (L' := [(0, .ref 107), (1, .int (1 : Int32)), (2, .int (31 : Int32))]) h_m73 (z_at.mk 3 rfl rfl) rfl (u := .ref 108) rfl rfl rfl ?_
  refine w_p h_m73 2 (pc' := 16) (L' := [(0, .ref 107), (1, .int (1 : Int32)), (2, .int (31 : Int32))]) (st' := [.int (31 : Int32), .int (1 : Int32), .ref 108]) rfl ?_
  refine w_as H (t := 0) (j := 1) (u := .int (31 : Int32)) (0, 7, [(1, .int (31 : Int32)), (6, .int (1024 : Int32)), (5, .int (1 : Int32)), (4, .int (1 : Int32)), (3, .int (0 : Int32)), (2, .int (12 : Int32)), (0, .int (10 : Int32))], some (.int (0 : Int32))) (pc' := 17) (L' := []) h_m73 (z_at.mk 1 rfl rfl) rfl rfl (w_ui _ _ (by decide)) rfl rfl rfl rfl ?_
  clear H m; intro m H
  refine w_rv h_m73 (z_at.mk 1 rfl rfl) rfl ?_
  show z_W 998 145 39 [(0, .ref 39), (1, .int (31 : Int32))] [] m _
  refine w_p h_m145 4 (pc' := 43) (L' := [(0, .ref 39), (2, .int (0 : Int32))]) (st' := [.ref 39, .int (0 : Int32)]) rfl ?_
  refine w_gf H (pc' := 46) (L' := [(0, .ref 39), (2, .int (0 : Int32))]) h_m145 (z_at.mk 3 rfl rfl) rfl (u := .ref 40) rfl rfl rfl ?_
  refine w_gf H (pc' := 49) (L' := [(0, .ref 39), (2, .int (0 : Int32))]) h_m145 (z_at.mk 3 rfl rfl) rfl (u := .ref 63) rfl rfl rfl ?_
  refine w_gf H (pc' := 52) (L' := [(0, .ref 39), (2, .int (0 : Int32))]) h_m145 (z_at.mk 3 rfl rfl) rfl (u := .int (0 : Int32)) rfl rfl rfl ?_
  refine w_p h_m145 1 (pc' := 79) (L' := [(0, .ref 39), (2, .int (0 : Int32))]) (st' := []) rfl ?_
  refine w_rv h_m145 (z_at.mk 1 rfl rfl) rfl ?_
  show z_W 999 146 13 [(0, .ref 39), (1, .int (xs 1)), (2, .int (31 : Int32))] [] m _
  refine w_p h_m146 1 (pc' := 14) (L' := [(0, .ref 39), (1, .int (xs 1)), (2, .int (31 : Int32))]) (st' := [.ref 39]) rfl ?_
  refine w_gf H (pc' := 17) (L' := [(0, .ref 39), (1, .int (xs 1)), (2, .int (31 : Int32))]) h_m146 (z_at.mk 3 rfl rfl) rfl (u := .ref 106) rfl rfl rfl ?_
  refine w_gf H (pc' := 20) (L' := [(0, .ref 39), (1, .int (xs 1)), (2, .int (31 : Int32))]) h_m146 (z_at.mk 3 rfl rfl) rfl (u := .int (0 : Int32)) rfl rfl rfl ?_
  refine w_p h_m146 1 (pc' := 21) (L' := [(0, .ref 39), (1, .int (xs 1)), (2, .int (31 : Int32))]) (st' := [.int (xs 1), .int (0 : Int32)]) rfl ?_
  refine w_t2 (pc' := 26) (L' := [(0, .ref 39), (1, .int (xs 1)), (2, .int (31 : Int32))]) h_m146 (z_at.mk 3 rfl rfl) rfl (zc (a := 0) (b := (xs 1).toInt) rfl rfl (decide_eq_true (by omega))) rfl rfl ?_
  refine w_p h_m146 2 (pc' := 2) (L' := [(0, .ref 39), (1, .int (xs 1)), (2, .int (32 : Int32))]) (st' := []) rfl ?_
  exact hQ m (H.subC (by decide +kernel))
set_option maxHeartbeats 400000000 in
set_option maxRecDepth 20000 in
theorem w_turn_146_32 {xs : Nat → Int32} {m : zM} {Q : Option Value → zM → Prop} (hp : (xs 1).toInt < 0) (H : w_ok 6 xs 168 63950 ((106, (12, 18, [(15, .int (0 : Int32)), (14, .int (0 : Int32)), (13, .int (0 : Int32)), (12, .int (0 : Int32)), (11, .int (0 : Int32)), (10, .int (0 : Int32)), (9, .long (0 : Int64)), (8, .int (0 : Int32)), (2, .int (0 : Int32)), (0, .ref 41), (17, .ref 116), (16, .ref 114), (7, .ref 113), (6, .ref 112), (5, .ref 111), (4, .ref 110), (3, .ref 109), (1, .ref 107)], none)) :: (108, (0, 7, [(1, .int (31 : Int32)), (6, .int (1024 : Int32)), (5, .int (1 : Int32)), (4, .int (1 : Int32)), (3, .int (0 : Int32)), (2, .int (12 : Int32)), (0, .int (10 : Int32))], some (.int (0 : Int32)))) :: w_T0) m) (hQ : ∀ m, w_ok 6 xs 168 63950 ((106, (12, 18, [(15, .int (0 : Int32)), (14, .int (0 : Int32)), (13, .int (0 : Int32)), (12, .int (0 : Int32)), (11, .int (0 : Int32)), (10, .int (0 : Int32)), (9, .long (0 : Int64)), (8, .int (0 : Int32)), (2, .int (0 : Int32)), (0, .ref 41), (17, .ref 116), (16, .ref 114), (7, .ref 113), (6, .ref 112), (5, .ref 111), (4, .ref 110), (3, .ref 109), (1, .ref 107)], none)) :: (108, (0, 7, [(1, .int (32 : Int32)), (6, .int (1024 : Int32)), (5, .int (1 : Int32)), (4, .int (1 : Int32)), (3, .int (0 : Int32)), (2, .int (12 : Int32)), (0, .int (10 : Int32))], some (.int (0 : Int32)))) :: w_T0) m → z_W 999 146 2 [(0, .ref 39), (1, .int (xs 1)), (2, .int (33 : Int32))] [] m Q) : z_W 999 146 2 [(0, .ref 39), (1, .int (xs 1)), (2, .int (32 : Int32))] [] m Q := by
  refine w_p h_m146 5 (pc' := 10) (L' := [(0, .ref 39), (1, .int (xs 1)), (2, .int (32 : Int32))]) (st' := [.int (32 : Int32), .ref 39]) rfl ?_
  refine w_cv (H.t rfl) (pc' := 13) (L' := [(0, .ref 39), (1, .int (xs 1)), (2, .int (32 : Int32))]) (rest := []) (Ps := [.int (32 : Int32)]) (L0 := [(0, .ref 39), (1, .int (32 : Int32))]) h_m146 (z_at.mk 3 rfl rfl) (Or.inl ⟨rfl, rfl⟩) rfl rfl (by decide) (by decide) rfl rfl rfl rfl rfl rfl (by decide) rfl rfl rfl ?_
  refine w_p h_m145 1 (pc' := 1) (L' := [(0, .ref 39), (1, .int (32 : Int32))]) (st' := [.ref 39]) rfl ?_
  refine w_gf H (pc' := 4) (L' := [(0, .ref 39), (1, .int (32 : Int32))]) h_m145 (z_at.mk 3 rfl rfl) rfl (u := .ref 106) rfl rfl rfl ?_
  refine w_cv (H.t rfl) (pc' := 7) (L' := [(0, .ref 39), (1, .int (32 : Int32))]) (rest := []) (Ps := []) (L0 := [(0, .ref 106)]) h_m145 (z_at.mk 3 rfl rfl) (Or.inl ⟨rfl, rfl⟩) rfl rfl (by decide) (by decide) rfl rfl rfl rfl rfl rfl (by decide) rfl rfl rfl ?_
  refine w_p h_m20 2 (pc' := 2) (L' := [(0, .ref 106)]) (st' := [.int (0 : Int32), .ref 106]) rfl ?_
  refine w_pf H (12, 18, [(2, .int (0 : Int32)), (15, .int (0 : Int32)), (14, .int (0 : Int32)), (13, .int (0 : Int32)), (12, .int (0 : Int32)), (11, .int (0 : Int32)), (10, .int (0 : Int32)), (9, .long (0 : Int64)), (8, .int (0 : Int32)), (0, .ref 41), (17, .ref 116), (16, .ref 114), (7, .ref 113), (6, .ref 112), (5, .ref 111), (4, .ref 110), (3, .ref 109), (1, .ref 107)], none) (pc' := 5) (L' := [(0, .ref 106)]) h_m20 (z_at.mk 3 rfl rfl) rfl (by decide) rfl (Or.inl rfl) rfl rfl rfl ?_
  clear H m; intro m H
  refine w_p h_m20 2 (pc' := 7) (L' := [(0, .ref 106)]) (st' := [.int (0 : Int32), .ref 106]) rfl ?_
  refine w_pf H (12, 18, [(8, .int (0 : Int32)), (2, .int (0 : Int32)), (15, .int (0 : Int32)), (14, .int (0 : Int32)), (13, .int (0 : Int32)), (12, .int (0 : Int32)), (11, .int (0 : Int32)), (10, .int (0 : Int32)), (9, .long (0 : Int64)), (0, .ref 41), (17, .ref 116), (16, .ref 114), (7, .ref 113), (6, .ref 112), (5, .ref 111), (4, .ref 110), (3, .ref 109), (1, .ref 107)], none) (pc' := 10) (L' := [(0, .ref 106)]) h_m20 (z_at.mk 3 rfl rfl) rfl (by decide) rfl (Or.inl rfl) rfl rfl rfl ?_
  clear H m; intro m H
  refine w_p h_m20 2 (pc' := 12) (L' := [(0, .ref 106)]) (st' := [.long (0 : Int64), .ref 106]) rfl ?_
  refine w_pf H (12, 18, [(9, .long (0 : Int64)), (8, .int (0 : Int32)), (2, .int (0 : Int32)), (15, .int (0 : Int32)), (14, .int (0 : Int32)), (13, .int (0 : Int32)), (12, .int (0 : Int32)), (11, .int (0 : Int32)), (10, .int (0 : Int32)), (0, .ref 41), (17, .ref 116), (16, .ref 114), (7, .ref 113), (6, .ref 112), (5, .ref 111), (4, .ref 110), (3, .ref 109), (1, .ref 107)], none) (pc' := 15) (L' := [(0, .ref 106)]) h_m20 (z_at.mk 3 rfl rfl) rfl (by decide) rfl (Or.inl rfl) rfl rfl rfl ?_
  clear H m; intro m H
  refine w_p h_m20 2 (pc' := 17) (L' := [(0, .ref 106)]) (st' := [.int (0 : Int32), .ref 106]) rfl ?_
  refine w_pf H (12, 18, [(10, .int (0 : Int32)), (9, .long (0 : Int64)), (8, .int (0 : Int32)), (2, .int (0 : Int32)), (15, .int (0 : Int32)), (14, .int (0 : Int32)), (13, .int (0 : Int32)), (12, .int (0 : Int32)), (11, .int (0 : Int32)), (0, .ref 41), (17, .ref 116), (16, .ref 114), (7, .ref 113), (6, .ref 112), (5, .ref 111), (4, .ref 110), (3, .ref 109), (1, .ref 107)], none) (pc' := 20) (L' := [(0, .ref 106)]) h_m20 (z_at.mk 3 rfl rfl) rfl (by decide) rfl (Or.inl rfl) rfl rfl rfl ?_
  clear H m; intro m H
  refine w_p h_m20 2 (pc' := 22) (L' := [(0, .ref 106)]) (st' := [.int (0 : Int32), .ref 106]) rfl ?_
  refine w_pf H (12, 18, [(11, .int (0 : Int32)), (10, .int (0 : Int32)), (9, .long (0 : Int64)), (8, .int (0 : Int32)), (2, .int (0 : Int32)), (15, .int (0 : Int32)), (14, .int (0 : Int32)), (13, .int (0 : Int32)), (12, .int (0 : Int32)), (0, .ref 41), (17, .ref 116), (16, .ref 114), (7, .ref 113), (6, .ref 112), (5, .ref 111), (4, .ref 110), (3, .ref 109), (1, .ref 107)], none) (pc' := 25) (L' := [(0, .ref 106)]) h_m20 (z_at.mk 3 rfl rfl) rfl (by decide) rfl (Or.inl rfl) rfl rfl rfl ?_
  clear H m; intro m H
  refine w_p h_m20 2 (pc' := 27) (L' := [(0, .ref 106)]) (st' := [.int (0 : Int32), .ref 106]) rfl ?_
  refine w_pf H (12, 18, [(12, .int (0 : Int32)), (11, .int (0 : Int32)), (10, .int (0 : Int32)), (9, .long (0 : Int64)), (8, .int (0 : Int32)), (2, .int (0 : Int32)), (15, .int (0 : Int32)), (14, .int (0 : Int32)), (13, .int (0 : Int32)), (0, .ref 41), (17, .ref 116), (16, .ref 114), (7, .ref 113), (6, .ref 112), (5, .ref 111), (4, .ref 110), (3, .ref 109), (1, .ref 107)], none) (pc' := 30) (L' := [(0, .ref 106)]) h_m20 (z_at.mk 3 rfl rfl) rfl (by decide) rfl (Or.inl rfl) rfl rfl rfl ?_
  clear H m; intro m H
  refine w_p h_m20 2 (pc' := 32) (L' := [(0, .ref 106)]) (st' := [.int (0 : Int32), .ref 106]) rfl ?_
  refine w_pf H (12, 18, [(13, .int (0 : Int32)), (12, .int (0 : Int32)), (11, .int (0 : Int32)), (10, .int (0 : Int32)), (9, .long (0 : Int64)), (8, .int (0 : Int32)), (2, .int (0 : Int32)), (15, .int (0 : Int32)), (14, .int (0 : Int32)), (0, .ref 41), (17, .ref 116), (16, .ref 114), (7, .ref 113), (6, .ref 112), (5, .ref 111), (4, .ref 110), (3, .ref 109), (1, .ref 107)], none) (pc' := 35) (L' := [(0, .ref 106)]) h_m20 (z_at.mk 3 rfl rfl) rfl (by decide) rfl (Or.inl rfl) rfl rfl rfl ?_
  clear H m; intro m H
  refine w_p h_m20 2 (pc' := 37) (L' := [(0, .ref 106)]) (st' := [.int (0 : Int32), .ref 106]) rfl ?_
  refine w_pf H (12, 18, [(14, .int (0 : Int32)), (13, .int (0 : Int32)), (12, .int (0 : Int32)), (11, .int (0 : Int32)), (10, .int (0 : Int32)), (9, .long (0 : Int64)), (8, .int (0 : Int32)), (2, .int (0 : Int32)), (15, .int (0 : Int32)), (0, .ref 41), (17, .ref 116), (16, .ref 114), (7, .ref 113), (6, .ref 112), (5, .ref 111), (4, .ref 110), (3, .ref 109), (1, .ref 107)], none) (pc' := 40) (L' := [(0, .ref 106)]) h_m20 (z_at.mk 3 rfl rfl) rfl (by decide) rfl (Or.inl rfl) rfl rfl rfl ?_
  clear H m; intro m H
  refine w_p h_m20 2 (pc' := 42) (L' := [(0, .ref 106)]) (st' := [.int (0 : Int32), .ref 106]) rfl ?_
  refine w_pf H (12, 18, [(15, .int (0 : Int32)), (14, .int (0 : Int32)), (13, .int (0 : Int32)), (12, .int (0 : Int32)), (11, .int (0 : Int32)), (10, .int (0 : Int32)), (9, .long (0 : Int64)), (8, .int (0 : Int32)), (2, .int (0 : Int32)), (0, .ref 41), (17, .ref 116), (16, .ref 114), (7, .ref 113), (6, .ref 112), (5, .ref 111), (4, .ref 110), (3, .ref 109), (1, .ref 107)], none) (pc' := 45) (L' := [(0, .ref 106)]) h_m20 (z_at.mk 3 rfl rfl) rfl (by decide) rfl (Or.inl rfl) rfl rfl rfl ?_
  clear H m; intro m H
  refine w_rv h_m20 (z_at.mk 1 rfl rfl) rfl ?_
  show z_W 998 145 7 [(0, .ref 39), (1, .int (32 : Int32))] [] m _
  refine w_p h_m145 1 (pc' := 8) (L' := [(0, .ref 39), (1, .int (32 : Int32))]) (st' := [.ref 39]) rfl ?_
  refine w_gf H (pc' := 11) (L' := [(0, .ref 39), (1, .int (32 : Int32))]) h_m145 (z_at.mk 3 rfl rfl) rfl (u := .ref 106) rfl rfl rfl ?_
  refine w_gf H (pc' := 14) (L' := [(0, .ref 39), (1, .int (32 : Int32))]) h_m145 (z_at.mk 3 rfl rfl) rfl (u := .ref 107) rfl rfl rfl ?_
  refine w_p h_m145 1 (pc' := 15) (L' := [(0, .ref 39), (1, .int (32 : Int32))]) (st' := [.ref 39, .ref 107]) rfl ?_
  refine w_gf H (pc' := 18) (L' := [(0, .ref 39), (1, .int (32 : Int32))]) h_m145 (z_at.mk 3 rfl rfl) rfl (u := .ref 40) rfl rfl rfl ?_
  refine w_gf H (pc' := 21) (L' := [(0, .ref 39), (1, .int (32 : Int32))]) h_m145 (z_at.mk 3 rfl rfl) rfl (u := .ref 48) rfl rfl rfl ?_
  refine w_gf H (pc' := 24) (L' := [(0, .ref 39), (1, .int (32 : Int32))]) h_m145 (z_at.mk 3 rfl rfl) rfl (u := .ref 49) rfl rfl rfl ?_
  refine w_cv (H.t rfl) (pc' := 27) (L' := [(0, .ref 39), (1, .int (32 : Int32))]) (rest := []) (Ps := [.ref 49]) (L0 := [(0, .ref 107), (1, .ref 49)]) h_m145 (z_at.mk 3 rfl rfl) (Or.inl ⟨rfl, rfl⟩) rfl rfl (by decide) (by decide) rfl rfl rfl rfl rfl rfl (by decide) rfl rfl rfl ?_
  refine w_p h_m74 1 (pc' := 1) (L' := [(0, .ref 107), (1, .ref 49)]) (st' := [.ref 49]) rfl ?_
  refine w_gf H (pc' := 4) (L' := [(0, .ref 107), (1, .ref 49)]) h_m74 (z_at.mk 3 rfl rfl) rfl (u := .ref 50) rfl rfl rfl ?_
  refine w_p h_m74 2 (pc' := 6) (L' := [(0, .ref 107), (1, .ref 49)]) (st' := [.ref 107, .int (0 : Int32), .ref 50]) rfl ?_
  refine w_gf H (pc' := 9) (L' := [(0, .ref 107), (1, .ref 49)]) h_m74 (z_at.mk 3 rfl rfl) rfl (u := .ref 108) rfl rfl rfl ?_
  refine w_p h_m74 2 (pc' := 12) (L' := [(0, .ref 107), (1, .ref 49)]) (st' := [.int (7 : Int32), .int (0 : Int32), .ref 108, .int (0 : Int32), .ref 50]) rfl ?_
  refine w_cpf H (ra := (0, 7, [(6, .int (1024 : Int32)), (5, .int (1 : Int32)), (4, .int (1 : Int32)), (3, .int (0 : Int32)), (2, .int (12 : Int32)), (1, .int (40 : Int32)), (0, .int (10 : Int32))], some (.int (0 : Int32)))) (pc' := 15) (L' := [(0, .ref 107), (1, .ref 49)]) h_m74 (z_at.mk 3 rfl rfl) rfl (z_cat_le 0 rfl (by decide)) rfl rfl rfl rfl (by decide) rfl rfl ?_
  clear H m; intro m H
  refine w_rv h_m74 (z_at.mk 1 rfl rfl) rfl ?_
  show z_W 998 145 27 [(0, .ref 39), (1, .int (32 : Int32))] [] m _
  refine w_p h_m145 1 (pc' := 28) (L' := [(0, .ref 39), (1, .int (32 : Int32))]) (st' := [.ref 39]) rfl ?_
  refine w_gf H (pc' := 31) (L' := [(0, .ref 39), (1, .int (32 : Int32))]) h_m145 (z_at.mk 3 rfl rfl) rfl (u := .ref 106) rfl rfl rfl ?_
  refine w_gf H (pc' := 34) (L' := [(0, .ref 39), (1, .int (32 : Int32))]) h_m145 (z_at.mk 3 rfl rfl) rfl (u := .ref 107) rfl rfl rfl ?_
  refine w_p h_m145 2 (pc' := 36) (L' := [(0, .ref 39), (1, .int (32 : Int32))]) (st' := [.int (32 : Int32), .int (1 : Int32), .ref 107]) rfl ?_
  refine w_cv (H.t rfl) (pc' := 39) (L' := [(0, .ref 39), (1, .int (32 : Int32))]) (rest := []) (Ps := [.int (1 : Int32), .int (32 : Int32)]) (L0 := [(0, .ref 107), (1, .int (1 : Int32)), (2, .int (32 : Int32))]) h_m145 (z_at.mk 3 rfl rfl) (Or.inl ⟨rfl, rfl⟩) rfl rfl (by decide) (by decide) rfl rfl rfl rfl rfl rfl (by decide) rfl rfl rfl ?_
  refine w_p h_m73 6 (pc' := 11) (L' := [(0, .ref 107), (1, .int (1 : Int32)), (2, .int (32 : Int32))]) (st' := [.ref 107]) rfl ?_
  refine w_gf H (pc' := 14) (L' := [(0, .ref 107), (1, .int (1 : Int32)), (2, .int (32 : Int32))]) h_m73 (z_at.mk 3 rfl rfl) rfl (u := .ref 108) rfl rfl rfl ?_
  refine w_p h_m73 2 (pc' := 16) (L' := [(0, .ref 107), (1, .int (1 : Int32)), (2, .int (32 : Int32))]) (st' := [.int (32 : Int32), .int (1 : Int32), .ref 108]) rfl ?_
  refine w_as H (t := 0) (j := 1) (u := .int (32 : Int32)) (0, 7, [(1, .int (32 : Int32)), (6, .int (1024 : Int32)), (5, .int (1 : Int32)), (4, .int (1 : Int32)), (3, .int (0 : Int32)), (2, .int (12 : Int32)), (0, .int (10 : Int32))], some (.int (0 : Int32))) (pc' := 17) (L' := []) h_m73 (z_at.mk 1 rfl rfl) rfl rfl (w_ui _ _ (by decide)) rfl rfl rfl rfl ?_
  clear H m; intro m H
  refine w_rv h_m73 (z_at.mk 1 rfl rfl) rfl ?_
  show z_W 998 145 39 [(0, .ref 39), (1, .int (32 : Int32))] [] m _
  refine w_p h_m145 4 (pc' := 43) (L' := [(0, .ref 39), (2, .int (0 : Int32))]) (st' := [.ref 39, .int (0 : Int32)]) rfl ?_
  refine w_gf H (pc' := 46) (L' := [(0, .ref 39), (2, .int (0 : Int32))]) h_m145 (z_at.mk 3 rfl rfl) rfl (u := .ref 40) rfl rfl rfl ?_
  refine w_gf H (pc' := 49) (L' := [(0, .ref 39), (2, .int (0 : Int32))]) h_m145 (z_at.mk 3 rfl rfl) rfl (u := .ref 63) rfl rfl rfl ?_
  refine w_gf H (pc' := 52) (L' := [(0, .ref 39), (2, .int (0 : Int32))]) h_m145 (z_at.mk 3 rfl rfl) rfl (u := .int (0 : Int32)) rfl rfl rfl ?_
  refine w_p h_m145 1 (pc' := 79) (L' := [(0, .ref 39), (2, .int (0 : Int32))]) (st' := []) rfl ?_
  refine w_rv h_m145 (z_at.mk 1 rfl rfl) rfl ?_
  show z_W 999 146 13 [(0, .ref 39), (1, .int (xs 1)), (2, .int (32 : Int32))] [] m _
  refine w_p h_m146 1 (pc' := 14) (L' := [(0, .ref 39), (1, .int (xs 1)), (2, .int (32 : Int32))]) (st' := [.ref 39]) rfl ?_
  refine w_gf H (pc' := 17) (L' := [(0, .ref 39), (1, .int (xs 1)), (2, .int (32 : Int32))]) h_m146 (z_at.mk 3 rfl rfl) rfl (u := .ref 106) rfl rfl rfl ?_
  refine w_gf H (pc' := 20) (L' := [(0, .ref 39), (1, .int (xs 1)), (2, .int (32 : Int32))]) h_m146 (z_at.mk 3 rfl rfl) rfl (u := .int (0 : Int32)) rfl rfl rfl ?_
  refine w_p h_m146 1 (pc' := 21) (L' := [(0, .ref 39), (1, .int (xs 1)), (2, .int (32 : Int32))]) (st' := [.int (xs 1), .int (0 : Int32)]) rfl ?_
  refine w_t2 (pc' := 26) (L' := [(0, .ref 39), (1, .int (xs 1)), (2, .int (32 : Int32))]) h_m146 (z_at.mk 3 rfl rfl) rfl (zc (a := 0) (b := (xs 1).toInt) rfl rfl (decide_eq_true (by omega))) rfl rfl ?_
  refine w_p h_m146 2 (pc' := 2) (L' := [(0, .ref 39), (1, .int (xs 1)), (2, .int (33 : Int32))]) (st' := []) rfl ?_
  exact hQ m (H.subC (by decide +kernel))
set_option maxHeartbeats 400000000 in
set_option maxRecDepth 20000 in
theorem w_turn_146_33 {xs : Nat → Int32} {m : zM} {Q : Option Value → zM → Prop} (hp : (xs 1).toInt < 0) (H : w_ok 6 xs 168 63950 ((106, (12, 18, [(15, .int (0 : Int32)), (14, .int (0 : Int32)), (13, .int (0 : Int32)), (12, .int (0 : Int32)), (11, .int (0 : Int32)), (10, .int (0 : Int32)), (9, .long (0 : Int64)), (8, .int (0 : Int32)), (2, .int (0 : Int32)), (0, .ref 41), (17, .ref 116), (16, .ref 114), (7, .ref 113), (6, .ref 112), (5, .ref 111), (4, .ref 110), (3, .ref 109), (1, .ref 107)], none)) :: (108, (0, 7, [(1, .int (32 : Int32)), (6, .int (1024 : Int32)), (5, .int (1 : Int32)), (4, .int (1 : Int32)), (3, .int (0 : Int32)), (2, .int (12 : Int32)), (0, .int (10 : Int32))], some (.int (0 : Int32)))) :: w_T0) m) (hQ : ∀ m, w_ok 6 xs 168 63950 ((106, (12, 18, [(15, .int (0 : Int32)), (14, .int (0 : Int32)), (13, .int (0 : Int32)), (12, .int (0 : Int32)), (11, .int (0 : Int32)), (10, .int (0 : Int32)), (9, .long (0 : Int64)), (8, .int (0 : Int32)), (2, .int (0 : Int32)), (0, .ref 41), (17, .ref 116), (16, .ref 114), (7, .ref 113), (6, .ref 112), (5, .ref 111), (4, .ref 110), (3, .ref 109), (1, .ref 107)], none)) :: (108, (0, 7, [(1, .int (33 : Int32)), (6, .int (1024 : Int32)), (5, .int (1 : Int32)), (4, .int (1 : Int32)), (3, .int (0 : Int32)), (2, .int (12 : Int32)), (0, .int (10 : Int32))], some (.int (0 : Int32)))) :: w_T0) m → z_W 999 146 2 [(0, .ref 39), (1, .int (xs 1)), (2, .int (34 : Int32))] [] m Q) : z_W 999 146 2 [(0, .ref 39), (1, .int (xs 1)), (2, .int (33 : Int32))] [] m Q := by
  refine w_p h_m146 5 (pc' := 10) (L' := [(0, .ref 39), (1, .int (xs 1)), (2, .int (33 : Int32))]) (st' := [.int (33 : Int32), .ref 39]) rfl ?_
  refine w_cv (H.t rfl) (pc' := 13) (L' := [(0, .ref 39), (1, .int (xs 1)), (2, .int (33 : Int32))]) (rest := []) (Ps := [.int (33 : Int32)]) (L0 := [(0, .ref 39), (1, .int (33 : Int32))]) h_m146 (z_at.mk 3 rfl rfl) (Or.inl ⟨rfl, rfl⟩) rfl rfl (by decide) (by decide) rfl rfl rfl rfl rfl rfl (by decide) rfl rfl rfl ?_
  refine w_p h_m145 1 (pc' := 1) (L' := [(0, .ref 39), (1, .int (33 : Int32))]) (st' := [.ref 39]) rfl ?_
  refine w_gf H (pc' := 4) (L' := [(0, .ref 39), (1, .int (33 : Int32))]) h_m145 (z_at.mk 3 rfl rfl) rfl (u := .ref 106) rfl rfl rfl ?_
  refine w_cv (H.t rfl) (pc' := 7) (L' := [(0, .ref 39), (1, .int (33 : Int32))]) (rest := []) (Ps := []) (L0 := [(0, .ref 106)]) h_m145 (z_at.mk 3 rfl rfl) (Or.inl ⟨rfl, rfl⟩) rfl rfl (by decide) (by decide) rfl rfl rfl rfl rfl rfl (by decide) rfl rfl rfl ?_
  refine w_p h_m20 2 (pc' := 2) (L' := [(0, .ref 106)]) (st' := [.int (0 : Int32), .ref 106]) rfl ?_
  refine w_pf H (12, 18, [(2, .int (0 : Int32)), (15, .int (0 : Int32)), (14, .int (0 : Int32)), (13, .int (0 : Int32)), (12, .int (0 : Int32)), (11, .int (0 : Int32)), (10, .int (0 : Int32)), (9, .long (0 : Int64)), (8, .int (0 : Int32)), (0, .ref 41), (17, .ref 116), (16, .ref 114), (7, .ref 113), (6, .ref 112), (5, .ref 111), (4, .ref 110), (3, .ref 109), (1, .ref 107)], none) (pc' := 5) (L' := [(0, .ref 106)]) h_m20 (z_at.mk 3 rfl rfl) rfl (by decide) rfl (Or.inl rfl) rfl rfl rfl ?_
  clear H m; intro m H
  refine w_p h_m20 2 (pc' := 7) (L' := [(0, .ref 106)]) (st' := [.int (0 : Int32), .ref 106]) rfl ?_
  refine w_pf H (12, 18, [(8, .int (0 : Int32)), (2, .int (0 : Int32)), (15, .int (0 : Int32)), (14, .int (0 : Int32)), (13, .int (0 : Int32)), (12, .int (0 : Int32)), (11, .int (0 : Int32)), (10, .int (0 : Int32)), (9, .long (0 : Int64)), (0, .ref 41), (17, .ref 116), (16, .ref 114), (7, .ref 113), (6, .ref 112), (5, .ref 111), (4, .ref 110), (3, .ref 109), (1, .ref 107)], none) (pc' := 10) (L' := [(0, .ref 106)]) h_m20 (z_at.mk 3 rfl rfl) rfl (by decide) rfl (Or.inl rfl) rfl rfl rfl ?_
  clear H m; intro m H
  refine w_p h_m20 2 (pc' := 12) (L' := [(0, .ref 106)]) (st' := [.long (0 : Int64), .ref 106]) rfl ?_
  refine w_pf H (12, 18, [(9, .long (0 : Int64)), (8, .int (0 : Int32)), (2, .int (0 : Int32)), (15, .int (0 : Int32)), (14, .int (0 : Int32)), (13, .int (0 : Int32)), (12, .int (0 : Int32)), (11, .int (0 : Int32)), (10, .int (0 : Int32)), (0, .ref 41), (17, .ref 116), (16, .ref 114), (7, .ref 113), (6, .ref 112), (5, .ref 111), (4, .ref 110), (3, .ref 109), (1, .ref 107)], none) (pc' := 15) (L' := [(0, .ref 106)]) h_m20 (z_at.mk 3 rfl rfl) rfl (by decide) rfl (Or.inl rfl) rfl rfl rfl ?_
  clear H m; intro m H
  refine w_p h_m20 2 (pc' := 17) (L' := [(0, .ref 106)]) (st' := [.int (0 : Int32), .ref 106]) rfl ?_
  refine w_pf H (12, 18, [(10, .int (0 : Int32)), (9, .long (0 : Int64)), (8, .int (0 : Int32)), (2, .int (0 : Int32)), (15, .int (0 : Int32)), (14, .int (0 : Int32)), (13, .int (0 : Int32)), (12, .int (0 : Int32)), (11, .int (0 : Int32)), (0, .ref 41), (17, .ref 116), (16, .ref 114), (7, .ref 113), (6, .ref 112), (5, .ref 111), (4, .ref 110), (3, .ref 109), (1, .ref 107)], none) (pc' := 20) (L' := [(0, .ref 106)]) h_m20 (z_at.mk 3 rfl rfl) rfl (by decide) rfl (Or.inl rfl) rfl rfl rfl ?_
  clear H m; intro m H
  refine w_p h_m20 2 (pc' := 22) (L' := [(0, .ref 106)]) (st' := [.int (0 : Int32), .ref 106]) rfl ?_
  refine w_pf H (12, 18, [(11, .int (0 : Int32)), (10, .int (0 : Int32)), (9, .long (0 : Int64)), (8, .int (0 : Int32)), (2, .int (0 : Int32)), (15, .int (0 : Int32)), (14, .int (0 : Int32)), (13, .int (0 : Int32)), (12, .int (0 : Int32)), (0, .ref 41), (17, .ref 116), (16, .ref 114), (7, .ref 113), (6, .ref 112), (5, .ref 111), (4, .ref 110), (3, .ref 109), (1, .ref 107)], none) (pc' := 25) (L' := [(0, .ref 106)]) h_m20 (z_at.mk 3 rfl rfl) rfl (by decide) rfl (Or.inl rfl) rfl rfl rfl ?_
  clear H m; intro m H
  refine w_p h_m20 2 (pc' := 27) (L' := [(0, .ref 106)]) (st' := [.int (0 : Int32), .ref 106]) rfl ?_
  refine w_pf H (12, 18, [(12, .int (0 : Int32)), (11, .int (0 : Int32)), (10, .int (0 : Int32)), (9, .long (0 : Int64)), (8, .int (0 : Int32)), (2, .int (0 : Int32)), (15, .int (0 : Int32)), (14, .int (0 : Int32)), (13, .int (0 : Int32)), (0, .ref 41), (17, .ref 116), (16, .ref 114), (7, .ref 113), (6, .ref 112), (5, .ref 111), (4, .ref 110), (3, .ref 109), (1, .ref 107)], none) (pc' := 30) (L' := [(0, .ref 106)]) h_m20 (z_at.mk 3 rfl rfl) rfl (by decide) rfl (Or.inl rfl) rfl rfl rfl ?_
  clear H m; intro m H
  refine w_p h_m20 2 (pc' := 32) (L' := [(0, .ref 106)]) (st' := [.int (0 : Int32), .ref 106]) rfl ?_
  refine w_pf H (12, 18, [(13, .int (0 : Int32)), (12, .int (0 : Int32)), (11, .int (0 : Int32)), (10, .int (0 : Int32)), (9, .long (0 : Int64)), (8, .int (0 : Int32)), (2, .int (0 : Int32)), (15, .int (0 : Int32)), (14, .int (0 : Int32)), (0, .ref 41), (17, .ref 116), (16, .ref 114), (7, .ref 113), (6, .ref 112), (5, .ref 111), (4, .ref 110), (3, .ref 109), (1, .ref 107)], none) (pc' := 35) (L' := [(0, .ref 106)]) h_m20 (z_at.mk 3 rfl rfl) rfl (by decide) rfl (Or.inl rfl) rfl rfl rfl ?_
  clear H m; intro m H
  refine w_p h_m20 2 (pc' := 37) (L' := [(0, .ref 106)]) (st' := [.int (0 : Int32), .ref 106]) rfl ?_
  refine w_pf H (12, 18, [(14, .int (0 : Int32)), (13, .int (0 : Int32)), (12, .int (0 : Int32)), (11, .int (0 : Int32)), (10, .int (0 : Int32)), (9, .long (0 : Int64)), (8, .int (0 : Int32)), (2, .int (0 : Int32)), (15, .int (0 : Int32)), (0, .ref 41), (17, .ref 116), (16, .ref 114), (7, .ref 113), (6, .ref 112), (5, .ref 111), (4, .ref 110), (3, .ref 109), (1, .ref 107)], none) (pc' := 40) (L' := [(0, .ref 106)]) h_m20 (z_at.mk 3 rfl rfl) rfl (by decide) rfl (Or.inl rfl) rfl rfl rfl ?_
  clear H m; intro m H
  refine w_p h_m20 2 (pc' := 42) (L' := [(0, .ref 106)]) (st' := [.int (0 : Int32), .ref 106]) rfl ?_
  refine w_pf H (12, 18, [(15, .int (0 : Int32)), (14, .int (0 : Int32)), (13, .int (0 : Int32)), (12, .int (0 : Int32)), (11, .int (0 : Int32)), (10, .int (0 : Int32)), (9, .long (0 : Int64)), (8, .int (0 : Int32)), (2, .int (0 : Int32)), (0, .ref 41), (17, .ref 116), (16, .ref 114), (7, .ref 113), (6, .ref 112), (5, .ref 111), (4, .ref 110), (3, .ref 109), (1, .ref 107)], none) (pc' := 45) (L' := [(0, .ref 106)]) h_m20 (z_at.mk 3 rfl rfl) rfl (by decide) rfl (Or.inl rfl) rfl rfl rfl ?_
  clear H m; intro m H
  refine w_rv h_m20 (z_at.mk 1 rfl rfl) rfl ?_
  show z_W 998 145 7 [(0, .ref 39), (1, .int (33 : Int32))] [] m _
  refine w_p h_m145 1 (pc' := 8) (L' := [(0, .ref 39), (1, .int (33 : Int32))]) (st' := [.ref 39]) rfl ?_
  refine w_gf H (pc' := 11) (L' := [(0, .ref 39), (1, .int (33 : Int32))]) h_m145 (z_at.mk 3 rfl rfl) rfl (u := .ref 106) rfl rfl rfl ?_
  refine w_gf H (pc' := 14) (L' := [(0, .ref 39), (1, .int (33 : Int32))]) h_m145 (z_at.mk 3 rfl rfl) rfl (u := .ref 107) rfl rfl rfl ?_
  refine w_p h_m145 1 (pc' := 15) (L' := [(0, .ref 39), (1, .int (33 : Int32))]) (st' := [.ref 39, .ref 107]) rfl ?_
  refine w_gf H (pc' := 18) (L' := [(0, .ref 39), (1, .int (33 : Int32))]) h_m145 (z_at.mk 3 rfl rfl) rfl (u := .ref 40) rfl rfl rfl ?_
  refine w_gf H (pc' := 21) (L' := [(0, .ref 39), (1, .int (33 : Int32))]) h_m145 (z_at.mk 3 rfl rfl) rfl (u := .ref 48) rfl rfl rfl ?_
  refine w_gf H (pc' := 24) (L' := [(0, .ref 39), (1, .int (33 : Int32))]) h_m145 (z_at.mk 3 rfl rfl) rfl (u := .ref 49) rfl rfl rfl ?_
  refine w_cv (H.t rfl) (pc' := 27) (L' := [(0, .ref 39), (1, .int (33 : Int32))]) (rest := []) (Ps := [.ref 49]) (L0 := [(0, .ref 107), (1, .ref 49)]) h_m145 (z_at.mk 3 rfl rfl) (Or.inl ⟨rfl, rfl⟩) rfl rfl (by decide) (by decide) rfl rfl rfl rfl rfl rfl (by decide) rfl rfl rfl ?_
  refine w_p h_m74 1 (pc' := 1) (L' := [(0, .ref 107), (1, .ref 49)]) (st' := [.ref 49]) rfl ?_
  refine w_gf H (pc' := 4) (L' := [(0, .ref 107), (1, .ref 49)]) h_m74 (z_at.mk 3 rfl rfl) rfl (u := .ref 50) rfl rfl rfl ?_
  refine w_p h_m74 2 (pc' := 6) (L' := [(0, .ref 107), (1, .ref 49)]) (st' := [.ref 107, .int (0 : Int32), .ref 50]) rfl ?_
  refine w_gf H (pc' := 9) (L' := [(0, .ref 107), (1, .ref 49)]) h_m74 (z_at.mk 3 rfl rfl) rfl (u := .ref 108) rfl rfl rfl ?_
  refine w_p h_m74 2 (pc' := 12) (L' := [(0, .ref 107), (1, .ref 49)]) (st' := [.int (7 : Int32), .int (0 : Int32), .ref 108, .int (0 : Int32), .ref 50]) rfl ?_
  refine w_cpf H (ra := (0, 7, [(6, .int (1024 : Int32)), (5, .int (1 : Int32)), (4, .int (1 : Int32)), (3, .int (0 : Int32)), (2, .int (12 : Int32)), (1, .int (40 : Int32)), (0, .int (10 : Int32))], some (.int (0 : Int32)))) (pc' := 15) (L' := [(0, .ref 107), (1, .ref 49)]) h_m74 (z_at.mk 3 rfl rfl) rfl (z_cat_le 0 rfl (by decide)) rfl rfl rfl rfl (by decide) rfl rfl ?_
  clear H m; intro m H
  refine w_rv h_m74 (z_at.mk 1 rfl rfl) rfl ?_
  show z_W 998 145 27 [(0, .ref 39), (1, .int (33 : Int32))] [] m _
  refine w_p h_m145 1 (pc' := 28) (L' := [(0, .ref 39), (1, .int (33 : Int32))]) (st' := [.ref 39]) rfl ?_
  refine w_gf H (pc' := 31) (L' := [(0, .ref 39), (1, .int (33 : Int32))]) h_m145 (z_at.mk 3 rfl rfl) rfl (u := .ref 106) rfl rfl rfl ?_
  refine w_gf H (pc' := 34) (L' := [(0, .ref 39), (1, .int (33 : Int32))]) h_m145 (z_at.mk 3 rfl rfl) rfl (u := .ref 107) rfl rfl rfl ?_
  refine w_p h_m145 2 (pc' := 36) (L' := [(0, .ref 39), (1, .int (33 : Int32))]) (st' := [.int (33 : Int32), .int (1 : Int32), .ref 107]) rfl ?_
  refine w_cv (H.t rfl) (pc' := 39) (L' := [(0, .ref 39), (1, .int (33 : Int32))]) (rest := []) (Ps := [.int (1 : Int32), .int (33 : Int32)]) (L0 := [(0, .ref 107), (1, .int (1 : Int32)), (2, .int (33 : Int32))]) h_m145 (z_at.mk 3 rfl rfl) (Or.inl ⟨rfl, rfl⟩) rfl rfl (by decide) (by decide) rfl rfl rfl rfl rfl rfl (by decide) rfl rfl rfl ?_
  refine w_p h_m73 6 (pc' := 11) (L' := [(0, .ref 107), (1, .int (1 : Int32)), (2, .int (33 : Int32))]) (st' := [.ref 107]) rfl ?_
  refine w_gf H (pc' := 14) (L' := [(0, .ref 107), (1, .int (1 : Int32)), (2, .int (33 : Int32))]) h_m73 (z_at.mk 3 rfl rfl) rfl (u := .ref 108) rfl rfl rfl ?_
  refine w_p h_m73 2 (pc' := 16) (L' := [(0, .ref 107), (1, .int (1 : Int32)), (2, .int (33 : Int32))]) (st' := [.int (33 : Int32), .int (1 : Int32), .ref 108]) rfl ?_
  refine w_as H (t := 0) (j := 1) (u := .int (33 : Int32)) (0, 7, [(1, .int (33 : Int32)), (6, .int (1024 : Int32)), (5, .int (1 : Int32)), (4, .int (1 : Int32)), (3, .int (0 : Int32)), (2, .int (12 : Int32)), (0, .int (10 : Int32))], some (.int (0 : Int32))) (pc' := 17) (L' := []) h_m73 (z_at.mk 1 rfl rfl) rfl rfl (w_ui _ _ (by decide)) rfl rfl rfl rfl ?_
  clear H m; intro m H
  refine w_rv h_m73 (z_at.mk 1 rfl rfl) rfl ?_
  show z_W 998 145 39 [(0, .ref 39), (1, .int (33 : Int32))] [] m _
  refine w_p h_m145 4 (pc' := 43) (L' := [(0, .ref 39), (2, .int (0 : Int32))]) (st' := [.ref 39, .int (0 : Int32)]) rfl ?_
  refine w_gf H (pc' := 46) (L' := [(0, .ref 39), (2, .int (0 : Int32))]) h_m145 (z_at.mk 3 rfl rfl) rfl (u := .ref 40) rfl rfl rfl ?_
  refine w_gf H (pc' := 49) (L' := [(0, .ref 39), (2, .int (0 : Int32))]) h_m145 (z_at.mk 3 rfl rfl) rfl (u := .ref 63) rfl rfl rfl ?_
  refine w_gf H (pc' := 52) (L' := [(0, .ref 39), (2, .int (0 : Int32))]) h_m145 (z_at.mk 3 rfl rfl) rfl (u := .int (0 : Int32)) rfl rfl rfl ?_
  refine w_p h_m145 1 (pc' := 79) (L' := [(0, .ref 39), (2, .int (0 : Int32))]) (st' := []) rfl ?_
  refine w_rv h_m145 (z_at.mk 1 rfl rfl) rfl ?_
  show z_W 999 146 13 [(0, .ref 39), (1, .int (xs 1)), (2, .int (33 : Int32))] [] m _
  refine w_p h_m146 1 (pc' := 14) (L' := [(0, .ref 39), (1, .int (xs 1)), (2, .int (33 : Int32))]) (st' := [.ref 39]) rfl ?_
  refine w_gf H (pc' := 17) (L' := [(0, .ref 39), (1, .int (xs 1)), (2, .int (33 : Int32))]) h_m146 (z_at.mk 3 rfl rfl) rfl (u := .ref 106) rfl rfl rfl ?_
  refine w_gf H (pc' := 20) (L' := [(0, .ref 39), (1, .int (xs 1)), (2, .int (33 : Int32))]) h_m146 (z_at.mk 3 rfl rfl) rfl (u := .int (0 : Int32)) rfl rfl rfl ?_
  refine w_p h_m146 1 (pc' := 21) (L' := [(0, .ref 39), (1, .int (xs 1)), (2, .int (33 : Int32))]) (st' := [.int (xs 1), .int (0 : Int32)]) rfl ?_
  refine w_t2 (pc' := 26) (L' := [(0, .ref 39), (1, .int (xs 1)), (2, .int (33 : Int32))]) h_m146 (z_at.mk 3 rfl rfl) rfl (zc (a := 0) (b := (xs 1).toInt) rfl rfl (decide_eq_true (by omega))) rfl rfl ?_
  refine w_p h_m146 2 (pc' := 2) (L' := [(0, .ref 39), (1, .int (xs 1)), (2, .int (34 : Int32))]) (st' := []) rfl ?_
  exact hQ m (H.subC (by decide +kernel))
set_option maxHeartbeats 400000000 in
set_option maxRecDepth 20000 in
theorem w_turn_146_34 {xs : Nat → Int32} {m : zM} {Q : Option Value → zM → Prop} (hp : (xs 1).toInt < 0) (H : w_ok 6 xs 168 63950 ((106, (12, 18, [(15, .int (0 : Int32)), (14, .int (0 : Int32)), (13, .int (0 : Int32)), (12, .int (0 : Int32)), (11, .int (0 : Int32)), (10, .int (0 : Int32)), (9, .long (0 : Int64)), (8, .int (0 : Int32)), (2, .int (0 : Int32)), (0, .ref 41), (17, .ref 116), (16, .ref 114), (7, .ref 113), (6, .ref 112), (5, .ref 111), (4, .ref 110), (3, .ref 109), (1, .ref 107)], none)) :: (108, (0, 7, [(1, .int (33 : Int32)), (6, .int (1024 : Int32)), (5, .int (1 : Int32)), (4, .int (1 : Int32)), (3, .int (0 : Int32)), (2, .int (12 : Int32)), (0, .int (10 : Int32))], some (.int (0 : Int32)))) :: w_T0) m) (hQ : ∀ m, w_ok 6 xs 168 63950 ((106, (12, 18, [(15, .int (0 : Int32)), (14, .int (0 : Int32)), (13, .int (0 : Int32)), (12, .int (0 : Int32)), (11, .int (0 : Int32)), (10, .int (0 : Int32)), (9, .long (0 : Int64)), (8, .int (0 : Int32)), (2, .int (0 : Int32)), (0, .ref 41), (17, .ref 116), (16, .ref 114), (7, .ref 113), (6, .ref 112), (5, .ref 111), (4, .ref 110), (3, .ref 109), (1, .ref 107)], none)) :: (108, (0, 7, [(1, .int (34 : Int32)), (6, .int (1024 : Int32)), (5, .int (1 : Int32)), (4, .int (1 : Int32)), (3, .int (0 : Int32)), (2, .int (12 : Int32)), (0, .int (10 : Int32))], some (.int (0 : Int32)))) :: w_T0) m → z_W 999 146 2 [(0, .ref 39), (1, .int (xs 1)), (2, .int (35 : Int32))] [] m Q) : z_W 999 146 2 [(0, .ref 39), (1, .int (xs 1)), (2, .int (34 : Int32))] [] m Q := by
  refine w_p h_m146 5 (pc' := 10) (L' := [(0, .ref 39), (1, .int (xs 1)), (2, .int (34 : Int32))]) (st' := [.int (34 : Int32), .ref 39]) rfl ?_
  refine w_cv (H.t rfl) (pc' := 13) (L' := [(0, .ref 39), (1, .int (xs 1)), (2, .int (34 : Int32))]) (rest := []) (Ps := [.int (34 : Int32)]) (L0 := [(0, .ref 39), (1, .int (34 : Int32))]) h_m146 (z_at.mk 3 rfl rfl) (Or.inl ⟨rfl, rfl⟩) rfl rfl (by decide) (by decide) rfl rfl rfl rfl rfl rfl (by decide) rfl rfl rfl ?_
  refine w_p h_m145 1 (pc' := 1) (L' := [(0, .ref 39), (1, .int (34 : Int32))]) (st' := [.ref 39]) rfl ?_
  refine w_gf H (pc' := 4) (L' := [(0, .ref 39), (1, .int (34 : Int32))]) h_m145 (z_at.mk 3 rfl rfl) rfl (u := .ref 106) rfl rfl rfl ?_
  refine w_cv (H.t rfl) (pc' := 7) (L' := [(0, .ref 39), (1, .int (34 : Int32))]) (rest := []) (Ps := []) (L0 := [(0, .ref 106)]) h_m145 (z_at.mk 3 rfl rfl) (Or.inl ⟨rfl, rfl⟩) rfl rfl (by decide) (by decide) rfl rfl rfl rfl rfl rfl (by decide) rfl rfl rfl ?_
  refine w_p h_m20 2 (pc' := 2) (L' := [(0, .ref 106)]) (st' := [.int (0 : Int32), .ref 106]) rfl ?_
  refine w_pf H (12, 18, [(2, .int (0 : Int32)), (15, .int (0 : Int32)), (14, .int (0 : Int32)), (13, .int (0 : Int32)), (12, .int (0 : Int32)), (11, .int (0 : Int32)), (10, .int (0 : Int32)), (9, .long (0 : Int64)), (8, .int (0 : Int32)), (0, .ref 41), (17, .ref 116), (16, .ref 114), (7, .ref 113), (6, .ref 112), (5, .ref 111), (4, .ref 110), (3, .ref 109), (1, .ref 107)], none) (pc' := 5) (L' := [(0, .ref 106)]) h_m20 (z_at.mk 3 rfl rfl) rfl (by decide) rfl (Or.inl rfl) rfl rfl rfl ?_
  clear H m; intro m H
  refine w_p h_m20 2 (pc' := 7) (L' := [(0, .ref 106)]) (st' := [.int (0 : Int32), .ref 106]) rfl ?_
  refine w_pf H (12, 18, [(8, .int (0 : Int32)), (2, .int (0 : Int32)), (15, .int (0 : Int32)), (14, .int (0 : Int32)), (13, .int (0 : Int32)), (12, .int (0 : Int32)), (11, .int (0 : Int32)), (10, .int (0 : Int32)), (9, .long (0 : Int64)), (0, .ref 41), (17, .ref 116), (16, .ref 114), (7, .ref 113), (6, .ref 112), (5, .ref 111), (4, .ref 110), (3, .ref 109), (1, .ref 107)], none) (pc' := 10) (L' := [(0, .ref 106)]) h_m20 (z_at.mk 3 rfl rfl) rfl (by decide) rfl (Or.inl rfl) rfl rfl rfl ?_
  clear H m; intro m H
  refine w_p h_m20 2 (pc' := 12) (L' := [(0, .ref 106)]) (st' := [.long (0 : Int64), .ref 106]) rfl ?_
  refine w_pf H (12, 18, [(9, .long (0 : Int64)), (8, .int (0 : Int32)), (2, .int (0 : Int32)), (15, .int (0 : Int32)), (14, .int (0 : Int32)), (13, .int (0 : Int32)), (12, .int (0 : Int32)), (11, .int (0 : Int32)), (10, .int (0 : Int32)), (0, .ref 41), (17, .ref 116), (16, .ref 114), (7, .ref 113), (6, .ref 112), (5, .ref 111), (4, .ref 110), (3, .ref 109), (1, .ref 107)], none) (pc' := 15) (L' := [(0, .ref 106)]) h_m20 (z_at.mk 3 rfl rfl) rfl (by decide) rfl (Or.inl rfl) rfl rfl rfl ?_
  clear H m; intro m H
  refine w_p h_m20 2 (pc' := 17) (L' := [(0, .ref 106)]) (st' := [.int (0 : Int32), .ref 106]) rfl ?_
  refine w_pf H (12, 18, [(10, .int (0 : Int32)), (9, .long (0 : Int64)), (8, .int (0 : Int32)), (2, .int (0 : Int32)), (15, .int (0 : Int32)), (14, .int (0 : Int32)), (13, .int (0 : Int32)), (12, .int (0 : Int32)), (11, .int (0 : Int32)), (0, .ref 41), (17, .ref 116), (16, .ref 114), (7, .ref 113), (6, .ref 112), (5, .ref 111), (4, .ref 110), (3, .ref 109), (1, .ref 107)], none) (pc' := 20) (L' := [(0, .ref 106)]) h_m20 (z_at.mk 3 rfl rfl) rfl (by decide) rfl (Or.inl rfl) rfl rfl rfl ?_
  clear H m; intro m H
  refine w_p h_m20 2 (pc' := 22) (L' := [(0, .ref 106)]) (st' := [.int (0 : Int32), .ref 106]) rfl ?_
  refine w_pf H (12, 18, [(11, .int (0 : Int32)), (10, .int (0 : Int32)), (9, .long (0 : Int64)), (8, .int (0 : Int32)), (2, .int (0 : Int32)), (15, .int (0 : Int32)), (14, .int (0 : Int32)), (13, .int (0 : Int32)), (12, .int (0 : Int32)), (0, .ref 41), (17, .ref 116), (16, .ref 114), (7, .ref 113), (6, .ref 112), (5, .ref 111), (4, .ref 110), (3, .ref 109), (1, .ref 107)], none) (pc' := 25) (L' := [(0, .ref 106)]) h_m20 (z_at.mk 3 rfl rfl) rfl (by decide) rfl (Or.inl rfl) rfl rfl rfl ?_
  clear H m; intro m H
  refine w_p h_m20 2 (pc' := 27) (L' := [(0, .ref 106)]) (st' := [.int (0 : Int32), .ref 106]) rfl ?_
  refine w_pf H (12, 18, [(12, .int (0 : Int32)), (11, .int (0 : Int32)), (10, .int (0 : Int32)), (9, .long (0 : Int64)), (8, .int (0 : Int32)), (2, .int (0 : Int32)), (15, .int (0 : Int32)), (14, .int (0 : Int32)), (13, .int (0 : Int32)), (0, .ref 41), (17, .ref 116), (16, .ref 114), (7, .ref 113), (6, .ref 112), (5, .ref 111), (4, .ref 110), (3, .ref 109), (1, .ref 107)], none) (pc' := 30) (L' := [(0, .ref 106)]) h_m20 (z_at.mk 3 rfl rfl) rfl (by decide) rfl (Or.inl rfl) rfl rfl rfl ?_
  clear H m; intro m H
  refine w_p h_m20 2 (pc' := 32) (L' := [(0, .ref 106)]) (st' := [.int (0 : Int32), .ref 106]) rfl ?_
  refine w_pf H (12, 18, [(13, .int (0 : Int32)), (12, .int (0 : Int32)), (11, .int (0 : Int32)), (10, .int (0 : Int32)), (9, .long (0 : Int64)), (8, .int (0 : Int32)), (2, .int (0 : Int32)), (15, .int (0 : Int32)), (14, .int (0 : Int32)), (0, .ref 41), (17, .ref 116), (16, .ref 114), (7, .ref 113), (6, .ref 112), (5, .ref 111), (4, .ref 110), (3, .ref 109), (1, .ref 107)], none) (pc' := 35) (L' := [(0, .ref 106)]) h_m20 (z_at.mk 3 rfl rfl) rfl (by decide) rfl (Or.inl rfl) rfl rfl rfl ?_
  clear H m; intro m H
  refine w_p h_m20 2 (pc' := 37) (L' := [(0, .ref 106)]) (st' := [.int (0 : Int32), .ref 106]) rfl ?_
  refine w_pf H (12, 18, [(14, .int (0 : Int32)), (13, .int (0 : Int32)), (12, .int (0 : Int32)), (11, .int (0 : Int32)), (10, .int (0 : Int32)), (9, .long (0 : Int64)), (8, .int (0 : Int32)), (2, .int (0 : Int32)), (15, .int (0 : Int32)), (0, .ref 41), (17, .ref 116), (16, .ref 114), (7, .ref 113), (6, .ref 112), (5, .ref 111), (4, .ref 110), (3, .ref 109), (1, .ref 107)], none) (pc' := 40) (L' := [(0, .ref 106)]) h_m20 (z_at.mk 3 rfl rfl) rfl (by decide) rfl (Or.inl rfl) rfl rfl rfl ?_
  clear H m; intro m H
  refine w_p h_m20 2 (pc' := 42) (L' := [(0, .ref 106)]) (st' := [.int (0 : Int32), .ref 106]) rfl ?_
  refine w_pf H (12, 18, [(15, .int (0 : Int32)), (14, .int (0 : Int32)), (13, .int (0 : Int32)), (12, .int (0 : Int32)), (11, .int (0 : Int32)), (10, .int (0 : Int32)), (9, .long (0 : Int64)), (8, .int (0 : Int32)), (2, .int (0 : Int32)), (0, .ref 41), (17, .ref 116), (16, .ref 114), (7, .ref 113), (6, .ref 112), (5, .ref 111), (4, .ref 110), (3, .ref 109), (1, .ref 107)], none) (pc' := 45) (L' := [(0, .ref 106)]) h_m20 (z_at.mk 3 rfl rfl) rfl (by decide) rfl (Or.inl rfl) rfl rfl rfl ?_
  clear H m; intro m H
  refine w_rv h_m20 (z_at.mk 1 rfl rfl) rfl ?_
  show z_W 998 145 7 [(0, .ref 39), (1, .int (34 : Int32))] [] m _
  refine w_p h_m145 1 (pc' := 8) (L' := [(0, .ref 39), (1, .int (34 : Int32))]) (st' := [.ref 39]) rfl ?_
  refine w_gf H (pc' := 11) (L' := [(0, .ref 39), (1, .int (34 : Int32))]) h_m145 (z_at.mk 3 rfl rfl) rfl (u := .ref 106) rfl rfl rfl ?_
  refine w_gf H (pc' := 14) (L' := [(0, .ref 39), (1, .int (34 : Int32))]) h_m145 (z_at.mk 3 rfl rfl) rfl (u := .ref 107) rfl rfl rfl ?_
  refine w_p h_m145 1 (pc' := 15) (L' := [(0, .ref 39), (1, .int (34 : Int32))]) (st' := [.ref 39, .ref 107]) rfl ?_
  refine w_gf H (pc' := 18) (L' := [(0, .ref 39), (1, .int (34 : Int32))]) h_m145 (z_at.mk 3 rfl rfl) rfl (u := .ref 40) rfl rfl rfl ?_
  refine w_gf H (pc' := 21) (L' := [(0, .ref 39), (1, .int (34 : Int32))]) h_m145 (z_at.mk 3 rfl rfl) rfl (u := .ref 48) rfl rfl rfl ?_
  refine w_gf H (pc' := 24) (L' := [(0, .ref 39), (1, .int (34 : Int32))]) h_m145 (z_at.mk 3 rfl rfl) rfl (u := .ref 49) rfl rfl rfl ?_
  refine w_cv (H.t rfl) (pc' := 27) (L' := [(0, .ref 39), (1, .int (34 : Int32))]) (rest := []) (Ps := [.ref 49]) (L0 := [(0, .ref 107), (1, .ref 49)]) h_m145 (z_at.mk 3 rfl rfl) (Or.inl ⟨rfl, rfl⟩) rfl rfl (by decide) (by decide) rfl rfl rfl rfl rfl rfl (by decide) rfl rfl rfl ?_
  refine w_p h_m74 1 (pc' := 1) (L' := [(0, .ref 107), (1, .ref 49)]) (st' := [.ref 49]) rfl ?_
  refine w_gf H (pc' := 4) (L' := [(0, .ref 107), (1, .ref 49)]) h_m74 (z_at.mk 3 rfl rfl) rfl (u := .ref 50) rfl rfl rfl ?_
  refine w_p h_m74 2 (pc' := 6) (L' := [(0, .ref 107), (1, .ref 49)]) (st' := [.ref 107, .int (0 : Int32), .ref 50]) rfl ?_
  refine w_gf H (pc' := 9) (L' := [(0, .ref 107), (1, .ref 49)]) h_m74 (z_at.mk 3 rfl rfl) rfl (u := .ref 108) rfl rfl rfl ?_
  refine w_p h_m74 2 (pc' := 12) (L' := [(0, .ref 107), (1, .ref 49)]) (st' := [.int (7 : Int32), .int (0 : Int32), .ref 108, .int (0 : Int32), .ref 50]) rfl ?_
  refine w_cpf H (ra := (0, 7, [(6, .int (1024 : Int32)), (5, .int (1 : Int32)), (4, .int (1 : Int32)), (3, .int (0 : Int32)), (2, .int (12 : Int32)), (1, .int (40 : Int32)), (0, .int (10 : Int32))], some (.int (0 : Int32)))) (pc' := 15) (L' := [(0, .ref 107), (1, .ref 49)]) h_m74 (z_at.mk 3 rfl rfl) rfl (z_cat_le 0 rfl (by decide)) rfl rfl rfl rfl (by decide) rfl rfl ?_
  clear H m; intro m H
  refine w_rv h_m74 (z_at.mk 1 rfl rfl) rfl ?_
  show z_W 998 145 27 [(0, .ref 39), (1, .int (34 : Int32))] [] m _
  refine w_p h_m145 1 (pc' := 28) (L' := [(0, .ref 39), (1, .int (34 : Int32))]) (st' := [.ref 39]) rfl ?_
  refine w_gf H (pc' := 31) (L' := [(0, .ref 39), (1, .int (34 : Int32))]) h_m145 (z_at.mk 3 rfl rfl) rfl (u := .ref 106) rfl rfl rfl ?_
  refine w_gf H (pc' := 34) (L' := [(0, .ref 39), (1, .int (34 : Int32))]) h_m145 (z_at.mk 3 rfl rfl) rfl (u := .ref 107) rfl rfl rfl ?_
  refine w_p h_m145 2 (pc' := 36) (L' := [(0, .ref 39), (1, .int (34 : Int32))]) (st' := [.int (34 : Int32), .int (1 : Int32), .ref 107]) rfl ?_
  refine w_cv (H.t rfl) (pc' := 39) (L' := [(0, .ref 39), (1, .int (34 : Int32))]) (rest := []) (Ps := [.int (1 : Int32), .int (34 : Int32)]) (L0 := [(0, .ref 107), (1, .int (1 : Int32)), (2, .int (34 : Int32))]) h_m145 (z_at.mk 3 rfl rfl) (Or.inl ⟨rfl, rfl⟩) rfl rfl (by decide) (by decide) rfl rfl rfl rfl rfl rfl (by decide) rfl rfl rfl ?_
  refine w_p h_m73 6 (pc' := 11) (L' := [(0, .ref 107), (1, .int (1 : Int32)), (2, .int (34 : Int32))]) (st' := [.ref 107]) rfl ?_
  refine w_gf H (pc' := 14) (L' := [(0, .ref 107), (1, .int (1 : Int32)), (2, .int (34 : Int32))]) h_m73 (z_at.mk 3 rfl rfl) rfl (u := .ref 108) rfl rfl rfl ?_
  refine w_p h_m73 2 (pc' := 16) (L' := [(0, .ref 107), (1, .int (1 : Int32)), (2, .int (34 : Int32))]) (st' := [.int (34 : Int32), .int (1 : Int32), .ref 108]) rfl ?_
  refine w_as H (t := 0) (j := 1) (u := .int (34 : Int32)) (0, 7, [(1, .int (34 : Int32)), (6, .int (1024 : Int32)), (5, .int (1 : Int32)), (4, .int (1 : Int32)), (3, .int (0 : Int32)), (2, .int (12 : Int32)), (0, .int (10 : Int32))], some (.int (0 : Int32))) (pc' := 17) (L' := []) h_m73 (z_at.mk 1 rfl rfl) rfl rfl (w_ui _ _ (by decide)) rfl rfl rfl rfl ?_
  clear H m; intro m H
  refine w_rv h_m73 (z_at.mk 1 rfl rfl) rfl ?_
  show z_W 998 145 39 [(0, .ref 39), (1, .int (34 : Int32))] [] m _
  refine w_p h_m145 4 (pc' := 43) (L' := [(0, .ref 39), (2, .int (0 : Int32))]) (st' := [.ref 39, .int (0 : Int32)]) rfl ?_
  refine w_gf H (pc' := 46) (L' := [(0, .ref 39), (2, .int (0 : Int32))]) h_m145 (z_at.mk 3 rfl rfl) rfl (u := .ref 40) rfl rfl rfl ?_
  refine w_gf H (pc' := 49) (L' := [(0, .ref 39), (2, .int (0 : Int32))]) h_m145 (z_at.mk 3 rfl rfl) rfl (u := .ref 63) rfl rfl rfl ?_
  refine w_gf H (pc' := 52) (L' := [(0, .ref 39), (2, .int (0 : Int32))]) h_m145 (z_at.mk 3 rfl rfl) rfl (u := .int (0 : Int32)) rfl rfl rfl ?_
  refine w_p h_m145 1 (pc' := 79) (L' := [(0, .ref 39), (2, .int (0 : Int32))]) (st' := []) rfl ?_
  refine w_rv h_m145 (z_at.mk 1 rfl rfl) rfl ?_
  show z_W 999 146 13 [(0, .ref 39), (1, .int (xs 1)), (2, .int (34 : Int32))] [] m _
  refine w_p h_m146 1 (pc' := 14) (L' := [(0, .ref 39), (1, .int (xs 1)), (2, .int (34 : Int32))]) (st' := [.ref 39]) rfl ?_
  refine w_gf H (pc' := 17) (L' := [(0, .ref 39), (1, .int (xs 1)), (2, .int (34 : Int32))]) h_m146 (z_at.mk 3 rfl rfl) rfl (u := .ref 106) rfl rfl rfl ?_
  refine w_gf H (pc' := 20) (L' := [(0, .ref 39), (1, .int (xs 1)), (2, .int (34 : Int32))]) h_m146 (z_at.mk 3 rfl rfl) rfl (u := .int (0 : Int32)) rfl rfl rfl ?_
  refine w_p h_m146 1 (pc' := 21) (L' := [(0, .ref 39), (1, .int (xs 1)), (2, .int (34 : Int32))]) (st' := [.int (xs 1), .int (0 : Int32)]) rfl ?_
  refine w_t2 (pc' := 26) (L' := [(0, .ref 39), (1, .int (xs 1)), (2, .int (34 : Int32))]) h_m146 (z_at.mk 3 rfl rfl) rfl (zc (a := 0) (b := (xs 1).toInt) rfl rfl (decide_eq_true (by omega))) rfl rfl ?_
  refine w_p h_m146 2 (pc' := 2) (L' := [(0, .ref 39), (1, .int (xs 1)), (2, .int (35 : Int32))]) (st' := []) rfl ?_
  exact hQ m (H.subC (by decide +kernel))
set_option maxHeartbeats 400000000 in
set_option maxRecDepth 20000 in
theorem w_turn_146_35 {xs : Nat → Int32} {m : zM} {Q : Option Value → zM → Prop} (hp : (xs 1).toInt < 0) (H : w_ok 6 xs 168 63950 ((106, (12, 18, [(15, .int (0 : Int32)), (14, .int (0 : Int32)), (13, .int (0 : Int32)), (12, .int (0 : Int32)), (11, .int (0 : Int32)), (10, .int (0 : Int32)), (9, .long (0 : Int64)), (8, .int (0 : Int32)), (2, .int (0 : Int32)), (0, .ref 41), (17, .ref 116), (16, .ref 114), (7, .ref 113), (6, .ref 112), (5, .ref 111), (4, .ref 110), (3, .ref 109), (1, .ref 107)], none)) :: (108, (0, 7, [(1, .int (34 : Int32)), (6, .int (1024 : Int32)), (5, .int (1 : Int32)), (4, .int (1 : Int32)), (3, .int (0 : Int32)), (2, .int (12 : Int32)), (0, .int (10 : Int32))], some (.int (0 : Int32)))) :: w_T0) m) (hQ : ∀ m, w_ok 6 xs 168 63950 ((106, (12, 18, [(15, .int (0 : Int32)), (14, .int (0 : Int32)), (13, .int (0 : Int32)), (12, .int (0 : Int32)), (11, .int (0 : Int32)), (10, .int (0 : Int32)), (9, .long (0 : Int64)), (8, .int (0 : Int32)), (2, .int (0 : Int32)), (0, .ref 41), (17, .ref 116), (16, .ref 114), (7, .ref 113), (6, .ref 112), (5, .ref 111), (4, .ref 110), (3, .ref 109), (1, .ref 107)], none)) :: (108, (0, 7, [(1, .int (35 : Int32)), (6, .int (1024 : Int32)), (5, .int (1 : Int32)), (4, .int (1 : Int32)), (3, .int (0 : Int32)), (2, .int (12 : Int32)), (0, .int (10 : Int32))], some (.int (0 : Int32)))) :: w_T0) m → z_W 999 146 2 [(0, .ref 39), (1, .int (xs 1)), (2, .int (36 : Int32))] [] m Q) : z_W 999 146 2 [(0, .ref 39), (1, .int (xs 1)), (2, .int (35 : Int32))] [] m Q := by
  refine w_p h_m146 5 (pc' := 10) (L' := [(0, .ref 39), (1, .int (xs 1)), (2, .int (35 : Int32))]) (st' := [.int (35 : Int32), .ref 39]) rfl ?_
  refine w_cv (H.t rfl) (pc' := 13) (L' := [(0, .ref 39), (1, .int (xs 1)), (2, .int (35 : Int32))]) (rest := []) (Ps := [.int (35 : Int32)]) (L0 := [(0, .ref 39), (1, .int (35 : Int32))]) h_m146 (z_at.mk 3 rfl rfl) (Or.inl ⟨rfl, rfl⟩) rfl rfl (by decide) (by decide) rfl rfl rfl rfl rfl rfl (by decide) rfl rfl rfl ?_
  refine w_p h_m145 1 (pc' := 1) (L' := [(0, .ref 39), (1, .int (35 : Int32))]) (st' := [.ref 39]) rfl ?_
  refine w_gf H (pc' := 4) (L' := [(0, .ref 39), (1, .int (35 : Int32))]) h_m145 (z_at.mk 3 rfl rfl) rfl (u := .ref 106) rfl rfl rfl ?_
  refine w_cv (H.t rfl) (pc' := 7) (L' := [(0, .ref 39), (1, .int (35 : Int32))]) (rest := []) (Ps := []) (L0 := [(0, .ref 106)]) h_m145 (z_at.mk 3 rfl rfl) (Or.inl ⟨rfl, rfl⟩) rfl rfl (by decide) (by decide) rfl rfl rfl rfl rfl rfl (by decide) rfl rfl rfl ?_
  refine w_p h_m20 2 (pc' := 2) (L' := [(0, .ref 106)]) (st' := [.int (0 : Int32), .ref 106]) rfl ?_
  refine w_pf H (12, 18, [(2, .int (0 : Int32)), (15, .int (0 : Int32)), (14, .int (0 : Int32)), (13, .int (0 : Int32)), (12, .int (0 : Int32)), (11, .int (0 : Int32)), (10, .int (0 : Int32)), (9, .long (0 : Int64)), (8, .int (0 : Int32)), (0, .ref 41), (17, .ref 116), (16, .ref 114), (7, .ref 113), (6, .ref 112), (5, .ref 111), (4, .ref 110), (3, .ref 109), (1, .ref 107)], none) (pc' := 5) (L' := [(0, .ref 106)]) h_m20 (z_at.mk 3 rfl rfl) rfl (by decide) rfl (Or.inl rfl) rfl rfl rfl ?_
  clear H m; intro m H
  refine w_p h_m20 2 (pc' := 7) (L' := [(0, .ref 106)]) (st' := [.int (0 : Int32), .ref 106]) rfl ?_
  refine w_pf H (12, 18, [(8, .int (0 : Int32)), (2, .int (0 : Int32)), (15, .int (0 : Int32)), (14, .int (0 : Int32)), (13, .int (0 : Int32)), (12, .int (0 : Int32)), (11, .int (0 : Int32)), (10, .int (0 : Int32)), (9, .long (0 : Int64)), (0, .ref 41), (17, .ref 116), (16, .ref 114), (7, .ref 113), (6, .ref 112), (5, .ref 111), (4, .ref 110), (3, .ref 109), (1, .ref 107)], none) (pc' := 10) (L' := [(0, .ref 106)]) h_m20 (z_at.mk 3 rfl rfl) rfl (by decide) rfl (Or.inl rfl) rfl rfl rfl ?_
  clear H m; intro m H
  refine w_p h_m20 2 (pc' := 12) (L' := [(0, .ref 106)]) (st' := [.long (0 : Int64), .ref 106]) rfl ?_
  refine w_pf H (12, 18, [(9, .long (0 : Int64)), (8, .int (0 : Int32)), (2, .int (0 : Int32)), (15, .int (0 : Int32)), (14, .int (0 : Int32)), (13, .int (0 : Int32)), (12, .int (0 : Int32)), (11, .int (0 : Int32)), (10, .int (0 : Int32)), (0, .ref 41), (17, .ref 116), (16, .ref 114), (7, .ref 113), (6, .ref 112), (5, .ref 111), (4, .ref 110), (3, .ref 109), (1, .ref 107)], none) (pc' := 15) (L' := [(0, .ref 106)]) h_m20 (z_at.mk 3 rfl rfl) rfl (by decide) rfl (Or.inl rfl) rfl rfl rfl ?_
  clear H m; intro m H
  refine w_p h_m20 2 (pc' := 17) (L' := [(0, .ref 106)]) (st' := [.int (0 : Int32), .ref 106]) rfl ?_
  refine w_pf H (12, 18, [(10, .int (0 : Int32)), (9, .long (0 : Int64)), (8, .int (0 : Int32)), (2, .int (0 : Int32)), (15, .int (0 : Int32)), (14, .int (0 : Int32)), (13, .int (0 : Int32)), (12, .int (0 : Int32)), (11, .int (0 : Int32)), (0, .ref 41), (17, .ref 116), (16, .ref 114), (7, .ref 113), (6, .ref 112), (5, .ref 111), (4, .ref 110), (3, .ref 109), (1, .ref 107)], none) (pc' := 20) (L' := [(0, .ref 106)]) h_m20 (z_at.mk 3 rfl rfl) rfl (by decide) rfl (Or.inl rfl) rfl rfl rfl ?_
  clear H m; intro m H
  refine w_p h_m20 2 (pc' := 22) (L' := [(0, .ref 106)]) (st' := [.int (0 : Int32), .ref 106]) rfl ?_
  refine w_pf H (12, 18, [(11, .int (0 : Int32)), (10, .int (0 : Int32)), (9, .long (0 : Int64)), (8, .int (0 : Int32)), (2, .int (0 : Int32)), (15, .int (0 : Int32)), (14, .int (0 : Int32)), (13, .int (0 : Int32)), (12, .int (0 : Int32)), (0, .ref 41), (17, .ref 116), (16, .ref 114), (7, .ref 113), (6, .ref 112), (5, .ref 111), (4, .ref 110), (3, .ref 109), (1, .ref 107)], none) (pc' := 25) (L' := [(0, .ref 106)]) h_m20 (z_at.mk 3 rfl rfl) rfl (by decide) rfl (Or.inl rfl) rfl rfl rfl ?_
  clear H m; intro m H
  refine w_p h_m20 2 (pc' := 27) (L' := [(0, .ref 106)]) (st' := [.int (0 : Int32), .ref 106]) rfl ?_
  refine w_pf H (12, 18, [(12, .int (0 : Int32)), (11, .int (0 : Int32)), (10, .int (0 : Int32)), (9, .long (0 : Int64)), (8, .int (0 : Int32)), (2, .int (0 : Int32)), (15, .int (0 : Int32)), (14, .int (0 : Int32)), (13, .int (0 : Int32)), (0, .ref 41), (17, .ref 116), (16, .ref 114), (7, .ref 113), (6, .ref 112), (5, .ref 111), (4, .ref 110), (3, .ref 109), (1, .ref 107)], none) (pc' := 30) (L' := [(0, .ref 106)]) h_m20 (z_at.mk 3 rfl rfl) rfl (by decide) rfl (Or.inl rfl) rfl rfl rfl ?_
  clear H m; intro m H
  refine w_p h_m20 2 (pc' := 32) (L' := [(0, .ref 106)]) (st' := [.int (0 : Int32), .ref 106]) rfl ?_
  refine w_pf H (12, 18, [(13, .int (0 : Int32)), (12, .int (0 : Int32)), (11, .int (0 : Int32)), (10, .int (0 : Int32)), (9, .long (0 : Int64)), (8, .int (0 : Int32)), (2, .int (0 : Int32)), (15, .int (0 : Int32)), (14, .int (0 : Int32)), (0, .ref 41), (17, .ref 116), (16, .ref 114), (7, .ref 113), (6, .ref 112), (5, .ref 111), (4, .ref 110), (3, .ref 109), (1, .ref 107)], none) (pc' := 35) (L' := [(0, .ref 106)]) h_m20 (z_at.mk 3 rfl rfl) rfl (by decide) rfl (Or.inl rfl) rfl rfl rfl ?_
  clear H m; intro m H
  refine w_p h_m20 2 (pc' := 37) (L' := [(0, .ref 106)]) (st' := [.int (0 : Int32), .ref 106]) rfl ?_
  refine w_pf H (12, 18, [(14, .int (0 : Int32)), (13, .int (0 : Int32)), (12, .int (0 : Int32)), (11, .int (0 : Int32)), (10, .int (0 : Int32)), (9, .long (0 : Int64)), (8, .int (0 : Int32)), (2, .int (0 : Int32)), (15, .int (0 : Int32)), (0, .ref 41), (17, .ref 116), (16, .ref 114), (7, .ref 113), (6, .ref 112), (5, .ref 111), (4, .ref 110), (3, .ref 109), (1, .ref 107)], none) (pc' := 40) (L' := [(0, .ref 106)]) h_m20 (z_at.mk 3 rfl rfl) rfl (by decide) rfl (Or.inl rfl) rfl rfl rfl ?_
  clear H m; intro m H
  refine w_p h_m20 2 (pc' := 42) (L' := [(0, .ref 106)]) (st' := [.int (0 : Int32), .ref 106]) rfl ?_
  refine w_pf H (12, 18, [(15, .int (0 : Int32)), (14, .int (0 : Int32)), (13, .int (0 : Int32)), (12, .int (0 : Int32)), (11, .int (0 : Int32)), (10, .int (0 : Int32)), (9, .long (0 : Int64)), (8, .int (0 : Int32)), (2, .int (0 : Int32)), (0, .ref 41), (17, .ref 116), (16, .ref 114), (7, .ref 113), (6, .ref 112), (5, .ref 111), (4, .ref 110), (3, .ref 109), (1, .ref 107)], none) (pc' := 45) (L' := [(0, .ref 106)]) h_m20 (z_at.mk 3 rfl rfl) rfl (by decide) rfl (Or.inl rfl) rfl rfl rfl ?_
  clear H m; intro m H
  refine w_rv h_m20 (z_at.mk 1 rfl rfl) rfl ?_
  show z_W 998 145 7 [(0, .ref 39), (1, .int (35 : Int32))] [] m _
  refine w_p h_m145 1 (pc' := 8) (L' := [(0, .ref 39), (1, .int (35 : Int32))]) (st' := [.ref 39]) rfl ?_
  refine w_gf H (pc' := 11) (L' := [(0, .ref 39), (1, .int (35 : Int32))]) h_m145 (z_at.mk 3 rfl rfl) rfl (u := .ref 106) rfl rfl rfl ?_
  refine w_gf H (pc' := 14) (L' := [(0, .ref 39), (1, .int (35 : Int32))]) h_m145 (z_at.mk 3 rfl rfl) rfl (u := .ref 107) rfl rfl rfl ?_
  refine w_p h_m145 1 (pc' := 15) (L' := [(0, .ref 39), (1, .int (35 : Int32))]) (st' := [.ref 39, .ref 107]) rfl ?_
  refine w_gf H (pc' := 18) (L' := [(0, .ref 39), (1, .int (35 : Int32))]) h_m145 (z_at.mk 3 rfl rfl) rfl (u := .ref 40) rfl rfl rfl ?_
  refine w_gf H (pc' := 21) (L' := [(0, .ref 39), (1, .int (35 : Int32))]) h_m145 (z_at.mk 3 rfl rfl) rfl (u := .ref 48) rfl rfl rfl ?_
  refine w_gf H (pc' := 24) (L' := [(0, .ref 39), (1, .int (35 : Int32))]) h_m145 (z_at.mk 3 rfl rfl) rfl (u := .ref 49) rfl rfl rfl ?_
  refine w_cv (H.t rfl) (pc' := 27) (L' := [(0, .ref 39), (1, .int (35 : Int32))]) (rest := []) (Ps := [.ref 49]) (L0 := [(0, .ref 107), (1, .ref 49)]) h_m145 (z_at.mk 3 rfl rfl) (Or.inl ⟨rfl, rfl⟩) rfl rfl (by decide) (by decide) rfl rfl rfl rfl rfl rfl (by decide) rfl rfl rfl ?_
  refine w_p h_m74 1 (pc' := 1) (L' := [(0, .ref 107), (1, .ref 49)]) (st' := [.ref 49]) rfl ?_
  refine w_gf H (pc' := 4) (L' := [(0, .ref 107), (1, .ref 49)]) h_m74 (z_at.mk 3 rfl rfl) rfl (u := .ref 50) rfl rfl rfl ?_
  refine w_p h_m74 2 (pc' := 6) (L' := [(0, .ref 107), (1, .ref 49)]) (st' := [.ref 107, .int (0 : Int32), .ref 50]) rfl ?_
  refine w_gf H (pc' := 9) (L' := [(0, .ref 107), (1, .ref 49)]) h_m74 (z_at.mk 3 rfl rfl) rfl (u := .ref 108) rfl rfl rfl ?_
  refine w_p h_m74 2 (pc' := 12) (L' := [(0, .ref 107), (1, .ref 49)]) (st' := [.int (7 : Int32), .int (0 : Int32), .ref 108, .int (0 : Int32), .ref 50]) rfl ?_
  refine w_cpf H (ra := (0, 7, [(6, .int (1024 : Int32)), (5, .int (1 : Int32)), (4, .int (1 : Int32)), (3, .int (0 : Int32)), (2, .int (12 : Int32)), (1, .int (40 : Int32)), (0, .int (10 : Int32))], some (.int (0 : Int32)))) (pc' := 15) (L' := [(0, .ref 107), (1, .ref 49)]) h_m74 (z_at.mk 3 rfl rfl) rfl (z_cat_le 0 rfl (by decide)) rfl rfl rfl rfl (by decide) rfl rfl ?_
  clear H m; intro m H
  refine w_rv h_m74 (z_at.mk 1 rfl rfl) rfl ?_
  show z_W 998 145 27 [(0, .ref 39), (1, .int (35 : Int32))] [] m _
  refine w_p h_m145 1 (pc' := 28) (L' := [(0, .ref 39), (1, .int (35 : Int32))]) (st' := [.ref 39]) rfl ?_
  refine w_gf H (pc' := 31) (L' := [(0, .ref 39), (1, .int (35 : Int32))]) h_m145 (z_at.mk 3 rfl rfl) rfl (u := .ref 106) rfl rfl rfl ?_
  refine w_gf H (pc' := 34) (L' := [(0, .ref 39), (1, .int (35 : Int32))]) h_m145 (z_at.mk 3 rfl rfl) rfl (u := .ref 107) rfl rfl rfl ?_
  refine w_p h_m145 2 (pc' := 36) (L' := [(0, .ref 39), (1, .int (35 : Int32))]) (st' := [.int (35 : Int32), .int (1 : Int32), .ref 107]) rfl ?_
  refine w_cv (H.t rfl) (pc' := 39) (L' := [(0, .ref 39), (1, .int (35 : Int32))]) (rest := []) (Ps := [.int (1 : Int32), .int (35 : Int32)]) (L0 := [(0, .ref 107), (1, .int (1 : Int32)), (2, .int (35 : Int32))]) h_m145 (z_at.mk 3 rfl rfl) (Or.inl ⟨rfl, rfl⟩) rfl rfl (by decide) (by decide) rfl rfl rfl rfl rfl rfl (by decide) rfl rfl rfl ?_
  refine w_p h_m73 6 (pc' := 11) (L' := [(0, .ref 107), (1, .int (1 : Int32)), (2, .int (35 : Int32))]) (st' := [.ref 107]) rfl ?_
  refine w_gf H (pc' := 14) (L' := [(0, .ref 107), (1, .int (1 : Int32)), (2, .int (35 : Int32))]) h_m73 (z_at.mk 3 rfl rfl) rfl (u := .ref 108) rfl rfl rfl ?_
  refine w_p h_m73 2 (pc' := 16) (L' := [(0, .ref 107), (1, .int (1 : Int32)), (2, .int (35 : Int32))]) (st' := [.int (35 : Int32), .int (1 : Int32), .ref 108]) rfl ?_
  refine w_as H (t := 0) (j := 1) (u := .int (35 : Int32)) (0, 7, [(1, .int (35 : Int32)), (6, .int (1024 : Int32)), (5, .int (1 : Int32)), (4, .int (1 : Int32)), (3, .int (0 : Int32)), (2, .int (12 : Int32)), (0, .int (10 : Int32))], some (.int (0 : Int32))) (pc' := 17) (L' := []) h_m73 (z_at.mk 1 rfl rfl) rfl rfl (w_ui _ _ (by decide)) rfl rfl rfl rfl ?_
  clear H m; intro m H
  refine w_rv h_m73 (z_at.mk 1 rfl rfl) rfl ?_
  show z_W 998 145 39 [(0, .ref 39), (1, .int (35 : Int32))] [] m _
  refine w_p h_m145 4 (pc' := 43) (L' := [(0, .ref 39), (2, .int (0 : Int32))]) (st' := [.ref 39, .int (0 : Int32)]) rfl ?_
  refine w_gf H (pc' := 46) (L' := [(0, .ref 39), (2, .int (0 : Int32))]) h_m145 (z_at.mk 3 rfl rfl) rfl (u := .ref 40) rfl rfl rfl ?_
  refine w_gf H (pc' := 49) (L' := [(0, .ref 39), (2, .int (0 : Int32))]) h_m145 (z_at.mk 3 rfl rfl) rfl (u := .ref 63) rfl rfl rfl ?_
  refine w_gf H (pc' := 52) (L' := [(0, .ref 39), (2, .int (0 : Int32))]) h_m145 (z_at.mk 3 rfl rfl) rfl (u := .int (0 : Int32)) rfl rfl rfl ?_
  refine w_p h_m145 1 (pc' := 79) (L' := [(0, .ref 39), (2, .int (0 : Int32))]) (st' := []) rfl ?_
  refine w_rv h_m145 (z_at.mk 1 rfl rfl) rfl ?_
  show z_W 999 146 13 [(0, .ref 39), (1, .int (xs 1)), (2, .int (35 : Int32))] [] m _
  refine w_p h_m146 1 (pc' := 14) (L' := [(0, .ref 39), (1, .int (xs 1)), (2, .int (35 : Int32))]) (st' := [.ref 39]) rfl ?_
  refine w_gf H (pc' := 17) (L' := [(0, .ref 39), (1, .int (xs 1)), (2, .int (35 : Int32))]) h_m146 (z_at.mk 3 rfl rfl) rfl (u := .ref 106) rfl rfl rfl ?_
  refine w_gf H (pc' := 20) (L' := [(0, .ref 39), (1, .int (xs 1)), (2, .int (35 : Int32))]) h_m146 (z_at.mk 3 rfl rfl) rfl (u := .int (0 : Int32)) rfl rfl rfl ?_
  refine w_p h_m146 1 (pc' := 21) (L' := [(0, .ref 39), (1, .int (xs 1)), (2, .int (35 : Int32))]) (st' := [.int (xs 1), .int (0 : Int32)]) rfl ?_
  refine w_t2 (pc' := 26) (L' := [(0, .ref 39), (1, .int (xs 1)), (2, .int (35 : Int32))]) h_m146 (z_at.mk 3 rfl rfl) rfl (zc (a := 0) (b := (xs 1).toInt) rfl rfl (decide_eq_true (by omega))) rfl rfl ?_
  refine w_p h_m146 2 (pc' := 2) (L' := [(0, .ref 39), (1, .int (xs 1)), (2, .int (36 : Int32))]) (st' := []) rfl ?_
  exact hQ m (H.subC (by decide +kernel))
set_option maxHeartbeats 400000000 in
set_option maxRecDepth 20000 in
theorem w_turn_146_36 {xs : Nat → Int32} {m : zM} {Q : Option Value → zM → Prop} (hp : (xs 1).toInt < 0) (H : w_ok 6 xs 168 63950 ((106, (12, 18, [(15, .int (0 : Int32)), (14, .int (0 : Int32)), (13, .int (0 : Int32)), (12, .int (0 : Int32)), (11, .int (0 : Int32)), (10, .int (0 : Int32)), (9, .long (0 : Int64)), (8, .int (0 : Int32)), (2, .int (0 : Int32)), (0, .ref 41), (17, .ref 116), (16, .ref 114), (7, .ref 113), (6, .ref 112), (5, .ref 111), (4, .ref 110), (3, .ref 109), (1, .ref 107)], none)) :: (108, (0, 7, [(1, .int (35 : Int32)), (6, .int (1024 : Int32)), (5, .int (1 : Int32)), (4, .int (1 : Int32)), (3, .int (0 : Int32)), (2, .int (12 : Int32)), (0, .int (10 : Int32))], some (.int (0 : Int32)))) :: w_T0) m) (hQ : ∀ m, w_ok 6 xs 168 63950 ((106, (12, 18, [(15, .int (0 : Int32)), (14, .int (0 : Int32)), (13, .int (0 : Int32)), (12, .int (0 : Int32)), (11, .int (0 : Int32)), (10, .int (0 : Int32)), (9, .long (0 : Int64)), (8, .int (0 : Int32)), (2, .int (0 : Int32)), (0, .ref 41), (17, .ref 116), (16, .ref 114), (7, .ref 113), (6, .ref 112), (5, .ref 111), (4, .ref 110), (3, .ref 109), (1, .ref 107)], none)) :: (108, (0, 7, [(1, .int (36 : Int32)), (6, .int (1024 : Int32)), (5, .int (1 : Int32)), (4, .int (1 : Int32)), (3, .int (0 : Int32)), (2, .int (12 : Int32)), (0, .int (10 : Int32))], some (.int (0 : Int32)))) :: w_T0) m → z_W 999 146 2 [(0, .ref 39), (1, .int (xs 1)), (2, .int (37 : Int32))] [] m Q) : z_W 999 146 2 [(0, .ref 39), (1, .int (xs 1)), (2, .int (36 : Int32))] [] m Q := by
  refine w_p h_m146 5 (pc' := 10) (L' := [(0, .ref 39), (1, .int (xs 1)), (2, .int (36 : Int32))]) (st' := [.int (36 : Int32), .ref 39]) rfl ?_
  refine w_cv (H.t rfl) (pc' := 13) (L' := [(0, .ref 39), (1, .int (xs 1)), (2, .int (36 : Int32))]) (rest := []) (Ps := [.int (36 : Int32)]) (L0 := [(0, .ref 39), (1, .int (36 : Int32))]) h_m146 (z_at.mk 3 rfl rfl) (Or.inl ⟨rfl, rfl⟩) rfl rfl (by decide) (by decide) rfl rfl rfl rfl rfl rfl (by decide) rfl rfl rfl ?_
  refine w_p h_m145 1 (pc' := 1) (L' := [(0, .ref 39), (1, .int (36 : Int32))]) (st' := [.ref 39]) rfl ?_
  refine w_gf H (pc' := 4) (L' := [(0, .ref 39), (1, .int (36 : Int32))]) h_m145 (z_at.mk 3 rfl rfl) rfl (u := .ref 106) rfl rfl rfl ?_
  refine w_cv (H.t rfl) (pc' := 7) (L' := [(0, .ref 39), (1, .int (36 : Int32))]) (rest := []) (Ps := []) (L0 := [(0, .ref 106)]) h_m145 (z_at.mk 3 rfl rfl) (Or.inl ⟨rfl, rfl⟩) rfl rfl (by decide) (by decide) rfl rfl rfl rfl rfl rfl (by decide) rfl rfl rfl ?_
  refine w_p h_m20 2 (pc' := 2) (L' := [(0, .ref 106)]) (st' := [.int (0 : Int32), .ref 106]) rfl ?_
  refine w_pf H (12, 18, [(2, .int (0 : Int32)), (15, .int (0 : Int32)), (14, .int (0 : Int32)), (13, .int (0 : Int32)), (12, .int (0 : Int32)), (11, .int (0 : Int32)), (10, .int (0 : Int32)), (9, .long (0 : Int64)), (8, .int (0 : Int32)), (0, .ref 41), (17, .ref 116), (16, .ref 114), (7, .ref 113), (6, .ref 112), (5, .ref 111), (4, .ref 110), (3, .ref 109), (1, .ref 107)], none) (pc' := 5) (L' := [(0, .ref 106)]) h_m20 (z_at.mk 3 rfl rfl) rfl (by decide) rfl (Or.inl rfl) rfl rfl rfl ?_
  clear H m; intro m H
  refine w_p h_m20 2 (pc' := 7) (L' := [(0, .ref 106)]) (st' := [.int (0 : Int32), .ref 106]) rfl ?_
  refine w_pf H (12, 18, [(8, .int (0 : Int32)), (2, .int (0 : Int32)), (15, .int (0 : Int32)), (14, .int (0 : Int32)), (13, .int (0 : Int32)), (12, .int (0 : Int32)), (11, .int (0 : Int32)), (10, .int (0 : Int32)), (9, .long (0 : Int64)), (0, .ref 41), (17, .ref 116), (16, .ref 114), (7, .ref 113), (6, .ref 112), (5, .ref 111), (4, .ref 110), (3, .ref 109), (1, .ref 107)], none) (pc' := 10) (L' := [(0, .ref 106)]) h_m20 (z_at.mk 3 rfl rfl) rfl (by decide) rfl (Or.inl rfl) rfl rfl rfl ?_
  clear H m; intro m H
  refine w_p h_m20 2 (pc' := 12) (L' := [(0, .ref 106)]) (st' := [.long (0 : Int64), .ref 106]) rfl ?_
  refine w_pf H (12, 18, [(9, .long (0 : Int64)), (8, .int (0 : Int32)), (2, .int (0 : Int32)), (15, .int (0 : Int32)), (14, .int (0 : Int32)), (13, .int (0 : Int32)), (12, .int (0 : Int32)), (11, .int (0 : Int32)), (10, .int (0 : Int32)), (0, .ref 41), (17, .ref 116), (16, .ref 114), (7, .ref 113), (6, .ref 112), (5, .ref 111), (4, .ref 110), (3, .ref 109), (1, .ref 107)], none) (pc' := 15) (L' := [(0, .ref 106)]) h_m20 (z_at.mk 3 rfl rfl) rfl (by decide) rfl (Or.inl rfl) rfl rfl rfl ?_
  clear H m; intro m H
  refine w_p h_m20 2 (pc' := 17) (L' := [(0, .ref 106)]) (st' := [.int (0 : Int32), .ref 106]) rfl ?_
  refine w_pf H (12, 18, [(10, .int (0 : Int32)), (9, .long (0 : Int64)), (8, .int (0 : Int32)), (2, .int (0 : Int32)), (15, .int (0 : Int32)), (14, .int (0 : Int32)), (13, .int (0 : Int32)), (12, .int (0 : Int32)), (11, .int (0 : Int32)), (0, .ref 41), (17, .ref 116), (16, .ref 114), (7, .ref 113), (6, .ref 112), (5, .ref 111), (4, .ref 110), (3, .ref 109), (1, .ref 107)], none) (pc' := 20) (L' := [(0, .ref 106)]) h_m20 (z_at.mk 3 rfl rfl) rfl (by decide) rfl (Or.inl rfl) rfl rfl rfl ?_
  clear H m; intro m H
  refine w_p h_m20 2 (pc' := 22) (L' := [(0, .ref 106)]) (st' := [.int (0 : Int32), .ref 106]) rfl ?_
  refine w_pf H (12, 18, [(11, .int (0 : Int32)), (10, .int (0 : Int32)), (9, .long (0 : Int64)), (8, .int (0 : Int32)), (2, .int (0 : Int32)), (15, .int (0 : Int32)), (14, .int (0 : Int32)), (13, .int (0 : Int32)), (12, .int (0 : Int32)), (0, .ref 41), (17, .ref 116), (16, .ref 114), (7, .ref 113), (6, .ref 112), (5, .ref 111), (4, .ref 110), (3, .ref 109), (1, .ref 107)], none) (pc' := 25) (L' := [(0, .ref 106)]) h_m20 (z_at.mk 3 rfl rfl) rfl (by decide) rfl (Or.inl rfl) rfl rfl rfl ?_
  clear H m; intro m H
  refine w_p h_m20 2 (pc' := 27) (L' := [(0, .ref 106)]) (st' := [.int (0 : Int32), .ref 106]) rfl ?_
  refine w_pf H (12, 18, [(12, .int (0 : Int32)), (11, .int (0 : Int32)), (10, .int (0 : Int32)), (9, .long (0 : Int64)), (8, .int (0 : Int32)), (2, .int (0 : Int32)), (15, .int (0 : Int32)), (14, .int (0 : Int32)), (13, .int (0 : Int32)), (0, .ref 41), (17, .ref 116), (16, .ref 114), (7, .ref 113), (6, .ref 112), (5, .ref 111), (4, .ref 110), (3, .ref 109), (1, .ref 107)], none) (pc' := 30) (L' := [(0, .ref 106)]) h_m20 (z_at.mk 3 rfl rfl) rfl (by decide) rfl (Or.inl rfl) rfl rfl rfl ?_
  clear H m; intro m H
  refine w_p h_m20 2 (pc' := 32) (L' := [(0, .ref 106)]) (st' := [.int (0 : Int32), .ref 106]) rfl ?_
  refine w_pf H (12, 18, [(13, .int (0 : Int32)), (12, .int (0 : Int32)), (11, .int (0 : Int32)), (10, .int (0 : Int32)), (9, .long (0 : Int64)), (8, .int (0 : Int32)), (2, .int (0 : Int32)), (15, .int (0 : Int32)), (14, .int (0 : Int32)), (0, .ref 41), (17, .ref 116), (16, .ref 114), (7, .ref 113), (6, .ref 112), (5, .ref 111), (4, .ref 110), (3, .ref 109), (1, .ref 107)], none) (pc' := 35) (L' := [(0, .ref 106)]) h_m20 (z_at.mk 3 rfl rfl) rfl (by decide) rfl (Or.inl rfl) rfl rfl rfl ?_
  clear H m; intro m H
  refine w_p h_m20 2 (pc' := 37) (L' := [(0, .ref 106)]) (st' := [.int (0 : Int32), .ref 106]) rfl ?_
  refine w_pf H (12, 18, [(14, .int (0 : Int32)), (13, .int (0 : Int32)), (12, .int (0 : Int32)), (11, .int (0 : Int32)), (10, .int (0 : Int32)), (9, .long (0 : Int64)), (8, .int (0 : Int32)), (2, .int (0 : Int32)), (15, .int (0 : Int32)), (0, .ref 41), (17, .ref 116), (16, .ref 114), (7, .ref 113), (6, .ref 112), (5, .ref 111), (4, .ref 110), (3, .ref 109), (1, .ref 107)], none) (pc' := 40) (L' := [(0, .ref 106)]) h_m20 (z_at.mk 3 rfl rfl) rfl (by decide) rfl (Or.inl rfl) rfl rfl rfl ?_
  clear H m; intro m H
  refine w_p h_m20 2 (pc' := 42) (L' := [(0, .ref 106)]) (st' := [.int (0 : Int32), .ref 106]) rfl ?_
  refine w_pf H (12, 18, [(15, .int (0 : Int32)), (14, .int (0 : Int32)), (13, .int (0 : Int32)), (12, .int (0 : Int32)), (11, .int (0 : Int32)), (10, .int (0 : Int32)), (9, .long (0 : Int64)), (8, .int (0 : Int32)), (2, .int (0 : Int32)), (0, .ref 41), (17, .ref 116), (16, .ref 114), (7, .ref 113), (6, .ref 112), (5, .ref 111), (4, .ref 110), (3, .ref 109), (1, .ref 107)], none) (pc' := 45) (L' := [(0, .ref 106)]) h_m20 (z_at.mk 3 rfl rfl) rfl (by decide) rfl (Or.inl rfl) rfl rfl rfl ?_
  clear H m; intro m H
  refine w_rv h_m20 (z_at.mk 1 rfl rfl) rfl ?_
  show z_W 998 145 7 [(0, .ref 39), (1, .int (36 : Int32))] [] m _
  refine w_p h_m145 1 (pc' := 8) (L' := [(0, .ref 39), (1, .int (36 : Int32))]) (st' := [.ref 39]) rfl ?_
  refine w_gf H (pc' := 11) (L' := [(0, .ref 39), (1, .int (36 : Int32))]) h_m145 (z_at.mk 3 rfl rfl) rfl (u := .ref 106) rfl rfl rfl ?_
  refine w_gf H (pc' := 14) (L' := [(0, .ref 39), (1, .int (36 : Int32))]) h_m145 (z_at.mk 3 rfl rfl) rfl (u := .ref 107) rfl rfl rfl ?_
  refine w_p h_m145 1 (pc' := 15) (L' := [(0, .ref 39), (1, .int (36 : Int32))]) (st' := [.ref 39, .ref 107]) rfl ?_
  refine w_gf H (pc' := 18) (L' := [(0, .ref 39), (1, .int (36 : Int32))]) h_m145 (z_at.mk 3 rfl rfl) rfl (u := .ref 40) rfl rfl rfl ?_
  refine w_gf H (pc' := 21) (L' := [(0, .ref 39), (1, .int (36 : Int32))]) h_m145 (z_at.mk 3 rfl rfl) rfl (u := .ref 48) rfl rfl rfl ?_
  refine w_gf H (pc' := 24) (L' := [(0, .ref 39), (1, .int (36 : Int32))]) h_m145 (z_at.mk 3 rfl rfl) rfl (u := .ref 49) rfl rfl rfl ?_
  refine w_cv (H.t rfl) (pc' := 27) (L' := [(0, .ref 39), (1, .int (36 : Int32))]) (rest := []) (Ps := [.ref 49]) (L0 := [(0, .ref 107), (1, .ref 49)]) h_m145 (z_at.mk 3 rfl rfl) (Or.inl ⟨rfl, rfl⟩) rfl rfl (by decide) (by decide) rfl rfl rfl rfl rfl rfl (by decide) rfl rfl rfl ?_
  refine w_p h_m74 1 (pc' := 1) (L' := [(0, .ref 107), (1, .ref 49)]) (st' := [.ref 49]) rfl ?_
  refine w_gf H (pc' := 4) (L' := [(0, .ref 107), (1, .ref 49)]) h_m74 (z_at.mk 3 rfl rfl) rfl (u := .ref 50) rfl rfl rfl ?_
  refine w_p h_m74 2 (pc' := 6) (L' := [(0, .ref 107), (1, .ref 49)]) (st' := [.ref 107, .int (0 : Int32), .ref 50]) rfl ?_
  refine w_gf H (pc' := 9) (L' := [(0, .ref 107), (1, .ref 49)]) h_m74 (z_at.mk 3 rfl rfl) rfl (u := .ref 108) rfl rfl rfl ?_
  refine w_p h_m74 2 (pc' := 12) (L' := [(0, .ref 107), (1, .ref 49)]) (st' := [.int (7 : Int32), .int (0 : Int32), .ref 108, .int (0 : Int32), .ref 50]) rfl ?_
  refine w_cpf H (ra := (0, 7, [(6, .int (1024 : Int32)), (5, .int (1 : Int32)), (4, .int (1 : Int32)), (3, .int (0 : Int32)), (2, .int (12 : Int32)), (1, .int (40 : Int32)), (0, .int (10 : Int32))], some (.int (0 : Int32)))) (pc' := 15) (L' := [(0, .ref 107), (1, .ref 49)]) h_m74 (z_at.mk 3 rfl rfl) rfl (z_cat_le 0 rfl (by decide)) rfl rfl rfl rfl (by decide) rfl rfl ?_
  clear H m; intro m H
  refine w_rv h_m74 (z_at.mk 1 rfl rfl) rfl ?_
  show z_W 998 145 27 [(0, .ref 39), (1, .int (36 : Int32))] [] m _
  refine w_p h_m145 1 (pc' := 28) (L' := [(0, .ref 39), (1, .int (36 : Int32))]) (st' := [.ref 39]) rfl ?_
  refine w_gf H (pc' := 31) (L' := [(0, .ref 39), (1, .int (36 : Int32))]) h_m145 (z_at.mk 3 rfl rfl) rfl (u := .ref 106) rfl rfl rfl ?_
  refine w_gf H (pc' := 34) (L' := [(0, .ref 39), (1, .int (36 : Int32))]) h_m145 (z_at.mk 3 rfl rfl) rfl (u := .ref 107) rfl rfl rfl ?_
  refine w_p h_m145 2 (pc' := 36) (L' := [(0, .ref 39), (1, .int (36 : Int32))]) (st' := [.int (36 : Int32), .int (1 : Int32), .ref 107]) rfl ?_
  refine w_cv (H.t rfl) (pc' := 39) (L' := [(0, .ref 39), (1, .int (36 : Int32))]) (rest := []) (Ps := [.int (1 : Int32), .int (36 : Int32)]) (L0 := [(0, .ref 107), (1, .int (1 : Int32)), (2, .int (36 : Int32))]) h_m145 (z_at.mk 3 rfl rfl) (Or.inl ⟨rfl, rfl⟩) rfl rfl (by decide) (by decide) rfl rfl rfl rfl rfl rfl (by decide) rfl rfl rfl ?_
  refine w_p h_m73 6 (pc' := 11) (L' := [(0, .ref 107), (1, .int (1 : Int32)), (2, .int (36 : Int32))]) (st' := [.ref 107]) rfl ?_
  refine w_gf H (pc' := 14) (L' := [(0, .ref 107), (1, .int (1 : Int32)), (2, .int (36 : Int32))]) h_m73 (z_at.mk 3 rfl rfl) rfl (u := .ref 108) rfl rfl rfl ?_
  refine w_p h_m73 2 (pc' := 16) (L' := [(0, .ref 107), (1, .int (1 : Int32)), (2, .int (36 : Int32))]) (st' := [.int (36 : Int32), .int (1 : Int32), .ref 108]) rfl ?_
  refine w_as H (t := 0) (j := 1) (u := .int (36 : Int32)) (0, 7, [(1, .int (36 : Int32)), (6, .int (1024 : Int32)), (5, .int (1 : Int32)), (4, .int (1 : Int32)), (3, .int (0 : Int32)), (2, .int (12 : Int32)), (0, .int (10 : Int32))], some (.int (0 : Int32))) (pc' := 17) (L' := []) h_m73 (z_at.mk 1 rfl rfl) rfl rfl (w_ui _ _ (by decide)) rfl rfl rfl rfl ?_
  clear H m; intro m H
  refine w_rv h_m73 (z_at.mk 1 rfl rfl) rfl ?_
  show z_W 998 145 39 [(0, .ref 39), (1, .int (36 : Int32))] [] m _
  refine w_p h_m145 4 (pc' := 43) (L' := [(0, .ref 39), (2, .int (0 : Int32))]) (st' := [.ref 39, .int (0 : Int32)]) rfl ?_
  refine w_gf H (pc' := 46) (L' := [(0, .ref 39), (2, .int (0 : Int32))]) h_m145 (z_at.mk 3 rfl rfl) rfl (u := .ref 40) rfl rfl rfl ?_
  refine w_gf H (pc' := 49) (L' := [(0, .ref 39), (2, .int (0 : Int32))]) h_m145 (z_at.mk 3 rfl rfl) rfl (u := .ref 63) rfl rfl rfl ?_
  refine w_gf H (pc' := 52) (L' := [(0, .ref 39), (2, .int (0 : Int32))]) h_m145 (z_at.mk 3 rfl rfl) rfl (u := .int (0 : Int32)) rfl rfl rfl ?_
  refine w_p h_m145 1 (pc' := 79) (L' := [(0, .ref 39), (2, .int (0 : Int32))]) (st' := []) rfl ?_
  refine w_rv h_m145 (z_at.mk 1 rfl rfl) rfl ?_
  show z_W 999 146 13 [(0, .ref 39), (1, .int (xs 1)), (2, .int (36 : Int32))] [] m _
  refine w_p h_m146 1 (pc' := 14) (L' := [(0, .ref 39), (1, .int (xs 1)), (2, .int (36 : Int32))]) (st' := [.ref 39]) rfl ?_
  refine w_gf H (pc' := 17) (L' := [(0, .ref 39), (1, .int (xs 1)), (2, .int (36 : Int32))]) h_m146 (z_at.mk 3 rfl rfl) rfl (u := .ref 106) rfl rfl rfl ?_
  refine w_gf H (pc' := 20) (L' := [(0, .ref 39), (1, .int (xs 1)), (2, .int (36 : Int32))]) h_m146 (z_at.mk 3 rfl rfl) rfl (u := .int (0 : Int32)) rfl rfl rfl ?_
  refine w_p h_m146 1 (pc' := 21) (L' := [(0, .ref 39), (1, .int (xs 1)), (2, .int (36 : Int32))]) (st' := [.int (xs 1), .int (0 : Int32)]) rfl ?_
  refine w_t2 (pc' := 26) (L' := [(0, .ref 39), (1, .int (xs 1)), (2, .int (36 : Int32))]) h_m146 (z_at.mk 3 rfl rfl) rfl (zc (a := 0) (b := (xs 1).toInt) rfl rfl (decide_eq_true (by omega))) rfl rfl ?_
  refine w_p h_m146 2 (pc' := 2) (L' := [(0, .ref 39), (1, .int (xs 1)), (2, .int (37 : Int32))]) (st' := []) rfl ?_
  exact hQ m (H.subC (by decide +kernel))
set_option maxHeartbeats 400000000 in
set_option maxRecDepth 20000 in
theorem w_turn_146_37 {xs : Nat → Int32} {m : zM} {Q : Option Value → zM → Prop} (hp : (xs 1).toInt < 0) (H : w_ok 6 xs 168 63950 ((106, (12, 18, [(15, .int (0 : Int32)), (14, .int (0 : Int32)), (13, .int (0 : Int32)), (12, .int (0 : Int32)), (11, .int (0 : Int32)), (10, .int (0 : Int32)), (9, .long (0 : Int64)), (8, .int (0 : Int32)), (2, .int (0 : Int32)), (0, .ref 41), (17, .ref 116), (16, .ref 114), (7, .ref 113), (6, .ref 112), (5, .ref 111), (4, .ref 110), (3, .ref 109), (1, .ref 107)], none)) :: (108, (0, 7, [(1, .int (36 : Int32)), (6, .int (1024 : Int32)), (5, .int (1 : Int32)), (4, .int (1 : Int32)), (3, .int (0 : Int32)), (2, .int (12 : Int32)), (0, .int (10 : Int32))], some (.int (0 : Int32)))) :: w_T0) m) (hQ : ∀ m, w_ok 6 xs 168 63950 ((106, (12, 18, [(15, .int (0 : Int32)), (14, .int (0 : Int32)), (13, .int (0 : Int32)), (12, .int (0 : Int32)), (11, .int (0 : Int32)), (10, .int (0 : Int32)), (9, .long (0 : Int64)), (8, .int (0 : Int32)), (2, .int (0 : Int32)), (0, .ref 41), (17, .ref 116), (16, .ref 114), (7, .ref 113), (6, .ref 112), (5, .ref 111), (4, .ref 110), (3, .ref 109), (1, .ref 107)], none)) :: (108, (0, 7, [(1, .int (37 : Int32)), (6, .int (1024 : Int32)), (5, .int (1 : Int32)), (4, .int (1 : Int32)), (3, .int (0 : Int32)), (2, .int (12 : Int32)), (0, .int (10 : Int32))], some (.int (0 : Int32)))) :: w_T0) m → z_W 999 146 2 [(0, .ref 39), (1, .int (xs 1)), (2, .int (38 : Int32))] [] m Q) : z_W 999 146 2 [(0, .ref 39), (1, .int (xs 1)), (2, .int (37 : Int32))] [] m Q := by
  refine w_p h_m146 5 (pc' := 10) (L' := [(0, .ref 39), (1, .int (xs 1)), (2, .int (37 : Int32))]) (st' := [.int (37 : Int32), .ref 39]) rfl ?_
  refine w_cv (H.t rfl) (pc' := 13) (L' := [(0, .ref 39), (1, .int (xs 1)), (2, .int (37 : Int32))]) (rest := []) (Ps := [.int (37 : Int32)]) (L0 := [(0, .ref 39), (1, .int (37 : Int32))]) h_m146 (z_at.mk 3 rfl rfl) (Or.inl ⟨rfl, rfl⟩) rfl rfl (by decide) (by decide) rfl rfl rfl rfl rfl rfl (by decide) rfl rfl rfl ?_
  refine w_p h_m145 1 (pc' := 1) (L' := [(0, .ref 39), (1, .int (37 : Int32))]) (st' := [.ref 39]) rfl ?_
  refine w_gf H (pc' := 4) (L' := [(0, .ref 39), (1, .int (37 : Int32))]) h_m145 (z_at.mk 3 rfl rfl) rfl (u := .ref 106) rfl rfl rfl ?_
  refine w_cv (H.t rfl) (pc' := 7) (L' := [(0, .ref 39), (1, .int (37 : Int32))]) (rest := []) (Ps := []) (L0 := [(0, .ref 106)]) h_m145 (z_at.mk 3 rfl rfl) (Or.inl ⟨rfl, rfl⟩) rfl rfl (by decide) (by decide) rfl rfl rfl rfl rfl rfl (by decide) rfl rfl rfl ?_
  refine w_p h_m20 2 (pc' := 2) (L' := [(0, .ref 106)]) (st' := [.int (0 : Int32), .ref 106]) rfl ?_
  refine w_pf H (12, 18, [(2, .int (0 : Int32)), (15, .int (0 : Int32)), (14, .int (0 : Int32)), (13, .int (0 : Int32)), (12, .int (0 : Int32)), (11, .int (0 : Int32)), (10, .int (0 : Int32)), (9, .long (0 : Int64)), (8, .int (0 : Int32)), (0, .ref 41), (17, .ref 116), (16, .ref 114), (7, .ref 113), (6, .ref 112), (5, .ref 111), (4, .ref 110), (3, .ref 109), (1, .ref 107)], none) (pc' := 5) (L' := [(0, .ref 106)]) h_m20 (z_at.mk 3 rfl rfl) rfl (by decide) rfl (Or.inl rfl) rfl rfl rfl ?_
  clear H m; intro m H
  refine w_p h_m20 2 (pc' := 7) (L' := [(0, .ref 106)]) (st' := [.int (0 : Int32), .ref 106]) rfl ?_
  refine w_pf H (12, 18, [(8, .int (0 : Int32)), (2, .int (0 : Int32)), (15, .int (0 : Int32)), (14, .int (0 : Int32)), (13, .int (0 : Int32)), (12, .int (0 : Int32)), (11, .int (0 : Int32)), (10, .int (0 : Int32)), (9, .long (0 : Int64)), (0, .ref 41), (17, .ref 116), (16, .ref 114), (7, .ref 113), (6, .ref 112), (5, .ref 111), (4, .ref 110), (3, .ref 109), (1, .ref 107)], none) (pc' := 10) (L' := [(0, .ref 106)]) h_m20 (z_at.mk 3 rfl rfl) rfl (by decide) rfl (Or.inl rfl) rfl rfl rfl ?_
  clear H m; intro m H
  refine w_p h_m20 2 (pc' := 12) (L' := [(0, .ref 106)]) (st' := [.long (0 : Int64), .ref 106]) rfl ?_
  refine w_pf H (12, 18, [(9, .long (0 : Int64)), (8, .int (0 : Int32)), (2, .int (0 : Int32)), (15, .int (0 : Int32)), (14, .int (0 : Int32)), (13, .int (0 : Int32)), (12, .int (0 : Int32)), (11, .int (0 : Int32)), (10, .int (0 : Int32)), (0, .ref 41), (17, .ref 116), (16, .ref 114), (7, .ref 113), (6, .ref 112), (5, .ref 111), (4, .ref 110), (3, .ref 109), (1, .ref 107)], none) (pc' := 15) (L' := [(0, .ref 106)]) h_m20 (z_at.mk 3 rfl rfl) rfl (by decide) rfl (Or.inl rfl) rfl rfl rfl ?_
  clear H m; intro m H
  refine w_p h_m20 2 (pc' := 17) (L' := [(0, .ref 106)]) (st' := [.int (0 : Int32), .ref 106]) rfl ?_
  refine w_pf H (12, 18, [(10, .int (0 : Int32)), (9, .long (0 : Int64)), (8, .int (0 : Int32)), (2, .int (0 : Int32)), (15, .int (0 : Int32)), (14, .int (0 : Int32)), (13, .int (0 : Int32)), (12, .int (0 : Int32)), (11, .int (0 : Int32)), (0, .ref 41), (17, .ref 116), (16, .ref 114), (7, .ref 113), (6, .ref 112), (5, .ref 111), (4, .ref 110), (3, .ref 109), (1, .ref 107)], none) (pc' := 20) (L' := [(0, .ref 106)]) h_m20 (z_at.mk 3 rfl rfl) rfl (by decide) rfl (Or.inl rfl) rfl rfl rfl ?_
  clear H m; intro m H
  refine w_p h_m20 2 (pc' := 22) (L' := [(0, .ref 106)]) (st' := [.int (0 : Int32), .ref 106]) rfl ?_
  refine w_pf H (12, 18, [(11, .int (0 : Int32)), (10, .int (0 : Int32)), (9, .long (0 : Int64)), (8, .int (0 : Int32)), (2, .int (0 : Int32)), (15, .int (0 : Int32)), (14, .int (0 : Int32)), (13, .int (0 : Int32)), (12, .int (0 : Int32)), (0, .ref 41), (17, .ref 116), (16, .ref 114), (7, .ref 113), (6, .ref 112), (5, .ref 111), (4, .ref 110), (3, .ref 109), (1, .ref 107)], none) (pc' := 25) (L' := [(0, .ref 106)]) h_m20 (z_at.mk 3 rfl rfl) rfl (by decide) rfl (Or.inl rfl) rfl rfl rfl ?_
  clear H m; intro m H
  refine w_p h_m20 2 (pc' := 27) (L' := [(0, .ref 106)]) (st' := [.int (0 : Int32), .ref 106]) rfl ?_
  refine w_pf H (12, 18, [(12, .int (0 : Int32)), (11, .int (0 : Int32)), (10, .int (0 : Int32)), (9, .long (0 : Int64)), (8, .int (0 : Int32)), (2, .int (0 : Int32)), (15, .int (0 : Int32)), (14, .int (0 : Int32)), (13, .int (0 : Int32)), (0, .ref 41), (17, .ref 116), (16, .ref 114), (7, .ref 113), (6, .ref 112), (5, .ref 111), (4, .ref 110), (3, .ref 109), (1, .ref 107)], none) (pc' := 30) (L' := [(0, .ref 106)]) h_m20 (z_at.mk 3 rfl rfl) rfl (by decide) rfl (Or.inl rfl) rfl rfl rfl ?_
  clear H m; intro m H
  refine w_p h_m20 2 (pc' := 32) (L' := [(0, .ref 106)]) (st' := [.int (0 : Int32), .ref 106]) rfl ?_
  refine w_pf H (12, 18, [(13, .int (0 : Int32)), (12, .int (0 : Int32)), (11, .int (0 : Int32)), (10, .int (0 : Int32)), (9, .long (0 : Int64)), (8, .int (0 : Int32)), (2, .int (0 : Int32)), (15, .int (0 : Int32)), (14, .int (0 : Int32)), (0, .ref 41), (17, .ref 116), (16, .ref 114), (7, .ref 113), (6, .ref 112), (5, .ref 111), (4, .ref 110), (3, .ref 109), (1, .ref 107)], none) (pc' := 35) (L' := [(0, .ref 106)]) h_m20 (z_at.mk 3 rfl rfl) rfl (by decide) rfl (Or.inl rfl) rfl rfl rfl ?_
  clear H m; intro m H
  refine w_p h_m20 2 (pc' := 37) (L' := [(0, .ref 106)]) (st' := [.int (0 : Int32), .ref 106]) rfl ?_
  refine w_pf H (12, 18, [(14, .int (0 : Int32)), (13, .int (0 : Int32)), (12, .int (0 : Int32)), (11, .int (0 : Int32)), (10, .int (0 : Int32)), (9, .long (0 : Int64)), (8, .int (0 : Int32)), (2, .int (0 : Int32)), (15, .int (0 : Int32)), (0, .ref 41), (17, .ref 116), (16, .ref 114), (7, .ref 113), (6, .ref 112), (5, .ref 111), (4, .ref 110), (3, .ref 109), (1, .ref 107)], none) (pc' := 40) (L' := [(0, .ref 106)]) h_m20 (z_at.mk 3 rfl rfl) rfl (by decide) rfl (Or.inl rfl) rfl rfl rfl ?_
  clear H m; intro m H
  refine w_p h_m20 2 (pc' := 42) (L' := [(0, .ref 106)]) (st' := [.int (0 : Int32), .ref 106]) rfl ?_
  refine w_pf H (12, 18, [(15, .int (0 : Int32)), (14, .int (0 : Int32)), (13, .int (0 : Int32)), (12, .int (0 : Int32)), (11, .int (0 : Int32)), (10, .int (0 : Int32)), (9, .long (0 : Int64)), (8, .int (0 : Int32)), (2, .int (0 : Int32)), (0, .ref 41), (17, .ref 116), (16, .ref 114), (7, .ref 113), (6, .ref 112), (5, .ref 111), (4, .ref 110), (3, .ref 109), (1, .ref 107)], none) (pc' := 45) (L' := [(0, .ref 106)]) h_m20 (z_at.mk 3 rfl rfl) rfl (by decide) rfl (Or.inl rfl) rfl rfl rfl ?_
  clear H m; intro m H
  refine w_rv h_m20 (z_at.mk 1 rfl rfl) rfl ?_
  show z_W 998 145 7 [(0, .ref 39), (1, .int (37 : Int32))] [] m _
  refine w_p h_m145 1 (pc' := 8) (L' := [(0, .ref 39), (1, .int (37 : Int32))]) (st' := [.ref 39]) rfl ?_
  refine w_gf H (pc' := 11) (L' := [(0, .ref 39), (1, .int (37 : Int32))]) h_m145 (z_at.mk 3 rfl rfl) rfl (u := .ref 106) rfl rfl rfl ?_
  refine w_gf H (pc' := 14) (L' := [(0, .ref 39), (1, .int (37 : Int32))]) h_m145 (z_at.mk 3 rfl rfl) rfl (u := .ref 107) rfl rfl rfl ?_
  refine w_p h_m145 1 (pc' := 15) (L' := [(0, .ref 39), (1, .int (37 : Int32))]) (st' := [.ref 39, .ref 107]) rfl ?_
  refine w_gf H (pc' := 18) (L' := [(0, .ref 39), (1, .int (37 : Int32))]) h_m145 (z_at.mk 3 rfl rfl) rfl (u := .ref 40) rfl rfl rfl ?_
  refine w_gf H (pc' := 21) (L' := [(0, .ref 39), (1, .int (37 : Int32))]) h_m145 (z_at.mk 3 rfl rfl) rfl (u := .ref 48) rfl rfl rfl ?_
  refine w_gf H (pc' := 24) (L' := [(0, .ref 39), (1, .int (37 : Int32))]) h_m145 (z_at.mk 3 rfl rfl) rfl (u := .ref 49) rfl rfl rfl ?_
  refine w_cv (H.t rfl) (pc' := 27) (L' := [(0, .ref 39), (1, .int (37 : Int32))]) (rest := []) (Ps := [.ref 49]) (L0 := [(0, .ref 107), (1, .ref 49)]) h_m145 (z_at.mk 3 rfl rfl) (Or.inl ⟨rfl, rfl⟩) rfl rfl (by decide) (by decide) rfl rfl rfl rfl rfl rfl (by decide) rfl rfl rfl ?_
  refine w_p h_m74 1 (pc' := 1) (L' := [(0, .ref 107), (1, .ref 49)]) (st' := [.ref 49]) rfl ?_
  refine w_gf H (pc' := 4) (L' := [(0, .ref 107), (1, .ref 49)]) h_m74 (z_at.mk 3 rfl rfl) rfl (u := .ref 50) rfl rfl rfl ?_
  refine w_p h_m74 2 (pc' := 6) (L' := [(0, .ref 107), (1, .ref 49)]) (st' := [.ref 107, .int (0 : Int32), .ref 50]) rfl ?_
  refine w_gf H (pc' := 9) (L' := [(0, .ref 107), (1, .ref 49)]) h_m74 (z_at.mk 3 rfl rfl) rfl (u := .ref 108) rfl rfl rfl ?_
  refine w_p h_m74 2 (pc' := 12) (L' := [(0, .ref 107), (1, .ref 49)]) (st' := [.int (7 : Int32), .int (0 : Int32), .ref 108, .int (0 : Int32), .ref 50]) rfl ?_
  refine w_cpf H (ra := (0, 7, [(6, .int (1024 : Int32)), (5, .int (1 : Int32)), (4, .int (1 : Int32)), (3, .int (0 : Int32)), (2, .int (12 : Int32)), (1, .int (40 : Int32)), (0, .int (10 : Int32))], some (.int (0 : Int32)))) (pc' := 15) (L' := [(0, .ref 107), (1, .ref 49)]) h_m74 (z_at.mk 3 rfl rfl) rfl (z_cat_le 0 rfl (by decide)) rfl rfl rfl rfl (by decide) rfl rfl ?_
  clear H m; intro m H
  refine w_rv h_m74 (z_at.mk 1 rfl rfl) rfl ?_
  show z_W 998 145 27 [(0, .ref 39), (1, .int (37 : Int32))] [] m _
  refine w_p h_m145 1 (pc' := 28) (L' := [(0, .ref 39), (1, .int (37 : Int32))]) (st' := [.ref 39]) rfl ?_
  refine w_gf H (pc' := 31) (L' := [(0, .ref 39), (1, .int (37 : Int32))]) h_m145 (z_at.mk 3 rfl rfl) rfl (u := .ref 106) rfl rfl rfl ?_
  refine w_gf H (pc' := 34) (L' := [(0, .ref 39), (1, .int (37 : Int32))]) h_m145 (z_at.mk 3 rfl rfl) rfl (u := .ref 107) rfl rfl rfl ?_
  refine w_p h_m145 2 (pc' := 36) (L' := [(0, .ref 39), (1, .int (37 : Int32))]) (st' := [.int (37 : Int32), .int (1 : Int32), .ref 107]) rfl ?_
  refine w_cv (H.t rfl) (pc' := 39) (L' := [(0, .ref 39), (1, .int (37 : Int32))]) (rest := []) (Ps := [.int (1 : Int32), .int (37 : Int32)]) (L0 := [(0, .ref 107), (1, .int (1 : Int32)), (2, .int (37 : Int32))]) h_m145 (z_at.mk 3 rfl rfl) (Or.inl ⟨rfl, rfl⟩) rfl rfl (by decide) (by decide) rfl rfl rfl rfl rfl rfl (by decide) rfl rfl rfl ?_
  refine w_p h_m73 6 (pc' := 11) (L' := [(0, .ref 107), (1, .int (1 : Int32)), (2, .int (37 : Int32))]) (st' := [.ref 107]) rfl ?_
  refine w_gf H (pc' := 14) (L' := [(0, .ref 107), (1, .int (1 : Int32)), (2, .int (37 : Int32))]) h_m73 (z_at.mk 3 rfl rfl) rfl (u := .ref 108) rfl rfl rfl ?_
  refine w_p h_m73 2 (pc' := 16) (L' := [(0, .ref 107), (1, .int (1 : Int32)), (2, .int (37 : Int32))]) (st' := [.int (37 : Int32), .int (1 : Int32), .ref 108]) rfl ?_
  refine w_as H (t := 0) (j := 1) (u := .int (37 : Int32)) (0, 7, [(1, .int (37 : Int32)), (6, .int (1024 : Int32)), (5, .int (1 : Int32)), (4, .int (1 : Int32)), (3, .int (0 : Int32)), (2, .int (12 : Int32)), (0, .int (10 : Int32))], some (.int (0 : Int32))) (pc' := 17) (L' := []) h_m73 (z_at.mk 1 rfl rfl) rfl rfl (w_ui _ _ (by decide)) rfl rfl rfl rfl ?_
  clear H m; intro m H
  refine w_rv h_m73 (z_at.mk 1 rfl rfl) rfl ?_
  show z_W 998 145 39 [(0, .ref 39), (1, .int (37 : Int32))] [] m _
  refine w_p h_m145 4 (pc' := 43) (L' := [(0, .ref 39), (2, .int (0 : Int32))]) (st' := [.ref 39, .int (0 : Int32)]) rfl ?_
  refine w_gf H (pc' := 46) (L' := [(0, .ref 39), (2, .int (0 : Int32))]) h_m145 (z_at.mk 3 rfl rfl) rfl (u := .ref 40) rfl rfl rfl ?_
  refine w_gf H (pc' := 49) (L' := [(0, .ref 39), (2, .int (0 : Int32))]) h_m145 (z_at.mk 3 rfl rfl) rfl (u := .ref 63) rfl rfl rfl ?_
  refine w_gf H (pc' := 52) (L' := [(0, .ref 39), (2, .int (0 : Int32))]) h_m145 (z_at.mk 3 rfl rfl) rfl (u := .int (0 : Int32)) rfl rfl rfl ?_
  refine w_p h_m145 1 (pc' := 79) (L' := [(0, .ref 39), (2, .int (0 : Int32))]) (st' := []) rfl ?_
  refine w_rv h_m145 (z_at.mk 1 rfl rfl) rfl ?_
  show z_W 999 146 13 [(0, .ref 39), (1, .int (xs 1)), (2, .int (37 : Int32))] [] m _
  refine w_p h_m146 1 (pc' := 14) (L' := [(0, .ref 39), (1, .int (xs 1)), (2, .int (37 : Int32))]) (st' := [.ref 39]) rfl ?_
  refine w_gf H (pc' := 17) (L' := [(0, .ref 39), (1, .int (xs 1)), (2, .int (37 : Int32))]) h_m146 (z_at.mk 3 rfl rfl) rfl (u := .ref 106) rfl rfl rfl ?_
  refine w_gf H (pc' := 20) (L' := [(0, .ref 39), (1, .int (xs 1)), (2, .int (37 : Int32))]) h_m146 (z_at.mk 3 rfl rfl) rfl (u := .int (0 : Int32)) rfl rfl rfl ?_
  refine w_p h_m146 1 (pc' := 21) (L' := [(0, .ref 39), (1, .int (xs 1)), (2, .int (37 : Int32))]) (st' := [.int (xs 1), .int (0 : Int32)]) rfl ?_
  refine w_t2 (pc' := 26) (L' := [(0, .ref 39), (1, .int (xs 1)), (2, .int (37 : Int32))]) h_m146 (z_at.mk 3 rfl rfl) rfl (zc (a := 0) (b := (xs 1).toInt) rfl rfl (decide_eq_true (by omega))) rfl rfl ?_
  refine w_p h_m146 2 (pc' := 2) (L' := [(0, .ref 39), (1, .int (xs 1)), (2, .int (38 : Int32))]) (st' := []) rfl ?_
  exact hQ m (H.subC (by decide +kernel))
set_option maxHeartbeats 400000000 in
set_option maxRecDepth 20000 in
theorem w_turn_146_38 {xs : Nat → Int32} {m : zM} {Q : Option Value → zM → Prop} (hp : (xs 1).toInt < 0) (H : w_ok 6 xs 168 63950 ((106, (12, 18, [(15, .int (0 : Int32)), (14, .int (0 : Int32)), (13, .int (0 : Int32)), (12, .int (0 : Int32)), (11, .int (0 : Int32)), (10, .int (0 : Int32)), (9, .long (0 : Int64)), (8, .int (0 : Int32)), (2, .int (0 : Int32)), (0, .ref 41), (17, .ref 116), (16, .ref 114), (7, .ref 113), (6, .ref 112), (5, .ref 111), (4, .ref 110), (3, .ref 109), (1, .ref 107)], none)) :: (108, (0, 7, [(1, .int (37 : Int32)), (6, .int (1024 : Int32)), (5, .int (1 : Int32)), (4, .int (1 : Int32)), (3, .int (0 : Int32)), (2, .int (12 : Int32)), (0, .int (10 : Int32))], some (.int (0 : Int32)))) :: w_T0) m) (hQ : ∀ m, w_ok 6 xs 168 63950 ((106, (12, 18, [(15, .int (0 : Int32)), (14, .int (0 : Int32)), (13, .int (0 : Int32)), (12, .int (0 : Int32)), (11, .int (0 : Int32)), (10, .int (0 : Int32)), (9, .long (0 : Int64)), (8, .int (0 : Int32)), (2, .int (0 : Int32)), (0, .ref 41), (17, .ref 116), (16, .ref 114), (7, .ref 113), (6, .ref 112), (5, .ref 111), (4, .ref 110), (3, .ref 109), (1, .ref 107)], none)) :: (108, (0, 7, [(1, .int (38 : Int32)), (6, .int (1024 : Int32)), (5, .int (1 : Int32)), (4, .int (1 : Int32)), (3, .int (0 : Int32)), (2, .int (12 : Int32)), (0, .int (10 : Int32))], some (.int (0 : Int32)))) :: w_T0) m → z_W 999 146 2 [(0, .ref 39), (1, .int (xs 1)), (2, .int (39 : Int32))] [] m Q) : z_W 999 146 2 [(0, .ref 39), (1, .int (xs 1)), (2, .int (38 : Int32))] [] m Q := by
  refine w_p h_m146 5 (pc' := 10) (L' := [(0, .ref 39), (1, .int (xs 1)), (2, .int (38 : Int32))]) (st' := [.int (38 : Int32), .ref 39]) rfl ?_
  refine w_cv (H.t rfl) (pc' := 13) (L' := [(0, .ref 39), (1, .int (xs 1)), (2, .int (38 : Int32))]) (rest := []) (Ps := [.int (38 : Int32)]) (L0 := [(0, .ref 39), (1, .int (38 : Int32))]) h_m146 (z_at.mk 3 rfl rfl) (Or.inl ⟨rfl, rfl⟩) rfl rfl (by decide) (by decide) rfl rfl rfl rfl rfl rfl (by decide) rfl rfl rfl ?_
  refine w_p h_m145 1 (pc' := 1) (L' := [(0, .ref 39), (1, .int (38 : Int32))]) (st' := [.ref 39]) rfl ?_
  refine w_gf H (pc' := 4) (L' := [(0, .ref 39), (1, .int (38 : Int32))]) h_m145 (z_at.mk 3 rfl rfl) rfl (u := .ref 106) rfl rfl rfl ?_
  refine w_cv (H.t rfl) (pc' := 7) (L' := [(0, .ref 39), (1, .int (38 : Int32))]) (rest := []) (Ps := []) (L0 := [(0, .ref 106)]) h_m145 (z_at.mk 3 rfl rfl) (Or.inl ⟨rfl, rfl⟩) rfl rfl (by decide) (by decide) rfl rfl rfl rfl rfl rfl (by decide) rfl rfl rfl ?_
  refine w_p h_m20 2 (pc' := 2) (L' := [(0, .ref 106)]) (st' := [.int (0 : Int32), .ref 106]) rfl ?_
  refine w_pf H (12, 18, [(2, .int (0 : Int32)), (15, .int (0 : Int32)), (14, .int (0 : Int32)), (13, .int (0 : Int32)), (12, .int (0 : Int32)), (11, .int (0 : Int32)), (10, .int (0 : Int32)), (9, .long (0 : Int64)), (8, .int (0 : Int32)), (0, .ref 41), (17, .ref 116), (16, .ref 114), (7, .ref 113), (6, .ref 112), (5, .ref 111), (4, .ref 110), (3, .ref 109), (1, .ref 107)], none) (pc' := 5) (L' := [(0, .ref 106)]) h_m20 (z_at.mk 3 rfl rfl) rfl (by decide) rfl (Or.inl rfl) rfl rfl rfl ?_
  clear H m; intro m H
  refine w_p h_m20 2 (pc' := 7) (L' := [(0, .ref 106)]) (st' := [.int (0 : Int32), .ref 106]) rfl ?_
  refine w_pf H (12, 18, [(8, .int (0 : Int32)), (2, .int (0 : Int32)), (15, .int (0 : Int32)), (14, .int (0 : Int32)), (13, .int (0 : Int32)), (12, .int (0 : Int32)), (11, .int (0 : Int32)), (10, .int (0 : Int32)), (9, .long (0 : Int64)), (0, .ref 41), (17, .ref 116), (16, .ref 114), (7, .ref 113), (6, .ref 112), (5, .ref 111), (4, .ref 110), (3, .ref 109), (1, .ref 107)], none) (pc' := 10) (L' := [(0, .ref 106)]) h_m20 (z_at.mk 3 rfl rfl) rfl (by decide) rfl (Or.inl rfl) rfl rfl rfl ?_
  clear H m; intro m H
  refine w_p h_m20 2 (pc' := 12) (L' := [(0, .ref 106)]) (st' := [.long (0 : Int64), .ref 106]) rfl ?_
  refine w_pf H (12, 18, [(9, .long (0 : Int64)), (8, .int (0 : Int32)), (2, .int (0 : Int32)), (15, .int (0 : Int32)), (14, .int (0 : Int32)), (13, .int (0 : Int32)), (12, .int (0 : Int32)), (11, .int (0 : Int32)), (10, .int (0 : Int32)), (0, .ref 41), (17, .ref 116), (16, .ref 114), (7, .ref 113), (6, .ref 112), (5, .ref 111), (4, .ref 110), (3, .ref 109), (1, .ref 107)], none) (pc' := 15) (L' := [(0, .ref 106)]) h_m20 (z_at.mk 3 rfl rfl) rfl (by decide) rfl (Or.inl rfl) rfl rfl rfl ?_
  clear H m; intro m H
  refine w_p h_m20 2 (pc' := 17) (L' := [(0, .ref 106)]) (st' := [.int (0 : Int32), .ref 106]) rfl ?_
  refine w_pf H (12, 18, [(10, .int (0 : Int32)), (9, .long (0 : Int64)), (8, .int (0 : Int32)), (2, .int (0 : Int32)), (15, .int (0 : Int32)), (14, .int (0 : Int32)), (13, .int (0 : Int32)), (12, .int (0 : Int32)), (11, .int (0 : Int32)), (0, .ref 41), (17, .ref 116), (16, .ref 114), (7, .ref 113), (6, .ref 112), (5, .ref 111), (4, .ref 110), (3, .ref 109), (1, .ref 107)], none) (pc' := 20) (L' := [(0, .ref 106)]) h_m20 (z_at.mk 3 rfl rfl) rfl (by decide) rfl (Or.inl rfl) rfl rfl rfl ?_
  clear H m; intro m H
  refine w_p h_m20 2 (pc' := 22) (L' := [(0, .ref 106)]) (st' := [.int (0 : Int32), .ref 106]) rfl ?_
  refine w_pf H (12, 18, [(11, .int (0 : Int32)), (10, .int (0 : Int32)), (9, .long (0 : Int64)), (8, .int (0 : Int32)), (2, .int (0 : Int32)), (15, .int (0 : Int32)), (14, .int (0 : Int32)), (13, .int (0 : Int32)), (12, .int (0 : Int32)), (0, .ref 41), (17, .ref 116), (16, .ref 114), (7, .ref 113), (6, .ref 112), (5, .ref 111), (4, .ref 110), (3, .ref 109), (1, .ref 107)], none) (pc' := 25) (L' := [(0, .ref 106)]) h_m20 (z_at.mk 3 rfl rfl) rfl (by decide) rfl (Or.inl rfl) rfl rfl rfl ?_
  clear H m; intro m H
  refine w_p h_m20 2 (pc' := 27) (L' := [(0, .ref 106)]) (st' := [.int (0 : Int32), .ref 106]) rfl ?_
  refine w_pf H (12, 18, [(12, .int (0 : Int32)), (11, .int (0 : Int32)), (10, .int (0 : Int32)), (9, .long (0 : Int64)), (8, .int (0 : Int32)), (2, .int (0 : Int32)), (15, .int (0 : Int32)), (14, .int (0 : Int32)), (13, .int (0 : Int32)), (0, .ref 41), (17, .ref 116), (16, .ref 114), (7, .ref 113), (6, .ref 112), (5, .ref 111), (4, .ref 110), (3, .ref 109), (1, .ref 107)], none) (pc' := 30) (L' := [(0, .ref 106)]) h_m20 (z_at.mk 3 rfl rfl) rfl (by decide) rfl (Or.inl rfl) rfl rfl rfl ?_
  clear H m; intro m H
  refine w_p h_m20 2 (pc' := 32) (L' := [(0, .ref 106)]) (st' := [.int (0 : Int32), .ref 106]) rfl ?_
  refine w_pf H (12, 18, [(13, .int (0 : Int32)), (12, .int (0 : Int32)), (11, .int (0 : Int32)), (10, .int (0 : Int32)), (9, .long (0 : Int64)), (8, .int (0 : Int32)), (2, .int (0 : Int32)), (15, .int (0 : Int32)), (14, .int (0 : Int32)), (0, .ref 41), (17, .ref 116), (16, .ref 114), (7, .ref 113), (6, .ref 112), (5, .ref 111), (4, .ref 110), (3, .ref 109), (1, .ref 107)], none) (pc' := 35) (L' := [(0, .ref 106)]) h_m20 (z_at.mk 3 rfl rfl) rfl (by decide) rfl (Or.inl rfl) rfl rfl rfl ?_
  clear H m; intro m H
  refine w_p h_m20 2 (pc' := 37) (L' := [(0, .ref 106)]) (st' := [.int (0 : Int32), .ref 106]) rfl ?_
  refine w_pf H (12, 18, [(14, .int (0 : Int32)), (13, .int (0 : Int32)), (12, .int (0 : Int32)), (11, .int (0 : Int32)), (10, .int (0 : Int32)), (9, .long (0 : Int64)), (8, .int (0 : Int32)), (2, .int (0 : Int32)), (15, .int (0 : Int32)), (0, .ref 41), (17, .ref 116), (16, .ref 114), (7, .ref 113), (6, .ref 112), (5, .ref 111), (4, .ref 110), (3, .ref 109), (1, .ref 107)], none) (pc' := 40) (L' := [(0, .ref 106)]) h_m20 (z_at.mk 3 rfl rfl) rfl (by decide) rfl (Or.inl rfl) rfl rfl rfl ?_
  clear H m; intro m H
  refine w_p h_m20 2 (pc' := 42) (L' := [(0, .ref 106)]) (st' := [.int (0 : Int32), .ref 106]) rfl ?_
  refine w_pf H (12, 18, [(15, .int (0 : Int32)), (14, .int (0 : Int32)), (13, .int (0 : Int32)), (12, .int (0 : Int32)), (11, .int (0 : Int32)), (10, .int (0 : Int32)), (9, .long (0 : Int64)), (8, .int (0 : Int32)), (2, .int (0 : Int32)), (0, .ref 41), (17, .ref 116), (16, .ref 114), (7, .ref 113), (6, .ref 112), (5, .ref 111), (4, .ref 110), (3, .ref 109), (1, .ref 107)], none) (pc' := 45) (L' := [(0, .ref 106)]) h_m20 (z_at.mk 3 rfl rfl) rfl (by decide) rfl (Or.inl rfl) rfl rfl rfl ?_
  clear H m; intro m H
  refine w_rv h_m20 (z_at.mk 1 rfl rfl) rfl ?_
  show z_W 998 145 7 [(0, .ref 39), (1, .int (38 : Int32))] [] m _
  refine w_p h_m145 1 (pc' := 8) (L' := [(0, .ref 39), (1, .int (38 : Int32))]) (st' := [.ref 39]) rfl ?_
  refine w_gf H (pc' := 11) (L' := [(0, .ref 39), (1, .int (38 : Int32))]) h_m145 (z_at.mk 3 rfl rfl) rfl (u := .ref 106) rfl rfl rfl ?_
  refine w_gf H (pc' := 14) (L' := [(0, .ref 39), (1, .int (38 : Int32))]) h_m145 (z_at.mk 3 rfl rfl) rfl (u := .ref 107) rfl rfl rfl ?_
  refine w_p h_m145 1 (pc' := 15) (L' := [(0, .ref 39), (1, .int (38 : Int32))]) (st' := [.ref 39, .ref 107]) rfl ?_
  refine w_gf H (pc' := 18) (L' := [(0, .ref 39), (1, .int (38 : Int32))]) h_m145 (z_at.mk 3 rfl rfl) rfl (u := .ref 40) rfl rfl rfl ?_
  refine w_gf H (pc' := 21) (L' := [(0, .ref 39), (1, .int (38 : Int32))]) h_m145 (z_at.mk 3 rfl rfl) rfl (u := .ref 48) rfl rfl rfl ?_
  refine w_gf H (pc' := 24) (L' := [(0, .ref 39), (1, .int (38 : Int32))]) h_m145 (z_at.mk 3 rfl rfl) rfl (u := .ref 49) rfl rfl rfl ?_
  refine w_cv (H.t rfl) (pc' := 27) (L' := [(0, .ref 39), (1, .int (38 : Int32))]) (rest := []) (Ps := [.ref 49]) (L0 := [(0, .ref 107), (1, .ref 49)]) h_m145 (z_at.mk 3 rfl rfl) (Or.inl ⟨rfl, rfl⟩) rfl rfl (by decide) (by decide) rfl rfl rfl rfl rfl rfl (by decide) rfl rfl rfl ?_
  refine w_p h_m74 1 (pc' := 1) (L' := [(0, .ref 107), (1, .ref 49)]) (st' := [.ref 49]) rfl ?_
  refine w_gf H (pc' := 4) (L' := [(0, .ref 107), (1, .ref 49)]) h_m74 (z_at.mk 3 rfl rfl) rfl (u := .ref 50) rfl rfl rfl ?_
  refine w_p h_m74 2 (pc' := 6) (L' := [(0, .ref 107), (1, .ref 49)]) (st' := [.ref 107, .int (0 : Int32), .ref 50]) rfl ?_
  refine w_gf H (pc' := 9) (L' := [(0, .ref 107), (1, .ref 49)]) h_m74 (z_at.mk 3 rfl rfl) rfl (u := .ref 108) rfl rfl rfl ?_
  refine w_p h_m74 2 (pc' := 12) (L' := [(0, .ref 107), (1, .ref 49)]) (st' := [.int (7 : Int32), .int (0 : Int32), .ref 108, .int (0 : Int32), .ref 50]) rfl ?_
  refine w_cpf H (ra := (0, 7, [(6, .int (1024 : Int32)), (5, .int (1 : Int32)), (4, .int (1 : Int32)), (3, .int (0 : Int32)), (2, .int (12 : Int32)), (1, .int (40 : Int32)), (0, .int (10 : Int32))], some (.int (0 : Int32)))) (pc' := 15) (L' := [(0, .ref 107), (1, .ref 49)]) h_m74 (z_at.mk 3 rfl rfl) rfl (z_cat_le 0 rfl (by decide)) rfl rfl rfl rfl (by decide) rfl rfl ?_
  clear H m; intro m H
  refine w_rv h_m74 (z_at.mk 1 rfl rfl) rfl ?_
  show z_W 998 145 27 [(0, .ref 39), (1, .int (38 : Int32))] [] m _
  refine w_p h_m145 1 (pc' := 28) (L' := [(0, .ref 39), (1, .int (38 : Int32))]) (st' := [.ref 39]) rfl ?_
  refine w_gf H (pc' := 31) (L' := [(0, .ref 39), (1, .int (38 : Int32))]) h_m145 (z_at.mk 3 rfl rfl) rfl (u := .ref 106) rfl rfl rfl ?_
  refine w_gf H (pc' := 34) (L' := [(0, .ref 39), (1, .int (38 : Int32))]) h_m145 (z_at.mk 3 rfl rfl) rfl (u := .ref 107) rfl rfl rfl ?_
  refine w_p h_m145 2 (pc' := 36) (L' := [(0, .ref 39), (1, .int (38 : Int32))]) (st' := [.int (38 : Int32), .int (1 : Int32), .ref 107]) rfl ?_
  refine w_cv (H.t rfl) (pc' := 39) (L' := [(0, .ref 39), (1, .int (38 : Int32))]) (rest := []) (Ps := [.int (1 : Int32), .int (38 : Int32)]) (L0 := [(0, .ref 107), (1, .int (1 : Int32)), (2, .int (38 : Int32))]) h_m145 (z_at.mk 3 rfl rfl) (Or.inl ⟨rfl, rfl⟩) rfl rfl (by decide) (by decide) rfl rfl rfl rfl rfl rfl (by decide) rfl rfl rfl ?_
  refine w_p h_m73 6 (pc' := 11) (L' := [(0, .ref 107), (1, .int (1 : Int32)), (2, .int (38 : Int32))]) (st' := [.ref 107]) rfl ?_
  refine w_gf H (pc' := 14) (L' := [(0, .ref 107), (1, .int (1 : Int32)), (2, .int (38 : Int32))]) h_m73 (z_at.mk 3 rfl rfl) rfl (u := .ref 108) rfl rfl rfl ?_
  refine w_p h_m73 2 (pc' := 16) (L' := [(0, .ref 107), (1, .int (1 : Int32)), (2, .int (38 : Int32))]) (st' := [.int (38 : Int32), .int (1 : Int32), .ref 108]) rfl ?_
  refine w_as H (t := 0) (j := 1) (u := .int (38 : Int32)) (0, 7, [(1, .int (38 : Int32)), (6, .int (1024 : Int32)), (5, .int (1 : Int32)), (4, .int (1 : Int32)), (3, .int (0 : Int32)), (2, .int (12 : Int32)), (0, .int (10 : Int32))], some (.int (0 : Int32))) (pc' := 17) (L' := []) h_m73 (z_at.mk 1 rfl rfl) rfl rfl (w_ui _ _ (by decide)) rfl rfl rfl rfl ?_
  clear H m; intro m H
  refine w_rv h_m73 (z_at.mk 1 rfl rfl) rfl ?_
  show z_W 998 145 39 [(0, .ref 39), (1, .int (38 : Int32))] [] m _
  refine w_p h_m145 4 (pc' := 43) (L' := [(0, .ref 39), (2, .int (0 : Int32))]) (st' := [.ref 39, .int (0 : Int32)]) rfl ?_
  refine w_gf H (pc' := 46) (L' := [(0, .ref 39), (2, .int (0 : Int32))]) h_m145 (z_at.mk 3 rfl rfl) rfl (u := .ref 40) rfl rfl rfl ?_
  refine w_gf H (pc' := 49) (L' := [(0, .ref 39), (2, .int (0 : Int32))]) h_m145 (z_at.mk 3 rfl rfl) rfl (u := .ref 63) rfl rfl rfl ?_
  refine w_gf H (pc' := 52) (L' := [(0, .ref 39), (2, .int (0 : Int32))]) h_m145 (z_at.mk 3 rfl rfl) rfl (u := .int (0 : Int32)) rfl rfl rfl ?_
  refine w_p h_m145 1 (pc' := 79) (L' := [(0, .ref 39), (2, .int (0 : Int32))]) (st' := []) rfl ?_
  refine w_rv h_m145 (z_at.mk 1 rfl rfl) rfl ?_
  show z_W 999 146 13 [(0, .ref 39), (1, .int (xs 1)), (2, .int (38 : Int32))] [] m _
  refine w_p h_m146 1 (pc' := 14) (L' := [(0, .ref 39), (1, .int (xs 1)), (2, .int (38 : Int32))]) (st' := [.ref 39]) rfl ?_
  refine w_gf H (pc' := 17) (L' := [(0, .ref 39), (1, .int (xs 1)), (2, .int (38 : Int32))]) h_m146 (z_at.mk 3 rfl rfl) rfl (u := .ref 106) rfl rfl rfl ?_
  refine w_gf H (pc' := 20) (L' := [(0, .ref 39), (1, .int (xs 1)), (2, .int (38 : Int32))]) h_m146 (z_at.mk 3 rfl rfl) rfl (u := .int (0 : Int32)) rfl rfl rfl ?_
  refine w_p h_m146 1 (pc' := 21) (L' := [(0, .ref 39), (1, .int (xs 1)), (2, .int (38 : Int32))]) (st' := [.int (xs 1), .int (0 : Int32)]) rfl ?_
  refine w_t2 (pc' := 26) (L' := [(0, .ref 39), (1, .int (xs 1)), (2, .int (38 : Int32))]) h_m146 (z_at.mk 3 rfl rfl) rfl (zc (a := 0) (b := (xs 1).toInt) rfl rfl (decide_eq_true (by omega))) rfl rfl ?_
  refine w_p h_m146 2 (pc' := 2) (L' := [(0, .ref 39), (1, .int (xs 1)), (2, .int (39 : Int32))]) (st' := []) rfl ?_
  exact hQ m (H.subC (by decide +kernel))
set_option maxHeartbeats 400000000 in
set_option maxRecDepth 20000 in
theorem w_turn_146_39 {xs : Nat → Int32} {m : zM} {Q : Option Value → zM → Prop} (hp : (xs 1).toInt < 0) (H : w_ok 6 xs 168 63950 ((106, (12, 18, [(15, .int (0 : Int32)), (14, .int (0 : Int32)), (13, .int (0 : Int32)), (12, .int (0 : Int32)), (11, .int (0 : Int32)), (10, .int (0 : Int32)), (9, .long (0 : Int64)), (8, .int (0 : Int32)), (2, .int (0 : Int32)), (0, .ref 41), (17, .ref 116), (16, .ref 114), (7, .ref 113), (6, .ref 112), (5, .ref 111), (4, .ref 110), (3, .ref 109), (1, .ref 107)], none)) :: (108, (0, 7, [(1, .int (38 : Int32)), (6, .int (1024 : Int32)), (5, .int (1 : Int32)), (4, .int (1 : Int32)), (3, .int (0 : Int32)), (2, .int (12 : Int32)), (0, .int (10 : Int32))], some (.int (0 : Int32)))) :: w_T0) m) (hQ : ∀ m, w_ok 6 xs 168 63950 ((106, (12, 18, [(15, .int (0 : Int32)), (14, .int (0 : Int32)), (13, .int (0 : Int32)), (12, .int (0 : Int32)), (11, .int (0 : Int32)), (10, .int (0 : Int32)), (9, .long (0 : Int64)), (8, .int (0 : Int32)), (2, .int (0 : Int32)), (0, .ref 41), (17, .ref 116), (16, .ref 114), (7, .ref 113), (6, .ref 112), (5, .ref 111), (4, .ref 110), (3, .ref 109), (1, .ref 107)], none)) :: (108, (0, 7, [(1, .int (39 : Int32)), (6, .int (1024 : Int32)), (5, .int (1 : Int32)), (4, .int (1 : Int32)), (3, .int (0 : Int32)), (2, .int (12 : Int32)), (0, .int (10 : Int32))], some (.int (0 : Int32)))) :: w_T0) m → z_W 999 146 2 [(0, .ref 39), (1, .int (xs 1)), (2, .int (40 : Int32))] [] m Q) : z_W 999 146 2 [(0, .ref 39), (1, .int (xs 1)), (2, .int (39 : Int32))] [] m Q := by
  refine w_p h_m146 5 (pc' := 10) (L' := [(0, .ref 39), (1, .int (xs 1)), (2, .int (39 : Int32))]) (st' := [.int (39 : Int32), .ref 39]) rfl ?_
  refine w_cv (H.t rfl) (pc' := 13) (L' := [(0, .ref 39), (1, .int (xs 1)), (2, .int (39 : Int32))]) (rest := []) (Ps := [.int (39 : Int32)]) (L0 := [(0, .ref 39), (1, .int (39 : Int32))]) h_m146 (z_at.mk 3 rfl rfl) (Or.inl ⟨rfl, rfl⟩) rfl rfl (by decide) (by decide) rfl rfl rfl rfl rfl rfl (by decide) rfl rfl rfl ?_
  refine w_p h_m145 1 (pc' := 1) (L' := [(0, .ref 39), (1, .int (39 : Int32))]) (st' := [.ref 39]) rfl ?_
  refine w_gf H (pc' := 4) (L' := [(0, .ref 39), (1, .int (39 : Int32))]) h_m145 (z_at.mk 3 rfl rfl) rfl (u := .ref 106) rfl rfl rfl ?_
  refine w_cv (H.t rfl) (pc' := 7) (L' := [(0, .ref 39), (1, .int (39 : Int32))]) (rest := []) (Ps := []) (L0 := [(0, .ref 106)]) h_m145 (z_at.mk 3 rfl rfl) (Or.inl ⟨rfl, rfl⟩) rfl rfl (by decide) (by decide) rfl rfl rfl rfl rfl rfl (by decide) rfl rfl rfl ?_
  refine w_p h_m20 2 (pc' := 2) (L' := [(0, .ref 106)]) (st' := [.int (0 : Int32), .ref 106]) rfl ?_
  refine w_pf H (12, 18, [(2, .int (0 : Int32)), (15, .int (0 : Int32)), (14, .int (0 : Int32)), (13, .int (0 : Int32)), (12, .int (0 : Int32)), (11, .int (0 : Int32)), (10, .int (0 : Int32)), (9, .long (0 : Int64)), (8, .int (0 : Int32)), (0, .ref 41), (17, .ref 116), (16, .ref 114), (7, .ref 113), (6, .ref 112), (5, .ref 111), (4, .ref 110), (3, .ref 109), (1, .ref 107)], none) (pc' := 5) (L' := [(0, .ref 106)]) h_m20 (z_at.mk 3 rfl rfl) rfl (by decide) rfl (Or.inl rfl) rfl rfl rfl ?_
  clear H m; intro m H
  refine w_p h_m20 2 (pc' := 7) (L' := [(0, .ref 106)]) (st' := [.int (0 : Int32), .ref 106]) rfl ?_
  refine w_pf H (12, 18, [(8, .int (0 : Int32)), (2, .int (0 : Int32)), (15, .int (0 : Int32)), (14, .int (0 : Int32)), (13, .int (0 : Int32)), (12, .int (0 : Int32)), (11, .int (0 : Int32)), (10, .int (0 : Int32)), (9, .long (0 : Int64)), (0, .ref 41), (17, .ref 116), (16, .ref 114), (7, .ref 113), (6, .ref 112), (5, .ref 111), (4, .ref 110), (3, .ref 109), (1, .ref 107)], none) (pc' := 10) (L' := [(0, .ref 106)]) h_m20 (z_at.mk 3 rfl rfl) rfl (by decide) rfl (Or.inl rfl) rfl rfl rfl ?_
  clear H m; intro m H
  refine w_p h_m20 2 (pc' := 12) (L' := [(0, .ref 106)]) (st' := [.long (0 : Int64), .ref 106]) rfl ?_
  refine w_pf H (12, 18, [(9, .long (0 : Int64)), (8, .int (0 : Int32)), (2, .int (0 : Int32)), (15, .int (0 : Int32)), (14, .int (0 : Int32)), (13, .int (0 : Int32)), (12, .int (0 : Int32)), (11, .int (0 : Int32)), (10, .int (0 : Int32)), (0, .ref 41), (17, .ref 116), (16, .ref 114), (7, .ref 113), (6, .ref 112), (5, .ref 111), (4, .ref 110), (3, .ref 109), (1, .ref 107)], none) (pc' := 15) (L' := [(0, .ref 106)]) h_m20 (z_at.mk 3 rfl rfl) rfl (by decide) rfl (Or.inl rfl) rfl rfl rfl ?_
  clear H m; intro m H
  refine w_p h_m20 2 (pc' := 17) (L' := [(0, .ref 106)]) (st' := [.int (0 : Int32), .ref 106]) rfl ?_
  refine w_pf H (12, 18, [(10, .int (0 : Int32)), (9, .long (0 : Int64)), (8, .int (0 : Int32)), (2, .int (0 : Int32)), (15, .int (0 : Int32)), (14, .int (0 : Int32)), (13, .int (0 : Int32)), (12, .int (0 : Int32)), (11, .int (0 : Int32)), (0, .ref 41), (17, .ref 116), (16, .ref 114), (7, .ref 113), (6, .ref 112), (5, .ref 111), (4, .ref 110), (3, .ref 109), (1, .ref 107)], none) (pc' := 20) (L' := [(0, .ref 106)]) h_m20 (z_at.mk 3 rfl rfl) rfl (by decide) rfl (Or.inl rfl) rfl rfl rfl ?_
  clear H m; intro m H
  refine w_p h_m20 2 (pc' := 22) (L' := [(0, .ref 106)]) (st' := [.int (0 : Int32), .ref 106]) rfl ?_
  refine w_pf H (12, 18, [(11, .int (0 : Int32)), (10, .int (0 : Int32)), (9, .long (0 : Int64)), (8, .int (0 : Int32)), (2, .int (0 : Int32)), (15, .int (0 : Int32)), (14, .int (0 : Int32)), (13, .int (0 : Int32)), (12, .int (0 : Int32)), (0, .ref 41), (17, .ref 116), (16, .ref 114), (7, .ref 113), (6, .ref 112), (5, .ref 111), (4, .ref 110), (3, .ref 109), (1, .ref 107)], none) (pc' := 25) (L' := [(0, .ref 106)]) h_m20 (z_at.mk 3 rfl rfl) rfl (by decide) rfl (Or.inl rfl) rfl rfl rfl ?_
  clear H m; intro m H
  refine w_p h_m20 2 (pc' := 27) (L' := [(0, .ref 106)]) (st' := [.int (0 : Int32), .ref 106]) rfl ?_
  refine w_pf H (12, 18, [(12, .int (0 : Int32)), (11, .int (0 : Int32)), (10, .int (0 : Int32)), (9, .long (0 : Int64)), (8, .int (0 : Int32)), (2, .int (0 : Int32)), (15, .int (0 : Int32)), (14, .int (0 : Int32)), (13, .int (0 : Int32)), (0, .ref 41), (17, .ref 116), (16, .ref 114), (7, .ref 113), (6, .ref 112), (5, .ref 111), (4, .ref 110), (3, .ref 109), (1, .ref 107)], none) (pc' := 30) (L' := [(0, .ref 106)]) h_m20 (z_at.mk 3 rfl rfl) rfl (by decide) rfl (Or.inl rfl) rfl rfl rfl ?_
  clear H m; intro m H
  refine w_p h_m20 2 (pc' := 32) (L' := [(0, .ref 106)]) (st' := [.int (0 : Int32), .ref 106]) rfl ?_
  refine w_pf H (12, 18, [(13, .int (0 : Int32)), (12, .int (0 : Int32)), (11, .int (0 : Int32)), (10, .int (0 : Int32)), (9, .long (0 : Int64)), (8, .int (0 : Int32)), (2, .int (0 : Int32)), (15, .int (0 : Int32)), (14, .int (0 : Int32)), (0, .ref 41), (17, .ref 116), (16, .ref 114), (7, .ref 113), (6, .ref 112), (5, .ref 111), (4, .ref 110), (3, .ref 109), (1, .ref 107)], none) (pc' := 35) (L' := [(0, .ref 106)]) h_m20 (z_at.mk 3 rfl rfl) rfl (by decide) rfl (Or.inl rfl) rfl rfl rfl ?_
  clear H m; intro m H
  refine w_p h_m20 2 (pc' := 37) (L' := [(0, .ref 106)]) (st' := [.int (0 : Int32), .ref 106]) rfl ?_
  refine w_pf H (12, 18, [(14, .int (0 : Int32)), (13, .int (0 : Int32)), (12, .int (0 : Int32)), (11, .int (0 : Int32)), (10, .int (0 : Int32)), (9, .long (0 : Int64)), (8, .int (0 : Int32)), (2, .int (0 : Int32)), (15, .int (0 : Int32)), (0, .ref 41), (17, .ref 116), (16, .ref 114), (7, .ref 113), (6, .ref 112), (5, .ref 111), (4, .ref 110), (3, .ref 109), (1, .ref 107)], none) (pc' := 40) (L' := [(0, .ref 106)]) h_m20 (z_at.mk 3 rfl rfl) rfl (by decide) rfl (Or.inl rfl) rfl rfl rfl ?_
  clear H m; intro m H
  refine w_p h_m20 2 (pc' := 42) (L' := [(0, .ref 106)]) (st' := [.int (0 : Int32), .ref 106]) rfl ?_
  refine w_pf H (12, 18, [(15, .int (0 : Int32)), (14, .int (0 : Int32)), (13, .int (0 : Int32)), (12, .int (0 : Int32)), (11, .int (0 : Int32)), (10, .int (0 : Int32)), (9, .long (0 : Int64)), (8, .int (0 : Int32)), (2, .int (0 : Int32)), (0, .ref 41), (17, .ref 116), (16, .ref 114), (7, .ref 113), (6, .ref 112), (5, .ref 111), (4, .ref 110), (3, .ref 109), (1, .ref 107)], none) (pc' := 45) (L' := [(0, .ref 106)]) h_m20 (z_at.mk 3 rfl rfl) rfl (by decide) rfl (Or.inl rfl) rfl rfl rfl ?_
  clear H m; intro m H
  refine w_rv h_m20 (z_at.mk 1 rfl rfl) rfl ?_
  show z_W 998 145 7 [(0, .ref 39), (1, .int (39 : Int32))] [] m _
  refine w_p h_m145 1 (pc' := 8) (L' := [(0, .ref 39), (1, .int (39 : Int32))]) (st' := [.ref 39]) rfl ?_
  refine w_gf H (pc' := 11) (L' := [(0, .ref 39), (1, .int (39 : Int32))]) h_m145 (z_at.mk 3 rfl rfl) rfl (u := .ref 106) rfl rfl rfl ?_
  refine w_gf H (pc' := 14) (L' := [(0, .ref 39), (1, .int (39 : Int32))]) h_m145 (z_at.mk 3 rfl rfl) rfl (u := .ref 107) rfl rfl rfl ?_
  refine w_p h_m145 1 (pc' := 15) (L' := [(0, .ref 39), (1, .int (39 : Int32))]) (st' := [.ref 39, .ref 107]) rfl ?_
  refine w_gf H (pc' := 18) (L' := [(0, .ref 39), (1, .int (39 : Int32))]) h_m145 (z_at.mk 3 rfl rfl) rfl (u := .ref 40) rfl rfl rfl ?_
  refine w_gf H (pc' := 21) (L' := [(0, .ref 39), (1, .int (39 : Int32))]) h_m145 (z_at.mk 3 rfl rfl) rfl (u := .ref 48) rfl rfl rfl ?_
  refine w_gf H (pc' := 24) (L' := [(0, .ref 39), (1, .int (39 : Int32))]) h_m145 (z_at.mk 3 rfl rfl) rfl (u := .ref 49) rfl rfl rfl ?_
  refine w_cv (H.t rfl) (pc' := 27) (L' := [(0, .ref 39), (1, .int (39 : Int32))]) (rest := []) (Ps := [.ref 49]) (L0 := [(0, .ref 107), (1, .ref 49)]) h_m145 (z_at.mk 3 rfl rfl) (Or.inl ⟨rfl, rfl⟩) rfl rfl (by decide) (by decide) rfl rfl rfl rfl rfl rfl (by decide) rfl rfl rfl ?_
  refine w_p h_m74 1 (pc' := 1) (L' := [(0, .ref 107), (1, .ref 49)]) (st' := [.ref 49]) rfl ?_
  refine w_gf H (pc' := 4) (L' := [(0, .ref 107), (1, .ref 49)]) h_m74 (z_at.mk 3 rfl rfl) rfl (u := .ref 50) rfl rfl rfl ?_
  refine w_p h_m74 2 (pc' := 6) (L' := [(0, .ref 107), (1, .ref 49)]) (st' := [.ref 107, .int (0 : Int32), .ref 50]) rfl ?_
  refine w_gf H (pc' := 9) (L' := [(0, .ref 107), (1, .ref 49)]) h_m74 (z_at.mk 3 rfl rfl) rfl (u := .ref 108) rfl rfl rfl ?_
  refine w_p h_m74 2 (pc' := 12) (L' := [(0, .ref 107), (1, .ref 49)]) (st' := [.int (7 : Int32), .int (0 : Int32), .ref 108, .int (0 : Int32), .ref 50]) rfl ?_
  refine w_cpf H (ra := (0, 7, [(6, .int (1024 : Int32)), (5, .int (1 : Int32)), (4, .int (1 : Int32)), (3, .int (0 : Int32)), (2, .int (12 : Int32)), (1, .int (40 : Int32)), (0, .int (10 : Int32))], some (.int (0 : Int32)))) (pc' := 15) (L' := [(0, .ref 107), (1, .ref 49)]) h_m74 (z_at.mk 3 rfl rfl) rfl (z_cat_le 0 rfl (by decide)) rfl rfl rfl rfl (by decide) rfl rfl ?_
  clear H m; intro m H
  refine w_rv h_m74 (z_at.mk 1 rfl rfl) rfl ?_
  show z_W 998 145 27 [(0, .ref 39), (1, .int (39 : Int32))] [] m _
  refine w_p h_m145 1 (pc' := 28) (L' := [(0, .ref 39), (1, .int (39 : Int32))]) (st' := [.ref 39]) rfl ?_
  refine w_gf H (pc' := 31) (L' := [(0, .ref 39), (1, .int (39 : Int32))]) h_m145 (z_at.mk 3 rfl rfl) rfl (u := .ref 106) rfl rfl rfl ?_
  refine w_gf H (pc' := 34) (L' := [(0, .ref 39), (1, .int (39 : Int32))]) h_m145 (z_at.mk 3 rfl rfl) rfl (u := .ref 107) rfl rfl rfl ?_
  refine w_p h_m145 2 (pc' := 36) (L' := [(0, .ref 39), (1, .int (39 : Int32))]) (st' := [.int (39 : Int32), .int (1 : Int32), .ref 107]) rfl ?_
  refine w_cv (H.t rfl) (pc' := 39) (L' := [(0, .ref 39), (1, .int (39 : Int32))]) (rest := []) (Ps := [.int (1 : Int32), .int (39 : Int32)]) (L0 := [(0, .ref 107), (1, .int (1 : Int32)), (2, .int (39 : Int32))]) h_m145 (z_at.mk 3 rfl rfl) (Or.inl ⟨rfl, rfl⟩) rfl rfl (by decide) (by decide) rfl rfl rfl rfl rfl rfl (by decide) rfl rfl rfl ?_
  refine w_p h_m73 6 (pc' := 11) (L' := [(0, .ref 107), (1, .int (1 : Int32)), (2, .int (39 : Int32))]) (st' := [.ref 107]) rfl ?_
  refine w_gf H (pc' := 14) (L' := [(0, .ref 107), (1, .int (1 : Int32)), (2, .int (39 : Int32))]) h_m73 (z_at.mk 3 rfl rfl) rfl (u := .ref 108) rfl rfl rfl ?_
  refine w_p h_m73 2 (pc' := 16) (L' := [(0, .ref 107), (1, .int (1 : Int32)), (2, .int (39 : Int32))]) (st' := [.int (39 : Int32), .int (1 : Int32), .ref 108]) rfl ?_
  refine w_as H (t := 0) (j := 1) (u := .int (39 : Int32)) (0, 7, [(1, .int (39 : Int32)), (6, .int (1024 : Int32)), (5, .int (1 : Int32)), (4, .int (1 : Int32)), (3, .int (0 : Int32)), (2, .int (12 : Int32)), (0, .int (10 : Int32))], some (.int (0 : Int32))) (pc' := 17) (L' := []) h_m73 (z_at.mk 1 rfl rfl) rfl rfl (w_ui _ _ (by decide)) rfl rfl rfl rfl ?_
  clear H m; intro m H
  refine w_rv h_m73 (z_at.mk 1 rfl rfl) rfl ?_
  show z_W 998 145 39 [(0, .ref 39), (1, .int (39 : Int32))] [] m _
  refine w_p h_m145 4 (pc' := 43) (L' := [(0, .ref 39), (2, .int (0 : Int32))]) (st' := [.ref 39, .int (0 : Int32)]) rfl ?_
  refine w_gf H (pc' := 46) (L' := [(0, .ref 39), (2, .int (0 : Int32))]) h_m145 (z_at.mk 3 rfl rfl) rfl (u := .ref 40) rfl rfl rfl ?_
  refine w_gf H (pc' := 49) (L' := [(0, .ref 39), (2, .int (0 : Int32))]) h_m145 (z_at.mk 3 rfl rfl) rfl (u := .ref 63) rfl rfl rfl ?_
  refine w_gf H (pc' := 52) (L' := [(0, .ref 39), (2, .int (0 : Int32))]) h_m145 (z_at.mk 3 rfl rfl) rfl (u := .int (0 : Int32)) rfl rfl rfl ?_
  refine w_p h_m145 1 (pc' := 79) (L' := [(0, .ref 39), (2, .int (0 : Int32))]) (st' := []) rfl ?_
  refine w_rv h_m145 (z_at.mk 1 rfl rfl) rfl ?_
  show z_W 999 146 13 [(0, .ref 39), (1, .int (xs 1)), (2, .int (39 : Int32))] [] m _
  refine w_p h_m146 1 (pc' := 14) (L' := [(0, .ref 39), (1, .int (xs 1)), (2, .int (39 : Int32))]) (st' := [.ref 39]) rfl ?_
  refine w_gf H (pc' := 17) (L' := [(0, .ref 39), (1, .int (xs 1)), (2, .int (39 : Int32))]) h_m146 (z_at.mk 3 rfl rfl) rfl (u := .ref 106) rfl rfl rfl ?_
  refine w_gf H (pc' := 20) (L' := [(0, .ref 39), (1, .int (xs 1)), (2, .int (39 : Int32))]) h_m146 (z_at.mk 3 rfl rfl) rfl (u := .int (0 : Int32)) rfl rfl rfl ?_
  refine w_p h_m146 1 (pc' := 21) (L' := [(0, .ref 39), (1, .int (xs 1)), (2, .int (39 : Int32))]) (st' := [.int (xs 1), .int (0 : Int32)]) rfl ?_
  refine w_t2 (pc' := 26) (L' := [(0, .ref 39), (1, .int (xs 1)), (2, .int (39 : Int32))]) h_m146 (z_at.mk 3 rfl rfl) rfl (zc (a := 0) (b := (xs 1).toInt) rfl rfl (decide_eq_true (by omega))) rfl rfl ?_
  refine w_p h_m146 2 (pc' := 2) (L' := [(0, .ref 39), (1, .int (xs 1)), (2, .int (40 : Int32))]) (st' := []) rfl ?_
  exact hQ m (H.subC (by decide +kernel))
set_option maxHeartbeats 400000000 in
set_option maxRecDepth 20000 in
theorem w_turn_146_40 {xs : Nat → Int32} {m : zM} {Q : Option Value → zM → Prop} (hp : (xs 1).toInt < 0) (H : w_ok 6 xs 168 63950 ((106, (12, 18, [(15, .int (0 : Int32)), (14, .int (0 : Int32)), (13, .int (0 : Int32)), (12, .int (0 : Int32)), (11, .int (0 : Int32)), (10, .int (0 : Int32)), (9, .long (0 : Int64)), (8, .int (0 : Int32)), (2, .int (0 : Int32)), (0, .ref 41), (17, .ref 116), (16, .ref 114), (7, .ref 113), (6, .ref 112), (5, .ref 111), (4, .ref 110), (3, .ref 109), (1, .ref 107)], none)) :: (108, (0, 7, [(1, .int (39 : Int32)), (6, .int (1024 : Int32)), (5, .int (1 : Int32)), (4, .int (1 : Int32)), (3, .int (0 : Int32)), (2, .int (12 : Int32)), (0, .int (10 : Int32))], some (.int (0 : Int32)))) :: w_T0) m) (hQ : ∀ m, w_ok 6 xs 168 63950 ((106, (12, 18, [(15, .int (0 : Int32)), (14, .int (0 : Int32)), (13, .int (0 : Int32)), (12, .int (0 : Int32)), (11, .int (0 : Int32)), (10, .int (0 : Int32)), (9, .long (0 : Int64)), (8, .int (0 : Int32)), (2, .int (0 : Int32)), (0, .ref 41), (17, .ref 116), (16, .ref 114), (7, .ref 113), (6, .ref 112), (5, .ref 111), (4, .ref 110), (3, .ref 109), (1, .ref 107)], none)) :: (108, (0, 7, [(1, .int (40 : Int32)), (6, .int (1024 : Int32)), (5, .int (1 : Int32)), (4, .int (1 : Int32)), (3, .int (0 : Int32)), (2, .int (12 : Int32)), (0, .int (10 : Int32))], some (.int (0 : Int32)))) :: w_T0) m → z_W 999 146 2 [(0, .ref 39), (1, .int (xs 1)), (2, .int (41 : Int32))] [] m Q) : z_W 999 146 2 [(0, .ref 39), (1, .int (xs 1)), (2, .int (40 : Int32))] [] m Q := by
  refine w_p h_m146 5 (pc' := 10) (L' := [(0, .ref 39), (1, .int (xs 1)), (2, .int (40 : Int32))]) (st' := [.int (40 : Int32), .ref 39]) rfl ?_
  refine w_cv (H.t rfl) (pc' := 13) (L' := [(0, .ref 39), (1, .int (xs 1)), (2, .int (40 : Int32))]) (rest := []) (Ps := [.int (40 : Int32)]) (L0 := [(0, .ref 39), (1, .int (40 : Int32))]) h_m146 (z_at.mk 3 rfl rfl) (Or.inl ⟨rfl, rfl⟩) rfl rfl (by decide) (by decide) rfl rfl rfl rfl rfl rfl (by decide) rfl rfl rfl ?_
  refine w_p h_m145 1 (pc' := 1) (L' := [(0, .ref 39), (1, .int (40 : Int32))]) (st' := [.ref 39]) rfl ?_
  refine w_gf H (pc' := 4) (L' := [(0, .ref 39), (1, .int (40 : Int32))]) h_m145 (z_at.mk 3 rfl rfl) rfl (u := .ref 106) rfl rfl rfl ?_
  refine w_cv (H.t rfl) (pc' := 7) (L' := [(0, .ref 39), (1, .int (40 : Int32))]) (rest := []) (Ps := []) (L0 := [(0, .ref 106)]) h_m145 (z_at.mk 3 rfl rfl) (Or.inl ⟨rfl, rfl⟩) rfl rfl (by decide) (by decide) rfl rfl rfl rfl rfl rfl (by decide) rfl rfl rfl ?_
  refine w_p h_m20 2 (pc' := 2) (L' := [(0, .ref 106)]) (st' := [.int (0 : Int32), .ref 106]) rfl ?_
  refine w_pf H (12, 18, [(2, .int (0 : Int32)), (15, .int (0 : Int32)), (14, .int (0 : Int32)), (13, .int (0 : Int32)), (12, .int (0 : Int32)), (11, .int (0 : Int32)), (10, .int (0 : Int32)), (9, .long (0 : Int64)), (8, .int (0 : Int32)), (0, .ref 41), (17, .ref 116), (16, .ref 114), (7, .ref 113), (6, .ref 112), (5, .ref 111), (4, .ref 110), (3, .ref 109), (1, .ref 107)], none) (pc' := 5) (L' := [(0, .ref 106)]) h_m20 (z_at.mk 3 rfl rfl) rfl (by decide) rfl (Or.inl rfl) rfl rfl rfl ?_
  clear H m; intro m H
  refine w_p h_m20 2 (pc' := 7) (L' := [(0, .ref 106)]) (st' := [.int (0 : Int32), .ref 106]) rfl ?_
  refine w_pf H (12, 18, [(8, .int (0 : Int32)), (2, .int (0 : Int32)), (15, .int (0 : Int32)), (14, .int (0 : Int32)), (13, .int (0 : Int32)), (12, .int (0 : Int32)), (11, .int (0 : Int32)), (10, .int (0 : Int32)), (9, .long (0 : Int64)), (0, .ref 41), (17, .ref 116), (16, .ref 114), (7, .ref 113), (6, .ref 112), (5, .ref 111), (4, .ref 110), (3, .ref 109), (1, .ref 107)], none) (pc' := 10) (L' := [(0, .ref 106)]) h_m20 (z_at.mk 3 rfl rfl) rfl (by decide) rfl (Or.inl rfl) rfl rfl rfl ?_
  clear H m; intro m H
  refine w_p h_m20 2 (pc' := 12) (L' := [(0, .ref 106)]) (st' := [.long (0 : Int64), .ref 106]) rfl ?_
  refine w_pf H (12, 18, [(9, .long (0 : Int64)), (8, .int (0 : Int32)), (2, .int (0 : Int32)), (15, .int (0 : Int32)), (14, .int (0 : Int32)), (13, .int (0 : Int32)), (12, .int (0 : Int32)), (11, .int (0 : Int32)), (10, .int (0 : Int32)), (0, .ref 41), (17, .ref 116), (16, .ref 114), (7, .ref 113), (6, .ref 112), (5, .ref 111), (4, .ref 110), (3, .ref 109), (1, .ref 107)], none) (pc' := 15) (L' := [(0, .ref 106)]) h_m20 (z_at.mk 3 rfl rfl) rfl (by decide) rfl (Or.inl rfl) rfl rfl rfl ?_
  clear H m; intro m H
  refine w_p h_m20 2 (pc' := 17) (L' := [(0, .ref 106)]) (st' := [.int (0 : Int32), .ref 106]) rfl ?_
  refine w_pf H (12, 18, [(10, .int (0 : Int32)), (9, .long (0 : Int64)), (8, .int (0 : Int32)), (2, .int (0 : Int32)), (15, .int (0 : Int32)), (14, .int (0 : Int32)), (13, .int (0 : Int32)), (12, .int (0 : Int32)), (11, .int (0 : Int32)), (0, .ref 41), (17, .ref 116), (16, .ref 114), (7, .ref 113), (6, .ref 112), (5, .ref 111), (4, .ref 110), (3, .ref 109), (1, .ref 107)], none) (pc' := 20) (L' := [(0, .ref 106)]) h_m20 (z_at.mk 3 rfl rfl) rfl (by decide) rfl (Or.inl rfl) rfl rfl rfl ?_
  clear H m; intro m H
  refine w_p h_m20 2 (pc' := 22) (L' := [(0, .ref 106)]) (st' := [.int (0 : Int32), .ref 106]) rfl ?_
  refine w_pf H (12, 18, [(11, .int (0 : Int32)), (10, .int (0 : Int32)), (9, .long (0 : Int64)), (8, .int (0 : Int32)), (2, .int (0 : Int32)), (15, .int (0 : Int32)), (14, .int (0 : Int32)), (13, .int (0 : Int32)), (12, .int (0 : Int32)), (0, .ref 41), (17, .ref 116), (16, .ref 114), (7, .ref 113), (6, .ref 112), (5, .ref 111), (4, .ref 110), (3, .ref 109), (1, .ref 107)], none) (pc' := 25) (L' := [(0, .ref 106)]) h_m20 (z_at.mk 3 rfl rfl) rfl (by decide) rfl (Or.inl rfl) rfl rfl rfl ?_
  clear H m; intro m H
  refine w_p h_m20 2 (pc' := 27) (L' := [(0, .ref 106)]) (st' := [.int (0 : Int32), .ref 106]) rfl ?_
  refine w_pf H (12, 18, [(12, .int (0 : Int32)), (11, .int (0 : Int32)), (10, .int (0 : Int32)), (9, .long (0 : Int64)), (8, .int (0 : Int32)), (2, .int (0 : Int32)), (15, .int (0 : Int32)), (14, .int (0 : Int32)), (13, .int (0 : Int32)), (0, .ref 41), (17, .ref 116), (16, .ref 114), (7, .ref 113), (6, .ref 112), (5, .ref 111), (4, .ref 110), (3, .ref 109), (1, .ref 107)], none) (pc' := 30) (L' := [(0, .ref 106)]) h_m20 (z_at.mk 3 rfl rfl) rfl (by decide) rfl (Or.inl rfl) rfl rfl rfl ?_
  clear H m; intro m H
  refine w_p h_m20 2 (pc' := 32) (L' := [(0, .ref 106)]) (st' := [.int (0 : Int32), .ref 106]) rfl ?_
  refine w_pf H (12, 18, [(13, .int (0 : Int32)), (12, .int (0 : Int32)), (11, .int (0 : Int32)), (10, .int (0 : Int32)), (9, .long (0 : Int64)), (8, .int (0 : Int32)), (2, .int (0 : Int32)), (15, .int (0 : Int32)), (14, .int (0 : Int32)), (0, .ref 41), (17, .ref 116), (16, .ref 114), (7, .ref 113), (6, .ref 112), (5, .ref 111), (4, .ref 110), (3, .ref 109), (1, .ref 107)], none) (pc' := 35) (L' := [(0, .ref 106)]) h_m20 (z_at.mk 3 rfl rfl) rfl (by decide) rfl (Or.inl rfl) rfl rfl rfl ?_
  clear H m; intro m H
  refine w_p h_m20 2 (pc' := 37) (L' := [(0, .ref 106)]) (st' := [.int (0 : Int32), .ref 106]) rfl ?_
  refine w_pf H (12, 18, [(14, .int (0 : Int32)), (13, .int (0 : Int32)), (12, .int (0 : Int32)), (11, .int (0 : Int32)), (10, .int (0 : Int32)), (9, .long (0 : Int64)), (8, .int (0 : Int32)), (2, .int (0 : Int32)), (15, .int (0 : Int32)), (0, .ref 41), (17, .ref 116), (16, .ref 114), (7, .ref 113), (6, .ref 112), (5, .ref 111), (4, .ref 110), (3, .ref 109), (1, .ref 107)], none) (pc' := 40) (L' := [(0, .ref 106)]) h_m20 (z_at.mk 3 rfl rfl) rfl (by decide) rfl (Or.inl rfl) rfl rfl rfl ?_
  clear H m; intro m H
  refine w_p h_m20 2 (pc' := 42) (L' := [(0, .ref 106)]) (st' := [.int (0 : Int32), .ref 106]) rfl ?_
  refine w_pf H (12, 18, [(15, .int (0 : Int32)), (14, .int (0 : Int32)), (13, .int (0 : Int32)), (12, .int (0 : Int32)), (11, .int (0 : Int32)), (10, .int (0 : Int32)), (9, .long (0 : Int64)), (8, .int (0 : Int32)), (2, .int (0 : Int32)), (0, .ref 41), (17, .ref 116), (16, .ref 114), (7, .ref 113), (6, .ref 112), (5, .ref 111), (4, .ref 110), (3, .ref 109), (1, .ref 107)], none) (pc' := 45) (L' := [(0, .ref 106)]) h_m20 (z_at.mk 3 rfl rfl) rfl (by decide) rfl (Or.inl rfl) rfl rfl rfl ?_
  clear H m; intro m H
  refine w_rv h_m20 (z_at.mk 1 rfl rfl) rfl ?_
  show z_W 998 145 7 [(0, .ref 39), (1, .int (40 : Int32))] [] m _
  refine w_p h_m145 1 (pc' := 8) (L' := [(0, .ref 39), (1, .int (40 : Int32))]) (st' := [.ref 39]) rfl ?_
  refine w_gf H (pc' := 11) (L' := [(0, .ref 39), (1, .int (40 : Int32))]) h_m145 (z_at.mk 3 rfl rfl) rfl (u := .ref 106) rfl rfl rfl ?_
  refine w_gf H (pc' := 14) (L' := [(0, .ref 39), (1, .int (40 : Int32))]) h_m145 (z_at.mk 3 rfl rfl) rfl (u := .ref 107) rfl rfl rfl ?_
  refine w_p h_m145 1 (pc' := 15) (L' := [(0, .ref 39), (1, .int (40 : Int32))]) (st' := [.ref 39, .ref 107]) rfl ?_
  refine w_gf H (pc' := 18) (L' := [(0, .ref 39), (1, .int (40 : Int32))]) h_m145 (z_at.mk 3 rfl rfl) rfl (u := .ref 40) rfl rfl rfl ?_
  refine w_gf H (pc' := 21) (L' := [(0, .ref 39), (1, .int (40 : Int32))]) h_m145 (z_at.mk 3 rfl rfl) rfl (u := .ref 48) rfl rfl rfl ?_
  refine w_gf H (pc' := 24) (L' := [(0, .ref 39), (1, .int (40 : Int32))]) h_m145 (z_at.mk 3 rfl rfl) rfl (u := .ref 49) rfl rfl rfl ?_
  refine w_cv (H.t rfl) (pc' := 27) (L' := [(0, .ref 39), (1, .int (40 : Int32))]) (rest := []) (Ps := [.ref 49]) (L0 := [(0, .ref 107), (1, .ref 49)]) h_m145 (z_at.mk 3 rfl rfl) (Or.inl ⟨rfl, rfl⟩) rfl rfl (by decide) (by decide) rfl rfl rfl rfl rfl rfl (by decide) rfl rfl rfl ?_
  refine w_p h_m74 1 (pc' := 1) (L' := [(0, .ref 107), (1, .ref 49)]) (st' := [.ref 49]) rfl ?_
  refine w_gf H (pc' := 4) (L' := [(0, .ref 107), (1, .ref 49)]) h_m74 (z_at.mk 3 rfl rfl) rfl (u := .ref 50) rfl rfl rfl ?_
  refine w_p h_m74 2 (pc' := 6) (L' := [(0, .ref 107), (1, .ref 49)]) (st' := [.ref 107, .int (0 : Int32), .ref 50]) rfl ?_
  refine w_gf H (pc' := 9) (L' := [(0, .ref 107), (1, .ref 49)]) h_m74 (z_at.mk 3 rfl rfl) rfl (u := .ref 108) rfl rfl rfl ?_
  refine w_p h_m74 2 (pc' := 12) (L' := [(0, .ref 107), (1, .ref 49)]) (st' := [.int (7 : Int32), .int (0 : Int32), .ref 108, .int (0 : Int32), .ref 50]) rfl ?_
  refine w_cpf H (ra := (0, 7, [(6, .int (1024 : Int32)), (5, .int (1 : Int32)), (4, .int (1 : Int32)), (3, .int (0 : Int32)), (2, .int (12 : Int32)), (1, .int (40 : Int32)), (0, .int (10 : Int32))], some (.int (0 : Int32)))) (pc' := 15) (L' := [(0, .ref 107), (1, .ref 49)]) h_m74 (z_at.mk 3 rfl rfl) rfl (z_cat_le 0 rfl (by decide)) rfl rfl rfl rfl (by decide) rfl rfl ?_
  clear H m; intro m H
  refine w_rv h_m74 (z_at.mk 1 rfl rfl) rfl ?_
  show z_W 998 145 27 [(0, .ref 39), (1, .int (40 : Int32))] [] m _
  refine w_p h_m145 1 (pc' := 28) (L' := [(0, .ref 39), (1, .int (40 : Int32))]) (st' := [.ref 39]) rfl ?_
  refine w_gf H (pc' := 31) (L' := [(0, .ref 39), (1, .int (40 : Int32))]) h_m145 (z_at.mk 3 rfl rfl) rfl (u := .ref 106) rfl rfl rfl ?_
  refine w_gf H (pc' := 34) (L' := [(0, .ref 39), (1, .int (40 : Int32))]) h_m145 (z_at.mk 3 rfl rfl) rfl (u := .ref 107) rfl rfl rfl ?_
  refine w_p h_m145 2 (pc' := 36) (L' := [(0, .ref 39), (1, .int (40 : Int32))]) (st' := [.int (40 : Int32), .int (1 : Int32), .ref 107]) rfl ?_
  refine w_cv (H.t rfl) (pc' := 39) (L' := [(0, .ref 39), (1, .int (40 : Int32))]) (rest := []) (Ps := [.int (1 : Int32), .int (40 : Int32)]) (L0 := [(0, .ref 107), (1, .int (1 : Int32)), (2, .int (40 : Int32))]) h_m145 (z_at.mk 3 rfl rfl) (Or.inl ⟨rfl, rfl⟩) rfl rfl (by decide) (by decide) rfl rfl rfl rfl rfl rfl (by decide) rfl rfl rfl ?_
  refine w_p h_m73 6 (pc' := 11) (L' := [(0, .ref 107), (1, .int (1 : Int32)), (2, .int (40 : Int32))]) (st' := [.ref 107]) rfl ?_
  refine w_gf H (pc' := 14) (L' := [(0, .ref 107), (1, .int (1 : Int32)), (2, .int (40 : Int32))]) h_m73 (z_at.mk 3 rfl rfl) rfl (u := .ref 108) rfl rfl rfl ?_
  refine w_p h_m73 2 (pc' := 16) (L' := [(0, .ref 107), (1, .int (1 : Int32)), (2, .int (40 : Int32))]) (st' := [.int (40 : Int32), .int (1 : Int32), .ref 108]) rfl ?_
  refine w_as H (t := 0) (j := 1) (u := .int (40 : Int32)) (0, 7, [(1, .int (40 : Int32)), (6, .int (1024 : Int32)), (5, .int (1 : Int32)), (4, .int (1 : Int32)), (3, .int (0 : Int32)), (2, .int (12 : Int32)), (0, .int (10 : Int32))], some (.int (0 : Int32))) (pc' := 17) (L' := []) h_m73 (z_at.mk 1 rfl rfl) rfl rfl (w_ui _ _ (by decide)) rfl rfl rfl rfl ?_
  clear H m; intro m H
  refine w_rv h_m73 (z_at.mk 1 rfl rfl) rfl ?_
  show z_W 998 145 39 [(0, .ref 39), (1, .int (40 : Int32))] [] m _
  refine w_p h_m145 4 (pc' := 43) (L' := [(0, .ref 39), (2, .int (0 : Int32))]) (st' := [.ref 39, .int (0 : Int32)]) rfl ?_
  refine w_gf H (pc' := 46) (L' := [(0, .ref 39), (2, .int (0 : Int32))]) h_m145 (z_at.mk 3 rfl rfl) rfl (u := .ref 40) rfl rfl rfl ?_
  refine w_gf H (pc' := 49) (L' := [(0, .ref 39), (2, .int (0 : Int32))]) h_m145 (z_at.mk 3 rfl rfl) rfl (u := .ref 63) rfl rfl rfl ?_
  refine w_gf H (pc' := 52) (L' := [(0, .ref 39), (2, .int (0 : Int32))]) h_m145 (z_at.mk 3 rfl rfl) rfl (u := .int (0 : Int32)) rfl rfl rfl ?_
  refine w_p h_m145 1 (pc' := 79) (L' := [(0, .ref 39), (2, .int (0 : Int32))]) (st' := []) rfl ?_
  refine w_rv h_m145 (z_at.mk 1 rfl rfl) rfl ?_
  show z_W 999 146 13 [(0, .ref 39), (1, .int (xs 1)), (2, .int (40 : Int32))] [] m _
  refine w_p h_m146 1 (pc' := 14) (L' := [(0, .ref 39), (1, .int (xs 1)), (2, .int (40 : Int32))]) (st' := [.ref 39]) rfl ?_
  refine w_gf H (pc' := 17) (L' := [(0, .ref 39), (1, .int (xs 1)), (2, .int (40 : Int32))]) h_m146 (z_at.mk 3 rfl rfl) rfl (u := .ref 106) rfl rfl rfl ?_
  refine w_gf H (pc' := 20) (L' := [(0, .ref 39), (1, .int (xs 1)), (2, .int (40 : Int32))]) h_m146 (z_at.mk 3 rfl rfl) rfl (u := .int (0 : Int32)) rfl rfl rfl ?_
  refine w_p h_m146 1 (pc' := 21) (L' := [(0, .ref 39), (1, .int (xs 1)), (2, .int (40 : Int32))]) (st' := [.int (xs 1), .int (0 : Int32)]) rfl ?_
  refine w_t2 (pc' := 26) (L' := [(0, .ref 39), (1, .int (xs 1)), (2, .int (40 : Int32))]) h_m146 (z_at.mk 3 rfl rfl) rfl (zc (a := 0) (b := (xs 1).toInt) rfl rfl (decide_eq_true (by omega))) rfl rfl ?_
  refine w_p h_m146 2 (pc' := 2) (L' := [(0, .ref 39), (1, .int (xs 1)), (2, .int (41 : Int32))]) (st' := []) rfl ?_
  exact hQ m (H.subC (by decide +kernel))
set_option maxHeartbeats 400000000 in
set_option maxRecDepth 20000 in
theorem w_turn_146_41 {xs : Nat → Int32} {m : zM} {Q : Option Value → zM → Prop} (hp : (xs 1).toInt < 0) (H : w_ok 6 xs 168 63950 ((106, (12, 18, [(15, .int (0 : Int32)), (14, .int (0 : Int32)), (13, .int (0 : Int32)), (12, .int (0 : Int32)), (11, .int (0 : Int32)), (10, .int (0 : Int32)), (9, .long (0 : Int64)), (8, .int (0 : Int32)), (2, .int (0 : Int32)), (0, .ref 41), (17, .ref 116), (16, .ref 114), (7, .ref 113), (6, .ref 112), (5, .ref 111), (4, .ref 110), (3, .ref 109), (1, .ref 107)], none)) :: (108, (0, 7, [(1, .int (40 : Int32)), (6, .int (1024 : Int32)), (5, .int (1 : Int32)), (4, .int (1 : Int32)), (3, .int (0 : Int32)), (2, .int (12 : Int32)), (0, .int (10 : Int32))], some (.int (0 : Int32)))) :: w_T0) m) (hQ : ∀ m, w_ok 6 xs 168 63950 ((106, (12, 18, [(15, .int (0 : Int32)), (14, .int (0 : Int32)), (13, .int (0 : Int32)), (12, .int (0 : Int32)), (11, .int (0 : Int32)), (10, .int (0 : Int32)), (9, .long (0 : Int64)), (8, .int (0 : Int32)), (2, .int (0 : Int32)), (0, .ref 41), (17, .ref 116), (16, .ref 114), (7, .ref 113), (6, .ref 112), (5, .ref 111), (4, .ref 110), (3, .ref 109), (1, .ref 107)], none)) :: (108, (0, 7, [(1, .int (41 : Int32)), (6, .int (1024 : Int32)), (5, .int (1 : Int32)), (4, .int (1 : Int32)), (3, .int (0 : Int32)), (2, .int (12 : Int32)), (0, .int (10 : Int32))], some (.int (0 : Int32)))) :: w_T0) m → z_W 999 146 2 [(0, .ref 39), (1, .int (xs 1)), (2, .int (42 : Int32))] [] m Q) : z_W 999 146 2 [(0, .ref 39), (1, .int (xs 1)), (2, .int (41 : Int32))] [] m Q := by
  refine w_p h_m146 5 (pc' := 10) (L' := [(0, .ref 39), (1, .int (xs 1)), (2, .int (41 : Int32))]) (st' := [.int (41 : Int32), .ref 39]) rfl ?_
  refine w_cv (H.t rfl) (pc' := 13) (L' := [(0, .ref 39), (1, .int (xs 1)), (2, .int (41 : Int32))]) (rest := []) (Ps := [.int (41 : Int32)]) (L0 := [(0, .ref 39), (1, .int (41 : Int32))]) h_m146 (z_at.mk 3 rfl rfl) (Or.inl ⟨rfl, rfl⟩) rfl rfl (by decide) (by decide) rfl rfl rfl rfl rfl rfl (by decide) rfl rfl rfl ?_
  refine w_p h_m145 1 (pc' := 1) (L' := [(0, .ref 39), (1, .int (41 : Int32))]) (st' := [.ref 39]) rfl ?_
  refine w_gf H (pc' := 4) (L' := [(0, .ref 39), (1, .int (41 : Int32))]) h_m145 (z_at.mk 3 rfl rfl) rfl (u := .ref 106) rfl rfl rfl ?_
  refine w_cv (H.t rfl) (pc' := 7) (L' := [(0, .ref 39), (1, .int (41 : Int32))]) (rest := []) (Ps := []) (L0 := [(0, .ref 106)]) h_m145 (z_at.mk 3 rfl rfl) (Or.inl ⟨rfl, rfl⟩) rfl rfl (by decide) (by decide) rfl rfl rfl rfl rfl rfl (by decide) rfl rfl rfl ?_
  refine w_p h_m20 2 (pc' := 2) (L' := [(0, .ref 106)]) (st' := [.int (0 : Int32), .ref 106]) rfl ?_
  refine w_pf H (12, 18, [(2, .int (0 : Int32)), (15, .int (0 : Int32)), (14, .int (0 : Int32)), (13, .int (0 : Int32)), (12, .int (0 : Int32)), (11, .int (0 : Int32)), (10, .int (0 : Int32)), (9, .long (0 : Int64)), (8, .int (0 : Int32)), (0, .ref 41), (17, .ref 116), (16, .ref 114), (7, .ref 113), (6, .ref 112), (5, .ref 111), (4, .ref 110), (3, .ref 109), (1, .ref 107)], none) (pc' := 5) (L' := [(0, .ref 106)]) h_m20 (z_at.mk 3 rfl rfl) rfl (by decide) rfl (Or.inl rfl) rfl rfl rfl ?_
  clear H m; intro m H
  refine w_p h_m20 2 (pc' := 7) (L' := [(0, .ref 106)]) (st' := [.int (0 : Int32), .ref 106]) rfl ?_
  refine w_pf H (12, 18, [(8, .int (0 : Int32)), (2, .int (0 : Int32)), (15, .int (0 : Int32)), (14, .int (0 : Int32)), (13, .int (0 : Int32)), (12, .int (0 : Int32)), (11, .int (0 : Int32)), (10, .int (0 : Int32)), (9, .long (0 : Int64)), (0, .ref 41), (17, .ref 116), (16, .ref 114), (7, .ref 113), (6, .ref 112), (5, .ref 111), (4, .ref 110), (3, .ref 109), (1, .ref 107)], none) (pc' := 10) (L' := [(0, .ref 106)]) h_m20 (z_at.mk 3 rfl rfl) rfl (by decide) rfl (Or.inl rfl) rfl rfl rfl ?_
  clear H m; intro m H
  refine w_p h_m20 2 (pc' := 12) (L' := [(0, .ref 106)]) (st' := [.long (0 : Int64), .ref 106]) rfl ?_
  refine w_pf H (12, 18, [(9, .long (0 : Int64)), (8, .int (0 : Int32)), (2, .int (0 : Int32)), (15, .int (0 : Int32)), (14, .int (0 : Int32)), (13, .int (0 : Int32)), (12, .int (0 : Int32)), (11, .int (0 : Int32)), (10, .int (0 : Int32)), (0, .ref 41), (17, .ref 116), (16, .ref 114), (7, .ref 113), (6, .ref 112), (5, .ref 111), (4, .ref 110), (3, .ref 109), (1, .ref 107)], none) (pc' := 15) (L' := [(0, .ref 106)]) h_m20 (z_at.mk 3 rfl rfl) rfl (by decide) rfl (Or.inl rfl) rfl rfl rfl ?_
  clear H m; intro m H
  refine w_p h_m20 2 (pc' := 17) (L' := [(0, .ref 106)]) (st' := [.int (0 : Int32), .ref 106]) rfl ?_
  refine w_pf H (12, 18, [(10, .int (0 : Int32)), (9, .long (0 : Int64)), (8, .int (0 : Int32)), (2, .int (0 : Int32)), (15, .int (0 : Int32)), (14, .int (0 : Int32)), (13, .int (0 : Int32)), (12, .int (0 : Int32)), (11, .int (0 : Int32)), (0, .ref 41), (17, .ref 116), (16, .ref 114), (7, .ref 113), (6, .ref 112), (5, .ref 111), (4, .ref 110), (3, .ref 109), (1, .ref 107)], none) (pc' := 20) (L' := [(0, .ref 106)]) h_m20 (z_at.mk 3 rfl rfl) rfl (by decide) rfl (Or.inl rfl) rfl rfl rfl ?_
  clear H m; intro m H
  refine w_p h_m20 2 (pc' := 22) (L' := [(0, .ref 106)]) (st' := [.int (0 : Int32), .ref 106]) rfl ?_
  refine w_pf H (12, 18, [(11, .int (0 : Int32)), (10, .int (0 : Int32)), (9, .long (0 : Int64)), (8, .int (0 : Int32)), (2, .int (0 : Int32)), (15, .int (0 : Int32)), (14, .int (0 : Int32)), (13, .int (0 : Int32)), (12, .int (0 : Int32)), (0, .ref 41), (17, .ref 116), (16, .ref 114), (7, .ref 113), (6, .ref 112), (5, .ref 111), (4, .ref 110), (3, .ref 109), (1, .ref 107)], none) (pc' := 25) (L' := [(0, .ref 106)]) h_m20 (z_at.mk 3 rfl rfl) rfl (by decide) rfl (Or.inl rfl) rfl rfl rfl ?_
  clear H m; intro m H
  refine w_p h_m20 2 (pc' := 27) (L' := [(0, .ref 106)]) (st' := [.int (0 : Int32), .ref 106]) rfl ?_
  refine w_pf H (12, 18, [(12, .int (0 : Int32)), (11, .int (0 : Int32)), (10, .int (0 : Int32)), (9, .long (0 : Int64)), (8, .int (0 : Int32)), (2, .int (0 : Int32)), (15, .int (0 : Int32)), (14, .int (0 : Int32)), (13, .int (0 : Int32)), (0, .ref 41), (17, .ref 116), (16, .ref 114), (7, .ref 113), (6, .ref 112), (5, .ref 111), (4, .ref 110), (3, .ref 109), (1, .ref 107)], none) (pc' := 30) (L' := [(0, .ref 106)]) h_m20 (z_at.mk 3 rfl rfl) rfl (by decide) rfl (Or.inl rfl) rfl rfl rfl ?_
  clear H m; intro m H
  refine w_p h_m20 2 (pc' := 32) (L' := [(0, .ref 106)]) (st' := [.int (0 : Int32), .ref 106]) rfl ?_
  refine w_pf H (12, 18, [(13, .int (0 : Int32)), (12, .int (0 : Int32)), (11, .int (0 : Int32)), (10, .int (0 : Int32)), (9, .long (0 : Int64)), (8, .int (0 : Int32)), (2, .int (0 : Int32)), (15, .int (0 : Int32)), (14, .int (0 : Int32)), (0, .ref 41), (17, .ref 116), (16, .ref 114), (7, .ref 113), (6, .ref 112), (5, .ref 111), (4, .ref 110), (3, .ref 109), (1, .ref 107)], none) (pc' := 35) (L' := [(0, .ref 106)]) h_m20 (z_at.mk 3 rfl rfl) rfl (by decide) rfl (Or.inl rfl) rfl rfl rfl ?_
  clear H m; intro m H
  refine w_p h_m20 2 (pc' := 37) (L' := [(0, .ref 106)]) (st' := [.int (0 : Int32), .ref 106]) rfl ?_
  refine w_pf H (12, 18, [(14, .int (0 : Int32)), (13, .int (0 : Int32)), (12, .int (0 : Int32)), (11, .int (0 : Int32)), (10, .int (0 : Int32)), (9, .long (0 : Int64)), (8, .int (0 : Int32)), (2, .int (0 : Int32)), (15, .int (0 : Int32)), (0, .ref 41), (17, .ref 116), (16, .ref 114), (7, .ref 113), (6, .ref 112), (5, .ref 111), (4, .ref 110), (3, .ref 109), (1, .ref 107)], none) (pc' := 40) (L' := [(0, .ref 106)]) h_m20 (z_at.mk 3 rfl rfl) rfl (by decide) rfl (Or.inl rfl) rfl rfl rfl ?_
  clear H m; intro m H
  refine w_p h_m20 2 (pc' := 42) (L' := [(0, .ref 106)]) (st' := [.int (0 : Int32), .ref 106]) rfl ?_
  refine w_pf H (12, 18, [(15, .int (0 : Int32)), (14, .int (0 : Int32)), (13, .int (0 : Int32)), (12, .int (0 : Int32)), (11, .int (0 : Int32)), (10, .int (0 : Int32)), (9, .long (0 : Int64)), (8, .int (0 : Int32)), (2, .int (0 : Int32)), (0, .ref 41), (17, .ref 116), (16, .ref 114), (7, .ref 113), (6, .ref 112), (5, .ref 111), (4, .ref 110), (3, .ref 109), (1, .ref 107)], none) (pc' := 45) (L' := [(0, .ref 106)]) h_m20 (z_at.mk 3 rfl rfl) rfl (by decide) rfl (Or.inl rfl) rfl rfl rfl ?_
  clear H m; intro m H
  refine w_rv h_m20 (z_at.mk 1 rfl rfl) rfl ?_
  show z_W 998 145 7 [(0, .ref 39), (1, .int (41 : Int32))] [] m _
  refine w_p h_m145 1 (pc' := 8) (L' := [(0, .ref 39), (1, .int (41 : Int32))]) (st' := [.ref 39]) rfl ?_
  refine w_gf H (pc' := 11) (L' := [(0, .ref 39), (1, .int (41 : Int32))]) h_m145 (z_at.mk 3 rfl rfl) rfl (u := .ref 106) rfl rfl rfl ?_
  refine w_gf H (pc' := 14) (L' := [(0, .ref 39), (1, .int (41 : Int32))]) h_m145 (z_at.mk 3 rfl rfl) rfl (u := .ref 107) rfl rfl rfl ?_
  refine w_p h_m145 1 (pc' := 15) (L' := [(0, .ref 39), (1, .int (41 : Int32))]) (st' := [.ref 39, .ref 107]) rfl ?_
  refine w_gf H (pc' := 18) (L' := [(0, .ref 39), (1, .int (41 : Int32))]) h_m145 (z_at.mk 3 rfl rfl) rfl (u := .ref 40) rfl rfl rfl ?_
  refine w_gf H (pc' := 21) (L' := [(0, .ref 39), (1, .int (41 : Int32))]) h_m145 (z_at.mk 3 rfl rfl) rfl (u := .ref 48) rfl rfl rfl ?_
  refine w_gf H (pc' := 24) (L' := [(0, .ref 39), (1, .int (41 : Int32))]) h_m145 (z_at.mk 3 rfl rfl) rfl (u := .ref 49) rfl rfl rfl ?_
  refine w_cv (H.t rfl) (pc' := 27) (L' := [(0, .ref 39), (1, .int (41 : Int32))]) (rest := []) (Ps := [.ref 49]) (L0 := [(0, .ref 107), (1, .ref 49)]) h_m145 (z_at.mk 3 rfl rfl) (Or.inl ⟨rfl, rfl⟩) rfl rfl (by decide) (by decide) rfl rfl rfl rfl rfl rfl (by decide) rfl rfl rfl ?_
  refine w_p h_m74 1 (pc' := 1) (L' := [(0, .ref 107), (1, .ref 49)]) (st' := [.ref 49]) rfl ?_
  refine w_gf H (pc' := 4) (L' := [(0, .ref 107), (1, .ref 49)]) h_m74 (z_at.mk 3 rfl rfl) rfl (u := .ref 50) rfl rfl rfl ?_
  refine w_p h_m74 2 (pc' := 6) (L' := [(0, .ref 107), (1, .ref 49)]) (st' := [.ref 107, .int (0 : Int32), .ref 50]) rfl ?_
  refine w_gf H (pc' := 9) (L' := [(0, .ref 107), (1, .ref 49)]) h_m74 (z_at.mk 3 rfl rfl) rfl (u := .ref 108) rfl rfl rfl ?_
  refine w_p h_m74 2 (pc' := 12) (L' := [(0, .ref 107), (1, .ref 49)]) (st' := [.int (7 : Int32), .int (0 : Int32), .ref 108, .int (0 : Int32), .ref 50]) rfl ?_
  refine w_cpf H (ra := (0, 7, [(6, .int (1024 : Int32)), (5, .int (1 : Int32)), (4, .int (1 : Int32)), (3, .int (0 : Int32)), (2, .int (12 : Int32)), (1, .int (40 : Int32)), (0, .int (10 : Int32))], some (.int (0 : Int32)))) (pc' := 15) (L' := [(0, .ref 107), (1, .ref 49)]) h_m74 (z_at.mk 3 rfl rfl) rfl (z_cat_le 0 rfl (by decide)) rfl rfl rfl rfl (by decide) rfl rfl ?_
  clear H m; intro m H
  refine w_rv h_m74 (z_at.mk 1 rfl rfl) rfl ?_
  show z_W 998 145 27 [(0, .ref 39), (1, .int (41 : Int32))] [] m _
  refine w_p h_m145 1 (pc' := 28) (L' := [(0, .ref 39), (1, .int (41 : Int32))]) (st' := [.ref 39]) rfl ?_
  refine w_gf H (pc' := 31) (L' := [(0, .ref 39), (1, .int (41 : Int32))]) h_m145 (z_at.mk 3 rfl rfl) rfl (u := .ref 106) rfl rfl rfl ?_
  refine w_gf H (pc' := 34) (L' := [(0, .ref 39), (1, .int (41 : Int32))]) h_m145 (z_at.mk 3 rfl rfl) rfl (u := .ref 107) rfl rfl rfl ?_
  refine w_p h_m145 2 (pc' := 36) (L' := [(0, .ref 39), (1, .int (41 : Int32))]) (st' := [.int (41 : Int32), .int (1 : Int32), .ref 107]) rfl ?_
  refine w_cv (H.t rfl) (pc' := 39) (L' := [(0, .ref 39), (1, .int (41 : Int32))]) (rest := []) (Ps := [.int (1 : Int32), .int (41 : Int32)]) (L0 := [(0, .ref 107), (1, .int (1 : Int32)), (2, .int (41 : Int32))]) h_m145 (z_at.mk 3 rfl rfl) (Or.inl ⟨rfl, rfl⟩) rfl rfl (by decide) (by decide) rfl rfl rfl rfl rfl rfl (by decide) rfl rfl rfl ?_
  refine w_p h_m73 6 (pc' := 11) (L' := [(0, .ref 107), (1, .int (1 : Int32)), (2, .int (41 : Int32))]) (st' := [.ref 107]) rfl ?_
  refine w_gf H (pc' := 14) (L' := [(0, .ref 107), (1, .int (1 : Int32)), (2, .int (41 : Int32))]) h_m73 (z_at.mk 3 rfl rfl) rfl (u := .ref 108) rfl rfl rfl ?_
  refine w_p h_m73 2 (pc' := 16) (L' := [(0, .ref 107), (1, .int (1 : Int32)), (2, .int (41 : Int32))]) (st' := [.int (41 : Int32), .int (1 : Int32), .ref 108]) rfl ?_
  refine w_as H (t := 0) (j := 1) (u := .int (41 : Int32)) (0, 7, [(1, .int (41 : Int32)), (6, .int (1024 : Int32)), (5, .int (1 : Int32)), (4, .int (1 : Int32)), (3, .int (0 : Int32)), (2, .int (12 : Int32)), (0, .int (10 : Int32))], some (.int (0 : Int32))) (pc' := 17) (L' := []) h_m73 (z_at.mk 1 rfl rfl) rfl rfl (w_ui _ _ (by decide)) rfl rfl rfl rfl ?_
  clear H m; intro m H
  refine w_rv h_m73 (z_at.mk 1 rfl rfl) rfl ?_
  show z_W 998 145 39 [(0, .ref 39), (1, .int (41 : Int32))] [] m _
  refine w_p h_m145 4 (pc' := 43) (L' := [(0, .ref 39), (2, .int (0 : Int32))]) (st' := [.ref 39, .int (0 : Int32)]) rfl ?_
  refine w_gf H (pc' := 46) (L' := [(0, .ref 39), (2, .int (0 : Int32))]) h_m145 (z_at.mk 3 rfl rfl) rfl (u := .ref 40) rfl rfl rfl ?_
  refine w_gf H (pc' := 49) (L' := [(0, .ref 39), (2, .int (0 : Int32))]) h_m145 (z_at.mk 3 rfl rfl) rfl (u := .ref 63) rfl rfl rfl ?_
  refine w_gf H (pc' := 52) (L' := [(0, .ref 39), (2, .int (0 : Int32))]) h_m145 (z_at.mk 3 rfl rfl) rfl (u := .int (0 : Int32)) rfl rfl rfl ?_
  refine w_p h_m145 1 (pc' := 79) (L' := [(0, .ref 39), (2, .int (0 : Int32))]) (st' := []) rfl ?_
  refine w_rv h_m145 (z_at.mk 1 rfl rfl) rfl ?_
  show z_W 999 146 13 [(0, .ref 39), (1, .int (xs 1)), (2, .int (41 : Int32))] [] m _
  refine w_p h_m146 1 (pc' := 14) (L' := [(0, .ref 39), (1, .int (xs 1)), (2, .int (41 : Int32))]) (st' := [.ref 39]) rfl ?_
  refine w_gf H (pc' := 17) (L' := [(0, .ref 39), (1, .int (xs 1)), (2, .int (41 : Int32))]) h_m146 (z_at.mk 3 rfl rfl) rfl (u := .ref 106) rfl rfl rfl ?_
  refine w_gf H (pc' := 20) (L' := [(0, .ref 39), (1, .int (xs 1)), (2, .int (41 : Int32))]) h_m146 (z_at.mk 3 rfl rfl) rfl (u := .int (0 : Int32)) rfl rfl rfl ?_
  refine w_p h_m146 1 (pc' := 21) (L' := [(0, .ref 39), (1, .int (xs 1)), (2, .int (41 : Int32))]) (st' := [.int (xs 1), .int (0 : Int32)]) rfl ?_
  refine w_t2 (pc' := 26) (L' := [(0, .ref 39), (1, .int (xs 1)), (2, .int (41 : Int32))]) h_m146 (z_at.mk 3 rfl rfl) rfl (zc (a := 0) (b := (xs 1).toInt) rfl rfl (decide_eq_true (by omega))) rfl rfl ?_
  refine w_p h_m146 2 (pc' := 2) (L' := [(0, .ref 39), (1, .int (xs 1)), (2, .int (42 : Int32))]) (st' := []) rfl ?_
  exact hQ m (H.subC (by decide +kernel))
set_option maxHeartbeats 400000000 in
set_option maxRecDepth 20000 in
theorem w_turn_146_42 {xs : Nat → Int32} {m : zM} {Q : Option Value → zM → Prop} (hp : (xs 1).toInt < 0) (H : w_ok 6 xs 168 63950 ((106, (12, 18, [(15, .int (0 : Int32)), (14, .int (0 : Int32)), (13, .int (0 : Int32)), (12, .int (0 : Int32)), (11, .int (0 : Int32)), (10, .int (0 : Int32)), (9, .long (0 : Int64)), (8, .int (0 : Int32)), (2, .int (0 : Int32)), (0, .ref 41), (17, .ref 116), (16, .ref 114), (7, .ref 113), (6, .ref 112), (5, .ref 111), (4, .ref 110), (3, .ref 109), (1, .ref 107)], none)) :: (108, (0, 7, [(1, .int (41 : Int32)), (6, .int (1024 : Int32)), (5, .int (1 : Int32)), (4, .int (1 : Int32)), (3, .int (0 : Int32)), (2, .int (12 : Int32)), (0, .int (10 : Int32))], some (.int (0 : Int32)))) :: w_T0) m) (hQ : ∀ m, w_ok 6 xs 168 63950 ((106, (12, 18, [(15, .int (0 : Int32)), (14, .int (0 : Int32)), (13, .int (0 : Int32)), (12, .int (0 : Int32)), (11, .int (0 : Int32)), (10, .int (0 : Int32)), (9, .long (0 : Int64)), (8, .int (0 : Int32)), (2, .int (0 : Int32)), (0, .ref 41), (17, .ref 116), (16, .ref 114), (7, .ref 113), (6, .ref 112), (5, .ref 111), (4, .ref 110), (3, .ref 109), (1, .ref 107)], none)) :: (108, (0, 7, [(1, .int (42 : Int32)), (6, .int (1024 : Int32)), (5, .int (1 : Int32)), (4, .int (1 : Int32)), (3, .int (0 : Int32)), (2, .int (12 : Int32)), (0, .int (10 : Int32))], some (.int (0 : Int32)))) :: w_T0) m → z_W 999 146 2 [(0, .ref 39), (1, .int (xs 1)), (2, .int (43 : Int32))] [] m Q) : z_W 999 146 2 [(0, .ref 39), (1, .int (xs 1)), (2, .int (42 : Int32))] [] m Q := by
  refine w_p h_m146 5 (pc' := 10) (L' := [(0, .ref 39), (1, .int (xs 1)), (2, .int (42 : Int32))]) (st' := [.int (42 : Int32), .ref 39]) rfl ?_
  refine w_cv (H.t rfl) (pc' := 13) (L' := [(0, .ref 39), (1, .int (xs 1)), (2, .int (42 : Int32))]) (rest := []) (Ps := [.int (42 : Int32)]) (L0 := [(0, .ref 39), (1, .int (42 : Int32))]) h_m146 (z_at.mk 3 rfl rfl) (Or.inl ⟨rfl, rfl⟩) rfl rfl (by decide) (by decide) rfl rfl rfl rfl rfl rfl (by decide) rfl rfl rfl ?_
  refine w_p h_m145 1 (pc' := 1) (L' := [(0, .ref 39), (1, .int (42 : Int32))]) (st' := [.ref 39]) rfl ?_
  refine w_gf H (pc' := 4) (L' := [(0, .ref 39), (1, .int (42 : Int32))]) h_m145 (z_at.mk 3 rfl rfl) rfl (u := .ref 106) rfl rfl rfl ?_
  refine w_cv (H.t rfl) (pc' := 7) (L' := [(0, .ref 39), (1, .int (42 : Int32))]) (rest := []) (Ps := []) (L0 := [(0, .ref 106)]) h_m145 (z_at.mk 3 rfl rfl) (Or.inl ⟨rfl, rfl⟩) rfl rfl (by decide) (by decide) rfl rfl rfl rfl rfl rfl (by decide) rfl rfl rfl ?_
  refine w_p h_m20 2 (pc' := 2) (L' := [(0, .ref 106)]) (st' := [.int (0 : Int32), .ref 106]) rfl ?_
  refine w_pf H (12, 18, [(2, .int (0 : Int32)), (15, .int (0 : Int32)), (14, .int (0 : Int32)), (13, .int (0 : Int32)), (12, .int (0 : Int32)), (11, .int (0 : Int32)), (10, .int (0 : Int32)), (9, .long (0 : Int64)), (8, .int (0 : Int32)), (0, .ref 41), (17, .ref 116), (16, .ref 114), (7, .ref 113), (6, .ref 112), (5, .ref 111), (4, .ref 110), (3, .ref 109), (1, .ref 107)], none) (pc' := 5) (L' := [(0, .ref 106)]) h_m20 (z_at.mk 3 rfl rfl) rfl (by decide) rfl (Or.inl rfl) rfl rfl rfl ?_
  clear H m; intro m H
  refine w_p h_m20 2 (pc' := 7) (L' := [(0, .ref 106)]) (st' := [.int (0 : Int32), .ref 106]) rfl ?_
  refine w_pf H (12, 18, [(8, .int (0 : Int32)), (2, .int (0 : Int32)), (15, .int (0 : Int32)), (14, .int (0 : Int32)), (13, .int (0 : Int32)), (12, .int (0 : Int32)), (11, .int (0 : Int32)), (10, .int (0 : Int32)), (9, .long (0 : Int64)), (0, .ref 41), (17, .ref 116), (16, .ref 114), (7, .ref 113), (6, .ref 112), (5, .ref 111), (4, .ref 110), (3, .ref 109), (1, .ref 107)], none) (pc' := 10) (L' := [(0, .ref 106)]) h_m20 (z_at.mk 3 rfl rfl) rfl (by decide) rfl (Or.inl rfl) rfl rfl rfl ?_
  clear H m; intro m H
  refine w_p h_m20 2 (pc' := 12) (L' := [(0, .ref 106)]) (st' := [.long (0 : Int64), .ref 106]) rfl ?_
  refine w_pf H (12, 18, [(9, .long (0 : Int64)), (8, .int (0 : Int32)), (2, .int (0 : Int32)), (15, .int (0 : Int32)), (14, .int (0 : Int32)), (13, .int (0 : Int32)), (12, .int (0 : Int32)), (11, .int (0 : Int32)), (10, .int (0 : Int32)), (0, .ref 41), (17, .ref 116), (16, .ref 114), (7, .ref 113), (6, .ref 112), (5, .ref 111), (4, .ref 110), (3, .ref 109), (1, .ref 107)], none) (pc' := 15) (L' := [(0, .ref 106)]) h_m20 (z_at.mk 3 rfl rfl) rfl (by decide) rfl (Or.inl rfl) rfl rfl rfl ?_
  clear H m; intro m H
  refine w_p h_m20 2 (pc' := 17) (L' := [(0, .ref 106)]) (st' := [.int (0 : Int32), .ref 106]) rfl ?_
  refine w_pf H (12, 18, [(10, .int (0 : Int32)), (9, .long (0 : Int64)), (8, .int (0 : Int32)), (2, .int (0 : Int32)), (15, .int (0 : Int32)), (14, .int (0 : Int32)), (13, .int (0 : Int32)), (12, .int (0 : Int32)), (11, .int (0 : Int32)), (0, .ref 41), (17, .ref 116), (16, .ref 114), (7, .ref 113), (6, .ref 112), (5, .ref 111), (4, .ref 110), (3, .ref 109), (1, .ref 107)], none) (pc' := 20) (L' := [(0, .ref 106)]) h_m20 (z_at.mk 3 rfl rfl) rfl (by decide) rfl (Or.inl rfl) rfl rfl rfl ?_
  clear H m; intro m H
  refine w_p h_m20 2 (pc' := 22) (L' := [(0, .ref 106)]) (st' := [.int (0 : Int32), .ref 106]) rfl ?_
  refine w_pf H (12, 18, [(11, .int (0 : Int32)), (10, .int (0 : Int32)), (9, .long (0 : Int64)), (8, .int (0 : Int32)), (2, .int (0 : Int32)), (15, .int (0 : Int32)), (14, .int (0 : Int32)), (13, .int (0 : Int32)), (12, .int (0 : Int32)), (0, .ref 41), (17, .ref 116), (16, .ref 114), (7, .ref 113), (6, .ref 112), (5, .ref 111), (4, .ref 110), (3, .ref 109), (1, .ref 107)], none) (pc' := 25) (L' := [(0, .ref 106)]) h_m20 (z_at.mk 3 rfl rfl) rfl (by decide) rfl (Or.inl rfl) rfl rfl rfl ?_
  clear H m; intro m H
  refine w_p h_m20 2 (pc' := 27) (L' := [(0, .ref 106)]) (st' := [.int (0 : Int32), .ref 106]) rfl ?_
  refine w_pf H (12, 18, [(12, .int (0 : Int32)), (11, .int (0 : Int32)), (10, .int (0 : Int32)), (9, .long (0 : Int64)), (8, .int (0 : Int32)), (2, .int (0 : Int32)), (15, .int (0 : Int32)), (14, .int (0 : Int32)), (13, .int (0 : Int32)), (0, .ref 41), (17, .ref 116), (16, .ref 114), (7, .ref 113), (6, .ref 112), (5, .ref 111), (4, .ref 110), (3, .ref 109), (1, .ref 107)], none) (pc' := 30) (L' := [(0, .ref 106)]) h_m20 (z_at.mk 3 rfl rfl) rfl (by decide) rfl (Or.inl rfl) rfl rfl rfl ?_
  clear H m; intro m H
  refine w_p h_m20 2 (pc' := 32) (L' := [(0, .ref 106)]) (st' := [.int (0 : Int32), .ref 106]) rfl ?_
  refine w_pf H (12, 18, [(13, .int (0 : Int32)), (12, .int (0 : Int32)), (11, .int (0 : Int32)), (10, .int (0 : Int32)), (9, .long (0 : Int64)), (8, .int (0 : Int32)), (2, .int (0 : Int32)), (15, .int (0 : Int32)), (14, .int (0 : Int32)), (0, .ref 41), (17, .ref 116), (16, .ref 114), (7, .ref 113), (6, .ref 112), (5, .ref 111), (4, .ref 110), (3, .ref 109), (1, .ref 107)], none) (pc' := 35) (L' := [(0, .ref 106)]) h_m20 (z_at.mk 3 rfl rfl) rfl (by decide) rfl (Or.inl rfl) rfl rfl rfl ?_
  clear H m; intro m H
  refine w_p h_m20 2 (pc' := 37) (L' := [(0, .ref 106)]) (st' := [.int (0 : Int32), .ref 106]) rfl ?_
  refine w_pf H (12, 18, [(14, .int (0 : Int32)), (13, .int (0 : Int32)), (12, .int (0 : Int32)), (11, .int (0 : Int32)), (10, .int (0 : Int32)), (9, .long (0 : Int64)), (8, .int (0 : Int32)), (2, .int (0 : Int32)), (15, .int (0 : Int32)), (0, .ref 41), (17, .ref 116), (16, .ref 114), (7, .ref 113), (6, .ref 112), (5, .ref 111), (4, .ref 110), (3, .ref 109), (1, .ref 107)], none) (pc' := 40) (L' := [(0, .ref 106)]) h_m20 (z_at.mk 3 rfl rfl) rfl (by decide) rfl (Or.inl rfl) rfl rfl rfl ?_
  clear H m; intro m H
  refine w_p h_m20 2 (pc' := 42) (L' := [(0, .ref 106)]) (st' := [.int (0 : Int32), .ref 106]) rfl ?_
  refine w_pf H (12, 18, [(15, .int (0 : Int32)), (14, .int (0 : Int32)), (13, .int (0 : Int32)), (12, .int (0 : Int32)), (11, .int (0 : Int32)), (10, .int (0 : Int32)), (9, .long (0 : Int64)), (8, .int (0 : Int32)), (2, .int (0 : Int32)), (0, .ref 41), (17, .ref 116), (16, .ref 114), (7, .ref 113), (6, .ref 112), (5, .ref 111), (4, .ref 110), (3, .ref 109), (1, .ref 107)], none) (pc' := 45) (L' := [(0, .ref 106)]) h_m20 (z_at.mk 3 rfl rfl) rfl (by decide) rfl (Or.inl rfl) rfl rfl rfl ?_
  clear H m; intro m H
  refine w_rv h_m20 (z_at.mk 1 rfl rfl) rfl ?_
  show z_W 998 145 7 [(0, .ref 39), (1, .int (42 : Int32))] [] m _
  refine w_p h_m145 1 (pc' := 8) (L' := [(0, .ref 39), (1, .int (42 : Int32))]) (st' := [.ref 39]) rfl ?_
  refine w_gf H (pc' := 11) (L' := [(0, .ref 39), (1, .int (42 : Int32))]) h_m145 (z_at.mk 3 rfl rfl) rfl (u := .ref 106) rfl rfl rfl ?_
  refine w_gf H (pc' := 14) (L' := [(0, .ref 39), (1, .int (42 : Int32))]) h_m145 (z_at.mk 3 rfl rfl) rfl (u := .ref 107) rfl rfl rfl ?_
  refine w_p h_m145 1 (pc' := 15) (L' := [(0, .ref 39), (1, .int (42 : Int32))]) (st' := [.ref 39, .ref 107]) rfl ?_
  refine w_gf H (pc' := 18) (L' := [(0, .ref 39), (1, .int (42 : Int32))]) h_m145 (z_at.mk 3 rfl rfl) rfl (u := .ref 40) rfl rfl rfl ?_
  refine w_gf H (pc' := 21) (L' := [(0, .ref 39), (1, .int (42 : Int32))]) h_m145 (z_at.mk 3 rfl rfl) rfl (u := .ref 48) rfl rfl rfl ?_
  refine w_gf H (pc' := 24) (L' := [(0, .ref 39), (1, .int (42 : Int32))]) h_m145 (z_at.mk 3 rfl rfl) rfl (u := .ref 49) rfl rfl rfl ?_
  refine w_cv (H.t rfl) (pc' := 27) (L' := [(0, .ref 39), (1, .int (42 : Int32))]) (rest := []) (Ps := [.ref 49]) (L0 := [(0, .ref 107), (1, .ref 49)]) h_m145 (z_at.mk 3 rfl rfl) (Or.inl ⟨rfl, rfl⟩) rfl rfl (by decide) (by decide) rfl rfl rfl rfl rfl rfl (by decide) rfl rfl rfl ?_
  refine w_p h_m74 1 (pc' := 1) (L' := [(0, .ref 107), (1, .ref 49)]) (st' := [.ref 49]) rfl ?_
  refine w_gf H (pc' := 4) (L' := [(0, .ref 107), (1, .ref 49)]) h_m74 (z_at.mk 3 rfl rfl) rfl (u := .ref 50) rfl rfl rfl ?_
  refine w_p h_m74 2 (pc' := 6) (L' := [(0, .ref 107), (1, .ref 49)]) (st' := [.ref 107, .int (0 : Int32), .ref 50]) rfl ?_
  refine w_gf H (pc' := 9) (L' := [(0, .ref 107), (1, .ref 49)]) h_m74 (z_at.mk 3 rfl rfl) rfl (u := .ref 108) rfl rfl rfl ?_
  refine w_p h_m74 2 (pc' := 12) (L' := [(0, .ref 107), (1, .ref 49)]) (st' := [.int (7 : Int32), .int (0 : Int32), .ref 108, .int (0 : Int32), .ref 50]) rfl ?_
  refine w_cpf H (ra := (0, 7, [(6, .int (1024 : Int32)), (5, .int (1 : Int32)), (4, .int (1 : Int32)), (3, .int (0 : Int32)), (2, .int (12 : Int32)), (1, .int (40 : Int32)), (0, .int (10 : Int32))], some (.int (0 : Int32)))) (pc' := 15) (L' := [(0, .ref 107), (1, .ref 49)]) h_m74 (z_at.mk 3 rfl rfl) rfl (z_cat_le 0 rfl (by decide)) rfl rfl rfl rfl (by decide) rfl rfl ?_
  clear H m; intro m H
  refine w_rv h_m74 (z_at.mk 1 rfl rfl) rfl ?_
  show z_W 998 145 27 [(0, .ref 39), (1, .int (42 : Int32))] [] m _
  refine w_p h_m145 1 (pc' := 28) (L' := [(0, .ref 39), (1, .int (42 : Int32))]) (st' := [.ref 39]) rfl ?_
  refine w_gf H (pc' := 31) (L' := [(0, .ref 39), (1, .int (42 : Int32))]) h_m145 (z_at.mk 3 rfl rfl) rfl (u := .ref 106) rfl rfl rfl ?_
  refine w_gf H (pc' := 34) (L' := [(0, .ref 39), (1, .int (42 : Int32))]) h_m145 (z_at.mk 3 rfl rfl) rfl (u := .ref 107) rfl rfl rfl ?_
  refine w_p h_m145 2 (pc' := 36) (L' := [(0, .ref 39), (1, .int (42 : Int32))]) (st' := [.int (42 : Int32), .int (1 : Int32), .ref 107]) rfl ?_
  refine w_cv (H.t rfl) (pc' := 39) (L' := [(0, .ref 39), (1, .int (42 : Int32))]) (rest := []) (Ps := [.int (1 : Int32), .int (42 : Int32)]) (L0 := [(0, .ref 107), (1, .int (1 : Int32)), (2, .int (42 : Int32))]) h_m145 (z_at.mk 3 rfl rfl) (Or.inl ⟨rfl, rfl⟩) rfl rfl (by decide) (by decide) rfl rfl rfl rfl rfl rfl (by decide) rfl rfl rfl ?_
  refine w_p h_m73 6 (pc' := 11) (L' := [(0, .ref 107), (1, .int (1 : Int32)), (2, .int (42 : Int32))]) (st' := [.ref 107]) rfl ?_
  refine w_gf H (pc' := 14) (L' := [(0, .ref 107), (1, .int (1 : Int32)), (2, .int (42 : Int32))]) h_m73 (z_at.mk 3 rfl rfl) rfl (u := .ref 108) rfl rfl rfl ?_
  refine w_p h_m73 2 (pc' := 16) (L' := [(0, .ref 107), (1, .int (1 : Int32)), (2, .int (42 : Int32))]) (st' := [.int (42 : Int32), .int (1 : Int32), .ref 108]) rfl ?_
  refine w_as H (t := 0) (j := 1) (u := .int (42 : Int32)) (0, 7, [(1, .int (42 : Int32)), (6, .int (1024 : Int32)), (5, .int (1 : Int32)), (4, .int (1 : Int32)), (3, .int (0 : Int32)), (2, .int (12 : Int32)), (0, .int (10 : Int32))], some (.int (0 : Int32))) (pc' := 17) (L' := []) h_m73 (z_at.mk 1 rfl rfl) rfl rfl (w_ui _ _ (by decide)) rfl rfl rfl rfl ?_
  clear H m; intro m H
  refine w_rv h_m73 (z_at.mk 1 rfl rfl) rfl ?_
  show z_W 998 145 39 [(0, .ref 39), (1, .int (42 : Int32))] [] m _
  refine w_p h_m145 4 (pc' := 43) (L' := [(0, .ref 39), (2, .int (0 : Int32))]) (st' := [.ref 39, .int (0 : Int32)]) rfl ?_
  refine w_gf H (pc' := 46) (L' := [(0, .ref 39), (2, .int (0 : Int32))]) h_m145 (z_at.mk 3 rfl rfl) rfl (u := .ref 40) rfl rfl rfl ?_
  refine w_gf H (pc' := 49) (L' := [(0, .ref 39), (2, .int (0 : Int32))]) h_m145 (z_at.mk 3 rfl rfl) rfl (u := .ref 63) rfl rfl rfl ?_
  refine w_gf H (pc' := 52) (L' := [(0, .ref 39), (2, .int (0 : Int32))]) h_m145 (z_at.mk 3 rfl rfl) rfl (u := .int (0 : Int32)) rfl rfl rfl ?_
  refine w_p h_m145 1 (pc' := 79) (L' := [(0, .ref 39), (2, .int (0 : Int32))]) (st' := []) rfl ?_
  refine w_rv h_m145 (z_at.mk 1 rfl rfl) rfl ?_
  show z_W 999 146 13 [(0, .ref 39), (1, .int (xs 1)), (2, .int (42 : Int32))] [] m _
  refine w_p h_m146 1 (pc' := 14) (L' := [(0, .ref 39), (1, .int (xs 1)), (2, .int (42 : Int32))]) (st' := [.ref 39]) rfl ?_
  refine w_gf H (pc' := 17) (L' := [(0, .ref 39), (1, .int (xs 1)), (2, .int (42 : Int32))]) h_m146 (z_at.mk 3 rfl rfl) rfl (u := .ref 106) rfl rfl rfl ?_
  refine w_gf H (pc' := 20) (L' := [(0, .ref 39), (1, .int (xs 1)), (2, .int (42 : Int32))]) h_m146 (z_at.mk 3 rfl rfl) rfl (u := .int (0 : Int32)) rfl rfl rfl ?_
  refine w_p h_m146 1 (pc' := 21) (L' := [(0, .ref 39), (1, .int (xs 1)), (2, .int (42 : Int32))]) (st' := [.int (xs 1), .int (0 : Int32)]) rfl ?_
  refine w_t2 (pc' := 26) (L' := [(0, .ref 39), (1, .int (xs 1)), (2, .int (42 : Int32))]) h_m146 (z_at.mk 3 rfl rfl) rfl (zc (a := 0) (b := (xs 1).toInt) rfl rfl (decide_eq_true (by omega))) rfl rfl ?_
  refine w_p h_m146 2 (pc' := 2) (L' := [(0, .ref 39), (1, .int (xs 1)), (2, .int (43 : Int32))]) (st' := []) rfl ?_
  exact hQ m (H.subC (by decide +kernel))
set_option maxHeartbeats 400000000 in
set_option maxRecDepth 20000 in
theorem w_turn_146_43 {xs : Nat → Int32} {m : zM} {Q : Option Value → zM → Prop} (hp : (xs 1).toInt < 0) (H : w_ok 6 xs 168 63950 ((106, (12, 18, [(15, .int (0 : Int32)), (14, .int (0 : Int32)), (13, .int (0 : Int32)), (12, .int (0 : Int32)), (11, .int (0 : Int32)), (10, .int (0 : Int32)), (9, .long (0 : Int64)), (8, .int (0 : Int32)), (2, .int (0 : Int32)), (0, .ref 41), (17, .ref 116), (16, .ref 114), (7, .ref 113), (6, .ref 112), (5, .ref 111), (4, .ref 110), (3, .ref 109), (1, .ref 107)], none)) :: (108, (0, 7, [(1, .int (42 : Int32)), (6, .int (1024 : Int32)), (5, .int (1 : Int32)), (4, .int (1 : Int32)), (3, .int (0 : Int32)), (2, .int (12 : Int32)), (0, .int (10 : Int32))], some (.int (0 : Int32)))) :: w_T0) m) (hQ : ∀ m, w_ok 6 xs 168 63950 ((106, (12, 18, [(15, .int (0 : Int32)), (14, .int (0 : Int32)), (13, .int (0 : Int32)), (12, .int (0 : Int32)), (11, .int (0 : Int32)), (10, .int (0 : Int32)), (9, .long (0 : Int64)), (8, .int (0 : Int32)), (2, .int (0 : Int32)), (0, .ref 41), (17, .ref 116), (16, .ref 114), (7, .ref 113), (6, .ref 112), (5, .ref 111), (4, .ref 110), (3, .ref 109), (1, .ref 107)], none)) :: (108, (0, 7, [(1, .int (43 : Int32)), (6, .int (1024 : Int32)), (5, .int (1 : Int32)), (4, .int (1 : Int32)), (3, .int (0 : Int32)), (2, .int (12 : Int32)), (0, .int (10 : Int32))], some (.int (0 : Int32)))) :: w_T0) m → z_W 999 146 2 [(0, .ref 39), (1, .int (xs 1)), (2, .int (44 : Int32))] [] m Q) : z_W 999 146 2 [(0, .ref 39), (1, .int (xs 1)), (2, .int (43 : Int32))] [] m Q := by
  refine w_p h_m146 5 (pc' := 10) (L' := [(0, .ref 39), (1, .int (xs 1)), (2, .int (43 : Int32))]) (st' := [.int (43 : Int32), .ref 39]) rfl ?_
  refine w_cv (H.t rfl) (pc' := 13) (L' := [(0, .ref 39), (1, .int (xs 1)), (2, .int (43 : Int32))]) (rest := []) (Ps := [.int (43 : Int32)]) (L0 := [(0, .ref 39), (1, .int (43 : Int32))]) h_m146 (z_at.mk 3 rfl rfl) (Or.inl ⟨rfl, rfl⟩) rfl rfl (by decide) (by decide) rfl rfl rfl rfl rfl rfl (by decide) rfl rfl rfl ?_
  refine w_p h_m145 1 (pc' := 1) (L' := [(0, .ref 39), (1, .int (43 : Int32))]) (st' := [.ref 39]) rfl ?_
  refine w_gf H (pc' := 4) (L' := [(0, .ref 39), (1, .int (43 : Int32))]) h_m145 (z_at.mk 3 rfl rfl) rfl (u := .ref 106) rfl rfl rfl ?_
  refine w_cv (H.t rfl) (pc' := 7) (L' := [(0, .ref 39), (1, .int (43 : Int32))]) (rest := []) (Ps := []) (L0 := [(0, .ref 106)]) h_m145 (z_at.mk 3 rfl rfl) (Or.inl ⟨rfl, rfl⟩) rfl rfl (by decide) (by decide) rfl rfl rfl rfl rfl rfl (by decide) rfl rfl rfl ?_
  refine w_p h_m20 2 (pc' := 2) (L' := [(0, .ref 106)]) (st' := [.int (0 : Int32), .ref 106]) rfl ?_
  refine w_pf H (12, 18, [(2, .int (0 : Int32)), (15, .int (0 : Int32)), (14, .int (0 : Int32)), (13, .int (0 : Int32)), (12, .int (0 : Int32)), (11, .int (0 : Int32)), (10, .int (0 : Int32)), (9, .long (0 : Int64)), (8, .int (0 : Int32)), (0, .ref 41), (17, .ref 116), (16, .ref 114), (7, .ref 113), (6, .ref 112), (5, .ref 111), (4, .ref 110), (3, .ref 109), (1, .ref 107)], none) (pc' := 5) (L' := [(0, .ref 106)]) h_m20 (z_at.mk 3 rfl rfl) rfl (by decide) rfl (Or.inl rfl) rfl rfl rfl ?_
  clear H m; intro m H
  refine w_p h_m20 2 (pc' := 7) (L' := [(0, .ref 106)]) (st' := [.int (0 : Int32), .ref 106]) rfl ?_
  refine w_pf H (12, 18, [(8, .int (0 : Int32)), (2, .int (0 : Int32)), (15, .int (0 : Int32)), (14, .int (0 : Int32)), (13, .int (0 : Int32)), (12, .int (0 : Int32)), (11, .int (0 : Int32)), (10, .int (0 : Int32)), (9, .long (0 : Int64)), (0, .ref 41), (17, .ref 116), (16, .ref 114), (7, .ref 113), (6, .ref 112), (5, .ref 111), (4, .ref 110), (3, .ref 109), (1, .ref 107)], none) (pc' := 10) (L' := [(0, .ref 106)]) h_m20 (z_at.mk 3 rfl rfl) rfl (by decide) rfl (Or.inl rfl) rfl rfl rfl ?_
  clear H m; intro m H
  refine w_p h_m20 2 (pc' := 12) (L' := [(0, .ref 106)]) (st' := [.long (0 : Int64), .ref 106]) rfl ?_
  refine w_pf H (12, 18, [(9, .long (0 : Int64)), (8, .int (0 : Int32)), (2, .int (0 : Int32)), (15, .int (0 : Int32)), (14, .int (0 : Int32)), (13, .int (0 : Int32)), (12, .int (0 : Int32)), (11, .int (0 : Int32)), (10, .int (0 : Int32)), (0, .ref 41), (17, .ref 116), (16, .ref 114), (7, .ref 113), (6, .ref 112), (5, .ref 111), (4, .ref 110), (3, .ref 109), (1, .ref 107)], none) (pc' := 15) (L' := [(0, .ref 106)]) h_m20 (z_at.mk 3 rfl rfl) rfl (by decide) rfl (Or.inl rfl) rfl rfl rfl ?_
  clear H m; intro m H
  refine w_p h_m20 2 (pc' := 17) (L' := [(0, .ref 106)]) (st' := [.int (0 : Int32), .ref 106]) rfl ?_
  refine w_pf H (12, 18, [(10, .int (0 : Int32)), (9, .long (0 : Int64)), (8, .int (0 : Int32)), (2, .int (0 : Int32)), (15, .int (0 : Int32)), (14, .int (0 : Int32)), (13, .int (0 : Int32)), (12, .int (0 : Int32)), (11, .int (0 : Int32)), (0, .ref 41), (17, .ref 116), (16, .ref 114), (7, .ref 113), (6, .ref 112), (5, .ref 111), (4, .ref 110), (3, .ref 109), (1, .ref 107)], none) (pc' := 20) (L' := [(0, .ref 106)]) h_m20 (z_at.mk 3 rfl rfl) rfl (by decide) rfl (Or.inl rfl) rfl rfl rfl ?_
  clear H m; intro m H
  refine w_p h_m20 2 (pc' := 22) (L' := [(0, .ref 106)]) (st' := [.int (0 : Int32), .ref 106]) rfl ?_
  refine w_pf H (12, 18, [(11, .int (0 : Int32)), (10, .int (0 : Int32)), (9, .long (0 : Int64)), (8, .int (0 : Int32)), (2, .int (0 : Int32)), (15, .int (0 : Int32)), (14, .int (0 : Int32)), (13, .int (0 : Int32)), (12, .int (0 : Int32)), (0, .ref 41), (17, .ref 116), (16, .ref 114), (7, .ref 113), (6, .ref 112), (5, .ref 111), (4, .ref 110), (3, .ref 109), (1, .ref 107)], none) (pc' := 25) (L' := [(0, .ref 106)]) h_m20 (z_at.mk 3 rfl rfl) rfl (by decide) rfl (Or.inl rfl) rfl rfl rfl ?_
  clear H m; intro m H
  refine w_p h_m20 2 (pc' := 27) (L' := [(0, .ref 106)]) (st' := [.int (0 : Int32), .ref 106]) rfl ?_
  refine w_pf H (12, 18, [(12, .int (0 : Int32)), (11, .int (0 : Int32)), (10, .int (0 : Int32)), (9, .long (0 : Int64)), (8, .int (0 : Int32)), (2, .int (0 : Int32)), (15, .int (0 : Int32)), (14, .int (0 : Int32)), (13, .int (0 : Int32)), (0, .ref 41), (17, .ref 116), (16, .ref 114), (7, .ref 113), (6, .ref 112), (5, .ref 111), (4, .ref 110), (3, .ref 109), (1, .ref 107)], none) (pc' := 30) (L' := [(0, .ref 106)]) h_m20 (z_at.mk 3 rfl rfl) rfl (by decide) rfl (Or.inl rfl) rfl rfl rfl ?_
  clear H m; intro m H
  refine w_p h_m20 2 (pc' := 32) (L' := [(0, .ref 106)]) (st' := [.int (0 : Int32), .ref 106]) rfl ?_
  refine w_pf H (12, 18, [(13, .int (0 : Int32)), (12, .int (0 : Int32)), (11, .int (0 : Int32)), (10, .int (0 : Int32)), (9, .long (0 : Int64)), (8, .int (0 : Int32)), (2, .int (0 : Int32)), (15, .int (0 : Int32)), (14, .int (0 : Int32)), (0, .ref 41), (17, .ref 116), (16, .ref 114), (7, .ref 113), (6, .ref 112), (5, .ref 111), (4, .ref 110), (3, .ref 109), (1, .ref 107)], none) (pc' := 35) (L' := [(0, .ref 106)]) h_m20 (z_at.mk 3 rfl rfl) rfl (by decide) rfl (Or.inl rfl) rfl rfl rfl ?_
  clear H m; intro m H
  refine w_p h_m20 2 (pc' := 37) (L' := [(0, .ref 106)]) (st' := [.int (0 : Int32), .ref 106]) rfl ?_
  refine w_pf H (12, 18, [(14, .int (0 : Int32)), (13, .int (0 : Int32)), (12, .int (0 : Int32)), (11, .int (0 : Int32)), (10, .int (0 : Int32)), (9, .long (0 : Int64)), (8, .int (0 : Int32)), (2, .int (0 : Int32)), (15, .int (0 : Int32)), (0, .ref 41), (17, .ref 116), (16, .ref 114), (7, .ref 113), (6, .ref 112), (5, .ref 111), (4, .ref 110), (3, .ref 109), (1, .ref 107)], none) (pc' := 40) (L' := [(0, .ref 106)]) h_m20 (z_at.mk 3 rfl rfl) rfl (by decide) rfl (Or.inl rfl) rfl rfl rfl ?_
  clear H m; intro m H
  refine w_p h_m20 2 (pc' := 42) (L' := [(0, .ref 106)]) (st' := [.int (0 : Int32), .ref 106]) rfl ?_
  refine w_pf H (12, 18, [(15, .int (0 : Int32)), (14, .int (0 : Int32)), (13, .int (0 : Int32)), (12, .int (0 : Int32)), (11, .int (0 : Int32)), (10, .int (0 : Int32)), (9, .long (0 : Int64)), (8, .int (0 : Int32)), (2, .int (0 : Int32)), (0, .ref 41), (17, .ref 116), (16, .ref 114), (7, .ref 113), (6, .ref 112), (5, .ref 111), (4, .ref 110), (3, .ref 109), (1, .ref 107)], none) (pc' := 45) (L' := [(0, .ref 106)]) h_m20 (z_at.mk 3 rfl rfl) rfl (by decide) rfl (Or.inl rfl) rfl rfl rfl ?_
  clear H m; intro m H
  refine w_rv h_m20 (z_at.mk 1 rfl rfl) rfl ?_
  show z_W 998 145 7 [(0, .ref 39), (1, .int (43 : Int32))] [] m _
  refine w_p h_m145 1 (pc' := 8) (L' := [(0, .ref 39), (1, .int (43 : Int32))]) (st' := [.ref 39]) rfl ?_
  refine w_gf H (pc' := 11) (L' := [(0, .ref 39), (1, .int (43 : Int32))]) h_m145 (z_at.mk 3 rfl rfl) rfl (u := .ref 106) rfl rfl rfl ?_
  refine w_gf H (pc' := 14) (L' := [(0, .ref 39), (1, .int (43 : Int32))]) h_m145 (z_at.mk 3 rfl rfl) rfl (u := .ref 107) rfl rfl rfl ?_
  refine w_p h_m145 1 (pc' := 15) (L' := [(0, .ref 39), (1, .int (43 : Int32))]) (st' := [.ref 39, .ref 107]) rfl ?_
  refine w_gf H (pc' := 18) (L' := [(0, .ref 39), (1, .int (43 : Int32))]) h_m145 (z_at.mk 3 rfl rfl) rfl (u := .ref 40) rfl rfl rfl ?_
  refine w_gf H (pc' := 21) (L' := [(0, .ref 39), (1, .int (43 : Int32))]) h_m145 (z_at.mk 3 rfl rfl) rfl (u := .ref 48) rfl rfl rfl ?_
  refine w_gf H (pc' := 24) (L' := [(0, .ref 39), (1, .int (43 : Int32))]) h_m145 (z_at.mk 3 rfl rfl) rfl (u := .ref 49) rfl rfl rfl ?_
  refine w_cv (H.t rfl) (pc' := 27) (L' := [(0, .ref 39), (1, .int (43 : Int32))]) (rest := []) (Ps := [.ref 49]) (L0 := [(0, .ref 107), (1, .ref 49)]) h_m145 (z_at.mk 3 rfl rfl) (Or.inl ⟨rfl, rfl⟩) rfl rfl (by decide) (by decide) rfl rfl rfl rfl rfl rfl (by decide) rfl rfl rfl ?_
  refine w_p h_m74 1 (pc' := 1) (L' := [(0, .ref 107), (1, .ref 49)]) (st' := [.ref 49]) rfl ?_
  refine w_gf H (pc' := 4) (L' := [(0, .ref 107), (1, .ref 49)]) h_m74 (z_at.mk 3 rfl rfl) rfl (u := .ref 50) rfl rfl rfl ?_
  refine w_p h_m74 2 (pc' := 6) (L' := [(0, .ref 107), (1, .ref 49)]) (st' := [.ref 107, .int (0 : Int32), .ref 50]) rfl ?_
  refine w_gf H (pc' := 9) (L' := [(0, .ref 107), (1, .ref 49)]) h_m74 (z_at.mk 3 rfl rfl) rfl (u := .ref 108) rfl rfl rfl ?_
  refine w_p h_m74 2 (pc' := 12) (L' := [(0, .ref 107), (1, .ref 49)]) (st' := [.int (7 : Int32), .int (0 : Int32), .ref 108, .int (0 : Int32), .ref 50]) rfl ?_
  refine w_cpf H (ra := (0, 7, [(6, .int (1024 : Int32)), (5, .int (1 : Int32)), (4, .int (1 : Int32)), (3, .int (0 : Int32)), (2, .int (12 : Int32)), (1, .int (40 : Int32)), (0, .int (10 : Int32))], some (.int (0 : Int32)))) (pc' := 15) (L' := [(0, .ref 107), (1, .ref 49)]) h_m74 (z_at.mk 3 rfl rfl) rfl (z_cat_le 0 rfl (by decide)) rfl rfl rfl rfl (by decide) rfl rfl ?_
  clear H m; intro m H
  refine w_rv h_m74 (z_at.mk 1 rfl rfl) rfl ?_
  show z_W 998 145 27 [(0, .ref 39), (1, .int (43 : Int32))] [] m _
  refine w_p h_m145 1 (pc' := 28) (L' := [(0, .ref 39), (1, .int (43 : Int32))]) (st' := [.ref 39]) rfl ?_
  refine w_gf H (pc' := 31) (L' := [(0, .ref 39), (1, .int (43 : Int32))]) h_m145 (z_at.mk 3 rfl rfl) rfl (u := .ref 106) rfl rfl rfl ?_
  refine w_gf H (pc' := 34) (L' := [(0, .ref 39), (1, .int (43 : Int32))]) h_m145 (z_at.mk 3 rfl rfl) rfl (u := .ref 107) rfl rfl rfl ?_
  refine w_p h_m145 2 (pc' := 36) (L' := [(0, .ref 39), (1, .int (43 : Int32))]) (st' := [.int (43 : Int32), .int (1 : Int32), .ref 107]) rfl ?_
  refine w_cv (H.t rfl) (pc' := 39) (L' := [(0, .ref 39), (1, .int (43 : Int32))]) (rest := []) (Ps := [.int (1 : Int32), .int (43 : Int32)]) (L0 := [(0, .ref 107), (1, .int (1 : Int32)), (2, .int (43 : Int32))]) h_m145 (z_at.mk 3 rfl rfl) (Or.inl ⟨rfl, rfl⟩) rfl rfl (by decide) (by decide) rfl rfl rfl rfl rfl rfl (by decide) rfl rfl rfl ?_
  refine w_p h_m73 6 (pc' := 11) (L' := [(0, .ref 107), (1, .int (1 : Int32)), (2, .int (43 : Int32))]) (st' := [.ref 107]) rfl ?_
  refine w_gf H (pc' := 14) (L' := [(0, .ref 107), (1, .int (1 : Int32)), (2, .int (43 : Int32))]) h_m73 (z_at.mk 3 rfl rfl) rfl (u := .ref 108) rfl rfl rfl ?_
  refine w_p h_m73 2 (pc' := 16) (L' := [(0, .ref 107), (1, .int (1 : Int32)), (2, .int (43 : Int32))]) (st' := [.int (43 : Int32), .int (1 : Int32), .ref 108]) rfl ?_
  refine w_as H (t := 0) (j := 1) (u := .int (43 : Int32)) (0, 7, [(1, .int (43 : Int32)), (6, .int (1024 : Int32)), (5, .int (1 : Int32)), (4, .int (1 : Int32)), (3, .int (0 : Int32)), (2, .int (12 : Int32)), (0, .int (10 : Int32))], some (.int (0 : Int32))) (pc' := 17) (L' := []) h_m73 (z_at.mk 1 rfl rfl) rfl rfl (w_ui _ _ (by decide)) rfl rfl rfl rfl ?_
  clear H m; intro m H
  refine w_rv h_m73 (z_at.mk 1 rfl rfl) rfl ?_
  show z_W 998 145 39 [(0, .ref 39), (1, .int (43 : Int32))] [] m _
  refine w_p h_m145 4 (pc' := 43) (L' := [(0, .ref 39), (2, .int (0 : Int32))]) (st' := [.ref 39, .int (0 : Int32)]) rfl ?_
  refine w_gf H (pc' := 46) (L' := [(0, .ref 39), (2, .int (0 : Int32))]) h_m145 (z_at.mk 3 rfl rfl) rfl (u := .ref 40) rfl rfl rfl ?_
  refine w_gf H (pc' := 49) (L' := [(0, .ref 39), (2, .int (0 : Int32))]) h_m145 (z_at.mk 3 rfl rfl) rfl (u := .ref 63) rfl rfl rfl ?_
  refine w_gf H (pc' := 52) (L' := [(0, .ref 39), (2, .int (0 : Int32))]) h_m145 (z_at.mk 3 rfl rfl) rfl (u := .int (0 : Int32)) rfl rfl rfl ?_
  refine w_p h_m145 1 (pc' := 79) (L' := [(0, .ref 39), (2, .int (0 : Int32))]) (st' := []) rfl ?_
  refine w_rv h_m145 (z_at.mk 1 rfl rfl) rfl ?_
  show z_W 999 146 13 [(0, .ref 39), (1, .int (xs 1)), (2, .int (43 : Int32))] [] m _
  refine w_p h_m146 1 (pc' := 14) (L' := [(0, .ref 39), (1, .int (xs 1)), (2, .int (43 : Int32))]) (st' := [.ref 39]) rfl ?_
  refine w_gf H (pc' := 17) (L' := [(0, .ref 39), (1, .int (xs 1)), (2, .int (43 : Int32))]) h_m146 (z_at.mk 3 rfl rfl) rfl (u := .ref 106) rfl rfl rfl ?_
  refine w_gf H (pc' := 20) (L' := [(0, .ref 39), (1, .int (xs 1)), (2, .int (43 : Int32))]) h_m146 (z_at.mk 3 rfl rfl) rfl (u := .int (0 : Int32)) rfl rfl rfl ?_
  refine w_p h_m146 1 (pc' := 21) (L' := [(0, .ref 39), (1, .int (xs 1)), (2, .int (43 : Int32))]) (st' := [.int (xs 1), .int (0 : Int32)]) rfl ?_
  refine w_t2 (pc' := 26) (L' := [(0, .ref 39), (1, .int (xs 1)), (2, .int (43 : Int32))]) h_m146 (z_at.mk 3 rfl rfl) rfl (zc (a := 0) (b := (xs 1).toInt) rfl rfl (decide_eq_true (by omega))) rfl rfl ?_
  refine w_p h_m146 2 (pc' := 2) (L' := [(0, .ref 39), (1, .int (xs 1)), (2, .int (44 : Int32))]) (st' := []) rfl ?_
  exact hQ m (H.subC (by decide +kernel))
set_option maxHeartbeats 400000000 in
set_option maxRecDepth 20000 in
theorem w_turn_146_44 {xs : Nat → Int32} {m : zM} {Q : Option Value → zM → Prop} (hp : (xs 1).toInt < 0) (H : w_ok 6 xs 168 63950 ((106, (12, 18, [(15, .int (0 : Int32)), (14, .int (0 : Int32)), (13, .int (0 : Int32)), (12, .int (0 : Int32)), (11, .int (0 : Int32)), (10, .int (0 : Int32)), (9, .long (0 : Int64)), (8, .int (0 : Int32)), (2, .int (0 : Int32)), (0, .ref 41), (17, .ref 116), (16, .ref 114), (7, .ref 113), (6, .ref 112), (5, .ref 111), (4, .ref 110), (3, .ref 109), (1, .ref 107)], none)) :: (108, (0, 7, [(1, .int (43 : Int32)), (6, .int (1024 : Int32)), (5, .int (1 : Int32)), (4, .int (1 : Int32)), (3, .int (0 : Int32)), (2, .int (12 : Int32)), (0, .int (10 : Int32))], some (.int (0 : Int32)))) :: w_T0) m) (hQ : ∀ m, w_ok 6 xs 168 63950 ((106, (12, 18, [(15, .int (0 : Int32)), (14, .int (0 : Int32)), (13, .int (0 : Int32)), (12, .int (0 : Int32)), (11, .int (0 : Int32)), (10, .int (0 : Int32)), (9, .long (0 : Int64)), (8, .int (0 : Int32)), (2, .int (0 : Int32)), (0, .ref 41), (17, .ref 116), (16, .ref 114), (7, .ref 113), (6, .ref 112), (5, .ref 111), (4, .ref 110), (3, .ref 109), (1, .ref 107)], none)) :: (108, (0, 7, [(1, .int (44 : Int32)), (6, .int (1024 : Int32)), (5, .int (1 : Int32)), (4, .int (1 : Int32)), (3, .int (0 : Int32)), (2, .int (12 : Int32)), (0, .int (10 : Int32))], some (.int (0 : Int32)))) :: w_T0) m → z_W 999 146 2 [(0, .ref 39), (1, .int (xs 1)), (2, .int (45 : Int32))] [] m Q) : z_W 999 146 2 [(0, .ref 39), (1, .int (xs 1)), (2, .int (44 : Int32))] [] m Q := by
  refine w_p h_m146 5 (pc' := 10) (L' := [(0, .ref 39), (1, .int (xs 1)), (2, .int (44 : Int32))]) (st' := [.int (44 : Int32), .ref 39]) rfl ?_
  refine w_cv (H.t rfl) (pc' := 13) (L' := [(0, .ref 39), (1, .int (xs 1)), (2, .int (44 : Int32))]) (rest := []) (Ps := [.int (44 : Int32)]) (L0 := [(0, .ref 39), (1, .int (44 : Int32))]) h_m146 (z_at.mk 3 rfl rfl) (Or.inl ⟨rfl, rfl⟩) rfl rfl (by decide) (by decide) rfl rfl rfl rfl rfl rfl (by decide) rfl rfl rfl ?_
  refine w_p h_m145 1 (pc' := 1) (L' := [(0, .ref 39), (1, .int (44 : Int32))]) (st' := [.ref 39]) rfl ?_
  refine w_gf H (pc' := 4) (L' := [(0, .ref 39), (1, .int (44 : Int32))]) h_m145 (z_at.mk 3 rfl rfl) rfl (u := .ref 106) rfl rfl rfl ?_
  refine w_cv (H.t rfl) (pc' := 7) (L' := [(0, .ref 39), (1, .int (44 : Int32))]) (rest := []) (Ps := []) (L0 := [(0, .ref 106)]) h_m145 (z_at.mk 3 rfl rfl) (Or.inl ⟨rfl, rfl⟩) rfl rfl (by decide) (by decide) rfl rfl rfl rfl rfl rfl (by decide) rfl rfl rfl ?_
  refine w_p h_m20 2 (pc' := 2) (L' := [(0, .ref 106)]) (st' := [.int (0 : Int32), .ref 106]) rfl ?_
  refine w_pf H (12, 18, [(2, .int (0 : Int32)), (15, .int (0 : Int32)), (14, .int (0 : Int32)), (13, .int (0 : Int32)), (12, .int (0 : Int32)), (11, .int (0 : Int32)), (10, .int (0 : Int32)), (9, .long (0 : Int64)), (8, .int (0 : Int32)), (0, .ref 41), (17, .ref 116), (16, .ref 114), (7, .ref 113), (6, .ref 112), (5, .ref 111), (4, .ref 110), (3, .ref 109), (1, .ref 107)], none) (pc' := 5) (L' := [(0, .ref 106)]) h_m20 (z_at.mk 3 rfl rfl) rfl (by decide) rfl (Or.inl rfl) rfl rfl rfl ?_
  clear H m; intro m H
  refine w_p h_m20 2 (pc' := 7) (L' := [(0, .ref 106)]) (st' := [.int (0 : Int32), .ref 106]) rfl ?_
  refine w_pf H (12, 18, [(8, .int (0 : Int32)), (2, .int (0 : Int32)), (15, .int (0 : Int32)), (14, .int (0 : Int32)), (13, .int (0 : Int32)), (12, .int (0 : Int32)), (11, .int (0 : Int32)), (10, .int (0 : Int32)), (9, .long (0 : Int64)), (0, .ref 41), (17, .ref 116), (16, .ref 114), (7, .ref 113), (6, .ref 112), (5, .ref 111), (4, .ref 110), (3, .ref 109), (1, .ref 107)], none) (pc' := 10) (L' := [(0, .ref 106)]) h_m20 (z_at.mk 3 rfl rfl) rfl (by decide) rfl (Or.inl rfl) rfl rfl rfl ?_
  clear H m; intro m H
  refine w_p h_m20 2 (pc' := 12) (L' := [(0, .ref 106)]) (st' := [.long (0 : Int64), .ref 106]) rfl ?_
  refine w_pf H (12, 18, [(9, .long (0 : Int64)), (8, .int (0 : Int32)), (2, .int (0 : Int32)), (15, .int (0 : Int32)), (14, .int (0 : Int32)), (13, .int (0 : Int32)), (12, .int (0 : Int32)), (11, .int (0 : Int32)), (10, .int (0 : Int32)), (0, .ref 41), (17, .ref 116), (16, .ref 114), (7, .ref 113), (6, .ref 112), (5, .ref 111), (4, .ref 110), (3, .ref 109), (1, .ref 107)], none) (pc' := 15) (L' := [(0, .ref 106)]) h_m20 (z_at.mk 3 rfl rfl) rfl (by decide) rfl (Or.inl rfl) rfl rfl rfl ?_
  clear H m; intro m H
  refine w_p h_m20 2 (pc' := 17) (L' := [(0, .ref 106)]) (st' := [.int (0 : Int32), .ref 106]) rfl ?_
  refine w_pf H (12, 18, [(10, .int (0 : Int32)), (9, .long (0 : Int64)), (8, .int (0 : Int32)), (2, .int (0 : Int32)), (15, .int (0 : Int32)), (14, .int (0 : Int32)), (13, .int (0 : Int32)), (12, .int (0 : Int32)), (11, .int (0 : Int32)), (0, .ref 41), (17, .ref 116), (16, .ref 114), (7, .ref 113), (6, .ref 112), (5, .ref 111), (4, .ref 110), (3, .ref 109), (1, .ref 107)], none) (pc' := 20) (L' := [(0, .ref 106)]) h_m20 (z_at.mk 3 rfl rfl) rfl (by decide) rfl (Or.inl rfl) rfl rfl rfl ?_
  clear H m; intro m H
  refine w_p h_m20 2 (pc' := 22) (L' := [(0, .ref 106)]) (st' := [.int (0 : Int32), .ref 106]) rfl ?_
  refine w_pf H (12, 18, [(11, .int (0 : Int32)), (10, .int (0 : Int32)), (9, .long (0 : Int64)), (8, .int (0 : Int32)), (2, .int (0 : Int32)), (15, .int (0 : Int32)), (14, .int (0 : Int32)), (13, .int (0 : Int32)), (12, .int (0 : Int32)), (0, .ref 41), (17, .ref 116), (16, .ref 114), (7, .ref 113), (6, .ref 112), (5, .ref 111), (4, .ref 110), (3, .ref 109), (1, .ref 107)], none) (pc' := 25) (L' := [(0, .ref 106)]) h_m20 (z_at.mk 3 rfl rfl) rfl (by decide) rfl (Or.inl rfl) rfl rfl rfl ?_
  clear H m; intro m H
  refine w_p h_m20 2 (pc' := 27) (L' := [(0, .ref 106)]) (st' := [.int (0 : Int32), .ref 106]) rfl ?_
  refine w_pf H (12, 18, [(12, .int (0 : Int32)), (11, .int (0 : Int32)), (10, .int (0 : Int32)), (9, .long (0 : Int64)), (8, .int (0 : Int32)), (2, .int (0 : Int32)), (15, .int (0 : Int32)), (14, .int (0 : Int32)), (13, .int (0 : Int32)), (0, .ref 41), (17, .ref 116), (16, .ref 114), (7, .ref 113), (6, .ref 112), (5, .ref 111), (4, .ref 110), (3, .ref 109), (1, .ref 107)], none) (pc' := 30) (L' := [(0, .ref 106)]) h_m20 (z_at.mk 3 rfl rfl) rfl (by decide) rfl (Or.inl rfl) rfl rfl rfl ?_
  clear H m; intro m H
  refine w_p h_m20 2 (pc' := 32) (L' := [(0, .ref 106)]) (st' := [.int (0 : Int32), .ref 106]) rfl ?_
  refine w_pf H (12, 18, [(13, .int (0 : Int32)), (12, .int (0 : Int32)), (11, .int (0 : Int32)), (10, .int (0 : Int32)), (9, .long (0 : Int64)), (8, .int (0 : Int32)), (2, .int (0 : Int32)), (15, .int (0 : Int32)), (14, .int (0 : Int32)), (0, .ref 41), (17, .ref 116), (16, .ref 114), (7, .ref 113), (6, .ref 112), (5, .ref 111), (4, .ref 110), (3, .ref 109), (1, .ref 107)], none) (pc' := 35) (L' := [(0, .ref 106)]) h_m20 (z_at.mk 3 rfl rfl) rfl (by decide) rfl (Or.inl rfl) rfl rfl rfl ?_
  clear H m; intro m H
  refine w_p h_m20 2 (pc' := 37) (L' := [(0, .ref 106)]) (st' := [.int (0 : Int32), .ref 106]) rfl ?_
  refine w_pf H (12, 18, [(14, .int (0 : Int32)), (13, .int (0 : Int32)), (12, .int (0 : Int32)), (11, .int (0 : Int32)), (10, .int (0 : Int32)), (9, .long (0 : Int64)), (8, .int (0 : Int32)), (2, .int (0 : Int32)), (15, .int (0 : Int32)), (0, .ref 41), (17, .ref 116), (16, .ref 114), (7, .ref 113), (6, .ref 112), (5, .ref 111), (4, .ref 110), (3, .ref 109), (1, .ref 107)], none) (pc' := 40) (L' := [(0, .ref 106)]) h_m20 (z_at.mk 3 rfl rfl) rfl (by decide) rfl (Or.inl rfl) rfl rfl rfl ?_
  clear H m; intro m H
  refine w_p h_m20 2 (pc' := 42) (L' := [(0, .ref 106)]) (st' := [.int (0 : Int32), .ref 106]) rfl ?_
  refine w_pf H (12, 18, [(15, .int (0 : Int32)), (14, .int (0 : Int32)), (13, .int (0 : Int32)), (12, .int (0 : Int32)), (11, .int (0 : Int32)), (10, .int (0 : Int32)), (9, .long (0 : Int64)), (8, .int (0 : Int32)), (2, .int (0 : Int32)), (0, .ref 41), (17, .ref 116), (16, .ref 114), (7, .ref 113), (6, .ref 112), (5, .ref 111), (4, .ref 110), (3, .ref 109), (1, .ref 107)], none) (pc' := 45) (L' := [(0, .ref 106)]) h_m20 (z_at.mk 3 rfl rfl) rfl (by decide) rfl (Or.inl rfl) rfl rfl rfl ?_
  clear H m; intro m H
  refine w_rv h_m20 (z_at.mk 1 rfl rfl) rfl ?_
  show z_W 998 145 7 [(0, .ref 39), (1, .int (44 : Int32))] [] m _
  refine w_p h_m145 1 (pc' := 8) (L' := [(0, .ref 39), (1, .int (44 : Int32))]) (st' := [.ref 39]) rfl ?_
  refine w_gf H (pc' := 11) (L' := [(0, .ref 39), (1, .int (44 : Int32))]) h_m145 (z_at.mk 3 rfl rfl) rfl (u := .ref 106) rfl rfl rfl ?_
  refine w_gf H (pc' := 14) (L' := [(0, .ref 39), (1, .int (44 : Int32))]) h_m145 (z_at.mk 3 rfl rfl) rfl (u := .ref 107) rfl rfl rfl ?_
  refine w_p h_m145 1 (pc' := 15) (L' := [(0, .ref 39), (1, .int (44 : Int32))]) (st' := [.ref 39, .ref 107]) rfl ?_
  refine w_gf H (pc' := 18) (L' := [(0, .ref 39), (1, .int (44 : Int32))]) h_m145 (z_at.mk 3 rfl rfl) rfl (u := .ref 40) rfl rfl rfl ?_
  refine w_gf H (pc' := 21) (L' := [(0, .ref 39), (1, .int (44 : Int32))]) h_m145 (z_at.mk 3 rfl rfl) rfl (u := .ref 48) rfl rfl rfl ?_
  refine w_gf H (pc' := 24) (L' := [(0, .ref 39), (1, .int (44 : Int32))]) h_m145 (z_at.mk 3 rfl rfl) rfl (u := .ref 49) rfl rfl rfl ?_
  refine w_cv (H.t rfl) (pc' := 27) (L' := [(0, .ref 39), (1, .int (44 : Int32))]) (rest := []) (Ps := [.ref 49]) (L0 := [(0, .ref 107), (1, .ref 49)]) h_m145 (z_at.mk 3 rfl rfl) (Or.inl ⟨rfl, rfl⟩) rfl rfl (by decide) (by decide) rfl rfl rfl rfl rfl rfl (by decide) rfl rfl rfl ?_
  refine w_p h_m74 1 (pc' := 1) (L' := [(0, .ref 107), (1, .ref 49)]) (st' := [.ref 49]) rfl ?_
  refine w_gf H (pc' := 4) (L' := [(0, .ref 107), (1, .ref 49)]) h_m74 (z_at.mk 3 rfl rfl) rfl (u := .ref 50) rfl rfl rfl ?_
  refine w_p h_m74 2 (pc' := 6) (L' := [(0, .ref 107), (1, .ref 49)]) (st' := [.ref 107, .int (0 : Int32), .ref 50]) rfl ?_
  refine w_gf H (pc' := 9) (L' := [(0, .ref 107), (1, .ref 49)]) h_m74 (z_at.mk 3 rfl rfl) rfl (u := .ref 108) rfl rfl rfl ?_
  refine w_p h_m74 2 (pc' := 12) (L' := [(0, .ref 107), (1, .ref 49)]) (st' := [.int (7 : Int32), .int (0 : Int32), .ref 108, .int (0 : Int32), .ref 50]) rfl ?_
  refine w_cpf H (ra := (0, 7, [(6, .int (1024 : Int32)), (5, .int (1 : Int32)), (4, .int (1 : Int32)), (3, .int (0 : Int32)), (2, .int (12 : Int32)), (1, .int (40 : Int32)), (0, .int (10 : Int32))], some (.int (0 : Int32)))) (pc' := 15) (L' := [(0, .ref 107), (1, .ref 49)]) h_m74 (z_at.mk 3 rfl rfl) rfl (z_cat_le 0 rfl (by decide)) rfl rfl rfl rfl (by decide) rfl rfl ?_
  clear H m; intro m H
  refine w_rv h_m74 (z_at.mk 1 rfl rfl) rfl ?_
  show z_W 998 145 27 [(0, .ref 39), (1, .int (44 : Int32))] [] m _
  refine w_p h_m145 1 (pc' := 28) (L' := [(0, .ref 39), (1, .int (44 : Int32))]) (st' := [.ref 39]) rfl ?_
  refine w_gf H (pc' := 31) (L' := [(0, .ref 39), (1, .int (44 : Int32))]) h_m145 (z_at.mk 3 rfl rfl) rfl (u := .ref 106) rfl rfl rfl ?_
  refine w_gf H (pc' := 34) (L' := [(0, .ref 39), (1, .int (44 : Int32))]) h_m145 (z_at.mk 3 rfl rfl) rfl (u := .ref 107) rfl rfl rfl ?_
  refine w_p h_m145 2 (pc' := 36) (L' := [(0, .ref 39), (1, .int (44 : Int32))]) (st' := [.int (44 : Int32), .int (1 : Int32), .ref 107]) rfl ?_
  refine w_cv (H.t rfl) (pc' := 39) (L' := [(0, .ref 39), (1, .int (44 : Int32))]) (rest := []) (Ps := [.int (1 : Int32), .int (44 : Int32)]) (L0 := [(0, .ref 107), (1, .int (1 : Int32)), (2, .int (44 : Int32))]) h_m145 (z_at.mk 3 rfl rfl) (Or.inl ⟨rfl, rfl⟩) rfl rfl (by decide) (by decide) rfl rfl rfl rfl rfl rfl (by decide) rfl rfl rfl ?_
  refine w_p h_m73 6 (pc' := 11) (L' := [(0, .ref 107), (1, .int (1 : Int32)), (2, .int (44 : Int32))]) (st' := [.ref 107]) rfl ?_
  refine w_gf H (pc' := 14) (L' := [(0, .ref 107), (1, .int (1 : Int32)), (2, .int (44 : Int32))]) h_m73 (z_at.mk 3 rfl rfl) rfl (u := .ref 108) rfl rfl rfl ?_
  refine w_p h_m73 2 (pc' := 16) (L' := [(0, .ref 107), (1, .int (1 : Int32)), (2, .int (44 : Int32))]) (st' := [.int (44 : Int32), .int (1 : Int32), .ref 108]) rfl ?_
  refine w_as H (t := 0) (j := 1) (u := .int (44 : Int32)) (0, 7, [(1, .int (44 : Int32)), (6, .int (1024 : Int32)), (5, .int (1 : Int32)), (4, .int (1 : Int32)), (3, .int (0 : Int32)), (2, .int (12 : Int32)), (0, .int (10 : Int32))], some (.int (0 : Int32))) (pc' := 17) (L' := []) h_m73 (z_at.mk 1 rfl rfl) rfl rfl (w_ui _ _ (by decide)) rfl rfl rfl rfl ?_
  clear H m; intro m H
  refine w_rv h_m73 (z_at.mk 1 rfl rfl) rfl ?_
  show z_W 998 145 39 [(0, .ref 39), (1, .int (44 : Int32))] [] m _
  refine w_p h_m145 4 (pc' := 43) (L' := [(0, .ref 39), (2, .int (0 : Int32))]) (st' := [.ref 39, .int (0 : Int32)]) rfl ?_
  refine w_gf H (pc' := 46) (L' := [(0, .ref 39), (2, .int (0 : Int32))]) h_m145 (z_at.mk 3 rfl rfl) rfl (u := .ref 40) rfl rfl rfl ?_
  refine w_gf H (pc' := 49) (L' := [(0, .ref 39), (2, .int (0 : Int32))]) h_m145 (z_at.mk 3 rfl rfl) rfl (u := .ref 63) rfl rfl rfl ?_
  refine w_gf H (pc' := 52) (L' := [(0, .ref 39), (2, .int (0 : Int32))]) h_m145 (z_at.mk 3 rfl rfl) rfl (u := .int (0 : Int32)) rfl rfl rfl ?_
  refine w_p h_m145 1 (pc' := 79) (L' := [(0, .ref 39), (2, .int (0 : Int32))]) (st' := []) rfl ?_
  refine w_rv h_m145 (z_at.mk 1 rfl rfl) rfl ?_
  show z_W 999 146 13 [(0, .ref 39), (1, .int (xs 1)), (2, .int (44 : Int32))] [] m _
  refine w_p h_m146 1 (pc' := 14) (L' := [(0, .ref 39), (1, .int (xs 1)), (2, .int (44 : Int32))]) (st' := [.ref 39]) rfl ?_
  refine w_gf H (pc' := 17) (L' := [(0, .ref 39), (1, .int (xs 1)), (2, .int (44 : Int32))]) h_m146 (z_at.mk 3 rfl rfl) rfl (u := .ref 106) rfl rfl rfl ?_
  refine w_gf H (pc' := 20) (L' := [(0, .ref 39), (1, .int (xs 1)), (2, .int (44 : Int32))]) h_m146 (z_at.mk 3 rfl rfl) rfl (u := .int (0 : Int32)) rfl rfl rfl ?_
  refine w_p h_m146 1 (pc' := 21) (L' := [(0, .ref 39), (1, .int (xs 1)), (2, .int (44 : Int32))]) (st' := [.int (xs 1), .int (0 : Int32)]) rfl ?_
  refine w_t2 (pc' := 26) (L' := [(0, .ref 39), (1, .int (xs 1)), (2, .int (44 : Int32))]) h_m146 (z_at.mk 3 rfl rfl) rfl (zc (a := 0) (b := (xs 1).toInt) rfl rfl (decide_eq_true (by omega))) rfl rfl ?_
  refine w_p h_m146 2 (pc' := 2) (L' := [(0, .ref 39), (1, .int (xs 1)), (2, .int (45 : Int32))]) (st' := []) rfl ?_
  exact hQ m (H.subC (by decide +kernel))
set_option maxHeartbeats 400000000 in
set_option maxRecDepth 20000 in
theorem w_turn_146_45 {xs : Nat → Int32} {m : zM} {Q : Option Value → zM → Prop} (hp : (xs 1).toInt < 0) (H : w_ok 6 xs 168 63950 ((106, (12, 18, [(15, .int (0 : Int32)), (14, .int (0 : Int32)), (13, .int (0 : Int32)), (12, .int (0 : Int32)), (11, .int (0 : Int32)), (10, .int (0 : Int32)), (9, .long (0 : Int64)), (8, .int (0 : Int32)), (2, .int (0 : Int32)), (0, .ref 41), (17, .ref 116), (16, .ref 114), (7, .ref 113), (6, .ref 112), (5, .ref 111), (4, .ref 110), (3, .ref 109), (1, .ref 107)], none)) :: (108, (0, 7, [(1, .int (44 : Int32)), (6, .int (1024 : Int32)), (5, .int (1 : Int32)), (4, .int (1 : Int32)), (3, .int (0 : Int32)), (2, .int (12 : Int32)), (0, .int (10 : Int32))], some (.int (0 : Int32)))) :: w_T0) m) (hQ : ∀ m, w_ok 6 xs 168 63950 ((106, (12, 18, [(15, .int (0 : Int32)), (14, .int (0 : Int32)), (13, .int (0 : Int32)), (12, .int (0 : Int32)), (11, .int (0 : Int32)), (10, .int (0 : Int32)), (9, .long (0 : Int64)), (8, .int (0 : Int32)), (2, .int (0 : Int32)), (0, .ref 41), (17, .ref 116), (16, .ref 114), (7, .ref 113), (6, .ref 112), (5, .ref 111), (4, .ref 110), (3, .ref 109), (1, .ref 107)], none)) :: (108, (0, 7, [(1, .int (45 : Int32)), (6, .int (1024 : Int32)), (5, .int (1 : Int32)), (4, .int (1 : Int32)), (3, .int (0 : Int32)), (2, .int (12 : Int32)), (0, .int (10 : Int32))], some (.int (0 : Int32)))) :: w_T0) m → z_W 999 146 2 [(0, .ref 39), (1, .int (xs 1)), (2, .int (46 : Int32))] [] m Q) : z_W 999 146 2 [(0, .ref 39), (1, .int (xs 1)), (2, .int (45 : Int32))] [] m Q := by
  refine w_p h_m146 5 (pc' := 10) (L' := [(0, .ref 39), (1, .int (xs 1)), (2, .int (45 : Int32))]) (st' := [.int (45 : Int32), .ref 39]) rfl ?_
  refine w_cv (H.t rfl) (pc' := 13) (L' := [(0, .ref 39), (1, .int (xs 1)), (2, .int (45 : Int32))]) (rest := []) (Ps := [.int (45 : Int32)]) (L0 := [(0, .ref 39), (1, .int (45 : Int32))]) h_m146 (z_at.mk 3 rfl rfl) (Or.inl ⟨rfl, rfl⟩) rfl rfl (by decide) (by decide) rfl rfl rfl rfl rfl rfl (by decide) rfl rfl rfl ?_
  refine w_p h_m145 1 (pc' := 1) (L' := [(0, .ref 39), (1, .int (45 : Int32))]) (st' := [.ref 39]) rfl ?_
  refine w_gf H (pc' := 4) (L' := [(0, .ref 39), (1, .int (45 : Int32))]) h_m145 (z_at.mk 3 rfl rfl) rfl (u := .ref 106) rfl rfl rfl ?_
  refine w_cv (H.t rfl) (pc' := 7) (L' := [(0, .ref 39), (1, .int (45 : Int32))]) (rest := []) (Ps := []) (L0 := [(0, .ref 106)]) h_m145 (z_at.mk 3 rfl rfl) (Or.inl ⟨rfl, rfl⟩) rfl rfl (by decide) (by decide) rfl rfl rfl rfl rfl rfl (by decide) rfl rfl rfl ?_
  refine w_p h_m20 2 (pc' := 2) (L' := [(0, .ref 106)]) (st' := [.int (0 : Int32), .ref 106]) rfl ?_
  refine w_pf H (12, 18, [(2, .int (0 : Int32)), (15, .int (0 : Int32)), (14, .int (0 : Int32)), (13, .int (0 : Int32)), (12, .int (0 : Int32)), (11, .int (0 : Int32)), (10, .int (0 : Int32)), (9, .long (0 : Int64)), (8, .int (0 : Int32)), (0, .ref 41), (17, .ref 116), (16, .ref 114), (7, .ref 113), (6, .ref 112), (5, .ref 111), (4, .ref 110), (3, .ref 109), (1, .ref 107)], none) (pc' := 5) (L' := [(0, .ref 106)]) h_m20 (z_at.mk 3 rfl rfl) rfl (by decide) rfl (Or.inl rfl) rfl rfl rfl ?_
  clear H m; intro m H
  refine w_p h_m20 2 (pc' := 7) (L' := [(0, .ref 106)]) (st' := [.int (0 : Int32), .ref 106]) rfl ?_
  refine w_pf H (12, 18, [(8, .int (0 : Int32)), (2, .int (0 : Int32)), (15, .int (0 : Int32)), (14, .int (0 : Int32)), (13, .int (0 : Int32)), (12, .int (0 : Int32)), (11, .int (0 : Int32)), (10, .int (0 : Int32)), (9, .long (0 : Int64)), (0, .ref 41), (17, .ref 116), (16, .ref 114), (7, .ref 113), (6, .ref 112), (5, .ref 111), (4, .ref 110), (3, .ref 109), (1, .ref 107)], none) (pc' := 10) (L' := [(0, .ref 106)]) h_m20 (z_at.mk 3 rfl rfl) rfl (by decide) rfl (Or.inl rfl) rfl rfl rfl ?_
  clear H m; intro m H
  refine w_p h_m20 2 (pc' := 12) (L' := [(0, .ref 106)]) (st' := [.long (0 : Int64), .ref 106]) rfl ?_
  refine w_pf H (12, 18, [(9, .long (0 : Int64)), (8, .int (0 : Int32)), (2, .int (0 : Int32)), (15, .int (0 : Int32)), (14, .int (0 : Int32)), (13, .int (0 : Int32)), (12, .int (0 : Int32)), (11, .int (0 : Int32)), (10, .int (0 : Int32)), (0, .ref 41), (17, .ref 116), (16, .ref 114), (7, .ref 113), (6, .ref 112), (5, .ref 111), (4, .ref 110), (3, .ref 109), (1, .ref 107)], none) (pc' := 15) (L' := [(0, .ref 106)]) h_m20 (z_at.mk 3 rfl rfl) rfl (by decide) rfl (Or.inl rfl) rfl rfl rfl ?_
  clear H m; intro m H
  refine w_p h_m20 2 (pc' := 17) (L' := [(0, .ref 106)]) (st' := [.int (0 : Int32), .ref 106]) rfl ?_
  refine w_pf H (12, 18, [(10, .int (0 : Int32)), (9, .long (0 : Int64)), (8, .int (0 : Int32)), (2, .int (0 : Int32)), (15, .int (0 : Int32)), (14, .int (0 : Int32)), (13, .int (0 : Int32)), (12, .int (0 : Int32)), (11, .int (0 : Int32)), (0, .ref 41), (17, .ref 116), (16, .ref 114), (7, .ref 113), (6, .ref 112), (5, .ref 111), (4, .ref 110), (3, .ref 109), (1, .ref 107)], none) (pc' := 20) (L' := [(0, .ref 106)]) h_m20 (z_at.mk 3 rfl rfl) rfl (by decide) rfl (Or.inl rfl) rfl rfl rfl ?_
  clear H m; intro m H
  refine w_p h_m20 2 (pc' := 22) (L' := [(0, .ref 106)]) (st' := [.int (0 : Int32), .ref 106]) rfl ?_
  refine w_pf H (12, 18, [(11, .int (0 : Int32)), (10, .int (0 : Int32)), (9, .long (0 : Int64)), (8, .int (0 : Int32)), (2, .int (0 : Int32)), (15, .int (0 : Int32)), (14, .int (0 : Int32)), (13, .int (0 : Int32)), (12, .int (0 : Int32)), (0, .ref 41), (17, .ref 116), (16, .ref 114), (7, .ref 113), (6, .ref 112), (5, .ref 111), (4, .ref 110), (3, .ref 109), (1, .ref 107)], none) (pc' := 25) (L' := [(0, .ref 106)]) h_m20 (z_at.mk 3 rfl rfl) rfl (by decide) rfl (Or.inl rfl) rfl rfl rfl ?_
  clear H m; intro m H
  refine w_p h_m20 2 (pc' := 27) (L' := [(0, .ref 106)]) (st' := [.int (0 : Int32), .ref 106]) rfl ?_
  refine w_pf H (12, 18, [(12, .int (0 : Int32)), (11, .int (0 : Int32)), (10, .int (0 : Int32)), (9, .long (0 : Int64)), (8, .int (0 : Int32)), (2, .int (0 : Int32)), (15, .int (0 : Int32)), (14, .int (0 : Int32)), (13, .int (0 : Int32)), (0, .ref 41), (17, .ref 116), (16, .ref 114), (7, .ref 113), (6, .ref 112), (5, .ref 111), (4, .ref 110), (3, .ref 109), (1, .ref 107)], none) (pc' := 30) (L' := [(0, .ref 106)]) h_m20 (z_at.mk 3 rfl rfl) rfl (by decide) rfl (Or.inl rfl) rfl rfl rfl ?_
  clear H m; intro m H
  refine w_p h_m20 2 (pc' := 32) (L' := [(0, .ref 106)]) (st' := [.int (0 : Int32), .ref 106]) rfl ?_
  refine w_pf H (12, 18, [(13, .int (0 : Int32)), (12, .int (0 : Int32)), (11, .int (0 : Int32)), (10, .int (0 : Int32)), (9, .long (0 : Int64)), (8, .int (0 : Int32)), (2, .int (0 : Int32)), (15, .int (0 : Int32)), (14, .int (0 : Int32)), (0, .ref 41), (17, .ref 116), (16, .ref 114), (7, .ref 113), (6, .ref 112), (5, .ref 111), (4, .ref 110), (3, .ref 109), (1, .ref 107)], none) (pc' := 35) (L' := [(0, .ref 106)]) h_m20 (z_at.mk 3 rfl rfl) rfl (by decide) rfl (Or.inl rfl) rfl rfl rfl ?_
  clear H m; intro m H
  refine w_p h_m20 2 (pc' := 37) (L' := [(0, .ref 106)]) (st' := [.int (0 : Int32), .ref 106]) rfl ?_
  refine w_pf H (12, 18, [(14, .int (0 : Int32)), (13, .int (0 : Int32)), (12, .int (0 : Int32)), (11, .int (0 : Int32)), (10, .int (0 : Int32)), (9, .long (0 : Int64)), (8, .int (0 : Int32)), (2, .int (0 : Int32)), (15, .int (0 : Int32)), (0, .ref 41), (17, .ref 116), (16, .ref 114), (7, .ref 113), (6, .ref 112), (5, .ref 111), (4, .ref 110), (3, .ref 109), (1, .ref 107)], none) (pc' := 40) (L' := [(0, .ref 106)]) h_m20 (z_at.mk 3 rfl rfl) rfl (by decide) rfl (Or.inl rfl) rfl rfl rfl ?_
  clear H m; intro m H
  refine w_p h_m20 2 (pc' := 42) (L' := [(0, .ref 106)]) (st' := [.int (0 : Int32), .ref 106]) rfl ?_
  refine w_pf H (12, 18, [(15, .int (0 : Int32)), (14, .int (0 : Int32)), (13, .int (0 : Int32)), (12, .int (0 : Int32)), (11, .int (0 : Int32)), (10, .int (0 : Int32)), (9, .long (0 : Int64)), (8, .int (0 : Int32)), (2, .int (0 : Int32)), (0, .ref 41), (17, .ref 116), (16, .ref 114), (7, .ref 113), (6, .ref 112), (5, .ref 111), (4, .ref 110), (3, .ref 109), (1, .ref 107)], none) (pc' := 45) (L' := [(0, .ref 106)]) h_m20 (z_at.mk 3 rfl rfl) rfl (by decide) rfl (Or.inl rfl) rfl rfl rfl ?_
  clear H m; intro m H
  refine w_rv h_m20 (z_at.mk 1 rfl rfl) rfl ?_
  show z_W 998 145 7 [(0, .ref 39), (1, .int (45 : Int32))] [] m _
  refine w_p h_m145 1 (pc' := 8) (L' := [(0, .ref 39), (1, .int (45 : Int32))]) (st' := [.ref 39]) rfl ?_
  refine w_gf H (pc' := 11) (L' := [(0, .ref 39), (1, .int (45 : Int32))]) h_m145 (z_at.mk 3 rfl rfl) rfl (u := .ref 106) rfl rfl rfl ?_
  refine w_gf H (pc' := 14) (L' := [(0, .ref 39), (1, .int (45 : Int32))]) h_m145 (z_at.mk 3 rfl rfl) rfl (u := .ref 107) rfl rfl rfl ?_
  refine w_p h_m145 1 (pc' := 15) (L' := [(0, .ref 39), (1, .int (45 : Int32))]) (st' := [.ref 39, .ref 107]) rfl ?_
  refine w_gf H (pc' := 18) (L' := [(0, .ref 39), (1, .int (45 : Int32))]) h_m145 (z_at.mk 3 rfl rfl) rfl (u := .ref 40) rfl rfl rfl ?_
  refine w_gf H (pc' := 21) (L' := [(0, .ref 39), (1, .int (45 : Int32))]) h_m145 (z_at.mk 3 rfl rfl) rfl (u := .ref 48) rfl rfl rfl ?_
  refine w_gf H (pc' := 24) (L' := [(0, .ref 39), (1, .int (45 : Int32))]) h_m145 (z_at.mk 3 rfl rfl) rfl (u := .ref 49) rfl rfl rfl ?_
  refine w_cv (H.t rfl) (pc' := 27) (L' := [(0, .ref 39), (1, .int (45 : Int32))]) (rest := []) (Ps := [.ref 49]) (L0 := [(0, .ref 107), (1, .ref 49)]) h_m145 (z_at.mk 3 rfl rfl) (Or.inl ⟨rfl, rfl⟩) rfl rfl (by decide) (by decide) rfl rfl rfl rfl rfl rfl (by decide) rfl rfl rfl ?_
  refine w_p h_m74 1 (pc' := 1) (L' := [(0, .ref 107), (1, .ref 49)]) (st' := [.ref 49]) rfl ?_
  refine w_gf H (pc' := 4) (L' := [(0, .ref 107), (1, .ref 49)]) h_m74 (z_at.mk 3 rfl rfl) rfl (u := .ref 50) rfl rfl rfl ?_
  refine w_p h_m74 2 (pc' := 6) (L' := [(0, .ref 107), (1, .ref 49)]) (st' := [.ref 107, .int (0 : Int32), .ref 50]) rfl ?_
  refine w_gf H (pc' := 9) (L' := [(0, .ref 107), (1, .ref 49)]) h_m74 (z_at.mk 3 rfl rfl) rfl (u := .ref 108) rfl rfl rfl ?_
  refine w_p h_m74 2 (pc' := 12) (L' := [(0, .ref 107), (1, .ref 49)]) (st' := [.int (7 : Int32), .int (0 : Int32), .ref 108, .int (0 : Int32), .ref 50]) rfl ?_
  refine w_cpf H (ra := (0, 7, [(6, .int (1024 : Int32)), (5, .int (1 : Int32)), (4, .int (1 : Int32)), (3, .int (0 : Int32)), (2, .int (12 : Int32)), (1, .int (40 : Int32)), (0, .int (10 : Int32))], some (.int (0 : Int32)))) (pc' := 15) (L' := [(0, .ref 107), (1, .ref 49)]) h_m74 (z_at.mk 3 rfl rfl) rfl (z_cat_le 0 rfl (by decide)) rfl rfl rfl rfl (by decide) rfl rfl ?_
  clear H m; intro m H
  refine w_rv h_m74 (z_at.mk 1 rfl rfl) rfl ?_
  show z_W 998 145 27 [(0, .ref 39), (1, .int (45 : Int32))] [] m _
  refine w_p h_m145 1 (pc' := 28) (L' := [(0, .ref 39), (1, .int (45 : Int32))]) (st' := [.ref 39]) rfl ?_
  refine w_gf H (pc' := 31) (L' := [(0, .ref 39), (1, .int (45 : Int32))]) h_m145 (z_at.mk 3 rfl rfl) rfl (u := .ref 106) rfl rfl rfl ?_
  refine w_gf H (pc' := 34) (L' := [(0, .ref 39), (1, .int (45 : Int32))]) h_m145 (z_at.mk 3 rfl rfl) rfl (u := .ref 107) rfl rfl rfl ?_
  refine w_p h_m145 2 (pc' := 36) (L' := [(0, .ref 39), (1, .int (45 : Int32))]) (st' := [.int (45 : Int32), .int (1 : Int32), .ref 107]) rfl ?_
  refine w_cv (H.t rfl) (pc' := 39) (L' := [(0, .ref 39), (1, .int (45 : Int32))]) (rest := []) (Ps := [.int (1 : Int32), .int (45 : Int32)]) (L0 := [(0, .ref 107), (1, .int (1 : Int32)), (2, .int (45 : Int32))]) h_m145 (z_at.mk 3 rfl rfl) (Or.inl ⟨rfl, rfl⟩) rfl rfl (by decide) (by decide) rfl rfl rfl rfl rfl rfl (by decide) rfl rfl rfl ?_
  refine w_p h_m73 6 (pc' := 11) (L' := [(0, .ref 107), (1, .int (1 : Int32)), (2, .int (45 : Int32))]) (st' := [.ref 107]) rfl ?_
  refine w_gf H (pc' := 14) (L' := [(0, .ref 107), (1, .int (1 : Int32)), (2, .int (45 : Int32))]) h_m73 (z_at.mk 3 rfl rfl) rfl (u := .ref 108) rfl rfl rfl ?_
  refine w_p h_m73 2 (pc' := 16) (L' := [(0, .ref 107), (1, .int (1 : Int32)), (2, .int (45 : Int32))]) (st' := [.int (45 : Int32), .int (1 : Int32), .ref 108]) rfl ?_
  refine w_as H (t := 0) (j := 1) (u := .int (45 : Int32)) (0, 7, [(1, .int (45 : Int32)), (6, .int (1024 : Int32)), (5, .int (1 : Int32)), (4, .int (1 : Int32)), (3, .int (0 : Int32)), (2, .int (12 : Int32)), (0, .int (10 : Int32))], some (.int (0 : Int32))) (pc' := 17) (L' := []) h_m73 (z_at.mk 1 rfl rfl) rfl rfl (w_ui _ _ (by decide)) rfl rfl rfl rfl ?_
  clear H m; intro m H
  refine w_rv h_m73 (z_at.mk 1 rfl rfl) rfl ?_
  show z_W 998 145 39 [(0, .ref 39), (1, .int (45 : Int32))] [] m _
  refine w_p h_m145 4 (pc' := 43) (L' := [(0, .ref 39), (2, .int (0 : Int32))]) (st' := [.ref 39, .int (0 : Int32)]) rfl ?_
  refine w_gf H (pc' := 46) (L' := [(0, .ref 39), (2, .int (0 : Int32))]) h_m145 (z_at.mk 3 rfl rfl) rfl (u := .ref 40) rfl rfl rfl ?_
  refine w_gf H (pc' := 49) (L' := [(0, .ref 39), (2, .int (0 : Int32))]) h_m145 (z_at.mk 3 rfl rfl) rfl (u := .ref 63) rfl rfl rfl ?_
  refine w_gf H (pc' := 52) (L' := [(0, .ref 39), (2, .int (0 : Int32))]) h_m145 (z_at.mk 3 rfl rfl) rfl (u := .int (0 : Int32)) rfl rfl rfl ?_
  refine w_p h_m145 1 (pc' := 79) (L' := [(0, .ref 39), (2, .int (0 : Int32))]) (st' := []) rfl ?_
  refine w_rv h_m145 (z_at.mk 1 rfl rfl) rfl ?_
  show z_W 999 146 13 [(0, .ref 39), (1, .int (xs 1)), (2, .int (45 : Int32))] [] m _
  refine w_p h_m146 1 (pc' := 14) (L' := [(0, .ref 39), (1, .int (xs 1)), (2, .int (45 : Int32))]) (st' := [.ref 39]) rfl ?_
  refine w_gf H (pc' := 17) (L' := [(0, .ref 39), (1, .int (xs 1)), (2, .int (45 : Int32))]) h_m146 (z_at.mk 3 rfl rfl) rfl (u := .ref 106) rfl rfl rfl ?_
  refine w_gf H (pc' := 20) (L' := [(0, .ref 39), (1, .int (xs 1)), (2, .int (45 : Int32))]) h_m146 (z_at.mk 3 rfl rfl) rfl (u := .int (0 : Int32)) rfl rfl rfl ?_
  refine w_p h_m146 1 (pc' := 21) (L' := [(0, .ref 39), (1, .int (xs 1)), (2, .int (45 : Int32))]) (st' := [.int (xs 1), .int (0 : Int32)]) rfl ?_
  refine w_t2 (pc' := 26) (L' := [(0, .ref 39), (1, .int (xs 1)), (2, .int (45 : Int32))]) h_m146 (z_at.mk 3 rfl rfl) rfl (zc (a := 0) (b := (xs 1).toInt) rfl rfl (decide_eq_true (by omega))) rfl rfl ?_
  refine w_p h_m146 2 (pc' := 2) (L' := [(0, .ref 39), (1, .int (xs 1)), (2, .int (46 : Int32))]) (st' := []) rfl ?_
  exact hQ m (H.subC (by decide +kernel))
set_option maxHeartbeats 400000000 in
set_option maxRecDepth 20000 in
theorem w_turn_146_46 {xs : Nat → Int32} {m : zM} {Q : Option Value → zM → Prop} (hp : (xs 1).toInt < 0) (H : w_ok 6 xs 168 63950 ((106, (12, 18, [(15, .int (0 : Int32)), (14, .int (0 : Int32)), (13, .int (0 : Int32)), (12, .int (0 : Int32)), (11, .int (0 : Int32)), (10, .int (0 : Int32)), (9, .long (0 : Int64)), (8, .int (0 : Int32)), (2, .int (0 : Int32)), (0, .ref 41), (17, .ref 116), (16, .ref 114), (7, .ref 113), (6, .ref 112), (5, .ref 111), (4, .ref 110), (3, .ref 109), (1, .ref 107)], none)) :: (108, (0, 7, [(1, .int (45 : Int32)), (6, .int (1024 : Int32)), (5, .int (1 : Int32)), (4, .int (1 : Int32)), (3, .int (0 : Int32)), (2, .int (12 : Int32)), (0, .int (10 : Int32))], some (.int (0 : Int32)))) :: w_T0) m) (hQ : ∀ m, w_ok 6 xs 168 63950 ((106, (12, 18, [(15, .int (0 : Int32)), (14, .int (0 : Int32)), (13, .int (0 : Int32)), (12, .int (0 : Int32)), (11, .int (0 : Int32)), (10, .int (0 : Int32)), (9, .long (0 : Int64)), (8, .int (0 : Int32)), (2, .int (0 : Int32)), (0, .ref 41), (17, .ref 116), (16, .ref 114), (7, .ref 113), (6, .ref 112), (5, .ref 111), (4, .ref 110), (3, .ref 109), (1, .ref 107)], none)) :: (108, (0, 7, [(1, .int (46 : Int32)), (6, .int (1024 : Int32)), (5, .int (1 : Int32)), (4, .int (1 : Int32)), (3, .int (0 : Int32)), (2, .int (12 : Int32)), (0, .int (10 : Int32))], some (.int (0 : Int32)))) :: w_T0) m → z_W 999 146 2 [(0, .ref 39), (1, .int (xs 1)), (2, .int (47 : Int32))] [] m Q) : z_W 999 146 2 [(0, .ref 39), (1, .int (xs 1)), (2, .int (46 : Int32))] [] m Q := by
  refine w_p h_m146 5 (pc' := 10) (L' := [(0, .ref 39), (1, .int (xs 1)), (2, .int (46 : Int32))]) (st' := [.int (46 : Int32), .ref 39]) rfl ?_
  refine w_cv (H.t rfl) (pc' := 13) (L' := [(0, .ref 39), (1, .int (xs 1)), (2, .int (46 : Int32))]) (rest := []) (Ps := [.int (46 : Int32)]) (L0 := [(0, .ref 39), (1, .int (46 : Int32))]) h_m146 (z_at.mk 3 rfl rfl) (Or.inl ⟨rfl, rfl⟩) rfl rfl (by decide) (by decide) rfl rfl rfl rfl rfl rfl (by decide) rfl rfl rfl ?_
  refine w_p h_m145 1 (pc' := 1) (L' := [(0, .ref 39), (1, .int (46 : Int32))]) (st' := [.ref 39]) rfl ?_
  refine w_gf H (pc' := 4) (L' := [(0, .ref 39), (1, .int (46 : Int32))]) h_m145 (z_at.mk 3 rfl rfl) rfl (u := .ref 106) rfl rfl rfl ?_
  refine w_cv (H.t rfl) (pc' := 7) (L' := [(0, .ref 39), (1, .int (46 : Int32))]) (rest := []) (Ps := []) (L0 := [(0, .ref 106)]) h_m145 (z_at.mk 3 rfl rfl) (Or.inl ⟨rfl, rfl⟩) rfl rfl (by decide) (by decide) rfl rfl rfl rfl rfl rfl (by decide) rfl rfl rfl ?_
  refine w_p h_m20 2 (pc' := 2) (L' := [(0, .ref 106)]) (st' := [.int (0 : Int32), .ref 106]) rfl ?_
  refine w_pf H (12, 18, [(2, .int (0 : Int32)), (15, .int (0 : Int32)), (14, .int (0 : Int32)), (13, .int (0 : Int32)), (12, .int (0 : Int32)), (11, .int (0 : Int32)), (10, .int (0 : Int32)), (9, .long (0 : Int64)), (8, .int (0 : Int32)), (0, .ref 41), (17, .ref 116), (16, .ref 114), (7, .ref 113), (6, .ref 112), (5, .ref 111), (4, .ref 110), (3, .ref 109), (1, .ref 107)], none) (pc' := 5) (L' := [(0, .ref 106)]) h_m20 (z_at.mk 3 rfl rfl) rfl (by decide) rfl (Or.inl rfl) rfl rfl rfl ?_
  clear H m; intro m H
  refine w_p h_m20 2 (pc' := 7) (L' := [(0, .ref 106)]) (st' := [.int (0 : Int32), .ref 106]) rfl ?_
  refine w_pf H (12, 18, [(8, .int (0 : Int32)), (2, .int (0 : Int32)), (15, .int (0 : Int32)), (14, .int (0 : Int32)), (13, .int (0 : Int32)), (12, .int (0 : Int32)), (11, .int (0 : Int32)), (10, .int (0 : Int32)), (9, .long (0 : Int64)), (0, .ref 41), (17, .ref 116), (16, .ref 114), (7, .ref 113), (6, .ref 112), (5, .ref 111), (4, .ref 110), (3, .ref 109), (1, .ref 107)], none) (pc' := 10) (L' := [(0, .ref 106)]) h_m20 (z_at.mk 3 rfl rfl) rfl (by decide) rfl (Or.inl rfl) rfl rfl rfl ?_
  clear H m; intro m H
  refine w_p h_m20 2 (pc' := 12) (L' := [(0, .ref 106)]) (st' := [.long (0 : Int64), .ref 106]) rfl ?_
  refine w_pf H (12, 18, [(9, .long (0 : Int64)), (8, .int (0 : Int32)), (2, .int (0 : Int32)), (15, .int (0 : Int32)), (14, .int (0 : Int32)), (13, .int (0 : Int32)), (12, .int (0 : Int32)), (11, .int (0 : Int32)), (10, .int (0 : Int32)), (0, .ref 41), (17, .ref 116), (16, .ref 114), (7, .ref 113), (6, .ref 112), (5, .ref 111), (4, .ref 110), (3, .ref 109), (1, .ref 107)], none) (pc' := 15) (L' := [(0, .ref 106)]) h_m20 (z_at.mk 3 rfl rfl) rfl (by decide) rfl (Or.inl rfl) rfl rfl rfl ?_
  clear H m; intro m H
  refine w_p h_m20 2 (pc' := 17) (L' := [(0, .ref 106)]) (st' := [.int (0 : Int32), .ref 106]) rfl ?_
  refine w_pf H (12, 18, [(10, .int (0 : Int32)), (9, .long (0 : Int64)), (8, .int (0 : Int32)), (2, .int (0 : Int32)), (15, .int (0 : Int32)), (14, .int (0 : Int32)), (13, .int (0 : Int32)), (12, .int (0 : Int32)), (11, .int (0 : Int32)), (0, .ref 41), (17, .ref 116), (16, .ref 114), (7, .ref 113), (6, .ref 112), (5, .ref 111), (4, .ref 110), (3, .ref 109), (1, .ref 107)], none) (pc' := 20) (L' := [(0, .ref 106)]) h_m20 (z_at.mk 3 rfl rfl) rfl (by decide) rfl (Or.inl rfl) rfl rfl rfl ?_
  clear H m; intro m H
  refine w_p h_m20 2 (pc' := 22) (L' := [(0, .ref 106)]) (st' := [.int (0 : Int32), .ref 106]) rfl ?_
  refine w_pf H (12, 18, [(11, .int (0 : Int32)), (10, .int (0 : Int32)), (9, .long (0 : Int64)), (8, .int (0 : Int32)), (2, .int (0 : Int32)), (15, .int (0 : Int32)), (14, .int (0 : Int32)), (13, .int (0 : Int32)), (12, .int (0 : Int32)), (0, .ref 41), (17, .ref 116), (16, .ref 114), (7, .ref 113), (6, .ref 112), (5, .ref 111), (4, .ref 110), (3, .ref 109), (1, .ref 107)], none) (pc' := 25) (L' := [(0, .ref 106)]) h_m20 (z_at.mk 3 rfl rfl) rfl (by decide) rfl (Or.inl rfl) rfl rfl rfl ?_
  clear H m; intro m H
  refine w_p h_m20 2 (pc' := 27) (L' := [(0, .ref 106)]) (st' := [.int (0 : Int32), .ref 106]) rfl ?_
  refine w_pf H (12, 18, [(12, .int (0 : Int32)), (11, .int (0 : Int32)), (10, .int (0 : Int32)), (9, .long (0 : Int64)), (8, .int (0 : Int32)), (2, .int (0 : Int32)), (15, .int (0 : Int32)), (14, .int (0 : Int32)), (13, .int (0 : Int32)), (0, .ref 41), (17, .ref 116), (16, .ref 114), (7, .ref 113), (6, .ref 112), (5, .ref 111), (4, .ref 110), (3, .ref 109), (1, .ref 107)], none) (pc' := 30) (L' := [(0, .ref 106)]) h_m20 (z_at.mk 3 rfl rfl) rfl (by decide) rfl (Or.inl rfl) rfl rfl rfl ?_
  clear H m; intro m H
  refine w_p h_m20 2 (pc' := 32) (L' := [(0, .ref 106)]) (st' := [.int (0 : Int32), .ref 106]) rfl ?_
  refine w_pf H (12, 18, [(13, .int (0 : Int32)), (12, .int (0 : Int32)), (11, .int (0 : Int32)), (10, .int (0 : Int32)), (9, .long (0 : Int64)), (8, .int (0 : Int32)), (2, .int (0 : Int32)), (15, .int (0 : Int32)), (14, .int (0 : Int32)), (0, .ref 41), (17, .ref 116), (16, .ref 114), (7, .ref 113), (6, .ref 112), (5, .ref 111), (4, .ref 110), (3, .ref 109), (1, .ref 107)], none) (pc' := 35) (L' := [(0, .ref 106)]) h_m20 (z_at.mk 3 rfl rfl) rfl (by decide) rfl (Or.inl rfl) rfl rfl rfl ?_
  clear H m; intro m H
  refine w_p h_m20 2 (pc' := 37) (L' := [(0, .ref 106)]) (st' := [.int (0 : Int32), .ref 106]) rfl ?_
  refine w_pf H (12, 18, [(14, .int (0 : Int32)), (13, .int (0 : Int32)), (12, .int (0 : Int32)), (11, .int (0 : Int32)), (10, .int (0 : Int32)), (9, .long (0 : Int64)), (8, .int (0 : Int32)), (2, .int (0 : Int32)), (15, .int (0 : Int32)), (0, .ref 41), (17, .ref 116), (16, .ref 114), (7, .ref 113), (6, .ref 112), (5, .ref 111), (4, .ref 110), (3, .ref 109), (1, .ref 107)], none) (pc' := 40) (L' := [(0, .ref 106)]) h_m20 (z_at.mk 3 rfl rfl) rfl (by decide) rfl (Or.inl rfl) rfl rfl rfl ?_
  clear H m; intro m H
  refine w_p h_m20 2 (pc' := 42) (L' := [(0, .ref 106)]) (st' := [.int (0 : Int32), .ref 106]) rfl ?_
  refine w_pf H (12, 18, [(15, .int (0 : Int32)), (14, .int (0 : Int32)), (13, .int (0 : Int32)), (12, .int (0 : Int32)), (11, .int (0 : Int32)), (10, .int (0 : Int32)), (9, .long (0 : Int64)), (8, .int (0 : Int32)), (2, .int (0 : Int32)), (0, .ref 41), (17, .ref 116), (16, .ref 114), (7, .ref 113), (6, .ref 112), (5, .ref 111), (4, .ref 110), (3, .ref 109), (1, .ref 107)], none) (pc' := 45) (L' := [(0, .ref 106)]) h_m20 (z_at.mk 3 rfl rfl) rfl (by decide) rfl (Or.inl rfl) rfl rfl rfl ?_
  clear H m; intro m H
  refine w_rv h_m20 (z_at.mk 1 rfl rfl) rfl ?_
  show z_W 998 145 7 [(0, .ref 39), (1, .int (46 : Int32))] [] m _
  refine w_p h_m145 1 (pc' := 8) (L' := [(0, .ref 39), (1, .int (46 : Int32))]) (st' := [.ref 39]) rfl ?_
  refine w_gf H (pc' := 11) (L' := [(0, .ref 39), (1, .int (46 : Int32))]) h_m145 (z_at.mk 3 rfl rfl) rfl (u := .ref 106) rfl rfl rfl ?_
  refine w_gf H (pc' := 14) (L' := [(0, .ref 39), (1, .int (46 : Int32))]) h_m145 (z_at.mk 3 rfl rfl) rfl (u := .ref 107) rfl rfl rfl ?_
  refine w_p h_m145 1 (pc' := 15) (L' := [(0, .ref 39), (1, .int (46 : Int32))]) (st' := [.ref 39, .ref 107]) rfl ?_
  refine w_gf H (pc' := 18) (L' := [(0, .ref 39), (1, .int (46 : Int32))]) h_m145 (z_at.mk 3 rfl rfl) rfl (u := .ref 40) rfl rfl rfl ?_
  refine w_gf H (pc' := 21) (L' := [(0, .ref 39), (1, .int (46 : Int32))]) h_m145 (z_at.mk 3 rfl rfl) rfl (u := .ref 48) rfl rfl rfl ?_
  refine w_gf H (pc' := 24) (L' := [(0, .ref 39), (1, .int (46 : Int32))]) h_m145 (z_at.mk 3 rfl rfl) rfl (u := .ref 49) rfl rfl rfl ?_
  refine w_cv (H.t rfl) (pc' := 27) (L' := [(0, .ref 39), (1, .int (46 : Int32))]) (rest := []) (Ps := [.ref 49]) (L0 := [(0, .ref 107), (1, .ref 49)]) h_m145 (z_at.mk 3 rfl rfl) (Or.inl ⟨rfl, rfl⟩) rfl rfl (by decide) (by decide) rfl rfl rfl rfl rfl rfl (by decide) rfl rfl rfl ?_
  refine w_p h_m74 1 (pc' := 1) (L' := [(0, .ref 107), (1, .ref 49)]) (st' := [.ref 49]) rfl ?_
  refine w_gf H (pc' := 4) (L' := [(0, .ref 107), (1, .ref 49)]) h_m74 (z_at.mk 3 rfl rfl) rfl (u := .ref 50) rfl rfl rfl ?_
  refine w_p h_m74 2 (pc' := 6) (L' := [(0, .ref 107), (1, .ref 49)]) (st' := [.ref 107, .int (0 : Int32), .ref 50]) rfl ?_
  refine w_gf H (pc' := 9) (L' := [(0, .ref 107), (1, .ref 49)]) h_m74 (z_at.mk 3 rfl rfl) rfl (u := .ref 108) rfl rfl rfl ?_
  refine w_p h_m74 2 (pc' := 12) (L' := [(0, .ref 107), (1, .ref 49)]) (st' := [.int (7 : Int32), .int (0 : Int32), .ref 108, .int (0 : Int32), .ref 50]) rfl ?_
  refine w_cpf H (ra := (0, 7, [(6, .int (1024 : Int32)), (5, .int (1 : Int32)), (4, .int (1 : Int32)), (3, .int (0 : Int32)), (2, .int (12 : Int32)), (1, .int (40 : Int32)), (0, .int (10 : Int32))], some (.int (0 : Int32)))) (pc' := 15) (L' := [(0, .ref 107), (1, .ref 49)]) h_m74 (z_at.mk 3 rfl rfl) rfl (z_cat_le 0 rfl (by decide)) rfl rfl rfl rfl (by decide) rfl rfl ?_
  clear H m; intro m H
  refine w_rv h_m74 (z_at.mk 1 rfl rfl) rfl ?_
  show z_W 998 145 27 [(0, .ref 39), (1, .int (46 : Int32))] [] m _
  refine w_p h_m145 1 (pc' := 28) (L' := [(0, .ref 39), (1, .int (46 : Int32))]) (st' := [.ref 39]) rfl ?_
  refine w_gf H (pc' := 31) (L' := [(0, .ref 39), (1, .int (46 : Int32))]) h_m145 (z_at.mk 3 rfl rfl) rfl (u := .ref 106) rfl rfl rfl ?_
  refine w_gf H (pc' := 34) (L' := [(0, .ref 39), (1, .int (46 : Int32))]) h_m145 (z_at.mk 3 rfl rfl) rfl (u := .ref 107) rfl rfl rfl ?_
  refine w_p h_m145 2 (pc' := 36) (L' := [(0, .ref 39), (1, .int (46 : Int32))]) (st' := [.int (46 : Int32), .int (1 : Int32), .ref 107]) rfl ?_
  refine w_cv (H.t rfl) (pc' := 39) (L' := [(0, .ref 39), (1, .int (46 : Int32))]) (rest := []) (Ps := [.int (1 : Int32), .int (46 : Int32)]) (L0 := [(0, .ref 107), (1, .int (1 : Int32)), (2, .int (46 : Int32))]) h_m145 (z_at.mk 3 rfl rfl) (Or.inl ⟨rfl, rfl⟩) rfl rfl (by decide) (by decide) rfl rfl rfl rfl rfl rfl (by decide) rfl rfl rfl ?_
  refine w_p h_m73 6 (pc' := 11) (L' := [(0, .ref 107), (1, .int (1 : Int32)), (2, .int (46 : Int32))]) (st' := [.ref 107]) rfl ?_
  refine w_gf H (pc' := 14) (L' := [(0, .ref 107), (1, .int (1 : Int32)), (2, .int (46 : Int32))]) h_m73 (z_at.mk 3 rfl rfl) rfl (u := .ref 108) rfl rfl rfl ?_
  refine w_p h_m73 2 (pc' := 16) (L' := [(0, .ref 107), (1, .int (1 : Int32)), (2, .int (46 : Int32))]) (st' := [.int (46 : Int32), .int (1 : Int32), .ref 108]) rfl ?_
  refine w_as H (t := 0) (j := 1) (u := .int (46 : Int32)) (0, 7, [(1, .int (46 : Int32)), (6, .int (1024 : Int32)), (5, .int (1 : Int32)), (4, .int (1 : Int32)), (3, .int (0 : Int32)), (2, .int (12 : Int32)), (0, .int (10 : Int32))], some (.int (0 : Int32))) (pc' := 17) (L' := []) h_m73 (z_at.mk 1 rfl rfl) rfl rfl (w_ui _ _ (by decide)) rfl rfl rfl rfl ?_
  clear H m; intro m H
  refine w_rv h_m73 (z_at.mk 1 rfl rfl) rfl ?_
  show z_W 998 145 39 [(0, .ref 39), (1, .int (46 : Int32))] [] m _
  refine w_p h_m145 4 (pc' := 43) (L' := [(0, .ref 39), (2, .int (0 : Int32))]) (st' := [.ref 39, .int (0 : Int32)]) rfl ?_
  refine w_gf H (pc' := 46) (L' := [(0, .ref 39), (2, .int (0 : Int32))]) h_m145 (z_at.mk 3 rfl rfl) rfl (u := .ref 40) rfl rfl rfl ?_
  refine w_gf H (pc' := 49) (L' := [(0, .ref 39), (2, .int (0 : Int32))]) h_m145 (z_at.mk 3 rfl rfl) rfl (u := .ref 63) rfl rfl rfl ?_
  refine w_gf H (pc' := 52) (L' := [(0, .ref 39), (2, .int (0 : Int32))]) h_m145 (z_at.mk 3 rfl rfl) rfl (u := .int (0 : Int32)) rfl rfl rfl ?_
  refine w_p h_m145 1 (pc' := 79) (L' := [(0, .ref 39), (2, .int (0 : Int32))]) (st' := []) rfl ?_
  refine w_rv h_m145 (z_at.mk 1 rfl rfl) rfl ?_
  show z_W 999 146 13 [(0, .ref 39), (1, .int (xs 1)), (2, .int (46 : Int32))] [] m _
  refine w_p h_m146 1 (pc' := 14) (L' := [(0, .ref 39), (1, .int (xs 1)), (2, .int (46 : Int32))]) (st' := [.ref 39]) rfl ?_
  refine w_gf H (pc' := 17) (L' := [(0, .ref 39), (1, .int (xs 1)), (2, .int (46 : Int32))]) h_m146 (z_at.mk 3 rfl rfl) rfl (u := .ref 106) rfl rfl rfl ?_
  refine w_gf H (pc' := 20) (L' := [(0, .ref 39), (1, .int (xs 1)), (2, .int (46 : Int32))]) h_m146 (z_at.mk 3 rfl rfl) rfl (u := .int (0 : Int32)) rfl rfl rfl ?_
  refine w_p h_m146 1 (pc' := 21) (L' := [(0, .ref 39), (1, .int (xs 1)), (2, .int (46 : Int32))]) (st' := [.int (xs 1), .int (0 : Int32)]) rfl ?_
  refine w_t2 (pc' := 26) (L' := [(0, .ref 39), (1, .int (xs 1)), (2, .int (46 : Int32))]) h_m146 (z_at.mk 3 rfl rfl) rfl (zc (a := 0) (b := (xs 1).toInt) rfl rfl (decide_eq_true (by omega))) rfl rfl ?_
  refine w_p h_m146 2 (pc' := 2) (L' := [(0, .ref 39), (1, .int (xs 1)), (2, .int (47 : Int32))]) (st' := []) rfl ?_
  exact hQ m (H.subC (by decide +kernel))
set_option maxHeartbeats 400000000 in
set_option maxRecDepth 20000 in
theorem w_turn_146_47 {xs : Nat → Int32} {m : zM} {Q : Option Value → zM → Prop} (hp : (xs 1).toInt < 0) (H : w_ok 6 xs 168 63950 ((106, (12, 18, [(15, .int (0 : Int32)), (14, .int (0 : Int32)), (13, .int (0 : Int32)), (12, .int (0 : Int32)), (11, .int (0 : Int32)), (10, .int (0 : Int32)), (9, .long (0 : Int64)), (8, .int (0 : Int32)), (2, .int (0 : Int32)), (0, .ref 41), (17, .ref 116), (16, .ref 114), (7, .ref 113), (6, .ref 112), (5, .ref 111), (4, .ref 110), (3, .ref 109), (1, .ref 107)], none)) :: (108, (0, 7, [(1, .int (46 : Int32)), (6, .int (1024 : Int32)), (5, .int (1 : Int32)), (4, .int (1 : Int32)), (3, .int (0 : Int32)), (2, .int (12 : Int32)), (0, .int (10 : Int32))], some (.int (0 : Int32)))) :: w_T0) m) (hQ : ∀ m, w_ok 6 xs 168 63950 ((106, (12, 18, [(15, .int (0 : Int32)), (14, .int (0 : Int32)), (13, .int (0 : Int32)), (12, .int (0 : Int32)), (11, .int (0 : Int32)), (10, .int (0 : Int32)), (9, .long (0 : Int64)), (8, .int (0 : Int32)), (2, .int (0 : Int32)), (0, .ref 41), (17, .ref 116), (16, .ref 114), (7, .ref 113), (6, .ref 112), (5, .ref 111), (4, .ref 110), (3, .ref 109), (1, .ref 107)], none)) :: (108, (0, 7, [(1, .int (47 : Int32)), (6, .int (1024 : Int32)), (5, .int (1 : Int32)), (4, .int (1 : Int32)), (3, .int (0 : Int32)), (2, .int (12 : Int32)), (0, .int (10 : Int32))], some (.int (0 : Int32)))) :: w_T0) m → z_W 999 146 2 [(0, .ref 39), (1, .int (xs 1)), (2, .int (48 : Int32))] [] m Q) : z_W 999 146 2 [(0, .ref 39), (1, .int (xs 1)), (2, .int (47 : Int32))] [] m Q := by
  refine w_p h_m146 5 (pc' := 10) (L' := [(0, .ref 39), (1, .int (xs 1)), (2, .int (47 : Int32))]) (st' := [.int (47 : Int32), .ref 39]) rfl ?_
  refine w_cv (H.t rfl) (pc' := 13) (L' := [(0, .ref 39), (1, .int (xs 1)), (2, .int (47 : Int32))]) (rest := []) (Ps := [.int (47 : Int32)]) (L0 := [(0, .ref 39), (1, .int (47 : Int32))]) h_m146 (z_at.mk 3 rfl rfl) (Or.inl ⟨rfl, rfl⟩) rfl rfl (by decide) (by decide) rfl rfl rfl rfl rfl rfl (by decide) rfl rfl rfl ?_
  refine w_p h_m145 1 (pc' := 1) (L' := [(0, .ref 39), (1, .int (47 : Int32))]) (st' := [.ref 39]) rfl ?_
  refine w_gf H (pc' := 4) (L' := [(0, .ref 39), (1, .int (47 : Int32))]) h_m145 (z_at.mk 3 rfl rfl) rfl (u := .ref 106) rfl rfl rfl ?_
  refine w_cv (H.t rfl) (pc' := 7) (L' := [(0, .ref 39), (1, .int (47 : Int32))]) (rest := []) (Ps := []) (L0 := [(0, .ref 106)]) h_m145 (z_at.mk 3 rfl rfl) (Or.inl ⟨rfl, rfl⟩) rfl rfl (by decide) (by decide) rfl rfl rfl rfl rfl rfl (by decide) rfl rfl rfl ?_
  refine w_p h_m20 2 (pc' := 2) (L' := [(0, .ref 106)]) (st' := [.int (0 : Int32), .ref 106]) rfl ?_
  refine w_pf H (12, 18, [(2, .int (0 : Int32)), (15, .int (0 : Int32)), (14, .int (0 : Int32)), (13, .int (0 : Int32)), (12, .int (0 : Int32)), (11, .int (0 : Int32)), (10, .int (0 : Int32)), (9, .long (0 : Int64)), (8, .int (0 : Int32)), (0, .ref 41), (17, .ref 116), (16, .ref 114), (7, .ref 113), (6, .ref 112), (5, .ref 111), (4, .ref 110), (3, .ref 109), (1, .ref 107)], none) (pc' := 5) (L' := [(0, .ref 106)]) h_m20 (z_at.mk 3 rfl rfl) rfl (by decide) rfl (Or.inl rfl) rfl rfl rfl ?_
  clear H m; intro m H
  refine w_p h_m20 2 (pc' := 7) (L' := [(0, .ref 106)]) (st' := [.int (0 : Int32), .ref 106]) rfl ?_
  refine w_pf H (12, 18, [(8, .int (0 : Int32)), (2, .int (0 : Int32)), (15, .int (0 : Int32)), (14, .int (0 : Int32)), (13, .int (0 : Int32)), (12, .int (0 : Int32)), (11, .int (0 : Int32)), (10, .int (0 : Int32)), (9, .long (0 : Int64)), (0, .ref 41), (17, .ref 116), (16, .ref 114), (7, .ref 113), (6, .ref 112), (5, .ref 111), (4, .ref 110), (3, .ref 109), (1, .ref 107)], none) (pc' := 10) (L' := [(0, .ref 106)]) h_m20 (z_at.mk 3 rfl rfl) rfl (by decide) rfl (Or.inl rfl) rfl rfl rfl ?_
  clear H m; intro m H
  refine w_p h_m20 2 (pc' := 12) (L' := [(0, .ref 106)]) (st' := [.long (0 : Int64), .ref 106]) rfl ?_
  refine w_pf H (12, 18, [(9, .long (0 : Int64)), (8, .int (0 : Int32)), (2, .int (0 : Int32)), (15, .int (0 : Int32)), (14, .int (0 : Int32)), (13, .int (0 : Int32)), (12, .int (0 : Int32)), (11, .int (0 : Int32)), (10, .int (0 : Int32)), (0, .ref 41), (17, .ref 116), (16, .ref 114), (7, .ref 113), (6, .ref 112), (5, .ref 111), (4, .ref 110), (3, .ref 109), (1, .ref 107)], none) (pc' := 15) (L' := [(0, .ref 106)]) h_m20 (z_at.mk 3 rfl rfl) rfl (by decide) rfl (Or.inl rfl) rfl rfl rfl ?_
  clear H m; intro m H
  refine w_p h_m20 2 (pc' := 17) (L' := [(0, .ref 106)]) (st' := [.int (0 : Int32), .ref 106]) rfl ?_
  refine w_pf H (12, 18, [(10, .int (0 : Int32)), (9, .long (0 : Int64)), (8, .int (0 : Int32)), (2, .int (0 : Int32)), (15, .int (0 : Int32)), (14, .int (0 : Int32)), (13, .int (0 : Int32)), (12, .int (0 : Int32)), (11, .int (0 : Int32)), (0, .ref 41), (17, .ref 116), (16, .ref 114), (7, .ref 113), (6, .ref 112), (5, .ref 111), (4, .ref 110), (3, .ref 109), (1, .ref 107)], none) (pc' := 20) (L' := [(0, .ref 106)]) h_m20 (z_at.mk 3 rfl rfl) rfl (by decide) rfl (Or.inl rfl) rfl rfl rfl ?_
  clear H m; intro m H
  refine w_p h_m20 2 (pc' := 22) (L' := [(0, .ref 106)]) (st' := [.int (0 : Int32), .ref 106]) rfl ?_
  refine w_pf H (12, 18, [(11, .int (0 : Int32)), (10, .int (0 : Int32)), (9, .long (0 : Int64)), (8, .int (0 : Int32)), (2, .int (0 : Int32)), (15, .int (0 : Int32)), (14, .int (0 : Int32)), (13, .int (0 : Int32)), (12, .int (0 : Int32)), (0, .ref 41), (17, .ref 116), (16, .ref 114), (7, .ref 113), (6, .ref 112), (5, .ref 111), (4, .ref 110), (3, .ref 109), (1, .ref 107)], none) (pc' := 25) (L' := [(0, .ref 106)]) h_m20 (z_at.mk 3 rfl rfl) rfl (by decide) rfl (Or.inl rfl) rfl rfl rfl ?_
  clear H m; intro m H
  refine w_p h_m20 2 (pc' := 27) (L' := [(0, .ref 106)]) (st' := [.int (0 : Int32), .ref 106]) rfl ?_
  refine w_pf H (12, 18, [(12, .int (0 : Int32)), (11, .int (0 : Int32)), (10, .int (0 : Int32)), (9, .long (0 : Int64)), (8, .int (0 : Int32)), (2, .int (0 : Int32)), (15, .int (0 : Int32)), (14, .int (0 : Int32)), (13, .int (0 : Int32)), (0, .ref 41), (17, .ref 116), (16, .ref 114), (7, .ref 113), (6, .ref 112), (5, .ref 111), (4, .ref 110), (3, .ref 109), (1, .ref 107)], none) (pc' := 30) (L' := [(0, .ref 106)]) h_m20 (z_at.mk 3 rfl rfl) rfl (by decide) rfl (Or.inl rfl) rfl rfl rfl ?_
  clear H m; intro m H
  refine w_p h_m20 2 (pc' := 32) (L' := [(0, .ref 106)]) (st' := [.int (0 : Int32), .ref 106]) rfl ?_
  refine w_pf H (12, 18, [(13, .int (0 : Int32)), (12, .int (0 : Int32)), (11, .int (0 : Int32)), (10, .int (0 : Int32)), (9, .long (0 : Int64)), (8, .int (0 : Int32)), (2, .int (0 : Int32)), (15, .int (0 : Int32)), (14, .int (0 : Int32)), (0, .ref 41), (17, .ref 116), (16, .ref 114), (7, .ref 113), (6, .ref 112), (5, .ref 111), (4, .ref 110), (3, .ref 109), (1, .ref 107)], none) (pc' := 35) (L' := [(0, .ref 106)]) h_m20 (z_at.mk 3 rfl rfl) rfl (by decide) rfl (Or.inl rfl) rfl rfl rfl ?_
  clear H m; intro m H
  refine w_p h_m20 2 (pc' := 37) (L' := [(0, .ref 106)]) (st' := [.int (0 : Int32), .ref 106]) rfl ?_
  refine w_pf H (12, 18, [(14, .int (0 : Int32)), (13, .int (0 : Int32)), (12, .int (0 : Int32)), (11, .int (0 : Int32)), (10, .int (0 : Int32)), (9, .long (0 : Int64)), (8, .int (0 : Int32)), (2, .int (0 : Int32)), (15, .int (0 : Int32)), (0, .ref 41), (17, .ref 116), (16, .ref 114), (7, .ref 113), (6, .ref 112), (5, .ref 111), (4, .ref 110), (3, .ref 109), (1, .ref 107)], none) (pc' := 40) (L' := [(0, .ref 106)]) h_m20 (z_at.mk 3 rfl rfl) rfl (by decide) rfl (Or.inl rfl) rfl rfl rfl ?_
  clear H m; intro m H
  refine w_p h_m20 2 (pc' := 42) (L' := [(0, .ref 106)]) (st' := [.int (0 : Int32), .ref 106]) rfl ?_
  refine w_pf H (12, 18, [(15, .int (0 : Int32)), (14, .int (0 : Int32)), (13, .int (0 : Int32)), (12, .int (0 : Int32)), (11, .int (0 : Int32)), (10, .int (0 : Int32)), (9, .long (0 : Int64)), (8, .int (0 : Int32)), (2, .int (0 : Int32)), (0, .ref 41), (17, .ref 116), (16, .ref 114), (7, .ref 113), (6, .ref 112), (5, .ref 111), (4, .ref 110), (3, .ref 109), (1, .ref 107)], none) (pc' := 45) (L' := [(0, .ref 106)]) h_m20 (z_at.mk 3 rfl rfl) rfl (by decide) rfl (Or.inl rfl) rfl rfl rfl ?_
  clear H m; intro m H
  refine w_rv h_m20 (z_at.mk 1 rfl rfl) rfl ?_
  show z_W 998 145 7 [(0, .ref 39), (1, .int (47 : Int32))] [] m _
  refine w_p h_m145 1 (pc' := 8) (L' := [(0, .ref 39), (1, .int (47 : Int32))]) (st' := [.ref 39]) rfl ?_
  refine w_gf H (pc' := 11) (L' := [(0, .ref 39), (1, .int (47 : Int32))]) h_m145 (z_at.mk 3 rfl rfl) rfl (u := .ref 106) rfl rfl rfl ?_
  refine w_gf H (pc' := 14) (L' := [(0, .ref 39), (1, .int (47 : Int32))]) h_m145 (z_at.mk 3 rfl rfl) rfl (u := .ref 107) rfl rfl rfl ?_
  refine w_p h_m145 1 (pc' := 15) (L' := [(0, .ref 39), (1, .int (47 : Int32))]) (st' := [.ref 39, .ref 107]) rfl ?_
  refine w_gf H (pc' := 18) (L' := [(0, .ref 39), (1, .int (47 : Int32))]) h_m145 (z_at.mk 3 rfl rfl) rfl (u := .ref 40) rfl rfl rfl ?_
  refine w_gf H (pc' := 21) (L' := [(0, .ref 39), (1, .int (47 : Int32))]) h_m145 (z_at.mk 3 rfl rfl) rfl (u := .ref 48) rfl rfl rfl ?_
  refine w_gf H (pc' := 24) (L' := [(0, .ref 39), (1, .int (47 : Int32))]) h_m145 (z_at.mk 3 rfl rfl) rfl (u := .ref 49) rfl rfl rfl ?_
  refine w_cv (H.t rfl) (pc' := 27) (L' := [(0, .ref 39), (1, .int (47 : Int32))]) (rest := []) (Ps := [.ref 49]) (L0 := [(0, .ref 107), (1, .ref 49)]) h_m145 (z_at.mk 3 rfl rfl) (Or.inl ⟨rfl, rfl⟩) rfl rfl (by decide) (by decide) rfl rfl rfl rfl rfl rfl (by decide) rfl rfl rfl ?_
  refine w_p h_m74 1 (pc' := 1) (L' := [(0, .ref 107), (1, .ref 49)]) (st' := [.ref 49]) rfl ?_
  refine w_gf H (pc' := 4) (L' := [(0, .ref 107), (1, .ref 49)]) h_m74 (z_at.mk 3 rfl rfl) rfl (u := .ref 50) rfl rfl rfl ?_
  refine w_p h_m74 2 (pc' := 6) (L' := [(0, .ref 107), (1, .ref 49)]) (st' := [.ref 107, .int (0 : Int32), .ref 50]) rfl ?_
  refine w_gf H (pc' := 9) (L' := [(0, .ref 107), (1, .ref 49)]) h_m74 (z_at.mk 3 rfl rfl) rfl (u := .ref 108) rfl rfl rfl ?_
  refine w_p h_m74 2 (pc' := 12) (L' := [(0, .ref 107), (1, .ref 49)]) (st' := [.int (7 : Int32), .int (0 : Int32), .ref 108, .int (0 : Int32), .ref 50]) rfl ?_
  refine w_cpf H (ra := (0, 7, [(6, .int (1024 : Int32)), (5, .int (1 : Int32)), (4, .int (1 : Int32)), (3, .int (0 : Int32)), (2, .int (12 : Int32)), (1, .int (40 : Int32)), (0, .int (10 : Int32))], some (.int (0 : Int32)))) (pc' := 15) (L' := [(0, .ref 107), (1, .ref 49)]) h_m74 (z_at.mk 3 rfl rfl) rfl (z_cat_le 0 rfl (by decide)) rfl rfl rfl rfl (by decide) rfl rfl ?_
  clear H m; intro m H
  refine w_rv h_m74 (z_at.mk 1 rfl rfl) rfl ?_
  show z_W 998 145 27 [(0, .ref 39), (1, .int (47 : Int32))] [] m _
  refine w_p h_m145 1 (pc' := 28) (L' := [(0, .ref 39), (1, .int (47 : Int32))]) (st' := [.ref 39]) rfl ?_
  refine w_gf H (pc' := 31) (L' := [(0, .ref 39), (1, .int (47 : Int32))]) h_m145 (z_at.mk 3 rfl rfl) rfl (u := .ref 106) rfl rfl rfl ?_
  refine w_gf H (pc' := 34) (L' := [(0, .ref 39), (1, .int (47 : Int32))]) h_m145 (z_at.mk 3 rfl rfl) rfl (u := .ref 107) rfl rfl rfl ?_
  refine w_p h_m145 2 (pc' := 36) (L' := [(0, .ref 39), (1, .int (47 : Int32))]) (st' := [.int (47 : Int32), .int (1 : Int32), .ref 107]) rfl ?_
  refine w_cv (H.t rfl) (pc' := 39) (L' := [(0, .ref 39), (1, .int (47 : Int32))]) (rest := []) (Ps := [.int (1 : Int32), .int (47 : Int32)]) (L0 := [(0, .ref 107), (1, .int (1 : Int32)), (2, .int (47 : Int32))]) h_m145 (z_at.mk 3 rfl rfl) (Or.inl ⟨rfl, rfl⟩) rfl rfl (by decide) (by decide) rfl rfl rfl rfl rfl rfl (by decide) rfl rfl rfl ?_
  refine w_p h_m73 6 (pc' := 11) (L' := [(0, .ref 107), (1, .int (1 : Int32)), (2, .int (47 : Int32))]) (st' := [.ref 107]) rfl ?_
  refine w_gf H (pc' := 14) (L' := [(0, .ref 107), (1, .int (1 : Int32)), (2, .int (47 : Int32))]) h_m73 (z_at.mk 3 rfl rfl) rfl (u := .ref 108) rfl rfl rfl ?_
  refine w_p h_m73 2 (pc' := 16) (L' := [(0, .ref 107), (1, .int (1 : Int32)), (2, .int (47 : Int32))]) (st' := [.int (47 : Int32), .int (1 : Int32), .ref 108]) rfl ?_
  refine w_as H (t := 0) (j := 1) (u := .int (47 : Int32)) (0, 7, [(1, .int (47 : Int32)), (6, .int (1024 : Int32)), (5, .int (1 : Int32)), (4, .int (1 : Int32)), (3, .int (0 : Int32)), (2, .int (12 : Int32)), (0, .int (10 : Int32))], some (.int (0 : Int32))) (pc' := 17) (L' := []) h_m73 (z_at.mk 1 rfl rfl) rfl rfl (w_ui _ _ (by decide)) rfl rfl rfl rfl ?_
  clear H m; intro m H
  refine w_rv h_m73 (z_at.mk 1 rfl rfl) rfl ?_
  show z_W 998 145 39 [(0, .ref 39), (1, .int (47 : Int32))] [] m _
  refine w_p h_m145 4 (pc' := 43) (L' := [(0, .ref 39), (2, .int (0 : Int32))]) (st' := [.ref 39, .int (0 : Int32)]) rfl ?_
  refine w_gf H (pc' := 46) (L' := [(0, .ref 39), (2, .int (0 : Int32))]) h_m145 (z_at.mk 3 rfl rfl) rfl (u := .ref 40) rfl rfl rfl ?_
  refine w_gf H (pc' := 49) (L' := [(0, .ref 39), (2, .int (0 : Int32))]) h_m145 (z_at.mk 3 rfl rfl) rfl (u := .ref 63) rfl rfl rfl ?_
  refine w_gf H (pc' := 52) (L' := [(0, .ref 39), (2, .int (0 : Int32))]) h_m145 (z_at.mk 3 rfl rfl) rfl (u := .int (0 : Int32)) rfl rfl rfl ?_
  refine w_p h_m145 1 (pc' := 79) (L' := [(0, .ref 39), (2, .int (0 : Int32))]) (st' := []) rfl ?_
  refine w_rv h_m145 (z_at.mk 1 rfl rfl) rfl ?_
  show z_W 999 146 13 [(0, .ref 39), (1, .int (xs 1)), (2, .int (47 : Int32))] [] m _
  refine w_p h_m146 1 (pc' := 14) (L' := [(0, .ref 39), (1, .int (xs 1)), (2, .int (47 : Int32))]) (st' := [.ref 39]) rfl ?_
  refine w_gf H (pc' := 17) (L' := [(0, .ref 39), (1, .int (xs 1)), (2, .int (47 : Int32))]) h_m146 (z_at.mk 3 rfl rfl) rfl (u := .ref 106) rfl rfl rfl ?_
  refine w_gf H (pc' := 20) (L' := [(0, .ref 39), (1, .int (xs 1)), (2, .int (47 : Int32))]) h_m146 (z_at.mk 3 rfl rfl) rfl (u := .int (0 : Int32)) rfl rfl rfl ?_
  refine w_p h_m146 1 (pc' := 21) (L' := [(0, .ref 39), (1, .int (xs 1)), (2, .int (47 : Int32))]) (st' := [.int (xs 1), .int (0 : Int32)]) rfl ?_
  refine w_t2 (pc' := 26) (L' := [(0, .ref 39), (1, .int (xs 1)), (2, .int (47 : Int32))]) h_m146 (z_at.mk 3 rfl rfl) rfl (zc (a := 0) (b := (xs 1).toInt) rfl rfl (decide_eq_true (by omega))) rfl rfl ?_
  refine w_p h_m146 2 (pc' := 2) (L' := [(0, .ref 39), (1, .int (xs 1)), (2, .int (48 : Int32))]) (st' := []) rfl ?_
  exact hQ m (H.subC (by decide +kernel))
set_option maxHeartbeats 400000000 in
set_option maxRecDepth 20000 in
theorem w_turn_146_48 {xs : Nat → Int32} {m : zM} {Q : Option Value → zM → Prop} (hp : (xs 1).toInt < 0) (H : w_ok 6 xs 168 63950 ((106, (12, 18, [(15, .int (0 : Int32)), (14, .int (0 : Int32)), (13, .int (0 : Int32)), (12, .int (0 : Int32)), (11, .int (0 : Int32)), (10, .int (0 : Int32)), (9, .long (0 : Int64)), (8, .int (0 : Int32)), (2, .int (0 : Int32)), (0, .ref 41), (17, .ref 116), (16, .ref 114), (7, .ref 113), (6, .ref 112), (5, .ref 111), (4, .ref 110), (3, .ref 109), (1, .ref 107)], none)) :: (108, (0, 7, [(1, .int (47 : Int32)), (6, .int (1024 : Int32)), (5, .int (1 : Int32)), (4, .int (1 : Int32)), (3, .int (0 : Int32)), (2, .int (12 : Int32)), (0, .int (10 : Int32))], some (.int (0 : Int32)))) :: w_T0) m) (hQ : ∀ m, w_ok 6 xs 168 63950 ((106, (12, 18, [(15, .int (0 : Int32)), (14, .int (0 : Int32)), (13, .int (0 : Int32)), (12, .int (0 : Int32)), (11, .int (0 : Int32)), (10, .int (0 : Int32)), (9, .long (0 : Int64)), (8, .int (0 : Int32)), (2, .int (0 : Int32)), (0, .ref 41), (17, .ref 116), (16, .ref 114), (7, .ref 113), (6, .ref 112), (5, .ref 111), (4, .ref 110), (3, .ref 109), (1, .ref 107)], none)) :: (108, (0, 7, [(1, .int (48 : Int32)), (6, .int (1024 : Int32)), (5, .int (1 : Int32)), (4, .int (1 : Int32)), (3, .int (0 : Int32)), (2, .int (12 : Int32)), (0, .int (10 : Int32))], some (.int (0 : Int32)))) :: w_T0) m → z_W 999 146 2 [(0, .ref 39), (1, .int (xs 1)), (2, .int (49 : Int32))] [] m Q) : z_W 999 146 2 [(0, .ref 39), (1, .int (xs 1)), (2, .int (48 : Int32))] [] m Q := by
  refine w_p h_m146 5 (pc' := 10) (L' := [(0, .ref 39), (1, .int (xs 1)), (2, .int (48 : Int32))]) (st' := [.int (48 : Int32), .ref 39]) rfl ?_
  refine w_cv (H.t rfl) (pc' := 13) (L' := [(0, .ref 39), (1, .int (xs 1)), (2, .int (48 : Int32))]) (rest := []) (Ps := [.int (48 : Int32)]) (L0 := [(0, .ref 39), (1, .int (48 : Int32))]) h_m146 (z_at.mk 3 rfl rfl) (Or.inl ⟨rfl, rfl⟩) rfl rfl (by decide) (by decide) rfl rfl rfl rfl rfl rfl (by decide) rfl rfl rfl ?_
  refine w_p h_m145 1 (pc' := 1) (L' := [(0, .ref 39), (1, .int (48 : Int32))]) (st' := [.ref 39]) rfl ?_
  refine w_gf H (pc' := 4) (L' := [(0, .ref 39), (1, .int (48 : Int32))]) h_m145 (z_at.mk 3 rfl rfl) rfl (u := .ref 106) rfl rfl rfl ?_
  refine w_cv (H.t rfl) (pc' := 7) (L' := [(0, .ref 39), (1, .int (48 : Int32))]) (rest := []) (Ps := []) (L0 := [(0, .ref 106)]) h_m145 (z_at.mk 3 rfl rfl) (Or.inl ⟨rfl, rfl⟩) rfl rfl (by decide) (by decide) rfl rfl rfl rfl rfl rfl (by decide) rfl rfl rfl ?_
  refine w_p h_m20 2 (pc' := 2) (L' := [(0, .ref 106)]) (st' := [.int (0 : Int32), .ref 106]) rfl ?_
  refine w_pf H (12, 18, [(2, .int (0 : Int32)), (15, .int (0 : Int32)), (14, .int (0 : Int32)), (13, .int (0 : Int32)), (12, .int (0 : Int32)), (11, .int (0 : Int32)), (10, .int (0 : Int32)), (9, .long (0 : Int64)), (8, .int (0 : Int32)), (0, .ref 41), (17, .ref 116), (16, .ref 114), (7, .ref 113), (6, .ref 112), (5, .ref 111), (4, .ref 110), (3, .ref 109), (1, .ref 107)], none) (pc' := 5) (L' := [(0, .ref 106)]) h_m20 (z_at.mk 3 rfl rfl) rfl (by decide) rfl (Or.inl rfl) rfl rfl rfl ?_
  clear H m; intro m H
  refine w_p h_m20 2 (pc' := 7) (L' := [(0, .ref 106)]) (st' := [.int (0 : Int32), .ref 106]) rfl ?_
  refine w_pf H (12, 18, [(8, .int (0 : Int32)), (2, .int (0 : Int32)), (15, .int (0 : Int32)), (14, .int (0 : Int32)), (13, .int (0 : Int32)), (12, .int (0 : Int32)), (11, .int (0 : Int32)), (10, .int (0 : Int32)), (9, .long (0 : Int64)), (0, .ref 41), (17, .ref 116), (16, .ref 114), (7, .ref 113), (6, .ref 112), (5, .ref 111), (4, .ref 110), (3, .ref 109), (1, .ref 107)], none) (pc' := 10) (L' := [(0, .ref 106)]) h_m20 (z_at.mk 3 rfl rfl) rfl (by decide) rfl (Or.inl rfl) rfl rfl rfl ?_
  clear H m; intro m H
  refine w_p h_m20 2 (pc' := 12) (L' := [(0, .ref 106)]) (st' := [.long (0 : Int64), .ref 106]) rfl ?_
  refine w_pf H (12, 18, [(9, .long (0 : Int64)), (8, .int (0 : Int32)), (2, .int (0 : Int32)), (15, .int (0 : Int32)), (14, .int (0 : Int32)), (13, .int (0 : Int32)), (12, .int (0 : Int32)), (11, .int (0 : Int32)), (10, .int (0 : Int32)), (0, .ref 41), (17, .ref 116), (16, .ref 114), (7, .ref 113), (6, .ref 112), (5, .ref 111), (4, .ref 110), (3, .ref 109), (1, .ref 107)], none) (pc' := 15) (L' := [(0, .ref 106)]) h_m20 (z_at.mk 3 rfl rfl) rfl (by decide) rfl (Or.inl rfl) rfl rfl rfl ?_
  clear H m; intro m H
  refine w_p h_m20 2 (pc' := 17) (L' := [(0, .ref 106)]) (st' := [.int (0 : Int32), .ref 106]) rfl ?_
  refine w_pf H (12, 18, [(10, .int (0 : Int32)), (9, .long (0 : Int64)), (8, .int (0 : Int32)), (2, .int (0 : Int32)), (15, .int (0 : Int32)), (14, .int (0 : Int32)), (13, .int (0 : Int32)), (12, .int (0 : Int32)), (11, .int (0 : Int32)), (0, .ref 41), (17, .ref 116), (16, .ref 114), (7, .ref 113), (6, .ref 112), (5, .ref 111), (4, .ref 110), (3, .ref 109), (1, .ref 107)], none) (pc' := 20) (L' := [(0, .ref 106)]) h_m20 (z_at.mk 3 rfl rfl) rfl (by decide) rfl (Or.inl rfl) rfl rfl rfl ?_
  clear H m; intro m H
  refine w_p h_m20 2 (pc' := 22) (L' := [(0, .ref 106)]) (st' := [.int (0 : Int32), .ref 106]) rfl ?_
  refine w_pf H (12, 18, [(11, .int (0 : Int32)), (10, .int (0 : Int32)), (9, .long (0 : Int64)), (8, .int (0 : Int32)), (2, .int (0 : Int32)), (15, .int (0 : Int32)), (14, .int (0 : Int32)), (13, .int (0 : Int32)), (12, .int (0 : Int32)), (0, .ref 41), (17, .ref 116), (16, .ref 114), (7, .ref 113), (6, .ref 112), (5, .ref 111), (4, .ref 110), (3, .ref 109), (1, .ref 107)], none) (pc' := 25) (L' := [(0, .ref 106)]) h_m20 (z_at.mk 3 rfl rfl) rfl (by decide) rfl (Or.inl rfl) rfl rfl rfl ?_
  clear H m; intro m H
  refine w_p h_m20 2 (pc' := 27) (L' := [(0, .ref 106)]) (st' := [.int (0 : Int32), .ref 106]) rfl ?_
  refine w_pf H (12, 18, [(12, .int (0 : Int32)), (11, .int (0 : Int32)), (10, .int (0 : Int32)), (9, .long (0 : Int64)), (8, .int (0 : Int32)), (2, .int (0 : Int32)), (15, .int (0 : Int32)), (14, .int (0 : Int32)), (13, .int (0 : Int32)), (0, .ref 41), (17, .ref 116), (16, .ref 114), (7, .ref 113), (6, .ref 112), (5, .ref 111), (4, .ref 110), (3, .ref 109), (1, .ref 107)], none) (pc' := 30) (L' := [(0, .ref 106)]) h_m20 (z_at.mk 3 rfl rfl) rfl (by decide) rfl (Or.inl rfl) rfl rfl rfl ?_
  clear H m; intro m H
  refine w_p h_m20 2 (pc' := 32) (L' := [(0, .ref 106)]) (st' := [.int (0 : Int32), .ref 106]) rfl ?_
  refine w_pf H (12, 18, [(13, .int (0 : Int32)), (12, .int (0 : Int32)), (11, .int (0 : Int32)), (10, .int (0 : Int32)), (9, .long (0 : Int64)), (8, .int (0 : Int32)), (2, .int (0 : Int32)), (15, .int (0 : Int32)), (14, .int (0 : Int32)), (0, .ref 41), (17, .ref 116), (16, .ref 114), (7, .ref 113), (6, .ref 112), (5, .ref 111), (4, .ref 110), (3, .ref 109), (1, .ref 107)], none) (pc' := 35) (L' := [(0, .ref 106)]) h_m20 (z_at.mk 3 rfl rfl) rfl (by decide) rfl (Or.inl rfl) rfl rfl rfl ?_
  clear H m; intro m H
  refine w_p h_m20 2 (pc' := 37) (L' := [(0, .ref 106)]) (st' := [.int (0 : Int32), .ref 106]) rfl ?_
  refine w_pf H (12, 18, [(14, .int (0 : Int32)), (13, .int (0 : Int32)), (12, .int (0 : Int32)), (11, .int (0 : Int32)), (10, .int (0 : Int32)), (9, .long (0 : Int64)), (8, .int (0 : Int32)), (2, .int (0 : Int32)), (15, .int (0 : Int32)), (0, .ref 41), (17, .ref 116), (16, .ref 114), (7, .ref 113), (6, .ref 112), (5, .ref 111), (4, .ref 110), (3, .ref 109), (1, .ref 107)], none) (pc' := 40) (L' := [(0, .ref 106)]) h_m20 (z_at.mk 3 rfl rfl) rfl (by decide) rfl (Or.inl rfl) rfl rfl rfl ?_
  clear H m; intro m H
  refine w_p h_m20 2 (pc' := 42) (L' := [(0, .ref 106)]) (st' := [.int (0 : Int32), .ref 106]) rfl ?_
  refine w_pf H (12, 18, [(15, .int (0 : Int32)), (14, .int (0 : Int32)), (13, .int (0 : Int32)), (12, .int (0 : Int32)), (11, .int (0 : Int32)), (10, .int (0 : Int32)), (9, .long (0 : Int64)), (8, .int (0 : Int32)), (2, .int (0 : Int32)), (0, .ref 41), (17, .ref 116), (16, .ref 114), (7, .ref 113), (6, .ref 112), (5, .ref 111), (4, .ref 110), (3, .ref 109), (1, .ref 107)], none) (pc' := 45) (L' := [(0, .ref 106)]) h_m20 (z_at.mk 3 rfl rfl) rfl (by decide) rfl (Or.inl rfl) rfl rfl rfl ?_
  clear H m; intro m H
  refine w_rv h_m20 (z_at.mk 1 rfl rfl) rfl ?_
  show z_W 998 145 7 [(0, .ref 39), (1, .int (48 : Int32))] [] m _
  refine w_p h_m145 1 (pc' := 8) (L' := [(0, .ref 39), (1, .int (48 : Int32))]) (st' := [.ref 39]) rfl ?_
  refine w_gf H (pc' := 11) (L' := [(0, .ref 39), (1, .int (48 : Int32))]) h_m145 (z_at.mk 3 rfl rfl) rfl (u := .ref 106) rfl rfl rfl ?_
  refine w_gf H (pc' := 14) (L' := [(0, .ref 39), (1, .int (48 : Int32))]) h_m145 (z_at.mk 3 rfl rfl) rfl (u := .ref 107) rfl rfl rfl ?_
  refine w_p h_m145 1 (pc' := 15) (L' := [(0, .ref 39), (1, .int (48 : Int32))]) (st' := [.ref 39, .ref 107]) rfl ?_
  refine w_gf H (pc' := 18) (L' := [(0, .ref 39), (1, .int (48 : Int32))]) h_m145 (z_at.mk 3 rfl rfl) rfl (u := .ref 40) rfl rfl rfl ?_
  refine w_gf H (pc' := 21) (L' := [(0, .ref 39), (1, .int (48 : Int32))]) h_m145 (z_at.mk 3 rfl rfl) rfl (u := .ref 48) rfl rfl rfl ?_
  refine w_gf H (pc' := 24) (L' := [(0, .ref 39), (1, .int (48 : Int32))]) h_m145 (z_at.mk 3 rfl rfl) rfl (u := .ref 49) rfl rfl rfl ?_
  refine w_cv (H.t rfl) (pc' := 27) (L' := [(0, .ref 39), (1, .int (48 : Int32))]) (rest := []) (Ps := [.ref 49]) (L0 := [(0, .ref 107), (1, .ref 49)]) h_m145 (z_at.mk 3 rfl rfl) (Or.inl ⟨rfl, rfl⟩) rfl rfl (by decide) (by decide) rfl rfl rfl rfl rfl rfl (by decide) rfl rfl rfl ?_
  refine w_p h_m74 1 (pc' := 1) (L' := [(0, .ref 107), (1, .ref 49)]) (st' := [.ref 49]) rfl ?_
  refine w_gf H (pc' := 4) (L' := [(0, .ref 107), (1, .ref 49)]) h_m74 (z_at.mk 3 rfl rfl) rfl (u := .ref 50) rfl rfl rfl ?_
  refine w_p h_m74 2 (pc' := 6) (L' := [(0, .ref 107), (1, .ref 49)]) (st' := [.ref 107, .int (0 : Int32), .ref 50]) rfl ?_
  refine w_gf H (pc' := 9) (L' := [(0, .ref 107), (1, .ref 49)]) h_m74 (z_at.mk 3 rfl rfl) rfl (u := .ref 108) rfl rfl rfl ?_
  refine w_p h_m74 2 (pc' := 12) (L' := [(0, .ref 107), (1, .ref 49)]) (st' := [.int (7 : Int32), .int (0 : Int32), .ref 108, .int (0 : Int32), .ref 50]) rfl ?_
  refine w_cpf H (ra := (0, 7, [(6, .int (1024 : Int32)), (5, .int (1 : Int32)), (4, .int (1 : Int32)), (3, .int (0 : Int32)), (2, .int (12 : Int32)), (1, .int (40 : Int32)), (0, .int (10 : Int32))], some (.int (0 : Int32)))) (pc' := 15) (L' := [(0, .ref 107), (1, .ref 49)]) h_m74 (z_at.mk 3 rfl rfl) rfl (z_cat_le 0 rfl (by decide)) rfl rfl rfl rfl (by decide) rfl rfl ?_
  clear H m; intro m H
  refine w_rv h_m74 (z_at.mk 1 rfl rfl) rfl ?_
  show z_W 998 145 27 [(0, .ref 39), (1, .int (48 : Int32))] [] m _
  refine w_p h_m145 1 (pc' := 28) (L' := [(0, .ref 39), (1, .int (48 : Int32))]) (st' := [.ref 39]) rfl ?_
  refine w_gf H (pc' := 31) (L' := [(0, .ref 39), (1, .int (48 : Int32))]) h_m145 (z_at.mk 3 rfl rfl) rfl (u := .ref 106) rfl rfl rfl ?_
  refine w_gf H (pc' := 34) (L' := [(0, .ref 39), (1, .int (48 : Int32))]) h_m145 (z_at.mk 3 rfl rfl) rfl (u := .ref 107) rfl rfl rfl ?_
  refine w_p h_m145 2 (pc' := 36) (L' := [(0, .ref 39), (1, .int (48 : Int32))]) (st' := [.int (48 : Int32), .int (1 : Int32), .ref 107]) rfl ?_
  refine w_cv (H.t rfl) (pc' := 39) (L' := [(0, .ref 39), (1, .int (48 : Int32))]) (rest := []) (Ps := [.int (1 : Int32), .int (48 : Int32)]) (L0 := [(0, .ref 107), (1, .int (1 : Int32)), (2, .int (48 : Int32))]) h_m145 (z_at.mk 3 rfl rfl) (Or.inl ⟨rfl, rfl⟩) rfl rfl (by decide) (by decide) rfl rfl rfl rfl rfl rfl (by decide) rfl rfl rfl ?_
  refine w_p h_m73 6 (pc' := 11) (L' := [(0, .ref 107), (1, .int (1 : Int32)), (2, .int (48 : Int32))]) (st' := [.ref 107]) rfl ?_
  refine w_gf H (pc' := 14) (L' := [(0, .ref 107), (1, .int (1 : Int32)), (2, .int (48 : Int32))]) h_m73 (z_at.mk 3 rfl rfl) rfl (u := .ref 108) rfl rfl rfl ?_
  refine w_p h_m73 2 (pc' := 16) (L' := [(0, .ref 107), (1, .int (1 : Int32)), (2, .int (48 : Int32))]) (st' := [.int (48 : Int32), .int (1 : Int32), .ref 108]) rfl ?_
  refine w_as H (t := 0) (j := 1) (u := .int (48 : Int32)) (0, 7, [(1, .int (48 : Int32)), (6, .int (1024 : Int32)), (5, .int (1 : Int32)), (4, .int (1 : Int32)), (3, .int (0 : Int32)), (2, .int (12 : Int32)), (0, .int (10 : Int32))], some (.int (0 : Int32))) (pc' := 17) (L' := []) h_m73 (z_at.mk 1 rfl rfl) rfl rfl (w_ui _ _ (by decide)) rfl rfl rfl rfl ?_
  clear H m; intro m H
  refine w_rv h_m73 (z_at.mk 1 rfl rfl) rfl ?_
  show z_W 998 145 39 [(0, .ref 39), (1, .int (48 : Int32))] [] m _
  refine w_p h_m145 4 (pc' := 43) (L' := [(0, .ref 39), (2, .int (0 : Int32))]) (st' := [.ref 39, .int (0 : Int32)]) rfl ?_
  refine w_gf H (pc' := 46) (L' := [(0, .ref 39), (2, .int (0 : Int32))]) h_m145 (z_at.mk 3 rfl rfl) rfl (u := .ref 40) rfl rfl rfl ?_
  refine w_gf H (pc' := 49) (L' := [(0, .ref 39), (2, .int (0 : Int32))]) h_m145 (z_at.mk 3 rfl rfl) rfl (u := .ref 63) rfl rfl rfl ?_
  refine w_gf H (pc' := 52) (L' := [(0, .ref 39), (2, .int (0 : Int32))]) h_m145 (z_at.mk 3 rfl rfl) rfl (u := .int (0 : Int32)) rfl rfl rfl ?_
  refine w_p h_m145 1 (pc' := 79) (L' := [(0, .ref 39), (2, .int (0 : Int32))]) (st' := []) rfl ?_
  refine w_rv h_m145 (z_at.mk 1 rfl rfl) rfl ?_
  show z_W 999 146 13 [(0, .ref 39), (1, .int (xs 1)), (2, .int (48 : Int32))] [] m _
  refine w_p h_m146 1 (pc' := 14) (L' := [(0, .ref 39), (1, .int (xs 1)), (2, .int (48 : Int32))]) (st' := [.ref 39]) rfl ?_
  refine w_gf H (pc' := 17) (L' := [(0, .ref 39), (1, .int (xs 1)), (2, .int (48 : Int32))]) h_m146 (z_at.mk 3 rfl rfl) rfl (u := .ref 106) rfl rfl rfl ?_
  refine w_gf H (pc' := 20) (L' := [(0, .ref 39), (1, .int (xs 1)), (2, .int (48 : Int32))]) h_m146 (z_at.mk 3 rfl rfl) rfl (u := .int (0 : Int32)) rfl rfl rfl ?_
  refine w_p h_m146 1 (pc' := 21) (L' := [(0, .ref 39), (1, .int (xs 1)), (2, .int (48 : Int32))]) (st' := [.int (xs 1), .int (0 : Int32)]) rfl ?_
  refine w_t2 (pc' := 26) (L' := [(0, .ref 39), (1, .int (xs 1)), (2, .int (48 : Int32))]) h_m146 (z_at.mk 3 rfl rfl) rfl (zc (a := 0) (b := (xs 1).toInt) rfl rfl (decide_eq_true (by omega))) rfl rfl ?_
  refine w_p h_m146 2 (pc' := 2) (L' := [(0, .ref 39), (1, .int (xs 1)), (2, .int (49 : Int32))]) (st' := []) rfl ?_
  exact hQ m (H.subC (by decide +kernel))
set_option maxHeartbeats 400000000 in
set_option maxRecDepth 20000 in
theorem w_turn_146_49 {xs : Nat → Int32} {m : zM} {Q : Option Value → zM → Prop} (hp : (xs 1).toInt < 0) (H : w_ok 6 xs 168 63950 ((106, (12, 18, [(15, .int (0 : Int32)), (14, .int (0 : Int32)), (13, .int (0 : Int32)), (12, .int (0 : Int32)), (11, .int (0 : Int32)), (10, .int (0 : Int32)), (9, .long (0 : Int64)), (8, .int (0 : Int32)), (2, .int (0 : Int32)), (0, .ref 41), (17, .ref 116), (16, .ref 114), (7, .ref 113), (6, .ref 112), (5, .ref 111), (4, .ref 110), (3, .ref 109), (1, .ref 107)], none)) :: (108, (0, 7, [(1, .int (48 : Int32)), (6, .int (1024 : Int32)), (5, .int (1 : Int32)), (4, .int (1 : Int32)), (3, .int (0 : Int32)), (2, .int (12 : Int32)), (0, .int (10 : Int32))], some (.int (0 : Int32)))) :: w_T0) m) (hQ : ∀ m, w_ok 6 xs 168 63950 ((106, (12, 18, [(15, .int (0 : Int32)), (14, .int (0 : Int32)), (13, .int (0 : Int32)), (12, .int (0 : Int32)), (11, .int (0 : Int32)), (10, .int (0 : Int32)), (9, .long (0 : Int64)), (8, .int (0 : Int32)), (2, .int (0 : Int32)), (0, .ref 41), (17, .ref 116), (16, .ref 114), (7, .ref 113), (6, .ref 112), (5, .ref 111), (4, .ref 110), (3, .ref 109), (1, .ref 107)], none)) :: (108, (0, 7, [(1, .int (49 : Int32)), (6, .int (1024 : Int32)), (5, .int (1 : Int32)), (4, .int (1 : Int32)), (3, .int (0 : Int32)), (2, .int (12 : Int32)), (0, .int (10 : Int32))], some (.int (0 : Int32)))) :: w_T0) m → z_W 999 146 2 [(0, .ref 39), (1, .int (xs 1)), (2, .int (50 : Int32))] [] m Q) : z_W 999 146 2 [(0, .ref 39), (1, .int (xs 1)), (2, .int (49 : Int32))] [] m Q := by
  refine w_p h_m146 5 (pc' := 10) (L' := [(0, .ref 39), (1, .int (xs 1)), (2, .int (49 : Int32))]) (st' := [.int (49 : Int32), .ref 39]) rfl ?_
  refine w_cv (H.t rfl) (pc' := 13) (L' := [(0, .ref 39), (1, .int (xs 1)), (2, .int (49 : Int32))]) (rest := []) (Ps := [.int (49 : Int32)]) (L0 := [(0, .ref 39), (1, .int (49 : Int32))]) h_m146 (z_at.mk 3 rfl rfl) (Or.inl ⟨rfl, rfl⟩) rfl rfl (by decide) (by decide) rfl rfl rfl rfl rfl rfl (by decide) rfl rfl rfl ?_
  refine w_p h_m145 1 (pc' := 1) (L' := [(0, .ref 39), (1, .int (49 : Int32))]) (st' := [.ref 39]) rfl ?_
  refine w_gf H (pc' := 4) (L' := [(0, .ref 39), (1, .int (49 : Int32))]) h_m145 (z_at.mk 3 rfl rfl) rfl (u := .ref 106) rfl rfl rfl ?_
  refine w_cv (H.t rfl) (pc' := 7) (L' := [(0, .ref 39), (1, .int (49 : Int32))]) (rest := []) (Ps := []) (L0 := [(0, .ref 106)]) h_m145 (z_at.mk 3 rfl rfl) (Or.inl ⟨rfl, rfl⟩) rfl rfl (by decide) (by decide) rfl rfl rfl rfl rfl rfl (by decide) rfl rfl rfl ?_
  refine w_p h_m20 2 (pc' := 2) (L' := [(0, .ref 106)]) (st' := [.int (0 : Int32), .ref 106]) rfl ?_
  refine w_pf H (12, 18, [(2, .int (0 : Int32)), (15, .int (0 : Int32)), (14, .int (0 : Int32)), (13, .int (0 : Int32)), (12, .int (0 : Int32)), (11, .int (0 : Int32)), (10, .int (0 : Int32)), (9, .long (0 : Int64)), (8, .int (0 : Int32)), (0, .ref 41), (17, .ref 116), (16, .ref 114), (7, .ref 113), (6, .ref 112), (5, .ref 111), (4, .ref 110), (3, .ref 109), (1, .ref 107)], none) (pc' := 5) (L' := [(0, .ref 106)]) h_m20 (z_at.mk 3 rfl rfl) rfl (by decide) rfl (Or.inl rfl) rfl rfl rfl ?_
  clear H m; intro m H
  refine w_p h_m20 2 (pc' := 7) (L' := [(0, .ref 106)]) (st' := [.int (0 : Int32), .ref 106]) rfl ?_
  refine w_pf H (12, 18, [(8, .int (0 : Int32)), (2, .int (0 : Int32)), (15, .int (0 : Int32)), (14, .int (0 : Int32)), (13, .int (0 : Int32)), (12, .int (0 : Int32)), (11, .int (0 : Int32)), (10, .int (0 : Int32)), (9, .long (0 : Int64)), (0, .ref 41), (17, .ref 116), (16, .ref 114), (7, .ref 113), (6, .ref 112), (5, .ref 111), (4, .ref 110), (3, .ref 109), (1, .ref 107)], none) (pc' := 10) (L' := [(0, .ref 106)]) h_m20 (z_at.mk 3 rfl rfl) rfl (by decide) rfl (Or.inl rfl) rfl rfl rfl ?_
  clear H m; intro m H
  refine w_p h_m20 2 (pc' := 12) (L' := [(0, .ref 106)]) (st' := [.long (0 : Int64), .ref 106]) rfl ?_
  refine w_pf H (12, 18, [(9, .long (0 : Int64)), (8, .int (0 : Int32)), (2, .int (0 : Int32)), (15, .int (0 : Int32)), (14, .int (0 : Int32)), (13, .int (0 : Int32)), (12, .int (0 : Int32)), (11, .int (0 : Int32)), (10, .int (0 : Int32)), (0, .ref 41), (17, .ref 116), (16, .ref 114), (7, .ref 113), (6, .ref 112), (5, .ref 111), (4, .ref 110), (3, .ref 109), (1, .ref 107)], none) (pc' := 15) (L' := [(0, .ref 106)]) h_m20 (z_at.mk 3 rfl rfl) rfl (by decide) rfl (Or.inl rfl) rfl rfl rfl ?_
  clear H m; intro m H
  refine w_p h_m20 2 (pc' := 17) (L' := [(0, .ref 106)]) (st' := [.int (0 : Int32), .ref 106]) rfl ?_
  refine w_pf H (12, 18, [(10, .int (0 : Int32)), (9, .long (0 : Int64)), (8, .int (0 : Int32)), (2, .int (0 : Int32)), (15, .int (0 : Int32)), (14, .int (0 : Int32)), (13, .int (0 : Int32)), (12, .int (0 : Int32)), (11, .int (0 : Int32)), (0, .ref 41), (17, .ref 116), (16, .ref 114), (7, .ref 113), (6, .ref 112), (5, .ref 111), (4, .ref 110), (3, .ref 109), (1, .ref 107)], none) (pc' := 20) (L' := [(0, .ref 106)]) h_m20 (z_at.mk 3 rfl rfl) rfl (by decide) rfl (Or.inl rfl) rfl rfl rfl ?_
  clear H m; intro m H
  refine w_p h_m20 2 (pc' := 22) (L' := [(0, .ref 106)]) (st' := [.int (0 : Int32), .ref 106]) rfl ?_
  refine w_pf H (12, 18, [(11, .int (0 : Int32)), (10, .int (0 : Int32)), (9, .long (0 : Int64)), (8, .int (0 : Int32)), (2, .int (0 : Int32)), (15, .int (0 : Int32)), (14, .int (0 : Int32)), (13, .int (0 : Int32)), (12, .int (0 : Int32)), (0, .ref 41), (17, .ref 116), (16, .ref 114), (7, .ref 113), (6, .ref 112), (5, .ref 111), (4, .ref 110), (3, .ref 109), (1, .ref 107)], none) (pc' := 25) (L' := [(0, .ref 106)]) h_m20 (z_at.mk 3 rfl rfl) rfl (by decide) rfl (Or.inl rfl) rfl rfl rfl ?_
  clear H m; intro m H
  refine w_p h_m20 2 (pc' := 27) (L' := [(0, .ref 106)]) (st' := [.int (0 : Int32), .ref 106]) rfl ?_
  refine w_pf H (12, 18, [(12, .int (0 : Int32)), (11, .int (0 : Int32)), (10, .int (0 : Int32)), (9, .long (0 : Int64)), (8, .int (0 : Int32)), (2, .int (0 : Int32)), (15, .int (0 : Int32)), (14, .int (0 : Int32)), (13, .int (0 : Int32)), (0, .ref 41), (17, .ref 116), (16, .ref 114), (7, .ref 113), (6, .ref 112), (5, .ref 111), (4, .ref 110), (3, .ref 109), (1, .ref 107)], none) (pc' := 30) (L' := [(0, .ref 106)]) h_m20 (z_at.mk 3 rfl rfl) rfl (by decide) rfl (Or.inl rfl) rfl rfl rfl ?_
  clear H m; intro m H
  refine w_p h_m20 2 (pc' := 32) (L' := [(0, .ref 106)]) (st' := [.int (0 : Int32), .ref 106]) rfl ?_
  refine w_pf H (12, 18, [(13, .int (0 : Int32)), (12, .int (0 : Int32)), (11, .int (0 : Int32)), (10, .int (0 : Int32)), (9, .long (0 : Int64)), (8, .int (0 : Int32)), (2, .int (0 : Int32)), (15, .int (0 : Int32)), (14, .int (0 : Int32)), (0, .ref 41), (17, .ref 116), (16, .ref 114), (7, .ref 113), (6, .ref 112), (5, .ref 111), (4, .ref 110), (3, .ref 109), (1, .ref 107)], none) (pc' := 35) (L' := [(0, .ref 106)]) h_m20 (z_at.mk 3 rfl rfl) rfl (by decide) rfl (Or.inl rfl) rfl rfl rfl ?_
  clear H m; intro m H
  refine w_p h_m20 2 (pc' := 37) (L' := [(0, .ref 106)]) (st' := [.int (0 : Int32), .ref 106]) rfl ?_
  refine w_pf H (12, 18, [(14, .int (0 : Int32)), (13, .int (0 : Int32)), (12, .int (0 : Int32)), (11, .int (0 : Int32)), (10, .int (0 : Int32)), (9, .long (0 : Int64)), (8, .int (0 : Int32)), (2, .int (0 : Int32)), (15, .int (0 : Int32)), (0, .ref 41), (17, .ref 116), (16, .ref 114), (7, .ref 113), (6, .ref 112), (5, .ref 111), (4, .ref 110), (3, .ref 109), (1, .ref 107)], none) (pc' := 40) (L' := [(0, .ref 106)]) h_m20 (z_at.mk 3 rfl rfl) rfl (by decide) rfl (Or.inl rfl) rfl rfl rfl ?_
  clear H m; intro m H
  refine w_p h_m20 2 (pc' := 42) (L' := [(0, .ref 106)]) (st' := [.int (0 : Int32), .ref 106]) rfl ?_
  refine w_pf H (12, 18, [(15, .int (0 : Int32)), (14, .int (0 : Int32)), (13, .int (0 : Int32)), (12, .int (0 : Int32)), (11, .int (0 : Int32)), (10, .int (0 : Int32)), (9, .long (0 : Int64)), (8, .int (0 : Int32)), (2, .int (0 : Int32)), (0, .ref 41), (17, .ref 116), (16, .ref 114), (7, .ref 113), (6, .ref 112), (5, .ref 111), (4, .ref 110), (3, .ref 109), (1, .ref 107)], none) (pc' := 45) (L' := [(0, .ref 106)]) h_m20 (z_at.mk 3 rfl rfl) rfl (by decide) rfl (Or.inl rfl) rfl rfl rfl ?_
  clear H m; intro m H
  refine w_rv h_m20 (z_at.mk 1 rfl rfl) rfl ?_
  show z_W 998 145 7 [(0, .ref 39), (1, .int (49 : Int32))] [] m _
  refine w_p h_m145 1 (pc' := 8) (L' := [(0, .ref 39), (1, .int (49 : Int32))]) (st' := [.ref 39]) rfl ?_
  refine w_gf H (pc' := 11) (L' := [(0, .ref 39), (1, .int (49 : Int32))]) h_m145 (z_at.mk 3 rfl rfl) rfl (u := .ref 106) rfl rfl rfl ?_
  refine w_gf H (pc' := 14) (L' := [(0, .ref 39), (1, .int (49 : Int32))]) h_m145 (z_at.mk 3 rfl rfl) rfl (u := .ref 107) rfl rfl rfl ?_
  refine w_p h_m145 1 (pc' := 15) (L' := [(0, .ref 39), (1, .int (49 : Int32))]) (st' := [.ref 39, .ref 107]) rfl ?_
  refine w_gf H (pc' := 18) (L' := [(0, .ref 39), (1, .int (49 : Int32))]) h_m145 (z_at.mk 3 rfl rfl) rfl (u := .ref 40) rfl rfl rfl ?_
  refine w_gf H (pc' := 21) (L' := [(0, .ref 39), (1, .int (49 : Int32))]) h_m145 (z_at.mk 3 rfl rfl) rfl (u := .ref 48) rfl rfl rfl ?_
  refine w_gf H (pc' := 24) (L' := [(0, .ref 39), (1, .int (49 : Int32))]) h_m145 (z_at.mk 3 rfl rfl) rfl (u := .ref 49) rfl rfl rfl ?_
  refine w_cv (H.t rfl) (pc' := 27) (L' := [(0, .ref 39), (1, .int (49 : Int32))]) (rest := []) (Ps := [.ref 49]) (L0 := [(0, .ref 107), (1, .ref 49)]) h_m145 (z_at.mk 3 rfl rfl) (Or.inl ⟨rfl, rfl⟩) rfl rfl (by decide) (by decide) rfl rfl rfl rfl rfl rfl (by decide) rfl rfl rfl ?_
  refine w_p h_m74 1 (pc' := 1) (L' := [(0, .ref 107), (1, .ref 49)]) (st' := [.ref 49]) rfl ?_
  refine w_gf H (pc' := 4) (L' := [(0, .ref 107), (1, .ref 49)]) h_m74 (z_at.mk 3 rfl rfl) rfl (u := .ref 50) rfl rfl rfl ?_
  refine w_p h_m74 2 (pc' := 6) (L' := [(0, .ref 107), (1, .ref 49)]) (st' := [.ref 107, .int (0 : Int32), .ref 50]) rfl ?_
  refine w_gf H (pc' := 9) (L' := [(0, .ref 107), (1, .ref 49)]) h_m74 (z_at.mk 3 rfl rfl) rfl (u := .ref 108) rfl rfl rfl ?_
  refine w_p h_m74 2 (pc' := 12) (L' := [(0, .ref 107), (1, .ref 49)]) (st' := [.int (7 : Int32), .int (0 : Int32), .ref 108, .int (0 : Int32), .ref 50]) rfl ?_
  refine w_cpf H (ra := (0, 7, [(6, .int (1024 : Int32)), (5, .int (1 : Int32)), (4, .int (1 : Int32)), (3, .int (0 : Int32)), (2, .int (12 : Int32)), (1, .int (40 : Int32)), (0, .int (10 : Int32))], some (.int (0 : Int32)))) (pc' := 15) (L' := [(0, .ref 107), (1, .ref 49)]) h_m74 (z_at.mk 3 rfl rfl) rfl (z_cat_le 0 rfl (by decide)) rfl rfl rfl rfl (by decide) rfl rfl ?_
  clear H m; intro m H
  refine w_rv h_m74 (z_at.mk 1 rfl rfl) rfl ?_
  show z_W 998 145 27 [(0, .ref 39), (1, .int (49 : Int32))] [] m _
  refine w_p h_m145 1 (pc' := 28) (L' := [(0, .ref 39), (1, .int (49 : Int32))]) (st' := [.ref 39]) rfl ?_
  refine w_gf H (pc' := 31) (L' := [(0, .ref 39), (1, .int (49 : Int32))]) h_m145 (z_at.mk 3 rfl rfl) rfl (u := .ref 106) rfl rfl rfl ?_
  refine w_gf H (pc' := 34) (L' := [(0, .ref 39), (1, .int (49 : Int32))]) h_m145 (z_at.mk 3 rfl rfl) rfl (u := .ref 107) rfl rfl rfl ?_
  refine w_p h_m145 2 (pc' := 36) (L' := [(0, .ref 39), (1, .int (49 : Int32))]) (st' := [.int (49 : Int32), .int (1 : Int32), .ref 107]) rfl ?_
  refine w_cv (H.t rfl) (pc' := 39) (L' := [(0, .ref 39), (1, .int (49 : Int32))]) (rest := []) (Ps := [.int (1 : Int32), .int (49 : Int32)]) (L0 := [(0, .ref 107), (1, .int (1 : Int32)), (2, .int (49 : Int32))]) h_m145 (z_at.mk 3 rfl rfl) (Or.inl ⟨rfl, rfl⟩) rfl rfl (by decide) (by decide) rfl rfl rfl rfl rfl rfl (by decide) rfl rfl rfl ?_
  refine w_p h_m73 6 (pc' := 11) (L' := [(0, .ref 107), (1, .int (1 : Int32)), (2, .int (49 : Int32))]) (st' := [.ref 107]) rfl ?_
  refine w_gf H (pc' := 14) (L' := [(0, .ref 107), (1, .int (1 : Int32)), (2, .int (49 : Int32))]) h_m73 (z_at.mk 3 rfl rfl) rfl (u := .ref 108) rfl rfl rfl ?_
  refine w_p h_m73 2 (pc' := 16) (L' := [(0, .ref 107), (1, .int (1 : Int32)), (2, .int (49 : Int32))]) (st' := [.int (49 : Int32), .int (1 : Int32), .ref 108]) rfl ?_
  refine w_as H (t := 0) (j := 1) (u := .int (49 : Int32)) (0, 7, [(1, .int (49 : Int32)), (6, .int (1024 : Int32)), (5, .int (1 : Int32)), (4, .int (1 : Int32)), (3, .int (0 : Int32)), (2, .int (12 : Int32)), (0, .int (10 : Int32))], some (.int (0 : Int32))) (pc' := 17) (L' := []) h_m73 (z_at.mk 1 rfl rfl) rfl rfl (w_ui _ _ (by decide)) rfl rfl rfl rfl ?_
  clear H m; intro m H
  refine w_rv h_m73 (z_at.mk 1 rfl rfl) rfl ?_
  show z_W 998 145 39 [(0, .ref 39), (1, .int (49 : Int32))] [] m _
  refine w_p h_m145 4 (pc' := 43) (L' := [(0, .ref 39), (2, .int (0 : Int32))]) (st' := [.ref 39, .int (0 : Int32)]) rfl ?_
  refine w_gf H (pc' := 46) (L' := [(0, .ref 39), (2, .int (0 : Int32))]) h_m145 (z_at.mk 3 rfl rfl) rfl (u := .ref 40) rfl rfl rfl ?_
  refine w_gf H (pc' := 49) (L' := [(0, .ref 39), (2, .int (0 : Int32))]) h_m145 (z_at.mk 3 rfl rfl) rfl (u := .ref 63) rfl rfl rfl ?_
  refine w_gf H (pc' := 52) (L' := [(0, .ref 39), (2, .int (0 : Int32))]) h_m145 (z_at.mk 3 rfl rfl) rfl (u := .int (0 : Int32)) rfl rfl rfl ?_
  refine w_p h_m145 1 (pc' := 79) (L' := [(0, .ref 39), (2, .int (0 : Int32))]) (st' := []) rfl ?_
  refine w_rv h_m145 (z_at.mk 1 rfl rfl) rfl ?_
  show z_W 999 146 13 [(0, .ref 39), (1, .int (xs 1)), (2, .int (49 : Int32))] [] m _
  refine w_p h_m146 1 (pc' := 14) (L' := [(0, .ref 39), (1, .int (xs 1)), (2, .int (49 : Int32))]) (st' := [.ref 39]) rfl ?_
  refine w_gf H (pc' := 17) (L' := [(0, .ref 39), (1, .int (xs 1)), (2, .int (49 : Int32))]) h_m146 (z_at.mk 3 rfl rfl) rfl (u := .ref 106) rfl rfl rfl ?_
  refine w_gf H (pc' := 20) (L' := [(0, .ref 39), (1, .int (xs 1)), (2, .int (49 : Int32))]) h_m146 (z_at.mk 3 rfl rfl) rfl (u := .int (0 : Int32)) rfl rfl rfl ?_
  refine w_p h_m146 1 (pc' := 21) (L' := [(0, .ref 39), (1, .int (xs 1)), (2, .int (49 : Int32))]) (st' := [.int (xs 1), .int (0 : Int32)]) rfl ?_
  refine w_t2 (pc' := 26) (L' := [(0, .ref 39), (1, .int (xs 1)), (2, .int (49 : Int32))]) h_m146 (z_at.mk 3 rfl rfl) rfl (zc (a := 0) (b := (xs 1).toInt) rfl rfl (decide_eq_true (by omega))) rfl rfl ?_
  refine w_p h_m146 2 (pc' := 2) (L' := [(0, .ref 39), (1, .int (xs 1)), (2, .int (50 : Int32))]) (st' := []) rfl ?_
  exact hQ m (H.subC (by decide +kernel))
set_option maxHeartbeats 400000000 in
set_option maxRecDepth 20000 in
theorem w_turn_146_50 {xs : Nat → Int32} {m : zM} {Q : Option Value → zM → Prop} (hp : (xs 1).toInt < 0) (H : w_ok 6 xs 168 63950 ((106, (12, 18, [(15, .int (0 : Int32)), (14, .int (0 : Int32)), (13, .int (0 : Int32)), (12, .int (0 : Int32)), (11, .int (0 : Int32)), (10, .int (0 : Int32)), (9, .long (0 : Int64)), (8, .int (0 : Int32)), (2, .int (0 : Int32)), (0, .ref 41), (17, .ref 116), (16, .ref 114), (7, .ref 113), (6, .ref 112), (5, .ref 111), (4, .ref 110), (3, .ref 109), (1, .ref 107)], none)) :: (108, (0, 7, [(1, .int (49 : Int32)), (6, .int (1024 : Int32)), (5, .int (1 : Int32)), (4, .int (1 : Int32)), (3, .int (0 : Int32)), (2, .int (12 : Int32)), (0, .int (10 : Int32))], some (.int (0 : Int32)))) :: w_T0) m) (hQ : ∀ m, w_ok 6 xs 168 63950 ((106, (12, 18, [(15, .int (0 : Int32)), (14, .int (0 : Int32)), (13, .int (0 : Int32)), (12, .int (0 : Int32)), (11, .int (0 : Int32)), (10, .int (0 : Int32)), (9, .long (0 : Int64)), (8, .int (0 : Int32)), (2, .int (0 : Int32)), (0, .ref 41), (17, .ref 116), (16, .ref 114), (7, .ref 113), (6, .ref 112), (5, .ref 111), (4, .ref 110), (3, .ref 109), (1, .ref 107)], none)) :: (108, (0, 7, [(1, .int (50 : Int32)), (6, .int (1024 : Int32)), (5, .int (1 : Int32)), (4, .int (1 : Int32)), (3, .int (0 : Int32)), (2, .int (12 : Int32)), (0, .int (10 : Int32))], some (.int (0 : Int32)))) :: w_T0) m → z_W 999 146 2 [(0, .ref 39), (1, .int (xs 1)), (2, .int (51 : Int32))] [] m Q) : z_W 999 146 2 [(0, .ref 39), (1, .int (xs 1)), (2, .int (50 : Int32))] [] m Q := by
  refine w_p h_m146 5 (pc' := 10) (L' := [(0, .ref 39), (1, .int (xs 1)), (2, .int (50 : Int32))]) (st' := [.int (50 : Int32), .ref 39]) rfl ?_
  refine w_cv (H.t rfl) (pc' := 13) (L' := [(0, .ref 39), (1, .int (xs 1)), (2, .int (50 : Int32))]) (rest := []) (Ps := [.int (50 : Int32)]) (L0 := [(0, .ref 39), (1, .int (50 : Int32))]) h_m146 (z_at.mk 3 rfl rfl) (Or.inl ⟨rfl, rfl⟩) rfl rfl (by decide) (by decide) rfl rfl rfl rfl rfl rfl (by decide) rfl rfl rfl ?_
  refine w_p h_m145 1 (pc' := 1) (L' := [(0, .ref 39), (1, .int (50 : Int32))]) (st' := [.ref 39]) rfl ?_
  refine w_gf H (pc' := 4) (L' := [(0, .ref 39), (1, .int (50 : Int32))]) h_m145 (z_at.mk 3 rfl rfl) rfl (u := .ref 106) rfl rfl rfl ?_
  refine w_cv (H.t rfl) (pc' := 7) (L' := [(0, .ref 39), (1, .int (50 : Int32))]) (rest := []) (Ps := []) (L0 := [(0, .ref 106)]) h_m145 (z_at.mk 3 rfl rfl) (Or.inl ⟨rfl, rfl⟩) rfl rfl (by decide) (by decide) rfl rfl rfl rfl rfl rfl (by decide) rfl rfl rfl ?_
  refine w_p h_m20 2 (pc' := 2) (L' := [(0, .ref 106)]) (st' := [.int (0 : Int32), .ref 106]) rfl ?_
  refine w_pf H (12, 18, [(2, .int (0 : Int32)), (15, .int (0 : Int32)), (14, .int (0 : Int32)), (13, .int (0 : Int32)), (12, .int (0 : Int32)), (11, .int (0 : Int32)), (10, .int (0 : Int32)), (9, .long (0 : Int64)), (8, .int (0 : Int32)), (0, .ref 41), (17, .ref 116), (16, .ref 114), (7, .ref 113), (6, .ref 112), (5, .ref 111), (4, .ref 110), (3, .ref 109), (1, .ref 107)], none) (pc' := 5) (L' := [(0, .ref 106)]) h_m20 (z_at.mk 3 rfl rfl) rfl (by decide) rfl (Or.inl rfl) rfl rfl rfl ?_
  clear H m; intro m H
  refine w_p h_m20 2 (pc' := 7) (L' := [(0, .ref 106)]) (st' := [.int (0 : Int32), .ref 106]) rfl ?_
  refine w_pf H (12, 18, [(8, .int (0 : Int32)), (2, .int (0 : Int32)), (15, .int (0 : Int32)), (14, .int (0 : Int32)), (13, .int (0 : Int32)), (12, .int (0 : Int32)), (11, .int (0 : Int32)), (10, .int (0 : Int32)), (9, .long (0 : Int64)), (0, .ref 41), (17, .ref 116), (16, .ref 114), (7, .ref 113), (6, .ref 112), (5, .ref 111), (4, .ref 110), (3, .ref 109), (1, .ref 107)], none) (pc' := 10) (L' := [(0, .ref 106)]) h_m20 (z_at.mk 3 rfl rfl) rfl (by decide) rfl (Or.inl rfl) rfl rfl rfl ?_
  clear H m; intro m H
  refine w_p h_m20 2 (pc' := 12) (L' := [(0, .ref 106)]) (st' := [.long (0 : Int64), .ref 106]) rfl ?_
  refine w_pf H (12, 18, [(9, .long (0 : Int64)), (8, .int (0 : Int32)), (2, .int (0 : Int32)), (15, .int (0 : Int32)), (14, .int (0 : Int32)), (13, .int (0 : Int32)), (12, .int (0 : Int32)), (11, .int (0 : Int32)), (10, .int (0 : Int32)), (0, .ref 41), (17, .ref 116), (16, .ref 114), (7, .ref 113), (6, .ref 112), (5, .ref 111), (4, .ref 110), (3, .ref 109), (1, .ref 107)], none) (pc' := 15) (L' := [(0, .ref 106)]) h_m20 (z_at.mk 3 rfl rfl) rfl (by decide) rfl (Or.inl rfl) rfl rfl rfl ?_
  clear H m; intro m H
  refine w_p h_m20 2 (pc' := 17) (L' := [(0, .ref 106)]) (st' := [.int (0 : Int32), .ref 106]) rfl ?_
  refine w_pf H (12, 18, [(10, .int (0 : Int32)), (9, .long (0 : Int64)), (8, .int (0 : Int32)), (2, .int (0 : Int32)), (15, .int (0 : Int32)), (14, .int (0 : Int32)), (13, .int (0 : Int32)), (12, .int (0 : Int32)), (11, .int (0 : Int32)), (0, .ref 41), (17, .ref 116), (16, .ref 114), (7, .ref 113), (6, .ref 112), (5, .ref 111), (4, .ref 110), (3, .ref 109), (1, .ref 107)], none) (pc' := 20) (L' := [(0, .ref 106)]) h_m20 (z_at.mk 3 rfl rfl) rfl (by decide) rfl (Or.inl rfl) rfl rfl rfl ?_
  clear H m; intro m H
  refine w_p h_m20 2 (pc' := 22) (L' := [(0, .ref 106)]) (st' := [.int (0 : Int32), .ref 106]) rfl ?_
  refine w_pf H (12, 18, [(11, .int (0 : Int32)), (10, .int (0 : Int32)), (9, .long (0 : Int64)), (8, .int (0 : Int32)), (2, .int (0 : Int32)), (15, .int (0 : Int32)), (14, .int (0 : Int32)), (13, .int (0 : Int32)), (12, .int (0 : Int32)), (0, .ref 41), (17, .ref 116), (16, .ref 114), (7, .ref 113), (6, .ref 112), (5, .ref 111), (4, .ref 110), (3, .ref 109), (1, .ref 107)], none) (pc' := 25) (L' := [(0, .ref 106)]) h_m20 (z_at.mk 3 rfl rfl) rfl (by decide) rfl (Or.inl rfl) rfl rfl rfl ?_
  clear H m; intro m H
  refine w_p h_m20 2 (pc' := 27) (L' := [(0, .ref 106)]) (st' := [.int (0 : Int32), .ref 106]) rfl ?_
  refine w_pf H (12, 18, [(12, .int (0 : Int32)), (11, .int (0 : Int32)), (10, .int (0 : Int32)), (9, .long (0 : Int64)), (8, .int (0 : Int32)), (2, .int (0 : Int32)), (15, .int (0 : Int32)), (14, .int (0 : Int32)), (13, .int (0 : Int32)), (0, .ref 41), (17, .ref 116), (16, .ref 114), (7, .ref 113), (6, .ref 112), (5, .ref 111), (4, .ref 110), (3, .ref 109), (1, .ref 107)], none) (pc' := 30) (L' := [(0, .ref 106)]) h_m20 (z_at.mk 3 rfl rfl) rfl (by decide) rfl (Or.inl rfl) rfl rfl rfl ?_
  clear H m; intro m H
  refine w_p h_m20 2 (pc' := 32) (L' := [(0, .ref 106)]) (st' := [.int (0 : Int32), .ref 106]) rfl ?_
  refine w_pf H (12, 18, [(13, .int (0 : Int32)), (12, .int (0 : Int32)), (11, .int (0 : Int32)), (10, .int (0 : Int32)), (9, .long (0 : Int64)), (8, .int (0 : Int32)), (2, .int (0 : Int32)), (15, .int (0 : Int32)), (14, .int (0 : Int32)), (0, .ref 41), (17, .ref 116), (16, .ref 114), (7, .ref 113), (6, .ref 112), (5, .ref 111), (4, .ref 110), (3, .ref 109), (1, .ref 107)], none) (pc' := 35) (L' := [(0, .ref 106)]) h_m20 (z_at.mk 3 rfl rfl) rfl (by decide) rfl (Or.inl rfl) rfl rfl rfl ?_
  clear H m; intro m H
  refine w_p h_m20 2 (pc' := 37) (L' := [(0, .ref 106)]) (st' := [.int (0 : Int32), .ref 106]) rfl ?_
  refine w_pf H (12, 18, [(14, .int (0 : Int32)), (13, .int (0 : Int32)), (12, .int (0 : Int32)), (11, .int (0 : Int32)), (10, .int (0 : Int32)), (9, .long (0 : Int64)), (8, .int (0 : Int32)), (2, .int (0 : Int32)), (15, .int (0 : Int32)), (0, .ref 41), (17, .ref 116), (16, .ref 114), (7, .ref 113), (6, .ref 112), (5, .ref 111), (4, .ref 110), (3, .ref 109), (1, .ref 107)], none) (pc' := 40) (L' := [(0, .ref 106)]) h_m20 (z_at.mk 3 rfl rfl) rfl (by decide) rfl (Or.inl rfl) rfl rfl rfl ?_
  clear H m; intro m H
  refine w_p h_m20 2 (pc' := 42) (L' := [(0, .ref 106)]) (st' := [.int (0 : Int32), .ref 106]) rfl ?_
  refine w_pf H (12, 18, [(15, .int (0 : Int32)), (14, .int (0 : Int32)), (13, .int (0 : Int32)), (12, .int (0 : Int32)), (11, .int (0 : Int32)), (10, .int (0 : Int32)), (9, .long (0 : Int64)), (8, .int (0 : Int32)), (2, .int (0 : Int32)), (0, .ref 41), (17, .ref 116), (16, .ref 114), (7, .ref 113), (6, .ref 112), (5, .ref 111), (4, .ref 110), (3, .ref 109), (1, .ref 107)], none) (pc' := 45) (L' := [(0, .ref 106)]) h_m20 (z_at.mk 3 rfl rfl) rfl (by decide) rfl (Or.inl rfl) rfl rfl rfl ?_
  clear H m; intro m H
  refine w_rv h_m20 (z_at.mk 1 rfl rfl) rfl ?_
  show z_W 998 145 7 [(0, .ref 39), (1, .int (50 : Int32))] [] m _
  refine w_p h_m145 1 (pc' := 8) (L' := [(0, .ref 39), (1, .int (50 : Int32))]) (st' := [.ref 39]) rfl ?_
  refine w_gf H (pc' := 11) (L' := [(0, .ref 39), (1, .int (50 : Int32))]) h_m145 (z_at.mk 3 rfl rfl) rfl (u := .ref 106) rfl rfl rfl ?_
  refine w_gf H (pc' := 14) (L' := [(0, .ref 39), (1, .int (50 : Int32))]) h_m145 (z_at.mk 3 rfl rfl) rfl (u := .ref 107) rfl rfl rfl ?_
  refine w_p h_m145 1 (pc' := 15) (L' := [(0, .ref 39), (1, .int (50 : Int32))]) (st' := [.ref 39, .ref 107]) rfl ?_
  refine w_gf H (pc' := 18) (L' := [(0, .ref 39), (1, .int (50 : Int32))]) h_m145 (z_at.mk 3 rfl rfl) rfl (u := .ref 40) rfl rfl rfl ?_
  refine w_gf H (pc' := 21) (L' := [(0, .ref 39), (1, .int (50 : Int32))]) h_m145 (z_at.mk 3 rfl rfl) rfl (u := .ref 48) rfl rfl rfl ?_
  refine w_gf H (pc' := 24) (L' := [(0, .ref 39), (1, .int (50 : Int32))]) h_m145 (z_at.mk 3 rfl rfl) rfl (u := .ref 49) rfl rfl rfl ?_
  refine w_cv (H.t rfl) (pc' := 27) (L' := [(0, .ref 39), (1, .int (50 : Int32))]) (rest := []) (Ps := [.ref 49]) (L0 := [(0, .ref 107), (1, .ref 49)]) h_m145 (z_at.mk 3 rfl rfl) (Or.inl ⟨rfl, rfl⟩) rfl rfl (by decide) (by decide) rfl rfl rfl rfl rfl rfl (by decide) rfl rfl rfl ?_
  refine w_p h_m74 1 (pc' := 1) (L' := [(0, .ref 107), (1, .ref 49)]) (st' := [.ref 49]) rfl ?_
  refine w_gf H (pc' := 4) (L' := [(0, .ref 107), (1, .ref 49)]) h_m74 (z_at.mk 3 rfl rfl) rfl (u := .ref 50) rfl rfl rfl ?_
  refine w_p h_m74 2 (pc' := 6) (L' := [(0, .ref 107), (1, .ref 49)]) (st' := [.ref 107, .int (0 : Int32), .ref 50]) rfl ?_
  refine w_gf H (pc' := 9) (L' := [(0, .ref 107), (1, .ref 49)]) h_m74 (z_at.mk 3 rfl rfl) rfl (u := .ref 108) rfl rfl rfl ?_
  refine w_p h_m74 2 (pc' := 12) (L' := [(0, .ref 107), (1, .ref 49)]) (st' := [.int (7 : Int32), .int (0 : Int32), .ref 108, .int (0 : Int32), .ref 50]) rfl ?_
  refine w_cpf H (ra := (0, 7, [(6, .int (1024 : Int32)), (5, .int (1 : Int32)), (4, .int (1 : Int32)), (3, .int (0 : Int32)), (2, .int (12 : Int32)), (1, .int (40 : Int32)), (0, .int (10 : Int32))], some (.int (0 : Int32)))) (pc' := 15) (L' := [(0, .ref 107), (1, .ref 49)]) h_m74 (z_at.mk 3 rfl rfl) rfl (z_cat_le 0 rfl (by decide)) rfl rfl rfl rfl (by decide) rfl rfl ?_
  clear H m; intro m H
  refine w_rv h_m74 (z_at.mk 1 rfl rfl) rfl ?_
  show z_W 998 145 27 [(0, .ref 39), (1, .int (50 : Int32))] [] m _
  refine w_p h_m145 1 (pc' := 28) (L' := [(0, .ref 39), (1, .int (50 : Int32))]) (st' := [.ref 39]) rfl ?_
  refine w_gf H (pc' := 31) (L' := [(0, .ref 39), (1, .int (50 : Int32))]) h_m145 (z_at.mk 3 rfl rfl) rfl (u := .ref 106) rfl rfl rfl ?_
  refine w_gf H (pc' := 34) (L' := [(0, .ref 39), (1, .int (50 : Int32))]) h_m145 (z_at.mk 3 rfl rfl) rfl (u := .ref 107) rfl rfl rfl ?_
  refine w_p h_m145 2 (pc' := 36) (L' := [(0, .ref 39), (1, .int (50 : Int32))]) (st' := [.int (50 : Int32), .int (1 : Int32), .ref 107]) rfl ?_
  refine w_cv (H.t rfl) (pc' := 39) (L' := [(0, .ref 39), (1, .int (50 : Int32))]) (rest := []) (Ps := [.int (1 : Int32), .int (50 : Int32)]) (L0 := [(0, .ref 107), (1, .int (1 : Int32)), (2, .int (50 : Int32))]) h_m145 (z_at.mk 3 rfl rfl) (Or.inl ⟨rfl, rfl⟩) rfl rfl (by decide) (by decide) rfl rfl rfl rfl rfl rfl (by decide) rfl rfl rfl ?_
  refine w_p h_m73 6 (pc' := 11) (L' := [(0, .ref 107), (1, .int (1 : Int32)), (2, .int (50 : Int32))]) (st' := [.ref 107]) rfl ?_
  refine w_gf H (pc' := 14) (L' := [(0, .ref 107), (1, .int (1 : Int32)), (2, .int (50 : Int32))]) h_m73 (z_at.mk 3 rfl rfl) rfl (u := .ref 108) rfl rfl rfl ?_
  refine w_p h_m73 2 (pc' := 16) (L' := [(0, .ref 107), (1, .int (1 : Int32)), (2, .int (50 : Int32))]) (st' := [.int (50 : Int32), .int (1 : Int32), .ref 108]) rfl ?_
  refine w_as H (t := 0) (j := 1) (u := .int (50 : Int32)) (0, 7, [(1, .int (50 : Int32)), (6, .int (1024 : Int32)), (5, .int (1 : Int32)), (4, .int (1 : Int32)), (3, .int (0 : Int32)), (2, .int (12 : Int32)), (0, .int (10 : Int32))], some (.int (0 : Int32))) (pc' := 17) (L' := []) h_m73 (z_at.mk 1 rfl rfl) rfl rfl (w_ui _ _ (by decide)) rfl rfl rfl rfl ?_
  clear H m; intro m H
  refine w_rv h_m73 (z_at.mk 1 rfl rfl) rfl ?_
  show z_W 998 145 39 [(0, .ref 39), (1, .int (50 : Int32))] [] m _
  refine w_p h_m145 4 (pc' := 43) (L' := [(0, .ref 39), (2, .int (0 : Int32))]) (st' := [.ref 39, .int (0 : Int32)]) rfl ?_
  refine w_gf H (pc' := 46) (L' := [(0, .ref 39), (2, .int (0 : Int32))]) h_m145 (z_at.mk 3 rfl rfl) rfl (u := .ref 40) rfl rfl rfl ?_
  refine w_gf H (pc' := 49) (L' := [(0, .ref 39), (2, .int (0 : Int32))]) h_m145 (z_at.mk 3 rfl rfl) rfl (u := .ref 63) rfl rfl rfl ?_
  refine w_gf H (pc' := 52) (L' := [(0, .ref 39), (2, .int (0 : Int32))]) h_m145 (z_at.mk 3 rfl rfl) rfl (u := .int (0 : Int32)) rfl rfl rfl ?_
  refine w_p h_m145 1 (pc' := 79) (L' := [(0, .ref 39), (2, .int (0 : Int32))]) (st' := []) rfl ?_
  refine w_rv h_m145 (z_at.mk 1 rfl rfl) rfl ?_
  show z_W 999 146 13 [(0, .ref 39), (1, .int (xs 1)), (2, .int (50 : Int32))] [] m _
  refine w_p h_m146 1 (pc' := 14) (L' := [(0, .ref 39), (1, .int (xs 1)), (2, .int (50 : Int32))]) (st' := [.ref 39]) rfl ?_
  refine w_gf H (pc' := 17) (L' := [(0, .ref 39), (1, .int (xs 1)), (2, .int (50 : Int32))]) h_m146 (z_at.mk 3 rfl rfl) rfl (u := .ref 106) rfl rfl rfl ?_
  refine w_gf H (pc' := 20) (L' := [(0, .ref 39), (1, .int (xs 1)), (2, .int (50 : Int32))]) h_m146 (z_at.mk 3 rfl rfl) rfl (u := .int (0 : Int32)) rfl rfl rfl ?_
  refine w_p h_m146 1 (pc' := 21) (L' := [(0, .ref 39), (1, .int (xs 1)), (2, .int (50 : Int32))]) (st' := [.int (xs 1), .int (0 : Int32)]) rfl ?_
  refine w_t2 (pc' := 26) (L' := [(0, .ref 39), (1, .int (xs 1)), (2, .int (50 : Int32))]) h_m146 (z_at.mk 3 rfl rfl) rfl (zc (a := 0) (b := (xs 1).toInt) rfl rfl (decide_eq_true (by omega))) rfl rfl ?_
  refine w_p h_m146 2 (pc' := 2) (L' := [(0, .ref 39), (1, .int (xs 1)), (2, .int (51 : Int32))]) (st' := []) rfl ?_
  exact hQ m (H.subC (by decide +kernel))
set_option maxHeartbeats 400000000 in
set_option maxRecDepth 20000 in
theorem w_turn_146_51 {xs : Nat → Int32} {m : zM} {Q : Option Value → zM → Prop} (hp : (xs 1).toInt < 0) (H : w_ok 6 xs 168 63950 ((106, (12, 18, [(15, .int (0 : Int32)), (14, .int (0 : Int32)), (13, .int (0 : Int32)), (12, .int (0 : Int32)), (11, .int (0 : Int32)), (10, .int (0 : Int32)), (9, .long (0 : Int64)), (8, .int (0 : Int32)), (2, .int (0 : Int32)), (0, .ref 41), (17, .ref 116), (16, .ref 114), (7, .ref 113), (6, .ref 112), (5, .ref 111), (4, .ref 110), (3, .ref 109), (1, .ref 107)], none)) :: (108, (0, 7, [(1, .int (50 : Int32)), (6, .int (1024 : Int32)), (5, .int (1 : Int32)), (4, .int (1 : Int32)), (3, .int (0 : Int32)), (2, .int (12 : Int32)), (0, .int (10 : Int32))], some (.int (0 : Int32)))) :: w_T0) m) (hQ : ∀ m, w_ok 6 xs 168 63950 ((106, (12, 18, [(15, .int (0 : Int32)), (14, .int (0 : Int32)), (13, .int (0 : Int32)), (12, .int (0 : Int32)), (11, .int (0 : Int32)), (10, .int (0 : Int32)), (9, .long (0 : Int64)), (8, .int (0 : Int32)), (2, .int (0 : Int32)), (0, .ref 41), (17, .ref 116), (16, .ref 114), (7, .ref 113), (6, .ref 112), (5, .ref 111), (4, .ref 110), (3, .ref 109), (1, .ref 107)], none)) :: (108, (0, 7, [(1, .int (51 : Int32)), (6, .int (1024 : Int32)), (5, .int (1 : Int32)), (4, .int (1 : Int32)), (3, .int (0 : Int32)), (2, .int (12 : Int32)), (0, .int (10 : Int32))], some (.int (0 : Int32)))) :: w_T0) m → z_W 999 146 2 [(0, .ref 39), (1, .int (xs 1)), (2, .int (52 : Int32))] [] m Q) : z_W 999 146 2 [(0, .ref 39), (1, .int (xs 1)), (2, .int (51 : Int32))] [] m Q := by
  refine w_p h_m146 5 (pc' := 10) (L' := [(0, .ref 39), (1, .int (xs 1)), (2, .int (51 : Int32))]) (st' := [.int (51 : Int32), .ref 39]) rfl ?_
  refine w_cv (H.t rfl) (pc' := 13) (L' := [(0, .ref 39), (1, .int (xs 1)), (2, .int (51 : Int32))]) (rest := []) (Ps := [.int (51 : Int32)]) (L0 := [(0, .ref 39), (1, .int (51 : Int32))]) h_m146 (z_at.mk 3 rfl rfl) (Or.inl ⟨rfl, rfl⟩) rfl rfl (by decide) (by decide) rfl rfl rfl rfl rfl rfl (by decide) rfl rfl rfl ?_
  refine w_p h_m145 1 (pc' := 1) (L' := [(0, .ref 39), (1, .int (51 : Int32))]) (st' := [.ref 39]) rfl ?_
  refine w_gf H (pc' := 4) (L' := [(0, .ref 39), (1, .int (51 : Int32))]) h_m145 (z_at.mk 3 rfl rfl) rfl (u := .ref 106) rfl rfl rfl ?_
  refine w_cv (H.t rfl) (pc' := 7) (L' := [(0, .ref 39), (1, .int (51 : Int32))]) (rest := []) (Ps := []) (L0 := [(0, .ref 106)]) h_m145 (z_at.mk 3 rfl rfl) (Or.inl ⟨rfl, rfl⟩) rfl rfl (by decide) (by decide) rfl rfl rfl rfl rfl rfl (by decide) rfl rfl rfl ?_
  refine w_p h_m20 2 (pc' := 2) (L' := [(0, .ref 106)]) (st' := [.int (0 : Int32), .ref 106]) rfl ?_
  refine w_pf H (12, 18, [(2, .int (0 : Int32)), (15, .int (0 : Int32)), (14, .int (0 : Int32)), (13, .int (0 : Int32)), (12, .int (0 : Int32)), (11, .int (0 : Int32)), (10, .int (0 : Int32)), (9, .long (0 : Int64)), (8, .int (0 : Int32)), (0, .ref 41), (17, .ref 116), (16, .ref 114), (7, .ref 113), (6, .ref 112), (5, .ref 111), (4, .ref 110), (3, .ref 109), (1, .ref 107)], none) (pc' := 5) (L' := [(0, .ref 106)]) h_m20 (z_at.mk 3 rfl rfl) rfl (by decide) rfl (Or.inl rfl) rfl rfl rfl ?_
  clear H m; intro m H
  refine w_p h_m20 2 (pc' := 7) (L' := [(0, .ref 106)]) (st' := [.int (0 : Int32), .ref 106]) rfl ?_
  refine w_pf H (12, 18, [(8, .int (0 : Int32)), (2, .int (0 : Int32)), (15, .int (0 : Int32)), (14, .int (0 : Int32)), (13, .int (0 : Int32)), (12, .int (0 : Int32)), (11, .int (0 : Int32)), (10, .int (0 : Int32)), (9, .long (0 : Int64)), (0, .ref 41), (17, .ref 116), (16, .ref 114), (7, .ref 113), (6, .ref 112), (5, .ref 111), (4, .ref 110), (3, .ref 109), (1, .ref 107)], none) (pc' := 10) (L' := [(0, .ref 106)]) h_m20 (z_at.mk 3 rfl rfl) rfl (by decide) rfl (Or.inl rfl) rfl rfl rfl ?_
  clear H m; intro m H
  refine w_p h_m20 2 (pc' := 12) (L' := [(0, .ref 106)]) (st' := [.long (0 : Int64), .ref 106]) rfl ?_
  refine w_pf H (12, 18, [(9, .long (0 : Int64)), (8, .int (0 : Int32)), (2, .int (0 : Int32)), (15, .int (0 : Int32)), (14, .int (0 : Int32)), (13, .int (0 : Int32)), (12, .int (0 : Int32)), (11, .int (0 : Int32)), (10, .int (0 : Int32)), (0, .ref 41), (17, .ref 116), (16, .ref 114), (7, .ref 113), (6, .ref 112), (5, .ref 111), (4, .ref 110), (3, .ref 109), (1, .ref 107)], none) (pc' := 15) (L' := [(0, .ref 106)]) h_m20 (z_at.mk 3 rfl rfl) rfl (by decide) rfl (Or.inl rfl) rfl rfl rfl ?_
  clear H m; intro m H
  refine w_p h_m20 2 (pc' := 17) (L' := [(0, .ref 106)]) (st' := [.int (0 : Int32), .ref 106]) rfl ?_
  refine w_pf H (12, 18, [(10, .int (0 : Int32)), (9, .long (0 : Int64)), (8, .int (0 : Int32)), (2, .int (0 : Int32)), (15, .int (0 : Int32)), (14, .int (0 : Int32)), (13, .int (0 : Int32)), (12, .int (0 : Int32)), (11, .int (0 : Int32)), (0, .ref 41), (17, .ref 116), (16, .ref 114), (7, .ref 113), (6, .ref 112), (5, .ref 111), (4, .ref 110), (3, .ref 109), (1, .ref 107)], none) (pc' := 20) (L' := [(0, .ref 106)]) h_m20 (z_at.mk 3 rfl rfl) rfl (by decide) rfl (Or.inl rfl) rfl rfl rfl ?_
  clear H m; intro m H
  refine w_p h_m20 2 (pc' := 22) (L' := [(0, .ref 106)]) (st' := [.int (0 : Int32), .ref 106]) rfl ?_
  refine w_pf H (12, 18, [(11, .int (0 : Int32)), (10, .int (0 : Int32)), (9, .long (0 : Int64)), (8, .int (0 : Int32)), (2, .int (0 : Int32)), (15, .int (0 : Int32)), (14, .int (0 : Int32)), (13, .int (0 : Int32)), (12, .int (0 : Int32)), (0, .ref 41), (17, .ref 116), (16, .ref 114), (7, .ref 113), (6, .ref 112), (5, .ref 111), (4, .ref 110), (3, .ref 109), (1, .ref 107)], none) (pc' := 25) (L' := [(0, .ref 106)]) h_m20 (z_at.mk 3 rfl rfl) rfl (by decide) rfl (Or.inl rfl) rfl rfl rfl ?_
  clear H m; intro m H
  refine w_p h_m20 2 (pc' := 27) (L' := [(0, .ref 106)]) (st' := [.int (0 : Int32), .ref 106]) rfl ?_
  refine w_pf H (12, 18, [(12, .int (0 : Int32)), (11, .int (0 : Int32)), (10, .int (0 : Int32)), (9, .long (0 : Int64)), (8, .int (0 : Int32)), (2, .int (0 : Int32)), (15, .int (0 : Int32)), (14, .int (0 : Int32)), (13, .int (0 : Int32)), (0, .ref 41), (17, .ref 116), (16, .ref 114), (7, .ref 113), (6, .ref 112), (5, .ref 111), (4, .ref 110), (3, .ref 109), (1, .ref 107)], none) (pc' := 30) (L' := [(0, .ref 106)]) h_m20 (z_at.mk 3 rfl rfl) rfl (by decide) rfl (Or.inl rfl) rfl rfl rfl ?_
  clear H m; intro m H
  refine w_p h_m20 2 (pc' := 32) (L' := [(0, .ref 106)]) (st' := [.int (0 : Int32), .ref 106]) rfl ?_
  refine w_pf H (12, 18, [(13, .int (0 : Int32)), (12, .int (0 : Int32)), (11, .int (0 : Int32)), (10, .int (0 : Int32)), (9, .long (0 : Int64)), (8, .int (0 : Int32)), (2, .int (0 : Int32)), (15, .int (0 : Int32)), (14, .int (0 : Int32)), (0, .ref 41), (17, .ref 116), (16, .ref 114), (7, .ref 113), (6, .ref 112), (5, .ref 111), (4, .ref 110), (3, .ref 109), (1, .ref 107)], none) (pc' := 35) (L' := [(0, .ref 106)]) h_m20 (z_at.mk 3 rfl rfl) rfl (by decide) rfl (Or.inl rfl) rfl rfl rfl ?_
  clear H m; intro m H
  refine w_p h_m20 2 (pc' := 37) (L' := [(0, .ref 106)]) (st' := [.int (0 : Int32), .ref 106]) rfl ?_
  refine w_pf H (12, 18, [(14, .int (0 : Int32)), (13, .int (0 : Int32)), (12, .int (0 : Int32)), (11, .int (0 : Int32)), (10, .int (0 : Int32)), (9, .long (0 : Int64)), (8, .int (0 : Int32)), (2, .int (0 : Int32)), (15, .int (0 : Int32)), (0, .ref 41), (17, .ref 116), (16, .ref 114), (7, .ref 113), (6, .ref 112), (5, .ref 111), (4, .ref 110), (3, .ref 109), (1, .ref 107)], none) (pc' := 40) (L' := [(0, .ref 106)]) h_m20 (z_at.mk 3 rfl rfl) rfl (by decide) rfl (Or.inl rfl) rfl rfl rfl ?_
  clear H m; intro m H
  refine w_p h_m20 2 (pc' := 42) (L' := [(0, .ref 106)]) (st' := [.int (0 : Int32), .ref 106]) rfl ?_
  refine w_pf H (12, 18, [(15, .int (0 : Int32)), (14, .int (0 : Int32)), (13, .int (0 : Int32)), (12, .int (0 : Int32)), (11, .int (0 : Int32)), (10, .int (0 : Int32)), (9, .long (0 : Int64)), (8, .int (0 : Int32)), (2, .int (0 : Int32)), (0, .ref 41), (17, .ref 116), (16, .ref 114), (7, .ref 113), (6, .ref 112), (5, .ref 111), (4, .ref 110), (3, .ref 109), (1, .ref 107)], none) (pc' := 45) (L' := [(0, .ref 106)]) h_m20 (z_at.mk 3 rfl rfl) rfl (by decide) rfl (Or.inl rfl) rfl rfl rfl ?_
  clear H m; intro m H
  refine w_rv h_m20 (z_at.mk 1 rfl rfl) rfl ?_
  show z_W 998 145 7 [(0, .ref 39), (1, .int (51 : Int32))] [] m _
  refine w_p h_m145 1 (pc' := 8) (L' := [(0, .ref 39), (1, .int (51 : Int32))]) (st' := [.ref 39]) rfl ?_
  refine w_gf H (pc' := 11) (L' := [(0, .ref 39), (1, .int (51 : Int32))]) h_m145 (z_at.mk 3 rfl rfl) rfl (u := .ref 106) rfl rfl rfl ?_
  refine w_gf H (pc' := 14) (L' := [(0, .ref 39), (1, .int (51 : Int32))]) h_m145 (z_at.mk 3 rfl rfl) rfl (u := .ref 107) rfl rfl rfl ?_
  refine w_p h_m145 1 (pc' := 15) (L' := [(0, .ref 39), (1, .int (51 : Int32))]) (st' := [.ref 39, .ref 107]) rfl ?_
  refine w_gf H (pc' := 18) (L' := [(0, .ref 39), (1, .int (51 : Int32))]) h_m145 (z_at.mk 3 rfl rfl) rfl (u := .ref 40) rfl rfl rfl ?_
  refine w_gf H (pc' := 21) (L' := [(0, .ref 39), (1, .int (51 : Int32))]) h_m145 (z_at.mk 3 rfl rfl) rfl (u := .ref 48) rfl rfl rfl ?_
  refine w_gf H (pc' := 24) (L' := [(0, .ref 39), (1, .int (51 : Int32))]) h_m145 (z_at.mk 3 rfl rfl) rfl (u := .ref 49) rfl rfl rfl ?_
  refine w_cv (H.t rfl) (pc' := 27) (L' := [(0, .ref 39), (1, .int (51 : Int32))]) (rest := []) (Ps := [.ref 49]) (L0 := [(0, .ref 107), (1, .ref 49)]) h_m145 (z_at.mk 3 rfl rfl) (Or.inl ⟨rfl, rfl⟩) rfl rfl (by decide) (by decide) rfl rfl rfl rfl rfl rfl (by decide) rfl rfl rfl ?_
  refine w_p h_m74 1 (pc' := 1) (L' := [(0, .ref 107), (1, .ref 49)]) (st' := [.ref 49]) rfl ?_
  refine w_gf H (pc' := 4) (L' := [(0, .ref 107), (1, .ref 49)]) h_m74 (z_at.mk 3 rfl rfl) rfl (u := .ref 50) rfl rfl rfl ?_
  refine w_p h_m74 2 (pc' := 6) (L' := [(0, .ref 107), (1, .ref 49)]) (st' := [.ref 107, .int (0 : Int32), .ref 50]) rfl ?_
  refine w_gf H (pc' := 9) (L' := [(0, .ref 107), (1, .ref 49)]) h_m74 (z_at.mk 3 rfl rfl) rfl (u := .ref 108) rfl rfl rfl ?_
  refine w_p h_m74 2 (pc' := 12) (L' := [(0, .ref 107), (1, .ref 49)]) (st' := [.int (7 : Int32), .int (0 : Int32), .ref 108, .int (0 : Int32), .ref 50]) rfl ?_
  refine w_cpf H (ra := (0, 7, [(6, .int (1024 : Int32)), (5, .int (1 : Int32)), (4, .int (1 : Int32)), (3, .int (0 : Int32)), (2, .int (12 : Int32)), (1, .int (40 : Int32)), (0, .int (10 : Int32))], some (.int (0 : Int32)))) (pc' := 15) (L' := [(0, .ref 107), (1, .ref 49)]) h_m74 (z_at.mk 3 rfl rfl) rfl (z_cat_le 0 rfl (by decide)) rfl rfl rfl rfl (by decide) rfl rfl ?_
  clear H m; intro m H
  refine w_rv h_m74 (z_at.mk 1 rfl rfl) rfl ?_
  show z_W 998 145 27 [(0, .ref 39), (1, .int (51 : Int32))] [] m _
  refine w_p h_m145 1 (pc' := 28) (L' := [(0, .ref 39), (1, .int (51 : Int32))]) (st' := [.ref 39]) rfl ?_
  refine w_gf H (pc' := 31) (L' := [(0, .ref 39), (1, .int (51 : Int32))]) h_m145 (z_at.mk 3 rfl rfl) rfl (u := .ref 106) rfl rfl rfl ?_
  refine w_gf H (pc' := 34) (L' := [(0, .ref 39), (1, .int (51 : Int32))]) h_m145 (z_at.mk 3 rfl rfl) rfl (u := .ref 107) rfl rfl rfl ?_
  refine w_p h_m145 2 (pc' := 36) (L' := [(0, .ref 39), (1, .int (51 : Int32))]) (st' := [.int (51 : Int32), .int (1 : Int32), .ref 107]) rfl ?_
  refine w_cv (H.t rfl) (pc' := 39) (L' := [(0, .ref 39), (1, .int (51 : Int32))]) (rest := []) (Ps := [.int (1 : Int32), .int (51 : Int32)]) (L0 := [(0, .ref 107), (1, .int (1 : Int32)), (2, .int (51 : Int32))]) h_m145 (z_at.mk 3 rfl rfl) (Or.inl ⟨rfl, rfl⟩) rfl rfl (by decide) (by decide) rfl rfl rfl rfl rfl rfl (by decide) rfl rfl rfl ?_
  refine w_p h_m73 6 (pc' := 11) (L' := [(0, .ref 107), (1, .int (1 : Int32)), (2, .int (51 : Int32))]) (st' := [.ref 107]) rfl ?_
  refine w_gf H (pc' := 14) (L' := [(0, .ref 107), (1, .int (1 : Int32)), (2, .int (51 : Int32))]) h_m73 (z_at.mk 3 rfl rfl) rfl (u := .ref 108) rfl rfl rfl ?_
  refine w_p h_m73 2 (pc' := 16) (L' := [(0, .ref 107), (1, .int (1 : Int32)), (2, .int (51 : Int32))]) (st' := [.int (51 : Int32), .int (1 : Int32), .ref 108]) rfl ?_
  refine w_as H (t := 0) (j := 1) (u := .int (51 : Int32)) (0, 7, [(1, .int (51 : Int32)), (6, .int (1024 : Int32)), (5, .int (1 : Int32)), (4, .int (1 : Int32)), (3, .int (0 : Int32)), (2, .int (12 : Int32)), (0, .int (10 : Int32))], some (.int (0 : Int32))) (pc' := 17) (L' := []) h_m73 (z_at.mk 1 rfl rfl) rfl rfl (w_ui _ _ (by decide)) rfl rfl rfl rfl ?_
  clear H m; intro m H
  refine w_rv h_m73 (z_at.mk 1 rfl rfl) rfl ?_
  show z_W 998 145 39 [(0, .ref 39), (1, .int (51 : Int32))] [] m _
  refine w_p h_m145 4 (pc' := 43) (L' := [(0, .ref 39), (2, .int (0 : Int32))]) (st' := [.ref 39, .int (0 : Int32)]) rfl ?_
  refine w_gf H (pc' := 46) (L' := [(0, .ref 39), (2, .int (0 : Int32))]) h_m145 (z_at.mk 3 rfl rfl) rfl (u := .ref 40) rfl rfl rfl ?_
  refine w_gf H (pc' := 49) (L' := [(0, .ref 39), (2, .int (0 : Int32))]) h_m145 (z_at.mk 3 rfl rfl) rfl (u := .ref 63) rfl rfl rfl ?_
  refine w_gf H (pc' := 52) (L' := [(0, .ref 39), (2, .int (0 : Int32))]) h_m145 (z_at.mk 3 rfl rfl) rfl (u := .int (0 : Int32)) rfl rfl rfl ?_
  refine w_p h_m145 1 (pc' := 79) (L' := [(0, .ref 39), (2, .int (0 : Int32))]) (st' := []) rfl ?_
  refine w_rv h_m145 (z_at.mk 1 rfl rfl) rfl ?_
  show z_W 999 146 13 [(0, .ref 39), (1, .int (xs 1)), (2, .int (51 : Int32))] [] m _
  refine w_p h_m146 1 (pc' := 14) (L' := [(0, .ref 39), (1, .int (xs 1)), (2, .int (51 : Int32))]) (st' := [.ref 39]) rfl ?_
  refine w_gf H (pc' := 17) (L' := [(0, .ref 39), (1, .int (xs 1)), (2, .int (51 : Int32))]) h_m146 (z_at.mk 3 rfl rfl) rfl (u := .ref 106) rfl rfl rfl ?_
  refine w_gf H (pc' := 20) (L' := [(0, .ref 39), (1, .int (xs 1)), (2, .int (51 : Int32))]) h_m146 (z_at.mk 3 rfl rfl) rfl (u := .int (0 : Int32)) rfl rfl rfl ?_
  refine w_p h_m146 1 (pc' := 21) (L' := [(0, .ref 39), (1, .int (xs 1)), (2, .int (51 : Int32))]) (st' := [.int (xs 1), .int (0 : Int32)]) rfl ?_
  refine w_t2 (pc' := 26) (L' := [(0, .ref 39), (1, .int (xs 1)), (2, .int (51 : Int32))]) h_m146 (z_at.mk 3 rfl rfl) rfl (zc (a := 0) (b := (xs 1).toInt) rfl rfl (decide_eq_true (by omega))) rfl rfl ?_
  refine w_p h_m146 2 (pc' := 2) (L' := [(0, .ref 39), (1, .int (xs 1)), (2, .int (52 : Int32))]) (st' := []) rfl ?_
  exact hQ m (H.subC (by decide +kernel))
set_option maxHeartbeats 400000000 in
set_option maxRecDepth 20000 in
theorem w_turn_146_52 {xs : Nat → Int32} {m : zM} {Q : Option Value → zM → Prop} (hp : (xs 1).toInt < 0) (H : w_ok 6 xs 168 63950 ((106, (12, 18, [(15, .int (0 : Int32)), (14, .int (0 : Int32)), (13, .int (0 : Int32)), (12, .int (0 : Int32)), (11, .int (0 : Int32)), (10, .int (0 : Int32)), (9, .long (0 : Int64)), (8, .int (0 : Int32)), (2, .int (0 : Int32)), (0, .ref 41), (17, .ref 116), (16, .ref 114), (7, .ref 113), (6, .ref 112), (5, .ref 111), (4, .ref 110), (3, .ref 109), (1, .ref 107)], none)) :: (108, (0, 7, [(1, .int (51 : Int32)), (6, .int (1024 : Int32)), (5, .int (1 : Int32)), (4, .int (1 : Int32)), (3, .int (0 : Int32)), (2, .int (12 : Int32)), (0, .int (10 : Int32))], some (.int (0 : Int32)))) :: w_T0) m) (hQ : ∀ m, w_ok 6 xs 168 63950 ((106, (12, 18, [(15, .int (0 : Int32)), (14, .int (0 : Int32)), (13, .int (0 : Int32)), (12, .int (0 : Int32)), (11, .int (0 : Int32)), (10, .int (0 : Int32)), (9, .long (0 : Int64)), (8, .int (0 : Int32)), (2, .int (0 : Int32)), (0, .ref 41), (17, .ref 116), (16, .ref 114), (7, .ref 113), (6, .ref 112), (5, .ref 111), (4, .ref 110), (3, .ref 109), (1, .ref 107)], none)) :: (108, (0, 7, [(1, .int (52 : Int32)), (6, .int (1024 : Int32)), (5, .int (1 : Int32)), (4, .int (1 : Int32)), (3, .int (0 : Int32)), (2, .int (12 : Int32)), (0, .int (10 : Int32))], some (.int (0 : Int32)))) :: w_T0) m → z_W 999 146 2 [(0, .ref 39), (1, .int (xs 1)), (2, .int (53 : Int32))] [] m Q) : z_W 999 146 2 [(0, .ref 39), (1, .int (xs 1)), (2, .int (52 : Int32))] [] m Q := by
  refine w_p h_m146 5 (pc' := 10) (L' := [(0, .ref 39), (1, .int (xs 1)), (2, .int (52 : Int32))]) (st' := [.int (52 : Int32), .ref 39]) rfl ?_
  refine w_cv (H.t rfl) (pc' := 13) (L' := [(0, .ref 39), (1, .int (xs 1)), (2, .int (52 : Int32))]) (rest := []) (Ps := [.int (52 : Int32)]) (L0 := [(0, .ref 39), (1, .int (52 : Int32))]) h_m146 (z_at.mk 3 rfl rfl) (Or.inl ⟨rfl, rfl⟩) rfl rfl (by decide) (by decide) rfl rfl rfl rfl rfl rfl (by decide) rfl rfl rfl ?_
  refine w_p h_m145 1 (pc' := 1) (L' := [(0, .ref 39), (1, .int (52 : Int32))]) (st' := [.ref 39]) rfl ?_
  refine w_gf H (pc' := 4) (L' := [(0, .ref 39), (1, .int (52 : Int32))]) h_m145 (z_at.mk 3 rfl rfl) rfl (u := .ref 106) rfl rfl rfl ?_
  refine w_cv (H.t rfl) (pc' := 7) (L' := [(0, .ref 39), (1, .int (52 : Int32))]) (rest := []) (Ps := []) (L0 := [(0, .ref 106)]) h_m145 (z_at.mk 3 rfl rfl) (Or.inl ⟨rfl, rfl⟩) rfl rfl (by decide) (by decide) rfl rfl rfl rfl rfl rfl (by decide) rfl rfl rfl ?_
  refine w_p h_m20 2 (pc' := 2) (L' := [(0, .ref 106)]) (st' := [.int (0 : Int32), .ref 106]) rfl ?_
  refine w_pf H (12, 18, [(2, .int (0 : Int32)), (15, .int (0 : Int32)), (14, .int (0 : Int32)), (13, .int (0 : Int32)), (12, .int (0 : Int32)), (11, .int (0 : Int32)), (10, .int (0 : Int32)), (9, .long (0 : Int64)), (8, .int (0 : Int32)), (0, .ref 41), (17, .ref 116), (16, .ref 114), (7, .ref 113), (6, .ref 112), (5, .ref 111), (4, .ref 110), (3, .ref 109), (1, .ref 107)], none) (pc' := 5) (L' := [(0, .ref 106)]) h_m20 (z_at.mk 3 rfl rfl) rfl (by decide) rfl (Or.inl rfl) rfl rfl rfl ?_
  clear H m; intro m H
  refine w_p h_m20 2 (pc' := 7) (L' := [(0, .ref 106)]) (st' := [.int (0 : Int32), .ref 106]) rfl ?_
  refine w_pf H (12, 18, [(8, .int (0 : Int32)), (2, .int (0 : Int32)), (15, .int (0 : Int32)), (14, .int (0 : Int32)), (13, .int (0 : Int32)), (12, .int (0 : Int32)), (11, .int (0 : Int32)), (10, .int (0 : Int32)), (9, .long (0 : Int64)), (0, .ref 41), (17, .ref 116), (16, .ref 114), (7, .ref 113), (6, .ref 112), (5, .ref 111), (4, .ref 110), (3, .ref 109), (1, .ref 107)], none) (pc' := 10) (L' := [(0, .ref 106)]) h_m20 (z_at.mk 3 rfl rfl) rfl (by decide) rfl (Or.inl rfl) rfl rfl rfl ?_
  clear H m; intro m H
  refine w_p h_m20 2 (pc' := 12) (L' := [(0, .ref 106)]) (st' := [.long (0 : Int64), .ref 106]) rfl ?_
  refine w_pf H (12, 18, [(9, .long (0 : Int64)), (8, .int (0 : Int32)), (2, .int (0 : Int32)), (15, .int (0 : Int32)), (14, .int (0 : Int32)), (13, .int (0 : Int32)), (12, .int (0 : Int32)), (11, .int (0 : Int32)), (10, .int (0 : Int32)), (0, .ref 41), (17, .ref 116), (16, .ref 114), (7, .ref 113), (6, .ref 112), (5, .ref 111), (4, .ref 110), (3, .ref 109), (1, .ref 107)], none) (pc' := 15) (L' := [(0, .ref 106)]) h_m20 (z_at.mk 3 rfl rfl) rfl (by decide) rfl (Or.inl rfl) rfl rfl rfl ?_
  clear H m; intro m H
  refine w_p h_m20 2 (pc' := 17) (L' := [(0, .ref 106)]) (st' := [.int (0 : Int32), .ref 106]) rfl ?_
  refine w_pf H (12, 18, [(10, .int (0 : Int32)), (9, .long (0 : Int64)), (8, .int (0 : Int32)), (2, .int (0 : Int32)), (15, .int (0 : Int32)), (14, .int (0 : Int32)), (13, .int (0 : Int32)), (12, .int (0 : Int32)), (11, .int (0 : Int32)), (0, .ref 41), (17, .ref 116), (16, .ref 114), (7, .ref 113), (6, .ref 112), (5, .ref 111), (4, .ref 110), (3, .ref 109), (1, .ref 107)], none) (pc' := 20) (L' := [(0, .ref 106)]) h_m20 (z_at.mk 3 rfl rfl) rfl (by decide) rfl (Or.inl rfl) rfl rfl rfl ?_
  clear H m; intro m H
  refine w_p h_m20 2 (pc' := 22) (L' := [(0, .ref 106)]) (st' := [.int (0 : Int32), .ref 106]) rfl ?_
  refine w_pf H (12, 18, [(11, .int (0 : Int32)), (10, .int (0 : Int32)), (9, .long (0 : Int64)), (8, .int (0 : Int32)), (2, .int (0 : Int32)), (15, .int (0 : Int32)), (14, .int (0 : Int32)), (13, .int (0 : Int32)), (12, .int (0 : Int32)), (0, .ref 41), (17, .ref 116), (16, .ref 114), (7, .ref 113), (6, .ref 112), (5, .ref 111), (4, .ref 110), (3, .ref 109), (1, .ref 107)], none) (pc' := 25) (L' := [(0, .ref 106)]) h_m20 (z_at.mk 3 rfl rfl) rfl (by decide) rfl (Or.inl rfl) rfl rfl rfl ?_
  clear H m; intro m H
  refine w_p h_m20 2 (pc' := 27) (L' := [(0, .ref 106)]) (st' := [.int (0 : Int32), .ref 106]) rfl ?_
  refine w_pf H (12, 18, [(12, .int (0 : Int32)), (11, .int (0 : Int32)), (10, .int (0 : Int32)), (9, .long (0 : Int64)), (8, .int (0 : Int32)), (2, .int (0 : Int32)), (15, .int (0 : Int32)), (14, .int (0 : Int32)), (13, .int (0 : Int32)), (0, .ref 41), (17, .ref 116), (16, .ref 114), (7, .ref 113), (6, .ref 112), (5, .ref 111), (4, .ref 110), (3, .ref 109), (1, .ref 107)], none) (pc' := 30) (L' := [(0, .ref 106)]) h_m20 (z_at.mk 3 rfl rfl) rfl (by decide) rfl (Or.inl rfl) rfl rfl rfl ?_
  clear H m; intro m H
  refine w_p h_m20 2 (pc' := 32) (L' := [(0, .ref 106)]) (st' := [.int (0 : Int32), .ref 106]) rfl ?_
  refine w_pf H (12, 18, [(13, .int (0 : Int32)), (12, .int (0 : Int32)), (11, .int (0 : Int32)), (10, .int (0 : Int32)), (9, .long (0 : Int64)), (8, .int (0 : Int32)), (2, .int (0 : Int32)), (15, .int (0 : Int32)), (14, .int (0 : Int32)), (0, .ref 41), (17, .ref 116), (16, .ref 114), (7, .ref 113), (6, .ref 112), (5, .ref 111), (4, .ref 110), (3, .ref 109), (1, .ref 107)], none) (pc' := 35) (L' := [(0, .ref 106)]) h_m20 (z_at.mk 3 rfl rfl) rfl (by decide) rfl (Or.inl rfl) rfl rfl rfl ?_
  clear H m; intro m H
  refine w_p h_m20 2 (pc' := 37) (L' := [(0, .ref 106)]) (st' := [.int (0 : Int32), .ref 106]) rfl ?_
  refine w_pf H (12, 18, [(14, .int (0 : Int32)), (13, .int (0 : Int32)), (12, .int (0 : Int32)), (11, .int (0 : Int32)), (10, .int (0 : Int32)), (9, .long (0 : Int64)), (8, .int (0 : Int32)), (2, .int (0 : Int32)), (15, .int (0 : Int32)), (0, .ref 41), (17, .ref 116), (16, .ref 114), (7, .ref 113), (6, .ref 112), (5, .ref 111), (4, .ref 110), (3, .ref 109), (1, .ref 107)], none) (pc' := 40) (L' := [(0, .ref 106)]) h_m20 (z_at.mk 3 rfl rfl) rfl (by decide) rfl (Or.inl rfl) rfl rfl rfl ?_
  clear H m; intro m H
  refine w_p h_m20 2 (pc' := 42) (L' := [(0, .ref 106)]) (st' := [.int (0 : Int32), .ref 106]) rfl ?_
  refine w_pf H (12, 18, [(15, .int (0 : Int32)), (14, .int (0 : Int32)), (13, .int (0 : Int32)), (12, .int (0 : Int32)), (11, .int (0 : Int32)), (10, .int (0 : Int32)), (9, .long (0 : Int64)), (8, .int (0 : Int32)), (2, .int (0 : Int32)), (0, .ref 41), (17, .ref 116), (16, .ref 114), (7, .ref 113), (6, .ref 112), (5, .ref 111), (4, .ref 110), (3, .ref 109), (1, .ref 107)], none) (pc' := 45) (L' := [(0, .ref 106)]) h_m20 (z_at.mk 3 rfl rfl) rfl (by decide) rfl (Or.inl rfl) rfl rfl rfl ?_
  clear H m; intro m H
  refine w_rv h_m20 (z_at.mk 1 rfl rfl) rfl ?_
  show z_W 998 145 7 [(0, .ref 39), (1, .int (52 : Int32))] [] m _
  refine w_p h_m145 1 (pc' := 8) (L' := [(0, .ref 39), (1, .int (52 : Int32))]) (st' := [.ref 39]) rfl ?_
  refine w_gf H (pc' := 11) (L' := [(0, .ref 39), (1, .int (52 : Int32))]) h_m145 (z_at.mk 3 rfl rfl) rfl (u := .ref 106) rfl rfl rfl ?_
  refine w_gf H (pc' := 14) (L' := [(0, .ref 39), (1, .int (52 : Int32))]) h_m145 (z_at.mk 3 rfl rfl) rfl (u := .ref 107) rfl rfl rfl ?_
  refine w_p h_m145 1 (pc' := 15) (L' := [(0, .ref 39), (1, .int (52 : Int32))]) (st' := [.ref 39, .ref 107]) rfl ?_
  refine w_gf H (pc' := 18) (L' := [(0, .ref 39), (1, .int (52 : Int32))]) h_m145 (z_at.mk 3 rfl rfl) rfl (u := .ref 40) rfl rfl rfl ?_
  refine w_gf H (pc' := 21) (L' := [(0, .ref 39), (1, .int (52 : Int32))]) h_m145 (z_at.mk 3 rfl rfl) rfl (u := .ref 48) rfl rfl rfl ?_
  refine w_gf H (pc' := 24) (L' := [(0, .ref 39), (1, .int (52 : Int32))]) h_m145 (z_at.mk 3 rfl rfl) rfl (u := .ref 49) rfl rfl rfl ?_
  refine w_cv (H.t rfl) (pc' := 27) (L' := [(0, .ref 39), (1, .int (52 : Int32))]) (rest := []) (Ps := [.ref 49]) (L0 := [(0, .ref 107), (1, .ref 49)]) h_m145 (z_at.mk 3 rfl rfl) (Or.inl ⟨rfl, rfl⟩) rfl rfl (by decide) (by decide) rfl rfl rfl rfl rfl rfl (by decide) rfl rfl rfl ?_
  refine w_p h_m74 1 (pc' := 1) (L' := [(0, .ref 107), (1, .ref 49)]) (st' := [.ref 49]) rfl ?_
  refine w_gf H (pc' := 4) (L' := [(0, .ref 107), (1, .ref 49)]) h_m74 (z_at.mk 3 rfl rfl) rfl (u := .ref 50) rfl rfl rfl ?_
  refine w_p h_m74 2 (pc' := 6) (L' := [(0, .ref 107), (1, .ref 49)]) (st' := [.ref 107, .int (0 : Int32), .ref 50]) rfl ?_
  refine w_gf H (pc' := 9) (L' := [(0, .ref 107), (1, .ref 49)]) h_m74 (z_at.mk 3 rfl rfl) rfl (u := .ref 108) rfl rfl rfl ?_
  refine w_p h_m74 2 (pc' := 12) (L' := [(0, .ref 107), (1, .ref 49)]) (st' := [.int (7 : Int32), .int (0 : Int32), .ref 108, .int (0 : Int32), .ref 50]) rfl ?_
  refine w_cpf H (ra := (0, 7, [(6, .int (1024 : Int32)), (5, .int (1 : Int32)), (4, .int (1 : Int32)), (3, .int (0 : Int32)), (2, .int (12 : Int32)), (1, .int (40 : Int32)), (0, .int (10 : Int32))], some (.int (0 : Int32)))) (pc' := 15) (L' := [(0, .ref 107), (1, .ref 49)]) h_m74 (z_at.mk 3 rfl rfl) rfl (z_cat_le 0 rfl (by decide)) rfl rfl rfl rfl (by decide) rfl rfl ?_
  clear H m; intro m H
  refine w_rv h_m74 (z_at.mk 1 rfl rfl) rfl ?_
  show z_W 998 145 27 [(0, .ref 39), (1, .int (52 : Int32))] [] m _
  refine w_p h_m145 1 (pc' := 28) (L' := [(0, .ref 39), (1, .int (52 : Int32))]) (st' := [.ref 39]) rfl ?_
  refine w_gf H (pc' := 31) (L' := [(0, .ref 39), (1, .int (52 : Int32))]) h_m145 (z_at.mk 3 rfl rfl) rfl (u := .ref 106) rfl rfl rfl ?_
  refine w_gf H (pc' := 34) (L' := [(0, .ref 39), (1, .int (52 : Int32))]) h_m145 (z_at.mk 3 rfl rfl) rfl (u := .ref 107) rfl rfl rfl ?_
  refine w_p h_m145 2 (pc' := 36) (L' := [(0, .ref 39), (1, .int (52 : Int32))]) (st' := [.int (52 : Int32), .int (1 : Int32), .ref 107]) rfl ?_
  refine w_cv (H.t rfl) (pc' := 39) (L' := [(0, .ref 39), (1, .int (52 : Int32))]) (rest := []) (Ps := [.int (1 : Int32), .int (52 : Int32)]) (L0 := [(0, .ref 107), (1, .int (1 : Int32)), (2, .int (52 : Int32))]) h_m145 (z_at.mk 3 rfl rfl) (Or.inl ⟨rfl, rfl⟩) rfl rfl (by decide) (by decide) rfl rfl rfl rfl rfl rfl (by decide) rfl rfl rfl ?_
  refine w_p h_m73 6 (pc' := 11) (L' := [(0, .ref 107), (1, .int (1 : Int32)), (2, .int (52 : Int32))]) (st' := [.ref 107]) rfl ?_
  refine w_gf H (pc' := 14) (L' := [(0, .ref 107), (1, .int (1 : Int32)), (2, .int (52 : Int32))]) h_m73 (z_at.mk 3 rfl rfl) rfl (u := .ref 108) rfl rfl rfl ?_
  refine w_p h_m73 2 (pc' := 16) (L' := [(0, .ref 107), (1, .int (1 : Int32)), (2, .int (52 : Int32))]) (st' := [.int (52 : Int32), .int (1 : Int32), .ref 108]) rfl ?_
  refine w_as H (t := 0) (j := 1) (u := .int (52 : Int32)) (0, 7, [(1, .int (52 : Int32)), (6, .int (1024 : Int32)), (5, .int (1 : Int32)), (4, .int (1 : Int32)), (3, .int (0 : Int32)), (2, .int (12 : Int32)), (0, .int (10 : Int32))], some (.int (0 : Int32))) (pc' := 17) (L' := []) h_m73 (z_at.mk 1 rfl rfl) rfl rfl (w_ui _ _ (by decide)) rfl rfl rfl rfl ?_
  clear H m; intro m H
  refine w_rv h_m73 (z_at.mk 1 rfl rfl) rfl ?_
  show z_W 998 145 39 [(0, .ref 39), (1, .int (52 : Int32))] [] m _
  refine w_p h_m145 4 (pc' := 43) (L' := [(0, .ref 39), (2, .int (0 : Int32))]) (st' := [.ref 39, .int (0 : Int32)]) rfl ?_
  refine w_gf H (pc' := 46) (L' := [(0, .ref 39), (2, .int (0 : Int32))]) h_m145 (z_at.mk 3 rfl rfl) rfl (u := .ref 40) rfl rfl rfl ?_
  refine w_gf H (pc' := 49) (L' := [(0, .ref 39), (2, .int (0 : Int32))]) h_m145 (z_at.mk 3 rfl rfl) rfl (u := .ref 63) rfl rfl rfl ?_
  refine w_gf H (pc' := 52) (L' := [(0, .ref 39), (2, .int (0 : Int32))]) h_m145 (z_at.mk 3 rfl rfl) rfl (u := .int (0 : Int32)) rfl rfl rfl ?_
  refine w_p h_m145 1 (pc' := 79) (L' := [(0, .ref 39), (2, .int (0 : Int32))]) (st' := []) rfl ?_
  refine w_rv h_m145 (z_at.mk 1 rfl rfl) rfl ?_
  show z_W 999 146 13 [(0, .ref 39), (1, .int (xs 1)), (2, .int (52 : Int32))] [] m _
  refine w_p h_m146 1 (pc' := 14) (L' := [(0, .ref 39), (1, .int (xs 1)), (2, .int (52 : Int32))]) (st' := [.ref 39]) rfl ?_
  refine w_gf H (pc' := 17) (L' := [(0, .ref 39), (1, .int (xs 1)), (2, .int (52 : Int32))]) h_m146 (z_at.mk 3 rfl rfl) rfl (u := .ref 106) rfl rfl rfl ?_
  refine w_gf H (pc' := 20) (L' := [(0, .ref 39), (1, .int (xs 1)), (2, .int (52 : Int32))]) h_m146 (z_at.mk 3 rfl rfl) rfl (u := .int (0 : Int32)) rfl rfl rfl ?_
  refine w_p h_m146 1 (pc' := 21) (L' := [(0, .ref 39), (1, .int (xs 1)), (2, .int (52 : Int32))]) (st' := [.int (xs 1), .int (0 : Int32)]) rfl ?_
  refine w_t2 (pc' := 26) (L' := [(0, .ref 39), (1, .int (xs 1)), (2, .int (52 : Int32))]) h_m146 (z_at.mk 3 rfl rfl) rfl (zc (a := 0) (b := (xs 1).toInt) rfl rfl (decide_eq_true (by omega))) rfl rfl ?_
  refine w_p h_m146 2 (pc' := 2) (L' := [(0, .ref 39), (1, .int (xs 1)), (2, .int (53 : Int32))]) (st' := []) rfl ?_
  exact hQ m (H.subC (by decide +kernel))
set_option maxHeartbeats 400000000 in
set_option maxRecDepth 20000 in
theorem w_turn_146_53 {xs : Nat → Int32} {m : zM} {Q : Option Value → zM → Prop} (hp : (xs 1).toInt < 0) (H : w_ok 6 xs 168 63950 ((106, (12, 18, [(15, .int (0 : Int32)), (14, .int (0 : Int32)), (13, .int (0 : Int32)), (12, .int (0 : Int32)), (11, .int (0 : Int32)), (10, .int (0 : Int32)), (9, .long (0 : Int64)), (8, .int (0 : Int32)), (2, .int (0 : Int32)), (0, .ref 41), (17, .ref 116), (16, .ref 114), (7, .ref 113), (6, .ref 112), (5, .ref 111), (4, .ref 110), (3, .ref 109), (1, .ref 107)], none)) :: (108, (0, 7, [(1, .int (52 : Int32)), (6, .int (1024 : Int32)), (5, .int (1 : Int32)), (4, .int (1 : Int32)), (3, .int (0 : Int32)), (2, .int (12 : Int32)), (0, .int (10 : Int32))], some (.int (0 : Int32)))) :: w_T0) m) (hQ : ∀ m, w_ok 6 xs 168 63950 ((106, (12, 18, [(15, .int (0 : Int32)), (14, .int (0 : Int32)), (13, .int (0 : Int32)), (12, .int (0 : Int32)), (11, .int (0 : Int32)), (10, .int (0 : Int32)), (9, .long (0 : Int64)), (8, .int (0 : Int32)), (2, .int (0 : Int32)), (0, .ref 41), (17, .ref 116), (16, .ref 114), (7, .ref 113), (6, .ref 112), (5, .ref 111), (4, .ref 110), (3, .ref 109), (1, .ref 107)], none)) :: (108, (0, 7, [(1, .int (53 : Int32)), (6, .int (1024 : Int32)), (5, .int (1 : Int32)), (4, .int (1 : Int32)), (3, .int (0 : Int32)), (2, .int (12 : Int32)), (0, .int (10 : Int32))], some (.int (0 : Int32)))) :: w_T0) m → z_W 999 146 2 [(0, .ref 39), (1, .int (xs 1)), (2, .int (54 : Int32))] [] m Q) : z_W 999 146 2 [(0, .ref 39), (1, .int (xs 1)), (2, .int (53 : Int32))] [] m Q := by
  refine w_p h_m146 5 (pc' := 10) (L' := [(0, .ref 39), (1, .int (xs 1)), (2, .int (53 : Int32))]) (st' := [.int (53 : Int32), .ref 39]) rfl ?_
  refine w_cv (H.t rfl) (pc' := 13) (L' := [(0, .ref 39), (1, .int (xs 1)), (2, .int (53 : Int32))]) (rest := []) (Ps := [.int (53 : Int32)]) (L0 := [(0, .ref 39), (1, .int (53 : Int32))]) h_m146 (z_at.mk 3 rfl rfl) (Or.inl ⟨rfl, rfl⟩) rfl rfl (by decide) (by decide) rfl rfl rfl rfl rfl rfl (by decide) rfl rfl rfl ?_
  refine w_p h_m145 1 (pc' := 1) (L' := [(0, .ref 39), (1, .int (53 : Int32))]) (st' := [.ref 39]) rfl ?_
  refine w_gf H (pc' := 4) (L' := [(0, .ref 39), (1, .int (53 : Int32))]) h_m145 (z_at.mk 3 rfl rfl) rfl (u := .ref 106) rfl rfl rfl ?_
  refine w_cv (H.t rfl) (pc' := 7) (L' := [(0, .ref 39), (1, .int (53 : Int32))]) (rest := []) (Ps := []) (L0 := [(0, .ref 106)]) h_m145 (z_at.mk 3 rfl rfl) (Or.inl ⟨rfl, rfl⟩) rfl rfl (by decide) (by decide) rfl rfl rfl rfl rfl rfl (by decide) rfl rfl rfl ?_
  refine w_p h_m20 2 (pc' := 2) (L' := [(0, .ref 106)]) (st' := [.int (0 : Int32), .ref 106]) rfl ?_
  refine w_pf H (12, 18, [(2, .int (0 : Int32)), (15, .int (0 : Int32)), (14, .int (0 : Int32)), (13, .int (0 : Int32)), (12, .int (0 : Int32)), (11, .int (0 : Int32)), (10, .int (0 : Int32)), (9, .long (0 : Int64)), (8, .int (0 : Int32)), (0, .ref 41), (17, .ref 116), (16, .ref 114), (7, .ref 113), (6, .ref 112), (5, .ref 111), (4, .ref 110), (3, .ref 109), (1, .ref 107)], none) (pc' := 5) (L' := [(0, .ref 106)]) h_m20 (z_at.mk 3 rfl rfl) rfl (by decide) rfl (Or.inl rfl) rfl rfl rfl ?_
  clear H m; intro m H
  refine w_p h_m20 2 (pc' := 7) (L' := [(0, .ref 106)]) (st' := [.int (0 : Int32), .ref 106]) rfl ?_
  refine w_pf H (12, 18, [(8, .int (0 : Int32)), (2, .int (0 : Int32)), (15, .int (0 : Int32)), (14, .int (0 : Int32)), (13, .int (0 : Int32)), (12, .int (0 : Int32)), (11, .int (0 : Int32)), (10, .int (0 : Int32)), (9, .long (0 : Int64)), (0, .ref 41), (17, .ref 116), (16, .ref 114), (7, .ref 113), (6, .ref 112), (5, .ref 111), (4, .ref 110), (3, .ref 109), (1, .ref 107)], none) (pc' := 10) (L' := [(0, .ref 106)]) h_m20 (z_at.mk 3 rfl rfl) rfl (by decide) rfl (Or.inl rfl) rfl rfl rfl ?_
  clear H m; intro m H
  refine w_p h_m20 2 (pc' := 12) (L' := [(0, .ref 106)]) (st' := [.long (0 : Int64), .ref 106]) rfl ?_
  refine w_pf H (12, 18, [(9, .long (0 : Int64)), (8, .int (0 : Int32)), (2, .int (0 : Int32)), (15, .int (0 : Int32)), (14, .int (0 : Int32)), (13, .int (0 : Int32)), (12, .int (0 : Int32)), (11, .int (0 : Int32)), (10, .int (0 : Int32)), (0, .ref 41), (17, .ref 116), (16, .ref 114), (7, .ref 113), (6, .ref 112), (5, .ref 111), (4, .ref 110), (3, .ref 109), (1, .ref 107)], none) (pc' := 15) (L' := [(0, .ref 106)]) h_m20 (z_at.mk 3 rfl rfl) rfl (by decide) rfl (Or.inl rfl) rfl rfl rfl ?_
  clear H m; intro m H
  refine w_p h_m20 2 (pc' := 17) (L' := [(0, .ref 106)]) (st' := [.int (0 : Int32), .ref 106]) rfl ?_
  refine w_pf H (12, 18, [(10, .int (0 : Int32)), (9, .long (0 : Int64)), (8, .int (0 : Int32)), (2, .int (0 : Int32)), (15, .int (0 : Int32)), (14, .int (0 : Int32)), (13, .int (0 : Int32)), (12, .int (0 : Int32)), (11, .int (0 : Int32)), (0, .ref 41), (17, .ref 116), (16, .ref 114), (7, .ref 113), (6, .ref 112), (5, .ref 111), (4, .ref 110), (3, .ref 109), (1, .ref 107)], none) (pc' := 20) (L' := [(0, .ref 106)]) h_m20 (z_at.mk 3 rfl rfl) rfl (by decide) rfl (Or.inl rfl) rfl rfl rfl ?_
  clear H m; intro m H
  refine w_p h_m20 2 (pc' := 22) (L' := [(0, .ref 106)]) (st' := [.int (0 : Int32), .ref 106]) rfl ?_
  refine w_pf H (12, 18, [(11, .int (0 : Int32)), (10, .int (0 : Int32)), (9, .long (0 : Int64)), (8, .int (0 : Int32)), (2, .int (0 : Int32)), (15, .int (0 : Int32)), (14, .int (0 : Int32)), (13, .int (0 : Int32)), (12, .int (0 : Int32)), (0, .ref 41), (17, .ref 116), (16, .ref 114), (7, .ref 113), (6, .ref 112), (5, .ref 111), (4, .ref 110), (3, .ref 109), (1, .ref 107)], none) (pc' := 25) (L' := [(0, .ref 106)]) h_m20 (z_at.mk 3 rfl rfl) rfl (by decide) rfl (Or.inl rfl) rfl rfl rfl ?_
  clear H m; intro m H
  refine w_p h_m20 2 (pc' := 27) (L' := [(0, .ref 106)]) (st' := [.int (0 : Int32), .ref 106]) rfl ?_
  refine w_pf H (12, 18, [(12, .int (0 : Int32)), (11, .int (0 : Int32)), (10, .int (0 : Int32)), (9, .long (0 : Int64)), (8, .int (0 : Int32)), (2, .int (0 : Int32)), (15, .int (0 : Int32)), (14, .int (0 : Int32)), (13, .int (0 : Int32)), (0, .ref 41), (17, .ref 116), (16, .ref 114), (7, .ref 113), (6, .ref 112), (5, .ref 111), (4, .ref 110), (3, .ref 109), (1, .ref 107)], none) (pc' := 30) (L' := [(0, .ref 106)]) h_m20 (z_at.mk 3 rfl rfl) rfl (by decide) rfl (Or.inl rfl) rfl rfl rfl ?_
  clear H m; intro m H
  refine w_p h_m20 2 (pc' := 32) (L' := [(0, .ref 106)]) (st' := [.int (0 : Int32), .ref 106]) rfl ?_
  refine w_pf H (12, 18, [(13, .int (0 : Int32)), (12, .int (0 : Int32)), (11, .int (0 : Int32)), (10, .int (0 : Int32)), (9, .long (0 : Int64)), (8, .int (0 : Int32)), (2, .int (0 : Int32)), (15, .int (0 : Int32)), (14, .int (0 : Int32)), (0, .ref 41), (17, .ref 116), (16, .ref 114), (7, .ref 113), (6, .ref 112), (5, .ref 111), (4, .ref 110), (3, .ref 109), (1, .ref 107)], none) (pc' := 35) (L' := [(0, .ref 106)]) h_m20 (z_at.mk 3 rfl rfl) rfl (by decide) rfl (Or.inl rfl) rfl rfl rfl ?_
  clear H m; intro m H
  refine w_p h_m20 2 (pc' := 37) (L' := [(0, .ref 106)]) (st' := [.int (0 : Int32), .ref 106]) rfl ?_
  refine w_pf H (12, 18, [(14, .int (0 : Int32)), (13, .int (0 : Int32)), (12, .int (0 : Int32)), (11, .int (0 : Int32)), (10, .int (0 : Int32)), (9, .long (0 : Int64)), (8, .int (0 : Int32)), (2, .int (0 : Int32)), (15, .int (0 : Int32)), (0, .ref 41), (17, .ref 116), (16, .ref 114), (7, .ref 113), (6, .ref 112), (5, .ref 111), (4, .ref 110), (3, .ref 109), (1, .ref 107)], none) (pc' := 40) (L' := [(0, .ref 106)]) h_m20 (z_at.mk 3 rfl rfl) rfl (by decide) rfl (Or.inl rfl) rfl rfl rfl ?_
  clear H m; intro m H
  refine w_p h_m20 2 (pc' := 42) (L' := [(0, .ref 106)]) (st' := [.int (0 : Int32), .ref 106]) rfl ?_
  refine w_pf H (12, 18, [(15, .int (0 : Int32)), (14, .int (0 : Int32)), (13, .int (0 : Int32)), (12, .int (0 : Int32)), (11, .int (0 : Int32)), (10, .int (0 : Int32)), (9, .long (0 : Int64)), (8, .int (0 : Int32)), (2, .int (0 : Int32)), (0, .ref 41), (17, .ref 116), (16, .ref 114), (7, .ref 113), (6, .ref 112), (5, .ref 111), (4, .ref 110), (3, .ref 109), (1, .ref 107)], none) (pc' := 45) (L' := [(0, .ref 106)]) h_m20 (z_at.mk 3 rfl rfl) rfl (by decide) rfl (Or.inl rfl) rfl rfl rfl ?_
  clear H m; intro m H
  refine w_rv h_m20 (z_at.mk 1 rfl rfl) rfl ?_
  show z_W 998 145 7 [(0, .ref 39), (1, .int (53 : Int32))] [] m _
  refine w_p h_m145 1 (pc' := 8) (L' := [(0, .ref 39), (1, .int (53 : Int32))]) (st' := [.ref 39]) rfl ?_
  refine w_gf H (pc' := 11) (L' := [(0, .ref 39), (1, .int (53 : Int32))]) h_m145 (z_at.mk 3 rfl rfl) rfl (u := .ref 106) rfl rfl rfl ?_
  refine w_gf H (pc' := 14) (L' := [(0, .ref 39), (1, .int (53 : Int32))]) h_m145 (z_at.mk 3 rfl rfl) rfl (u := .ref 107) rfl rfl rfl ?_
  refine w_p h_m145 1 (pc' := 15) (L' := [(0, .ref 39), (1, .int (53 : Int32))]) (st' := [.ref 39, .ref 107]) rfl ?_
  refine w_gf H (pc' := 18) (L' := [(0, .ref 39), (1, .int (53 : Int32))]) h_m145 (z_at.mk 3 rfl rfl) rfl (u := .ref 40) rfl rfl rfl ?_
  refine w_gf H (pc' := 21) (L' := [(0, .ref 39), (1, .int (53 : Int32))]) h_m145 (z_at.mk 3 rfl rfl) rfl (u := .ref 48) rfl rfl rfl ?_
  refine w_gf H (pc' := 24) (L' := [(0, .ref 39), (1, .int (53 : Int32))]) h_m145 (z_at.mk 3 rfl rfl) rfl (u := .ref 49) rfl rfl rfl ?_
  refine w_cv (H.t rfl) (pc' := 27) (L' := [(0, .ref 39), (1, .int (53 : Int32))]) (rest := []) (Ps := [.ref 49]) (L0 := [(0, .ref 107), (1, .ref 49)]) h_m145 (z_at.mk 3 rfl rfl) (Or.inl ⟨rfl, rfl⟩) rfl rfl (by decide) (by decide) rfl rfl rfl rfl rfl rfl (by decide) rfl rfl rfl ?_
  refine w_p h_m74 1 (pc' := 1) (L' := [(0, .ref 107), (1, .ref 49)]) (st' := [.ref 49]) rfl ?_
  refine w_gf H (pc' := 4) (L' := [(0, .ref 107), (1, .ref 49)]) h_m74 (z_at.mk 3 rfl rfl) rfl (u := .ref 50) rfl rfl rfl ?_
  refine w_p h_m74 2 (pc' := 6) (L' := [(0, .ref 107), (1, .ref 49)]) (st' := [.ref 107, .int (0 : Int32), .ref 50]) rfl ?_
  refine w_gf H (pc' := 9) (L' := [(0, .ref 107), (1, .ref 49)]) h_m74 (z_at.mk 3 rfl rfl) rfl (u := .ref 108) rfl rfl rfl ?_
  refine w_p h_m74 2 (pc' := 12) (L' := [(0, .ref 107), (1, .ref 49)]) (st' := [.int (7 : Int32), .int (0 : Int32), .ref 108, .int (0 : Int32), .ref 50]) rfl ?_
  refine w_cpf H (ra := (0, 7, [(6, .int (1024 : Int32)), (5, .int (1 : Int32)), (4, .int (1 : Int32)), (3, .int (0 : Int32)), (2, .int (12 : Int32)), (1, .int (40 : Int32)), (0, .int (10 : Int32))], some (.int (0 : Int32)))) (pc' := 15) (L' := [(0, .ref 107), (1, .ref 49)]) h_m74 (z_at.mk 3 rfl rfl) rfl (z_cat_le 0 rfl (by decide)) rfl rfl rfl rfl (by decide) rfl rfl ?_
  clear H m; intro m H
  refine w_rv h_m74 (z_at.mk 1 rfl rfl) rfl ?_
  show z_W 998 145 27 [(0, .ref 39), (1, .int (53 : Int32))] [] m _
  refine w_p h_m145 1 (pc' := 28) (L' := [(0, .ref 39), (1, .int (53 : Int32))]) (st' := [.ref 39]) rfl ?_
  refine w_gf H (pc' := 31) (L' := [(0, .ref 39), (1, .int (53 : Int32))]) h_m145 (z_at.mk 3 rfl rfl) rfl (u := .ref 106) rfl rfl rfl ?_
  refine w_gf H (pc' := 34) (L' := [(0, .ref 39), (1, .int (53 : Int32))]) h_m145 (z_at.mk 3 rfl rfl) rfl (u := .ref 107) rfl rfl rfl ?_
  refine w_p h_m145 2 (pc' := 36) (L' := [(0, .ref 39), (1, .int (53 : Int32))]) (st' := [.int (53 : Int32), .int (1 : Int32), .ref 107]) rfl ?_
  refine w_cv (H.t rfl) (pc' := 39) (L' := [(0, .ref 39), (1, .int (53 : Int32))]) (rest := []) (Ps := [.int (1 : Int32), .int (53 : Int32)]) (L0 := [(0, .ref 107), (1, .int (1 : Int32)), (2, .int (53 : Int32))]) h_m145 (z_at.mk 3 rfl rfl) (Or.inl ⟨rfl, rfl⟩) rfl rfl (by decide) (by decide) rfl rfl rfl rfl rfl rfl (by decide) rfl rfl rfl ?_
  refine w_p h_m73 6 (pc' := 11) (L' := [(0, .ref 107), (1, .int (1 : Int32)), (2, .int (53 : Int32))]) (st' := [.ref 107]) rfl ?_
  refine w_gf H (pc' := 14) (L' := [(0, .ref 107), (1, .int (1 : Int32)), (2, .int (53 : Int32))]) h_m73 (z_at.mk 3 rfl rfl) rfl (u := .ref 108) rfl rfl rfl ?_
  refine w_p h_m73 2 (pc' := 16) (L' := [(0, .ref 107), (1, .int (1 : Int32)), (2, .int (53 : Int32))]) (st' := [.int (53 : Int32), .int (1 : Int32), .ref 108]) rfl ?_
  refine w_as H (t := 0) (j := 1) (u := .int (53 : Int32)) (0, 7, [(1, .int (53 : Int32)), (6, .int (1024 : Int32)), (5, .int (1 : Int32)), (4, .int (1 : Int32)), (3, .int (0 : Int32)), (2, .int (12 : Int32)), (0, .int (10 : Int32))], some (.int (0 : Int32))) (pc' := 17) (L' := []) h_m73 (z_at.mk 1 rfl rfl) rfl rfl (w_ui _ _ (by decide)) rfl rfl rfl rfl ?_
  clear H m; intro m H
  refine w_rv h_m73 (z_at.mk 1 rfl rfl) rfl ?_
  show z_W 998 145 39 [(0, .ref 39), (1, .int (53 : Int32))] [] m _
  refine w_p h_m145 4 (pc' := 43) (L' := [(0, .ref 39), (2, .int (0 : Int32))]) (st' := [.ref 39, .int (0 : Int32)]) rfl ?_
  refine w_gf H (pc' := 46) (L' := [(0, .ref 39), (2, .int (0 : Int32))]) h_m145 (z_at.mk 3 rfl rfl) rfl (u := .ref 40) rfl rfl rfl ?_
  refine w_gf H (pc' := 49) (L' := [(0, .ref 39), (2, .int (0 : Int32))]) h_m145 (z_at.mk 3 rfl rfl) rfl (u := .ref 63) rfl rfl rfl ?_
  refine w_gf H (pc' := 52) (L' := [(0, .ref 39), (2, .int (0 : Int32))]) h_m145 (z_at.mk 3 rfl rfl) rfl (u := .int (0 : Int32)) rfl rfl rfl ?_
  refine w_p h_m145 1 (pc' := 79) (L' := [(0, .ref 39), (2, .int (0 : Int32))]) (st' := []) rfl ?_
  refine w_rv h_m145 (z_at.mk 1 rfl rfl) rfl ?_
  show z_W 999 146 13 [(0, .ref 39), (1, .int (xs 1)), (2, .int (53 : Int32))] [] m _
  refine w_p h_m146 1 (pc' := 14) (L' := [(0, .ref 39), (1, .int (xs 1)), (2, .int (53 : Int32))]) (st' := [.ref 39]) rfl ?_
  refine w_gf H (pc' := 17) (L' := [(0, .ref 39), (1, .int (xs 1)), (2, .int (53 : Int32))]) h_m146 (z_at.mk 3 rfl rfl) rfl (u := .ref 106) rfl rfl rfl ?_
  refine w_gf H (pc' := 20) (L' := [(0, .ref 39), (1, .int (xs 1)), (2, .int (53 : Int32))]) h_m146 (z_at.mk 3 rfl rfl) rfl (u := .int (0 : Int32)) rfl rfl rfl ?_
  refine w_p h_m146 1 (pc' := 21) (L' := [(0, .ref 39), (1, .int (xs 1)), (2, .int (53 : Int32))]) (st' := [.int (xs 1), .int (0 : Int32)]) rfl ?_
  refine w_t2 (pc' := 26) (L' := [(0, .ref 39), (1, .int (xs 1)), (2, .int (53 : Int32))]) h_m146 (z_at.mk 3 rfl rfl) rfl (zc (a := 0) (b := (xs 1).toInt) rfl rfl (decide_eq_true (by omega))) rfl rfl ?_
  refine w_p h_m146 2 (pc' := 2) (L' := [(0, .ref 39), (1, .int (xs 1)), (2, .int (54 : Int32))]) (st' := []) rfl ?_
  exact hQ m (H.subC (by decide +kernel))
set_option maxHeartbeats 400000000 in
set_option maxRecDepth 20000 in
theorem w_turn_146_54 {xs : Nat → Int32} {m : zM} {Q : Option Value → zM → Prop} (hp : (xs 1).toInt < 0) (H : w_ok 6 xs 168 63950 ((106, (12, 18, [(15, .int (0 : Int32)), (14, .int (0 : Int32)), (13, .int (0 : Int32)), (12, .int (0 : Int32)), (11, .int (0 : Int32)), (10, .int (0 : Int32)), (9, .long (0 : Int64)), (8, .int (0 : Int32)), (2, .int (0 : Int32)), (0, .ref 41), (17, .ref 116), (16, .ref 114), (7, .ref 113), (6, .ref 112), (5, .ref 111), (4, .ref 110), (3, .ref 109), (1, .ref 107)], none)) :: (108, (0, 7, [(1, .int (53 : Int32)), (6, .int (1024 : Int32)), (5, .int (1 : Int32)), (4, .int (1 : Int32)), (3, .int (0 : Int32)), (2, .int (12 : Int32)), (0, .int (10 : Int32))], some (.int (0 : Int32)))) :: w_T0) m) (hQ : ∀ m, w_ok 6 xs 168 63950 ((106, (12, 18, [(15, .int (0 : Int32)), (14, .int (0 : Int32)), (13, .int (0 : Int32)), (12, .int (0 : Int32)), (11, .int (0 : Int32)), (10, .int (0 : Int32)), (9, .long (0 : Int64)), (8, .int (0 : Int32)), (2, .int (0 : Int32)), (0, .ref 41), (17, .ref 116), (16, .ref 114), (7, .ref 113), (6, .ref 112), (5, .ref 111), (4, .ref 110), (3, .ref 109), (1, .ref 107)], none)) :: (108, (0, 7, [(1, .int (54 : Int32)), (6, .int (1024 : Int32)), (5, .int (1 : Int32)), (4, .int (1 : Int32)), (3, .int (0 : Int32)), (2, .int (12 : Int32)), (0, .int (10 : Int32))], some (.int (0 : Int32)))) :: w_T0) m → z_W 999 146 2 [(0, .ref 39), (1, .int (xs 1)), (2, .int (55 : Int32))] [] m Q) : z_W 999 146 2 [(0, .ref 39), (1, .int (xs 1)), (2, .int (54 : Int32))] [] m Q := by
  refine w_p h_m146 5 (pc' := 10) (L' := [(0, .ref 39), (1, .int (xs 1)), (2, .int (54 : Int32))]) (st' := [.int (54 : Int32), .ref 39]) rfl ?_
  refine w_cv (H.t rfl) (pc' := 13) (L' := [(0, .ref 39), (1, .int (xs 1)), (2, .int (54 : Int32))]) (rest := []) (Ps := [.int (54 : Int32)]) (L0 := [(0, .ref 39), (1, .int (54 : Int32))]) h_m146 (z_at.mk 3 rfl rfl) (Or.inl ⟨rfl, rfl⟩) rfl rfl (by decide) (by decide) rfl rfl rfl rfl rfl rfl (by decide) rfl rfl rfl ?_
  refine w_p h_m145 1 (pc' := 1) (L' := [(0, .ref 39), (1, .int (54 : Int32))]) (st' := [.ref 39]) rfl ?_
  refine w_gf H (pc' := 4) (L' := [(0, .ref 39), (1, .int (54 : Int32))]) h_m145 (z_at.mk 3 rfl rfl) rfl (u := .ref 106) rfl rfl rfl ?_
  refine w_cv (H.t rfl) (pc' := 7) (L' := [(0, .ref 39), (1, .int (54 : Int32))]) (rest := []) (Ps := []) (L0 := [(0, .ref 106)]) h_m145 (z_at.mk 3 rfl rfl) (Or.inl ⟨rfl, rfl⟩) rfl rfl (by decide) (by decide) rfl rfl rfl rfl rfl rfl (by decide) rfl rfl rfl ?_
  refine w_p h_m20 2 (pc' := 2) (L' := [(0, .ref 106)]) (st' := [.int (0 : Int32), .ref 106]) rfl ?_
  refine w_pf H (12, 18, [(2, .int (0 : Int32)), (15, .int (0 : Int32)), (14, .int (0 : Int32)), (13, .int (0 : Int32)), (12, .int (0 : Int32)), (11, .int (0 : Int32)), (10, .int (0 : Int32)), (9, .long (0 : Int64)), (8, .int (0 : Int32)), (0, .ref 41), (17, .ref 116), (16, .ref 114), (7, .ref 113), (6, .ref 112), (5, .ref 111), (4, .ref 110), (3, .ref 109), (1, .ref 107)], none) (pc' := 5) (L' := [(0, .ref 106)]) h_m20 (z_at.mk 3 rfl rfl) rfl (by decide) rfl (Or.inl rfl) rfl rfl rfl ?_
  clear H m; intro m H
  refine w_p h_m20 2 (pc' := 7) (L' := [(0, .ref 106)]) (st' := [.int (0 : Int32), .ref 106]) rfl ?_
  refine w_pf H (12, 18, [(8, .int (0 : Int32)), (2, .int (0 : Int32)), (15, .int (0 : Int32)), (14, .int (0 : Int32)), (13, .int (0 : Int32)), (12, .int (0 : Int32)), (11, .int (0 : Int32)), (10, .int (0 : Int32)), (9, .long (0 : Int64)), (0, .ref 41), (17, .ref 116), (16, .ref 114), (7, .ref 113), (6, .ref 112), (5, .ref 111), (4, .ref 110), (3, .ref 109), (1, .ref 107)], none) (pc' := 10) (L' := [(0, .ref 106)]) h_m20 (z_at.mk 3 rfl rfl) rfl (by decide) rfl (Or.inl rfl) rfl rfl rfl ?_
  clear H m; intro m H
  refine w_p h_m20 2 (pc' := 12) (L' := [(0, .ref 106)]) (st' := [.long (0 : Int64), .ref 106]) rfl ?_
  refine w_pf H (12, 18, [(9, .long (0 : Int64)), (8, .int (0 : Int32)), (2, .int (0 : Int32)), (15, .int (0 : Int32)), (14, .int (0 : Int32)), (13, .int (0 : Int32)), (12, .int (0 : Int32)), (11, .int (0 : Int32)), (10, .int (0 : Int32)), (0, .ref 41), (17, .ref 116), (16, .ref 114), (7, .ref 113), (6, .ref 112), (5, .ref 111), (4, .ref 110), (3, .ref 109), (1, .ref 107)], none) (pc' := 15) (L' := [(0, .ref 106)]) h_m20 (z_at.mk 3 rfl rfl) rfl (by decide) rfl (Or.inl rfl) rfl rfl rfl ?_
  clear H m; intro m H
  refine w_p h_m20 2 (pc' := 17) (L' := [(0, .ref 106)]) (st' := [.int (0 : Int32), .ref 106]) rfl ?_
  refine w_pf H (12, 18, [(10, .int (0 : Int32)), (9, .long (0 : Int64)), (8, .int (0 : Int32)), (2, .int (0 : Int32)), (15, .int (0 : Int32)), (14, .int (0 : Int32)), (13, .int (0 : Int32)), (12, .int (0 : Int32)), (11, .int (0 : Int32)), (0, .ref 41), (17, .ref 116), (16, .ref 114), (7, .ref 113), (6, .ref 112), (5, .ref 111), (4, .ref 110), (3, .ref 109), (1, .ref 107)], none) (pc' := 20) (L' := [(0, .ref 106)]) h_m20 (z_at.mk 3 rfl rfl) rfl (by decide) rfl (Or.inl rfl) rfl rfl rfl ?_
  clear H m; intro m H
  refine w_p h_m20 2 (pc' := 22) (L' := [(0, .ref 106)]) (st' := [.int (0 : Int32), .ref 106]) rfl ?_
  refine w_pf H (12, 18, [(11, .int (0 : Int32)), (10, .int (0 : Int32)), (9, .long (0 : Int64)), (8, .int (0 : Int32)), (2, .int (0 : Int32)), (15, .int (0 : Int32)), (14, .int (0 : Int32)), (13, .int (0 : Int32)), (12, .int (0 : Int32)), (0, .ref 41), (17, .ref 116), (16, .ref 114), (7, .ref 113), (6, .ref 112), (5, .ref 111), (4, .ref 110), (3, .ref 109), (1, .ref 107)], none) (pc' := 25) (L' := [(0, .ref 106)]) h_m20 (z_at.mk 3 rfl rfl) rfl (by decide) rfl (Or.inl rfl) rfl rfl rfl ?_
  clear H m; intro m H
  refine w_p h_m20 2 (pc' := 27) (L' := [(0, .ref 106)]) (st' := [.int (0 : Int32), .ref 106]) rfl ?_
  refine w_pf H (12, 18, [(12, .int (0 : Int32)), (11, .int (0 : Int32)), (10, .int (0 : Int32)), (9, .long (0 : Int64)), (8, .int (0 : Int32)), (2, .int (0 : Int32)), (15, .int (0 : Int32)), (14, .int (0 : Int32)), (13, .int (0 : Int32)), (0, .ref 41), (17, .ref 116), (16, .ref 114), (7, .ref 113), (6, .ref 112), (5, .ref 111), (4, .ref 110), (3, .ref 109), (1, .ref 107)], none) (pc' := 30) (L' := [(0, .ref 106)]) h_m20 (z_at.mk 3 rfl rfl) rfl (by decide) rfl (Or.inl rfl) rfl rfl rfl ?_
  clear H m; intro m H
  refine w_p h_m20 2 (pc' := 32) (L' := [(0, .ref 106)]) (st' := [.int (0 : Int32), .ref 106]) rfl ?_
  refine w_pf H (12, 18, [(13, .int (0 : Int32)), (12, .int (0 : Int32)), (11, .int (0 : Int32)), (10, .int (0 : Int32)), (9, .long (0 : Int64)), (8, .int (0 : Int32)), (2, .int (0 : Int32)), (15, .int (0 : Int32)), (14, .int (0 : Int32)), (0, .ref 41), (17, .ref 116), (16, .ref 114), (7, .ref 113), (6, .ref 112), (5, .ref 111), (4, .ref 110), (3, .ref 109), (1, .ref 107)], none) (pc' := 35) (L' := [(0, .ref 106)]) h_m20 (z_at.mk 3 rfl rfl) rfl (by decide) rfl (Or.inl rfl) rfl rfl rfl ?_
  clear H m; intro m H
  refine w_p h_m20 2 (pc' := 37) (L' := [(0, .ref 106)]) (st' := [.int (0 : Int32), .ref 106]) rfl ?_
  refine w_pf H (12, 18, [(14, .int (0 : Int32)), (13, .int (0 : Int32)), (12, .int (0 : Int32)), (11, .int (0 : Int32)), (10, .int (0 : Int32)), (9, .long (0 : Int64)), (8, .int (0 : Int32)), (2, .int (0 : Int32)), (15, .int (0 : Int32)), (0, .ref 41), (17, .ref 116), (16, .ref 114), (7, .ref 113), (6, .ref 112), (5, .ref 111), (4, .ref 110), (3, .ref 109), (1, .ref 107)], none) (pc' := 40) (L' := [(0, .ref 106)]) h_m20 (z_at.mk 3 rfl rfl) rfl (by decide) rfl (Or.inl rfl) rfl rfl rfl ?_
  clear H m; intro m H
  refine w_p h_m20 2 (pc' := 42) (L' := [(0, .ref 106)]) (st' := [.int (0 : Int32), .ref 106]) rfl ?_
  refine w_pf H (12, 18, [(15, .int (0 : Int32)), (14, .int (0 : Int32)), (13, .int (0 : Int32)), (12, .int (0 : Int32)), (11, .int (0 : Int32)), (10, .int (0 : Int32)), (9, .long (0 : Int64)), (8, .int (0 : Int32)), (2, .int (0 : Int32)), (0, .ref 41), (17, .ref 116), (16, .ref 114), (7, .ref 113), (6, .ref 112), (5, .ref 111), (4, .ref 110), (3, .ref 109), (1, .ref 107)], none) (pc' := 45) (L' := [(0, .ref 106)]) h_m20 (z_at.mk 3 rfl rfl) rfl (by decide) rfl (Or.inl rfl) rfl rfl rfl ?_
  clear H m; intro m H
  refine w_rv h_m20 (z_at.mk 1 rfl rfl) rfl ?_
  show z_W 998 145 7 [(0, .ref 39), (1, .int (54 : Int32))] [] m _
  refine w_p h_m145 1 (pc' := 8) (L' := [(0, .ref 39), (1, .int (54 : Int32))]) (st' := [.ref 39]) rfl ?_
  refine w_gf H (pc' := 11) (L' := [(0, .ref 39), (1, .int (54 : Int32))]) h_m145 (z_at.mk 3 rfl rfl) rfl (u := .ref 106) rfl rfl rfl ?_
  refine w_gf H (pc' := 14) (L' := [(0, .ref 39), (1, .int (54 : Int32))]) h_m145 (z_at.mk 3 rfl rfl) rfl (u := .ref 107) rfl rfl rfl ?_
  refine w_p h_m145 1 (pc' := 15) (L' := [(0, .ref 39), (1, .int (54 : Int32))]) (st' := [.ref 39, .ref 107]) rfl ?_
  refine w_gf H (pc' := 18) (L' := [(0, .ref 39), (1, .int (54 : Int32))]) h_m145 (z_at.mk 3 rfl rfl) rfl (u := .ref 40) rfl rfl rfl ?_
  refine w_gf H (pc' := 21) (L' := [(0, .ref 39), (1, .int (54 : Int32))]) h_m145 (z_at.mk 3 rfl rfl) rfl (u := .ref 48) rfl rfl rfl ?_
  refine w_gf H (pc' := 24) (L' := [(0, .ref 39), (1, .int (54 : Int32))]) h_m145 (z_at.mk 3 rfl rfl) rfl (u := .ref 49) rfl rfl rfl ?_
  refine w_cv (H.t rfl) (pc' := 27) (L' := [(0, .ref 39), (1, .int (54 : Int32))]) (rest := []) (Ps := [.ref 49]) (L0 := [(0, .ref 107), (1, .ref 49)]) h_m145 (z_at.mk 3 rfl rfl) (Or.inl ⟨rfl, rfl⟩) rfl rfl (by decide) (by decide) rfl rfl rfl rfl rfl rfl (by decide) rfl rfl rfl ?_
  refine w_p h_m74 1 (pc' := 1) (L' := [(0, .ref 107), (1, .ref 49)]) (st' := [.ref 49]) rfl ?_
  refine w_gf H (pc' := 4) (L' := [(0, .ref 107), (1, .ref 49)]) h_m74 (z_at.mk 3 rfl rfl) rfl (u := .ref 50) rfl rfl rfl ?_
  refine w_p h_m74 2 (pc' := 6) (L' := [(0, .ref 107), (1, .ref 49)]) (st' := [.ref 107, .int (0 : Int32), .ref 50]) rfl ?_
  refine w_gf H (pc' := 9) (L' := [(0, .ref 107), (1, .ref 49)]) h_m74 (z_at.mk 3 rfl rfl) rfl (u := .ref 108) rfl rfl rfl ?_
  refine w_p h_m74 2 (pc' := 12) (L' := [(0, .ref 107), (1, .ref 49)]) (st' := [.int (7 : Int32), .int (0 : Int32), .ref 108, .int (0 : Int32), .ref 50]) rfl ?_
  refine w_cpf H (ra := (0, 7, [(6, .int (1024 : Int32)), (5, .int (1 : Int32)), (4, .int (1 : Int32)), (3, .int (0 : Int32)), (2, .int (12 : Int32)), (1, .int (40 : Int32)), (0, .int (10 : Int32))], some (.int (0 : Int32)))) (pc' := 15) (L' := [(0, .ref 107), (1, .ref 49)]) h_m74 (z_at.mk 3 rfl rfl) rfl (z_cat_le 0 rfl (by decide)) rfl rfl rfl rfl (by decide) rfl rfl ?_
  clear H m; intro m H
  refine w_rv h_m74 (z_at.mk 1 rfl rfl) rfl ?_
  show z_W 998 145 27 [(0, .ref 39), (1, .int (54 : Int32))] [] m _
  refine w_p h_m145 1 (pc' := 28) (L' := [(0, .ref 39), (1, .int (54 : Int32))]) (st' := [.ref 39]) rfl ?_
  refine w_gf H (pc' := 31) (L' := [(0, .ref 39), (1, .int (54 : Int32))]) h_m145 (z_at.mk 3 rfl rfl) rfl (u := .ref 106) rfl rfl rfl ?_
  refine w_gf H (pc' := 34) (L' := [(0, .ref 39), (1, .int (54 : Int32))]) h_m145 (z_at.mk 3 rfl rfl) rfl (u := .ref 107) rfl rfl rfl ?_
  refine w_p h_m145 2 (pc' := 36) (L' := [(0, .ref 39), (1, .int (54 : Int32))]) (st' := [.int (54 : Int32), .int (1 : Int32), .ref 107]) rfl ?_
  refine w_cv (H.t rfl) (pc' := 39) (L' := [(0, .ref 39), (1, .int (54 : Int32))]) (rest := []) (Ps := [.int (1 : Int32), .int (54 : Int32)]) (L0 := [(0, .ref 107), (1, .int (1 : Int32)), (2, .int (54 : Int32))]) h_m145 (z_at.mk 3 rfl rfl) (Or.inl ⟨rfl, rfl⟩) rfl rfl (by decide) (by decide) rfl rfl rfl rfl rfl rfl (by decide) rfl rfl rfl ?_
  refine w_p h_m73 6 (pc' := 11) (L' := [(0, .ref 107), (1, .int (1 : Int32)), (2, .int (54 : Int32))]) (st' := [.ref 107]) rfl ?_
  refine w_gf H (pc' := 14) (L' := [(0, .ref 107), (1, .int (1 : Int32)), (2, .int (54 : Int32))]) h_m73 (z_at.mk 3 rfl rfl) rfl (u := .ref 108) rfl rfl rfl ?_
  refine w_p h_m73 2 (pc' := 16) (L' := [(0, .ref 107), (1, .int (1 : Int32)), (2, .int (54 : Int32))]) (st' := [.int (54 : Int32), .int (1 : Int32), .ref 108]) rfl ?_
  refine w_as H (t := 0) (j := 1) (u := .int (54 : Int32)) (0, 7, [(1, .int (54 : Int32)), (6, .int (1024 : Int32)), (5, .int (1 : Int32)), (4, .int (1 : Int32)), (3, .int (0 : Int32)), (2, .int (12 : Int32)), (0, .int (10 : Int32))], some (.int (0 : Int32))) (pc' := 17) (L' := []) h_m73 (z_at.mk 1 rfl rfl) rfl rfl (w_ui _ _ (by decide)) rfl rfl rfl rfl ?_
  clear H m; intro m H
  refine w_rv h_m73 (z_at.mk 1 rfl rfl) rfl ?_
  show z_W 998 145 39 [(0, .ref 39), (1, .int (54 : Int32))] [] m _
  refine w_p h_m145 4 (pc' := 43) (L' := [(0, .ref 39), (2, .int (0 : Int32))]) (st' := [.ref 39, .int (0 : Int32)]) rfl ?_
  refine w_gf H (pc' := 46) (L' := [(0, .ref 39), (2, .int (0 : Int32))]) h_m145 (z_at.mk 3 rfl rfl) rfl (u := .ref 40) rfl rfl rfl ?_
  refine w_gf H (pc' := 49) (L' := [(0, .ref 39), (2, .int (0 : Int32))]) h_m145 (z_at.mk 3 rfl rfl) rfl (u := .ref 63) rfl rfl rfl ?_
  refine w_gf H (pc' := 52) (L' := [(0, .ref 39), (2, .int (0 : Int32))]) h_m145 (z_at.mk 3 rfl rfl) rfl (u := .int (0 : Int32)) rfl rfl rfl ?_
  refine w_p h_m145 1 (pc' := 79) (L' := [(0, .ref 39), (2, .int (0 : Int32))]) (st' := []) rfl ?_
  refine w_rv h_m145 (z_at.mk 1 rfl rfl) rfl ?_
  show z_W 999 146 13 [(0, .ref 39), (1, .int (xs 1)), (2, .int (54 : Int32))] [] m _
  refine w_p h_m146 1 (pc' := 14) (L' := [(0, .ref 39), (1, .int (xs 1)), (2, .int (54 : Int32))]) (st' := [.ref 39]) rfl ?_
  refine w_gf H (pc' := 17) (L' := [(0, .ref 39), (1, .int (xs 1)), (2, .int (54 : Int32))]) h_m146 (z_at.mk 3 rfl rfl) rfl (u := .ref 106) rfl rfl rfl ?_
  refine w_gf H (pc' := 20) (L' := [(0, .ref 39), (1, .int (xs 1)), (2, .int (54 : Int32))]) h_m146 (z_at.mk 3 rfl rfl) rfl (u := .int (0 : Int32)) rfl rfl rfl ?_
  refine w_p h_m146 1 (pc' := 21) (L' := [(0, .ref 39), (1, .int (xs 1)), (2, .int (54 : Int32))]) (st' := [.int (xs 1), .int (0 : Int32)]) rfl ?_
  refine w_t2 (pc' := 26) (L' := [(0, .ref 39), (1, .int (xs 1)), (2, .int (54 : Int32))]) h_m146 (z_at.mk 3 rfl rfl) rfl (zc (a := 0) (b := (xs 1).toInt) rfl rfl (decide_eq_true (by omega))) rfl rfl ?_
  refine w_p h_m146 2 (pc' := 2) (L' := [(0, .ref 39), (1, .int (xs 1)), (2, .int (55 : Int32))]) (st' := []) rfl ?_
  exact hQ m (H.subC (by decide +kernel))
set_option maxHeartbeats 400000000 in
set_option maxRecDepth 20000 in
theorem w_turn_146_55 {xs : Nat → Int32} {m : zM} {Q : Option Value → zM → Prop} (hp : (xs 1).toInt < 0) (H : w_ok 6 xs 168 63950 ((106, (12, 18, [(15, .int (0 : Int32)), (14, .int (0 : Int32)), (13, .int (0 : Int32)), (12, .int (0 : Int32)), (11, .int (0 : Int32)), (10, .int (0 : Int32)), (9, .long (0 : Int64)), (8, .int (0 : Int32)), (2, .int (0 : Int32)), (0, .ref 41), (17, .ref 116), (16, .ref 114), (7, .ref 113), (6, .ref 112), (5, .ref 111), (4, .ref 110), (3, .ref 109), (1, .ref 107)], none)) :: (108, (0, 7, [(1, .int (54 : Int32)), (6, .int (1024 : Int32)), (5, .int (1 : Int32)), (4, .int (1 : Int32)), (3, .int (0 : Int32)), (2, .int (12 : Int32)), (0, .int (10 : Int32))], some (.int (0 : Int32)))) :: w_T0) m) (hQ : ∀ m, w_ok 6 xs 168 63950 ((106, (12, 18, [(15, .int (0 : Int32)), (14, .int (0 : Int32)), (13, .int (0 : Int32)), (12, .int (0 : Int32)), (11, .int (0 : Int32)), (10, .int (0 : Int32)), (9, .long (0 : Int64)), (8, .int (0 : Int32)), (2, .int (0 : Int32)), (0, .ref 41), (17, .ref 116), (16, .ref 114), (7, .ref 113), (6, .ref 112), (5, .ref 111), (4, .ref 110), (3, .ref 109), (1, .ref 107)], none)) :: (108, (0, 7, [(1, .int (55 : Int32)), (6, .int (1024 : Int32)), (5, .int (1 : Int32)), (4, .int (1 : Int32)), (3, .int (0 : Int32)), (2, .int (12 : Int32)), (0, .int (10 : Int32))], some (.int (0 : Int32)))) :: w_T0) m → z_W 999 146 2 [(0, .ref 39), (1, .int (xs 1)), (2, .int (56 : Int32))] [] m Q) : z_W 999 146 2 [(0, .ref 39), (1, .int (xs 1)), (2, .int (55 : Int32))] [] m Q := by
  refine w_p h_m146 5 (pc' := 10) (L' := [(0, .ref 39), (1, .int (xs 1)), (2, .int (55 : Int32))]) (st' := [.int (55 : Int32), .ref 39]) rfl ?_
  refine w_cv (H.t rfl) (pc' := 13) (L' := [(0, .ref 39), (1, .int (xs 1)), (2, .int (55 : Int32))]) (rest := []) (Ps := [.int (55 : Int32)]) (L0 := [(0, .ref 39), (1, .int (55 : Int32))]) h_m146 (z_at.mk 3 rfl rfl) (Or.inl ⟨rfl, rfl⟩) rfl rfl (by decide) (by decide) rfl rfl rfl rfl rfl rfl (by decide) rfl rfl rfl ?_
  refine w_p h_m145 1 (pc' := 1) (L' := [(0, .ref 39), (1, .int (55 : Int32))]) (st' := [.ref 39]) rfl ?_
  refine w_gf H (pc' := 4) (L' := [(0, .ref 39), (1, .int (55 : Int32))]) h_m145 (z_at.mk 3 rfl rfl) rfl (u := .ref 106) rfl rfl rfl ?_
  refine w_cv (H.t rfl) (pc' := 7) (L' := [(0, .ref 39), (1, .int (55 : Int32))]) (rest := []) (Ps := []) (L0 := [(0, .ref 106)]) h_m145 (z_at.mk 3 rfl rfl) (Or.inl ⟨rfl, rfl⟩) rfl rfl (by decide) (by decide) rfl rfl rfl rfl rfl rfl (by decide) rfl rfl rfl ?_
  refine w_p h_m20 2 (pc' := 2) (L' := [(0, .ref 106)]) (st' := [.int (0 : Int32), .ref 106]) rfl ?_
  refine w_pf H (12, 18, [(2, .int (0 : Int32)), (15, .int (0 : Int32)), (14, .int (0 : Int32)), (13, .int (0 : Int32)), (12, .int (0 : Int32)), (11, .int (0 : Int32)), (10, .int (0 : Int32)), (9, .long (0 : Int64)), (8, .int (0 : Int32)), (0, .ref 41), (17, .ref 116), (16, .ref 114), (7, .ref 113), (6, .ref 112), (5, .ref 111), (4, .ref 110), (3, .ref 109), (1, .ref 107)], none) (pc' := 5) (L' := [(0, .ref 106)]) h_m20 (z_at.mk 3 rfl rfl) rfl (by decide) rfl (Or.inl rfl) rfl rfl rfl ?_
  clear H m; intro m H
  refine w_p h_m20 2 (pc' := 7) (L' := [(0, .ref 106)]) (st' := [.int (0 : Int32), .ref 106]) rfl ?_
  refine w_pf H (12, 18, [(8, .int (0 : Int32)), (2, .int (0 : Int32)), (15, .int (0 : Int32)), (14, .int (0 : Int32)), (13, .int (0 : Int32)), (12, .int (0 : Int32)), (11, .int (0 : Int32)), (10, .int (0 : Int32)), (9, .long (0 : Int64)), (0, .ref 41), (17, .ref 116), (16, .ref 114), (7, .ref 113), (6, .ref 112), (5, .ref 111), (4, .ref 110), (3, .ref 109), (1, .ref 107)], none) (pc' := 10) (L' := [(0, .ref 106)]) h_m20 (z_at.mk 3 rfl rfl) rfl (by decide) rfl (Or.inl rfl) rfl rfl rfl ?_
  clear H m; intro m H
  refine w_p h_m20 2 (pc' := 12) (L' := [(0, .ref 106)]) (st' := [.long (0 : Int64), .ref 106]) rfl ?_
  refine w_pf H (12, 18, [(9, .long (0 : Int64)), (8, .int (0 : Int32)), (2, .int (0 : Int32)), (15, .int (0 : Int32)), (14, .int (0 : Int32)), (13, .int (0 : Int32)), (12, .int (0 : Int32)), (11, .int (0 : Int32)), (10, .int (0 : Int32)), (0, .ref 41), (17, .ref 116), (16, .ref 114), (7, .ref 113), (6, .ref 112), (5, .ref 111), (4, .ref 110), (3, .ref 109), (1, .ref 107)], none) (pc' := 15) (L' := [(0, .ref 106)]) h_m20 (z_at.mk 3 rfl rfl) rfl (by decide) rfl (Or.inl rfl) rfl rfl rfl ?_
  clear H m; intro m H
  refine w_p h_m20 2 (pc' := 17) (L' := [(0, .ref 106)]) (st' := [.int (0 : Int32), .ref 106]) rfl ?_
  refine w_pf H (12, 18, [(10, .int (0 : Int32)), (9, .long (0 : Int64)), (8, .int (0 : Int32)), (2, .int (0 : Int32)), (15, .int (0 : Int32)), (14, .int (0 : Int32)), (13, .int (0 : Int32)), (12, .int (0 : Int32)), (11, .int (0 : Int32)), (0, .ref 41), (17, .ref 116), (16, .ref 114), (7, .ref 113), (6, .ref 112), (5, .ref 111), (4, .ref 110), (3, .ref 109), (1, .ref 107)], none) (pc' := 20) (L' := [(0, .ref 106)]) h_m20 (z_at.mk 3 rfl rfl) rfl (by decide) rfl (Or.inl rfl) rfl rfl rfl ?_
  clear H m; intro m H
  refine w_p h_m20 2 (pc' := 22) (L' := [(0, .ref 106)]) (st' := [.int (0 : Int32), .ref 106]) rfl ?_
  refine w_pf H (12, 18, [(11, .int (0 : Int32)), (10, .int (0 : Int32)), (9, .long (0 : Int64)), (8, .int (0 : Int32)), (2, .int (0 : Int32)), (15, .int (0 : Int32)), (14, .int (0 : Int32)), (13, .int (0 : Int32)), (12, .int (0 : Int32)), (0, .ref 41), (17, .ref 116), (16, .ref 114), (7, .ref 113), (6, .ref 112), (5, .ref 111), (4, .ref 110), (3, .ref 109), (1, .ref 107)], none) (pc' := 25) (L' := [(0, .ref 106)]) h_m20 (z_at.mk 3 rfl rfl) rfl (by decide) rfl (Or.inl rfl) rfl rfl rfl ?_
  clear H m; intro m H
  refine w_p h_m20 2 (pc' := 27) (L' := [(0, .ref 106)]) (st' := [.int (0 : Int32), .ref 106]) rfl ?_
  refine w_pf H (12, 18, [(12, .int (0 : Int32)), (11, .int (0 : Int32)), (10, .int (0 : Int32)), (9, .long (0 : Int64)), (8, .int (0 : Int32)), (2, .int (0 : Int32)), (15, .int (0 : Int32)), (14, .int (0 : Int32)), (13, .int (0 : Int32)), (0, .ref 41), (17, .ref 116), (16, .ref 114), (7, .ref 113), (6, .ref 112), (5, .ref 111), (4, .ref 110), (3, .ref 109), (1, .ref 107)], none) (pc' := 30) (L' := [(0, .ref 106)]) h_m20 (z_at.mk 3 rfl rfl) rfl (by decide) rfl (Or.inl rfl) rfl rfl rfl ?_
  clear H m; intro m H
  refine w_p h_m20 2 (pc' := 32) (L' := [(0, .ref 106)]) (st' := [.int (0 : Int32), .ref 106]) rfl ?_
  refine w_pf H (12, 18, [(13, .int (0 : Int32)), (12, .int (0 : Int32)), (11, .int (0 : Int32)), (10, .int (0 : Int32)), (9, .long (0 : Int64)), (8, .int (0 : Int32)), (2, .int (0 : Int32)), (15, .int (0 : Int32)), (14, .int (0 : Int32)), (0, .ref 41), (17, .ref 116), (16, .ref 114), (7, .ref 113), (6, .ref 112), (5, .ref 111), (4, .ref 110), (3, .ref 109), (1, .ref 107)], none) (pc' := 35) (L' := [(0, .ref 106)]) h_m20 (z_at.mk 3 rfl rfl) rfl (by decide) rfl (Or.inl rfl) rfl rfl rfl ?_
  clear H m; intro m H
  refine w_p h_m20 2 (pc' := 37) (L' := [(0, .ref 106)]) (st' := [.int (0 : Int32), .ref 106]) rfl ?_
  refine w_pf H (12, 18, [(14, .int (0 : Int32)), (13, .int (0 : Int32)), (12, .int (0 : Int32)), (11, .int (0 : Int32)), (10, .int (0 : Int32)), (9, .long (0 : Int64)), (8, .int (0 : Int32)), (2, .int (0 : Int32)), (15, .int (0 : Int32)), (0, .ref 41), (17, .ref 116), (16, .ref 114), (7, .ref 113), (6, .ref 112), (5, .ref 111), (4, .ref 110), (3, .ref 109), (1, .ref 107)], none) (pc' := 40) (L' := [(0, .ref 106)]) h_m20 (z_at.mk 3 rfl rfl) rfl (by decide) rfl (Or.inl rfl) rfl rfl rfl ?_
  clear H m; intro m H
  refine w_p h_m20 2 (pc' := 42) (L' := [(0, .ref 106)]) (st' := [.int (0 : Int32), .ref 106]) rfl ?_
  refine w_pf H (12, 18, [(15, .int (0 : Int32)), (14, .int (0 : Int32)), (13, .int (0 : Int32)), (12, .int (0 : Int32)), (11, .int (0 : Int32)), (10, .int (0 : Int32)), (9, .long (0 : Int64)), (8, .int (0 : Int32)), (2, .int (0 : Int32)), (0, .ref 41), (17, .ref 116), (16, .ref 114), (7, .ref 113), (6, .ref 112), (5, .ref 111), (4, .ref 110), (3, .ref 109), (1, .ref 107)], none) (pc' := 45) (L' := [(0, .ref 106)]) h_m20 (z_at.mk 3 rfl rfl) rfl (by decide) rfl (Or.inl rfl) rfl rfl rfl ?_
  clear H m; intro m H
  refine w_rv h_m20 (z_at.mk 1 rfl rfl) rfl ?_
  show z_W 998 145 7 [(0, .ref 39), (1, .int (55 : Int32))] [] m _
  refine w_p h_m145 1 (pc' := 8) (L' := [(0, .ref 39), (1, .int (55 : Int32))]) (st' := [.ref 39]) rfl ?_
  refine w_gf H (pc' := 11) (L' := [(0, .ref 39), (1, .int (55 : Int32))]) h_m145 (z_at.mk 3 rfl rfl) rfl (u := .ref 106) rfl rfl rfl ?_
  refine w_gf H (pc' := 14) (L' := [(0, .ref 39), (1, .int (55 : Int32))]) h_m145 (z_at.mk 3 rfl rfl) rfl (u := .ref 107) rfl rfl rfl ?_
  refine w_p h_m145 1 (pc' := 15) (L' := [(0, .ref 39), (1, .int (55 : Int32))]) (st' := [.ref 39, .ref 107]) rfl ?_
  refine w_gf H (pc' := 18) (L' := [(0, .ref 39), (1, .int (55 : Int32))]) h_m145 (z_at.mk 3 rfl rfl) rfl (u := .ref 40) rfl rfl rfl ?_
  refine w_gf H (pc' := 21) (L' := [(0, .ref 39), (1, .int (55 : Int32))]) h_m145 (z_at.mk 3 rfl rfl) rfl (u := .ref 48) rfl rfl rfl ?_
  refine w_gf H (pc' := 24) (L' := [(0, .ref 39), (1, .int (55 : Int32))]) h_m145 (z_at.mk 3 rfl rfl) rfl (u := .ref 49) rfl rfl rfl ?_
  refine w_cv (H.t rfl) (pc' := 27) (L' := [(0, .ref 39), (1, .int (55 : Int32))]) (rest := []) (Ps := [.ref 49]) (L0 := [(0, .ref 107), (1, .ref 49)]) h_m145 (z_at.mk 3 rfl rfl) (Or.inl ⟨rfl, rfl⟩) rfl rfl (by decide) (by decide) rfl rfl rfl rfl rfl rfl (by decide) rfl rfl rfl ?_
  refine w_p h_m74 1 (pc' := 1) (L' := [(0, .ref 107), (1, .ref 49)]) (st' := [.ref 49]) rfl ?_
  refine w_gf H (pc' := 4) (L' := [(0, .ref 107), (1, .ref 49)]) h_m74 (z_at.mk 3 rfl rfl) rfl (u := .ref 50) rfl rfl rfl ?_
  refine w_p h_m74 2 (pc' := 6) (L' := [(0, .ref 107), (1, .ref 49)]) (st' := [.ref 107, .int (0 : Int32), .ref 50]) rfl ?_
  refine w_gf H (pc' := 9) (L' := [(0, .ref 107), (1, .ref 49)]) h_m74 (z_at.mk 3 rfl rfl) rfl (u := .ref 108) rfl rfl rfl ?_
  refine w_p h_m74 2 (pc' := 12) (L' := [(0, .ref 107), (1, .ref 49)]) (st' := [.int (7 : Int32), .int (0 : Int32), .ref 108, .int (0 : Int32), .ref 50]) rfl ?_
  refine w_cpf H (ra := (0, 7, [(6, .int (1024 : Int32)), (5, .int (1 : Int32)), (4, .int (1 : Int32)), (3, .int (0 : Int32)), (2, .int (12 : Int32)), (1, .int (40 : Int32)), (0, .int (10 : Int32))], some (.int (0 : Int32)))) (pc' := 15) (L' := [(0, .ref 107), (1, .ref 49)]) h_m74 (z_at.mk 3 rfl rfl) rfl (z_cat_le 0 rfl (by decide)) rfl rfl rfl rfl (by decide) rfl rfl ?_
  clear H m; intro m H
  refine w_rv h_m74 (z_at.mk 1 rfl rfl) rfl ?_
  show z_W 998 145 27 [(0, .ref 39), (1, .int (55 : Int32))] [] m _
  refine w_p h_m145 1 (pc' := 28) (L' := [(0, .ref 39), (1, .int (55 : Int32))]) (st' := [.ref 39]) rfl ?_
  refine w_gf H (pc' := 31) (L' := [(0, .ref 39), (1, .int (55 : Int32))]) h_m145 (z_at.mk 3 rfl rfl) rfl (u := .ref 106) rfl rfl rfl ?_
  refine w_gf H (pc' := 34) (L' := [(0, .ref 39), (1, .int (55 : Int32))]) h_m145 (z_at.mk 3 rfl rfl) rfl (u := .ref 107) rfl rfl rfl ?_
  refine w_p h_m145 2 (pc' := 36) (L' := [(0, .ref 39), (1, .int (55 : Int32))]) (st' := [.int (55 : Int32), .int (1 : Int32), .ref 107]) rfl ?_
  refine w_cv (H.t rfl) (pc' := 39) (L' := [(0, .ref 39), (1, .int (55 : Int32))]) (rest := []) (Ps := [.int (1 : Int32), .int (55 : Int32)]) (L0 := [(0, .ref 107), (1, .int (1 : Int32)), (2, .int (55 : Int32))]) h_m145 (z_at.mk 3 rfl rfl) (Or.inl ⟨rfl, rfl⟩) rfl rfl (by decide) (by decide) rfl rfl rfl rfl rfl rfl (by decide) rfl rfl rfl ?_
  refine w_p h_m73 6 (pc' := 11) (L' := [(0, .ref 107), (1, .int (1 : Int32)), (2, .int (55 : Int32))]) (st' := [.ref 107]) rfl ?_
  refine w_gf H (pc' := 14) (L' := [(0, .ref 107), (1, .int (1 : Int32)), (2, .int (55 : Int32))]) h_m73 (z_at.mk 3 rfl rfl) rfl (u := .ref 108) rfl rfl rfl ?_
  refine w_p h_m73 2 (pc' := 16) (L' := [(0, .ref 107), (1, .int (1 : Int32)), (2, .int (55 : Int32))]) (st' := [.int (55 : Int32), .int (1 : Int32), .ref 108]) rfl ?_
  refine w_as H (t := 0) (j := 1) (u := .int (55 : Int32)) (0, 7, [(1, .int (55 : Int32)), (6, .int (1024 : Int32)), (5, .int (1 : Int32)), (4, .int (1 : Int32)), (3, .int (0 : Int32)), (2, .int (12 : Int32)), (0, .int (10 : Int32))], some (.int (0 : Int32))) (pc' := 17) (L' := []) h_m73 (z_at.mk 1 rfl rfl) rfl rfl (w_ui _ _ (by decide)) rfl rfl rfl rfl ?_
  clear H m; intro m H
  refine w_rv h_m73 (z_at.mk 1 rfl rfl) rfl ?_
  show z_W 998 145 39 [(0, .ref 39), (1, .int (55 : Int32))] [] m _
  refine w_p h_m145 4 (pc' := 43) (L' := [(0, .ref 39), (2, .int (0 : Int32))]) (st' := [.ref 39, .int (0 : Int32)]) rfl ?_
  refine w_gf H (pc' := 46) (L' := [(0, .ref 39), (2, .int (0 : Int32))]) h_m145 (z_at.mk 3 rfl rfl) rfl (u := .ref 40) rfl rfl rfl ?_
  refine w_gf H (pc' := 49) (L' := [(0, .ref 39), (2, .int (0 : Int32))]) h_m145 (z_at.mk 3 rfl rfl) rfl (u := .ref 63) rfl rfl rfl ?_
  refine w_gf H (pc' := 52) (L' := [(0, .ref 39), (2, .int (0 : Int32))]) h_m145 (z_at.mk 3 rfl rfl) rfl (u := .int (0 : Int32)) rfl rfl rfl ?_
  refine w_p h_m145 1 (pc' := 79) (L' := [(0, .ref 39), (2, .int (0 : Int32))]) (st' := []) rfl ?_
  refine w_rv h_m145 (z_at.mk 1 rfl rfl) rfl ?_
  show z_W 999 146 13 [(0, .ref 39), (1, .int (xs 1)), (2, .int (55 : Int32))] [] m _
  refine w_p h_m146 1 (pc' := 14) (L' := [(0, .ref 39), (1, .int (xs 1)), (2, .int (55 : Int32))]) (st' := [.ref 39]) rfl ?_
  refine w_gf H (pc' := 17) (L' := [(0, .ref 39), (1, .int (xs 1)), (2, .int (55 : Int32))]) h_m146 (z_at.mk 3 rfl rfl) rfl (u := .ref 106) rfl rfl rfl ?_
  refine w_gf H (pc' := 20) (L' := [(0, .ref 39), (1, .int (xs 1)), (2, .int (55 : Int32))]) h_m146 (z_at.mk 3 rfl rfl) rfl (u := .int (0 : Int32)) rfl rfl rfl ?_
  refine w_p h_m146 1 (pc' := 21) (L' := [(0, .ref 39), (1, .int (xs 1)), (2, .int (55 : Int32))]) (st' := [.int (xs 1), .int (0 : Int32)]) rfl ?_
  refine w_t2 (pc' := 26) (L' := [(0, .ref 39), (1, .int (xs 1)), (2, .int (55 : Int32))]) h_m146 (z_at.mk 3 rfl rfl) rfl (zc (a := 0) (b := (xs 1).toInt) rfl rfl (decide_eq_true (by omega))) rfl rfl ?_
  refine w_p h_m146 2 (pc' := 2) (L' := [(0, .ref 39), (1, .int (xs 1)), (2, .int (56 : Int32))]) (st' := []) rfl ?_
  exact hQ m (H.subC (by decide +kernel))
set_option maxHeartbeats 400000000 in
set_option maxRecDepth 20000 in
theorem w_turn_146_56 {xs : Nat → Int32} {m : zM} {Q : Option Value → zM → Prop} (hp : (xs 1).toInt < 0) (H : w_ok 6 xs 168 63950 ((106, (12, 18, [(15, .int (0 : Int32)), (14, .int (0 : Int32)), (13, .int (0 : Int32)), (12, .int (0 : Int32)), (11, .int (0 : Int32)), (10, .int (0 : Int32)), (9, .long (0 : Int64)), (8, .int (0 : Int32)), (2, .int (0 : Int32)), (0, .ref 41), (17, .ref 116), (16, .ref 114), (7, .ref 113), (6, .ref 112), (5, .ref 111), (4, .ref 110), (3, .ref 109), (1, .ref 107)], none)) :: (108, (0, 7, [(1, .int (55 : Int32)), (6, .int (1024 : Int32)), (5, .int (1 : Int32)), (4, .int (1 : Int32)), (3, .int (0 : Int32)), (2, .int (12 : Int32)), (0, .int (10 : Int32))], some (.int (0 : Int32)))) :: w_T0) m) (hQ : ∀ m, w_ok 6 xs 168 63950 ((106, (12, 18, [(15, .int (0 : Int32)), (14, .int (0 : Int32)), (13, .int (0 : Int32)), (12, .int (0 : Int32)), (11, .int (0 : Int32)), (10, .int (0 : Int32)), (9, .long (0 : Int64)), (8, .int (0 : Int32)), (2, .int (0 : Int32)), (0, .ref 41), (17, .ref 116), (16, .ref 114), (7, .ref 113), (6, .ref 112), (5, .ref 111), (4, .ref 110), (3, .ref 109), (1, .ref 107)], none)) :: (108, (0, 7, [(1, .int (56 : Int32)), (6, .int (1024 : Int32)), (5, .int (1 : Int32)), (4, .int (1 : Int32)), (3, .int (0 : Int32)), (2, .int (12 : Int32)), (0, .int (10 : Int32))], some (.int (0 : Int32)))) :: w_T0) m → z_W 999 146 2 [(0, .ref 39), (1, .int (xs 1)), (2, .int (57 : Int32))] [] m Q) : z_W 999 146 2 [(0, .ref 39), (1, .int (xs 1)), (2, .int (56 : Int32))] [] m Q := by
  refine w_p h_m146 5 (pc' := 10) (L' := [(0, .ref 39), (1, .int (xs 1)), (2, .int (56 : Int32))]) (st' := [.int (56 : Int32), .ref 39]) rfl ?_
  refine w_cv (H.t rfl) (pc' := 13) (L' := [(0, .ref 39), (1, .int (xs 1)), (2, .int (56 : Int32))]) (rest := []) (Ps := [.int (56 : Int32)]) (L0 := [(0, .ref 39), (1, .int (56 : Int32))]) h_m146 (z_at.mk 3 rfl rfl) (Or.inl ⟨rfl, rfl⟩) rfl rfl (by decide) (by decide) rfl rfl rfl rfl rfl rfl (by decide) rfl rfl rfl ?_
  refine w_p h_m145 1 (pc' := 1) (L' := [(0, .ref 39), (1, .int (56 : Int32))]) (st' := [.ref 39]) rfl ?_
  refine w_gf H (pc' := 4) (L' := [(0, .ref 39), (1, .int (56 : Int32))]) h_m145 (z_at.mk 3 rfl rfl) rfl (u := .ref 106) rfl rfl rfl ?_
  refine w_cv (H.t rfl) (pc' := 7) (L' := [(0, .ref 39), (1, .int (56 : Int32))]) (rest := []) (Ps := []) (L0 := [(0, .ref 106)]) h_m145 (z_at.mk 3 rfl rfl) (Or.inl ⟨rfl, rfl⟩) rfl rfl (by decide) (by decide) rfl rfl rfl rfl rfl rfl (by decide) rfl rfl rfl ?_
  refine w_p h_m20 2 (pc' := 2) (L' := [(0, .ref 106)]) (st' := [.int (0 : Int32), .ref 106]) rfl ?_
  refine w_pf H (12, 18, [(2, .int (0 : Int32)), (15, .int (0 : Int32)), (14, .int (0 : Int32)), (13, .int (0 : Int32)), (12, .int (0 : Int32)), (11, .int (0 : Int32)), (10, .int (0 : Int32)), (9, .long (0 : Int64)), (8, .int (0 : Int32)), (0, .ref 41), (17, .ref 116), (16, .ref 114), (7, .ref 113), (6, .ref 112), (5, .ref 111), (4, .ref 110), (3, .ref 109), (1, .ref 107)], none) (pc' := 5) (L' := [(0, .ref 106)]) h_m20 (z_at.mk 3 rfl rfl) rfl (by decide) rfl (Or.inl rfl) rfl rfl rfl ?_
  clear H m; intro m H
  refine w_p h_m20 2 (pc' := 7) (L' := [(0, .ref 106)]) (st' := [.int (0 : Int32), .ref 106]) rfl ?_
  refine w_pf H (12, 18, [(8, .int (0 : Int32)), (2, .int (0 : Int32)), (15, .int (0 : Int32)), (14, .int (0 : Int32)), (13, .int (0 : Int32)), (12, .int (0 : Int32)), (11, .int (0 : Int32)), (10, .int (0 : Int32)), (9, .long (0 : Int64)), (0, .ref 41), (17, .ref 116), (16, .ref 114), (7, .ref 113), (6, .ref 112), (5, .ref 111), (4, .ref 110), (3, .ref 109), (1, .ref 107)], none) (pc' := 10) (L' := [(0, .ref 106)]) h_m20 (z_at.mk 3 rfl rfl) rfl (by decide) rfl (Or.inl rfl) rfl rfl rfl ?_
  clear H m; intro m H
  refine w_p h_m20 2 (pc' := 12) (L' := [(0, .ref 106)]) (st' := [.long (0 : Int64), .ref 106]) rfl ?_
  refine w_pf H (12, 18, [(9, .long (0 : Int64)), (8, .int (0 : Int32)), (2, .int (0 : Int32)), (15, .int (0 : Int32)), (14, .int (0 : Int32)), (13, .int (0 : Int32)), (12, .int (0 : Int32)), (11, .int (0 : Int32)), (10, .int (0 : Int32)), (0, .ref 41), (17, .ref 116), (16, .ref 114), (7, .ref 113), (6, .ref 112), (5, .ref 111), (4, .ref 110), (3, .ref 109), (1, .ref 107)], none) (pc' := 15) (L' := [(0, .ref 106)]) h_m20 (z_at.mk 3 rfl rfl) rfl (by decide) rfl (Or.inl rfl) rfl rfl rfl ?_
  clear H m; intro m H
  refine w_p h_m20 2 (pc' := 17) (L' := [(0, .ref 106)]) (st' := [.int (0 : Int32), .ref 106]) rfl ?_
  refine w_pf H (12, 18, [(10, .int (0 : Int32)), (9, .long (0 : Int64)), (8, .int (0 : Int32)), (2, .int (0 : Int32)), (15, .int (0 : Int32)), (14, .int (0 : Int32)), (13, .int (0 : Int32)), (12, .int (0 : Int32)), (11, .int (0 : Int32)), (0, .ref 41), (17, .ref 116), (16, .ref 114), (7, .ref 113), (6, .ref 112), (5, .ref 111), (4, .ref 110), (3, .ref 109), (1, .ref 107)], none) (pc' := 20) (L' := [(0, .ref 106)]) h_m20 (z_at.mk 3 rfl rfl) rfl (by decide) rfl (Or.inl rfl) rfl rfl rfl ?_
  clear H m; intro m H
  refine w_p h_m20 2 (pc' := 22) (L' := [(0, .ref 106)]) (st' := [.int (0 : Int32), .ref 106]) rfl ?_
  refine w_pf H (12, 18, [(11, .int (0 : Int32)), (10, .int (0 : Int32)), (9, .long (0 : Int64)), (8, .int (0 : Int32)), (2, .int (0 : Int32)), (15, .int (0 : Int32)), (14, .int (0 : Int32)), (13, .int (0 : Int32)), (12, .int (0 : Int32)), (0, .ref 41), (17, .ref 116), (16, .ref 114), (7, .ref 113), (6, .ref 112), (5, .ref 111), (4, .ref 110), (3, .ref 109), (1, .ref 107)], none) (pc' := 25) (L' := [(0, .ref 106)]) h_m20 (z_at.mk 3 rfl rfl) rfl (by decide) rfl (Or.inl rfl) rfl rfl rfl ?_
  clear H m; intro m H
  refine w_p h_m20 2 (pc' := 27) (L' := [(0, .ref 106)]) (st' := [.int (0 : Int32), .ref 106]) rfl ?_
  refine w_pf H (12, 18, [(12, .int (0 : Int32)), (11, .int (0 : Int32)), (10, .int (0 : Int32)), (9, .long (0 : Int64)), (8, .int (0 : Int32)), (2, .int (0 : Int32)), (15, .int (0 : Int32)), (14, .int (0 : Int32)), (13, .int (0 : Int32)), (0, .ref 41), (17, .ref 116), (16, .ref 114), (7, .ref 113), (6, .ref 112), (5, .ref 111), (4, .ref 110), (3, .ref 109), (1, .ref 107)], none) (pc' := 30) (L' := [(0, .ref 106)]) h_m20 (z_at.mk 3 rfl rfl) rfl (by decide) rfl (Or.inl rfl) rfl rfl rfl ?_
  clear H m; intro m H
  refine w_p h_m20 2 (pc' := 32) (L' := [(0, .ref 106)]) (st' := [.int (0 : Int32), .ref 106]) rfl ?_
  refine w_pf H (12, 18, [(13, .int (0 : Int32)), (12, .int (0 : Int32)), (11, .int (0 : Int32)), (10, .int (0 : Int32)), (9, .long (0 : Int64)), (8, .int (0 : Int32)), (2, .int (0 : Int32)), (15, .int (0 : Int32)), (14, .int (0 : Int32)), (0, .ref 41), (17, .ref 116), (16, .ref 114), (7, .ref 113), (6, .ref 112), (5, .ref 111), (4, .ref 110), (3, .ref 109), (1, .ref 107)], none) (pc' := 35) (L' := [(0, .ref 106)]) h_m20 (z_at.mk 3 rfl rfl) rfl (by decide) rfl (Or.inl rfl) rfl rfl rfl ?_
  clear H m; intro m H
  refine w_p h_m20 2 (pc' := 37) (L' := [(0, .ref 106)]) (st' := [.int (0 : Int32), .ref 106]) rfl ?_
  refine w_pf H (12, 18, [(14, .int (0 : Int32)), (13, .int (0 : Int32)), (12, .int (0 : Int32)), (11, .int (0 : Int32)), (10, .int (0 : Int32)), (9, .long (0 : Int64)), (8, .int (0 : Int32)), (2, .int (0 : Int32)), (15, .int (0 : Int32)), (0, .ref 41), (17, .ref 116), (16, .ref 114), (7, .ref 113), (6, .ref 112), (5, .ref 111), (4, .ref 110), (3, .ref 109), (1, .ref 107)], none) (pc' := 40) (L' := [(0, .ref 106)]) h_m20 (z_at.mk 3 rfl rfl) rfl (by decide) rfl (Or.inl rfl) rfl rfl rfl ?_
  clear H m; intro m H
  refine w_p h_m20 2 (pc' := 42) (L' := [(0, .ref 106)]) (st' := [.int (0 : Int32), .ref 106]) rfl ?_
  refine w_pf H (12, 18, [(15, .int (0 : Int32)), (14, .int (0 : Int32)), (13, .int (0 : Int32)), (12, .int (0 : Int32)), (11, .int (0 : Int32)), (10, .int (0 : Int32)), (9, .long (0 : Int64)), (8, .int (0 : Int32)), (2, .int (0 : Int32)), (0, .ref 41), (17, .ref 116), (16, .ref 114), (7, .ref 113), (6, .ref 112), (5, .ref 111), (4, .ref 110), (3, .ref 109), (1, .ref 107)], none) (pc' := 45) (L' := [(0, .ref 106)]) h_m20 (z_at.mk 3 rfl rfl) rfl (by decide) rfl (Or.inl rfl) rfl rfl rfl ?_
  clear H m; intro m H
  refine w_rv h_m20 (z_at.mk 1 rfl rfl) rfl ?_
  show z_W 998 145 7 [(0, .ref 39), (1, .int (56 : Int32))] [] m _
  refine w_p h_m145 1 (pc' := 8) (L' := [(0, .ref 39), (1, .int (56 : Int32))]) (st' := [.ref 39]) rfl ?_
  refine w_gf H (pc' := 11) (L' := [(0, .ref 39), (1, .int (56 : Int32))]) h_m145 (z_at.mk 3 rfl rfl) rfl (u := .ref 106) rfl rfl rfl ?_
  refine w_gf H (pc' := 14) (L' := [(0, .ref 39), (1, .int (56 : Int32))]) h_m145 (z_at.mk 3 rfl rfl) rfl (u := .ref 107) rfl rfl rfl ?_
  refine w_p h_m145 1 (pc' := 15) (L' := [(0, .ref 39), (1, .int (56 : Int32))]) (st' := [.ref 39, .ref 107]) rfl ?_
  refine w_gf H (pc' := 18) (L' := [(0, .ref 39), (1, .int (56 : Int32))]) h_m145 (z_at.mk 3 rfl rfl) rfl (u := .ref 40) rfl rfl rfl ?_
  refine w_gf H (pc' := 21) (L' := [(0, .ref 39), (1, .int (56 : Int32))]) h_m145 (z_at.mk 3 rfl rfl) rfl (u := .ref 48) rfl rfl rfl ?_
  refine w_gf H (pc' := 24) (L' := [(0, .ref 39), (1, .int (56 : Int32))]) h_m145 (z_at.mk 3 rfl rfl) rfl (u := .ref 49) rfl rfl rfl ?_
  refine w_cv (H.t rfl) (pc' := 27) (L' := [(0, .ref 39), (1, .int (56 : Int32))]) (rest := []) (Ps := [.ref 49]) (L0 := [(0, .ref 107), (1, .ref 49)]) h_m145 (z_at.mk 3 rfl rfl) (Or.inl ⟨rfl, rfl⟩) rfl rfl (by decide) (by decide) rfl rfl rfl rfl rfl rfl (by decide) rfl rfl rfl ?_
  refine w_p h_m74 1 (pc' := 1) (L' := [(0, .ref 107), (1, .ref 49)]) (st' := [.ref 49]) rfl ?_
  refine w_gf H (pc' := 4) (L' := [(0, .ref 107), (1, .ref 49)]) h_m74 (z_at.mk 3 rfl rfl) rfl (u := .ref 50) rfl rfl rfl ?_
  refine w_p h_m74 2 (pc' := 6) (L' := [(0, .ref 107), (1, .ref 49)]) (st' := [.ref 107, .int (0 : Int32), .ref 50]) rfl ?_
  refine w_gf H (pc' := 9) (L' := [(0, .ref 107), (1, .ref 49)]) h_m74 (z_at.mk 3 rfl rfl) rfl (u := .ref 108) rfl rfl rfl ?_
  refine w_p h_m74 2 (pc' := 12) (L' := [(0, .ref 107), (1, .ref 49)]) (st' := [.int (7 : Int32), .int (0 : Int32), .ref 108, .int (0 : Int32), .ref 50]) rfl ?_
  refine w_cpf H (ra := (0, 7, [(6, .int (1024 : Int32)), (5, .int (1 : Int32)), (4, .int (1 : Int32)), (3, .int (0 : Int32)), (2, .int (12 : Int32)), (1, .int (40 : Int32)), (0, .int (10 : Int32))], some (.int (0 : Int32)))) (pc' := 15) (L' := [(0, .ref 107), (1, .ref 49)]) h_m74 (z_at.mk 3 rfl rfl) rfl (z_cat_le 0 rfl (by decide)) rfl rfl rfl rfl (by decide) rfl rfl ?_
  clear H m; intro m H
  refine w_rv h_m74 (z_at.mk 1 rfl rfl) rfl ?_
  show z_W 998 145 27 [(0, .ref 39), (1, .int (56 : Int32))] [] m _
  refine w_p h_m145 1 (pc' := 28) (L' := [(0, .ref 39), (1, .int (56 : Int32))]) (st' := [.ref 39]) rfl ?_
  refine w_gf H (pc' := 31) (L' := [(0, .ref 39), (1, .int (56 : Int32))]) h_m145 (z_at.mk 3 rfl rfl) rfl (u := .ref 106) rfl rfl rfl ?_
  refine w_gf H (pc' := 34) (L' := [(0, .ref 39), (1, .int (56 : Int32))]) h_m145 (z_at.mk 3 rfl rfl) rfl (u := .ref 107) rfl rfl rfl ?_
  refine w_p h_m145 2 (pc' := 36) (L' := [(0, .ref 39), (1, .int (56 : Int32))]) (st' := [.int (56 : Int32), .int (1 : Int32), .ref 107]) rfl ?_
  refine w_cv (H.t rfl) (pc' := 39) (L' := [(0, .ref 39), (1, .int (56 : Int32))]) (rest := []) (Ps := [.int (1 : Int32), .int (56 : Int32)]) (L0 := [(0, .ref 107), (1, .int (1 : Int32)), (2, .int (56 : Int32))]) h_m145 (z_at.mk 3 rfl rfl) (Or.inl ⟨rfl, rfl⟩) rfl rfl (by decide) (by decide) rfl rfl rfl rfl rfl rfl (by decide) rfl rfl rfl ?_
  refine w_p h_m73 6 (pc' := 11) (L' := [(0, .ref 107), (1, .int (1 : Int32)), (2, .int (56 : Int32))]) (st' := [.ref 107]) rfl ?_
  refine w_gf H (pc' := 14) (L' := [(0, .ref 107), (1, .int (1 : Int32)), (2, .int (56 : Int32))]) h_m73 (z_at.mk 3 rfl rfl) rfl (u := .ref 108) rfl rfl rfl ?_
  refine w_p h_m73 2 (pc' := 16) (L' := [(0, .ref 107), (1, .int (1 : Int32)), (2, .int (56 : Int32))]) (st' := [.int (56 : Int32), .int (1 : Int32), .ref 108]) rfl ?_
  refine w_as H (t := 0) (j := 1) (u := .int (56 : Int32)) (0, 7, [(1, .int (56 : Int32)), (6, .int (1024 : Int32)), (5, .int (1 : Int32)), (4, .int (1 : Int32)), (3, .int (0 : Int32)), (2, .int (12 : Int32)), (0, .int (10 : Int32))], some (.int (0 : Int32))) (pc' := 17) (L' := []) h_m73 (z_at.mk 1 rfl rfl) rfl rfl (w_ui _ _ (by decide)) rfl rfl rfl rfl ?_
  clear H m; intro m H
  refine w_rv h_m73 (z_at.mk 1 rfl rfl) rfl ?_
  show z_W 998 145 39 [(0, .ref 39), (1, .int (56 : Int32))] [] m _
  refine w_p h_m145 4 (pc' := 43) (L' := [(0, .ref 39), (2, .int (0 : Int32))]) (st' := [.ref 39, .int (0 : Int32)]) rfl ?_
  refine w_gf H (pc' := 46) (L' := [(0, .ref 39), (2, .int (0 : Int32))]) h_m145 (z_at.mk 3 rfl rfl) rfl (u := .ref 40) rfl rfl rfl ?_
  refine w_gf H (pc' := 49) (L' := [(0, .ref 39), (2, .int (0 : Int32))]) h_m145 (z_at.mk 3 rfl rfl) rfl (u := .ref 63) rfl rfl rfl ?_
  refine w_gf H (pc' := 52) (L' := [(0, .ref 39), (2, .int (0 : Int32))]) h_m145 (z_at.mk 3 rfl rfl) rfl (u := .int (0 : Int32)) rfl rfl rfl ?_
  refine w_p h_m145 1 (pc' := 79) (L' := [(0, .ref 39), (2, .int (0 : Int32))]) (st' := []) rfl ?_
  refine w_rv h_m145 (z_at.mk 1 rfl rfl) rfl ?_
  show z_W 999 146 13 [(0, .ref 39), (1, .int (xs 1)), (2, .int (56 : Int32))] [] m _
  refine w_p h_m146 1 (pc' := 14) (L' := [(0, .ref 39), (1, .int (xs 1)), (2, .int (56 : Int32))]) (st' := [.ref 39]) rfl ?_
  refine w_gf H (pc' := 17) (L' := [(0, .ref 39), (1, .int (xs 1)), (2, .int (56 : Int32))]) h_m146 (z_at.mk 3 rfl rfl) rfl (u := .ref 106) rfl rfl rfl ?_
  refine w_gf H (pc' := 20) (L' := [(0, .ref 39), (1, .int (xs 1)), (2, .int (56 : Int32))]) h_m146 (z_at.mk 3 rfl rfl) rfl (u := .int (0 : Int32)) rfl rfl rfl ?_
  refine w_p h_m146 1 (pc' := 21) (L' := [(0, .ref 39), (1, .int (xs 1)), (2, .int (56 : Int32))]) (st' := [.int (xs 1), .int (0 : Int32)]) rfl ?_
  refine w_t2 (pc' := 26) (L' := [(0, .ref 39), (1, .int (xs 1)), (2, .int (56 : Int32))]) h_m146 (z_at.mk 3 rfl rfl) rfl (zc (a := 0) (b := (xs 1).toInt) rfl rfl (decide_eq_true (by omega))) rfl rfl ?_
  refine w_p h_m146 2 (pc' := 2) (L' := [(0, .ref 39), (1, .int (xs 1)), (2, .int (57 : Int32))]) (st' := []) rfl ?_
  exact hQ m (H.subC (by decide +kernel))
set_option maxHeartbeats 400000000 in
set_option maxRecDepth 20000 in
theorem w_turn_146_57 {xs : Nat → Int32} {m : zM} {Q : Option Value → zM → Prop} (hp : (xs 1).toInt < 0) (H : w_ok 6 xs 168 63950 ((106, (12, 18, [(15, .int (0 : Int32)), (14, .int (0 : Int32)), (13, .int (0 : Int32)), (12, .int (0 : Int32)), (11, .int (0 : Int32)), (10, .int (0 : Int32)), (9, .long (0 : Int64)), (8, .int (0 : Int32)), (2, .int (0 : Int32)), (0, .ref 41), (17, .ref 116), (16, .ref 114), (7, .ref 113), (6, .ref 112), (5, .ref 111), (4, .ref 110), (3, .ref 109), (1, .ref 107)], none)) :: (108, (0, 7, [(1, .int (56 : Int32)), (6, .int (1024 : Int32)), (5, .int (1 : Int32)), (4, .int (1 : Int32)), (3, .int (0 : Int32)), (2, .int (12 : Int32)), (0, .int (10 : Int32))], some (.int (0 : Int32)))) :: w_T0) m) (hQ : ∀ m, w_ok 6 xs 168 63950 ((106, (12, 18, [(15, .int (0 : Int32)), (14, .int (0 : Int32)), (13, .int (0 : Int32)), (12, .int (0 : Int32)), (11, .int (0 : Int32)), (10, .int (0 : Int32)), (9, .long (0 : Int64)), (8, .int (0 : Int32)), (2, .int (0 : Int32)), (0, .ref 41), (17, .ref 116), (16, .ref 114), (7, .ref 113), (6, .ref 112), (5, .ref 111), (4, .ref 110), (3, .ref 109), (1, .ref 107)], none)) :: (108, (0, 7, [(1, .int (57 : Int32)), (6, .int (1024 : Int32)), (5, .int (1 : Int32)), (4, .int (1 : Int32)), (3, .int (0 : Int32)), (2, .int (12 : Int32)), (0, .int (10 : Int32))], some (.int (0 : Int32)))) :: w_T0) m → z_W 999 146 2 [(0, .ref 39), (1, .int (xs 1)), (2, .int (58 : Int32))] [] m Q) : z_W 999 146 2 [(0, .ref 39), (1, .int (xs 1)), (2, .int (57 : Int32))] [] m Q := by
  refine w_p h_m146 5 (pc' := 10) (L' := [(0, .ref 39), (1, .int (xs 1)), (2, .int (57 : Int32))]) (st' := [.int (57 : Int32), .ref 39]) rfl ?_
  refine w_cv (H.t rfl) (pc' := 13) (L' := [(0, .ref 39), (1, .int (xs 1)), (2, .int (57 : Int32))]) (rest := []) (Ps := [.int (57 : Int32)]) (L0 := [(0, .ref 39), (1, .int (57 : Int32))]) h_m146 (z_at.mk 3 rfl rfl) (Or.inl ⟨rfl, rfl⟩) rfl rfl (by decide) (by decide) rfl rfl rfl rfl rfl rfl (by decide) rfl rfl rfl ?_
  refine w_p h_m145 1 (pc' := 1) (L' := [(0, .ref 39), (1, .int (57 : Int32))]) (st' := [.ref 39]) rfl ?_
  refine w_gf H (pc' := 4) (L' := [(0, .ref 39), (1, .int (57 : Int32))]) h_m145 (z_at.mk 3 rfl rfl) rfl (u := .ref 106) rfl rfl rfl ?_
  refine w_cv (H.t rfl) (pc' := 7) (L' := [(0, .ref 39), (1, .int (57 : Int32))]) (rest := []) (Ps := []) (L0 := [(0, .ref 106)]) h_m145 (z_at.mk 3 rfl rfl) (Or.inl ⟨rfl, rfl⟩) rfl rfl (by decide) (by decide) rfl rfl rfl rfl rfl rfl (by decide) rfl rfl rfl ?_
  refine w_p h_m20 2 (pc' := 2) (L' := [(0, .ref 106)]) (st' := [.int (0 : Int32), .ref 106]) rfl ?_
  refine w_pf H (12, 18, [(2, .int (0 : Int32)), (15, .int (0 : Int32)), (14, .int (0 : Int32)), (13, .int (0 : Int32)), (12, .int (0 : Int32)), (11, .int (0 : Int32)), (10, .int (0 : Int32)), (9, .long (0 : Int64)), (8, .int (0 : Int32)), (0, .ref 41), (17, .ref 116), (16, .ref 114), (7, .ref 113), (6, .ref 112), (5, .ref 111), (4, .ref 110), (3, .ref 109), (1, .ref 107)], none) (pc' := 5) (L' := [(0, .ref 106)]) h_m20 (z_at.mk 3 rfl rfl) rfl (by decide) rfl (Or.inl rfl) rfl rfl rfl ?_
  clear H m; intro m H
  refine w_p h_m20 2 (pc' := 7) (L' := [(0, .ref 106)]) (st' := [.int (0 : Int32), .ref 106]) rfl ?_
  refine w_pf H (12, 18, [(8, .int (0 : Int32)), (2, .int (0 : Int32)), (15, .int (0 : Int32)), (14, .int (0 : Int32)), (13, .int (0 : Int32)), (12, .int (0 : Int32)), (11, .int (0 : Int32)), (10, .int (0 : Int32)), (9, .long (0 : Int64)), (0, .ref 41), (17, .ref 116), (16, .ref 114), (7, .ref 113), (6, .ref 112), (5, .ref 111), (4, .ref 110), (3, .ref 109), (1, .ref 107)], none) (pc' := 10) (L' := [(0, .ref 106)]) h_m20 (z_at.mk 3 rfl rfl) rfl (by decide) rfl (Or.inl rfl) rfl rfl rfl ?_
  clear H m; intro m H
  refine w_p h_m20 2 (pc' := 12) (L' := [(0, .ref 106)]) (st' := [.long (0 : Int64), .ref 106]) rfl ?_
  refine w_pf H (12, 18, [(9, .long (0 : Int64)), (8, .int (0 : Int32)), (2, .int (0 : Int32)), (15, .int (0 : Int32)), (14, .int (0 : Int32)), (13, .int (0 : Int32)), (12, .int (0 : Int32)), (11, .int (0 : Int32)), (10, .int (0 : Int32)), (0, .ref 41), (17, .ref 116), (16, .ref 114), (7, .ref 113), (6, .ref 112), (5, .ref 111), (4, .ref 110), (3, .ref 109), (1, .ref 107)], none) (pc' := 15) (L' := [(0, .ref 106)]) h_m20 (z_at.mk 3 rfl rfl) rfl (by decide) rfl (Or.inl rfl) rfl rfl rfl ?_
  clear H m; intro m H
  refine w_p h_m20 2 (pc' := 17) (L' := [(0, .ref 106)]) (st' := [.int (0 : Int32), .ref 106]) rfl ?_
  refine w_pf H (12, 18, [(10, .int (0 : Int32)), (9, .long (0 : Int64)), (8, .int (0 : Int32)), (2, .int (0 : Int32)), (15, .int (0 : Int32)), (14, .int (0 : Int32)), (13, .int (0 : Int32)), (12, .int (0 : Int32)), (11, .int (0 : Int32)), (0, .ref 41), (17, .ref 116), (16, .ref 114), (7, .ref 113), (6, .ref 112), (5, .ref 111), (4, .ref 110), (3, .ref 109), (1, .ref 107)], none) (pc' := 20) (L' := [(0, .ref 106)]) h_m20 (z_at.mk 3 rfl rfl) rfl (by decide) rfl (Or.inl rfl) rfl rfl rfl ?_
  clear H m; intro m H
  refine w_p h_m20 2 (pc' := 22) (L' := [(0, .ref 106)]) (st' := [.int (0 : Int32), .ref 106]) rfl ?_
  refine w_pf H (12, 18, [(11, .int (0 : Int32)), (10, .int (0 : Int32)), (9, .long (0 : Int64)), (8, .int (0 : Int32)), (2, .int (0 : Int32)), (15, .int (0 : Int32)), (14, .int (0 : Int32)), (13, .int (0 : Int32)), (12, .int (0 : Int32)), (0, .ref 41), (17, .ref 116), (16, .ref 114), (7, .ref 113), (6, .ref 112), (5, .ref 111), (4, .ref 110), (3, .ref 109), (1, .ref 107)], none) (pc' := 25) (L' := [(0, .ref 106)]) h_m20 (z_at.mk 3 rfl rfl) rfl (by decide) rfl (Or.inl rfl) rfl rfl rfl ?_
  clear H m; intro m H
  refine w_p h_m20 2 (pc' := 27) (L' := [(0, .ref 106)]) (st' := [.int (0 : Int32), .ref 106]) rfl ?_
  refine w_pf H (12, 18, [(12, .int (0 : Int32)), (11, .int (0 : Int32)), (10, .int (0 : Int32)), (9, .long (0 : Int64)), (8, .int (0 : Int32)), (2, .int (0 : Int32)), (15, .int (0 : Int32)), (14, .int (0 : Int32)), (13, .int (0 : Int32)), (0, .ref 41), (17, .ref 116), (16, .ref 114), (7, .ref 113), (6, .ref 112), (5, .ref 111), (4, .ref 110), (3, .ref 109), (1, .ref 107)], none) (pc' := 30) (L' := [(0, .ref 106)]) h_m20 (z_at.mk 3 rfl rfl) rfl (by decide) rfl (Or.inl rfl) rfl rfl rfl ?_
  clear H m; intro m H
  refine w_p h_m20 2 (pc' := 32) (L' := [(0, .ref 106)]) (st' := [.int (0 : Int32), .ref 106]) rfl ?_
  refine w_pf H (12, 18, [(13, .int (0 : Int32)), (12, .int (0 : Int32)), (11, .int (0 : Int32)), (10, .int (0 : Int32)), (9, .long (0 : Int64)), (8, .int (0 : Int32)), (2, .int (0 : Int32)), (15, .int (0 : Int32)), (14, .int (0 : Int32)), (0, .ref 41), (17, .ref 116), (16, .ref 114), (7, .ref 113), (6, .ref 112), (5, .ref 111), (4, .ref 110), (3, .ref 109), (1, .ref 107)], none) (pc' := 35) (L' := [(0, .ref 106)]) h_m20 (z_at.mk 3 rfl rfl) rfl (by decide) rfl (Or.inl rfl) rfl rfl rfl ?_
  clear H m; intro m H
  refine w_p h_m20 2 (pc' := 37) (L' := [(0, .ref 106)]) (st' := [.int (0 : Int32), .ref 106]) rfl ?_
  refine w_pf H (12, 18, [(14, .int (0 : Int32)), (13, .int (0 : Int32)), (12, .int (0 : Int32)), (11, .int (0 : Int32)), (10, .int (0 : Int32)), (9, .long (0 : Int64)), (8, .int (0 : Int32)), (2, .int (0 : Int32)), (15, .int (0 : Int32)), (0, .ref 41), (17, .ref 116), (16, .ref 114), (7, .ref 113), (6, .ref 112), (5, .ref 111), (4, .ref 110), (3, .ref 109), (1, .ref 107)], none) (pc' := 40) (L' := [(0, .ref 106)]) h_m20 (z_at.mk 3 rfl rfl) rfl (by decide) rfl (Or.inl rfl) rfl rfl rfl ?_
  clear H m; intro m H
  refine w_p h_m20 2 (pc' := 42) (L' := [(0, .ref 106)]) (st' := [.int (0 : Int32), .ref 106]) rfl ?_
  refine w_pf H (12, 18, [(15, .int (0 : Int32)), (14, .int (0 : Int32)), (13, .int (0 : Int32)), (12, .int (0 : Int32)), (11, .int (0 : Int32)), (10, .int (0 : Int32)), (9, .long (0 : Int64)), (8, .int (0 : Int32)), (2, .int (0 : Int32)), (0, .ref 41), (17, .ref 116), (16, .ref 114), (7, .ref 113), (6, .ref 112), (5, .ref 111), (4, .ref 110), (3, .ref 109), (1, .ref 107)], none) (pc' := 45) (L' := [(0, .ref 106)]) h_m20 (z_at.mk 3 rfl rfl) rfl (by decide) rfl (Or.inl rfl) rfl rfl rfl ?_
  clear H m; intro m H
  refine w_rv h_m20 (z_at.mk 1 rfl rfl) rfl ?_
  show z_W 998 145 7 [(0, .ref 39), (1, .int (57 : Int32))] [] m _
  refine w_p h_m145 1 (pc' := 8) (L' := [(0, .ref 39), (1, .int (57 : Int32))]) (st' := [.ref 39]) rfl ?_
  refine w_gf H (pc' := 11) (L' := [(0, .ref 39), (1, .int (57 : Int32))]) h_m145 (z_at.mk 3 rfl rfl) rfl (u := .ref 106) rfl rfl rfl ?_
  refine w_gf H (pc' := 14) (L' := [(0, .ref 39), (1, .int (57 : Int32))]) h_m145 (z_at.mk 3 rfl rfl) rfl (u := .ref 107) rfl rfl rfl ?_
  refine w_p h_m145 1 (pc' := 15) (L' := [(0, .ref 39), (1, .int (57 : Int32))]) (st' := [.ref 39, .ref 107]) rfl ?_
  refine w_gf H (pc' := 18) (L' := [(0, .ref 39), (1, .int (57 : Int32))]) h_m145 (z_at.mk 3 rfl rfl) rfl (u := .ref 40) rfl rfl rfl ?_
  refine w_gf H (pc' := 21) (L' := [(0, .ref 39), (1, .int (57 : Int32))]) h_m145 (z_at.mk 3 rfl rfl) rfl (u := .ref 48) rfl rfl rfl ?_
  refine w_gf H (pc' := 24) (L' := [(0, .ref 39), (1, .int (57 : Int32))]) h_m145 (z_at.mk 3 rfl rfl) rfl (u := .ref 49) rfl rfl rfl ?_
  refine w_cv (H.t rfl) (pc' := 27) (L' := [(0, .ref 39), (1, .int (57 : Int32))]) (rest := []) (Ps := [.ref 49]) (L0 := [(0, .ref 107), (1, .ref 49)]) h_m145 (z_at.mk 3 rfl rfl) (Or.inl ⟨rfl, rfl⟩) rfl rfl (by decide) (by decide) rfl rfl rfl rfl rfl rfl (by decide) rfl rfl rfl ?_
  refine w_p h_m74 1 (pc' := 1) (L' := [(0, .ref 107), (1, .ref 49)]) (st' := [.ref 49]) rfl ?_
  refine w_gf H (pc' := 4) (L' := [(0, .ref 107), (1, .ref 49)]) h_m74 (z_at.mk 3 rfl rfl) rfl (u := .ref 50) rfl rfl rfl ?_
  refine w_p h_m74 2 (pc' := 6) (L' := [(0, .ref 107), (1, .ref 49)]) (st' := [.ref 107, .int (0 : Int32), .ref 50]) rfl ?_
  refine w_gf H (pc' := 9) (L' := [(0, .ref 107), (1, .ref 49)]) h_m74 (z_at.mk 3 rfl rfl) rfl (u := .ref 108) rfl rfl rfl ?_
  refine w_p h_m74 2 (pc' := 12) (L' := [(0, .ref 107), (1, .ref 49)]) (st' := [.int (7 : Int32), .int (0 : Int32), .ref 108, .int (0 : Int32), .ref 50]) rfl ?_
  refine w_cpf H (ra := (0, 7, [(6, .int (1024 : Int32)), (5, .int (1 : Int32)), (4, .int (1 : Int32)), (3, .int (0 : Int32)), (2, .int (12 : Int32)), (1, .int (40 : Int32)), (0, .int (10 : Int32))], some (.int (0 : Int32)))) (pc' := 15) (L' := [(0, .ref 107), (1, .ref 49)]) h_m74 (z_at.mk 3 rfl rfl) rfl (z_cat_le 0 rfl (by decide)) rfl rfl rfl rfl (by decide) rfl rfl ?_
  clear H m; intro m H
  refine w_rv h_m74 (z_at.mk 1 rfl rfl) rfl ?_
  show z_W 998 145 27 [(0, .ref 39), (1, .int (57 : Int32))] [] m _
  refine w_p h_m145 1 (pc' := 28) (L' := [(0, .ref 39), (1, .int (57 : Int32))]) (st' := [.ref 39]) rfl ?_
  refine w_gf H (pc' := 31) (L' := [(0, .ref 39), (1, .int (57 : Int32))]) h_m145 (z_at.mk 3 rfl rfl) rfl (u := .ref 106) rfl rfl rfl ?_
  refine w_gf H (pc' := 34) (L' := [(0, .ref 39), (1, .int (57 : Int32))]) h_m145 (z_at.mk 3 rfl rfl) rfl (u := .ref 107) rfl rfl rfl ?_
  refine w_p h_m145 2 (pc' := 36) (L' := [(0, .ref 39), (1, .int (57 : Int32))]) (st' := [.int (57 : Int32), .int (1 : Int32), .ref 107]) rfl ?_
  refine w_cv (H.t rfl) (pc' := 39) (L' := [(0, .ref 39), (1, .int (57 : Int32))]) (rest := []) (Ps := [.int (1 : Int32), .int (57 : Int32)]) (L0 := [(0, .ref 107), (1, .int (1 : Int32)), (2, .int (57 : Int32))]) h_m145 (z_at.mk 3 rfl rfl) (Or.inl ⟨rfl, rfl⟩) rfl rfl (by decide) (by decide) rfl rfl rfl rfl rfl rfl (by decide) rfl rfl rfl ?_
  refine w_p h_m73 6 (pc' := 11) (L' := [(0, .ref 107), (1, .int (1 : Int32)), (2, .int (57 : Int32))]) (st' := [.ref 107]) rfl ?_
  refine w_gf H (pc' := 14) (L' := [(0, .ref 107), (1, .int (1 : Int32)), (2, .int (57 : Int32))]) h_m73 (z_at.mk 3 rfl rfl) rfl (u := .ref 108) rfl rfl rfl ?_
  refine w_p h_m73 2 (pc' := 16) (L' := [(0, .ref 107), (1, .int (1 : Int32)), (2, .int (57 : Int32))]) (st' := [.int (57 : Int32), .int (1 : Int32), .ref 108]) rfl ?_
  refine w_as H (t := 0) (j := 1) (u := .int (57 : Int32)) (0, 7, [(1, .int (57 : Int32)), (6, .int (1024 : Int32)), (5, .int (1 : Int32)), (4, .int (1 : Int32)), (3, .int (0 : Int32)), (2, .int (12 : Int32)), (0, .int (10 : Int32))], some (.int (0 : Int32))) (pc' := 17) (L' := []) h_m73 (z_at.mk 1 rfl rfl) rfl rfl (w_ui _ _ (by decide)) rfl rfl rfl rfl ?_
  clear H m; intro m H
  refine w_rv h_m73 (z_at.mk 1 rfl rfl) rfl ?_
  show z_W 998 145 39 [(0, .ref 39), (1, .int (57 : Int32))] [] m _
  refine w_p h_m145 4 (pc' := 43) (L' := [(0, .ref 39), (2, .int (0 : Int32))]) (st' := [.ref 39, .int (0 : Int32)]) rfl ?_
  refine w_gf H (pc' := 46) (L' := [(0, .ref 39), (2, .int (0 : Int32))]) h_m145 (z_at.mk 3 rfl rfl) rfl (u := .ref 40) rfl rfl rfl ?_
  refine w_gf H (pc' := 49) (L' := [(0, .ref 39), (2, .int (0 : Int32))]) h_m145 (z_at.mk 3 rfl rfl) rfl (u := .ref 63) rfl rfl rfl ?_
  refine w_gf H (pc' := 52) (L' := [(0, .ref 39), (2, .int (0 : Int32))]) h_m145 (z_at.mk 3 rfl rfl) rfl (u := .int (0 : Int32)) rfl rfl rfl ?_
  refine w_p h_m145 1 (pc' := 79) (L' := [(0, .ref 39), (2, .int (0 : Int32))]) (st' := []) rfl ?_
  refine w_rv h_m145 (z_at.mk 1 rfl rfl) rfl ?_
  show z_W 999 146 13 [(0, .ref 39), (1, .int (xs 1)), (2, .int (57 : Int32))] [] m _
  refine w_p h_m146 1 (pc' := 14) (L' := [(0, .ref 39), (1, .int (xs 1)), (2, .int (57 : Int32))]) (st' := [.ref 39]) rfl ?_
  refine w_gf H (pc' := 17) (L' := [(0, .ref 39), (1, .int (xs 1)), (2, .int (57 : Int32))]) h_m146 (z_at.mk 3 rfl rfl) rfl (u := .ref 106) rfl rfl rfl ?_
  refine w_gf H (pc' := 20) (L' := [(0, .ref 39), (1, .int (xs 1)), (2, .int (57 : Int32))]) h_m146 (z_at.mk 3 rfl rfl) rfl (u := .int (0 : Int32)) rfl rfl rfl ?_
  refine w_p h_m146 1 (pc' := 21) (L' := [(0, .ref 39), (1, .int (xs 1)), (2, .int (57 : Int32))]) (st' := [.int (xs 1), .int (0 : Int32)]) rfl ?_
  refine w_t2 (pc' := 26) (L' := [(0, .ref 39), (1, .int (xs 1)), (2, .int (57 : Int32))]) h_m146 (z_at.mk 3 rfl rfl) rfl (zc (a := 0) (b := (xs 1).toInt) rfl rfl (decide_eq_true (by omega))) rfl rfl ?_
  refine w_p h_m146 2 (pc' := 2) (L' := [(0, .ref 39), (1, .int (xs 1)), (2, .int (58 : Int32))]) (st' := []) rfl ?_
  exact hQ m (H.subC (by decide +kernel))
set_option maxHeartbeats 400000000 in
set_option maxRecDepth 20000 in
theorem w_turn_146_58 {xs : Nat → Int32} {m : zM} {Q : Option Value → zM → Prop} (hp : (xs 1).toInt < 0) (H : w_ok 6 xs 168 63950 ((106, (12, 18, [(15, .int (0 : Int32)), (14, .int (0 : Int32)), (13, .int (0 : Int32)), (12, .int (0 : Int32)), (11, .int (0 : Int32)), (10, .int (0 : Int32)), (9, .long (0 : Int64)), (8, .int (0 : Int32)), (2, .int (0 : Int32)), (0, .ref 41), (17, .ref 116), (16, .ref 114), (7, .ref 113), (6, .ref 112), (5, .ref 111), (4, .ref 110), (3, .ref 109), (1, .ref 107)], none)) :: (108, (0, 7, [(1, .int (57 : Int32)), (6, .int (1024 : Int32)), (5, .int (1 : Int32)), (4, .int (1 : Int32)), (3, .int (0 : Int32)), (2, .int (12 : Int32)), (0, .int (10 : Int32))], some (.int (0 : Int32)))) :: w_T0) m) (hQ : ∀ m, w_ok 6 xs 168 63950 ((106, (12, 18, [(15, .int (0 : Int32)), (14, .int (0 : Int32)), (13, .int (0 : Int32)), (12, .int (0 : Int32)), (11, .int (0 : Int32)), (10, .int (0 : Int32)), (9, .long (0 : Int64)), (8, .int (0 : Int32)), (2, .int (0 : Int32)), (0, .ref 41), (17, .ref 116), (16, .ref 114), (7, .ref 113), (6, .ref 112), (5, .ref 111), (4, .ref 110), (3, .ref 109), (1, .ref 107)], none)) :: (108, (0, 7, [(1, .int (58 : Int32)), (6, .int (1024 : Int32)), (5, .int (1 : Int32)), (4, .int (1 : Int32)), (3, .int (0 : Int32)), (2, .int (12 : Int32)), (0, .int (10 : Int32))], some (.int (0 : Int32)))) :: w_T0) m → z_W 999 146 2 [(0, .ref 39), (1, .int (xs 1)), (2, .int (59 : Int32))] [] m Q) : z_W 999 146 2 [(0, .ref 39), (1, .int (xs 1)), (2, .int (58 : Int32))] [] m Q := by
  refine w_p h_m146 5 (pc' := 10) (L' := [(0, .ref 39), (1, .int (xs 1)), (2, .int (58 : Int32))]) (st' := [.int (58 : Int32), .ref 39]) rfl ?_
  refine w_cv (H.t rfl) (pc' := 13) (L' := [(0, .ref 39), (1, .int (xs 1)), (2, .int (58 : Int32))]) (rest := []) (Ps := [.int (58 : Int32)]) (L0 := [(0, .ref 39), (1, .int (58 : Int32))]) h_m146 (z_at.mk 3 rfl rfl) (Or.inl ⟨rfl, rfl⟩) rfl rfl (by decide) (by decide) rfl rfl rfl rfl rfl rfl (by decide) rfl rfl rfl ?_
  refine w_p h_m145 1 (pc' := 1) (L' := [(0, .ref 39), (1, .int (58 : Int32))]) (st' := [.ref 39]) rfl ?_
  refine w_gf H (pc' := 4) (L' := [(0, .ref 39), (1, .int (58 : Int32))]) h_m145 (z_at.mk 3 rfl rfl) rfl (u := .ref 106) rfl rfl rfl ?_
  refine w_cv (H.t rfl) (pc' := 7) (L' := [(0, .ref 39), (1, .int (58 : Int32))]) (rest := []) (Ps := []) (L0 := [(0, .ref 106)]) h_m145 (z_at.mk 3 rfl rfl) (Or.inl ⟨rfl, rfl⟩) rfl rfl (by decide) (by decide) rfl rfl rfl rfl rfl rfl (by decide) rfl rfl rfl ?_
  refine w_p h_m20 2 (pc' := 2) (L' := [(0, .ref 106)]) (st' := [.int (0 : Int32), .ref 106]) rfl ?_
  refine w_pf H (12, 18, [(2, .int (0 : Int32)), (15, .int (0 : Int32)), (14, .int (0 : Int32)), (13, .int (0 : Int32)), (12, .int (0 : Int32)), (11, .int (0 : Int32)), (10, .int (0 : Int32)), (9, .long (0 : Int64)), (8, .int (0 : Int32)), (0, .ref 41), (17, .ref 116), (16, .ref 114), (7, .ref 113), (6, .ref 112), (5, .ref 111), (4, .ref 110), (3, .ref 109), (1, .ref 107)], none) (pc' := 5) (L' := [(0, .ref 106)]) h_m20 (z_at.mk 3 rfl rfl) rfl (by decide) rfl (Or.inl rfl) rfl rfl rfl ?_
  clear H m; intro m H
  refine w_p h_m20 2 (pc' := 7) (L' := [(0, .ref 106)]) (st' := [.int (0 : Int32), .ref 106]) rfl ?_
  refine w_pf H (12, 18, [(8, .int (0 : Int32)), (2, .int (0 : Int32)), (15, .int (0 : Int32)), (14, .int (0 : Int32)), (13, .int (0 : Int32)), (12, .int (0 : Int32)), (11, .int (0 : Int32)), (10, .int (0 : Int32)), (9, .long (0 : Int64)), (0, .ref 41), (17, .ref 116), (16, .ref 114), (7, .ref 113), (6, .ref 112), (5, .ref 111), (4, .ref 110), (3, .ref 109), (1, .ref 107)], none) (pc' := 10) (L' := [(0, .ref 106)]) h_m20 (z_at.mk 3 rfl rfl) rfl (by decide) rfl (Or.inl rfl) rfl rfl rfl ?_
  clear H m; intro m H
  refine w_p h_m20 2 (pc' := 12) (L' := [(0, .ref 106)]) (st' := [.long (0 : Int64), .ref 106]) rfl ?_
  refine w_pf H (12, 18, [(9, .long (0 : Int64)), (8, .int (0 : Int32)), (2, .int (0 : Int32)), (15, .int (0 : Int32)), (14, .int (0 : Int32)), (13, .int (0 : Int32)), (12, .int (0 : Int32)), (11, .int (0 : Int32)), (10, .int (0 : Int32)), (0, .ref 41), (17, .ref 116), (16, .ref 114), (7, .ref 113), (6, .ref 112), (5, .ref 111), (4, .ref 110), (3, .ref 109), (1, .ref 107)], none) (pc' := 15) (L' := [(0, .ref 106)]) h_m20 (z_at.mk 3 rfl rfl) rfl (by decide) rfl (Or.inl rfl) rfl rfl rfl ?_
  clear H m; intro m H
  refine w_p h_m20 2 (pc' := 17) (L' := [(0, .ref 106)]) (st' := [.int (0 : Int32), .ref 106]) rfl ?_
  refine w_pf H (12, 18, [(10, .int (0 : Int32)), (9, .long (0 : Int64)), (8, .int (0 : Int32)), (2, .int (0 : Int32)), (15, .int (0 : Int32)), (14, .int (0 : Int32)), (13, .int (0 : Int32)), (12, .int (0 : Int32)), (11, .int (0 : Int32)), (0, .ref 41), (17, .ref 116), (16, .ref 114), (7, .ref 113), (6, .ref 112), (5, .ref 111), (4, .ref 110), (3, .ref 109), (1, .ref 107)], none) (pc' := 20) (L' := [(0, .ref 106)]) h_m20 (z_at.mk 3 rfl rfl) rfl (by decide) rfl (Or.inl rfl) rfl rfl rfl ?_
  clear H m; intro m H
  refine w_p h_m20 2 (pc' := 22) (L' := [(0, .ref 106)]) (st' := [.int (0 : Int32), .ref 106]) rfl ?_
  refine w_pf H (12, 18, [(11, .int (0 : Int32)), (10, .int (0 : Int32)), (9, .long (0 : Int64)), (8, .int (0 : Int32)), (2, .int (0 : Int32)), (15, .int (0 : Int32)), (14, .int (0 : Int32)), (13, .int (0 : Int32)), (12, .int (0 : Int32)), (0, .ref 41), (17, .ref 116), (16, .ref 114), (7, .ref 113), (6, .ref 112), (5, .ref 111), (4, .ref 110), (3, .ref 109), (1, .ref 107)], none) (pc' := 25) (L' := [(0, .ref 106)]) h_m20 (z_at.mk 3 rfl rfl) rfl (by decide) rfl (Or.inl rfl) rfl rfl rfl ?_
  clear H m; intro m H
  refine w_p h_m20 2 (pc' := 27) (L' := [(0, .ref 106)]) (st' := [.int (0 : Int32), .ref 106]) rfl ?_
  refine w_pf H (12, 18, [(12, .int (0 : Int32)), (11, .int (0 : Int32)), (10, .int (0 : Int32)), (9, .long (0 : Int64)), (8, .int (0 : Int32)), (2, .int (0 : Int32)), (15, .int (0 : Int32)), (14, .int (0 : Int32)), (13, .int (0 : Int32)), (0, .ref 41), (17, .ref 116), (16, .ref 114), (7, .ref 113), (6, .ref 112), (5, .ref 111), (4, .ref 110), (3, .ref 109), (1, .ref 107)], none) (pc' := 30) (L' := [(0, .ref 106)]) h_m20 (z_at.mk 3 rfl rfl) rfl (by decide) rfl (Or.inl rfl) rfl rfl rfl ?_
  clear H m; intro m H
  refine w_p h_m20 2 (pc' := 32) (L' := [(0, .ref 106)]) (st' := [.int (0 : Int32), .ref 106]) rfl ?_
  refine w_pf H (12, 18, [(13, .int (0 : Int32)), (12, .int (0 : Int32)), (11, .int (0 : Int32)), (10, .int (0 : Int32)), (9, .long (0 : Int64)), (8, .int (0 : Int32)), (2, .int (0 : Int32)), (15, .int (0 : Int32)), (14, .int (0 : Int32)), (0, .ref 41), (17, .ref 116), (16, .ref 114), (7, .ref 113), (6, .ref 112), (5, .ref 111), (4, .ref 110), (3, .ref 109), (1, .ref 107)], none) (pc' := 35) (L' := [(0, .ref 106)]) h_m20 (z_at.mk 3 rfl rfl) rfl (by decide) rfl (Or.inl rfl) rfl rfl rfl ?_
  clear H m; intro m H
  refine w_p h_m20 2 (pc' := 37) (L' := [(0, .ref 106)]) (st' := [.int (0 : Int32), .ref 106]) rfl ?_
  refine w_pf H (12, 18, [(14, .int (0 : Int32)), (13, .int (0 : Int32)), (12, .int (0 : Int32)), (11, .int (0 : Int32)), (10, .int (0 : Int32)), (9, .long (0 : Int64)), (8, .int (0 : Int32)), (2, .int (0 : Int32)), (15, .int (0 : Int32)), (0, .ref 41), (17, .ref 116), (16, .ref 114), (7, .ref 113), (6, .ref 112), (5, .ref 111), (4, .ref 110), (3, .ref 109), (1, .ref 107)], none) (pc' := 40) (L' := [(0, .ref 106)]) h_m20 (z_at.mk 3 rfl rfl) rfl (by decide) rfl (Or.inl rfl) rfl rfl rfl ?_
  clear H m; intro m H
  refine w_p h_m20 2 (pc' := 42) (L' := [(0, .ref 106)]) (st' := [.int (0 : Int32), .ref 106]) rfl ?_
  refine w_pf H (12, 18, [(15, .int (0 : Int32)), (14, .int (0 : Int32)), (13, .int (0 : Int32)), (12, .int (0 : Int32)), (11, .int (0 : Int32)), (10, .int (0 : Int32)), (9, .long (0 : Int64)), (8, .int (0 : Int32)), (2, .int (0 : Int32)), (0, .ref 41), (17, .ref 116), (16, .ref 114), (7, .ref 113), (6, .ref 112), (5, .ref 111), (4, .ref 110), (3, .ref 109), (1, .ref 107)], none) (pc' := 45) (L' := [(0, .ref 106)]) h_m20 (z_at.mk 3 rfl rfl) rfl (by decide) rfl (Or.inl rfl) rfl rfl rfl ?_
  clear H m; intro m H
  refine w_rv h_m20 (z_at.mk 1 rfl rfl) rfl ?_
  show z_W 998 145 7 [(0, .ref 39), (1, .int (58 : Int32))] [] m _
  refine w_p h_m145 1 (pc' := 8) (L' := [(0, .ref 39), (1, .int (58 : Int32))]) (st' := [.ref 39]) rfl ?_
  refine w_gf H (pc' := 11) (L' := [(0, .ref 39), (1, .int (58 : Int32))]) h_m145 (z_at.mk 3 rfl rfl) rfl (u := .ref 106) rfl rfl rfl ?_
  refine w_gf H (pc' := 14) (L' := [(0, .ref 39), (1, .int (58 : Int32))]) h_m145 (z_at.mk 3 rfl rfl) rfl (u := .ref 107) rfl rfl rfl ?_
  refine w_p h_m145 1 (pc' := 15) (L' := [(0, .ref 39), (1, .int (58 : Int32))]) (st' := [.ref 39, .ref 107]) rfl ?_
  refine w_gf H (pc' := 18) (L' := [(0, .ref 39), (1, .int (58 : Int32))]) h_m145 (z_at.mk 3 rfl rfl) rfl (u := .ref 40) rfl rfl rfl ?_
  refine w_gf H (pc' := 21) (L' := [(0, .ref 39), (1, .int (58 : Int32))]) h_m145 (z_at.mk 3 rfl rfl) rfl (u := .ref 48) rfl rfl rfl ?_
  refine w_gf H (pc' := 24) (L' := [(0, .ref 39), (1, .int (58 : Int32))]) h_m145 (z_at.mk 3 rfl rfl) rfl (u := .ref 49) rfl rfl rfl ?_
  refine w_cv (H.t rfl) (pc' := 27) (L' := [(0, .ref 39), (1, .int (58 : Int32))]) (rest := []) (Ps := [.ref 49]) (L0 := [(0, .ref 107), (1, .ref 49)]) h_m145 (z_at.mk 3 rfl rfl) (Or.inl ⟨rfl, rfl⟩) rfl rfl (by decide) (by decide) rfl rfl rfl rfl rfl rfl (by decide) rfl rfl rfl ?_
  refine w_p h_m74 1 (pc' := 1) (L' := [(0, .ref 107), (1, .ref 49)]) (st' := [.ref 49]) rfl ?_
  refine w_gf H (pc' := 4) (L' := [(0, .ref 107), (1, .ref 49)]) h_m74 (z_at.mk 3 rfl rfl) rfl (u := .ref 50) rfl rfl rfl ?_
  refine w_p h_m74 2 (pc' := 6) (L' := [(0, .ref 107), (1, .ref 49)]) (st' := [.ref 107, .int (0 : Int32), .ref 50]) rfl ?_
  refine w_gf H (pc' := 9) (L' := [(0, .ref 107), (1, .ref 49)]) h_m74 (z_at.mk 3 rfl rfl) rfl (u := .ref 108) rfl rfl rfl ?_
  refine w_p h_m74 2 (pc' := 12) (L' := [(0, .ref 107), (1, .ref 49)]) (st' := [.int (7 : Int32), .int (0 : Int32), .ref 108, .int (0 : Int32), .ref 50]) rfl ?_
  refine w_cpf H (ra := (0, 7, [(6, .int (1024 : Int32)), (5, .int (1 : Int32)), (4, .int (1 : Int32)), (3, .int (0 : Int32)), (2, .int (12 : Int32)), (1, .int (40 : Int32)), (0, .int (10 : Int32))], some (.int (0 : Int32)))) (pc' := 15) (L' := [(0, .ref 107), (1, .ref 49)]) h_m74 (z_at.mk 3 rfl rfl) rfl (z_cat_le 0 rfl (by decide)) rfl rfl rfl rfl (by decide) rfl rfl ?_
  clear H m; intro m H
  refine w_rv h_m74 (z_at.mk 1 rfl rfl) rfl ?_
  show z_W 998 145 27 [(0, .ref 39), (1, .int (58 : Int32))] [] m _
  refine w_p h_m145 1 (pc' := 28) (L' := [(0, .ref 39), (1, .int (58 : Int32))]) (st' := [.ref 39]) rfl ?_
  refine w_gf H (pc' := 31) (L' := [(0, .ref 39), (1, .int (58 : Int32))]) h_m145 (z_at.mk 3 rfl rfl) rfl (u := .ref 106) rfl rfl rfl ?_
  refine w_gf H (pc' := 34) (L' := [(0, .ref 39), (1, .int (58 : Int32))]) h_m145 (z_at.mk 3 rfl rfl) rfl (u := .ref 107) rfl rfl rfl ?_
  refine w_p h_m145 2 (pc' := 36) (L' := [(0, .ref 39), (1, .int (58 : Int32))]) (st' := [.int (58 : Int32), .int (1 : Int32), .ref 107]) rfl ?_
  refine w_cv (H.t rfl) (pc' := 39) (L' := [(0, .ref 39), (1, .int (58 : Int32))]) (rest := []) (Ps := [.int (1 : Int32), .int (58 : Int32)]) (L0 := [(0, .ref 107), (1, .int (1 : Int32)), (2, .int (58 : Int32))]) h_m145 (z_at.mk 3 rfl rfl) (Or.inl ⟨rfl, rfl⟩) rfl rfl (by decide) (by decide) rfl rfl rfl rfl rfl rfl (by decide) rfl rfl rfl ?_
  refine w_p h_m73 6 (pc' := 11) (L' := [(0, .ref 107), (1, .int (1 : Int32)), (2, .int (58 : Int32))]) (st' := [.ref 107]) rfl ?_
  refine w_gf H (pc' := 14) (L' := [(0, .ref 107), (1, .int (1 : Int32)), (2, .int (58 : Int32))]) h_m73 (z_at.mk 3 rfl rfl) rfl (u := .ref 108) rfl rfl rfl ?_
  refine w_p h_m73 2 (pc' := 16) (L' := [(0, .ref 107), (1, .int (1 : Int32)), (2, .int (58 : Int32))]) (st' := [.int (58 : Int32), .int (1 : Int32), .ref 108]) rfl ?_
  refine w_as H (t := 0) (j := 1) (u := .int (58 : Int32)) (0, 7, [(1, .int (58 : Int32)), (6, .int (1024 : Int32)), (5, .int (1 : Int32)), (4, .int (1 : Int32)), (3, .int (0 : Int32)), (2, .int (12 : Int32)), (0, .int (10 : Int32))], some (.int (0 : Int32))) (pc' := 17) (L' := []) h_m73 (z_at.mk 1 rfl rfl) rfl rfl (w_ui _ _ (by decide)) rfl rfl rfl rfl ?_
  clear H m; intro m H
  refine w_rv h_m73 (z_at.mk 1 rfl rfl) rfl ?_
  show z_W 998 145 39 [(0, .ref 39), (1, .int (58 : Int32))] [] m _
  refine w_p h_m145 4 (pc' := 43) (L' := [(0, .ref 39), (2, .int (0 : Int32))]) (st' := [.ref 39, .int (0 : Int32)]) rfl ?_
  refine w_gf H (pc' := 46) (L' := [(0, .ref 39), (2, .int (0 : Int32))]) h_m145 (z_at.mk 3 rfl rfl) rfl (u := .ref 40) rfl rfl rfl ?_
  refine w_gf H (pc' := 49) (L' := [(0, .ref 39), (2, .int (0 : Int32))]) h_m145 (z_at.mk 3 rfl rfl) rfl (u := .ref 63) rfl rfl rfl ?_
  refine w_gf H (pc' := 52) (L' := [(0, .ref 39), (2, .int (0 : Int32))]) h_m145 (z_at.mk 3 rfl rfl) rfl (u := .int (0 : Int32)) rfl rfl rfl ?_
  refine w_p h_m145 1 (pc' := 79) (L' := [(0, .ref 39), (2, .int (0 : Int32))]) (st' := []) rfl ?_
  refine w_rv h_m145 (z_at.mk 1 rfl rfl) rfl ?_
  show z_W 999 146 13 [(0, .ref 39), (1, .int (xs 1)), (2, .int (58 : Int32))] [] m _
  refine w_p h_m146 1 (pc' := 14) (L' := [(0, .ref 39), (1, .int (xs 1)), (2, .int (58 : Int32))]) (st' := [.ref 39]) rfl ?_
  refine w_gf H (pc' := 17) (L' := [(0, .ref 39), (1, .int (xs 1)), (2, .int (58 : Int32))]) h_m146 (z_at.mk 3 rfl rfl) rfl (u := .ref 106) rfl rfl rfl ?_
  refine w_gf H (pc' := 20) (L' := [(0, .ref 39), (1, .int (xs 1)), (2, .int (58 : Int32))]) h_m146 (z_at.mk 3 rfl rfl) rfl (u := .int (0 : Int32)) rfl rfl rfl ?_
  refine w_p h_m146 1 (pc' := 21) (L' := [(0, .ref 39), (1, .int (xs 1)), (2, .int (58 : Int32))]) (st' := [.int (xs 1), .int (0 : Int32)]) rfl ?_
  refine w_t2 (pc' := 26) (L' := [(0, .ref 39), (1, .int (xs 1)), (2, .int (58 : Int32))]) h_m146 (z_at.mk 3 rfl rfl) rfl (zc (a := 0) (b := (xs 1).toInt) rfl rfl (decide_eq_true (by omega))) rfl rfl ?_
  refine w_p h_m146 2 (pc' := 2) (L' := [(0, .ref 39), (1, .int (xs 1)), (2, .int (59 : Int32))]) (st' := []) rfl ?_
  exact hQ m (H.subC (by decide +kernel))
set_option maxHeartbeats 400000000 in
set_option maxRecDepth 20000 in
theorem w_turn_146_59 {xs : Nat → Int32} {m : zM} {Q : Option Value → zM → Prop} (hp : (xs 1).toInt < 0) (H : w_ok 6 xs 168 63950 ((106, (12, 18, [(15, .int (0 : Int32)), (14, .int (0 : Int32)), (13, .int (0 : Int32)), (12, .int (0 : Int32)), (11, .int (0 : Int32)), (10, .int (0 : Int32)), (9, .long (0 : Int64)), (8, .int (0 : Int32)), (2, .int (0 : Int32)), (0, .ref 41), (17, .ref 116), (16, .ref 114), (7, .ref 113), (6, .ref 112), (5, .ref 111), (4, .ref 110), (3, .ref 109), (1, .ref 107)], none)) :: (108, (0, 7, [(1, .int (58 : Int32)), (6, .int (1024 : Int32)), (5, .int (1 : Int32)), (4, .int (1 : Int32)), (3, .int (0 : Int32)), (2, .int (12 : Int32)), (0, .int (10 : Int32))], some (.int (0 : Int32)))) :: w_T0) m) (hQ : ∀ m, w_ok 6 xs 168 63950 ((106, (12, 18, [(15, .int (0 : Int32)), (14, .int (0 : Int32)), (13, .int (0 : Int32)), (12, .int (0 : Int32)), (11, .int (0 : Int32)), (10, .int (0 : Int32)), (9, .long (0 : Int64)), (8, .int (0 : Int32)), (2, .int (0 : Int32)), (0, .ref 41), (17, .ref 116), (16, .ref 114), (7, .ref 113), (6, .ref 112), (5, .ref 111), (4, .ref 110), (3, .ref 109), (1, .ref 107)], none)) :: (108, (0, 7, [(1, .int (59 : Int32)), (6, .int (1024 : Int32)), (5, .int (1 : Int32)), (4, .int (1 : Int32)), (3, .int (0 : Int32)), (2, .int (12 : Int32)), (0, .int (10 : Int32))], some (.int (0 : Int32)))) :: w_T0) m → z_W 999 146 2 [(0, .ref 39), (1, .int (xs 1)), (2, .int (60 : Int32))] [] m Q) : z_W 999 146 2 [(0, .ref 39), (1, .int (xs 1)), (2, .int (59 : Int32))] [] m Q := by
  refine w_p h_m146 5 (pc' := 10) (L' := [(0, .ref 39), (1, .int (xs 1)), (2, .int (59 : Int32))]) (st' := [.int (59 : Int32), .ref 39]) rfl ?_
  refine w_cv (H.t rfl) (pc' := 13) (L' := [(0, .ref 39), (1, .int (xs 1)), (2, .int (59 : Int32))]) (rest := []) (Ps := [.int (59 : Int32)]) (L0 := [(0, .ref 39), (1, .int (59 : Int32))]) h_m146 (z_at.mk 3 rfl rfl) (Or.inl ⟨rfl, rfl⟩) rfl rfl (by decide) (by decide) rfl rfl rfl rfl rfl rfl (by decide) rfl rfl rfl ?_
  refine w_p h_m145 1 (pc' := 1) (L' := [(0, .ref 39), (1, .int (59 : Int32))]) (st' := [.ref 39]) rfl ?_
  refine w_gf H (pc' := 4) (L' := [(0, .ref 39), (1, .int (59 : Int32))]) h_m145 (z_at.mk 3 rfl rfl) rfl (u := .ref 106) rfl rfl rfl ?_
  refine w_cv (H.t rfl) (pc' := 7) (L' := [(0, .ref 39), (1, .int (59 : Int32))]) (rest := []) (Ps := []) (L0 := [(0, .ref 106)]) h_m145 (z_at.mk 3 rfl rfl) (Or.inl ⟨rfl, rfl⟩) rfl rfl (by decide) (by decide) rfl rfl rfl rfl rfl rfl (by decide) rfl rfl rfl ?_
  refine w_p h_m20 2 (pc' := 2) (L' := [(0, .ref 106)]) (st' := [.int (0 : Int32), .ref 106]) rfl ?_
  refine w_pf H (12, 18, [(2, .int (0 : Int32)), (15, .int (0 : Int32)), (14, .int (0 : Int32)), (13, .int (0 : Int32)), (12, .int (0 : Int32)), (11, .int (0 : Int32)), (10, .int (0 : Int32)), (9, .long (0 : Int64)), (8, .int (0 : Int32)), (0, .ref 41), (17, .ref 116), (16, .ref 114), (7, .ref 113), (6, .ref 112), (5, .ref 111), (4, .ref 110), (3, .ref 109), (1, .ref 107)], none) (pc' := 5) (L' := [(0, .ref 106)]) h_m20 (z_at.mk 3 rfl rfl) rfl (by decide) rfl (Or.inl rfl) rfl rfl rfl ?_
  clear H m; intro m H
  refine w_p h_m20 2 (pc' := 7) (L' := [(0, .ref 106)]) (st' := [.int (0 : Int32), .ref 106]) rfl ?_
  refine w_pf H (12, 18, [(8, .int (0 : Int32)), (2, .int (0 : Int32)), (15, .int (0 : Int32)), (14, .int (0 : Int32)), (13, .int (0 : Int32)), (12, .int (0 : Int32)), (11, .int (0 : Int32)), (10, .int (0 : Int32)), (9, .long (0 : Int64)), (0, .ref 41), (17, .ref 116), (16, .ref 114), (7, .ref 113), (6, .ref 112), (5, .ref 111), (4, .ref 110), (3, .ref 109), (1, .ref 107)], none) (pc' := 10) (L' := [(0, .ref 106)]) h_m20 (z_at.mk 3 rfl rfl) rfl (by decide) rfl (Or.inl rfl) rfl rfl rfl ?_
  clear H m; intro m H
  refine w_p h_m20 2 (pc' := 12) (L' := [(0, .ref 106)]) (st' := [.long (0 : Int64), .ref 106]) rfl ?_
  refine w_pf H (12, 18, [(9, .long (0 : Int64)), (8, .int (0 : Int32)), (2, .int (0 : Int32)), (15, .int (0 : Int32)), (14, .int (0 : Int32)), (13, .int (0 : Int32)), (12, .int (0 : Int32)), (11, .int (0 : Int32)), (10, .int (0 : Int32)), (0, .ref 41), (17, .ref 116), (16, .ref 114), (7, .ref 113), (6, .ref 112), (5, .ref 111), (4, .ref 110), (3, .ref 109), (1, .ref 107)], none) (pc' := 15) (L' := [(0, .ref 106)]) h_m20 (z_at.mk 3 rfl rfl) rfl (by decide) rfl (Or.inl rfl) rfl rfl rfl ?_
  clear H m; intro m H
  refine w_p h_m20 2 (pc' := 17) (L' := [(0, .ref 106)]) (st' := [.int (0 : Int32), .ref 106]) rfl ?_
  refine w_pf H (12, 18, [(10, .int (0 : Int32)), (9, .long (0 : Int64)), (8, .int (0 : Int32)), (2, .int (0 : Int32)), (15, .int (0 : Int32)), (14, .int (0 : Int32)), (13, .int (0 : Int32)), (12, .int (0 : Int32)), (11, .int (0 : Int32)), (0, .ref 41), (17, .ref 116), (16, .ref 114), (7, .ref 113), (6, .ref 112), (5, .ref 111), (4, .ref 110), (3, .ref 109), (1, .ref 107)], none) (pc' := 20) (L' := [(0, .ref 106)]) h_m20 (z_at.mk 3 rfl rfl) rfl (by decide) rfl (Or.inl rfl) rfl rfl rfl ?_
  clear H m; intro m H
  refine w_p h_m20 2 (pc' := 22) (L' := [(0, .ref 106)]) (st' := [.int (0 : Int32), .ref 106]) rfl ?_
  refine w_pf H (12, 18, [(11, .int (0 : Int32)), (10, .int (0 : Int32)), (9, .long (0 : Int64)), (8, .int (0 : Int32)), (2, .int (0 : Int32)), (15, .int (0 : Int32)), (14, .int (0 : Int32)), (13, .int (0 : Int32)), (12, .int (0 : Int32)), (0, .ref 41), (17, .ref 116), (16, .ref 114), (7, .ref 113), (6, .ref 112), (5, .ref 111), (4, .ref 110), (3, .ref 109), (1, .ref 107)], none) (pc' := 25) (L' := [(0, .ref 106)]) h_m20 (z_at.mk 3 rfl rfl) rfl (by decide) rfl (Or.inl rfl) rfl rfl rfl ?_
  clear H m; intro m H
  refine w_p h_m20 2 (pc' := 27) (L' := [(0, .ref 106)]) (st' := [.int (0 : Int32), .ref 106]) rfl ?_
  refine w_pf H (12, 18, [(12, .int (0 : Int32)), (11, .int (0 : Int32)), (10, .int (0 : Int32)), (9, .long (0 : Int64)), (8, .int (0 : Int32)), (2, .int (0 : Int32)), (15, .int (0 : Int32)), (14, .int (0 : Int32)), (13, .int (0 : Int32)), (0, .ref 41), (17, .ref 116), (16, .ref 114), (7, .ref 113), (6, .ref 112), (5, .ref 111), (4, .ref 110), (3, .ref 109), (1, .ref 107)], none) (pc' := 30) (L' := [(0, .ref 106)]) h_m20 (z_at.mk 3 rfl rfl) rfl (by decide) rfl (Or.inl rfl) rfl rfl rfl ?_
  clear H m; intro m H
  refine w_p h_m20 2 (pc' := 32) (L' := [(0, .ref 106)]) (st' := [.int (0 : Int32), .ref 106]) rfl ?_
  refine w_pf H (12, 18, [(13, .int (0 : Int32)), (12, .int (0 : Int32)), (11, .int (0 : Int32)), (10, .int (0 : Int32)), (9, .long (0 : Int64)), (8, .int (0 : Int32)), (2, .int (0 : Int32)), (15, .int (0 : Int32)), (14, .int (0 : Int32)), (0, .ref 41), (17, .ref 116), (16, .ref 114), (7, .ref 113), (6, .ref 112), (5, .ref 111), (4, .ref 110), (3, .ref 109), (1, .ref 107)], none) (pc' := 35) (L' := [(0, .ref 106)]) h_m20 (z_at.mk 3 rfl rfl) rfl (by decide) rfl (Or.inl rfl) rfl rfl rfl ?_
  clear H m; intro m H
  refine w_p h_m20 2 (pc' := 37) (L' := [(0, .ref 106)]) (st' := [.int (0 : Int32), .ref 106]) rfl ?_
  refine w_pf H (12, 18, [(14, .int (0 : Int32)), (13, .int (0 : Int32)), (12, .int (0 : Int32)), (11, .int (0 : Int32)), (10, .int (0 : Int32)), (9, .long (0 : Int64)), (8, .int (0 : Int32)), (2, .int (0 : Int32)), (15, .int (0 : Int32)), (0, .ref 41), (17, .ref 116), (16, .ref 114), (7, .ref 113), (6, .ref 112), (5, .ref 111), (4, .ref 110), (3, .ref 109), (1, .ref 107)], none) (pc' := 40) (L' := [(0, .ref 106)]) h_m20 (z_at.mk 3 rfl rfl) rfl (by decide) rfl (Or.inl rfl) rfl rfl rfl ?_
  clear H m; intro m H
  refine w_p h_m20 2 (pc' := 42) (L' := [(0, .ref 106)]) (st' := [.int (0 : Int32), .ref 106]) rfl ?_
  refine w_pf H (12, 18, [(15, .int (0 : Int32)), (14, .int (0 : Int32)), (13, .int (0 : Int32)), (12, .int (0 : Int32)), (11, .int (0 : Int32)), (10, .int (0 : Int32)), (9, .long (0 : Int64)), (8, .int (0 : Int32)), (2, .int (0 : Int32)), (0, .ref 41), (17, .ref 116), (16, .ref 114), (7, .ref 113), (6, .ref 112), (5, .ref 111), (4, .ref 110), (3, .ref 109), (1, .ref 107)], none) (pc' := 45) (L' := [(0, .ref 106)]) h_m20 (z_at.mk 3 rfl rfl) rfl (by decide) rfl (Or.inl rfl) rfl rfl rfl ?_
  clear H m; intro m H
  refine w_rv h_m20 (z_at.mk 1 rfl rfl) rfl ?_
  show z_W 998 145 7 [(0, .ref 39), (1, .int (59 : Int32))] [] m _
  refine w_p h_m145 1 (pc' := 8) (L' := [(0, .ref 39), (1, .int (59 : Int32))]) (st' := [.ref 39]) rfl ?_
  refine w_gf H (pc' := 11) (L' := [(0, .ref 39), (1, .int (59 : Int32))]) h_m145 (z_at.mk 3 rfl rfl) rfl (u := .ref 106) rfl rfl rfl ?_
  refine w_gf H (pc' := 14) (L' := [(0, .ref 39), (1, .int (59 : Int32))]) h_m145 (z_at.mk 3 rfl rfl) rfl (u := .ref 107) rfl rfl rfl ?_
  refine w_p h_m145 1 (pc' := 15) (L' := [(0, .ref 39), (1, .int (59 : Int32))]) (st' := [.ref 39, .ref 107]) rfl ?_
  refine w_gf H (pc' := 18) (L' := [(0, .ref 39), (1, .int (59 : Int32))]) h_m145 (z_at.mk 3 rfl rfl) rfl (u := .ref 40) rfl rfl rfl ?_
  refine w_gf H (pc' := 21) (L' := [(0, .ref 39), (1, .int (59 : Int32))]) h_m145 (z_at.mk 3 rfl rfl) rfl (u := .ref 48) rfl rfl rfl ?_
  refine w_gf H (pc' := 24) (L' := [(0, .ref 39), (1, .int (59 : Int32))]) h_m145 (z_at.mk 3 rfl rfl) rfl (u := .ref 49) rfl rfl rfl ?_
  refine w_cv (H.t rfl) (pc' := 27) (L' := [(0, .ref 39), (1, .int (59 : Int32))]) (rest := []) (Ps := [.ref 49]) (L0 := [(0, .ref 107), (1, .ref 49)]) h_m145 (z_at.mk 3 rfl rfl) (Or.inl ⟨rfl, rfl⟩) rfl rfl (by decide) (by decide) rfl rfl rfl rfl rfl rfl (by decide) rfl rfl rfl ?_
  refine w_p h_m74 1 (pc' := 1) (L' := [(0, .ref 107), (1, .ref 49)]) (st' := [.ref 49]) rfl ?_
  refine w_gf H (pc' := 4) (L' := [(0, .ref 107), (1, .ref 49)]) h_m74 (z_at.mk 3 rfl rfl) rfl (u := .ref 50) rfl rfl rfl ?_
  refine w_p h_m74 2 (pc' := 6) (L' := [(0, .ref 107), (1, .ref 49)]) (st' := [.ref 107, .int (0 : Int32), .ref 50]) rfl ?_
  refine w_gf H (pc' := 9) (L' := [(0, .ref 107), (1, .ref 49)]) h_m74 (z_at.mk 3 rfl rfl) rfl (u := .ref 108) rfl rfl rfl ?_
  refine w_p h_m74 2 (pc' := 12) (L' := [(0, .ref 107), (1, .ref 49)]) (st' := [.int (7 : Int32), .int (0 : Int32), .ref 108, .int (0 : Int32), .ref 50]) rfl ?_
  refine w_cpf H (ra := (0, 7, [(6, .int (1024 : Int32)), (5, .int (1 : Int32)), (4, .int (1 : Int32)), (3, .int (0 : Int32)), (2, .int (12 : Int32)), (1, .int (40 : Int32)), (0, .int (10 : Int32))], some (.int (0 : Int32)))) (pc' := 15) (L' := [(0, .ref 107), (1, .ref 49)]) h_m74 (z_at.mk 3 rfl rfl) rfl (z_cat_le 0 rfl (by decide)) rfl rfl rfl rfl (by decide) rfl rfl ?_
  clear H m; intro m H
  refine w_rv h_m74 (z_at.mk 1 rfl rfl) rfl ?_
  show z_W 998 145 27 [(0, .ref 39), (1, .int (59 : Int32))] [] m _
  refine w_p h_m145 1 (pc' := 28) (L' := [(0, .ref 39), (1, .int (59 : Int32))]) (st' := [.ref 39]) rfl ?_
  refine w_gf H (pc' := 31) (L' := [(0, .ref 39), (1, .int (59 : Int32))]) h_m145 (z_at.mk 3 rfl rfl) rfl (u := .ref 106) rfl rfl rfl ?_
  refine w_gf H (pc' := 34) (L' := [(0, .ref 39), (1, .int (59 : Int32))]) h_m145 (z_at.mk 3 rfl rfl) rfl (u := .ref 107) rfl rfl rfl ?_
  refine w_p h_m145 2 (pc' := 36) (L' := [(0, .ref 39), (1, .int (59 : Int32))]) (st' := [.int (59 : Int32), .int (1 : Int32), .ref 107]) rfl ?_
  refine w_cv (H.t rfl) (pc' := 39) (L' := [(0, .ref 39), (1, .int (59 : Int32))]) (rest := []) (Ps := [.int (1 : Int32), .int (59 : Int32)]) (L0 := [(0, .ref 107), (1, .int (1 : Int32)), (2, .int (59 : Int32))]) h_m145 (z_at.mk 3 rfl rfl) (Or.inl ⟨rfl, rfl⟩) rfl rfl (by decide) (by decide) rfl rfl rfl rfl rfl rfl (by decide) rfl rfl rfl ?_
  refine w_p h_m73 6 (pc' := 11) (L' := [(0, .ref 107), (1, .int (1 : Int32)), (2, .int (59 : Int32))]) (st' := [.ref 107]) rfl ?_
  refine w_gf H (pc' := 14) (L' := [(0, .ref 107), (1, .int (1 : Int32)), (2, .int (59 : Int32))]) h_m73 (z_at.mk 3 rfl rfl) rfl (u := .ref 108) rfl rfl rfl ?_
  refine w_p h_m73 2 (pc' := 16) (L' := [(0, .ref 107), (1, .int (1 : Int32)), (2, .int (59 : Int32))]) (st' := [.int (59 : Int32), .int (1 : Int32), .ref 108]) rfl ?_
  refine w_as H (t := 0) (j := 1) (u := .int (59 : Int32)) (0, 7, [(1, .int (59 : Int32)), (6, .int (1024 : Int32)), (5, .int (1 : Int32)), (4, .int (1 : Int32)), (3, .int (0 : Int32)), (2, .int (12 : Int32)), (0, .int (10 : Int32))], some (.int (0 : Int32))) (pc' := 17) (L' := []) h_m73 (z_at.mk 1 rfl rfl) rfl rfl (w_ui _ _ (by decide)) rfl rfl rfl rfl ?_
  clear H m; intro m H
  refine w_rv h_m73 (z_at.mk 1 rfl rfl) rfl ?_
  show z_W 998 145 39 [(0, .ref 39), (1, .int (59 : Int32))] [] m _
  refine w_p h_m145 4 (pc' := 43) (L' := [(0, .ref 39), (2, .int (0 : Int32))]) (st' := [.ref 39, .int (0 : Int32)]) rfl ?_
  refine w_gf H (pc' := 46) (L' := [(0, .ref 39), (2, .int (0 : Int32))]) h_m145 (z_at.mk 3 rfl rfl) rfl (u := .ref 40) rfl rfl rfl ?_
  refine w_gf H (pc' := 49) (L' := [(0, .ref 39), (2, .int (0 : Int32))]) h_m145 (z_at.mk 3 rfl rfl) rfl (u := .ref 63) rfl rfl rfl ?_
  refine w_gf H (pc' := 52) (L' := [(0, .ref 39), (2, .int (0 : Int32))]) h_m145 (z_at.mk 3 rfl rfl) rfl (u := .int (0 : Int32)) rfl rfl rfl ?_
  refine w_p h_m145 1 (pc' := 79) (L' := [(0, .ref 39), (2, .int (0 : Int32))]) (st' := []) rfl ?_
  refine w_rv h_m145 (z_at.mk 1 rfl rfl) rfl ?_
  show z_W 999 146 13 [(0, .ref 39), (1, .int (xs 1)), (2, .int (59 : Int32))] [] m _
  refine w_p h_m146 1 (pc' := 14) (L' := [(0, .ref 39), (1, .int (xs 1)), (2, .int (59 : Int32))]) (st' := [.ref 39]) rfl ?_
  refine w_gf H (pc' := 17) (L' := [(0, .ref 39), (1, .int (xs 1)), (2, .int (59 : Int32))]) h_m146 (z_at.mk 3 rfl rfl) rfl (u := .ref 106) rfl rfl rfl ?_
  refine w_gf H (pc' := 20) (L' := [(0, .ref 39), (1, .int (xs 1)), (2, .int (59 : Int32))]) h_m146 (z_at.mk 3 rfl rfl) rfl (u := .int (0 : Int32)) rfl rfl rfl ?_
  refine w_p h_m146 1 (pc' := 21) (L' := [(0, .ref 39), (1, .int (xs 1)), (2, .int (59 : Int32))]) (st' := [.int (xs 1), .int (0 : Int32)]) rfl ?_
  refine w_t2 (pc' := 26) (L' := [(0, .ref 39), (1, .int (xs 1)), (2, .int (59 : Int32))]) h_m146 (z_at.mk 3 rfl rfl) rfl (zc (a := 0) (b := (xs 1).toInt) rfl rfl (decide_eq_true (by omega))) rfl rfl ?_
  refine w_p h_m146 2 (pc' := 2) (L' := [(0, .ref 39), (1, .int (xs 1)), (2, .int (60 : Int32))]) (st' := []) rfl ?_
  exact hQ m (H.subC (by decide +kernel))
set_option maxHeartbeats 400000000 in
set_option maxRecDepth 20000 in
theorem w_turn_146_60 {xs : Nat → Int32} {m : zM} {Q : Option Value → zM → Prop} (hp : (xs 1).toInt < 0) (H : w_ok 6 xs 168 63950 ((106, (12, 18, [(15, .int (0 : Int32)), (14, .int (0 : Int32)), (13, .int (0 : Int32)), (12, .int (0 : Int32)), (11, .int (0 : Int32)), (10, .int (0 : Int32)), (9, .long (0 : Int64)), (8, .int (0 : Int32)), (2, .int (0 : Int32)), (0, .ref 41), (17, .ref 116), (16, .ref 114), (7, .ref 113), (6, .ref 112), (5, .ref 111), (4, .ref 110), (3, .ref 109), (1, .ref 107)], none)) :: (108, (0, 7, [(1, .int (59 : Int32)), (6, .int (1024 : Int32)), (5, .int (1 : Int32)), (4, .int (1 : Int32)), (3, .int (0 : Int32)), (2, .int (12 : Int32)), (0, .int (10 : Int32))], some (.int (0 : Int32)))) :: w_T0) m) (hQ : ∀ m, w_ok 6 xs 168 63950 ((106, (12, 18, [(15, .int (0 : Int32)), (14, .int (0 : Int32)), (13, .int (0 : Int32)), (12, .int (0 : Int32)), (11, .int (0 : Int32)), (10, .int (0 : Int32)), (9, .long (0 : Int64)), (8, .int (0 : Int32)), (2, .int (0 : Int32)), (0, .ref 41), (17, .ref 116), (16, .ref 114), (7, .ref 113), (6, .ref 112), (5, .ref 111), (4, .ref 110), (3, .ref 109), (1, .ref 107)], none)) :: (108, (0, 7, [(1, .int (60 : Int32)), (6, .int (1024 : Int32)), (5, .int (1 : Int32)), (4, .int (1 : Int32)), (3, .int (0 : Int32)), (2, .int (12 : Int32)), (0, .int (10 : Int32))], some (.int (0 : Int32)))) :: w_T0) m → z_W 999 146 2 [(0, .ref 39), (1, .int (xs 1)), (2, .int (61 : Int32))] [] m Q) : z_W 999 146 2 [(0, .ref 39), (1, .int (xs 1)), (2, .int (60 : Int32))] [] m Q := by
  refine w_p h_m146 5 (pc' := 10) (L' := [(0, .ref 39), (1, .int (xs 1)), (2, .int (60 : Int32))]) (st' := [.int (60 : Int32), .ref 39]) rfl ?_
  refine w_cv (H.t rfl) (pc' := 13) (L' := [(0, .ref 39), (1, .int (xs 1)), (2, .int (60 : Int32))]) (rest := []) (Ps := [.int (60 : Int32)]) (L0 := [(0, .ref 39), (1, .int (60 : Int32))]) h_m146 (z_at.mk 3 rfl rfl) (Or.inl ⟨rfl, rfl⟩) rfl rfl (by decide) (by decide) rfl rfl rfl rfl rfl rfl (by decide) rfl rfl rfl ?_
  refine w_p h_m145 1 (pc' := 1) (L' := [(0, .ref 39), (1, .int (60 : Int32))]) (st' := [.ref 39]) rfl ?_
  refine w_gf H (pc' := 4) (L' := [(0, .ref 39), (1, .int (60 : Int32))]) h_m145 (z_at.mk 3 rfl rfl) rfl (u := .ref 106) rfl rfl rfl ?_
  refine w_cv (H.t rfl) (pc' := 7) (L' := [(0, .ref 39), (1, .int (60 : Int32))]) (rest := []) (Ps := []) (L0 := [(0, .ref 106)]) h_m145 (z_at.mk 3 rfl rfl) (Or.inl ⟨rfl, rfl⟩) rfl rfl (by decide) (by decide) rfl rfl rfl rfl rfl rfl (by decide) rfl rfl rfl ?_
  refine w_p h_m20 2 (pc' := 2) (L' := [(0, .ref 106)]) (st' := [.int (0 : Int32), .ref 106]) rfl ?_
  refine w_pf H (12, 18, [(2, .int (0 : Int32)), (15, .int (0 : Int32)), (14, .int (0 : Int32)), (13, .int (0 : Int32)), (12, .int (0 : Int32)), (11, .int (0 : Int32)), (10, .int (0 : Int32)), (9, .long (0 : Int64)), (8, .int (0 : Int32)), (0, .ref 41), (17, .ref 116), (16, .ref 114), (7, .ref 113), (6, .ref 112), (5, .ref 111), (4, .ref 110), (3, .ref 109), (1, .ref 107)], none) (pc' := 5) (L' := [(0, .ref 106)]) h_m20 (z_at.mk 3 rfl rfl) rfl (by decide) rfl (Or.inl rfl) rfl rfl rfl ?_
  clear H m; intro m H
  refine w_p h_m20 2 (pc' := 7) (L' := [(0, .ref 106)]) (st' := [.int (0 : Int32), .ref 106]) rfl ?_
  refine w_pf H (12, 18, [(8, .int (0 : Int32)), (2, .int (0 : Int32)), (15, .int (0 : Int32)), (14, .int (0 : Int32)), (13, .int (0 : Int32)), (12, .int (0 : Int32)), (11, .int (0 : Int32)), (10, .int (0 : Int32)), (9, .long (0 : Int64)), (0, .ref 41), (17, .ref 116), (16, .ref 114), (7, .ref 113), (6, .ref 112), (5, .ref 111), (4, .ref 110), (3, .ref 109), (1, .ref 107)], none) (pc' := 10) (L' := [(0, .ref 106)]) h_m20 (z_at.mk 3 rfl rfl) rfl (by decide) rfl (Or.inl rfl) rfl rfl rfl ?_
  clear H m; intro m H
  refine w_p h_m20 2 (pc' := 12) (L' := [(0, .ref 106)]) (st' := [.long (0 : Int64), .ref 106]) rfl ?_
  refine w_pf H (12, 18, [(9, .long (0 : Int64)), (8, .int (0 : Int32)), (2, .int (0 : Int32)), (15, .int (0 : Int32)), (14, .int (0 : Int32)), (13, .int (0 : Int32)), (12, .int (0 : Int32)), (11, .int (0 : Int32)), (10, .int (0 : Int32)), (0, .ref 41), (17, .ref 116), (16, .ref 114), (7, .ref 113), (6, .ref 112), (5, .ref 111), (4, .ref 110), (3, .ref 109), (1, .ref 107)], none) (pc' := 15) (L' := [(0, .ref 106)]) h_m20 (z_at.mk 3 rfl rfl) rfl (by decide) rfl (Or.inl rfl) rfl rfl rfl ?_
  clear H m; intro m H
  refine w_p h_m20 2 (pc' := 17) (L' := [(0, .ref 106)]) (st' := [.int (0 : Int32), .ref 106]) rfl ?_
  refine w_pf H (12, 18, [(10, .int (0 : Int32)), (9, .long (0 : Int64)), (8, .int (0 : Int32)), (2, .int (0 : Int32)), (15, .int (0 : Int32)), (14, .int (0 : Int32)), (13, .int (0 : Int32)), (12, .int (0 : Int32)), (11, .int (0 : Int32)), (0, .ref 41), (17, .ref 116), (16, .ref 114), (7, .ref 113), (6, .ref 112), (5, .ref 111), (4, .ref 110), (3, .ref 109), (1, .ref 107)], none) (pc' := 20) (L' := [(0, .ref 106)]) h_m20 (z_at.mk 3 rfl rfl) rfl (by decide) rfl (Or.inl rfl) rfl rfl rfl ?_
  clear H m; intro m H
  refine w_p h_m20 2 (pc' := 22) (L' := [(0, .ref 106)]) (st' := [.int (0 : Int32), .ref 106]) rfl ?_
  refine w_pf H (12, 18, [(11, .int (0 : Int32)), (10, .int (0 : Int32)), (9, .long (0 : Int64)), (8, .int (0 : Int32)), (2, .int (0 : Int32)), (15, .int (0 : Int32)), (14, .int (0 : Int32)), (13, .int (0 : Int32)), (12, .int (0 : Int32)), (0, .ref 41), (17, .ref 116), (16, .ref 114), (7, .ref 113), (6, .ref 112), (5, .ref 111), (4, .ref 110), (3, .ref 109), (1, .ref 107)], none) (pc' := 25) (L' := [(0, .ref 106)]) h_m20 (z_at.mk 3 rfl rfl) rfl (by decide) rfl (Or.inl rfl) rfl rfl rfl ?_
  clear H m; intro m H
  refine w_p h_m20 2 (pc' := 27) (L' := [(0, .ref 106)]) (st' := [.int (0 : Int32), .ref 106]) rfl ?_
  refine w_pf H (12, 18, [(12, .int (0 : Int32)), (11, .int (0 : Int32)), (10, .int (0 : Int32)), (9, .long (0 : Int64)), (8, .int (0 : Int32)), (2, .int (0 : Int32)), (15, .int (0 : Int32)), (14, .int (0 : Int32)), (13, .int (0 : Int32)), (0, .ref 41), (17, .ref 116), (16, .ref 114), (7, .ref 113), (6, .ref 112), (5, .ref 111), (4, .ref 110), (3, .ref 109), (1, .ref 107)], none) (pc' := 30) (L' := [(0, .ref 106)]) h_m20 (z_at.mk 3 rfl rfl) rfl (by decide) rfl (Or.inl rfl) rfl rfl rfl ?_
  clear H m; intro m H
  refine w_p h_m20 2 (pc' := 32) (L' := [(0, .ref 106)]) (st' := [.int (0 : Int32), .ref 106]) rfl ?_
  refine w_pf H (12, 18, [(13, .int (0 : Int32)), (12, .int (0 : Int32)), (11, .int (0 : Int32)), (10, .int (0 : Int32)), (9, .long (0 : Int64)), (8, .int (0 : Int32)), (2, .int (0 : Int32)), (15, .int (0 : Int32)), (14, .int (0 : Int32)), (0, .ref 41), (17, .ref 116), (16, .ref 114), (7, .ref 113), (6, .ref 112), (5, .ref 111), (4, .ref 110), (3, .ref 109), (1, .ref 107)], none) (pc' := 35) (L' := [(0, .ref 106)]) h_m20 (z_at.mk 3 rfl rfl) rfl (by decide) rfl (Or.inl rfl) rfl rfl rfl ?_
  clear H m; intro m H
  refine w_p h_m20 2 (pc' := 37) (L' := [(0, .ref 106)]) (st' := [.int (0 : Int32), .ref 106]) rfl ?_
  refine w_pf H (12, 18, [(14, .int (0 : Int32)), (13, .int (0 : Int32)), (12, .int (0 : Int32)), (11, .int (0 : Int32)), (10, .int (0 : Int32)), (9, .long (0 : Int64)), (8, .int (0 : Int32)), (2, .int (0 : Int32)), (15, .int (0 : Int32)), (0, .ref 41), (17, .ref 116), (16, .ref 114), (7, .ref 113), (6, .ref 112), (5, .ref 111), (4, .ref 110), (3, .ref 109), (1, .ref 107)], none) (pc' := 40) (L' := [(0, .ref 106)]) h_m20 (z_at.mk 3 rfl rfl) rfl (by decide) rfl (Or.inl rfl) rfl rfl rfl ?_
  clear H m; intro m H
  refine w_p h_m20 2 (pc' := 42) (L' := [(0, .ref 106)]) (st' := [.int (0 : Int32), .ref 106]) rfl ?_
  refine w_pf H (12, 18, [(15, .int (0 : Int32)), (14, .int (0 : Int32)), (13, .int (0 : Int32)), (12, .int (0 : Int32)), (11, .int (0 : Int32)), (10, .int (0 : Int32)), (9, .long (0 : Int64)), (8, .int (0 : Int32)), (2, .int (0 : Int32)), (0, .ref 41), (17, .ref 116), (16, .ref 114), (7, .ref 113), (6, .ref 112), (5, .ref 111), (4, .ref 110), (3, .ref 109), (1, .ref 107)], none) (pc' := 45) (L' := [(0, .ref 106)]) h_m20 (z_at.mk 3 rfl rfl) rfl (by decide) rfl (Or.inl rfl) rfl rfl rfl ?_
  clear H m; intro m H
  refine w_rv h_m20 (z_at.mk 1 rfl rfl) rfl ?_
  show z_W 998 145 7 [(0, .ref 39), (1, .int (60 : Int32))] [] m _
  refine w_p h_m145 1 (pc' := 8) (L' := [(0, .ref 39), (1, .int (60 : Int32))]) (st' := [.ref 39]) rfl ?_
  refine w_gf H (pc' := 11) (L' := [(0, .ref 39), (1, .int (60 : Int32))]) h_m145 (z_at.mk 3 rfl rfl) rfl (u := .ref 106) rfl rfl rfl ?_
  refine w_gf H (pc' := 14) (L' := [(0, .ref 39), (1, .int (60 : Int32))]) h_m145 (z_at.mk 3 rfl rfl) rfl (u := .ref 107) rfl rfl rfl ?_
  refine w_p h_m145 1 (pc' := 15) (L' := [(0, .ref 39), (1, .int (60 : Int32))]) (st' := [.ref 39, .ref 107]) rfl ?_
  refine w_gf H (pc' := 18) (L' := [(0, .ref 39), (1, .int (60 : Int32))]) h_m145 (z_at.mk 3 rfl rfl) rfl (u := .ref 40) rfl rfl rfl ?_
  refine w_gf H (pc' := 21) (L' := [(0, .ref 39), (1, .int (60 : Int32))]) h_m145 (z_at.mk 3 rfl rfl) rfl (u := .ref 48) rfl rfl rfl ?_
  refine w_gf H (pc' := 24) (L' := [(0, .ref 39), (1, .int (60 : Int32))]) h_m145 (z_at.mk 3 rfl rfl) rfl (u := .ref 49) rfl rfl rfl ?_
  refine w_cv (H.t rfl) (pc' := 27) (L' := [(0, .ref 39), (1, .int (60 : Int32))]) (rest := []) (Ps := [.ref 49]) (L0 := [(0, .ref 107), (1, .ref 49)]) h_m145 (z_at.mk 3 rfl rfl) (Or.inl ⟨rfl, rfl⟩) rfl rfl (by decide) (by decide) rfl rfl rfl rfl rfl rfl (by decide) rfl rfl rfl ?_
  refine w_p h_m74 1 (pc' := 1) (L' := [(0, .ref 107), (1, .ref 49)]) (st' := [.ref 49]) rfl ?_
  refine w_gf H (pc' := 4) (L' := [(0, .ref 107), (1, .ref 49)]) h_m74 (z_at.mk 3 rfl rfl) rfl (u := .ref 50) rfl rfl rfl ?_
  refine w_p h_m74 2 (pc' := 6) (L' := [(0, .ref 107), (1, .ref 49)]) (st' := [.ref 107, .int (0 : Int32), .ref 50]) rfl ?_
  refine w_gf H (pc' := 9) (L' := [(0, .ref 107), (1, .ref 49)]) h_m74 (z_at.mk 3 rfl rfl) rfl (u := .ref 108) rfl rfl rfl ?_
  refine w_p h_m74 2 (pc' := 12) (L' := [(0, .ref 107), (1, .ref 49)]) (st' := [.int (7 : Int32), .int (0 : Int32), .ref 108, .int (0 : Int32), .ref 50]) rfl ?_
  refine w_cpf H (ra := (0, 7, [(6, .int (1024 : Int32)), (5, .int (1 : Int32)), (4, .int (1 : Int32)), (3, .int (0 : Int32)), (2, .int (12 : Int32)), (1, .int (40 : Int32)), (0, .int (10 : Int32))], some (.int (0 : Int32)))) (pc' := 15) (L' := [(0, .ref 107), (1, .ref 49)]) h_m74 (z_at.mk 3 rfl rfl) rfl (z_cat_le 0 rfl (by decide)) rfl rfl rfl rfl (by decide) rfl rfl ?_
  clear H m; intro m H
  refine w_rv h_m74 (z_at.mk 1 rfl rfl) rfl ?_
  show z_W 998 145 27 [(0, .ref 39), (1, .int (60 : Int32))] [] m _
  refine w_p h_m145 1 (pc' := 28) (L' := [(0, .ref 39), (1, .int (60 : Int32))]) (st' := [.ref 39]) rfl ?_
  refine w_gf H (pc' := 31) (L' := [(0, .ref 39), (1, .int (60 : Int32))]) h_m145 (z_at.mk 3 rfl rfl) rfl (u := .ref 106) rfl rfl rfl ?_
  refine w_gf H (pc' := 34) (L' := [(0, .ref 39), (1, .int (60 : Int32))]) h_m145 (z_at.mk 3 rfl rfl) rfl (u := .ref 107) rfl rfl rfl ?_
  refine w_p h_m145 2 (pc' := 36) (L' := [(0, .ref 39), (1, .int (60 : Int32))]) (st' := [.int (60 : Int32), .int (1 : Int32), .ref 107]) rfl ?_
  refine w_cv (H.t rfl) (pc' := 39) (L' := [(0, .ref 39), (1, .int (60 : Int32))]) (rest := []) (Ps := [.int (1 : Int32), .int (60 : Int32)]) (L0 := [(0, .ref 107), (1, .int (1 : Int32)), (2, .int (60 : Int32))]) h_m145 (z_at.mk 3 rfl rfl) (Or.inl ⟨rfl, rfl⟩) rfl rfl (by decide) (by decide) rfl rfl rfl rfl rfl rfl (by decide) rfl rfl rfl ?_
  refine w_p h_m73 6 (pc' := 11) (L' := [(0, .ref 107), (1, .int (1 : Int32)), (2, .int (60 : Int32))]) (st' := [.ref 107]) rfl ?_
  refine w_gf H (pc' := 14) (L' := [(0, .ref 107), (1, .int (1 : Int32)), (2, .int (60 : Int32))]) h_m73 (z_at.mk 3 rfl rfl) rfl (u := .ref 108) rfl rfl rfl ?_
  refine w_p h_m73 2 (pc' := 16) (L' := [(0, .ref 107), (1, .int (1 : Int32)), (2, .int (60 : Int32))]) (st' := [.int (60 : Int32), .int (1 : Int32), .ref 108]) rfl ?_
  refine w_as H (t := 0) (j := 1) (u := .int (60 : Int32)) (0, 7, [(1, .int (60 : Int32)), (6, .int (1024 : Int32)), (5, .int (1 : Int32)), (4, .int (1 : Int32)), (3, .int (0 : Int32)), (2, .int (12 : Int32)), (0, .int (10 : Int32))], some (.int (0 : Int32))) (pc' := 17) (L' := []) h_m73 (z_at.mk 1 rfl rfl) rfl rfl (w_ui _ _ (by decide)) rfl rfl rfl rfl ?_
  clear H m; intro m H
  refine w_rv h_m73 (z_at.mk 1 rfl rfl) rfl ?_
  show z_W 998 145 39 [(0, .ref 39), (1, .int (60 : Int32))] [] m _
  refine w_p h_m145 4 (pc' := 43) (L' := [(0, .ref 39), (2, .int (0 : Int32))]) (st' := [.ref 39, .int (0 : Int32)]) rfl ?_
  refine w_gf H (pc' := 46) (L' := [(0, .ref 39), (2, .int (0 : Int32))]) h_m145 (z_at.mk 3 rfl rfl) rfl (u := .ref 40) rfl rfl rfl ?_
  refine w_gf H (pc' := 49) (L' := [(0, .ref 39), (2, .int (0 : Int32))]) h_m145 (z_at.mk 3 rfl rfl) rfl (u := .ref 63) rfl rfl rfl ?_
  refine w_gf H (pc' := 52) (L' := [(0, .ref 39), (2, .int (0 : Int32))]) h_m145 (z_at.mk 3 rfl rfl) rfl (u := .int (0 : Int32)) rfl rfl rfl ?_
  refine w_p h_m145 1 (pc' := 79) (L' := [(0, .ref 39), (2, .int (0 : Int32))]) (st' := []) rfl ?_
  refine w_rv h_m145 (z_at.mk 1 rfl rfl) rfl ?_
  show z_W 999 146 13 [(0, .ref 39), (1, .int (xs 1)), (2, .int (60 : Int32))] [] m _
  refine w_p h_m146 1 (pc' := 14) (L' := [(0, .ref 39), (1, .int (xs 1)), (2, .int (60 : Int32))]) (st' := [.ref 39]) rfl ?_
  refine w_gf H (pc' := 17) (L' := [(0, .ref 39), (1, .int (xs 1)), (2, .int (60 : Int32))]) h_m146 (z_at.mk 3 rfl rfl) rfl (u := .ref 106) rfl rfl rfl ?_
  refine w_gf H (pc' := 20) (L' := [(0, .ref 39), (1, .int (xs 1)), (2, .int (60 : Int32))]) h_m146 (z_at.mk 3 rfl rfl) rfl (u := .int (0 : Int32)) rfl rfl rfl ?_
  refine w_p h_m146 1 (pc' := 21) (L' := [(0, .ref 39), (1, .int (xs 1)), (2, .int (60 : Int32))]) (st' := [.int (xs 1), .int (0 : Int32)]) rfl ?_
  refine w_t2 (pc' := 26) (L' := [(0, .ref 39), (1, .int (xs 1)), (2, .int (60 : Int32))]) h_m146 (z_at.mk 3 rfl rfl) rfl (zc (a := 0) (b := (xs 1).toInt) rfl rfl (decide_eq_true (by omega))) rfl rfl ?_
  refine w_p h_m146 2 (pc' := 2) (L' := [(0, .ref 39), (1, .int (xs 1)), (2, .int (61 : Int32))]) (st' := []) rfl ?_
  exact hQ m (H.subC (by decide +kernel))
set_option maxHeartbeats 400000000 in
set_option maxRecDepth 20000 in
theorem w_turn_146_61 {xs : Nat → Int32} {m : zM} {Q : Option Value → zM → Prop} (hp : (xs 1).toInt < 0) (H : w_ok 6 xs 168 63950 ((106, (12, 18, [(15, .int (0 : Int32)), (14, .int (0 : Int32)), (13, .int (0 : Int32)), (12, .int (0 : Int32)), (11, .int (0 : Int32)), (10, .int (0 : Int32)), (9, .long (0 : Int64)), (8, .int (0 : Int32)), (2, .int (0 : Int32)), (0, .ref 41), (17, .ref 116), (16, .ref 114), (7, .ref 113), (6, .ref 112), (5, .ref 111), (4, .ref 110), (3, .ref 109), (1, .ref 107)], none)) :: (108, (0, 7, [(1, .int (60 : Int32)), (6, .int (1024 : Int32)), (5, .int (1 : Int32)), (4, .int (1 : Int32)), (3, .int (0 : Int32)), (2, .int (12 : Int32)), (0, .int (10 : Int32))], some (.int (0 : Int32)))) :: w_T0) m) (hQ : ∀ m, w_ok 6 xs 168 63950 ((106, (12, 18, [(15, .int (0 : Int32)), (14, .int (0 : Int32)), (13, .int (0 : Int32)), (12, .int (0 : Int32)), (11, .int (0 : Int32)), (10, .int (0 : Int32)), (9, .long (0 : Int64)), (8, .int (0 : Int32)), (2, .int (0 : Int32)), (0, .ref 41), (17, .ref 116), (16, .ref 114), (7, .ref 113), (6, .ref 112), (5, .ref 111), (4, .ref 110), (3, .ref 109), (1, .ref 107)], none)) :: (108, (0, 7, [(1, .int (61 : Int32)), (6, .int (1024 : Int32)), (5, .int (1 : Int32)), (4, .int (1 : Int32)), (3, .int (0 : Int32)), (2, .int (12 : Int32)), (0, .int (10 : Int32))], some (.int (0 : Int32)))) :: w_T0) m → z_W 999 146 2 [(0, .ref 39), (1, .int (xs 1)), (2, .int (62 : Int32))] [] m Q) : z_W 999 146 2 [(0, .ref 39), (1, .int (xs 1)), (2, .int (61 : Int32))] [] m Q := by
  refine w_p h_m146 5 (pc' := 10) (L' := [(0, .ref 39), (1, .int (xs 1)), (2, .int (61 : Int32))]) (st' := [.int (61 : Int32), .ref 39]) rfl ?_
  refine w_cv (H.t rfl) (pc' := 13) (L' := [(0, .ref 39), (1, .int (xs 1)), (2, .int (61 : Int32))]) (rest := []) (Ps := [.int (61 : Int32)]) (L0 := [(0, .ref 39), (1, .int (61 : Int32))]) h_m146 (z_at.mk 3 rfl rfl) (Or.inl ⟨rfl, rfl⟩) rfl rfl (by decide) (by decide) rfl rfl rfl rfl rfl rfl (by decide) rfl rfl rfl ?_
  refine w_p h_m145 1 (pc' := 1) (L' := [(0, .ref 39), (1, .int (61 : Int32))]) (st' := [.ref 39]) rfl ?_
  refine w_gf H (pc' := 4) (L' := [(0, .ref 39), (1, .int (61 : Int32))]) h_m145 (z_at.mk 3 rfl rfl) rfl (u := .ref 106) rfl rfl rfl ?_
  refine w_cv (H.t rfl) (pc' := 7) (L' := [(0, .ref 39), (1, .int (61 : Int32))]) (rest := []) (Ps := []) (L0 := [(0, .ref 106)]) h_m145 (z_at.mk 3 rfl rfl) (Or.inl ⟨rfl, rfl⟩) rfl rfl (by decide) (by decide) rfl rfl rfl rfl rfl rfl (by decide) rfl rfl rfl ?_
  refine w_p h_m20 2 (pc' := 2) (L' := [(0, .ref 106)]) (st' := [.int (0 : Int32), .ref 106]) rfl ?_
  refine w_pf H (12, 18, [(2, .int (0 : Int32)), (15, .int (0 : Int32)), (14, .int (0 : Int32)), (13, .int (0 : Int32)), (12, .int (0 : Int32)), (11, .int (0 : Int32)), (10, .int (0 : Int32)), (9, .long (0 : Int64)), (8, .int (0 : Int32)), (0, .ref 41), (17, .ref 116), (16, .ref 114), (7, .ref 113), (6, .ref 112), (5, .ref 111), (4, .ref 110), (3, .ref 109), (1, .ref 107)], none) (pc' := 5) (L' := [(0, .ref 106)]) h_m20 (z_at.mk 3 rfl rfl) rfl (by decide) rfl (Or.inl rfl) rfl rfl rfl ?_
  clear H m; intro m H
  refine w_p h_m20 2 (pc' := 7) (L' := [(0, .ref 106)]) (st' := [.int (0 : Int32), .ref 106]) rfl ?_
  refine w_pf H (12, 18, [(8, .int (0 : Int32)), (2, .int (0 : Int32)), (15, .int (0 : Int32)), (14, .int (0 : Int32)), (13, .int (0 : Int32)), (12, .int (0 : Int32)), (11, .int (0 : Int32)), (10, .int (0 : Int32)), (9, .long (0 : Int64)), (0, .ref 41), (17, .ref 116), (16, .ref 114), (7, .ref 113), (6, .ref 112), (5, .ref 111), (4, .ref 110), (3, .ref 109), (1, .ref 107)], none) (pc' := 10) (L' := [(0, .ref 106)]) h_m20 (z_at.mk 3 rfl rfl) rfl (by decide) rfl (Or.inl rfl) rfl rfl rfl ?_
  clear H m; intro m H
  refine w_p h_m20 2 (pc' := 12) (L' := [(0, .ref 106)]) (st' := [.long (0 : Int64), .ref 106]) rfl ?_
  refine w_pf H (12, 18, [(9, .long (0 : Int64)), (8, .int (0 : Int32)), (2, .int (0 : Int32)), (15, .int (0 : Int32)), (14, .int (0 : Int32)), (13, .int (0 : Int32)), (12, .int (0 : Int32)), (11, .int (0 : Int32)), (10, .int (0 : Int32)), (0, .ref 41), (17, .ref 116), (16, .ref 114), (7, .ref 113), (6, .ref 112), (5, .ref 111), (4, .ref 110), (3, .ref 109), (1, .ref 107)], none) (pc' := 15) (L' := [(0, .ref 106)]) h_m20 (z_at.mk 3 rfl rfl) rfl (by decide) rfl (Or.inl rfl) rfl rfl rfl ?_
  clear H m; intro m H
  refine w_p h_m20 2 (pc' := 17) (L' := [(0, .ref 106)]) (st' := [.int (0 : Int32), .ref 106]) rfl ?_
  refine w_pf H (12, 18, [(10, .int (0 : Int32)), (9, .long (0 : Int64)), (8, .int (0 : Int32)), (2, .int (0 : Int32)), (15, .int (0 : Int32)), (14, .int (0 : Int32)), (13, .int (0 : Int32)), (12, .int (0 : Int32)), (11, .int (0 : Int32)), (0, .ref 41), (17, .ref 116), (16, .ref 114), (7, .ref 113), (6, .ref 112), (5, .ref 111), (4, .ref 110), (3, .ref 109), (1, .ref 107)], none) (pc' := 20) (L' := [(0, .ref 106)]) h_m20 (z_at.mk 3 rfl rfl) rfl (by decide) rfl (Or.inl rfl) rfl rfl rfl ?_
  clear H m; intro m H
  refine w_p h_m20 2 (pc' := 22) (L' := [(0, .ref 106)]) (st' := [.int (0 : Int32), .ref 106]) rfl ?_
  refine w_pf H (12, 18, [(11, .int (0 : Int32)), (10, .int (0 : Int32)), (9, .long (0 : Int64)), (8, .int (0 : Int32)), (2, .int (0 : Int32)), (15, .int (0 : Int32)), (14, .int (0 : Int32)), (13, .int (0 : Int32)), (12, .int (0 : Int32)), (0, .ref 41), (17, .ref 116), (16, .ref 114), (7, .ref 113), (6, .ref 112), (5, .ref 111), (4, .ref 110), (3, .ref 109), (1, .ref 107)], none) (pc' := 25) (L' := [(0, .ref 106)]) h_m20 (z_at.mk 3 rfl rfl) rfl (by decide) rfl (Or.inl rfl) rfl rfl rfl ?_
  clear H m; intro m H
  refine w_p h_m20 2 (pc' := 27) (L' := [(0, .ref 106)]) (st' := [.int (0 : Int32), .ref 106]) rfl ?_
  refine w_pf H (12, 18, [(12, .int (0 : Int32)), (11, .int (0 : Int32)), (10, .int (0 : Int32)), (9, .long (0 : Int64)), (8, .int (0 : Int32)), (2, .int (0 : Int32)), (15, .int (0 : Int32)), (14, .int (0 : Int32)), (13, .int (0 : Int32)), (0, .ref 41), (17, .ref 116), (16, .ref 114), (7, .ref 113), (6, .ref 112), (5, .ref 111), (4, .ref 110), (3, .ref 109), (1, .ref 107)], none) (pc' := 30) (L' := [(0, .ref 106)]) h_m20 (z_at.mk 3 rfl rfl) rfl (by decide) rfl (Or.inl rfl) rfl rfl rfl ?_
  clear H m; intro m H
  refine w_p h_m20 2 (pc' := 32) (L' := [(0, .ref 106)]) (st' := [.int (0 : Int32), .ref 106]) rfl ?_
  refine w_pf H (12, 18, [(13, .int (0 : Int32)), (12, .int (0 : Int32)), (11, .int (0 : Int32)), (10, .int (0 : Int32)), (9, .long (0 : Int64)), (8, .int (0 : Int32)), (2, .int (0 : Int32)), (15, .int (0 : Int32)), (14, .int (0 : Int32)), (0, .ref 41), (17, .ref 116), (16, .ref 114), (7, .ref 113), (6, .ref 112), (5, .ref 111), (4, .ref 110), (3, .ref 109), (1, .ref 107)], none) (pc' := 35) (L' := [(0, .ref 106)]) h_m20 (z_at.mk 3 rfl rfl) rfl (by decide) rfl (Or.inl rfl) rfl rfl rfl ?_
  clear H m; intro m H
  refine w_p h_m20 2 (pc' := 37) (L' := [(0, .ref 106)]) (st' := [.int (0 : Int32), .ref 106]) rfl ?_
  refine w_pf H (12, 18, [(14, .int (0 : Int32)), (13, .int (0 : Int32)), (12, .int (0 : Int32)), (11, .int (0 : Int32)), (10, .int (0 : Int32)), (9, .long (0 : Int64)), (8, .int (0 : Int32)), (2, .int (0 : Int32)), (15, .int (0 : Int32)), (0, .ref 41), (17, .ref 116), (16, .ref 114), (7, .ref 113), (6, .ref 112), (5, .ref 111), (4, .ref 110), (3, .ref 109), (1, .ref 107)], none) (pc' := 40) (L' := [(0, .ref 106)]) h_m20 (z_at.mk 3 rfl rfl) rfl (by decide) rfl (Or.inl rfl) rfl rfl rfl ?_
  clear H m; intro m H
  refine w_p h_m20 2 (pc' := 42) (L' := [(0, .ref 106)]) (st' := [.int (0 : Int32), .ref 106]) rfl ?_
  refine w_pf H (12, 18, [(15, .int (0 : Int32)), (14, .int (0 : Int32)), (13, .int (0 : Int32)), (12, .int (0 : Int32)), (11, .int (0 : Int32)), (10, .int (0 : Int32)), (9, .long (0 : Int64)), (8, .int (0 : Int32)), (2, .int (0 : Int32)), (0, .ref 41), (17, .ref 116), (16, .ref 114), (7, .ref 113), (6, .ref 112), (5, .ref 111), (4, .ref 110), (3, .ref 109), (1, .ref 107)], none) (pc' := 45) (L' := [(0, .ref 106)]) h_m20 (z_at.mk 3 rfl rfl) rfl (by decide) rfl (Or.inl rfl) rfl rfl rfl ?_
  clear H m; intro m H
  refine w_rv h_m20 (z_at.mk 1 rfl rfl) rfl ?_
  show z_W 998 145 7 [(0, .ref 39), (1, .int (61 : Int32))] [] m _
  refine w_p h_m145 1 (pc' := 8) (L' := [(0, .ref 39), (1, .int (61 : Int32))]) (st' := [.ref 39]) rfl ?_
  refine w_gf H (pc' := 11) (L' := [(0, .ref 39), (1, .int (61 : Int32))]) h_m145 (z_at.mk 3 rfl rfl) rfl (u := .ref 106) rfl rfl rfl ?_
  refine w_gf H (pc' := 14) (L' := [(0, .ref 39), (1, .int (61 : Int32))]) h_m145 (z_at.mk 3 rfl rfl) rfl (u := .ref 107) rfl rfl rfl ?_
  refine w_p h_m145 1 (pc' := 15) (L' := [(0, .ref 39), (1, .int (61 : Int32))]) (st' := [.ref 39, .ref 107]) rfl ?_
  refine w_gf H (pc' := 18) (L' := [(0, .ref 39), (1, .int (61 : Int32))]) h_m145 (z_at.mk 3 rfl rfl) rfl (u := .ref 40) rfl rfl rfl ?_
  refine w_gf H (pc' := 21) (L' := [(0, .ref 39), (1, .int (61 : Int32))]) h_m145 (z_at.mk 3 rfl rfl) rfl (u := .ref 48) rfl rfl rfl ?_
  refine w_gf H (pc' := 24) (L' := [(0, .ref 39), (1, .int (61 : Int32))]) h_m145 (z_at.mk 3 rfl rfl) rfl (u := .ref 49) rfl rfl rfl ?_
  refine w_cv (H.t rfl) (pc' := 27) (L' := [(0, .ref 39), (1, .int (61 : Int32))]) (rest := []) (Ps := [.ref 49]) (L0 := [(0, .ref 107), (1, .ref 49)]) h_m145 (z_at.mk 3 rfl rfl) (Or.inl ⟨rfl, rfl⟩) rfl rfl (by decide) (by decide) rfl rfl rfl rfl rfl rfl (by decide) rfl rfl rfl ?_
  refine w_p h_m74 1 (pc' := 1) (L' := [(0, .ref 107), (1, .ref 49)]) (st' := [.ref 49]) rfl ?_
  refine w_gf H (pc' := 4) (L' := [(0, .ref 107), (1, .ref 49)]) h_m74 (z_at.mk 3 rfl rfl) rfl (u := .ref 50) rfl rfl rfl ?_
  refine w_p h_m74 2 (pc' := 6) (L' := [(0, .ref 107), (1, .ref 49)]) (st' := [.ref 107, .int (0 : Int32), .ref 50]) rfl ?_
  refine w_gf H (pc' := 9) (L' := [(0, .ref 107), (1, .ref 49)]) h_m74 (z_at.mk 3 rfl rfl) rfl (u := .ref 108) rfl rfl rfl ?_
  refine w_p h_m74 2 (pc' := 12) (L' := [(0, .ref 107), (1, .ref 49)]) (st' := [.int (7 : Int32), .int (0 : Int32), .ref 108, .int (0 : Int32), .ref 50]) rfl ?_
  refine w_cpf H (ra := (0, 7, [(6, .int (1024 : Int32)), (5, .int (1 : Int32)), (4, .int (1 : Int32)), (3, .int (0 : Int32)), (2, .int (12 : Int32)), (1, .int (40 : Int32)), (0, .int (10 : Int32))], some (.int (0 : Int32)))) (pc' := 15) (L' := [(0, .ref 107), (1, .ref 49)]) h_m74 (z_at.mk 3 rfl rfl) rfl (z_cat_le 0 rfl (by decide)) rfl rfl rfl rfl (by decide) rfl rfl ?_
  clear H m; intro m H
  refine w_rv h_m74 (z_at.mk 1 rfl rfl) rfl ?_
  show z_W 998 145 27 [(0, .ref 39), (1, .int (61 : Int32))] [] m _
  refine w_p h_m145 1 (pc' := 28) (L' := [(0, .ref 39), (1, .int (61 : Int32))]) (st' := [.ref 39]) rfl ?_
  refine w_gf H (pc' := 31) (L' := [(0, .ref 39), (1, .int (61 : Int32))]) h_m145 (z_at.mk 3 rfl rfl) rfl (u := .ref 106) rfl rfl rfl ?_
  refine w_gf H (pc' := 34) (L' := [(0, .ref 39), (1, .int (61 : Int32))]) h_m145 (z_at.mk 3 rfl rfl) rfl (u := .ref 107) rfl rfl rfl ?_
  refine w_p h_m145 2 (pc' := 36) (L' := [(0, .ref 39), (1, .int (61 : Int32))]) (st' := [.int (61 : Int32), .int (1 : Int32), .ref 107]) rfl ?_
  refine w_cv (H.t rfl) (pc' := 39) (L' := [(0, .ref 39), (1, .int (61 : Int32))]) (rest := []) (Ps := [.int (1 : Int32), .int (61 : Int32)]) (L0 := [(0, .ref 107), (1, .int (1 : Int32)), (2, .int (61 : Int32))]) h_m145 (z_at.mk 3 rfl rfl) (Or.inl ⟨rfl, rfl⟩) rfl rfl (by decide) (by decide) rfl rfl rfl rfl rfl rfl (by decide) rfl rfl rfl ?_
  refine w_p h_m73 6 (pc' := 11) (L' := [(0, .ref 107), (1, .int (1 : Int32)), (2, .int (61 : Int32))]) (st' := [.ref 107]) rfl ?_
  refine w_gf H (pc' := 14) (L' := [(0, .ref 107), (1, .int (1 : Int32)), (2, .int (61 : Int32))]) h_m73 (z_at.mk 3 rfl rfl) rfl (u := .ref 108) rfl rfl rfl ?_
  refine w_p h_m73 2 (pc' := 16) (L' := [(0, .ref 107), (1, .int (1 : Int32)), (2, .int (61 : Int32))]) (st' := [.int (61 : Int32), .int (1 : Int32), .ref 108]) rfl ?_
  refine w_as H (t := 0) (j := 1) (u := .int (61 : Int32)) (0, 7, [(1, .int (61 : Int32)), (6, .int (1024 : Int32)), (5, .int (1 : Int32)), (4, .int (1 : Int32)), (3, .int (0 : Int32)), (2, .int (12 : Int32)), (0, .int (10 : Int32))], some (.int (0 : Int32))) (pc' := 17) (L' := []) h_m73 (z_at.mk 1 rfl rfl) rfl rfl (w_ui _ _ (by decide)) rfl rfl rfl rfl ?_
  clear H m; intro m H
  refine w_rv h_m73 (z_at.mk 1 rfl rfl) rfl ?_
  show z_W 998 145 39 [(0, .ref 39), (1, .int (61 : Int32))] [] m _
  refine w_p h_m145 4 (pc' := 43) (L' := [(0, .ref 39), (2, .int (0 : Int32))]) (st' := [.ref 39, .int (0 : Int32)]) rfl ?_
  refine w_gf H (pc' := 46) (L' := [(0, .ref 39), (2, .int (0 : Int32))]) h_m145 (z_at.mk 3 rfl rfl) rfl (u := .ref 40) rfl rfl rfl ?_
  refine w_gf H (pc' := 49) (L' := [(0, .ref 39), (2, .int (0 : Int32))]) h_m145 (z_at.mk 3 rfl rfl) rfl (u := .ref 63) rfl rfl rfl ?_
  refine w_gf H (pc' := 52) (L' := [(0, .ref 39), (2, .int (0 : Int32))]) h_m145 (z_at.mk 3 rfl rfl) rfl (u := .int (0 : Int32)) rfl rfl rfl ?_
  refine w_p h_m145 1 (pc' := 79) (L' := [(0, .ref 39), (2, .int (0 : Int32))]) (st' := []) rfl ?_
  refine w_rv h_m145 (z_at.mk 1 rfl rfl) rfl ?_
  show z_W 999 146 13 [(0, .ref 39), (1, .int (xs 1)), (2, .int (61 : Int32))] [] m _
  refine w_p h_m146 1 (pc' := 14) (L' := [(0, .ref 39), (1, .int (xs 1)), (2, .int (61 : Int32))]) (st' := [.ref 39]) rfl ?_
  refine w_gf H (pc' := 17) (L' := [(0, .ref 39), (1, .int (xs 1)), (2, .int (61 : Int32))]) h_m146 (z_at.mk 3 rfl rfl) rfl (u := .ref 106) rfl rfl rfl ?_
  refine w_gf H (pc' := 20) (L' := [(0, .ref 39), (1, .int (xs 1)), (2, .int (61 : Int32))]) h_m146 (z_at.mk 3 rfl rfl) rfl (u := .int (0 : Int32)) rfl rfl rfl ?_
  refine w_p h_m146 1 (pc' := 21) (L' := [(0, .ref 39), (1, .int (xs 1)), (2, .int (61 : Int32))]) (st' := [.int (xs 1), .int (0 : Int32)]) rfl ?_
  refine w_t2 (pc' := 26) (L' := [(0, .ref 39), (1, .int (xs 1)), (2, .int (61 : Int32))]) h_m146 (z_at.mk 3 rfl rfl) rfl (zc (a := 0) (b := (xs 1).toInt) rfl rfl (decide_eq_true (by omega))) rfl rfl ?_
  refine w_p h_m146 2 (pc' := 2) (L' := [(0, .ref 39), (1, .int (xs 1)), (2, .int (62 : Int32))]) (st' := []) rfl ?_
  exact hQ m (H.subC (by decide +kernel))
set_option maxHeartbeats 400000000 in
set_option maxRecDepth 20000 in
theorem w_turn_146_62 {xs : Nat → Int32} {m : zM} {Q : Option Value → zM → Prop} (hp : (xs 1).toInt < 0) (H : w_ok 6 xs 168 63950 ((106, (12, 18, [(15, .int (0 : Int32)), (14, .int (0 : Int32)), (13, .int (0 : Int32)), (12, .int (0 : Int32)), (11, .int (0 : Int32)), (10, .int (0 : Int32)), (9, .long (0 : Int64)), (8, .int (0 : Int32)), (2, .int (0 : Int32)), (0, .ref 41), (17, .ref 116), (16, .ref 114), (7, .ref 113), (6, .ref 112), (5, .ref 111), (4, .ref 110), (3, .ref 109), (1, .ref 107)], none)) :: (108, (0, 7, [(1, .int (61 : Int32)), (6, .int (1024 : Int32)), (5, .int (1 : Int32)), (4, .int (1 : Int32)), (3, .int (0 : Int32)), (2, .int (12 : Int32)), (0, .int (10 : Int32))], some (.int (0 : Int32)))) :: w_T0) m) (hQ : ∀ m, w_ok 6 xs 168 63950 ((106, (12, 18, [(15, .int (0 : Int32)), (14, .int (0 : Int32)), (13, .int (0 : Int32)), (12, .int (0 : Int32)), (11, .int (0 : Int32)), (10, .int (0 : Int32)), (9, .long (0 : Int64)), (8, .int (0 : Int32)), (2, .int (0 : Int32)), (0, .ref 41), (17, .ref 116), (16, .ref 114), (7, .ref 113), (6, .ref 112), (5, .ref 111), (4, .ref 110), (3, .ref 109), (1, .ref 107)], none)) :: (108, (0, 7, [(1, .int (62 : Int32)), (6, .int (1024 : Int32)), (5, .int (1 : Int32)), (4, .int (1 : Int32)), (3, .int (0 : Int32)), (2, .int (12 : Int32)), (0, .int (10 : Int32))], some (.int (0 : Int32)))) :: w_T0) m → z_W 999 146 2 [(0, .ref 39), (1, .int (xs 1)), (2, .int (63 : Int32))] [] m Q) : z_W 999 146 2 [(0, .ref 39), (1, .int (xs 1)), (2, .int (62 : Int32))] [] m Q := by
  refine w_p h_m146 5 (pc' := 10) (L' := [(0, .ref 39), (1, .int (xs 1)), (2, .int (62 : Int32))]) (st' := [.int (62 : Int32), .ref 39]) rfl ?_
  refine w_cv (H.t rfl) (pc' := 13) (L' := [(0, .ref 39), (1, .int (xs 1)), (2, .int (62 : Int32))]) (rest := []) (Ps := [.int (62 : Int32)]) (L0 := [(0, .ref 39), (1, .int (62 : Int32))]) h_m146 (z_at.mk 3 rfl rfl) (Or.inl ⟨rfl, rfl⟩) rfl rfl (by decide) (by decide) rfl rfl rfl rfl rfl rfl (by decide) rfl rfl rfl ?_
  refine w_p h_m145 1 (pc' := 1) (L' := [(0, .ref 39), (1, .int (62 : Int32))]) (st' := [.ref 39]) rfl ?_
  refine w_gf H (pc' := 4) (L' := [(0, .ref 39), (1, .int (62 : Int32))]) h_m145 (z_at.mk 3 rfl rfl) rfl (u := .ref 106) rfl rfl rfl ?_
  refine w_cv (H.t rfl) (pc' := 7) (L' := [(0, .ref 39), (1, .int (62 : Int32))]) (rest := []) (Ps := []) (L0 := [(0, .ref 106)]) h_m145 (z_at.mk 3 rfl rfl) (Or.inl ⟨rfl, rfl⟩) rfl rfl (by decide) (by decide) rfl rfl rfl rfl rfl rfl (by decide) rfl rfl rfl ?_
  refine w_p h_m20 2 (pc' := 2) (L' := [(0, .ref 106)]) (st' := [.int (0 : Int32), .ref 106]) rfl ?_
  refine w_pf H (12, 18, [(2, .int (0 : Int32)), (15, .int (0 : Int32)), (14, .int (0 : Int32)), (13, .int (0 : Int32)), (12, .int (0 : Int32)), (11, .int (0 : Int32)), (10, .int (0 : Int32)), (9, .long (0 : Int64)), (8, .int (0 : Int32)), (0, .ref 41), (17, .ref 116), (16, .ref 114), (7, .ref 113), (6, .ref 112), (5, .ref 111), (4, .ref 110), (3, .ref 109), (1, .ref 107)], none) (pc' := 5) (L' := [(0, .ref 106)]) h_m20 (z_at.mk 3 rfl rfl) rfl (by decide) rfl (Or.inl rfl) rfl rfl rfl ?_
  clear H m; intro m H
  refine w_p h_m20 2 (pc' := 7) (L' := [(0, .ref 106)]) (st' := [.int (0 : Int32), .ref 106]) rfl ?_
  refine w_pf H (12, 18, [(8, .int (0 : Int32)), (2, .int (0 : Int32)), (15, .int (0 : Int32)), (14, .int (0 : Int32)), (13, .int (0 : Int32)), (12, .int (0 : Int32)), (11, .int (0 : Int32)), (10, .int (0 : Int32)), (9, .long (0 : Int64)), (0, .ref 41), (17, .ref 116), (16, .ref 114), (7, .ref 113), (6, .ref 112), (5, .ref 111), (4, .ref 110), (3, .ref 109), (1, .ref 107)], none) (pc' := 10) (L' := [(0, .ref 106)]) h_m20 (z_at.mk 3 rfl rfl) rfl (by decide) rfl (Or.inl rfl) rfl rfl rfl ?_
  clear H m; intro m H
  refine w_p h_m20 2 (pc' := 12) (L' := [(0, .ref 106)]) (st' := [.long (0 : Int64), .ref 106]) rfl ?_
  refine w_pf H (12, 18, [(9, .long (0 : Int64)), (8, .int (0 : Int32)), (2, .int (0 : Int32)), (15, .int (0 : Int32)), (14, .int (0 : Int32)), (13, .int (0 : Int32)), (12, .int (0 : Int32)), (11, .int (0 : Int32)), (10, .int (0 : Int32)), (0, .ref 41), (17, .ref 116), (16, .ref 114), (7, .ref 113), (6, .ref 112), (5, .ref 111), (4, .ref 110), (3, .ref 109), (1, .ref 107)], none) (pc' := 15) (L' := [(0, .ref 106)]) h_m20 (z_at.mk 3 rfl rfl) rfl (by decide) rfl (Or.inl rfl) rfl rfl rfl ?_
  clear H m; intro m H
  refine w_p h_m20 2 (pc' := 17) (L' := [(0, .ref 106)]) (st' := [.int (0 : Int32), .ref 106]) rfl ?_
  refine w_pf H (12, 18, [(10, .int (0 : Int32)), (9, .long (0 : Int64)), (8, .int (0 : Int32)), (2, .int (0 : Int32)), (15, .int (0 : Int32)), (14, .int (0 : Int32)), (13, .int (0 : Int32)), (12, .int (0 : Int32)), (11, .int (0 : Int32)), (0, .ref 41), (17, .ref 116), (16, .ref 114), (7, .ref 113), (6, .ref 112), (5, .ref 111), (4, .ref 110), (3, .ref 109), (1, .ref 107)], none) (pc' := 20) (L' := [(0, .ref 106)]) h_m20 (z_at.mk 3 rfl rfl) rfl (by decide) rfl (Or.inl rfl) rfl rfl rfl ?_
  clear H m; intro m H
  refine w_p h_m20 2 (pc' := 22) (L' := [(0, .ref 106)]) (st' := [.int (0 : Int32), .ref 106]) rfl ?_
  refine w_pf H (12, 18, [(11, .int (0 : Int32)), (10, .int (0 : Int32)), (9, .long (0 : Int64)), (8, .int (0 : Int32)), (2, .int (0 : Int32)), (15, .int (0 : Int32)), (14, .int (0 : Int32)), (13, .int (0 : Int32)), (12, .int (0 : Int32)), (0, .ref 41), (17, .ref 116), (16, .ref 114), (7, .ref 113), (6, .ref 112), (5, .ref 111), (4, .ref 110), (3, .ref 109), (1, .ref 107)], none) (pc' := 25) (L' := [(0, .ref 106)]) h_m20 (z_at.mk 3 rfl rfl) rfl (by decide) rfl (Or.inl rfl) rfl rfl rfl ?_
  clear H m; intro m H
  refine w_p h_m20 2 (pc' := 27) (L' := [(0, .ref 106)]) (st' := [.int (0 : Int32), .ref 106]) rfl ?_
  refine w_pf H (12, 18, [(12, .int (0 : Int32)), (11, .int (0 : Int32)), (10, .int (0 : Int32)), (9, .long (0 : Int64)), (8, .int (0 : Int32)), (2, .int (0 : Int32)), (15, .int (0 : Int32)), (14, .int (0 : Int32)), (13, .int (0 : Int32)), (0, .ref 41), (17, .ref 116), (16, .ref 114), (7, .ref 113), (6, .ref 112), (5, .ref 111), (4, .ref 110), (3, .ref 109), (1, .ref 107)], none) (pc' := 30) (L' := [(0, .ref 106)]) h_m20 (z_at.mk 3 rfl rfl) rfl (by decide) rfl (Or.inl rfl) rfl rfl rfl ?_
  clear H m; intro m H
  refine w_p h_m20 2 (pc' := 32) (L' := [(0, .ref 106)]) (st' := [.int (0 : Int32), .ref 106]) rfl ?_
  refine w_pf H (12, 18, [(13, .int (0 : Int32)), (12, .int (0 : Int32)), (11, .int (0 : Int32)), (10, .int (0 : Int32)), (9, .long (0 : Int64)), (8, .int (0 : Int32)), (2, .int (0 : Int32)), (15, .int (0 : Int32)), (14, .int (0 : Int32)), (0, .ref 41), (17, .ref 116), (16, .ref 114), (7, .ref 113), (6, .ref 112), (5, .ref 111), (4, .ref 110), (3, .ref 109), (1, .ref 107)], none) (pc' := 35) (L' := [(0, .ref 106)]) h_m20 (z_at.mk 3 rfl rfl) rfl (by decide) rfl (Or.inl rfl) rfl rfl rfl ?_
  clear H m; intro m H
  refine w_p h_m20 2 (pc' := 37) (L' := [(0, .ref 106)]) (st' := [.int (0 : Int32), .ref 106]) rfl ?_
  refine w_pf H (12, 18, [(14, .int (0 : Int32)), (13, .int (0 : Int32)), (12, .int (0 : Int32)), (11, .int (0 : Int32)), (10, .int (0 : Int32)), (9, .long (0 : Int64)), (8, .int (0 : Int32)), (2, .int (0 : Int32)), (15, .int (0 : Int32)), (0, .ref 41), (17, .ref 116), (16, .ref 114), (7, .ref 113), (6, .ref 112), (5, .ref 111), (4, .ref 110), (3, .ref 109), (1, .ref 107)], none) (pc' := 40) (L' := [(0, .ref 106)]) h_m20 (z_at.mk 3 rfl rfl) rfl (by decide) rfl (Or.inl rfl) rfl rfl rfl ?_
  clear H m; intro m H
  refine w_p h_m20 2 (pc' := 42) (L' := [(0, .ref 106)]) (st' := [.int (0 : Int32), .ref 106]) rfl ?_
  refine w_pf H (12, 18, [(15, .int (0 : Int32)), (14, .int (0 : Int32)), (13, .int (0 : Int32)), (12, .int (0 : Int32)), (11, .int (0 : Int32)), (10, .int (0 : Int32)), (9, .long (0 : Int64)), (8, .int (0 : Int32)), (2, .int (0 : Int32)), (0, .ref 41), (17, .ref 116), (16, .ref 114), (7, .ref 113), (6, .ref 112), (5, .ref 111), (4, .ref 110), (3, .ref 109), (1, .ref 107)], none) (pc' := 45) (L' := [(0, .ref 106)]) h_m20 (z_at.mk 3 rfl rfl) rfl (by decide) rfl (Or.inl rfl) rfl rfl rfl ?_
  clear H m; intro m H
  refine w_rv h_m20 (z_at.mk 1 rfl rfl) rfl ?_
  show z_W 998 145 7 [(0, .ref 39), (1, .int (62 : Int32))] [] m _
  refine w_p h_m145 1 (pc' := 8) (L' := [(0, .ref 39), (1, .int (62 : Int32))]) (st' := [.ref 39]) rfl ?_
  refine w_gf H (pc' := 11) (L' := [(0, .ref 39), (1, .int (62 : Int32))]) h_m145 (z_at.mk 3 rfl rfl) rfl (u := .ref 106) rfl rfl rfl ?_
  refine w_gf H (pc' := 14) (L' := [(0, .ref 39), (1, .int (62 : Int32))]) h_m145 (z_at.mk 3 rfl rfl) rfl (u := .ref 107) rfl rfl rfl ?_
  refine w_p h_m145 1 (pc' := 15) (L' := [(0, .ref 39), (1, .int (62 : Int32))]) (st' := [.ref 39, .ref 107]) rfl ?_
  refine w_gf H (pc' := 18) (L' := [(0, .ref 39), (1, .int (62 : Int32))]) h_m145 (z_at.mk 3 rfl rfl) rfl (u := .ref 40) rfl rfl rfl ?_
  refine w_gf H (pc' := 21) (L' := [(0, .ref 39), (1, .int (62 : Int32))]) h_m145 (z_at.mk 3 rfl rfl) rfl (u := .ref 48) rfl rfl rfl ?_
  refine w_gf H (pc' := 24) (L' := [(0, .ref 39), (1, .int (62 : Int32))]) h_m145 (z_at.mk 3 rfl rfl) rfl (u := .ref 49) rfl rfl rfl ?_
  refine w_cv (H.t rfl) (pc' := 27) (L' := [(0, .ref 39), (1, .int (62 : Int32))]) (rest := []) (Ps := [.ref 49]) (L0 := [(0, .ref 107), (1, .ref 49)]) h_m145 (z_at.mk 3 rfl rfl) (Or.inl ⟨rfl, rfl⟩) rfl rfl (by decide) (by decide) rfl rfl rfl rfl rfl rfl (by decide) rfl rfl rfl ?_
  refine w_p h_m74 1 (pc' := 1) (L' := [(0, .ref 107), (1, .ref 49)]) (st' := [.ref 49]) rfl ?_
  refine w_gf H (pc' := 4) (L' := [(0, .ref 107), (1, .ref 49)]) h_m74 (z_at.mk 3 rfl rfl) rfl (u := .ref 50) rfl rfl rfl ?_
  refine w_p h_m74 2 (pc' := 6) (L' := [(0, .ref 107), (1, .ref 49)]) (st' := [.ref 107, .int (0 : Int32), .ref 50]) rfl ?_
  refine w_gf H (pc' := 9) (L' := [(0, .ref 107), (1, .ref 49)]) h_m74 (z_at.mk 3 rfl rfl) rfl (u := .ref 108) rfl rfl rfl ?_
  refine w_p h_m74 2 (pc' := 12) (L' := [(0, .ref 107), (1, .ref 49)]) (st' := [.int (7 : Int32), .int (0 : Int32), .ref 108, .int (0 : Int32), .ref 50]) rfl ?_
  refine w_cpf H (ra := (0, 7, [(6, .int (1024 : Int32)), (5, .int (1 : Int32)), (4, .int (1 : Int32)), (3, .int (0 : Int32)), (2, .int (12 : Int32)), (1, .int (40 : Int32)), (0, .int (10 : Int32))], some (.int (0 : Int32)))) (pc' := 15) (L' := [(0, .ref 107), (1, .ref 49)]) h_m74 (z_at.mk 3 rfl rfl) rfl (z_cat_le 0 rfl (by decide)) rfl rfl rfl rfl (by decide) rfl rfl ?_
  clear H m; intro m H
  refine w_rv h_m74 (z_at.mk 1 rfl rfl) rfl ?_
  show z_W 998 145 27 [(0, .ref 39), (1, .int (62 : Int32))] [] m _
  refine w_p h_m145 1 (pc' := 28) (L' := [(0, .ref 39), (1, .int (62 : Int32))]) (st' := [.ref 39]) rfl ?_
  refine w_gf H (pc' := 31) (L' := [(0, .ref 39), (1, .int (62 : Int32))]) h_m145 (z_at.mk 3 rfl rfl) rfl (u := .ref 106) rfl rfl rfl ?_
  refine w_gf H (pc' := 34) (L' := [(0, .ref 39), (1, .int (62 : Int32))]) h_m145 (z_at.mk 3 rfl rfl) rfl (u := .ref 107) rfl rfl rfl ?_
  refine w_p h_m145 2 (pc' := 36) (L' := [(0, .ref 39), (1, .int (62 : Int32))]) (st' := [.int (62 : Int32), .int (1 : Int32), .ref 107]) rfl ?_
  refine w_cv (H.t rfl) (pc' := 39) (L' := [(0, .ref 39), (1, .int (62 : Int32))]) (rest := []) (Ps := [.int (1 : Int32), .int (62 : Int32)]) (L0 := [(0, .ref 107), (1, .int (1 : Int32)), (2, .int (62 : Int32))]) h_m145 (z_at.mk 3 rfl rfl) (Or.inl ⟨rfl, rfl⟩) rfl rfl (by decide) (by decide) rfl rfl rfl rfl rfl rfl (by decide) rfl rfl rfl ?_
  refine w_p h_m73 6 (pc' := 11) (L' := [(0, .ref 107), (1, .int (1 : Int32)), (2, .int (62 : Int32))]) (st' := [.ref 107]) rfl ?_
  refine w_gf H (pc' := 14) (L' := [(0, .ref 107), (1, .int (1 : Int32)), (2, .int (62 : Int32))]) h_m73 (z_at.mk 3 rfl rfl) rfl (u := .ref 108) rfl rfl rfl ?_
  refine w_p h_m73 2 (pc' := 16) (L' := [(0, .ref 107), (1, .int (1 : Int32)), (2, .int (62 : Int32))]) (st' := [.int (62 : Int32), .int (1 : Int32), .ref 108]) rfl ?_
  refine w_as H (t := 0) (j := 1) (u := .int (62 : Int32)) (0, 7, [(1, .int (62 : Int32)), (6, .int (1024 : Int32)), (5, .int (1 : Int32)), (4, .int (1 : Int32)), (3, .int (0 : Int32)), (2, .int (12 : Int32)), (0, .int (10 : Int32))], some (.int (0 : Int32))) (pc' := 17) (L' := []) h_m73 (z_at.mk 1 rfl rfl) rfl rfl (w_ui _ _ (by decide)) rfl rfl rfl rfl ?_
  clear H m; intro m H
  refine w_rv h_m73 (z_at.mk 1 rfl rfl) rfl ?_
  show z_W 998 145 39 [(0, .ref 39), (1, .int (62 : Int32))] [] m _
  refine w_p h_m145 4 (pc' := 43) (L' := [(0, .ref 39), (2, .int (0 : Int32))]) (st' := [.ref 39, .int (0 : Int32)]) rfl ?_
  refine w_gf H (pc' := 46) (L' := [(0, .ref 39), (2, .int (0 : Int32))]) h_m145 (z_at.mk 3 rfl rfl) rfl (u := .ref 40) rfl rfl rfl ?_
  refine w_gf H (pc' := 49) (L' := [(0, .ref 39), (2, .int (0 : Int32))]) h_m145 (z_at.mk 3 rfl rfl) rfl (u := .ref 63) rfl rfl rfl ?_
  refine w_gf H (pc' := 52) (L' := [(0, .ref 39), (2, .int (0 : Int32))]) h_m145 (z_at.mk 3 rfl rfl) rfl (u := .int (0 : Int32)) rfl rfl rfl ?_
  refine w_p h_m145 1 (pc' := 79) (L' := [(0, .ref 39), (2, .int (0 : Int32))]) (st' := []) rfl ?_
  refine w_rv h_m145 (z_at.mk 1 rfl rfl) rfl ?_
  show z_W 999 146 13 [(0, .ref 39), (1, .int (xs 1)), (2, .int (62 : Int32))] [] m _
  refine w_p h_m146 1 (pc' := 14) (L' := [(0, .ref 39), (1, .int (xs 1)), (2, .int (62 : Int32))]) (st' := [.ref 39]) rfl ?_
  refine w_gf H (pc' := 17) (L' := [(0, .ref 39), (1, .int (xs 1)), (2, .int (62 : Int32))]) h_m146 (z_at.mk 3 rfl rfl) rfl (u := .ref 106) rfl rfl rfl ?_
  refine w_gf H (pc' := 20) (L' := [(0, .ref 39), (1, .int (xs 1)), (2, .int (62 : Int32))]) h_m146 (z_at.mk 3 rfl rfl) rfl (u := .int (0 : Int32)) rfl rfl rfl ?_
  refine w_p h_m146 1 (pc' := 21) (L' := [(0, .ref 39), (1, .int (xs 1)), (2, .int (62 : Int32))]) (st' := [.int (xs 1), .int (0 : Int32)]) rfl ?_
  refine w_t2 (pc' := 26) (L' := [(0, .ref 39), (1, .int (xs 1)), (2, .int (62 : Int32))]) h_m146 (z_at.mk 3 rfl rfl) rfl (zc (a := 0) (b := (xs 1).toInt) rfl rfl (decide_eq_true (by omega))) rfl rfl ?_
  refine w_p h_m146 2 (pc' := 2) (L' := [(0, .ref 39), (1, .int (xs 1)), (2, .int (63 : Int32))]) (st' := []) rfl ?_
  exact hQ m (H.subC (by decide +kernel))
set_option maxHeartbeats 400000000 in
set_option maxRecDepth 20000 in
theorem w_turn_146_63 {xs : Nat → Int32} {m : zM} {Q : Option Value → zM → Prop} (hp : (xs 1).toInt < 0) (H : w_ok 6 xs 168 63950 ((106, (12, 18, [(15, .int (0 : Int32)), (14, .int (0 : Int32)), (13, .int (0 : Int32)), (12, .int (0 : Int32)), (11, .int (0 : Int32)), (10, .int (0 : Int32)), (9, .long (0 : Int64)), (8, .int (0 : Int32)), (2, .int (0 : Int32)), (0, .ref 41), (17, .ref 116), (16, .ref 114), (7, .ref 113), (6, .ref 112), (5, .ref 111), (4, .ref 110), (3, .ref 109), (1, .ref 107)], none)) :: (108, (0, 7, [(1, .int (62 : Int32)), (6, .int (1024 : Int32)), (5, .int (1 : Int32)), (4, .int (1 : Int32)), (3, .int (0 : Int32)), (2, .int (12 : Int32)), (0, .int (10 : Int32))], some (.int (0 : Int32)))) :: w_T0) m) (hQ : ∀ m, w_ok 6 xs 168 63950 ((106, (12, 18, [(15, .int (0 : Int32)), (14, .int (0 : Int32)), (13, .int (0 : Int32)), (12, .int (0 : Int32)), (11, .int (0 : Int32)), (10, .int (0 : Int32)), (9, .long (0 : Int64)), (8, .int (0 : Int32)), (2, .int (0 : Int32)), (0, .ref 41), (17, .ref 116), (16, .ref 114), (7, .ref 113), (6, .ref 112), (5, .ref 111), (4, .ref 110), (3, .ref 109), (1, .ref 107)], none)) :: (108, (0, 7, [(1, .int (63 : Int32)), (6, .int (1024 : Int32)), (5, .int (1 : Int32)), (4, .int (1 : Int32)), (3, .int (0 : Int32)), (2, .int (12 : Int32)), (0, .int (10 : Int32))], some (.int (0 : Int32)))) :: w_T0) m → z_W 999 146 2 [(0, .ref 39), (1, .int (xs 1)), (2, .int (64 : Int32))] [] m Q) : z_W 999 146 2 [(0, .ref 39), (1, .int (xs 1)), (2, .int (63 : Int32))] [] m Q := by
  refine w_p h_m146 5 (pc' := 10) (L' := [(0, .ref 39), (1, .int (xs 1)), (2, .int (63 : Int32))]) (st' := [.int (63 : Int32), .ref 39]) rfl ?_
  refine w_cv (H.t rfl) (pc' := 13) (L' := [(0, .ref 39), (1, .int (xs 1)), (2, .int (63 : Int32))]) (rest := []) (Ps := [.int (63 : Int32)]) (L0 := [(0, .ref 39), (1, .int (63 : Int32))]) h_m146 (z_at.mk 3 rfl rfl) (Or.inl ⟨rfl, rfl⟩) rfl rfl (by decide) (by decide) rfl rfl rfl rfl rfl rfl (by decide) rfl rfl rfl ?_
  refine w_p h_m145 1 (pc' := 1) (L' := [(0, .ref 39), (1, .int (63 : Int32))]) (st' := [.ref 39]) rfl ?_
  refine w_gf H (pc' := 4) (L' := [(0, .ref 39), (1, .int (63 : Int32))]) h_m145 (z_at.mk 3 rfl rfl) rfl (u := .ref 106) rfl rfl rfl ?_
  refine w_cv (H.t rfl) (pc' := 7) (L' := [(0, .ref 39), (1, .int (63 : Int32))]) (rest := []) (Ps := []) (L0 := [(0, .ref 106)]) h_m145 (z_at.mk 3 rfl rfl) (Or.inl ⟨rfl, rfl⟩) rfl rfl (by decide) (by decide) rfl rfl rfl rfl rfl rfl (by decide) rfl rfl rfl ?_
  refine w_p h_m20 2 (pc' := 2) (L' := [(0, .ref 106)]) (st' := [.int (0 : Int32), .ref 106]) rfl ?_
  refine w_pf H (12, 18, [(2, .int (0 : Int32)), (15, .int (0 : Int32)), (14, .int (0 : Int32)), (13, .int (0 : Int32)), (12, .int (0 : Int32)), (11, .int (0 : Int32)), (10, .int (0 : Int32)), (9, .long (0 : Int64)), (8, .int (0 : Int32)), (0, .ref 41), (17, .ref 116), (16, .ref 114), (7, .ref 113), (6, .ref 112), (5, .ref 111), (4, .ref 110), (3, .ref 109), (1, .ref 107)], none) (pc' := 5) (L' := [(0, .ref 106)]) h_m20 (z_at.mk 3 rfl rfl) rfl (by decide) rfl (Or.inl rfl) rfl rfl rfl ?_
  clear H m; intro m H
  refine w_p h_m20 2 (pc' := 7) (L' := [(0, .ref 106)]) (st' := [.int (0 : Int32), .ref 106]) rfl ?_
  refine w_pf H (12, 18, [(8, .int (0 : Int32)), (2, .int (0 : Int32)), (15, .int (0 : Int32)), (14, .int (0 : Int32)), (13, .int (0 : Int32)), (12, .int (0 : Int32)), (11, .int (0 : Int32)), (10, .int (0 : Int32)), (9, .long (0 : Int64)), (0, .ref 41), (17, .ref 116), (16, .ref 114), (7, .ref 113), (6, .ref 112), (5, .ref 111), (4, .ref 110), (3, .ref 109), (1, .ref 107)], none) (pc' := 10) (L' := [(0, .ref 106)]) h_m20 (z_at.mk 3 rfl rfl) rfl (by decide) rfl (Or.inl rfl) rfl rfl rfl ?_
  clear H m; intro m H
  refine w_p h_m20 2 (pc' := 12) (L' := [(0, .ref 106)]) (st' := [.long (0 : Int64), .ref 106]) rfl ?_
  refine w_pf H (12, 18, [(9, .long (0 : Int64)), (8, .int (0 : Int32)), (2, .int (0 : Int32)), (15, .int (0 : Int32)), (14, .int (0 : Int32)), (13, .int (0 : Int32)), (12, .int (0 : Int32)), (11, .int (0 : Int32)), (10, .int (0 : Int32)), (0, .ref 41), (17, .ref 116), (16, .ref 114), (7, .ref 113), (6, .ref 112), (5, .ref 111), (4, .ref 110), (3, .ref 109), (1, .ref 107)], none) (pc' := 15) (L' := [(0, .ref 106)]) h_m20 (z_at.mk 3 rfl rfl) rfl (by decide) rfl (Or.inl rfl) rfl rfl rfl ?_
  clear H m; intro m H
  refine w_p h_m20 2 (pc' := 17) (L' := [(0, .ref 106)]) (st' := [.int (0 : Int32), .ref 106]) rfl ?_
  refine w_pf H (12, 18, [(10, .int (0 : Int32)), (9, .long (0 : Int64)), (8, .int (0 : Int32)), (2, .int (0 : Int32)), (15, .int (0 : Int32)), (14, .int (0 : Int32)), (13, .int (0 : Int32)), (12, .int (0 : Int32)), (11, .int (0 : Int32)), (0, .ref 41), (17, .ref 116), (16, .ref 114), (7, .ref 113), (6, .ref 112), (5, .ref 111), (4, .ref 110), (3, .ref 109), (1, .ref 107)], none) (pc' := 20) (L' := [(0, .ref 106)]) h_m20 (z_at.mk 3 rfl rfl) rfl (by decide) rfl (Or.inl rfl) rfl rfl rfl ?_
  clear H m; intro m H
  refine w_p h_m20 2 (pc' := 22) (L' := [(0, .ref 106)]) (st' := [.int (0 : Int32), .ref 106]) rfl ?_
  refine w_pf H (12, 18, [(11, .int (0 : Int32)), (10, .int (0 : Int32)), (9, .long (0 : Int64)), (8, .int (0 : Int32)), (2, .int (0 : Int32)), (15, .int (0 : Int32)), (14, .int (0 : Int32)), (13, .int (0 : Int32)), (12, .int (0 : Int32)), (0, .ref 41), (17, .ref 116), (16, .ref 114), (7, .ref 113), (6, .ref 112), (5, .ref 111), (4, .ref 110), (3, .ref 109), (1, .ref 107)], none) (pc' := 25) (L' := [(0, .ref 106)]) h_m20 (z_at.mk 3 rfl rfl) rfl (by decide) rfl (Or.inl rfl) rfl rfl rfl ?_
  clear H m; intro m H
  refine w_p h_m20 2 (pc' := 27) (L' := [(0, .ref 106)]) (st' := [.int (0 : Int32), .ref 106]) rfl ?_
  refine w_pf H (12, 18, [(12, .int (0 : Int32)), (11, .int (0 : Int32)), (10, .int (0 : Int32)), (9, .long (0 : Int64)), (8, .int (0 : Int32)), (2, .int (0 : Int32)), (15, .int (0 : Int32)), (14, .int (0 : Int32)), (13, .int (0 : Int32)), (0, .ref 41), (17, .ref 116), (16, .ref 114), (7, .ref 113), (6, .ref 112), (5, .ref 111), (4, .ref 110), (3, .ref 109), (1, .ref 107)], none) (pc' := 30) (L' := [(0, .ref 106)]) h_m20 (z_at.mk 3 rfl rfl) rfl (by decide) rfl (Or.inl rfl) rfl rfl rfl ?_
  clear H m; intro m H
  refine w_p h_m20 2 (pc' := 32) (L' := [(0, .ref 106)]) (st' := [.int (0 : Int32), .ref 106]) rfl ?_
  refine w_pf H (12, 18, [(13, .int (0 : Int32)), (12, .int (0 : Int32)), (11, .int (0 : Int32)), (10, .int (0 : Int32)), (9, .long (0 : Int64)), (8, .int (0 : Int32)), (2, .int (0 : Int32)), (15, .int (0 : Int32)), (14, .int (0 : Int32)), (0, .ref 41), (17, .ref 116), (16, .ref 114), (7, .ref 113), (6, .ref 112), (5, .ref 111), (4, .ref 110), (3, .ref 109), (1, .ref 107)], none) (pc' := 35) (L' := [(0, .ref 106)]) h_m20 (z_at.mk 3 rfl rfl) rfl (by decide) rfl (Or.inl rfl) rfl rfl rfl ?_
  clear H m; intro m H
  refine w_p h_m20 2 (pc' := 37) (L' := [(0, .ref 106)]) (st' := [.int (0 : Int32), .ref 106]) rfl ?_
  refine w_pf H (12, 18, [(14, .int (0 : Int32)), (13, .int (0 : Int32)), (12, .int (0 : Int32)), (11, .int (0 : Int32)), (10, .int (0 : Int32)), (9, .long (0 : Int64)), (8, .int (0 : Int32)), (2, .int (0 : Int32)), (15, .int (0 : Int32)), (0, .ref 41), (17, .ref 116), (16, .ref 114), (7, .ref 113), (6, .ref 112), (5, .ref 111), (4, .ref 110), (3, .ref 109), (1, .ref 107)], none) (pc' := 40) (L' := [(0, .ref 106)]) h_m20 (z_at.mk 3 rfl rfl) rfl (by decide) rfl (Or.inl rfl) rfl rfl rfl ?_
  clear H m; intro m H
  refine w_p h_m20 2 (pc' := 42) (L' := [(0, .ref 106)]) (st' := [.int (0 : Int32), .ref 106]) rfl ?_
  refine w_pf H (12, 18, [(15, .int (0 : Int32)), (14, .int (0 : Int32)), (13, .int (0 : Int32)), (12, .int (0 : Int32)), (11, .int (0 : Int32)), (10, .int (0 : Int32)), (9, .long (0 : Int64)), (8, .int (0 : Int32)), (2, .int (0 : Int32)), (0, .ref 41), (17, .ref 116), (16, .ref 114), (7, .ref 113), (6, .ref 112), (5, .ref 111), (4, .ref 110), (3, .ref 109), (1, .ref 107)], none) (pc' := 45) (L' := [(0, .ref 106)]) h_m20 (z_at.mk 3 rfl rfl) rfl (by decide) rfl (Or.inl rfl) rfl rfl rfl ?_
  clear H m; intro m H
  refine w_rv h_m20 (z_at.mk 1 rfl rfl) rfl ?_
  show z_W 998 145 7 [(0, .ref 39), (1, .int (63 : Int32))] [] m _
  refine w_p h_m145 1 (pc' := 8) (L' := [(0, .ref 39), (1, .int (63 : Int32))]) (st' := [.ref 39]) rfl ?_
  refine w_gf H (pc' := 11) (L' := [(0, .ref 39), (1, .int (63 : Int32))]) h_m145 (z_at.mk 3 rfl rfl) rfl (u := .ref 106) rfl rfl rfl ?_
  refine w_gf H (pc' := 14) (L' := [(0, .ref 39), (1, .int (63 : Int32))]) h_m145 (z_at.mk 3 rfl rfl) rfl (u := .ref 107) rfl rfl rfl ?_
  refine w_p h_m145 1 (pc' := 15) (L' := [(0, .ref 39), (1, .int (63 : Int32))]) (st' := [.ref 39, .ref 107]) rfl ?_
  refine w_gf H (pc' := 18) (L' := [(0, .ref 39), (1, .int (63 : Int32))]) h_m145 (z_at.mk 3 rfl rfl) rfl (u := .ref 40) rfl rfl rfl ?_
  refine w_gf H (pc' := 21) (L' := [(0, .ref 39), (1, .int (63 : Int32))]) h_m145 (z_at.mk 3 rfl rfl) rfl (u := .ref 48) rfl rfl rfl ?_
  refine w_gf H (pc' := 24) (L' := [(0, .ref 39), (1, .int (63 : Int32))]) h_m145 (z_at.mk 3 rfl rfl) rfl (u := .ref 49) rfl rfl rfl ?_
  refine w_cv (H.t rfl) (pc' := 27) (L' := [(0, .ref 39), (1, .int (63 : Int32))]) (rest := []) (Ps := [.ref 49]) (L0 := [(0, .ref 107), (1, .ref 49)]) h_m145 (z_at.mk 3 rfl rfl) (Or.inl ⟨rfl, rfl⟩) rfl rfl (by decide) (by decide) rfl rfl rfl rfl rfl rfl (by decide) rfl rfl rfl ?_
  refine w_p h_m74 1 (pc' := 1) (L' := [(0, .ref 107), (1, .ref 49)]) (st' := [.ref 49]) rfl ?_
  refine w_gf H (pc' := 4) (L' := [(0, .ref 107), (1, .ref 49)]) h_m74 (z_at.mk 3 rfl rfl) rfl (u := .ref 50) rfl rfl rfl ?_
  refine w_p h_m74 2 (pc' := 6) (L' := [(0, .ref 107), (1, .ref 49)]) (st' := [.ref 107, .int (0 : Int32), .ref 50]) rfl ?_
  refine w_gf H (pc' := 9) (L' := [(0, .ref 107), (1, .ref 49)]) h_m74 (z_at.mk 3 rfl rfl) rfl (u := .ref 108) rfl rfl rfl ?_
  refine w_p h_m74 2 (pc' := 12) (L' := [(0, .ref 107), (1, .ref 49)]) (st' := [.int (7 : Int32), .int (0 : Int32), .ref 108, .int (0 : Int32), .ref 50]) rfl ?_
  refine w_cpf H (ra := (0, 7, [(6, .int (1024 : Int32)), (5, .int (1 : Int32)), (4, .int (1 : Int32)), (3, .int (0 : Int32)), (2, .int (12 : Int32)), (1, .int (40 : Int32)), (0, .int (10 : Int32))], some (.int (0 : Int32)))) (pc' := 15) (L' := [(0, .ref 107), (1, .ref 49)]) h_m74 (z_at.mk 3 rfl rfl) rfl (z_cat_le 0 rfl (by decide)) rfl rfl rfl rfl (by decide) rfl rfl ?_
  clear H m; intro m H
  refine w_rv h_m74 (z_at.mk 1 rfl rfl) rfl ?_
  show z_W 998 145 27 [(0, .ref 39), (1, .int (63 : Int32))] [] m _
  refine w_p h_m145 1 (pc' := 28) (L' := [(0, .ref 39), (1, .int (63 : Int32))]) (st' := [.ref 39]) rfl ?_
  refine w_gf H (pc' := 31) (L' := [(0, .ref 39), (1, .int (63 : Int32))]) h_m145 (z_at.mk 3 rfl rfl) rfl (u := .ref 106) rfl rfl rfl ?_
  refine w_gf H (pc' := 34) (L' := [(0, .ref 39), (1, .int (63 : Int32))]) h_m145 (z_at.mk 3 rfl rfl) rfl (u := .ref 107) rfl rfl rfl ?_
  refine w_p h_m145 2 (pc' := 36) (L' := [(0, .ref 39), (1, .int (63 : Int32))]) (st' := [.int (63 : Int32), .int (1 : Int32), .ref 107]) rfl ?_
  refine w_cv (H.t rfl) (pc' := 39) (L' := [(0, .ref 39), (1, .int (63 : Int32))]) (rest := []) (Ps := [.int (1 : Int32), .int (63 : Int32)]) (L0 := [(0, .ref 107), (1, .int (1 : Int32)), (2, .int (63 : Int32))]) h_m145 (z_at.mk 3 rfl rfl) (Or.inl ⟨rfl, rfl⟩) rfl rfl (by decide) (by decide) rfl rfl rfl rfl rfl rfl (by decide) rfl rfl rfl ?_
  refine w_p h_m73 6 (pc' := 11) (L' := [(0, .ref 107), (1, .int (1 : Int32)), (2, .int (63 : Int32))]) (st' := [.ref 107]) rfl ?_
  refine w_gf H (pc' := 14) (L' := [(0, .ref 107), (1, .int (1 : Int32)), (2, .int (63 : Int32))]) h_m73 (z_at.mk 3 rfl rfl) rfl (u := .ref 108) rfl rfl rfl ?_
  refine w_p h_m73 2 (pc' := 16) (L' := [(0, .ref 107), (1, .int (1 : Int32)), (2, .int (63 : Int32))]) (st' := [.int (63 : Int32), .int (1 : Int32), .ref 108]) rfl ?_
  refine w_as H (t := 0) (j := 1) (u := .int (63 : Int32)) (0, 7, [(1, .int (63 : Int32)), (6, .int (1024 : Int32)), (5, .int (1 : Int32)), (4, .int (1 : Int32)), (3, .int (0 : Int32)), (2, .int (12 : Int32)), (0, .int (10 : Int32))], some (.int (0 : Int32))) (pc' := 17) (L' := []) h_m73 (z_at.mk 1 rfl rfl) rfl rfl (w_ui _ _ (by decide)) rfl rfl rfl rfl ?_
  clear H m; intro m H
  refine w_rv h_m73 (z_at.mk 1 rfl rfl) rfl ?_
  show z_W 998 145 39 [(0, .ref 39), (1, .int (63 : Int32))] [] m _
  refine w_p h_m145 4 (pc' := 43) (L' := [(0, .ref 39), (2, .int (0 : Int32))]) (st' := [.ref 39, .int (0 : Int32)]) rfl ?_
  refine w_gf H (pc' := 46) (L' := [(0, .ref 39), (2, .int (0 : Int32))]) h_m145 (z_at.mk 3 rfl rfl) rfl (u := .ref 40) rfl rfl rfl ?_
  refine w_gf H (pc' := 49) (L' := [(0, .ref 39), (2, .int (0 : Int32))]) h_m145 (z_at.mk 3 rfl rfl) rfl (u := .ref 63) rfl rfl rfl ?_
  refine w_gf H (pc' := 52) (L' := [(0, .ref 39), (2, .int (0 : Int32))]) h_m145 (z_at.mk 3 rfl rfl) rfl (u := .int (0 : Int32)) rfl rfl rfl ?_
  refine w_p h_m145 1 (pc' := 79) (L' := [(0, .ref 39), (2, .int (0 : Int32))]) (st' := []) rfl ?_
  refine w_rv h_m145 (z_at.mk 1 rfl rfl) rfl ?_
  show z_W 999 146 13 [(0, .ref 39), (1, .int (xs 1)), (2, .int (63 : Int32))] [] m _
  refine w_p h_m146 1 (pc' := 14) (L' := [(0, .ref 39), (1, .int (xs 1)), (2, .int (63 : Int32))]) (st' := [.ref 39]) rfl ?_
  refine w_gf H (pc' := 17) (L' := [(0, .ref 39), (1, .int (xs 1)), (2, .int (63 : Int32))]) h_m146 (z_at.mk 3 rfl rfl) rfl (u := .ref 106) rfl rfl rfl ?_
  refine w_gf H (pc' := 20) (L' := [(0, .ref 39), (1, .int (xs 1)), (2, .int (63 : Int32))]) h_m146 (z_at.mk 3 rfl rfl) rfl (u := .int (0 : Int32)) rfl rfl rfl ?_
  refine w_p h_m146 1 (pc' := 21) (L' := [(0, .ref 39), (1, .int (xs 1)), (2, .int (63 : Int32))]) (st' := [.int (xs 1), .int (0 : Int32)]) rfl ?_
  refine w_t2 (pc' := 26) (L' := [(0, .ref 39), (1, .int (xs 1)), (2, .int (63 : Int32))]) h_m146 (z_at.mk 3 rfl rfl) rfl (zc (a := 0) (b := (xs 1).toInt) rfl rfl (decide_eq_true (by omega))) rfl rfl ?_
  refine w_p h_m146 2 (pc' := 2) (L' := [(0, .ref 39), (1, .int (xs 1)), (2, .int (64 : Int32))]) (st' := []) rfl ?_
  exact hQ m (H.subC (by decide +kernel))
set_option maxHeartbeats 400000000 in
set_option maxRecDepth 20000 in
theorem w_turn_146_64 {xs : Nat → Int32} {m : zM} {Q : Option Value → zM → Prop} (hp : (xs 1).toInt < 0) (H : w_ok 6 xs 168 63950 ((106, (12, 18, [(15, .int (0 : Int32)), (14, .int (0 : Int32)), (13, .int (0 : Int32)), (12, .int (0 : Int32)), (11, .int (0 : Int32)), (10, .int (0 : Int32)), (9, .long (0 : Int64)), (8, .int (0 : Int32)), (2, .int (0 : Int32)), (0, .ref 41), (17, .ref 116), (16, .ref 114), (7, .ref 113), (6, .ref 112), (5, .ref 111), (4, .ref 110), (3, .ref 109), (1, .ref 107)], none)) :: (108, (0, 7, [(1, .int (63 : Int32)), (6, .int (1024 : Int32)), (5, .int (1 : Int32)), (4, .int (1 : Int32)), (3, .int (0 : Int32)), (2, .int (12 : Int32)), (0, .int (10 : Int32))], some (.int (0 : Int32)))) :: w_T0) m) (hQ : ∀ m, w_ok 6 xs 168 63950 ((106, (12, 18, [(15, .int (0 : Int32)), (14, .int (0 : Int32)), (13, .int (0 : Int32)), (12, .int (0 : Int32)), (11, .int (0 : Int32)), (10, .int (0 : Int32)), (9, .long (0 : Int64)), (8, .int (0 : Int32)), (2, .int (0 : Int32)), (0, .ref 41), (17, .ref 116), (16, .ref 114), (7, .ref 113), (6, .ref 112), (5, .ref 111), (4, .ref 110), (3, .ref 109), (1, .ref 107)], none)) :: (108, (0, 7, [(1, .int (64 : Int32)), (6, .int (1024 : Int32)), (5, .int (1 : Int32)), (4, .int (1 : Int32)), (3, .int (0 : Int32)), (2, .int (12 : Int32)), (0, .int (10 : Int32))], some (.int (0 : Int32)))) :: w_T0) m → z_W 999 146 2 [(0, .ref 39), (1, .int (xs 1)), (2, .int (65 : Int32))] [] m Q) : z_W 999 146 2 [(0, .ref 39), (1, .int (xs 1)), (2, .int (64 : Int32))] [] m Q := by
  refine w_p h_m146 5 (pc' := 10) (L' := [(0, .ref 39), (1, .int (xs 1)), (2, .int (64 : Int32))]) (st' := [.int (64 : Int32), .ref 39]) rfl ?_
  refine w_cv (H.t rfl) (pc' := 13) (L' := [(0, .ref 39), (1, .int (xs 1)), (2, .int (64 : Int32))]) (rest := []) (Ps := [.int (64 : Int32)]) (L0 := [(0, .ref 39), (1, .int (64 : Int32))]) h_m146 (z_at.mk 3 rfl rfl) (Or.inl ⟨rfl, rfl⟩) rfl rfl (by decide) (by decide) rfl rfl rfl rfl rfl rfl (by decide) rfl rfl rfl ?_
  refine w_p h_m145 1 (pc' := 1) (L' := [(0, .ref 39), (1, .int (64 : Int32))]) (st' := [.ref 39]) rfl ?_
  refine w_gf H (pc' := 4) (L' := [(0, .ref 39), (1, .int (64 : Int32))]) h_m145 (z_at.mk 3 rfl rfl) rfl (u := .ref 106) rfl rfl rfl ?_
  refine w_cv (H.t rfl) (pc' := 7) (L' := [(0, .ref 39), (1, .int (64 : Int32))]) (rest := []) (Ps := []) (L0 := [(0, .ref 106)]) h_m145 (z_at.mk 3 rfl rfl) (Or.inl ⟨rfl, rfl⟩) rfl rfl (by decide) (by decide) rfl rfl rfl rfl rfl rfl (by decide) rfl rfl rfl ?_
  refine w_p h_m20 2 (pc' := 2) (L' := [(0, .ref 106)]) (st' := [.int (0 : Int32), .ref 106]) rfl ?_
  refine w_pf H (12, 18, [(2, .int (0 : Int32)), (15, .int (0 : Int32)), (14, .int (0 : Int32)), (13, .int (0 : Int32)), (12, .int (0 : Int32)), (11, .int (0 : Int32)), (10, .int (0 : Int32)), (9, .long (0 : Int64)), (8, .int (0 : Int32)), (0, .ref 41), (17, .ref 116), (16, .ref 114), (7, .ref 113), (6, .ref 112), (5, .ref 111), (4, .ref 110), (3, .ref 109), (1, .ref 107)], none) (pc' := 5) (L' := [(0, .ref 106)]) h_m20 (z_at.mk 3 rfl rfl) rfl (by decide) rfl (Or.inl rfl) rfl rfl rfl ?_
  clear H m; intro m H
  refine w_p h_m20 2 (pc' := 7) (L' := [(0, .ref 106)]) (st' := [.int (0 : Int32), .ref 106]) rfl ?_
  refine w_pf H (12, 18, [(8, .int (0 : Int32)), (2, .int (0 : Int32)), (15, .int (0 : Int32)), (14, .int (0 : Int32)), (13, .int (0 : Int32)), (12, .int (0 : Int32)), (11, .int (0 : Int32)), (10, .int (0 : Int32)), (9, .long (0 : Int64)), (0, .ref 41), (17, .ref 116), (16, .ref 114), (7, .ref 113), (6, .ref 112), (5, .ref 111), (4, .ref 110), (3, .ref 109), (1, .ref 107)], none) (pc' := 10) (L' := [(0, .ref 106)]) h_m20 (z_at.mk 3 rfl rfl) rfl (by decide) rfl (Or.inl rfl) rfl rfl rfl ?_
  clear H m; intro m H
  refine w_p h_m20 2 (pc' := 12) (L' := [(0, .ref 106)]) (st' := [.long (0 : Int64), .ref 106]) rfl ?_
  refine w_pf H (12, 18, [(9, .long (0 : Int64)), (8, .int (0 : Int32)), (2, .int (0 : Int32)), (15, .int (0 : Int32)), (14, .int (0 : Int32)), (13, .int (0 : Int32)), (12, .int (0 : Int32)), (11, .int (0 : Int32)), (10, .int (0 : Int32)), (0, .ref 41), (17, .ref 116), (16, .ref 114), (7, .ref 113), (6, .ref 112), (5, .ref 111), (4, .ref 110), (3, .ref 109), (1, .ref 107)], none) (pc' := 15) (L' := [(0, .ref 106)]) h_m20 (z_at.mk 3 rfl rfl) rfl (by decide) rfl (Or.inl rfl) rfl rfl rfl ?_
  clear H m; intro m H
  refine w_p h_m20 2 (pc' := 17) (L' := [(0, .ref 106)]) (st' := [.int (0 : Int32), .ref 106]) rfl ?_
  refine w_pf H (12, 18, [(10, .int (0 : Int32)), (9, .long (0 : Int64)), (8, .int (0 : Int32)), (2, .int (0 : Int32)), (15, .int (0 : Int32)), (14, .int (0 : Int32)), (13, .int (0 : Int32)), (12, .int (0 : Int32)), (11, .int (0 : Int32)), (0, .ref 41), (17, .ref 116), (16, .ref 114), (7, .ref 113), (6, .ref 112), (5, .ref 111), (4, .ref 110), (3, .ref 109), (1, .ref 107)], none) (pc' := 20) (L' := [(0, .ref 106)]) h_m20 (z_at.mk 3 rfl rfl) rfl (by decide) rfl (Or.inl rfl) rfl rfl rfl ?_
  clear H m; intro m H
  refine w_p h_m20 2 (pc' := 22) (L' := [(0, .ref 106)]) (st' := [.int (0 : Int32), .ref 106]) rfl ?_
  refine w_pf H (12, 18, [(11, .int (0 : Int32)), (10, .int (0 : Int32)), (9, .long (0 : Int64)), (8, .int (0 : Int32)), (2, .int (0 : Int32)), (15, .int (0 : Int32)), (14, .int (0 : Int32)), (13, .int (0 : Int32)), (12, .int (0 : Int32)), (0, .ref 41), (17, .ref 116), (16, .ref 114), (7, .ref 113), (6, .ref 112), (5, .ref 111), (4, .ref 110), (3, .ref 109), (1, .ref 107)], none) (pc' := 25) (L' := [(0, .ref 106)]) h_m20 (z_at.mk 3 rfl rfl) rfl (by decide) rfl (Or.inl rfl) rfl rfl rfl ?_
  clear H m; intro m H
  refine w_p h_m20 2 (pc' := 27) (L' := [(0, .ref 106)]) (st' := [.int (0 : Int32), .ref 106]) rfl ?_
  refine w_pf H (12, 18, [(12, .int (0 : Int32)), (11, .int (0 : Int32)), (10, .int (0 : Int32)), (9, .long (0 : Int64)), (8, .int (0 : Int32)), (2, .int (0 : Int32)), (15, .int (0 : Int32)), (14, .int (0 : Int32)), (13, .int (0 : Int32)), (0, .ref 41), (17, .ref 116), (16, .ref 114), (7, .ref 113), (6, .ref 112), (5, .ref 111), (4, .ref 110), (3, .ref 109), (1, .ref 107)], none) (pc' := 30) (L' := [(0, .ref 106)]) h_m20 (z_at.mk 3 rfl rfl) rfl (by decide) rfl (Or.inl rfl) rfl rfl rfl ?_
  clear H m; intro m H
  refine w_p h_m20 2 (pc' := 32) (L' := [(0, .ref 106)]) (st' := [.int (0 : Int32), .ref 106]) rfl ?_
  refine w_pf H (12, 18, [(13, .int (0 : Int32)), (12, .int (0 : Int32)), (11, .int (0 : Int32)), (10, .int (0 : Int32)), (9, .long (0 : Int64)), (8, .int (0 : Int32)), (2, .int (0 : Int32)), (15, .int (0 : Int32)), (14, .int (0 : Int32)), (0, .ref 41), (17, .ref 116), (16, .ref 114), (7, .ref 113), (6, .ref 112), (5, .ref 111), (4, .ref 110), (3, .ref 109), (1, .ref 107)], none) (pc' := 35) (L' := [(0, .ref 106)]) h_m20 (z_at.mk 3 rfl rfl) rfl (by decide) rfl (Or.inl rfl) rfl rfl rfl ?_
  clear H m; intro m H
  refine w_p h_m20 2 (pc' := 37) (L' := [(0, .ref 106)]) (st' := [.int (0 : Int32), .ref 106]) rfl ?_
  refine w_pf H (12, 18, [(14, .int (0 : Int32)), (13, .int (0 : Int32)), (12, .int (0 : Int32)), (11, .int (0 : Int32)), (10, .int (0 : Int32)), (9, .long (0 : Int64)), (8, .int (0 : Int32)), (2, .int (0 : Int32)), (15, .int (0 : Int32)), (0, .ref 41), (17, .ref 116), (16, .ref 114), (7, .ref 113), (6, .ref 112), (5, .ref 111), (4, .ref 110), (3, .ref 109), (1, .ref 107)], none) (pc' := 40) (L' := [(0, .ref 106)]) h_m20 (z_at.mk 3 rfl rfl) rfl (by decide) rfl (Or.inl rfl) rfl rfl rfl ?_
  clear H m; intro m H
  refine w_p h_m20 2 (pc' := 42) (L' := [(0, .ref 106)]) (st' := [.int (0 : Int32), .ref 106]) rfl ?_
  refine w_pf H (12, 18, [(15, .int (0 : Int32)), (14, .int (0 : Int32)), (13, .int (0 : Int32)), (12, .int (0 : Int32)), (11, .int (0 : Int32)), (10, .int (0 : Int32)), (9, .long (0 : Int64)), (8, .int (0 : Int32)), (2, .int (0 : Int32)), (0, .ref 41), (17, .ref 116), (16, .ref 114), (7, .ref 113), (6, .ref 112), (5, .ref 111), (4, .ref 110), (3, .ref 109), (1, .ref 107)], none) (pc' := 45) (L' := [(0, .ref 106)]) h_m20 (z_at.mk 3 rfl rfl) rfl (by decide) rfl (Or.inl rfl) rfl rfl rfl ?_
  clear H m; intro m H
  refine w_rv h_m20 (z_at.mk 1 rfl rfl) rfl ?_
  show z_W 998 145 7 [(0, .ref 39), (1, .int (64 : Int32))] [] m _
  refine w_p h_m145 1 (pc' := 8) (L' := [(0, .ref 39), (1, .int (64 : Int32))]) (st' := [.ref 39]) rfl ?_
  refine w_gf H (pc' := 11) (L' := [(0, .ref 39), (1, .int (64 : Int32))]) h_m145 (z_at.mk 3 rfl rfl) rfl (u := .ref 106) rfl rfl rfl ?_
  refine w_gf H (pc' := 14) (L' := [(0, .ref 39), (1, .int (64 : Int32))]) h_m145 (z_at.mk 3 rfl rfl) rfl (u := .ref 107) rfl rfl rfl ?_
  refine w_p h_m145 1 (pc' := 15) (L' := [(0, .ref 39), (1, .int (64 : Int32))]) (st' := [.ref 39, .ref 107]) rfl ?_
  refine w_gf H (pc' := 18) (L' := [(0, .ref 39), (1, .int (64 : Int32))]) h_m145 (z_at.mk 3 rfl rfl) rfl (u := .ref 40) rfl rfl rfl ?_
  refine w_gf H (pc' := 21) (L' := [(0, .ref 39), (1, .int (64 : Int32))]) h_m145 (z_at.mk 3 rfl rfl) rfl (u := .ref 48) rfl rfl rfl ?_
  refine w_gf H (pc' := 24) (L' := [(0, .ref 39), (1, .int (64 : Int32))]) h_m145 (z_at.mk 3 rfl rfl) rfl (u := .ref 49) rfl rfl rfl ?_
  refine w_cv (H.t rfl) (pc' := 27) (L' := [(0, .ref 39), (1, .int (64 : Int32))]) (rest := []) (Ps := [.ref 49]) (L0 := [(0, .ref 107), (1, .ref 49)]) h_m145 (z_at.mk 3 rfl rfl) (Or.inl ⟨rfl, rfl⟩) rfl rfl (by decide) (by decide) rfl rfl rfl rfl rfl rfl (by decide) rfl rfl rfl ?_
  refine w_p h_m74 1 (pc' := 1) (L' := [(0, .ref 107), (1, .ref 49)]) (st' := [.ref 49]) rfl ?_
  refine w_gf H (pc' := 4) (L' := [(0, .ref 107), (1, .ref 49)]) h_m74 (z_at.mk 3 rfl rfl) rfl (u := .ref 50) rfl rfl rfl ?_
  refine w_p h_m74 2 (pc' := 6) (L' := [(0, .ref 107), (1, .ref 49)]) (st' := [.ref 107, .int (0 : Int32), .ref 50]) rfl ?_
  refine w_gf H (pc' := 9) (L' := [(0, .ref 107), (1, .ref 49)]) h_m74 (z_at.mk 3 rfl rfl) rfl (u := .ref 108) rfl rfl rfl ?_
  refine w_p h_m74 2 (pc' := 12) (L' := [(0, .ref 107), (1, .ref 49)]) (st' := [.int (7 : Int32), .int (0 : Int32), .ref 108, .int (0 : Int32), .ref 50]) rfl ?_
  refine w_cpf H (ra := (0, 7, [(6, .int (1024 : Int32)), (5, .int (1 : Int32)), (4, .int (1 : Int32)), (3, .int (0 : Int32)), (2, .int (12 : Int32)), (1, .int (40 : Int32)), (0, .int (10 : Int32))], some (.int (0 : Int32)))) (pc' := 15) (L' := [(0, .ref 107), (1, .ref 49)]) h_m74 (z_at.mk 3 rfl rfl) rfl (z_cat_le 0 rfl (by decide)) rfl rfl rfl rfl (by decide) rfl rfl ?_
  clear H m; intro m H
  refine w_rv h_m74 (z_at.mk 1 rfl rfl) rfl ?_
  show z_W 998 145 27 [(0, .ref 39), (1, .int (64 : Int32))] [] m _
  refine w_p h_m145 1 (pc' := 28) (L' := [(0, .ref 39), (1, .int (64 : Int32))]) (st' := [.ref 39]) rfl ?_
  refine w_gf H (pc' := 31) (L' := [(0, .ref 39), (1, .int (64 : Int32))]) h_m145 (z_at.mk 3 rfl rfl) rfl (u := .ref 106) rfl rfl rfl ?_
  refine w_gf H (pc' := 34) (L' := [(0, .ref 39), (1, .int (64 : Int32))]) h_m145 (z_at.mk 3 rfl rfl) rfl (u := .ref 107) rfl rfl rfl ?_
  refine w_p h_m145 2 (pc' := 36) (L' := [(0, .ref 39), (1, .int (64 : Int32))]) (st' := [.int (64 : Int32), .int (1 : Int32), .ref 107]) rfl ?_
  refine w_cv (H.t rfl) (pc' := 39) (L' := [(0, .ref 39), (1, .int (64 : Int32))]) (rest := []) (Ps := [.int (1 : Int32), .int (64 : Int32)]) (L0 := [(0, .ref 107), (1, .int (1 : Int32)), (2, .int (64 : Int32))]) h_m145 (z_at.mk 3 rfl rfl) (Or.inl ⟨rfl, rfl⟩) rfl rfl (by decide) (by decide) rfl rfl rfl rfl rfl rfl (by decide) rfl rfl rfl ?_
  refine w_p h_m73 6 (pc' := 11) (L' := [(0, .ref 107), (1, .int (1 : Int32)), (2, .int (64 : Int32))]) (st' := [.ref 107]) rfl ?_
  refine w_gf H (pc' := 14) (L' := [(0, .ref 107), (1, .int (1 : Int32)), (2, .int (64 : Int32))]) h_m73 (z_at.mk 3 rfl rfl) rfl (u := .ref 108) rfl rfl rfl ?_
  refine w_p h_m73 2 (pc' := 16) (L' := [(0, .ref 107), (1, .int (1 : Int32)), (2, .int (64 : Int32))]) (st' := [.int (64 : Int32), .int (1 : Int32), .ref 108]) rfl ?_
  refine w_as H (t := 0) (j := 1) (u := .int (64 : Int32)) (0, 7, [(1, .int (64 : Int32)), (6, .int (1024 : Int32)), (5, .int (1 : Int32)), (4, .int (1 : Int32)), (3, .int (0 : Int32)), (2, .int (12 : Int32)), (0, .int (10 : Int32))], some (.int (0 : Int32))) (pc' := 17) (L' := []) h_m73 (z_at.mk 1 rfl rfl) rfl rfl (w_ui _ _ (by decide)) rfl rfl rfl rfl ?_
  clear H m; intro m H
  refine w_rv h_m73 (z_at.mk 1 rfl rfl) rfl ?_
  show z_W 998 145 39 [(0, .ref 39), (1, .int (64 : Int32))] [] m _
  refine w_p h_m145 4 (pc' := 43) (L' := [(0, .ref 39), (2, .int (0 : Int32))]) (st' := [.ref 39, .int (0 : Int32)]) rfl ?_
  refine w_gf H (pc' := 46) (L' := [(0, .ref 39), (2, .int (0 : Int32))]) h_m145 (z_at.mk 3 rfl rfl) rfl (u := .ref 40) rfl rfl rfl ?_
  refine w_gf H (pc' := 49) (L' := [(0, .ref 39), (2, .int (0 : Int32))]) h_m145 (z_at.mk 3 rfl rfl) rfl (u := .ref 63) rfl rfl rfl ?_
  refine w_gf H (pc' := 52) (L' := [(0, .ref 39), (2, .int (0 : Int32))]) h_m145 (z_at.mk 3 rfl rfl) rfl (u := .int (0 : Int32)) rfl rfl rfl ?_
  refine w_p h_m145 1 (pc' := 79) (L' := [(0, .ref 39), (2, .int (0 : Int32))]) (st' := []) rfl ?_
  refine w_rv h_m145 (z_at.mk 1 rfl rfl) rfl ?_
  show z_W 999 146 13 [(0, .ref 39), (1, .int (xs 1)), (2, .int (64 : Int32))] [] m _
  refine w_p h_m146 1 (pc' := 14) (L' := [(0, .ref 39), (1, .int (xs 1)), (2, .int (64 : Int32))]) (st' := [.ref 39]) rfl ?_
  refine w_gf H (pc' := 17) (L' := [(0, .ref 39), (1, .int (xs 1)), (2, .int (64 : Int32))]) h_m146 (z_at.mk 3 rfl rfl) rfl (u := .ref 106) rfl rfl rfl ?_
  refine w_gf H (pc' := 20) (L' := [(0, .ref 39), (1, .int (xs 1)), (2, .int (64 : Int32))]) h_m146 (z_at.mk 3 rfl rfl) rfl (u := .int (0 : Int32)) rfl rfl rfl ?_
  refine w_p h_m146 1 (pc' := 21) (L' := [(0, .ref 39), (1, .int (xs 1)), (2, .int (64 : Int32))]) (st' := [.int (xs 1), .int (0 : Int32)]) rfl ?_
  refine w_t2 (pc' := 26) (L' := [(0, .ref 39), (1, .int (xs 1)), (2, .int (64 : Int32))]) h_m146 (z_at.mk 3 rfl rfl) rfl (zc (a := 0) (b := (xs 1).toInt) rfl rfl (decide_eq_true (by omega))) rfl rfl ?_
  refine w_p h_m146 2 (pc' := 2) (L' := [(0, .ref 39), (1, .int (xs 1)), (2, .int (65 : Int32))]) (st' := []) rfl ?_
  exact hQ m (H.subC (by decide +kernel))
set_option maxHeartbeats 400000000 in
set_option maxRecDepth 20000 in
theorem w_turn_146_65 {xs : Nat → Int32} {m : zM} {Q : Option Value → zM → Prop} (hp : (xs 1).toInt < 0) (H : w_ok 6 xs 168 63950 ((106, (12, 18, [(15, .int (0 : Int32)), (14, .int (0 : Int32)), (13, .int (0 : Int32)), (12, .int (0 : Int32)), (11, .int (0 : Int32)), (10, .int (0 : Int32)), (9, .long (0 : Int64)), (8, .int (0 : Int32)), (2, .int (0 : Int32)), (0, .ref 41), (17, .ref 116), (16, .ref 114), (7, .ref 113), (6, .ref 112), (5, .ref 111), (4, .ref 110), (3, .ref 109), (1, .ref 107)], none)) :: (108, (0, 7, [(1, .int (64 : Int32)), (6, .int (1024 : Int32)), (5, .int (1 : Int32)), (4, .int (1 : Int32)), (3, .int (0 : Int32)), (2, .int (12 : Int32)), (0, .int (10 : Int32))], some (.int (0 : Int32)))) :: w_T0) m) (hQ : ∀ m, w_ok 6 xs 168 63950 ((106, (12, 18, [(15, .int (0 : Int32)), (14, .int (0 : Int32)), (13, .int (0 : Int32)), (12, .int (0 : Int32)), (11, .int (0 : Int32)), (10, .int (0 : Int32)), (9, .long (0 : Int64)), (8, .int (0 : Int32)), (2, .int (0 : Int32)), (0, .ref 41), (17, .ref 116), (16, .ref 114), (7, .ref 113), (6, .ref 112), (5, .ref 111), (4, .ref 110), (3, .ref 109), (1, .ref 107)], none)) :: (108, (0, 7, [(1, .int (65 : Int32)), (6, .int (1024 : Int32)), (5, .int (1 : Int32)), (4, .int (1 : Int32)), (3, .int (0 : Int32)), (2, .int (12 : Int32)), (0, .int (10 : Int32))], some (.int (0 : Int32)))) :: w_T0) m → z_W 999 146 2 [(0, .ref 39), (1, .int (xs 1)), (2, .int (66 : Int32))] [] m Q) : z_W 999 146 2 [(0, .ref 39), (1, .int (xs 1)), (2, .int (65 : Int32))] [] m Q := by
  refine w_p h_m146 5 (pc' := 10) (L' := [(0, .ref 39), (1, .int (xs 1)), (2, .int (65 : Int32))]) (st' := [.int (65 : Int32), .ref 39]) rfl ?_
  refine w_cv (H.t rfl) (pc' := 13) (L' := [(0, .ref 39), (1, .int (xs 1)), (2, .int (65 : Int32))]) (rest := []) (Ps := [.int (65 : Int32)]) (L0 := [(0, .ref 39), (1, .int (65 : Int32))]) h_m146 (z_at.mk 3 rfl rfl) (Or.inl ⟨rfl, rfl⟩) rfl rfl (by decide) (by decide) rfl rfl rfl rfl rfl rfl (by decide) rfl rfl rfl ?_
  refine w_p h_m145 1 (pc' := 1) (L' := [(0, .ref 39), (1, .int (65 : Int32))]) (st' := [.ref 39]) rfl ?_
  refine w_gf H (pc' := 4) (L' := [(0, .ref 39), (1, .int (65 : Int32))]) h_m145 (z_at.mk 3 rfl rfl) rfl (u := .ref 106) rfl rfl rfl ?_
  refine w_cv (H.t rfl) (pc' := 7) (L' := [(0, .ref 39), (1, .int (65 : Int32))]) (rest := []) (Ps := []) (L0 := [(0, .ref 106)]) h_m145 (z_at.mk 3 rfl rfl) (Or.inl ⟨rfl, rfl⟩) rfl rfl (by decide) (by decide) rfl rfl rfl rfl rfl rfl (by decide) rfl rfl rfl ?_
  refine w_p h_m20 2 (pc' := 2) (L' := [(0, .ref 106)]) (st' := [.int (0 : Int32), .ref 106]) rfl ?_
  refine w_pf H (12, 18, [(2, .int (0 : Int32)), (15, .int (0 : Int32)), (14, .int (0 : Int32)), (13, .int (0 : Int32)), (12, .int (0 : Int32)), (11, .int (0 : Int32)), (10, .int (0 : Int32)), (9, .long (0 : Int64)), (8, .int (0 : Int32)), (0, .ref 41), (17, .ref 116), (16, .ref 114), (7, .ref 113), (6, .ref 112), (5, .ref 111), (4, .ref 110), (3, .ref 109), (1, .ref 107)], none) (pc' := 5) (L' := [(0, .ref 106)]) h_m20 (z_at.mk 3 rfl rfl) rfl (by decide) rfl (Or.inl rfl) rfl rfl rfl ?_
  clear H m; intro m H
  refine w_p h_m20 2 (pc' := 7) (L' := [(0, .ref 106)]) (st' := [.int (0 : Int32), .ref 106]) rfl ?_
  refine w_pf H (12, 18, [(8, .int (0 : Int32)), (2, .int (0 : Int32)), (15, .int (0 : Int32)), (14, .int (0 : Int32)), (13, .int (0 : Int32)), (12, .int (0 : Int32)), (11, .int (0 : Int32)), (10, .int (0 : Int32)), (9, .long (0 : Int64)), (0, .ref 41), (17, .ref 116), (16, .ref 114), (7, .ref 113), (6, .ref 112), (5, .ref 111), (4, .ref 110), (3, .ref 109), (1, .ref 107)], none) (pc' := 10) (L' := [(0, .ref 106)]) h_m20 (z_at.mk 3 rfl rfl) rfl (by decide) rfl (Or.inl rfl) rfl rfl rfl ?_
  clear H m; intro m H
  refine w_p h_m20 2 (pc' := 12) (L' := [(0, .ref 106)]) (st' := [.long (0 : Int64), .ref 106]) rfl ?_
  refine w_pf H (12, 18, [(9, .long (0 : Int64)), (8, .int (0 : Int32)), (2, .int (0 : Int32)), (15, .int (0 : Int32)), (14, .int (0 : Int32)), (13, .int (0 : Int32)), (12, .int (0 : Int32)), (11, .int (0 : Int32)), (10, .int (0 : Int32)), (0, .ref 41), (17, .ref 116), (16, .ref 114), (7, .ref 113), (6, .ref 112), (5, .ref 111), (4, .ref 110), (3, .ref 109), (1, .ref 107)], none) (pc' := 15) (L' := [(0, .ref 106)]) h_m20 (z_at.mk 3 rfl rfl) rfl (by decide) rfl (Or.inl rfl) rfl rfl rfl ?_
  clear H m; intro m H
  refine w_p h_m20 2 (pc' := 17) (L' := [(0, .ref 106)]) (st' := [.int (0 : Int32), .ref 106]) rfl ?_
  refine w_pf H (12, 18, [(10, .int (0 : Int32)), (9, .long (0 : Int64)), (8, .int (0 : Int32)), (2, .int (0 : Int32)), (15, .int (0 : Int32)), (14, .int (0 : Int32)), (13, .int (0 : Int32)), (12, .int (0 : Int32)), (11, .int (0 : Int32)), (0, .ref 41), (17, .ref 116), (16, .ref 114), (7, .ref 113), (6, .ref 112), (5, .ref 111), (4, .ref 110), (3, .ref 109), (1, .ref 107)], none) (pc' := 20) (L' := [(0, .ref 106)]) h_m20 (z_at.mk 3 rfl rfl) rfl (by decide) rfl (Or.inl rfl) rfl rfl rfl ?_
  clear H m; intro m H
  refine w_p h_m20 2 (pc' := 22) (L' := [(0, .ref 106)]) (st' := [.int (0 : Int32), .ref 106]) rfl ?_
  refine w_pf H (12, 18, [(11, .int (0 : Int32)), (10, .int (0 : Int32)), (9, .long (0 : Int64)), (8, .int (0 : Int32)), (2, .int (0 : Int32)), (15, .int (0 : Int32)), (14, .int (0 : Int32)), (13, .int (0 : Int32)), (12, .int (0 : Int32)), (0, .ref 41), (17, .ref 116), (16, .ref 114), (7, .ref 113), (6, .ref 112), (5, .ref 111), (4, .ref 110), (3, .ref 109), (1, .ref 107)], none) (pc' := 25) (L' := [(0, .ref 106)]) h_m20 (z_at.mk 3 rfl rfl) rfl (by decide) rfl (Or.inl rfl) rfl rfl rfl ?_
  clear H m; intro m H
  refine w_p h_m20 2 (pc' := 27) (L' := [(0, .ref 106)]) (st' := [.int (0 : Int32), .ref 106]) rfl ?_
  refine w_pf H (12, 18, [(12, .int (0 : Int32)), (11, .int (0 : Int32)), (10, .int (0 : Int32)), (9, .long (0 : Int64)), (8, .int (0 : Int32)), (2, .int (0 : Int32)), (15, .int (0 : Int32)), (14, .int (0 : Int32)), (13, .int (0 : Int32)), (0, .ref 41), (17, .ref 116), (16, .ref 114), (7, .ref 113), (6, .ref 112), (5, .ref 111), (4, .ref 110), (3, .ref 109), (1, .ref 107)], none) (pc' := 30) (L' := [(0, .ref 106)]) h_m20 (z_at.mk 3 rfl rfl) rfl (by decide) rfl (Or.inl rfl) rfl rfl rfl ?_
  clear H m; intro m H
  refine w_p h_m20 2 (pc' := 32) (L' := [(0, .ref 106)]) (st' := [.int (0 : Int32), .ref 106]) rfl ?_
  refine w_pf H (12, 18, [(13, .int (0 : Int32)), (12, .int (0 : Int32)), (11, .int (0 : Int32)), (10, .int (0 : Int32)), (9, .long (0 : Int64)), (8, .int (0 : Int32)), (2, .int (0 : Int32)), (15, .int (0 : Int32)), (14, .int (0 : Int32)), (0, .ref 41), (17, .ref 116), (16, .ref 114), (7, .ref 113), (6, .ref 112), (5, .ref 111), (4, .ref 110), (3, .ref 109), (1, .ref 107)], none) (pc' := 35) (L' := [(0, .ref 106)]) h_m20 (z_at.mk 3 rfl rfl) rfl (by decide) rfl (Or.inl rfl) rfl rfl rfl ?_
  clear H m; intro m H
  refine w_p h_m20 2 (pc' := 37) (L' := [(0, .ref 106)]) (st' := [.int (0 : Int32), .ref 106]) rfl ?_
  refine w_pf H (12, 18, [(14, .int (0 : Int32)), (13, .int (0 : Int32)), (12, .int (0 : Int32)), (11, .int (0 : Int32)), (10, .int (0 : Int32)), (9, .long (0 : Int64)), (8, .int (0 : Int32)), (2, .int (0 : Int32)), (15, .int (0 : Int32)), (0, .ref 41), (17, .ref 116), (16, .ref 114), (7, .ref 113), (6, .ref 112), (5, .ref 111), (4, .ref 110), (3, .ref 109), (1, .ref 107)], none) (pc' := 40) (L' := [(0, .ref 106)]) h_m20 (z_at.mk 3 rfl rfl) rfl (by decide) rfl (Or.inl rfl) rfl rfl rfl ?_
  clear H m; intro m H
  refine w_p h_m20 2 (pc' := 42) (L' := [(0, .ref 106)]) (st' := [.int (0 : Int32), .ref 106]) rfl ?_
  refine w_pf H (12, 18, [(15, .int (0 : Int32)), (14, .int (0 : Int32)), (13, .int (0 : Int32)), (12, .int (0 : Int32)), (11, .int (0 : Int32)), (10, .int (0 : Int32)), (9, .long (0 : Int64)), (8, .int (0 : Int32)), (2, .int (0 : Int32)), (0, .ref 41), (17, .ref 116), (16, .ref 114), (7, .ref 113), (6, .ref 112), (5, .ref 111), (4, .ref 110), (3, .ref 109), (1, .ref 107)], none) (pc' := 45) (L' := [(0, .ref 106)]) h_m20 (z_at.mk 3 rfl rfl) rfl (by decide) rfl (Or.inl rfl) rfl rfl rfl ?_
  clear H m; intro m H
  refine w_rv h_m20 (z_at.mk 1 rfl rfl) rfl ?_
  show z_W 998 145 7 [(0, .ref 39), (1, .int (65 : Int32))] [] m _
  refine w_p h_m145 1 (pc' := 8) (L' := [(0, .ref 39), (1, .int (65 : Int32))]) (st' := [.ref 39]) rfl ?_
  refine w_gf H (pc' := 11) (L' := [(0, .ref 39), (1, .int (65 : Int32))]) h_m145 (z_at.mk 3 rfl rfl) rfl (u := .ref 106) rfl rfl rfl ?_
  refine w_gf H (pc' := 14) (L' := [(0, .ref 39), (1, .int (65 : Int32))]) h_m145 (z_at.mk 3 rfl rfl) rfl (u := .ref 107) rfl rfl rfl ?_
  refine w_p h_m145 1 (pc' := 15) (L' := [(0, .ref 39), (1, .int (65 : Int32))]) (st' := [.ref 39, .ref 107]) rfl ?_
  refine w_gf H (pc' := 18) (L' := [(0, .ref 39), (1, .int (65 : Int32))]) h_m145 (z_at.mk 3 rfl rfl) rfl (u := .ref 40) rfl rfl rfl ?_
  refine w_gf H (pc' := 21) (L' := [(0, .ref 39), (1, .int (65 : Int32))]) h_m145 (z_at.mk 3 rfl rfl) rfl (u := .ref 48) rfl rfl rfl ?_
  refine w_gf H (pc' := 24) (L' := [(0, .ref 39), (1, .int (65 : Int32))]) h_m145 (z_at.mk 3 rfl rfl) rfl (u := .ref 49) rfl rfl rfl ?_
  refine w_cv (H.t rfl) (pc' := 27) (L' := [(0, .ref 39), (1, .int (65 : Int32))]) (rest := []) (Ps := [.ref 49]) (L0 := [(0, .ref 107), (1, .ref 49)]) h_m145 (z_at.mk 3 rfl rfl) (Or.inl ⟨rfl, rfl⟩) rfl rfl (by decide) (by decide) rfl rfl rfl rfl rfl rfl (by decide) rfl rfl rfl ?_
  refine w_p h_m74 1 (pc' := 1) (L' := [(0, .ref 107), (1, .ref 49)]) (st' := [.ref 49]) rfl ?_
  refine w_gf H (pc' := 4) (L' := [(0, .ref 107), (1, .ref 49)]) h_m74 (z_at.mk 3 rfl rfl) rfl (u := .ref 50) rfl rfl rfl ?_
  refine w_p h_m74 2 (pc' := 6) (L' := [(0, .ref 107), (1, .ref 49)]) (st' := [.ref 107, .int (0 : Int32), .ref 50]) rfl ?_
  refine w_gf H (pc' := 9) (L' := [(0, .ref 107), (1, .ref 49)]) h_m74 (z_at.mk 3 rfl rfl) rfl (u := .ref 108) rfl rfl rfl ?_
  refine w_p h_m74 2 (pc' := 12) (L' := [(0, .ref 107), (1, .ref 49)]) (st' := [.int (7 : Int32), .int (0 : Int32), .ref 108, .int (0 : Int32), .ref 50]) rfl ?_
  refine w_cpf H (ra := (0, 7, [(6, .int (1024 : Int32)), (5, .int (1 : Int32)), (4, .int (1 : Int32)), (3, .int (0 : Int32)), (2, .int (12 : Int32)), (1, .int (40 : Int32)), (0, .int (10 : Int32))], some (.int (0 : Int32)))) (pc' := 15) (L' := [(0, .ref 107), (1, .ref 49)]) h_m74 (z_at.mk 3 rfl rfl) rfl (z_cat_le 0 rfl (by decide)) rfl rfl rfl rfl (by decide) rfl rfl ?_
  clear H m; intro m H
  refine w_rv h_m74 (z_at.mk 1 rfl rfl) rfl ?_
  show z_W 998 145 27 [(0, .ref 39), (1, .int (65 : Int32))] [] m _
  refine w_p h_m145 1 (pc' := 28) (L' := [(0, .ref 39), (1, .int (65 : Int32))]) (st' := [.ref 39]) rfl ?_
  refine w_gf H (pc' := 31) (L' := [(0, .ref 39), (1, .int (65 : Int32))]) h_m145 (z_at.mk 3 rfl rfl) rfl (u := .ref 106) rfl rfl rfl ?_
  refine w_gf H (pc' := 34) (L' := [(0, .ref 39), (1, .int (65 : Int32))]) h_m145 (z_at.mk 3 rfl rfl) rfl (u := .ref 107) rfl rfl rfl ?_
  refine w_p h_m145 2 (pc' := 36) (L' := [(0, .ref 39), (1, .int (65 : Int32))]) (st' := [.int (65 : Int32), .int (1 : Int32), .ref 107]) rfl ?_
  refine w_cv (H.t rfl) (pc' := 39) (L' := [(0, .ref 39), (1, .int (65 : Int32))]) (rest := []) (Ps := [.int (1 : Int32), .int (65 : Int32)]) (L0 := [(0, .ref 107), (1, .int (1 : Int32)), (2, .int (65 : Int32))]) h_m145 (z_at.mk 3 rfl rfl) (Or.inl ⟨rfl, rfl⟩) rfl rfl (by decide) (by decide) rfl rfl rfl rfl rfl rfl (by decide) rfl rfl rfl ?_
  refine w_p h_m73 6 (pc' := 11) (L' := [(0, .ref 107), (1, .int (1 : Int32)), (2, .int (65 : Int32))]) (st' := [.ref 107]) rfl ?_
  refine w_gf H (pc' := 14) (L' := [(0, .ref 107), (1, .int (1 : Int32)), (2, .int (65 : Int32))]) h_m73 (z_at.mk 3 rfl rfl) rfl (u := .ref 108) rfl rfl rfl ?_
  refine w_p h_m73 2 (pc' := 16) (L' := [(0, .ref 107), (1, .int (1 : Int32)), (2, .int (65 : Int32))]) (st' := [.int (65 : Int32), .int (1 : Int32), .ref 108]) rfl ?_
  refine w_as H (t := 0) (j := 1) (u := .int (65 : Int32)) (0, 7, [(1, .int (65 : Int32)), (6, .int (1024 : Int32)), (5, .int (1 : Int32)), (4, .int (1 : Int32)), (3, .int (0 : Int32)), (2, .int (12 : Int32)), (0, .int (10 : Int32))], some (.int (0 : Int32))) (pc' := 17) (L' := []) h_m73 (z_at.mk 1 rfl rfl) rfl rfl (w_ui _ _ (by decide)) rfl rfl rfl rfl ?_
  clear H m; intro m H
  refine w_rv h_m73 (z_at.mk 1 rfl rfl) rfl ?_
  show z_W 998 145 39 [(0, .ref 39), (1, .int (65 : Int32))] [] m _
  refine w_p h_m145 4 (pc' := 43) (L' := [(0, .ref 39), (2, .int (0 : Int32))]) (st' := [.ref 39, .int (0 : Int32)]) rfl ?_
  refine w_gf H (pc' := 46) (L' := [(0, .ref 39), (2, .int (0 : Int32))]) h_m145 (z_at.mk 3 rfl rfl) rfl (u := .ref 40) rfl rfl rfl ?_
  refine w_gf H (pc' := 49) (L' := [(0, .ref 39), (2, .int (0 : Int32))]) h_m145 (z_at.mk 3 rfl rfl) rfl (u := .ref 63) rfl rfl rfl ?_
  refine w_gf H (pc' := 52) (L' := [(0, .ref 39), (2, .int (0 : Int32))]) h_m145 (z_at.mk 3 rfl rfl) rfl (u := .int (0 : Int32)) rfl rfl rfl ?_
  refine w_p h_m145 1 (pc' := 79) (L' := [(0, .ref 39), (2, .int (0 : Int32))]) (st' := []) rfl ?_
  refine w_rv h_m145 (z_at.mk 1 rfl rfl) rfl ?_
  show z_W 999 146 13 [(0, .ref 39), (1, .int (xs 1)), (2, .int (65 : Int32))] [] m _
  refine w_p h_m146 1 (pc' := 14) (L' := [(0, .ref 39), (1, .int (xs 1)), (2, .int (65 : Int32))]) (st' := [.ref 39]) rfl ?_
  refine w_gf H (pc' := 17) (L' := [(0, .ref 39), (1, .int (xs 1)), (2, .int (65 : Int32))]) h_m146 (z_at.mk 3 rfl rfl) rfl (u := .ref 106) rfl rfl rfl ?_
  refine w_gf H (pc' := 20) (L' := [(0, .ref 39), (1, .int (xs 1)), (2, .int (65 : Int32))]) h_m146 (z_at.mk 3 rfl rfl) rfl (u := .int (0 : Int32)) rfl rfl rfl ?_
  refine w_p h_m146 1 (pc' := 21) (L' := [(0, .ref 39), (1, .int (xs 1)), (2, .int (65 : Int32))]) (st' := [.int (xs 1), .int (0 : Int32)]) rfl ?_
  refine w_t2 (pc' := 26) (L' := [(0, .ref 39), (1, .int (xs 1)), (2, .int (65 : Int32))]) h_m146 (z_at.mk 3 rfl rfl) rfl (zc (a := 0) (b := (xs 1).toInt) rfl rfl (decide_eq_true (by omega))) rfl rfl ?_
  refine w_p h_m146 2 (pc' := 2) (L' := [(0, .ref 39), (1, .int (xs 1)), (2, .int (66 : Int32))]) (st' := []) rfl ?_
  exact hQ m (H.subC (by decide +kernel))
set_option maxHeartbeats 400000000 in
set_option maxRecDepth 20000 in
theorem w_turn_146_66 {xs : Nat → Int32} {m : zM} {Q : Option Value → zM → Prop} (hp : (xs 1).toInt < 0) (H : w_ok 6 xs 168 63950 ((106, (12, 18, [(15, .int (0 : Int32)), (14, .int (0 : Int32)), (13, .int (0 : Int32)), (12, .int (0 : Int32)), (11, .int (0 : Int32)), (10, .int (0 : Int32)), (9, .long (0 : Int64)), (8, .int (0 : Int32)), (2, .int (0 : Int32)), (0, .ref 41), (17, .ref 116), (16, .ref 114), (7, .ref 113), (6, .ref 112), (5, .ref 111), (4, .ref 110), (3, .ref 109), (1, .ref 107)], none)) :: (108, (0, 7, [(1, .int (65 : Int32)), (6, .int (1024 : Int32)), (5, .int (1 : Int32)), (4, .int (1 : Int32)), (3, .int (0 : Int32)), (2, .int (12 : Int32)), (0, .int (10 : Int32))], some (.int (0 : Int32)))) :: w_T0) m) (hQ : ∀ m, w_ok 6 xs 168 63950 ((106, (12, 18, [(15, .int (0 : Int32)), (14, .int (0 : Int32)), (13, .int (0 : Int32)), (12, .int (0 : Int32)), (11, .int (0 : Int32)), (10, .int (0 : Int32)), (9, .long (0 : Int64)), (8, .int (0 : Int32)), (2, .int (0 : Int32)), (0, .ref 41), (17, .ref 116), (16, .ref 114), (7, .ref 113), (6, .ref 112), (5, .ref 111), (4, .ref 110), (3, .ref 109), (1, .ref 107)], none)) :: (108, (0, 7, [(1, .int (66 : Int32)), (6, .int (1024 : Int32)), (5, .int (1 : Int32)), (4, .int (1 : Int32)), (3, .int (0 : Int32)), (2, .int (12 : Int32)), (0, .int (10 : Int32))], some (.int (0 : Int32)))) :: w_T0) m → z_W 999 146 2 [(0, .ref 39), (1, .int (xs 1)), (2, .int (67 : Int32))] [] m Q) : z_W 999 146 2 [(0, .ref 39), (1, .int (xs 1)), (2, .int (66 : Int32))] [] m Q := by
  refine w_p h_m146 5 (pc' := 10) (L' := [(0, .ref 39), (1, .int (xs 1)), (2, .int (66 : Int32))]) (st' := [.int (66 : Int32), .ref 39]) rfl ?_
  refine w_cv (H.t rfl) (pc' := 13) (L' := [(0, .ref 39), (1, .int (xs 1)), (2, .int (66 : Int32))]) (rest := []) (Ps := [.int (66 : Int32)]) (L0 := [(0, .ref 39), (1, .int (66 : Int32))]) h_m146 (z_at.mk 3 rfl rfl) (Or.inl ⟨rfl, rfl⟩) rfl rfl (by decide) (by decide) rfl rfl rfl rfl rfl rfl (by decide) rfl rfl rfl ?_
  refine w_p h_m145 1 (pc' := 1) (L' := [(0, .ref 39), (1, .int (66 : Int32))]) (st' := [.ref 39]) rfl ?_
  refine w_gf H (pc' := 4) (L' := [(0, .ref 39), (1, .int (66 : Int32))]) h_m145 (z_at.mk 3 rfl rfl) rfl (u := .ref 106) rfl rfl rfl ?_
  refine w_cv (H.t rfl) (pc' := 7) (L' := [(0, .ref 39), (1, .int (66 : Int32))]) (rest := []) (Ps := []) (L0 := [(0, .ref 106)]) h_m145 (z_at.mk 3 rfl rfl) (Or.inl ⟨rfl, rfl⟩) rfl rfl (by decide) (by decide) rfl rfl rfl rfl rfl rfl (by decide) rfl rfl rfl ?_
  refine w_p h_m20 2 (pc' := 2) (L' := [(0, .ref 106)]) (st' := [.int (0 : Int32), .ref 106]) rfl ?_
  refine w_pf H (12, 18, [(2, .int (0 : Int32)), (15, .int (0 : Int32)), (14, .int (0 : Int32)), (13, .int (0 : Int32)), (12, .int (0 : Int32)), (11, .int (0 : Int32)), (10, .int (0 : Int32)), (9, .long (0 : Int64)), (8, .int (0 : Int32)), (0, .ref 41), (17, .ref 116), (16, .ref 114), (7, .ref 113), (6, .ref 112), (5, .ref 111), (4, .ref 110), (3, .ref 109), (1, .ref 107)], none) (pc' := 5) (L' := [(0, .ref 106)]) h_m20 (z_at.mk 3 rfl rfl) rfl (by decide) rfl (Or.inl rfl) rfl rfl rfl ?_
  clear H m; intro m H
  refine w_p h_m20 2 (pc' := 7) (L' := [(0, .ref 106)]) (st' := [.int (0 : Int32), .ref 106]) rfl ?_
  refine w_pf H (12, 18, [(8, .int (0 : Int32)), (2, .int (0 : Int32)), (15, .int (0 : Int32)), (14, .int (0 : Int32)), (13, .int (0 : Int32)), (12, .int (0 : Int32)), (11, .int (0 : Int32)), (10, .int (0 : Int32)), (9, .long (0 : Int64)), (0, .ref 41), (17, .ref 116), (16, .ref 114), (7, .ref 113), (6, .ref 112), (5, .ref 111), (4, .ref 110), (3, .ref 109), (1, .ref 107)], none) (pc' := 10) (L' := [(0, .ref 106)]) h_m20 (z_at.mk 3 rfl rfl) rfl (by decide) rfl (Or.inl rfl) rfl rfl rfl ?_
  clear H m; intro m H
  refine w_p h_m20 2 (pc' := 12) (L' := [(0, .ref 106)]) (st' := [.long (0 : Int64), .ref 106]) rfl ?_
  refine w_pf H (12, 18, [(9, .long (0 : Int64)), (8, .int (0 : Int32)), (2, .int (0 : Int32)), (15, .int (0 : Int32)), (14, .int (0 : Int32)), (13, .int (0 : Int32)), (12, .int (0 : Int32)), (11, .int (0 : Int32)), (10, .int (0 : Int32)), (0, .ref 41), (17, .ref 116), (16, .ref 114), (7, .ref 113), (6, .ref 112), (5, .ref 111), (4, .ref 110), (3, .ref 109), (1, .ref 107)], none) (pc' := 15) (L' := [(0, .ref 106)]) h_m20 (z_at.mk 3 rfl rfl) rfl (by decide) rfl (Or.inl rfl) rfl rfl rfl ?_
  clear H m; intro m H
  refine w_p h_m20 2 (pc' := 17) (L' := [(0, .ref 106)]) (st' := [.int (0 : Int32), .ref 106]) rfl ?_
  refine w_pf H (12, 18, [(10, .int (0 : Int32)), (9, .long (0 : Int64)), (8, .int (0 : Int32)), (2, .int (0 : Int32)), (15, .int (0 : Int32)), (14, .int (0 : Int32)), (13, .int (0 : Int32)), (12, .int (0 : Int32)), (11, .int (0 : Int32)), (0, .ref 41), (17, .ref 116), (16, .ref 114), (7, .ref 113), (6, .ref 112), (5, .ref 111), (4, .ref 110), (3, .ref 109), (1, .ref 107)], none) (pc' := 20) (L' := [(0, .ref 106)]) h_m20 (z_at.mk 3 rfl rfl) rfl (by decide) rfl (Or.inl rfl) rfl rfl rfl ?_
  clear H m; intro m H
  refine w_p h_m20 2 (pc' := 22) (L' := [(0, .ref 106)]) (st' := [.int (0 : Int32), .ref 106]) rfl ?_
  refine w_pf H (12, 18, [(11, .int (0 : Int32)), (10, .int (0 : Int32)), (9, .long (0 : Int64)), (8, .int (0 : Int32)), (2, .int (0 : Int32)), (15, .int (0 : Int32)), (14, .int (0 : Int32)), (13, .int (0 : Int32)), (12, .int (0 : Int32)), (0, .ref 41), (17, .ref 116), (16, .ref 114), (7, .ref 113), (6, .ref 112), (5, .ref 111), (4, .ref 110), (3, .ref 109), (1, .ref 107)], none) (pc' := 25) (L' := [(0, .ref 106)]) h_m20 (z_at.mk 3 rfl rfl) rfl (by decide) rfl (Or.inl rfl) rfl rfl rfl ?_
  clear H m; intro m H
  refine w_p h_m20 2 (pc' := 27) (L' := [(0, .ref 106)]) (st' := [.int (0 : Int32), .ref 106]) rfl ?_
  refine w_pf H (12, 18, [(12, .int (0 : Int32)), (11, .int (0 : Int32)), (10, .int (0 : Int32)), (9, .long (0 : Int64)), (8, .int (0 : Int32)), (2, .int (0 : Int32)), (15, .int (0 : Int32)), (14, .int (0 : Int32)), (13, .int (0 : Int32)), (0, .ref 41), (17, .ref 116), (16, .ref 114), (7, .ref 113), (6, .ref 112), (5, .ref 111), (4, .ref 110), (3, .ref 109), (1, .ref 107)], none) (pc' := 30) (L' := [(0, .ref 106)]) h_m20 (z_at.mk 3 rfl rfl) rfl (by decide) rfl (Or.inl rfl) rfl rfl rfl ?_
  clear H m; intro m H
  refine w_p h_m20 2 (pc' := 32) (L' := [(0, .ref 106)]) (st' := [.int (0 : Int32), .ref 106]) rfl ?_
  refine w_pf H (12, 18, [(13, .int (0 : Int32)), (12, .int (0 : Int32)), (11, .int (0 : Int32)), (10, .int (0 : Int32)), (9, .long (0 : Int64)), (8, .int (0 : Int32)), (2, .int (0 : Int32)), (15, .int (0 : Int32)), (14, .int (0 : Int32)), (0, .ref 41), (17, .ref 116), (16, .ref 114), (7, .ref 113), (6, .ref 112), (5, .ref 111), (4, .ref 110), (3, .ref 109), (1, .ref 107)], none) (pc' := 35) (L' := [(0, .ref 106)]) h_m20 (z_at.mk 3 rfl rfl) rfl (by decide) rfl (Or.inl rfl) rfl rfl rfl ?_
  clear H m; intro m H
  refine w_p h_m20 2 (pc' := 37) (L' := [(0, .ref 106)]) (st' := [.int (0 : Int32), .ref 106]) rfl ?_
  refine w_pf H (12, 18, [(14, .int (0 : Int32)), (13, .int (0 : Int32)), (12, .int (0 : Int32)), (11, .int (0 : Int32)), (10, .int (0 : Int32)), (9, .long (0 : Int64)), (8, .int (0 : Int32)), (2, .int (0 : Int32)), (15, .int (0 : Int32)), (0, .ref 41), (17, .ref 116), (16, .ref 114), (7, .ref 113), (6, .ref 112), (5, .ref 111), (4, .ref 110), (3, .ref 109), (1, .ref 107)], none) (pc' := 40) (L' := [(0, .ref 106)]) h_m20 (z_at.mk 3 rfl rfl) rfl (by decide) rfl (Or.inl rfl) rfl rfl rfl ?_
  clear H m; intro m H
  refine w_p h_m20 2 (pc' := 42) (L' := [(0, .ref 106)]) (st' := [.int (0 : Int32), .ref 106]) rfl ?_
  refine w_pf H (12, 18, [(15, .int (0 : Int32)), (14, .int (0 : Int32)), (13, .int (0 : Int32)), (12, .int (0 : Int32)), (11, .int (0 : Int32)), (10, .int (0 : Int32)), (9, .long (0 : Int64)), (8, .int (0 : Int32)), (2, .int (0 : Int32)), (0, .ref 41), (17, .ref 116), (16, .ref 114), (7, .ref 113), (6, .ref 112), (5, .ref 111), (4, .ref 110), (3, .ref 109), (1, .ref 107)], none) (pc' := 45) (L' := [(0, .ref 106)]) h_m20 (z_at.mk 3 rfl rfl) rfl (by decide) rfl (Or.inl rfl) rfl rfl rfl ?_
  clear H m; intro m H
  refine w_rv h_m20 (z_at.mk 1 rfl rfl) rfl ?_
  show z_W 998 145 7 [(0, .ref 39), (1, .int (66 : Int32))] [] m _
  refine w_p h_m145 1 (pc' := 8) (L' := [(0, .ref 39), (1, .int (66 : Int32))]) (st' := [.ref 39]) rfl ?_
  refine w_gf H (pc' := 11) (L' := [(0, .ref 39), (1, .int (66 : Int32))]) h_m145 (z_at.mk 3 rfl rfl) rfl (u := .ref 106) rfl rfl rfl ?_
  refine w_gf H (pc' := 14) (L' := [(0, .ref 39), (1, .int (66 : Int32))]) h_m145 (z_at.mk 3 rfl rfl) rfl (u := .ref 107) rfl rfl rfl ?_
  refine w_p h_m145 1 (pc' := 15) (L' := [(0, .ref 39), (1, .int (66 : Int32))]) (st' := [.ref 39, .ref 107]) rfl ?_
  refine w_gf H (pc' := 18) (L' := [(0, .ref 39), (1, .int (66 : Int32))]) h_m145 (z_at.mk 3 rfl rfl) rfl (u := .ref 40) rfl rfl rfl ?_
  refine w_gf H (pc' := 21) (L' := [(0, .ref 39), (1, .int (66 : Int32))]) h_m145 (z_at.mk 3 rfl rfl) rfl (u := .ref 48) rfl rfl rfl ?_
  refine w_gf H (pc' := 24) (L' := [(0, .ref 39), (1, .int (66 : Int32))]) h_m145 (z_at.mk 3 rfl rfl) rfl (u := .ref 49) rfl rfl rfl ?_
  refine w_cv (H.t rfl) (pc' := 27) (L' := [(0, .ref 39), (1, .int (66 : Int32))]) (rest := []) (Ps := [.ref 49]) (L0 := [(0, .ref 107), (1, .ref 49)]) h_m145 (z_at.mk 3 rfl rfl) (Or.inl ⟨rfl, rfl⟩) rfl rfl (by decide) (by decide) rfl rfl rfl rfl rfl rfl (by decide) rfl rfl rfl ?_
  refine w_p h_m74 1 (pc' := 1) (L' := [(0, .ref 107), (1, .ref 49)]) (st' := [.ref 49]) rfl ?_
  refine w_gf H (pc' := 4) (L' := [(0, .ref 107), (1, .ref 49)]) h_m74 (z_at.mk 3 rfl rfl) rfl (u := .ref 50) rfl rfl rfl ?_
  refine w_p h_m74 2 (pc' := 6) (L' := [(0, .ref 107), (1, .ref 49)]) (st' := [.ref 107, .int (0 : Int32), .ref 50]) rfl ?_
  refine w_gf H (pc' := 9) (L' := [(0, .ref 107), (1, .ref 49)]) h_m74 (z_at.mk 3 rfl rfl) rfl (u := .ref 108) rfl rfl rfl ?_
  refine w_p h_m74 2 (pc' := 12) (L' := [(0, .ref 107), (1, .ref 49)]) (st' := [.int (7 : Int32), .int (0 : Int32), .ref 108, .int (0 : Int32), .ref 50]) rfl ?_
  refine w_cpf H (ra := (0, 7, [(6, .int (1024 : Int32)), (5, .int (1 : Int32)), (4, .int (1 : Int32)), (3, .int (0 : Int32)), (2, .int (12 : Int32)), (1, .int (40 : Int32)), (0, .int (10 : Int32))], some (.int (0 : Int32)))) (pc' := 15) (L' := [(0, .ref 107), (1, .ref 49)]) h_m74 (z_at.mk 3 rfl rfl) rfl (z_cat_le 0 rfl (by decide)) rfl rfl rfl rfl (by decide) rfl rfl ?_
  clear H m; intro m H
  refine w_rv h_m74 (z_at.mk 1 rfl rfl) rfl ?_
  show z_W 998 145 27 [(0, .ref 39), (1, .int (66 : Int32))] [] m _
  refine w_p h_m145 1 (pc' := 28) (L' := [(0, .ref 39), (1, .int (66 : Int32))]) (st' := [.ref 39]) rfl ?_
  refine w_gf H (pc' := 31) (L' := [(0, .ref 39), (1, .int (66 : Int32))]) h_m145 (z_at.mk 3 rfl rfl) rfl (u := .ref 106) rfl rfl rfl ?_
  refine w_gf H (pc' := 34) (L' := [(0, .ref 39), (1, .int (66 : Int32))]) h_m145 (z_at.mk 3 rfl rfl) rfl (u := .ref 107) rfl rfl rfl ?_
  refine w_p h_m145 2 (pc' := 36) (L' := [(0, .ref 39), (1, .int (66 : Int32))]) (st' := [.int (66 : Int32), .int (1 : Int32), .ref 107]) rfl ?_
  refine w_cv (H.t rfl) (pc' := 39) (L' := [(0, .ref 39), (1, .int (66 : Int32))]) (rest := []) (Ps := [.int (1 : Int32), .int (66 : Int32)]) (L0 := [(0, .ref 107), (1, .int (1 : Int32)), (2, .int (66 : Int32))]) h_m145 (z_at.mk 3 rfl rfl) (Or.inl ⟨rfl, rfl⟩) rfl rfl (by decide) (by decide) rfl rfl rfl rfl rfl rfl (by decide) rfl rfl rfl ?_
  refine w_p h_m73 6 (pc' := 11) (L' := [(0, .ref 107), (1, .int (1 : Int32)), (2, .int (66 : Int32))]) (st' := [.ref 107]) rfl ?_
  refine w_gf H (pc' := 14) (L' := [(0, .ref 107), (1, .int (1 : Int32)), (2, .int (66 : Int32))]) h_m73 (z_at.mk 3 rfl rfl) rfl (u := .ref 108) rfl rfl rfl ?_
  refine w_p h_m73 2 (pc' := 16) (L' := [(0, .ref 107), (1, .int (1 : Int32)), (2, .int (66 : Int32))]) (st' := [.int (66 : Int32), .int (1 : Int32), .ref 108]) rfl ?_
  refine w_as H (t := 0) (j := 1) (u := .int (66 : Int32)) (0, 7, [(1, .int (66 : Int32)), (6, .int (1024 : Int32)), (5, .int (1 : Int32)), (4, .int (1 : Int32)), (3, .int (0 : Int32)), (2, .int (12 : Int32)), (0, .int (10 : Int32))], some (.int (0 : Int32))) (pc' := 17) (L' := []) h_m73 (z_at.mk 1 rfl rfl) rfl rfl (w_ui _ _ (by decide)) rfl rfl rfl rfl ?_
  clear H m; intro m H
  refine w_rv h_m73 (z_at.mk 1 rfl rfl) rfl ?_
  show z_W 998 145 39 [(0, .ref 39), (1, .int (66 : Int32))] [] m _
  refine w_p h_m145 4 (pc' := 43) (L' := [(0, .ref 39), (2, .int (0 : Int32))]) (st' := [.ref 39, .int (0 : Int32)]) rfl ?_
  refine w_gf H (pc' := 46) (L' := [(0, .ref 39), (2, .int (0 : Int32))]) h_m145 (z_at.mk 3 rfl rfl) rfl (u := .ref 40) rfl rfl rfl ?_
  refine w_gf H (pc' := 49) (L' := [(0, .ref 39), (2, .int (0 : Int32))]) h_m145 (z_at.mk 3 rfl rfl) rfl (u := .ref 63) rfl rfl rfl ?_
  refine w_gf H (pc' := 52) (L' := [(0, .ref 39), (2, .int (0 : Int32))]) h_m145 (z_at.mk 3 rfl rfl) rfl (u := .int (0 : Int32)) rfl rfl rfl ?_
  refine w_p h_m145 1 (pc' := 79) (L' := [(0, .ref 39), (2, .int (0 : Int32))]) (st' := []) rfl ?_
  refine w_rv h_m145 (z_at.mk 1 rfl rfl) rfl ?_
  show z_W 999 146 13 [(0, .ref 39), (1, .int (xs 1)), (2, .int (66 : Int32))] [] m _
  refine w_p h_m146 1 (pc' := 14) (L' := [(0, .ref 39), (1, .int (xs 1)), (2, .int (66 : Int32))]) (st' := [.ref 39]) rfl ?_
  refine w_gf H (pc' := 17) (L' := [(0, .ref 39), (1, .int (xs 1)), (2, .int (66 : Int32))]) h_m146 (z_at.mk 3 rfl rfl) rfl (u := .ref 106) rfl rfl rfl ?_
  refine w_gf H (pc' := 20) (L' := [(0, .ref 39), (1, .int (xs 1)), (2, .int (66 : Int32))]) h_m146 (z_at.mk 3 rfl rfl) rfl (u := .int (0 : Int32)) rfl rfl rfl ?_
  refine w_p h_m146 1 (pc' := 21) (L' := [(0, .ref 39), (1, .int (xs 1)), (2, .int (66 : Int32))]) (st' := [.int (xs 1), .int (0 : Int32)]) rfl ?_
  refine w_t2 (pc' := 26) (L' := [(0, .ref 39), (1, .int (xs 1)), (2, .int (66 : Int32))]) h_m146 (z_at.mk 3 rfl rfl) rfl (zc (a := 0) (b := (xs 1).toInt) rfl rfl (decide_eq_true (by omega))) rfl rfl ?_
  refine w_p h_m146 2 (pc' := 2) (L' := [(0, .ref 39), (1, .int (xs 1)), (2, .int (67 : Int32))]) (st' := []) rfl ?_
  exact hQ m (H.subC (by decide +kernel))
set_option maxHeartbeats 400000000 in
set_option maxRecDepth 20000 in
theorem w_turn_146_67 {xs : Nat → Int32} {m : zM} {Q : Option Value → zM → Prop} (hp : (xs 1).toInt < 0) (H : w_ok 6 xs 168 63950 ((106, (12, 18, [(15, .int (0 : Int32)), (14, .int (0 : Int32)), (13, .int (0 : Int32)), (12, .int (0 : Int32)), (11, .int (0 : Int32)), (10, .int (0 : Int32)), (9, .long (0 : Int64)), (8, .int (0 : Int32)), (2, .int (0 : Int32)), (0, .ref 41), (17, .ref 116), (16, .ref 114), (7, .ref 113), (6, .ref 112), (5, .ref 111), (4, .ref 110), (3, .ref 109), (1, .ref 107)], none)) :: (108, (0, 7, [(1, .int (66 : Int32)), (6, .int (1024 : Int32)), (5, .int (1 : Int32)), (4, .int (1 : Int32)), (3, .int (0 : Int32)), (2, .int (12 : Int32)), (0, .int (10 : Int32))], some (.int (0 : Int32)))) :: w_T0) m) (hQ : ∀ m, w_ok 6 xs 168 63950 ((106, (12, 18, [(15, .int (0 : Int32)), (14, .int (0 : Int32)), (13, .int (0 : Int32)), (12, .int (0 : Int32)), (11, .int (0 : Int32)), (10, .int (0 : Int32)), (9, .long (0 : Int64)), (8, .int (0 : Int32)), (2, .int (0 : Int32)), (0, .ref 41), (17, .ref 116), (16, .ref 114), (7, .ref 113), (6, .ref 112), (5, .ref 111), (4, .ref 110), (3, .ref 109), (1, .ref 107)], none)) :: (108, (0, 7, [(1, .int (67 : Int32)), (6, .int (1024 : Int32)), (5, .int (1 : Int32)), (4, .int (1 : Int32)), (3, .int (0 : Int32)), (2, .int (12 : Int32)), (0, .int (10 : Int32))], some (.int (0 : Int32)))) :: w_T0) m → z_W 999 146 2 [(0, .ref 39), (1, .int (xs 1)), (2, .int (68 : Int32))] [] m Q) : z_W 999 146 2 [(0, .ref 39), (1, .int (xs 1)), (2, .int (67 : Int32))] [] m Q := by
  refine w_p h_m146 5 (pc' := 10) (L' := [(0, .ref 39), (1, .int (xs 1)), (2, .int (67 : Int32))]) (st' := [.int (67 : Int32), .ref 39]) rfl ?_
  refine w_cv (H.t rfl) (pc' := 13) (L' := [(0, .ref 39), (1, .int (xs 1)), (2, .int (67 : Int32))]) (rest := []) (Ps := [.int (67 : Int32)]) (L0 := [(0, .ref 39), (1, .int (67 : Int32))]) h_m146 (z_at.mk 3 rfl rfl) (Or.inl ⟨rfl, rfl⟩) rfl rfl (by decide) (by decide) rfl rfl rfl rfl rfl rfl (by decide) rfl rfl rfl ?_
  refine w_p h_m145 1 (pc' := 1) (L' := [(0, .ref 39), (1, .int (67 : Int32))]) (st' := [.ref 39]) rfl ?_
  refine w_gf H (pc' := 4) (L' := [(0, .ref 39), (1, .int (67 : Int32))]) h_m145 (z_at.mk 3 rfl rfl) rfl (u := .ref 106) rfl rfl rfl ?_
  refine w_cv (H.t rfl) (pc' := 7) (L' := [(0, .ref 39), (1, .int (67 : Int32))]) (rest := []) (Ps := []) (L0 := [(0, .ref 106)]) h_m145 (z_at.mk 3 rfl rfl) (Or.inl ⟨rfl, rfl⟩) rfl rfl (by decide) (by decide) rfl rfl rfl rfl rfl rfl (by decide) rfl rfl rfl ?_
  refine w_p h_m20 2 (pc' := 2) (L' := [(0, .ref 106)]) (st' := [.int (0 : Int32), .ref 106]) rfl ?_
  refine w_pf H (12, 18, [(2, .int (0 : Int32)), (15, .int (0 : Int32)), (14, .int (0 : Int32)), (13, .int (0 : Int32)), (12, .int (0 : Int32)), (11, .int (0 : Int32)), (10, .int (0 : Int32)), (9, .long (0 : Int64)), (8, .int (0 : Int32)), (0, .ref 41), (17, .ref 116), (16, .ref 114), (7, .ref 113), (6, .ref 112), (5, .ref 111), (4, .ref 110), (3, .ref 109), (1, .ref 107)], none) (pc' := 5) (L' := [(0, .ref 106)]) h_m20 (z_at.mk 3 rfl rfl) rfl (by decide) rfl (Or.inl rfl) rfl rfl rfl ?_
  clear H m; intro m H
  refine w_p h_m20 2 (pc' := 7) (L' := [(0, .ref 106)]) (st' := [.int (0 : Int32), .ref 106]) rfl ?_
  refine w_pf H (12, 18, [(8, .int (0 : Int32)), (2, .int (0 : Int32)), (15, .int (0 : Int32)), (14, .int (0 : Int32)), (13, .int (0 : Int32)), (12, .int (0 : Int32)), (11, .int (0 : Int32)), (10, .int (0 : Int32)), (9, .long (0 : Int64)), (0, .ref 41), (17, .ref 116), (16, .ref 114), (7, .ref 113), (6, .ref 112), (5, .ref 111), (4, .ref 110), (3, .ref 109), (1, .ref 107)], none) (pc' := 10) (L' := [(0, .ref 106)]) h_m20 (z_at.mk 3 rfl rfl) rfl (by decide) rfl (Or.inl rfl) rfl rfl rfl ?_
  clear H m; intro m H
  refine w_p h_m20 2 (pc' := 12) (L' := [(0, .ref 106)]) (st' := [.long (0 : Int64), .ref 106]) rfl ?_
  refine w_pf H (12, 18, [(9, .long (0 : Int64)), (8, .int (0 : Int32)), (2, .int (0 : Int32)), (15, .int (0 : Int32)), (14, .int (0 : Int32)), (13, .int (0 : Int32)), (12, .int (0 : Int32)), (11, .int (0 : Int32)), (10, .int (0 : Int32)), (0, .ref 41), (17, .ref 116), (16, .ref 114), (7, .ref 113), (6, .ref 112), (5, .ref 111), (4, .ref 110), (3, .ref 109), (1, .ref 107)], none) (pc' := 15) (L' := [(0, .ref 106)]) h_m20 (z_at.mk 3 rfl rfl) rfl (by decide) rfl (Or.inl rfl) rfl rfl rfl ?_
  clear H m; intro m H
  refine w_p h_m20 2 (pc' := 17) (L' := [(0, .ref 106)]) (st' := [.int (0 : Int32), .ref 106]) rfl ?_
  refine w_pf H (12, 18, [(10, .int (0 : Int32)), (9, .long (0 : Int64)), (8, .int (0 : Int32)), (2, .int (0 : Int32)), (15, .int (0 : Int32)), (14, .int (0 : Int32)), (13, .int (0 : Int32)), (12, .int (0 : Int32)), (11, .int (0 : Int32)), (0, .ref 41), (17, .ref 116), (16, .ref 114), (7, .ref 113), (6, .ref 112), (5, .ref 111), (4, .ref 110), (3, .ref 109), (1, .ref 107)], none) (pc' := 20) (L' := [(0, .ref 106)]) h_m20 (z_at.mk 3 rfl rfl) rfl (by decide) rfl (Or.inl rfl) rfl rfl rfl ?_
  clear H m; intro m H
  refine w_p h_m20 2 (pc' := 22) (L' := [(0, .ref 106)]) (st' := [.int (0 : Int32), .ref 106]) rfl ?_
  refine w_pf H (12, 18, [(11, .int (0 : Int32)), (10, .int (0 : Int32)), (9, .long (0 : Int64)), (8, .int (0 : Int32)), (2, .int (0 : Int32)), (15, .int (0 : Int32)), (14, .int (0 : Int32)), (13, .int (0 : Int32)), (12, .int (0 : Int32)), (0, .ref 41), (17, .ref 116), (16, .ref 114), (7, .ref 113), (6, .ref 112), (5, .ref 111), (4, .ref 110), (3, .ref 109), (1, .ref 107)], none) (pc' := 25) (L' := [(0, .ref 106)]) h_m20 (z_at.mk 3 rfl rfl) rfl (by decide) rfl (Or.inl rfl) rfl rfl rfl ?_
  clear H m; intro m H
  refine w_p h_m20 2 (pc' := 27) (L' := [(0, .ref 106)]) (st' := [.int (0 : Int32), .ref 106]) rfl ?_
  refine w_pf H (12, 18, [(12, .int (0 : Int32)), (11, .int (0 : Int32)), (10, .int (0 : Int32)), (9, .long (0 : Int64)), (8, .int (0 : Int32)), (2, .int (0 : Int32)), (15, .int (0 : Int32)), (14, .int (0 : Int32)), (13, .int (0 : Int32)), (0, .ref 41), (17, .ref 116), (16, .ref 114), (7, .ref 113), (6, .ref 112), (5, .ref 111), (4, .ref 110), (3, .ref 109), (1, .ref 107)], none) (pc' := 30) (L' := [(0, .ref 106)]) h_m20 (z_at.mk 3 rfl rfl) rfl (by decide) rfl (Or.inl rfl) rfl rfl rfl ?_
  clear H m; intro m H
  refine w_p h_m20 2 (pc' := 32) (L' := [(0, .ref 106)]) (st' := [.int (0 : Int32), .ref 106]) rfl ?_
  refine w_pf H (12, 18, [(13, .int (0 : Int32)), (12, .int (0 : Int32)), (11, .int (0 : Int32)), (10, .int (0 : Int32)), (9, .long (0 : Int64)), (8, .int (0 : Int32)), (2, .int (0 : Int32)), (15, .int (0 : Int32)), (14, .int (0 : Int32)), (0, .ref 41), (17, .ref 116), (16, .ref 114), (7, .ref 113), (6, .ref 112), (5, .ref 111), (4, .ref 110), (3, .ref 109), (1, .ref 107)], none) (pc' := 35) (L' := [(0, .ref 106)]) h_m20 (z_at.mk 3 rfl rfl) rfl (by decide) rfl (Or.inl rfl) rfl rfl rfl ?_
  clear H m; intro m H
  refine w_p h_m20 2 (pc' := 37) (L' := [(0, .ref 106)]) (st' := [.int (0 : Int32), .ref 106]) rfl ?_
  refine w_pf H (12, 18, [(14, .int (0 : Int32)), (13, .int (0 : Int32)), (12, .int (0 : Int32)), (11, .int (0 : Int32)), (10, .int (0 : Int32)), (9, .long (0 : Int64)), (8, .int (0 : Int32)), (2, .int (0 : Int32)), (15, .int (0 : Int32)), (0, .ref 41), (17, .ref 116), (16, .ref 114), (7, .ref 113), (6, .ref 112), (5, .ref 111), (4, .ref 110), (3, .ref 109), (1, .ref 107)], none) (pc' := 40) (L' := [(0, .ref 106)]) h_m20 (z_at.mk 3 rfl rfl) rfl (by decide) rfl (Or.inl rfl) rfl rfl rfl ?_
  clear H m; intro m H
  refine w_p h_m20 2 (pc' := 42) (L' := [(0, .ref 106)]) (st' := [.int (0 : Int32), .ref 106]) rfl ?_
  refine w_pf H (12, 18, [(15, .int (0 : Int32)), (14, .int (0 : Int32)), (13, .int (0 : Int32)), (12, .int (0 : Int32)), (11, .int (0 : Int32)), (10, .int (0 : Int32)), (9, .long (0 : Int64)), (8, .int (0 : Int32)), (2, .int (0 : Int32)), (0, .ref 41), (17, .ref 116), (16, .ref 114), (7, .ref 113), (6, .ref 112), (5, .ref 111), (4, .ref 110), (3, .ref 109), (1, .ref 107)], none) (pc' := 45) (L' := [(0, .ref 106)]) h_m20 (z_at.mk 3 rfl rfl) rfl (by decide) rfl (Or.inl rfl) rfl rfl rfl ?_
  clear H m; intro m H
  refine w_rv h_m20 (z_at.mk 1 rfl rfl) rfl ?_
  show z_W 998 145 7 [(0, .ref 39), (1, .int (67 : Int32))] [] m _
  refine w_p h_m145 1 (pc' := 8) (L' := [(0, .ref 39), (1, .int (67 : Int32))]) (st' := [.ref 39]) rfl ?_
  refine w_gf H (pc' := 11) (L' := [(0, .ref 39), (1, .int (67 : Int32))]) h_m145 (z_at.mk 3 rfl rfl) rfl (u := .ref 106) rfl rfl rfl ?_
  refine w_gf H (pc' := 14) (L' := [(0, .ref 39), (1, .int (67 : Int32))]) h_m145 (z_at.mk 3 rfl rfl) rfl (u := .ref 107) rfl rfl rfl ?_
  refine w_p h_m145 1 (pc' := 15) (L' := [(0, .ref 39), (1, .int (67 : Int32))]) (st' := [.ref 39, .ref 107]) rfl ?_
  refine w_gf H (pc' := 18) (L' := [(0, .ref 39), (1, .int (67 : Int32))]) h_m145 (z_at.mk 3 rfl rfl) rfl (u := .ref 40) rfl rfl rfl ?_
  refine w_gf H (pc' := 21) (L' := [(0, .ref 39), (1, .int (67 : Int32))]) h_m145 (z_at.mk 3 rfl rfl) rfl (u := .ref 48) rfl rfl rfl ?_
  refine w_gf H (pc' := 24) (L' := [(0, .ref 39), (1, .int (67 : Int32))]) h_m145 (z_at.mk 3 rfl rfl) rfl (u := .ref 49) rfl rfl rfl ?_
  refine w_cv (H.t rfl) (pc' := 27) (L' := [(0, .ref 39), (1, .int (67 : Int32))]) (rest := []) (Ps := [.ref 49]) (L0 := [(0, .ref 107), (1, .ref 49)]) h_m145 (z_at.mk 3 rfl rfl) (Or.inl ⟨rfl, rfl⟩) rfl rfl (by decide) (by decide) rfl rfl rfl rfl rfl rfl (by decide) rfl rfl rfl ?_
  refine w_p h_m74 1 (pc' := 1) (L' := [(0, .ref 107), (1, .ref 49)]) (st' := [.ref 49]) rfl ?_
  refine w_gf H (pc' := 4) (L' := [(0, .ref 107), (1, .ref 49)]) h_m74 (z_at.mk 3 rfl rfl) rfl (u := .ref 50) rfl rfl rfl ?_
  refine w_p h_m74 2 (pc' := 6) (L' := [(0, .ref 107), (1, .ref 49)]) (st' := [.ref 107, .int (0 : Int32), .ref 50]) rfl ?_
  refine w_gf H (pc' := 9) (L' := [(0, .ref 107), (1, .ref 49)]) h_m74 (z_at.mk 3 rfl rfl) rfl (u := .ref 108) rfl rfl rfl ?_
  refine w_p h_m74 2 (pc' := 12) (L' := [(0, .ref 107), (1, .ref 49)]) (st' := [.int (7 : Int32), .int (0 : Int32), .ref 108, .int (0 : Int32), .ref 50]) rfl ?_
  refine w_cpf H (ra := (0, 7, [(6, .int (1024 : Int32)), (5, .int (1 : Int32)), (4, .int (1 : Int32)), (3, .int (0 : Int32)), (2, .int (12 : Int32)), (1, .int (40 : Int32)), (0, .int (10 : Int32))], some (.int (0 : Int32)))) (pc' := 15) (L' := [(0, .ref 107), (1, .ref 49)]) h_m74 (z_at.mk 3 rfl rfl) rfl (z_cat_le 0 rfl (by decide)) rfl rfl rfl rfl (by decide) rfl rfl ?_
  clear H m; intro m H
  refine w_rv h_m74 (z_at.mk 1 rfl rfl) rfl ?_
  show z_W 998 145 27 [(0, .ref 39), (1, .int (67 : Int32))] [] m _
  refine w_p h_m145 1 (pc' := 28) (L' := [(0, .ref 39), (1, .int (67 : Int32))]) (st' := [.ref 39]) rfl ?_
  refine w_gf H (pc' := 31) (L' := [(0, .ref 39), (1, .int (67 : Int32))]) h_m145 (z_at.mk 3 rfl rfl) rfl (u := .ref 106) rfl rfl rfl ?_
  refine w_gf H (pc' := 34) (L' := [(0, .ref 39), (1, .int (67 : Int32))]) h_m145 (z_at.mk 3 rfl rfl) rfl (u := .ref 107) rfl rfl rfl ?_
  refine w_p h_m145 2 (pc' := 36) (L' := [(0, .ref 39), (1, .int (67 : Int32))]) (st' := [.int (67 : Int32), .int (1 : Int32), .ref 107]) rfl ?_
  refine w_cv (H.t rfl) (pc' := 39) (L' := [(0, .ref 39), (1, .int (67 : Int32))]) (rest := []) (Ps := [.int (1 : Int32), .int (67 : Int32)]) (L0 := [(0, .ref 107), (1, .int (1 : Int32)), (2, .int (67 : Int32))]) h_m145 (z_at.mk 3 rfl rfl) (Or.inl ⟨rfl, rfl⟩) rfl rfl (by decide) (by decide) rfl rfl rfl rfl rfl rfl (by decide) rfl rfl rfl ?_
  refine w_p h_m73 6 (pc' := 11) (L' := [(0, .ref 107), (1, .int (1 : Int32)), (2, .int (67 : Int32))]) (st' := [.ref 107]) rfl ?_
  refine w_gf H (pc' := 14) (L' := [(0, .ref 107), (1, .int (1 : Int32)), (2, .int (67 : Int32))]) h_m73 (z_at.mk 3 rfl rfl) rfl (u := .ref 108) rfl rfl rfl ?_
  refine w_p h_m73 2 (pc' := 16) (L' := [(0, .ref 107), (1, .int (1 : Int32)), (2, .int (67 : Int32))]) (st' := [.int (67 : Int32), .int (1 : Int32), .ref 108]) rfl ?_
  refine w_as H (t := 0) (j := 1) (u := .int (67 : Int32)) (0, 7, [(1, .int (67 : Int32)), (6, .int (1024 : Int32)), (5, .int (1 : Int32)), (4, .int (1 : Int32)), (3, .int (0 : Int32)), (2, .int (12 : Int32)), (0, .int (10 : Int32))], some (.int (0 : Int32))) (pc' := 17) (L' := []) h_m73 (z_at.mk 1 rfl rfl) rfl rfl (w_ui _ _ (by decide)) rfl rfl rfl rfl ?_
  clear H m; intro m H
  refine w_rv h_m73 (z_at.mk 1 rfl rfl) rfl ?_
  show z_W 998 145 39 [(0, .ref 39), (1, .int (67 : Int32))] [] m _
  refine w_p h_m145 4 (pc' := 43) (L' := [(0, .ref 39), (2, .int (0 : Int32))]) (st' := [.ref 39, .int (0 : Int32)]) rfl ?_
  refine w_gf H (pc' := 46) (L' := [(0, .ref 39), (2, .int (0 : Int32))]) h_m145 (z_at.mk 3 rfl rfl) rfl (u := .ref 40) rfl rfl rfl ?_
  refine w_gf H (pc' := 49) (L' := [(0, .ref 39), (2, .int (0 : Int32))]) h_m145 (z_at.mk 3 rfl rfl) rfl (u := .ref 63) rfl rfl rfl ?_
  refine w_gf H (pc' := 52) (L' := [(0, .ref 39), (2, .int (0 : Int32))]) h_m145 (z_at.mk 3 rfl rfl) rfl (u := .int (0 : Int32)) rfl rfl rfl ?_
  refine w_p h_m145 1 (pc' := 79) (L' := [(0, .ref 39), (2, .int (0 : Int32))]) (st' := []) rfl ?_
  refine w_rv h_m145 (z_at.mk 1 rfl rfl) rfl ?_
  show z_W 999 146 13 [(0, .ref 39), (1, .int (xs 1)), (2, .int (67 : Int32))] [] m _
  refine w_p h_m146 1 (pc' := 14) (L' := [(0, .ref 39), (1, .int (xs 1)), (2, .int (67 : Int32))]) (st' := [.ref 39]) rfl ?_
  refine w_gf H (pc' := 17) (L' := [(0, .ref 39), (1, .int (xs 1)), (2, .int (67 : Int32))]) h_m146 (z_at.mk 3 rfl rfl) rfl (u := .ref 106) rfl rfl rfl ?_
  refine w_gf H (pc' := 20) (L' := [(0, .ref 39), (1, .int (xs 1)), (2, .int (67 : Int32))]) h_m146 (z_at.mk 3 rfl rfl) rfl (u := .int (0 : Int32)) rfl rfl rfl ?_
  refine w_p h_m146 1 (pc' := 21) (L' := [(0, .ref 39), (1, .int (xs 1)), (2, .int (67 : Int32))]) (st' := [.int (xs 1), .int (0 : Int32)]) rfl ?_
  refine w_t2 (pc' := 26) (L' := [(0, .ref 39), (1, .int (xs 1)), (2, .int (67 : Int32))]) h_m146 (z_at.mk 3 rfl rfl) rfl (zc (a := 0) (b := (xs 1).toInt) rfl rfl (decide_eq_true (by omega))) rfl rfl ?_
  refine w_p h_m146 2 (pc' := 2) (L' := [(0, .ref 39), (1, .int (xs 1)), (2, .int (68 : Int32))]) (st' := []) rfl ?_
  exact hQ m (H.subC (by decide +kernel))
set_option maxHeartbeats 400000000 in
set_option maxRecDepth 20000 in
theorem w_turn_146_68 {xs : Nat → Int32} {m : zM} {Q : Option Value → zM → Prop} (hp : (xs 1).toInt < 0) (H : w_ok 6 xs 168 63950 ((106, (12, 18, [(15, .int (0 : Int32)), (14, .int (0 : Int32)), (13, .int (0 : Int32)), (12, .int (0 : Int32)), (11, .int (0 : Int32)), (10, .int (0 : Int32)), (9, .long (0 : Int64)), (8, .int (0 : Int32)), (2, .int (0 : Int32)), (0, .ref 41), (17, .ref 116), (16, .ref 114), (7, .ref 113), (6, .ref 112), (5, .ref 111), (4, .ref 110), (3, .ref 109), (1, .ref 107)], none)) :: (108, (0, 7, [(1, .int (67 : Int32)), (6, .int (1024 : Int32)), (5, .int (1 : Int32)), (4, .int (1 : Int32)), (3, .int (0 : Int32)), (2, .int (12 : Int32)), (0, .int (10 : Int32))], some (.int (0 : Int32)))) :: w_T0) m) (hQ : ∀ m, w_ok 6 xs 168 63950 ((106, (12, 18, [(15, .int (0 : Int32)), (14, .int (0 : Int32)), (13, .int (0 : Int32)), (12, .int (0 : Int32)), (11, .int (0 : Int32)), (10, .int (0 : Int32)), (9, .long (0 : Int64)), (8, .int (0 : Int32)), (2, .int (0 : Int32)), (0, .ref 41), (17, .ref 116), (16, .ref 114), (7, .ref 113), (6, .ref 112), (5, .ref 111), (4, .ref 110), (3, .ref 109), (1, .ref 107)], none)) :: (108, (0, 7, [(1, .int (68 : Int32)), (6, .int (1024 : Int32)), (5, .int (1 : Int32)), (4, .int (1 : Int32)), (3, .int (0 : Int32)), (2, .int (12 : Int32)), (0, .int (10 : Int32))], some (.int (0 : Int32)))) :: w_T0) m → z_W 999 146 2 [(0, .ref 39), (1, .int (xs 1)), (2, .int (69 : Int32))] [] m Q) : z_W 999 146 2 [(0, .ref 39), (1, .int (xs 1)), (2, .int (68 : Int32))] [] m Q := by
  refine w_p h_m146 5 (pc' := 10) (L' := [(0, .ref 39), (1, .int (xs 1)), (2, .int (68 : Int32))]) (st' := [.int (68 : Int32), .ref 39]) rfl ?_
  refine w_cv (H.t rfl) (pc' := 13) (L' := [(0, .ref 39), (1, .int (xs 1)), (2, .int (68 : Int32))]) (rest := []) (Ps := [.int (68 : Int32)]) (L0 := [(0, .ref 39), (1, .int (68 : Int32))]) h_m146 (z_at.mk 3 rfl rfl) (Or.inl ⟨rfl, rfl⟩) rfl rfl (by decide) (by decide) rfl rfl rfl rfl rfl rfl (by decide) rfl rfl rfl ?_
  refine w_p h_m145 1 (pc' := 1) (L' := [(0, .ref 39), (1, .int (68 : Int32))]) (st' := [.ref 39]) rfl ?_
  refine w_gf H (pc' := 4) (L' := [(0, .ref 39), (1, .int (68 : Int32))]) h_m145 (z_at.mk 3 rfl rfl) rfl (u := .ref 106) rfl rfl rfl ?_
  refine w_cv (H.t rfl) (pc' := 7) (L' := [(0, .ref 39), (1, .int (68 : Int32))]) (rest := []) (Ps := []) (L0 := [(0, .ref 106)]) h_m145 (z_at.mk 3 rfl rfl) (Or.inl ⟨rfl, rfl⟩) rfl rfl (by decide) (by decide) rfl rfl rfl rfl rfl rfl (by decide) rfl rfl rfl ?_
  refine w_p h_m20 2 (pc' := 2) (L' := [(0, .ref 106)]) (st' := [.int (0 : Int32), .ref 106]) rfl ?_
  refine w_pf H (12, 18, [(2, .int (0 : Int32)), (15, .int (0 : Int32)), (14, .int (0 : Int32)), (13, .int (0 : Int32)), (12, .int (0 : Int32)), (11, .int (0 : Int32)), (10, .int (0 : Int32)), (9, .long (0 : Int64)), (8, .int (0 : Int32)), (0, .ref 41), (17, .ref 116), (16, .ref 114), (7, .ref 113), (6, .ref 112), (5, .ref 111), (4, .ref 110), (3, .ref 109), (1, .ref 107)], none) (pc' := 5) (L' := [(0, .ref 106)]) h_m20 (z_at.mk 3 rfl rfl) rfl (by decide) rfl (Or.inl rfl) rfl rfl rfl ?_
  clear H m; intro m H
  refine w_p h_m20 2 (pc' := 7) (L' := [(0, .ref 106)]) (st' := [.int (0 : Int32), .ref 106]) rfl ?_
  refine w_pf H (12, 18, [(8, .int (0 : Int32)), (2, .int (0 : Int32)), (15, .int (0 : Int32)), (14, .int (0 : Int32)), (13, .int (0 : Int32)), (12, .int (0 : Int32)), (11, .int (0 : Int32)), (10, .int (0 : Int32)), (9, .long (0 : Int64)), (0, .ref 41), (17, .ref 116), (16, .ref 114), (7, .ref 113), (6, .ref 112), (5, .ref 111), (4, .ref 110), (3, .ref 109), (1, .ref 107)], none) (pc' := 10) (L' := [(0, .ref 106)]) h_m20 (z_at.mk 3 rfl rfl) rfl (by decide) rfl (Or.inl rfl) rfl rfl rfl ?_
  clear H m; intro m H
  refine w_p h_m20 2 (pc' := 12) (L' := [(0, .ref 106)]) (st' := [.long (0 : Int64), .ref 106]) rfl ?_
  refine w_pf H (12, 18, [(9, .long (0 : Int64)), (8, .int (0 : Int32)), (2, .int (0 : Int32)), (15, .int (0 : Int32)), (14, .int (0 : Int32)), (13, .int (0 : Int32)), (12, .int (0 : Int32)), (11, .int (0 : Int32)), (10, .int (0 : Int32)), (0, .ref 41), (17, .ref 116), (16, .ref 114), (7, .ref 113), (6, .ref 112), (5, .ref 111), (4, .ref 110), (3, .ref 109), (1, .ref 107)], none) (pc' := 15) (L' := [(0, .ref 106)]) h_m20 (z_at.mk 3 rfl rfl) rfl (by decide) rfl (Or.inl rfl) rfl rfl rfl ?_
  clear H m; intro m H
  refine w_p h_m20 2 (pc' := 17) (L' := [(0, .ref 106)]) (st' := [.int (0 : Int32), .ref 106]) rfl ?_
  refine w_pf H (12, 18, [(10, .int (0 : Int32)), (9, .long (0 : Int64)), (8, .int (0 : Int32)), (2, .int (0 : Int32)), (15, .int (0 : Int32)), (14, .int (0 : Int32)), (13, .int (0 : Int32)), (12, .int (0 : Int32)), (11, .int (0 : Int32)), (0, .ref 41), (17, .ref 116), (16, .ref 114), (7, .ref 113), (6, .ref 112), (5, .ref 111), (4, .ref 110), (3, .ref 109), (1, .ref 107)], none) (pc' := 20) (L' := [(0, .ref 106)]) h_m20 (z_at.mk 3 rfl rfl) rfl (by decide) rfl (Or.inl rfl) rfl rfl rfl ?_
  clear H m; intro m H
  refine w_p h_m20 2 (pc' := 22) (L' := [(0, .ref 106)]) (st' := [.int (0 : Int32), .ref 106]) rfl ?_
  refine w_pf H (12, 18, [(11, .int (0 : Int32)), (10, .int (0 : Int32)), (9, .long (0 : Int64)), (8, .int (0 : Int32)), (2, .int (0 : Int32)), (15, .int (0 : Int32)), (14, .int (0 : Int32)), (13, .int (0 : Int32)), (12, .int (0 : Int32)), (0, .ref 41), (17, .ref 116), (16, .ref 114), (7, .ref 113), (6, .ref 112), (5, .ref 111), (4, .ref 110), (3, .ref 109), (1, .ref 107)], none) (pc' := 25) (L' := [(0, .ref 106)]) h_m20 (z_at.mk 3 rfl rfl) rfl (by decide) rfl (Or.inl rfl) rfl rfl rfl ?_
  clear H m; intro m H
  refine w_p h_m20 2 (pc' := 27) (L' := [(0, .ref 106)]) (st' := [.int (0 : Int32), .ref 106]) rfl ?_
  refine w_pf H (12, 18, [(12, .int (0 : Int32)), (11, .int (0 : Int32)), (10, .int (0 : Int32)), (9, .long (0 : Int64)), (8, .int (0 : Int32)), (2, .int (0 : Int32)), (15, .int (0 : Int32)), (14, .int (0 : Int32)), (13, .int (0 : Int32)), (0, .ref 41), (17, .ref 116), (16, .ref 114), (7, .ref 113), (6, .ref 112), (5, .ref 111), (4, .ref 110), (3, .ref 109), (1, .ref 107)], none) (pc' := 30) (L' := [(0, .ref 106)]) h_m20 (z_at.mk 3 rfl rfl) rfl (by decide) rfl (Or.inl rfl) rfl rfl rfl ?_
  clear H m; intro m H
  refine w_p h_m20 2 (pc' := 32) (L' := [(0, .ref 106)]) (st' := [.int (0 : Int32), .ref 106]) rfl ?_
  refine w_pf H (12, 18, [(13, .int (0 : Int32)), (12, .int (0 : Int32)), (11, .int (0 : Int32)), (10, .int (0 : Int32)), (9, .long (0 : Int64)), (8, .int (0 : Int32)), (2, .int (0 : Int32)), (15, .int (0 : Int32)), (14, .int (0 : Int32)), (0, .ref 41), (17, .ref 116), (16, .ref 114), (7, .ref 113), (6, .ref 112), (5, .ref 111), (4, .ref 110), (3, .ref 109), (1, .ref 107)], none) (pc' := 35) (L' := [(0, .ref 106)]) h_m20 (z_at.mk 3 rfl rfl) rfl (by decide) rfl (Or.inl rfl) rfl rfl rfl ?_
  clear H m; intro m H
  refine w_p h_m20 2 (pc' := 37) (L' := [(0, .ref 106)]) (st' := [.int (0 : Int32), .ref 106]) rfl ?_
  refine w_pf H (12, 18, [(14, .int (0 : Int32)), (13, .int (0 : Int32)), (12, .int (0 : Int32)), (11, .int (0 : Int32)), (10, .int (0 : Int32)), (9, .long (0 : Int64)), (8, .int (0 : Int32)), (2, .int (0 : Int32)), (15, .int (0 : Int32)), (0, .ref 41), (17, .ref 116), (16, .ref 114), (7, .ref 113), (6, .ref 112), (5, .ref 111), (4, .ref 110), (3, .ref 109), (1, .ref 107)], none) (pc' := 40) (L' := [(0, .ref 106)]) h_m20 (z_at.mk 3 rfl rfl) rfl (by decide) rfl (Or.inl rfl) rfl rfl rfl ?_
  clear H m; intro m H
  refine w_p h_m20 2 (pc' := 42) (L' := [(0, .ref 106)]) (st' := [.int (0 : Int32), .ref 106]) rfl ?_
  refine w_pf H (12, 18, [(15, .int (0 : Int32)), (14, .int (0 : Int32)), (13, .int (0 : Int32)), (12, .int (0 : Int32)), (11, .int (0 : Int32)), (10, .int (0 : Int32)), (9, .long (0 : Int64)), (8, .int (0 : Int32)), (2, .int (0 : Int32)), (0, .ref 41), (17, .ref 116), (16, .ref 114), (7, .ref 113), (6, .ref 112), (5, .ref 111), (4, .ref 110), (3, .ref 109), (1, .ref 107)], none) (pc' := 45) (L' := [(0, .ref 106)]) h_m20 (z_at.mk 3 rfl rfl) rfl (by decide) rfl (Or.inl rfl) rfl rfl rfl ?_
  clear H m; intro m H
  refine w_rv h_m20 (z_at.mk 1 rfl rfl) rfl ?_
  show z_W 998 145 7 [(0, .ref 39), (1, .int (68 : Int32))] [] m _
  refine w_p h_m145 1 (pc' := 8) (L' := [(0, .ref 39), (1, .int (68 : Int32))]) (st' := [.ref 39]) rfl ?_
  refine w_gf H (pc' := 11) (L' := [(0, .ref 39), (1, .int (68 : Int32))]) h_m145 (z_at.mk 3 rfl rfl) rfl (u := .ref 106) rfl rfl rfl ?_
  refine w_gf H (pc' := 14) (L' := [(0, .ref 39), (1, .int (68 : Int32))]) h_m145 (z_at.mk 3 rfl rfl) rfl (u := .ref 107) rfl rfl rfl ?_
  refine w_p h_m145 1 (pc' := 15) (L' := [(0, .ref 39), (1, .int (68 : Int32))]) (st' := [.ref 39, .ref 107]) rfl ?_
  refine w_gf H (pc' := 18) (L' := [(0, .ref 39), (1, .int (68 : Int32))]) h_m145 (z_at.mk 3 rfl rfl) rfl (u := .ref 40) rfl rfl rfl ?_
  refine w_gf H (pc' := 21) (L' := [(0, .ref 39), (1, .int (68 : Int32))]) h_m145 (z_at.mk 3 rfl rfl) rfl (u := .ref 48) rfl rfl rfl ?_
  refine w_gf H (pc' := 24) (L' := [(0, .ref 39), (1, .int (68 : Int32))]) h_m145 (z_at.mk 3 rfl rfl) rfl (u := .ref 49) rfl rfl rfl ?_
  refine w_cv (H.t rfl) (pc' := 27) (L' := [(0, .ref 39), (1, .int (68 : Int32))]) (rest := []) (Ps := [.ref 49]) (L0 := [(0, .ref 107), (1, .ref 49)]) h_m145 (z_at.mk 3 rfl rfl) (Or.inl ⟨rfl, rfl⟩) rfl rfl (by decide) (by decide) rfl rfl rfl rfl rfl rfl (by decide) rfl rfl rfl ?_
  refine w_p h_m74 1 (pc' := 1) (L' := [(0, .ref 107), (1, .ref 49)]) (st' := [.ref 49]) rfl ?_
  refine w_gf H (pc' := 4) (L' := [(0, .ref 107), (1, .ref 49)]) h_m74 (z_at.mk 3 rfl rfl) rfl (u := .ref 50) rfl rfl rfl ?_
  refine w_p h_m74 2 (pc' := 6) (L' := [(0, .ref 107), (1, .ref 49)]) (st' := [.ref 107, .int (0 : Int32), .ref 50]) rfl ?_
  refine w_gf H (pc' := 9) (L' := [(0, .ref 107), (1, .ref 49)]) h_m74 (z_at.mk 3 rfl rfl) rfl (u := .ref 108) rfl rfl rfl ?_
  refine w_p h_m74 2 (pc' := 12) (L' := [(0, .ref 107), (1, .ref 49)]) (st' := [.int (7 : Int32), .int (0 : Int32), .ref 108, .int (0 : Int32), .ref 50]) rfl ?_
  refine w_cpf H (ra := (0, 7, [(6, .int (1024 : Int32)), (5, .int (1 : Int32)), (4, .int (1 : Int32)), (3, .int (0 : Int32)), (2, .int (12 : Int32)), (1, .int (40 : Int32)), (0, .int (10 : Int32))], some (.int (0 : Int32)))) (pc' := 15) (L' := [(0, .ref 107), (1, .ref 49)]) h_m74 (z_at.mk 3 rfl rfl) rfl (z_cat_le 0 rfl (by decide)) rfl rfl rfl rfl (by decide) rfl rfl ?_
  clear H m; intro m H
  refine w_rv h_m74 (z_at.mk 1 rfl rfl) rfl ?_
  show z_W 998 145 27 [(0, .ref 39), (1, .int (68 : Int32))] [] m _
  refine w_p h_m145 1 (pc' := 28) (L' := [(0, .ref 39), (1, .int (68 : Int32))]) (st' := [.ref 39]) rfl ?_
  refine w_gf H (pc' := 31) (L' := [(0, .ref 39), (1, .int (68 : Int32))]) h_m145 (z_at.mk 3 rfl rfl) rfl (u := .ref 106) rfl rfl rfl ?_
  refine w_gf H (pc' := 34) (L' := [(0, .ref 39), (1, .int (68 : Int32))]) h_m145 (z_at.mk 3 rfl rfl) rfl (u := .ref 107) rfl rfl rfl ?_
  refine w_p h_m145 2 (pc' := 36) (L' := [(0, .ref 39), (1, .int (68 : Int32))]) (st' := [.int (68 : Int32), .int (1 : Int32), .ref 107]) rfl ?_
  refine w_cv (H.t rfl) (pc' := 39) (L' := [(0, .ref 39), (1, .int (68 : Int32))]) (rest := []) (Ps := [.int (1 : Int32), .int (68 : Int32)]) (L0 := [(0, .ref 107), (1, .int (1 : Int32)), (2, .int (68 : Int32))]) h_m145 (z_at.mk 3 rfl rfl) (Or.inl ⟨rfl, rfl⟩) rfl rfl (by decide) (by decide) rfl rfl rfl rfl rfl rfl (by decide) rfl rfl rfl ?_
  refine w_p h_m73 6 (pc' := 11) (L' := [(0, .ref 107), (1, .int (1 : Int32)), (2, .int (68 : Int32))]) (st' := [.ref 107]) rfl ?_
  refine w_gf H (pc' := 14) (L' := [(0, .ref 107), (1, .int (1 : Int32)), (2, .int (68 : Int32))]) h_m73 (z_at.mk 3 rfl rfl) rfl (u := .ref 108) rfl rfl rfl ?_
  refine w_p h_m73 2 (pc' := 16) (L' := [(0, .ref 107), (1, .int (1 : Int32)), (2, .int (68 : Int32))]) (st' := [.int (68 : Int32), .int (1 : Int32), .ref 108]) rfl ?_
  refine w_as H (t := 0) (j := 1) (u := .int (68 : Int32)) (0, 7, [(1, .int (68 : Int32)), (6, .int (1024 : Int32)), (5, .int (1 : Int32)), (4, .int (1 : Int32)), (3, .int (0 : Int32)), (2, .int (12 : Int32)), (0, .int (10 : Int32))], some (.int (0 : Int32))) (pc' := 17) (L' := []) h_m73 (z_at.mk 1 rfl rfl) rfl rfl (w_ui _ _ (by decide)) rfl rfl rfl rfl ?_
  clear H m; intro m H
  refine w_rv h_m73 (z_at.mk 1 rfl rfl) rfl ?_
  show z_W 998 145 39 [(0, .ref 39), (1, .int (68 : Int32))] [] m _
  refine w_p h_m145 4 (pc' := 43) (L' := [(0, .ref 39), (2, .int (0 : Int32))]) (st' := [.ref 39, .int (0 : Int32)]) rfl ?_
  refine w_gf H (pc' := 46) (L' := [(0, .ref 39), (2, .int (0 : Int32))]) h_m145 (z_at.mk 3 rfl rfl) rfl (u := .ref 40) rfl rfl rfl ?_
  refine w_gf H (pc' := 49) (L' := [(0, .ref 39), (2, .int (0 : Int32))]) h_m145 (z_at.mk 3 rfl rfl) rfl (u := .ref 63) rfl rfl rfl ?_
  refine w_gf H (pc' := 52) (L' := [(0, .ref 39), (2, .int (0 : Int32))]) h_m145 (z_at.mk 3 rfl rfl) rfl (u := .int (0 : Int32)) rfl rfl rfl ?_
  refine w_p h_m145 1 (pc' := 79) (L' := [(0, .ref 39), (2, .int (0 : Int32))]) (st' := []) rfl ?_
  refine w_rv h_m145 (z_at.mk 1 rfl rfl) rfl ?_
  show z_W 999 146 13 [(0, .ref 39), (1, .int (xs 1)), (2, .int (68 : Int32))] [] m _
  refine w_p h_m146 1 (pc' := 14) (L' := [(0, .ref 39), (1, .int (xs 1)), (2, .int (68 : Int32))]) (st' := [.ref 39]) rfl ?_
  refine w_gf H (pc' := 17) (L' := [(0, .ref 39), (1, .int (xs 1)), (2, .int (68 : Int32))]) h_m146 (z_at.mk 3 rfl rfl) rfl (u := .ref 106) rfl rfl rfl ?_
  refine w_gf H (pc' := 20) (L' := [(0, .ref 39), (1, .int (xs 1)), (2, .int (68 : Int32))]) h_m146 (z_at.mk 3 rfl rfl) rfl (u := .int (0 : Int32)) rfl rfl rfl ?_
  refine w_p h_m146 1 (pc' := 21) (L' := [(0, .ref 39), (1, .int (xs 1)), (2, .int (68 : Int32))]) (st' := [.int (xs 1), .int (0 : Int32)]) rfl ?_
  refine w_t2 (pc' := 26) (L' := [(0, .ref 39), (1, .int (xs 1)), (2, .int (68 : Int32))]) h_m146 (z_at.mk 3 rfl rfl) rfl (zc (a := 0) (b := (xs 1).toInt) rfl rfl (decide_eq_true (by omega))) rfl rfl ?_
  refine w_p h_m146 2 (pc' := 2) (L' := [(0, .ref 39), (1, .int (xs 1)), (2, .int (69 : Int32))]) (st' := []) rfl ?_
  exact hQ m (H.subC (by decide +kernel))
set_option maxHeartbeats 400000000 in
set_option maxRecDepth 20000 in
theorem w_turn_146_69 {xs : Nat → Int32} {m : zM} {Q : Option Value → zM → Prop} (hp : (xs 1).toInt < 0) (H : w_ok 6 xs 168 63950 ((106, (12, 18, [(15, .int (0 : Int32)), (14, .int (0 : Int32)), (13, .int (0 : Int32)), (12, .int (0 : Int32)), (11, .int (0 : Int32)), (10, .int (0 : Int32)), (9, .long (0 : Int64)), (8, .int (0 : Int32)), (2, .int (0 : Int32)), (0, .ref 41), (17, .ref 116), (16, .ref 114), (7, .ref 113), (6, .ref 112), (5, .ref 111), (4, .ref 110), (3, .ref 109), (1, .ref 107)], none)) :: (108, (0, 7, [(1, .int (68 : Int32)), (6, .int (1024 : Int32)), (5, .int (1 : Int32)), (4, .int (1 : Int32)), (3, .int (0 : Int32)), (2, .int (12 : Int32)), (0, .int (10 : Int32))], some (.int (0 : Int32)))) :: w_T0) m) (hQ : ∀ m, w_ok 6 xs 168 63950 ((106, (12, 18, [(15, .int (0 : Int32)), (14, .int (0 : Int32)), (13, .int (0 : Int32)), (12, .int (0 : Int32)), (11, .int (0 : Int32)), (10, .int (0 : Int32)), (9, .long (0 : Int64)), (8, .int (0 : Int32)), (2, .int (0 : Int32)), (0, .ref 41), (17, .ref 116), (16, .ref 114), (7, .ref 113), (6, .ref 112), (5, .ref 111), (4, .ref 110), (3, .ref 109), (1, .ref 107)], none)) :: (108, (0, 7, [(1, .int (69 : Int32)), (6, .int (1024 : Int32)), (5, .int (1 : Int32)), (4, .int (1 : Int32)), (3, .int (0 : Int32)), (2, .int (12 : Int32)), (0, .int (10 : Int32))], some (.int (0 : Int32)))) :: w_T0) m → z_W 999 146 2 [(0, .ref 39), (1, .int (xs 1)), (2, .int (70 : Int32))] [] m Q) : z_W 999 146 2 [(0, .ref 39), (1, .int (xs 1)), (2, .int (69 : Int32))] [] m Q := by
  refine w_p h_m146 5 (pc' := 10) (L' := [(0, .ref 39), (1, .int (xs 1)), (2, .int (69 : Int32))]) (st' := [.int (69 : Int32), .ref 39]) rfl ?_
  refine w_cv (H.t rfl) (pc' := 13) (L' := [(0, .ref 39), (1, .int (xs 1)), (2, .int (69 : Int32))]) (rest := []) (Ps := [.int (69 : Int32)]) (L0 := [(0, .ref 39), (1, .int (69 : Int32))]) h_m146 (z_at.mk 3 rfl rfl) (Or.inl ⟨rfl, rfl⟩) rfl rfl (by decide) (by decide) rfl rfl rfl rfl rfl rfl (by decide) rfl rfl rfl ?_
  refine w_p h_m145 1 (pc' := 1) (L' := [(0, .ref 39), (1, .int (69 : Int32))]) (st' := [.ref 39]) rfl ?_
  refine w_gf H (pc' := 4) (L' := [(0, .ref 39), (1, .int (69 : Int32))]) h_m145 (z_at.mk 3 rfl rfl) rfl (u := .ref 106) rfl rfl rfl ?_
  refine w_cv (H.t rfl) (pc' := 7) (L' := [(0, .ref 39), (1, .int (69 : Int32))]) (rest := []) (Ps := []) (L0 := [(0, .ref 106)]) h_m145 (z_at.mk 3 rfl rfl) (Or.inl ⟨rfl, rfl⟩) rfl rfl (by decide) (by decide) rfl rfl rfl rfl rfl rfl (by decide) rfl rfl rfl ?_
  refine w_p h_m20 2 (pc' := 2) (L' := [(0, .ref 106)]) (st' := [.int (0 : Int32), .ref 106]) rfl ?_
  refine w_pf H (12, 18, [(2, .int (0 : Int32)), (15, .int (0 : Int32)), (14, .int (0 : Int32)), (13, .int (0 : Int32)), (12, .int (0 : Int32)), (11, .int (0 : Int32)), (10, .int (0 : Int32)), (9, .long (0 : Int64)), (8, .int (0 : Int32)), (0, .ref 41), (17, .ref 116), (16, .ref 114), (7, .ref 113), (6, .ref 112), (5, .ref 111), (4, .ref 110), (3, .ref 109), (1, .ref 107)], none) (pc' := 5) (L' := [(0, .ref 106)]) h_m20 (z_at.mk 3 rfl rfl) rfl (by decide) rfl (Or.inl rfl) rfl rfl rfl ?_
  clear H m; intro m H
  refine w_p h_m20 2 (pc' := 7) (L' := [(0, .ref 106)]) (st' := [.int (0 : Int32), .ref 106]) rfl ?_
  refine w_pf H (12, 18, [(8, .int (0 : Int32)), (2, .int (0 : Int32)), (15, .int (0 : Int32)), (14, .int (0 : Int32)), (13, .int (0 : Int32)), (12, .int (0 : Int32)), (11, .int (0 : Int32)), (10, .int (0 : Int32)), (9, .long (0 : Int64)), (0, .ref 41), (17, .ref 116), (16, .ref 114), (7, .ref 113), (6, .ref 112), (5, .ref 111), (4, .ref 110), (3, .ref 109), (1, .ref 107)], none) (pc' := 10) (L' := [(0, .ref 106)]) h_m20 (z_at.mk 3 rfl rfl) rfl (by decide) rfl (Or.inl rfl) rfl rfl rfl ?_
  clear H m; intro m H
  refine w_p h_m20 2 (pc' := 12) (L' := [(0, .ref 106)]) (st' := [.long (0 : Int64), .ref 106]) rfl ?_
  refine w_pf H (12, 18, [(9, .long (0 : Int64)), (8, .int (0 : Int32)), (2, .int (0 : Int32)), (15, .int (0 : Int32)), (14, .int (0 : Int32)), (13, .int (0 : Int32)), (12, .int (0 : Int32)), (11, .int (0 : Int32)), (10, .int (0 : Int32)), (0, .ref 41), (17, .ref 116), (16, .ref 114), (7, .ref 113), (6, .ref 112), (5, .ref 111), (4, .ref 110), (3, .ref 109), (1, .ref 107)], none) (pc' := 15) (L' := [(0, .ref 106)]) h_m20 (z_at.mk 3 rfl rfl) rfl (by decide) rfl (Or.inl rfl) rfl rfl rfl ?_
  clear H m; intro m H
  refine w_p h_m20 2 (pc' := 17) (L' := [(0, .ref 106)]) (st' := [.int (0 : Int32), .ref 106]) rfl ?_
  refine w_pf H (12, 18, [(10, .int (0 : Int32)), (9, .long (0 : Int64)), (8, .int (0 : Int32)), (2, .int (0 : Int32)), (15, .int (0 : Int32)), (14, .int (0 : Int32)), (13, .int (0 : Int32)), (12, .int (0 : Int32)), (11, .int (0 : Int32)), (0, .ref 41), (17, .ref 116), (16, .ref 114), (7, .ref 113), (6, .ref 112), (5, .ref 111), (4, .ref 110), (3, .ref 109), (1, .ref 107)], none) (pc' := 20) (L' := [(0, .ref 106)]) h_m20 (z_at.mk 3 rfl rfl) rfl (by decide) rfl (Or.inl rfl) rfl rfl rfl ?_
  clear H m; intro m H
  refine w_p h_m20 2 (pc' := 22) (L' := [(0, .ref 106)]) (st' := [.int (0 : Int32), .ref 106]) rfl ?_
  refine w_pf H (12, 18, [(11, .int (0 : Int32)), (10, .int (0 : Int32)), (9, .long (0 : Int64)), (8, .int (0 : Int32)), (2, .int (0 : Int32)), (15, .int (0 : Int32)), (14, .int (0 : Int32)), (13, .int (0 : Int32)), (12, .int (0 : Int32)), (0, .ref 41), (17, .ref 116), (16, .ref 114), (7, .ref 113), (6, .ref 112), (5, .ref 111), (4, .ref 110), (3, .ref 109), (1, .ref 107)], none) (pc' := 25) (L' := [(0, .ref 106)]) h_m20 (z_at.mk 3 rfl rfl) rfl (by decide) rfl (Or.inl rfl) rfl rfl rfl ?_
  clear H m; intro m H
  refine w_p h_m20 2 (pc' := 27) (L' := [(0, .ref 106)]) (st' := [.int (0 : Int32), .ref 106]) rfl ?_
  refine w_pf H (12, 18, [(12, .int (0 : Int32)), (11, .int (0 : Int32)), (10, .int (0 : Int32)), (9, .long (0 : Int64)), (8, .int (0 : Int32)), (2, .int (0 : Int32)), (15, .int (0 : Int32)), (14, .int (0 : Int32)), (13, .int (0 : Int32)), (0, .ref 41), (17, .ref 116), (16, .ref 114), (7, .ref 113), (6, .ref 112), (5, .ref 111), (4, .ref 110), (3, .ref 109), (1, .ref 107)], none) (pc' := 30) (L' := [(0, .ref 106)]) h_m20 (z_at.mk 3 rfl rfl) rfl (by decide) rfl (Or.inl rfl) rfl rfl rfl ?_
  clear H m; intro m H
  refine w_p h_m20 2 (pc' := 32) (L' := [(0, .ref 106)]) (st' := [.int (0 : Int32), .ref 106]) rfl ?_
  refine w_pf H (12, 18, [(13, .int (0 : Int32)), (12, .int (0 : Int32)), (11, .int (0 : Int32)), (10, .int (0 : Int32)), (9, .long (0 : Int64)), (8, .int (0 : Int32)), (2, .int (0 : Int32)), (15, .int (0 : Int32)), (14, .int (0 : Int32)), (0, .ref 41), (17, .ref 116), (16, .ref 114), (7, .ref 113), (6, .ref 112), (5, .ref 111), (4, .ref 110), (3, .ref 109), (1, .ref 107)], none) (pc' := 35) (L' := [(0, .ref 106)]) h_m20 (z_at.mk 3 rfl rfl) rfl (by decide) rfl (Or.inl rfl) rfl rfl rfl ?_
  clear H m; intro m H
  refine w_p h_m20 2 (pc' := 37) (L' := [(0, .ref 106)]) (st' := [.int (0 : Int32), .ref 106]) rfl ?_
  refine w_pf H (12, 18, [(14, .int (0 : Int32)), (13, .int (0 : Int32)), (12, .int (0 : Int32)), (11, .int (0 : Int32)), (10, .int (0 : Int32)), (9, .long (0 : Int64)), (8, .int (0 : Int32)), (2, .int (0 : Int32)), (15, .int (0 : Int32)), (0, .ref 41), (17, .ref 116), (16, .ref 114), (7, .ref 113), (6, .ref 112), (5, .ref 111), (4, .ref 110), (3, .ref 109), (1, .ref 107)], none) (pc' := 40) (L' := [(0, .ref 106)]) h_m20 (z_at.mk 3 rfl rfl) rfl (by decide) rfl (Or.inl rfl) rfl rfl rfl ?_
  clear H m; intro m H
  refine w_p h_m20 2 (pc' := 42) (L' := [(0, .ref 106)]) (st' := [.int (0 : Int32), .ref 106]) rfl ?_
  refine w_pf H (12, 18, [(15, .int (0 : Int32)), (14, .int (0 : Int32)), (13, .int (0 : Int32)), (12, .int (0 : Int32)), (11, .int (0 : Int32)), (10, .int (0 : Int32)), (9, .long (0 : Int64)), (8, .int (0 : Int32)), (2, .int (0 : Int32)), (0, .ref 41), (17, .ref 116), (16, .ref 114), (7, .ref 113), (6, .ref 112), (5, .ref 111), (4, .ref 110), (3, .ref 109), (1, .ref 107)], none) (pc' := 45) (L' := [(0, .ref 106)]) h_m20 (z_at.mk 3 rfl rfl) rfl (by decide) rfl (Or.inl rfl) rfl rfl rfl ?_
  clear H m; intro m H
  refine w_rv h_m20 (z_at.mk 1 rfl rfl) rfl ?_
  show z_W 998 145 7 [(0, .ref 39), (1, .int (69 : Int32))] [] m _
  refine w_p h_m145 1 (pc' := 8) (L' := [(0, .ref 39), (1, .int (69 : Int32))]) (st' := [.ref 39]) rfl ?_
  refine w_gf H (pc' := 11) (L' := [(0, .ref 39), (1, .int (69 : Int32))]) h_m145 (z_at.mk 3 rfl rfl) rfl (u := .ref 106) rfl rfl rfl ?_
  refine w_gf H (pc' := 14) (L' := [(0, .ref 39), (1, .int (69 : Int32))]) h_m145 (z_at.mk 3 rfl rfl) rfl (u := .ref 107) rfl rfl rfl ?_
  refine w_p h_m145 1 (pc' := 15) (L' := [(0, .ref 39), (1, .int (69 : Int32))]) (st' := [.ref 39, .ref 107]) rfl ?_
  refine w_gf H (pc' := 18) (L' := [(0, .ref 39), (1, .int (69 : Int32))]) h_m145 (z_at.mk 3 rfl rfl) rfl (u := .ref 40) rfl rfl rfl ?_
  refine w_gf H (pc' := 21) (L' := [(0, .ref 39), (1, .int (69 : Int32))]) h_m145 (z_at.mk 3 rfl rfl) rfl (u := .ref 48) rfl rfl rfl ?_
  refine w_gf H (pc' := 24) (L' := [(0, .ref 39), (1, .int (69 : Int32))]) h_m145 (z_at.mk 3 rfl rfl) rfl (u := .ref 49) rfl rfl rfl ?_
  refine w_cv (H.t rfl) (pc' := 27) (L' := [(0, .ref 39), (1, .int (69 : Int32))]) (rest := []) (Ps := [.ref 49]) (L0 := [(0, .ref 107), (1, .ref 49)]) h_m145 (z_at.mk 3 rfl rfl) (Or.inl ⟨rfl, rfl⟩) rfl rfl (by decide) (by decide) rfl rfl rfl rfl rfl rfl (by decide) rfl rfl rfl ?_
  refine w_p h_m74 1 (pc' := 1) (L' := [(0, .ref 107), (1, .ref 49)]) (st' := [.ref 49]) rfl ?_
  refine w_gf H (pc' := 4) (L' := [(0, .ref 107), (1, .ref 49)]) h_m74 (z_at.mk 3 rfl rfl) rfl (u := .ref 50) rfl rfl rfl ?_
  refine w_p h_m74 2 (pc' := 6) (L' := [(0, .ref 107), (1, .ref 49)]) (st' := [.ref 107, .int (0 : Int32), .ref 50]) rfl ?_
  refine w_gf H (pc' := 9) (L' := [(0, .ref 107), (1, .ref 49)]) h_m74 (z_at.mk 3 rfl rfl) rfl (u := .ref 108) rfl rfl rfl ?_
  refine w_p h_m74 2 (pc' := 12) (L' := [(0, .ref 107), (1, .ref 49)]) (st' := [.int (7 : Int32), .int (0 : Int32), .ref 108, .int (0 : Int32), .ref 50]) rfl ?_
  refine w_cpf H (ra := (0, 7, [(6, .int (1024 : Int32)), (5, .int (1 : Int32)), (4, .int (1 : Int32)), (3, .int (0 : Int32)), (2, .int (12 : Int32)), (1, .int (40 : Int32)), (0, .int (10 : Int32))], some (.int (0 : Int32)))) (pc' := 15) (L' := [(0, .ref 107), (1, .ref 49)]) h_m74 (z_at.mk 3 rfl rfl) rfl (z_cat_le 0 rfl (by decide)) rfl rfl rfl rfl (by decide) rfl rfl ?_
  clear H m; intro m H
  refine w_rv h_m74 (z_at.mk 1 rfl rfl) rfl ?_
  show z_W 998 145 27 [(0, .ref 39), (1, .int (69 : Int32))] [] m _
  refine w_p h_m145 1 (pc' := 28) (L' := [(0, .ref 39), (1, .int (69 : Int32))]) (st' := [.ref 39]) rfl ?_
  refine w_gf H (pc' := 31) (L' := [(0, .ref 39), (1, .int (69 : Int32))]) h_m145 (z_at.mk 3 rfl rfl) rfl (u := .ref 106) rfl rfl rfl ?_
  refine w_gf H (pc' := 34) (L' := [(0, .ref 39), (1, .int (69 : Int32))]) h_m145 (z_at.mk 3 rfl rfl) rfl (u := .ref 107) rfl rfl rfl ?_
  refine w_p h_m145 2 (pc' := 36) (L' := [(0, .ref 39), (1, .int (69 : Int32))]) (st' := [.int (69 : Int32), .int (1 : Int32), .ref 107]) rfl ?_
  refine w_cv (H.t rfl) (pc' := 39) (L' := [(0, .ref 39), (1, .int (69 : Int32))]) (rest := []) (Ps := [.int (1 : Int32), .int (69 : Int32)]) (L0 := [(0, .ref 107), (1, .int (1 : Int32)), (2, .int (69 : Int32))]) h_m145 (z_at.mk 3 rfl rfl) (Or.inl ⟨rfl, rfl⟩) rfl rfl (by decide) (by decide) rfl rfl rfl rfl rfl rfl (by decide) rfl rfl rfl ?_
  refine w_p h_m73 6 (pc' := 11) (L' := [(0, .ref 107), (1, .int (1 : Int32)), (2, .int (69 : Int32))]) (st' := [.ref 107]) rfl ?_
  refine w_gf H (pc' := 14) (L' := [(0, .ref 107), (1, .int (1 : Int32)), (2, .int (69 : Int32))]) h_m73 (z_at.mk 3 rfl rfl) rfl (u := .ref 108) rfl rfl rfl ?_
  refine w_p h_m73 2 (pc' := 16) (L' := [(0, .ref 107), (1, .int (1 : Int32)), (2, .int (69 : Int32))]) (st' := [.int (69 : Int32), .int (1 : Int32), .ref 108]) rfl ?_
  refine w_as H (t := 0) (j := 1) (u := .int (69 : Int32)) (0, 7, [(1, .int (69 : Int32)), (6, .int (1024 : Int32)), (5, .int (1 : Int32)), (4, .int (1 : Int32)), (3, .int (0 : Int32)), (2, .int (12 : Int32)), (0, .int (10 : Int32))], some (.int (0 : Int32))) (pc' := 17) (L' := []) h_m73 (z_at.mk 1 rfl rfl) rfl rfl (w_ui _ _ (by decide)) rfl rfl rfl rfl ?_
  clear H m; intro m H
  refine w_rv h_m73 (z_at.mk 1 rfl rfl) rfl ?_
  show z_W 998 145 39 [(0, .ref 39), (1, .int (69 : Int32))] [] m _
  refine w_p h_m145 4 (pc' := 43) (L' := [(0, .ref 39), (2, .int (0 : Int32))]) (st' := [.ref 39, .int (0 : Int32)]) rfl ?_
  refine w_gf H (pc' := 46) (L' := [(0, .ref 39), (2, .int (0 : Int32))]) h_m145 (z_at.mk 3 rfl rfl) rfl (u := .ref 40) rfl rfl rfl ?_
  refine w_gf H (pc' := 49) (L' := [(0, .ref 39), (2, .int (0 : Int32))]) h_m145 (z_at.mk 3 rfl rfl) rfl (u := .ref 63) rfl rfl rfl ?_
  refine w_gf H (pc' := 52) (L' := [(0, .ref 39), (2, .int (0 : Int32))]) h_m145 (z_at.mk 3 rfl rfl) rfl (u := .int (0 : Int32)) rfl rfl rfl ?_
  refine w_p h_m145 1 (pc' := 79) (L' := [(0, .ref 39), (2, .int (0 : Int32))]) (st' := []) rfl ?_
  refine w_rv h_m145 (z_at.mk 1 rfl rfl) rfl ?_
  show z_W 999 146 13 [(0, .ref 39), (1, .int (xs 1)), (2, .int (69 : Int32))] [] m _
  refine w_p h_m146 1 (pc' := 14) (L' := [(0, .ref 39), (1, .int (xs 1)), (2, .int (69 : Int32))]) (st' := [.ref 39]) rfl ?_
  refine w_gf H (pc' := 17) (L' := [(0, .ref 39), (1, .int (xs 1)), (2, .int (69 : Int32))]) h_m146 (z_at.mk 3 rfl rfl) rfl (u := .ref 106) rfl rfl rfl ?_
  refine w_gf H (pc' := 20) (L' := [(0, .ref 39), (1, .int (xs 1)), (2, .int (69 : Int32))]) h_m146 (z_at.mk 3 rfl rfl) rfl (u := .int (0 : Int32)) rfl rfl rfl ?_
  refine w_p h_m146 1 (pc' := 21) (L' := [(0, .ref 39), (1, .int (xs 1)), (2, .int (69 : Int32))]) (st' := [.int (xs 1), .int (0 : Int32)]) rfl ?_
  refine w_t2 (pc' := 26) (L' := [(0, .ref 39), (1, .int (xs 1)), (2, .int (69 : Int32))]) h_m146 (z_at.mk 3 rfl rfl) rfl (zc (a := 0) (b := (xs 1).toInt) rfl rfl (decide_eq_true (by omega))) rfl rfl ?_
  refine w_p h_m146 2 (pc' := 2) (L' := [(0, .ref 39), (1, .int (xs 1)), (2, .int (70 : Int32))]) (st' := []) rfl ?_
  exact hQ m (H.subC (by decide +kernel))
set_option maxHeartbeats 400000000 in
set_option maxRecDepth 20000 in
theorem w_turn_146_70 {xs : Nat → Int32} {m : zM} {Q : Option Value → zM → Prop} (hp : (xs 1).toInt < 0) (H : w_ok 6 xs 168 63950 ((106, (12, 18, [(15, .int (0 : Int32)), (14, .int (0 : Int32)), (13, .int (0 : Int32)), (12, .int (0 : Int32)), (11, .int (0 : Int32)), (10, .int (0 : Int32)), (9, .long (0 : Int64)), (8, .int (0 : Int32)), (2, .int (0 : Int32)), (0, .ref 41), (17, .ref 116), (16, .ref 114), (7, .ref 113), (6, .ref 112), (5, .ref 111), (4, .ref 110), (3, .ref 109), (1, .ref 107)], none)) :: (108, (0, 7, [(1, .int (69 : Int32)), (6, .int (1024 : Int32)), (5, .int (1 : Int32)), (4, .int (1 : Int32)), (3, .int (0 : Int32)), (2, .int (12 : Int32)), (0, .int (10 : Int32))], some (.int (0 : Int32)))) :: w_T0) m) (hQ : ∀ m, w_ok 6 xs 168 63950 ((106, (12, 18, [(15, .int (0 : Int32)), (14, .int (0 : Int32)), (13, .int (0 : Int32)), (12, .int (0 : Int32)), (11, .int (0 : Int32)), (10, .int (0 : Int32)), (9, .long (0 : Int64)), (8, .int (0 : Int32)), (2, .int (0 : Int32)), (0, .ref 41), (17, .ref 116), (16, .ref 114), (7, .ref 113), (6, .ref 112), (5, .ref 111), (4, .ref 110), (3, .ref 109), (1, .ref 107)], none)) :: (108, (0, 7, [(1, .int (70 : Int32)), (6, .int (1024 : Int32)), (5, .int (1 : Int32)), (4, .int (1 : Int32)), (3, .int (0 : Int32)), (2, .int (12 : Int32)), (0, .int (10 : Int32))], some (.int (0 : Int32)))) :: w_T0) m → z_W 999 146 2 [(0, .ref 39), (1, .int (xs 1)), (2, .int (71 : Int32))] [] m Q) : z_W 999 146 2 [(0, .ref 39), (1, .int (xs 1)), (2, .int (70 : Int32))] [] m Q := by
  refine w_p h_m146 5 (pc' := 10) (L' := [(0, .ref 39), (1, .int (xs 1)), (2, .int (70 : Int32))]) (st' := [.int (70 : Int32), .ref 39]) rfl ?_
  refine w_cv (H.t rfl) (pc' := 13) (L' := [(0, .ref 39), (1, .int (xs 1)), (2, .int (70 : Int32))]) (rest := []) (Ps := [.int (70 : Int32)]) (L0 := [(0, .ref 39), (1, .int (70 : Int32))]) h_m146 (z_at.mk 3 rfl rfl) (Or.inl ⟨rfl, rfl⟩) rfl rfl (by decide) (by decide) rfl rfl rfl rfl rfl rfl (by decide) rfl rfl rfl ?_
  refine w_p h_m145 1 (pc' := 1) (L' := [(0, .ref 39), (1, .int (70 : Int32))]) (st' := [.ref 39]) rfl ?_
  refine w_gf H (pc' := 4) (L' := [(0, .ref 39), (1, .int (70 : Int32))]) h_m145 (z_at.mk 3 rfl rfl) rfl (u := .ref 106) rfl rfl rfl ?_
  refine w_cv (H.t rfl) (pc' := 7) (L' := [(0, .ref 39), (1, .int (70 : Int32))]) (rest := []) (Ps := []) (L0 := [(0, .ref 106)]) h_m145 (z_at.mk 3 rfl rfl) (Or.inl ⟨rfl, rfl⟩) rfl rfl (by decide) (by decide) rfl rfl rfl rfl rfl rfl (by decide) rfl rfl rfl ?_
  refine w_p h_m20 2 (pc' := 2) (L' := [(0, .ref 106)]) (st' := [.int (0 : Int32), .ref 106]) rfl ?_
  refine w_pf H (12, 18, [(2, .int (0 : Int32)), (15, .int (0 : Int32)), (14, .int (0 : Int32)), (13, .int (0 : Int32)), (12, .int (0 : Int32)), (11, .int (0 : Int32)), (10, .int (0 : Int32)), (9, .long (0 : Int64)), (8, .int (0 : Int32)), (0, .ref 41), (17, .ref 116), (16, .ref 114), (7, .ref 113), (6, .ref 112), (5, .ref 111), (4, .ref 110), (3, .ref 109), (1, .ref 107)], none) (pc' := 5) (L' := [(0, .ref 106)]) h_m20 (z_at.mk 3 rfl rfl) rfl (by decide) rfl (Or.inl rfl) rfl rfl rfl ?_
  clear H m; intro m H
  refine w_p h_m20 2 (pc' := 7) (L' := [(0, .ref 106)]) (st' := [.int (0 : Int32), .ref 106]) rfl ?_
  refine w_pf H (12, 18, [(8, .int (0 : Int32)), (2, .int (0 : Int32)), (15, .int (0 : Int32)), (14, .int (0 : Int32)), (13, .int (0 : Int32)), (12, .int (0 : Int32)), (11, .int (0 : Int32)), (10, .int (0 : Int32)), (9, .long (0 : Int64)), (0, .ref 41), (17, .ref 116), (16, .ref 114), (7, .ref 113), (6, .ref 112), (5, .ref 111), (4, .ref 110), (3, .ref 109), (1, .ref 107)], none) (pc' := 10) (L' := [(0, .ref 106)]) h_m20 (z_at.mk 3 rfl rfl) rfl (by decide) rfl (Or.inl rfl) rfl rfl rfl ?_
  clear H m; intro m H
  refine w_p h_m20 2 (pc' := 12) (L' := [(0, .ref 106)]) (st' := [.long (0 : Int64), .ref 106]) rfl ?_
  refine w_pf H (12, 18, [(9, .long (0 : Int64)), (8, .int (0 : Int32)), (2, .int (0 : Int32)), (15, .int (0 : Int32)), (14, .int (0 : Int32)), (13, .int (0 : Int32)), (12, .int (0 : Int32)), (11, .int (0 : Int32)), (10, .int (0 : Int32)), (0, .ref 41), (17, .ref 116), (16, .ref 114), (7, .ref 113), (6, .ref 112), (5, .ref 111), (4, .ref 110), (3, .ref 109), (1, .ref 107)], none) (pc' := 15) (L' := [(0, .ref 106)]) h_m20 (z_at.mk 3 rfl rfl) rfl (by decide) rfl (Or.inl rfl) rfl rfl rfl ?_
  clear H m; intro m H
  refine w_p h_m20 2 (pc' := 17) (L' := [(0, .ref 106)]) (st' := [.int (0 : Int32), .ref 106]) rfl ?_
  refine w_pf H (12, 18, [(10, .int (0 : Int32)), (9, .long (0 : Int64)), (8, .int (0 : Int32)), (2, .int (0 : Int32)), (15, .int (0 : Int32)), (14, .int (0 : Int32)), (13, .int (0 : Int32)), (12, .int (0 : Int32)), (11, .int (0 : Int32)), (0, .ref 41), (17, .ref 116), (16, .ref 114), (7, .ref 113), (6, .ref 112), (5, .ref 111), (4, .ref 110), (3, .ref 109), (1, .ref 107)], none) (pc' := 20) (L' := [(0, .ref 106)]) h_m20 (z_at.mk 3 rfl rfl) rfl (by decide) rfl (Or.inl rfl) rfl rfl rfl ?_
  clear H m; intro m H
  refine w_p h_m20 2 (pc' := 22) (L' := [(0, .ref 106)]) (st' := [.int (0 : Int32), .ref 106]) rfl ?_
  refine w_pf H (12, 18, [(11, .int (0 : Int32)), (10, .int (0 : Int32)), (9, .long (0 : Int64)), (8, .int (0 : Int32)), (2, .int (0 : Int32)), (15, .int (0 : Int32)), (14, .int (0 : Int32)), (13, .int (0 : Int32)), (12, .int (0 : Int32)), (0, .ref 41), (17, .ref 116), (16, .ref 114), (7, .ref 113), (6, .ref 112), (5, .ref 111), (4, .ref 110), (3, .ref 109), (1, .ref 107)], none) (pc' := 25) (L' := [(0, .ref 106)]) h_m20 (z_at.mk 3 rfl rfl) rfl (by decide) rfl (Or.inl rfl) rfl rfl rfl ?_
  clear H m; intro m H
  refine w_p h_m20 2 (pc' := 27) (L' := [(0, .ref 106)]) (st' := [.int (0 : Int32), .ref 106]) rfl ?_
  refine w_pf H (12, 18, [(12, .int (0 : Int32)), (11, .int (0 : Int32)), (10, .int (0 : Int32)), (9, .long (0 : Int64)), (8, .int (0 : Int32)), (2, .int (0 : Int32)), (15, .int (0 : Int32)), (14, .int (0 : Int32)), (13, .int (0 : Int32)), (0, .ref 41), (17, .ref 116), (16, .ref 114), (7, .ref 113), (6, .ref 112), (5, .ref 111), (4, .ref 110), (3, .ref 109), (1, .ref 107)], none) (pc' := 30) (L' := [(0, .ref 106)]) h_m20 (z_at.mk 3 rfl rfl) rfl (by decide) rfl (Or.inl rfl) rfl rfl rfl ?_
  clear H m; intro m H
  refine w_p h_m20 2 (pc' := 32) (L' := [(0, .ref 106)]) (st' := [.int (0 : Int32), .ref 106]) rfl ?_
  refine w_pf H (12, 18, [(13, .int (0 : Int32)), (12, .int (0 : Int32)), (11, .int (0 : Int32)), (10, .int (0 : Int32)), (9, .long (0 : Int64)), (8, .int (0 : Int32)), (2, .int (0 : Int32)), (15, .int (0 : Int32)), (14, .int (0 : Int32)), (0, .ref 41), (17, .ref 116), (16, .ref 114), (7, .ref 113), (6, .ref 112), (5, .ref 111), (4, .ref 110), (3, .ref 109), (1, .ref 107)], none) (pc' := 35) (L' := [(0, .ref 106)]) h_m20 (z_at.mk 3 rfl rfl) rfl (by decide) rfl (Or.inl rfl) rfl rfl rfl ?_
  clear H m; intro m H
  refine w_p h_m20 2 (pc' := 37) (L' := [(0, .ref 106)]) (st' := [.int (0 : Int32), .ref 106]) rfl ?_
  refine w_pf H (12, 18, [(14, .int (0 : Int32)), (13, .int (0 : Int32)), (12, .int (0 : Int32)), (11, .int (0 : Int32)), (10, .int (0 : Int32)), (9, .long (0 : Int64)), (8, .int (0 : Int32)), (2, .int (0 : Int32)), (15, .int (0 : Int32)), (0, .ref 41), (17, .ref 116), (16, .ref 114), (7, .ref 113), (6, .ref 112), (5, .ref 111), (4, .ref 110), (3, .ref 109), (1, .ref 107)], none) (pc' := 40) (L' := [(0, .ref 106)]) h_m20 (z_at.mk 3 rfl rfl) rfl (by decide) rfl (Or.inl rfl) rfl rfl rfl ?_
  clear H m; intro m H
  refine w_p h_m20 2 (pc' := 42) (L' := [(0, .ref 106)]) (st' := [.int (0 : Int32), .ref 106]) rfl ?_
  refine w_pf H (12, 18, [(15, .int (0 : Int32)), (14, .int (0 : Int32)), (13, .int (0 : Int32)), (12, .int (0 : Int32)), (11, .int (0 : Int32)), (10, .int (0 : Int32)), (9, .long (0 : Int64)), (8, .int (0 : Int32)), (2, .int (0 : Int32)), (0, .ref 41), (17, .ref 116), (16, .ref 114), (7, .ref 113), (6, .ref 112), (5, .ref 111), (4, .ref 110), (3, .ref 109), (1, .ref 107)], none) (pc' := 45) (L' := [(0, .ref 106)]) h_m20 (z_at.mk 3 rfl rfl) rfl (by decide) rfl (Or.inl rfl) rfl rfl rfl ?_
  clear H m; intro m H
  refine w_rv h_m20 (z_at.mk 1 rfl rfl) rfl ?_
  show z_W 998 145 7 [(0, .ref 39), (1, .int (70 : Int32))] [] m _
  refine w_p h_m145 1 (pc' := 8) (L' := [(0, .ref 39), (1, .int (70 : Int32))]) (st' := [.ref 39]) rfl ?_
  refine w_gf H (pc' := 11) (L' := [(0, .ref 39), (1, .int (70 : Int32))]) h_m145 (z_at.mk 3 rfl rfl) rfl (u := .ref 106) rfl rfl rfl ?_
  refine w_gf H (pc' := 14) (L' := [(0, .ref 39), (1, .int (70 : Int32))]) h_m145 (z_at.mk 3 rfl rfl) rfl (u := .ref 107) rfl rfl rfl ?_
  refine w_p h_m145 1 (pc' := 15) (L' := [(0, .ref 39), (1, .int (70 : Int32))]) (st' := [.ref 39, .ref 107]) rfl ?_
  refine w_gf H (pc' := 18) (L' := [(0, .ref 39), (1, .int (70 : Int32))]) h_m145 (z_at.mk 3 rfl rfl) rfl (u := .ref 40) rfl rfl rfl ?_
  refine w_gf H (pc' := 21) (L' := [(0, .ref 39), (1, .int (70 : Int32))]) h_m145 (z_at.mk 3 rfl rfl) rfl (u := .ref 48) rfl rfl rfl ?_
  refine w_gf H (pc' := 24) (L' := [(0, .ref 39), (1, .int (70 : Int32))]) h_m145 (z_at.mk 3 rfl rfl) rfl (u := .ref 49) rfl rfl rfl ?_
  refine w_cv (H.t rfl) (pc' := 27) (L' := [(0, .ref 39), (1, .int (70 : Int32))]) (rest := []) (Ps := [.ref 49]) (L0 := [(0, .ref 107), (1, .ref 49)]) h_m145 (z_at.mk 3 rfl rfl) (Or.inl ⟨rfl, rfl⟩) rfl rfl (by decide) (by decide) rfl rfl rfl rfl rfl rfl (by decide) rfl rfl rfl ?_
  refine w_p h_m74 1 (pc' := 1) (L' := [(0, .ref 107), (1, .ref 49)]) (st' := [.ref 49]) rfl ?_
  refine w_gf H (pc' := 4) (L' := [(0, .ref 107), (1, .ref 49)]) h_m74 (z_at.mk 3 rfl rfl) rfl (u := .ref 50) rfl rfl rfl ?_
  refine w_p h_m74 2 (pc' := 6) (L' := [(0, .ref 107), (1, .ref 49)]) (st' := [.ref 107, .int (0 : Int32), .ref 50]) rfl ?_
  refine w_gf H (pc' := 9) (L' := [(0, .ref 107), (1, .ref 49)]) h_m74 (z_at.mk 3 rfl rfl) rfl (u := .ref 108) rfl rfl rfl ?_
  refine w_p h_m74 2 (pc' := 12) (L' := [(0, .ref 107), (1, .ref 49)]) (st' := [.int (7 : Int32), .int (0 : Int32), .ref 108, .int (0 : Int32), .ref 50]) rfl ?_
  refine w_cpf H (ra := (0, 7, [(6, .int (1024 : Int32)), (5, .int (1 : Int32)), (4, .int (1 : Int32)), (3, .int (0 : Int32)), (2, .int (12 : Int32)), (1, .int (40 : Int32)), (0, .int (10 : Int32))], some (.int (0 : Int32)))) (pc' := 15) (L' := [(0, .ref 107), (1, .ref 49)]) h_m74 (z_at.mk 3 rfl rfl) rfl (z_cat_le 0 rfl (by decide)) rfl rfl rfl rfl (by decide) rfl rfl ?_
  clear H m; intro m H
  refine w_rv h_m74 (z_at.mk 1 rfl rfl) rfl ?_
  show z_W 998 145 27 [(0, .ref 39), (1, .int (70 : Int32))] [] m _
  refine w_p h_m145 1 (pc' := 28) (L' := [(0, .ref 39), (1, .int (70 : Int32))]) (st' := [.ref 39]) rfl ?_
  refine w_gf H (pc' := 31) (L' := [(0, .ref 39), (1, .int (70 : Int32))]) h_m145 (z_at.mk 3 rfl rfl) rfl (u := .ref 106) rfl rfl rfl ?_
  refine w_gf H (pc' := 34) (L' := [(0, .ref 39), (1, .int (70 : Int32))]) h_m145 (z_at.mk 3 rfl rfl) rfl (u := .ref 107) rfl rfl rfl ?_
  refine w_p h_m145 2 (pc' := 36) (L' := [(0, .ref 39), (1, .int (70 : Int32))]) (st' := [.int (70 : Int32), .int (1 : Int32), .ref 107]) rfl ?_
  refine w_cv (H.t rfl) (pc' := 39) (L' := [(0, .ref 39), (1, .int (70 : Int32))]) (rest := []) (Ps := [.int (1 : Int32), .int (70 : Int32)]) (L0 := [(0, .ref 107), (1, .int (1 : Int32)), (2, .int (70 : Int32))]) h_m145 (z_at.mk 3 rfl rfl) (Or.inl ⟨rfl, rfl⟩) rfl rfl (by decide) (by decide) rfl rfl rfl rfl rfl rfl (by decide) rfl rfl rfl ?_
  refine w_p h_m73 6 (pc' := 11) (L' := [(0, .ref 107), (1, .int (1 : Int32)), (2, .int (70 : Int32))]) (st' := [.ref 107]) rfl ?_
  refine w_gf H (pc' := 14) (L' := [(0, .ref 107), (1, .int (1 : Int32)), (2, .int (70 : Int32))]) h_m73 (z_at.mk 3 rfl rfl) rfl (u := .ref 108) rfl rfl rfl ?_
  refine w_p h_m73 2 (pc' := 16) (L' := [(0, .ref 107), (1, .int (1 : Int32)), (2, .int (70 : Int32))]) (st' := [.int (70 : Int32), .int (1 : Int32), .ref 108]) rfl ?_
  refine w_as H (t := 0) (j := 1) (u := .int (70 : Int32)) (0, 7, [(1, .int (70 : Int32)), (6, .int (1024 : Int32)), (5, .int (1 : Int32)), (4, .int (1 : Int32)), (3, .int (0 : Int32)), (2, .int (12 : Int32)), (0, .int (10 : Int32))], some (.int (0 : Int32))) (pc' := 17) (L' := []) h_m73 (z_at.mk 1 rfl rfl) rfl rfl (w_ui _ _ (by decide)) rfl rfl rfl rfl ?_
  clear H m; intro m H
  refine w_rv h_m73 (z_at.mk 1 rfl rfl) rfl ?_
  show z_W 998 145 39 [(0, .ref 39), (1, .int (70 : Int32))] [] m _
  refine w_p h_m145 4 (pc' := 43) (L' := [(0, .ref 39), (2, .int (0 : Int32))]) (st' := [.ref 39, .int (0 : Int32)]) rfl ?_
  refine w_gf H (pc' := 46) (L' := [(0, .ref 39), (2, .int (0 : Int32))]) h_m145 (z_at.mk 3 rfl rfl) rfl (u := .ref 40) rfl rfl rfl ?_
  refine w_gf H (pc' := 49) (L' := [(0, .ref 39), (2, .int (0 : Int32))]) h_m145 (z_at.mk 3 rfl rfl) rfl (u := .ref 63) rfl rfl rfl ?_
  refine w_gf H (pc' := 52) (L' := [(0, .ref 39), (2, .int (0 : Int32))]) h_m145 (z_at.mk 3 rfl rfl) rfl (u := .int (0 : Int32)) rfl rfl rfl ?_
  refine w_p h_m145 1 (pc' := 79) (L' := [(0, .ref 39), (2, .int (0 : Int32))]) (st' := []) rfl ?_
  refine w_rv h_m145 (z_at.mk 1 rfl rfl) rfl ?_
  show z_W 999 146 13 [(0, .ref 39), (1, .int (xs 1)), (2, .int (70 : Int32))] [] m _
  refine w_p h_m146 1 (pc' := 14) (L' := [(0, .ref 39), (1, .int (xs 1)), (2, .int (70 : Int32))]) (st' := [.ref 39]) rfl ?_
  refine w_gf H (pc' := 17) (L' := [(0, .ref 39), (1, .int (xs 1)), (2, .int (70 : Int32))]) h_m146 (z_at.mk 3 rfl rfl) rfl (u := .ref 106) rfl rfl rfl ?_
  refine w_gf H (pc' := 20) (L' := [(0, .ref 39), (1, .int (xs 1)), (2, .int (70 : Int32))]) h_m146 (z_at.mk 3 rfl rfl) rfl (u := .int (0 : Int32)) rfl rfl rfl ?_
  refine w_p h_m146 1 (pc' := 21) (L' := [(0, .ref 39), (1, .int (xs 1)), (2, .int (70 : Int32))]) (st' := [.int (xs 1), .int (0 : Int32)]) rfl ?_
  refine w_t2 (pc' := 26) (L' := [(0, .ref 39), (1, .int (xs 1)), (2, .int (70 : Int32))]) h_m146 (z_at.mk 3 rfl rfl) rfl (zc (a := 0) (b := (xs 1).toInt) rfl rfl (decide_eq_true (by omega))) rfl rfl ?_
  refine w_p h_m146 2 (pc' := 2) (L' := [(0, .ref 39), (1, .int (xs 1)), (2, .int (71 : Int32))]) (st' := []) rfl ?_
  exact hQ m (H.subC (by decide +kernel))
set_option maxHeartbeats 400000000 in
set_option maxRecDepth 20000 in
theorem w_turn_146_71 {xs : Nat → Int32} {m : zM} {Q : Option Value → zM → Prop} (hp : (xs 1).toInt < 0) (H : w_ok 6 xs 168 63950 ((106, (12, 18, [(15, .int (0 : Int32)), (14, .int (0 : Int32)), (13, .int (0 : Int32)), (12, .int (0 : Int32)), (11, .int (0 : Int32)), (10, .int (0 : Int32)), (9, .long (0 : Int64)), (8, .int (0 : Int32)), (2, .int (0 : Int32)), (0, .ref 41), (17, .ref 116), (16, .ref 114), (7, .ref 113), (6, .ref 112), (5, .ref 111), (4, .ref 110), (3, .ref 109), (1, .ref 107)], none)) :: (108, (0, 7, [(1, .int (70 : Int32)), (6, .int (1024 : Int32)), (5, .int (1 : Int32)), (4, .int (1 : Int32)), (3, .int (0 : Int32)), (2, .int (12 : Int32)), (0, .int (10 : Int32))], some (.int (0 : Int32)))) :: w_T0) m) (hQ : ∀ m, w_ok 6 xs 168 63950 ((106, (12, 18, [(15, .int (0 : Int32)), (14, .int (0 : Int32)), (13, .int (0 : Int32)), (12, .int (0 : Int32)), (11, .int (0 : Int32)), (10, .int (0 : Int32)), (9, .long (0 : Int64)), (8, .int (0 : Int32)), (2, .int (0 : Int32)), (0, .ref 41), (17, .ref 116), (16, .ref 114), (7, .ref 113), (6, .ref 112), (5, .ref 111), (4, .ref 110), (3, .ref 109), (1, .ref 107)], none)) :: (108, (0, 7, [(1, .int (71 : Int32)), (6, .int (1024 : Int32)), (5, .int (1 : Int32)), (4, .int (1 : Int32)), (3, .int (0 : Int32)), (2, .int (12 : Int32)), (0, .int (10 : Int32))], some (.int (0 : Int32)))) :: w_T0) m → z_W 999 146 2 [(0, .ref 39), (1, .int (xs 1)), (2, .int (72 : Int32))] [] m Q) : z_W 999 146 2 [(0, .ref 39), (1, .int (xs 1)), (2, .int (71 : Int32))] [] m Q := by
  refine w_p h_m146 5 (pc' := 10) (L' := [(0, .ref 39), (1, .int (xs 1)), (2, .int (71 : Int32))]) (st' := [.int (71 : Int32), .ref 39]) rfl ?_
  refine w_cv (H.t rfl) (pc' := 13) (L' := [(0, .ref 39), (1, .int (xs 1)), (2, .int (71 : Int32))]) (rest := []) (Ps := [.int (71 : Int32)]) (L0 := [(0, .ref 39), (1, .int (71 : Int32))]) h_m146 (z_at.mk 3 rfl rfl) (Or.inl ⟨rfl, rfl⟩) rfl rfl (by decide) (by decide) rfl rfl rfl rfl rfl rfl (by decide) rfl rfl rfl ?_
  refine w_p h_m145 1 (pc' := 1) (L' := [(0, .ref 39), (1, .int (71 : Int32))]) (st' := [.ref 39]) rfl ?_
  refine w_gf H (pc' := 4) (L' := [(0, .ref 39), (1, .int (71 : Int32))]) h_m145 (z_at.mk 3 rfl rfl) rfl (u := .ref 106) rfl rfl rfl ?_
  refine w_cv (H.t rfl) (pc' := 7) (L' := [(0, .ref 39), (1, .int (71 : Int32))]) (rest := []) (Ps := []) (L0 := [(0, .ref 106)]) h_m145 (z_at.mk 3 rfl rfl) (Or.inl ⟨rfl, rfl⟩) rfl rfl (by decide) (by decide) rfl rfl rfl rfl rfl rfl (by decide) rfl rfl rfl ?_
  refine w_p h_m20 2 (pc' := 2) (L' := [(0, .ref 106)]) (st' := [.int (0 : Int32), .ref 106]) rfl ?_
  refine w_pf H (12, 18, [(2, .int (0 : Int32)), (15, .int (0 : Int32)), (14, .int (0 : Int32)), (13, .int (0 : Int32)), (12, .int (0 : Int32)), (11, .int (0 : Int32)), (10, .int (0 : Int32)), (9, .long (0 : Int64)), (8, .int (0 : Int32)), (0, .ref 41), (17, .ref 116), (16, .ref 114), (7, .ref 113), (6, .ref 112), (5, .ref 111), (4, .ref 110), (3, .ref 109), (1, .ref 107)], none) (pc' := 5) (L' := [(0, .ref 106)]) h_m20 (z_at.mk 3 rfl rfl) rfl (by decide) rfl (Or.inl rfl) rfl rfl rfl ?_
  clear H m; intro m H
  refine w_p h_m20 2 (pc' := 7) (L' := [(0, .ref 106)]) (st' := [.int (0 : Int32), .ref 106]) rfl ?_
  refine w_pf H (12, 18, [(8, .int (0 : Int32)), (2, .int (0 : Int32)), (15, .int (0 : Int32)), (14, .int (0 : Int32)), (13, .int (0 : Int32)), (12, .int (0 : Int32)), (11, .int (0 : Int32)), (10, .int (0 : Int32)), (9, .long (0 : Int64)), (0, .ref 41), (17, .ref 116), (16, .ref 114), (7, .ref 113), (6, .ref 112), (5, .ref 111), (4, .ref 110), (3, .ref 109), (1, .ref 107)], none) (pc' := 10) (L' := [(0, .ref 106)]) h_m20 (z_at.mk 3 rfl rfl) rfl (by decide) rfl (Or.inl rfl) rfl rfl rfl ?_
  clear H m; intro m H
  refine w_p h_m20 2 (pc' := 12) (L' := [(0, .ref 106)]) (st' := [.long (0 : Int64), .ref 106]) rfl ?_
  refine w_pf H (12, 18, [(9, .long (0 : Int64)), (8, .int (0 : Int32)), (2, .int (0 : Int32)), (15, .int (0 : Int32)), (14, .int (0 : Int32)), (13, .int (0 : Int32)), (12, .int (0 : Int32)), (11, .int (0 : Int32)), (10, .int (0 : Int32)), (0, .ref 41), (17, .ref 116), (16, .ref 114), (7, .ref 113), (6, .ref 112), (5, .ref 111), (4, .ref 110), (3, .ref 109), (1, .ref 107)], none) (pc' := 15) (L' := [(0, .ref 106)]) h_m20 (z_at.mk 3 rfl rfl) rfl (by decide) rfl (Or.inl rfl) rfl rfl rfl ?_
  clear H m; intro m H
  refine w_p h_m20 2 (pc' := 17) (L' := [(0, .ref 106)]) (st' := [.int (0 : Int32), .ref 106]) rfl ?_
  refine w_pf H (12, 18, [(10, .int (0 : Int32)), (9, .long (0 : Int64)), (8, .int (0 : Int32)), (2, .int (0 : Int32)), (15, .int (0 : Int32)), (14, .int (0 : Int32)), (13, .int (0 : Int32)), (12, .int (0 : Int32)), (11, .int (0 : Int32)), (0, .ref 41), (17, .ref 116), (16, .ref 114), (7, .ref 113), (6, .ref 112), (5, .ref 111), (4, .ref 110), (3, .ref 109), (1, .ref 107)], none) (pc' := 20) (L' := [(0, .ref 106)]) h_m20 (z_at.mk 3 rfl rfl) rfl (by decide) rfl (Or.inl rfl) rfl rfl rfl ?_
  clear H m; intro m H
  refine w_p h_m20 2 (pc' := 22) (L' := [(0, .ref 106)]) (st' := [.int (0 : Int32), .ref 106]) rfl ?_
  refine w_pf H (12, 18, [(11, .int (0 : Int32)), (10, .int (0 : Int32)), (9, .long (0 : Int64)), (8, .int (0 : Int32)), (2, .int (0 : Int32)), (15, .int (0 : Int32)), (14, .int (0 : Int32)), (13, .int (0 : Int32)), (12, .int (0 : Int32)), (0, .ref 41), (17, .ref 116), (16, .ref 114), (7, .ref 113), (6, .ref 112), (5, .ref 111), (4, .ref 110), (3, .ref 109), (1, .ref 107)], none) (pc' := 25) (L' := [(0, .ref 106)]) h_m20 (z_at.mk 3 rfl rfl) rfl (by decide) rfl (Or.inl rfl) rfl rfl rfl ?_
  clear H m; intro m H
  refine w_p h_m20 2 (pc' := 27) (L' := [(0, .ref 106)]) (st' := [.int (0 : Int32), .ref 106]) rfl ?_
  refine w_pf H (12, 18, [(12, .int (0 : Int32)), (11, .int (0 : Int32)), (10, .int (0 : Int32)), (9, .long (0 : Int64)), (8, .int (0 : Int32)), (2, .int (0 : Int32)), (15, .int (0 : Int32)), (14, .int (0 : Int32)), (13, .int (0 : Int32)), (0, .ref 41), (17, .ref 116), (16, .ref 114), (7, .ref 113), (6, .ref 112), (5, .ref 111), (4, .ref 110), (3, .ref 109), (1, .ref 107)], none) (pc' := 30) (L' := [(0, .ref 106)]) h_m20 (z_at.mk 3 rfl rfl) rfl (by decide) rfl (Or.inl rfl) rfl rfl rfl ?_
  clear H m; intro m H
  refine w_p h_m20 2 (pc' := 32) (L' := [(0, .ref 106)]) (st' := [.int (0 : Int32), .ref 106]) rfl ?_
  refine w_pf H (12, 18, [(13, .int (0 : Int32)), (12, .int (0 : Int32)), (11, .int (0 : Int32)), (10, .int (0 : Int32)), (9, .long (0 : Int64)), (8, .int (0 : Int32)), (2, .int (0 : Int32)), (15, .int (0 : Int32)), (14, .int (0 : Int32)), (0, .ref 41), (17, .ref 116), (16, .ref 114), (7, .ref 113), (6, .ref 112), (5, .ref 111), (4, .ref 110), (3, .ref 109), (1, .ref 107)], none) (pc' := 35) (L' := [(0, .ref 106)]) h_m20 (z_at.mk 3 rfl rfl) rfl (by decide) rfl (Or.inl rfl) rfl rfl rfl ?_
  clear H m; intro m H
  refine w_p h_m20 2 (pc' := 37) (L' := [(0, .ref 106)]) (st' := [.int (0 : Int32), .ref 106]) rfl ?_
  refine w_pf H (12, 18, [(14, .int (0 : Int32)), (13, .int (0 : Int32)), (12, .int (0 : Int32)), (11, .int (0 : Int32)), (10, .int (0 : Int32)), (9, .long (0 : Int64)), (8, .int (0 : Int32)), (2, .int (0 : Int32)), (15, .int (0 : Int32)), (0, .ref 41), (17, .ref 116), (16, .ref 114), (7, .ref 113), (6, .ref 112), (5, .ref 111), (4, .ref 110), (3, .ref 109), (1, .ref 107)], none) (pc' := 40) (L' := [(0, .ref 106)]) h_m20 (z_at.mk 3 rfl rfl) rfl (by decide) rfl (Or.inl rfl) rfl rfl rfl ?_
  clear H m; intro m H
  refine w_p h_m20 2 (pc' := 42) (L' := [(0, .ref 106)]) (st' := [.int (0 : Int32), .ref 106]) rfl ?_
  refine w_pf H (12, 18, [(15, .int (0 : Int32)), (14, .int (0 : Int32)), (13, .int (0 : Int32)), (12, .int (0 : Int32)), (11, .int (0 : Int32)), (10, .int (0 : Int32)), (9, .long (0 : Int64)), (8, .int (0 : Int32)), (2, .int (0 : Int32)), (0, .ref 41), (17, .ref 116), (16, .ref 114), (7, .ref 113), (6, .ref 112), (5, .ref 111), (4, .ref 110), (3, .ref 109), (1, .ref 107)], none) (pc' := 45) (L' := [(0, .ref 106)]) h_m20 (z_at.mk 3 rfl rfl) rfl (by decide) rfl (Or.inl rfl) rfl rfl rfl ?_
  clear H m; intro m H
  refine w_rv h_m20 (z_at.mk 1 rfl rfl) rfl ?_
  show z_W 998 145 7 [(0, .ref 39), (1, .int (71 : Int32))] [] m _
  refine w_p h_m145 1 (pc' := 8) (L' := [(0, .ref 39), (1, .int (71 : Int32))]) (st' := [.ref 39]) rfl ?_
  refine w_gf H (pc' := 11) (L' := [(0, .ref 39), (1, .int (71 : Int32))]) h_m145 (z_at.mk 3 rfl rfl) rfl (u := .ref 106) rfl rfl rfl ?_
  refine w_gf H (pc' := 14) (L' := [(0, .ref 39), (1, .int (71 : Int32))]) h_m145 (z_at.mk 3 rfl rfl) rfl (u := .ref 107) rfl rfl rfl ?_
  refine w_p h_m145 1 (pc' := 15) (L' := [(0, .ref 39), (1, .int (71 : Int32))]) (st' := [.ref 39, .ref 107]) rfl ?_
  refine w_gf H (pc' := 18) (L' := [(0, .ref 39), (1, .int (71 : Int32))]) h_m145 (z_at.mk 3 rfl rfl) rfl (u := .ref 40) rfl rfl rfl ?_
  refine w_gf H (pc' := 21) (L' := [(0, .ref 39), (1, .int (71 : Int32))]) h_m145 (z_at.mk 3 rfl rfl) rfl (u := .ref 48) rfl rfl rfl ?_
  refine w_gf H (pc' := 24) (L' := [(0, .ref 39), (1, .int (71 : Int32))]) h_m145 (z_at.mk 3 rfl rfl) rfl (u := .ref 49) rfl rfl rfl ?_
  refine w_cv (H.t rfl) (pc' := 27) (L' := [(0, .ref 39), (1, .int (71 : Int32))]) (rest := []) (Ps := [.ref 49]) (L0 := [(0, .ref 107), (1, .ref 49)]) h_m145 (z_at.mk 3 rfl rfl) (Or.inl ⟨rfl, rfl⟩) rfl rfl (by decide) (by decide) rfl rfl rfl rfl rfl rfl (by decide) rfl rfl rfl ?_
  refine w_p h_m74 1 (pc' := 1) (L' := [(0, .ref 107), (1, .ref 49)]) (st' := [.ref 49]) rfl ?_
  refine w_gf H (pc' := 4) (L' := [(0, .ref 107), (1, .ref 49)]) h_m74 (z_at.mk 3 rfl rfl) rfl (u := .ref 50) rfl rfl rfl ?_
  refine w_p h_m74 2 (pc' := 6) (L' := [(0, .ref 107), (1, .ref 49)]) (st' := [.ref 107, .int (0 : Int32), .ref 50]) rfl ?_
  refine w_gf H (pc' := 9) (L' := [(0, .ref 107), (1, .ref 49)]) h_m74 (z_at.mk 3 rfl rfl) rfl (u := .ref 108) rfl rfl rfl ?_
  refine w_p h_m74 2 (pc' := 12) (L' := [(0, .ref 107), (1, .ref 49)]) (st' := [.int (7 : Int32), .int (0 : Int32), .ref 108, .int (0 : Int32), .ref 50]) rfl ?_
  refine w_cpf H (ra := (0, 7, [(6, .int (1024 : Int32)), (5, .int (1 : Int32)), (4, .int (1 : Int32)), (3, .int (0 : Int32)), (2, .int (12 : Int32)), (1, .int (40 : Int32)), (0, .int (10 : Int32))], some (.int (0 : Int32)))) (pc' := 15) (L' := [(0, .ref 107), (1, .ref 49)]) h_m74 (z_at.mk 3 rfl rfl) rfl (z_cat_le 0 rfl (by decide)) rfl rfl rfl rfl (by decide) rfl rfl ?_
  clear H m; intro m H
  refine w_rv h_m74 (z_at.mk 1 rfl rfl) rfl ?_
  show z_W 998 145 27 [(0, .ref 39), (1, .int (71 : Int32))] [] m _
  refine w_p h_m145 1 (pc' := 28) (L' := [(0, .ref 39), (1, .int (71 : Int32))]) (st' := [.ref 39]) rfl ?_
  refine w_gf H (pc' := 31) (L' := [(0, .ref 39), (1, .int (71 : Int32))]) h_m145 (z_at.mk 3 rfl rfl) rfl (u := .ref 106) rfl rfl rfl ?_
  refine w_gf H (pc' := 34) (L' := [(0, .ref 39), (1, .int (71 : Int32))]) h_m145 (z_at.mk 3 rfl rfl) rfl (u := .ref 107) rfl rfl rfl ?_
  refine w_p h_m145 2 (pc' := 36) (L' := [(0, .ref 39), (1, .int (71 : Int32))]) (st' := [.int (71 : Int32), .int (1 : Int32), .ref 107]) rfl ?_
  refine w_cv (H.t rfl) (pc' := 39) (L' := [(0, .ref 39), (1, .int (71 : Int32))]) (rest := []) (Ps := [.int (1 : Int32), .int (71 : Int32)]) (L0 := [(0, .ref 107), (1, .int (1 : Int32)), (2, .int (71 : Int32))]) h_m145 (z_at.mk 3 rfl rfl) (Or.inl ⟨rfl, rfl⟩) rfl rfl (by decide) (by decide) rfl rfl rfl rfl rfl rfl (by decide) rfl rfl rfl ?_
  refine w_p h_m73 6 (pc' := 11) (L' := [(0, .ref 107), (1, .int (1 : Int32)), (2, .int (71 : Int32))]) (st' := [.ref 107]) rfl ?_
  refine w_gf H (pc' := 14) (L' := [(0, .ref 107), (1, .int (1 : Int32)), (2, .int (71 : Int32))]) h_m73 (z_at.mk 3 rfl rfl) rfl (u := .ref 108) rfl rfl rfl ?_
  refine w_p h_m73 2 (pc' := 16) (L' := [(0, .ref 107), (1, .int (1 : Int32)), (2, .int (71 : Int32))]) (st' := [.int (71 : Int32), .int (1 : Int32), .ref 108]) rfl ?_
  refine w_as H (t := 0) (j := 1) (u := .int (71 : Int32)) (0, 7, [(1, .int (71 : Int32)), (6, .int (1024 : Int32)), (5, .int (1 : Int32)), (4, .int (1 : Int32)), (3, .int (0 : Int32)), (2, .int (12 : Int32)), (0, .int (10 : Int32))], some (.int (0 : Int32))) (pc' := 17) (L' := []) h_m73 (z_at.mk 1 rfl rfl) rfl rfl (w_ui _ _ (by decide)) rfl rfl rfl rfl ?_
  clear H m; intro m H
  refine w_rv h_m73 (z_at.mk 1 rfl rfl) rfl ?_
  show z_W 998 145 39 [(0, .ref 39), (1, .int (71 : Int32))] [] m _
  refine w_p h_m145 4 (pc' := 43) (L' := [(0, .ref 39), (2, .int (0 : Int32))]) (st' := [.ref 39, .int (0 : Int32)]) rfl ?_
  refine w_gf H (pc' := 46) (L' := [(0, .ref 39), (2, .int (0 : Int32))]) h_m145 (z_at.mk 3 rfl rfl) rfl (u := .ref 40) rfl rfl rfl ?_
  refine w_gf H (pc' := 49) (L' := [(0, .ref 39), (2, .int (0 : Int32))]) h_m145 (z_at.mk 3 rfl rfl) rfl (u := .ref 63) rfl rfl rfl ?_
  refine w_gf H (pc' := 52) (L' := [(0, .ref 39), (2, .int (0 : Int32))]) h_m145 (z_at.mk 3 rfl rfl) rfl (u := .int (0 : Int32)) rfl rfl rfl ?_
  refine w_p h_m145 1 (pc' := 79) (L' := [(0, .ref 39), (2, .int (0 : Int32))]) (st' := []) rfl ?_
  refine w_rv h_m145 (z_at.mk 1 rfl rfl) rfl ?_
  show z_W 999 146 13 [(0, .ref 39), (1, .int (xs 1)), (2, .int (71 : Int32))] [] m _
  refine w_p h_m146 1 (pc' := 14) (L' := [(0, .ref 39), (1, .int (xs 1)), (2, .int (71 : Int32))]) (st' := [.ref 39]) rfl ?_
  refine w_gf H (pc' := 17) (L' := [(0, .ref 39), (1, .int (xs 1)), (2, .int (71 : Int32))]) h_m146 (z_at.mk 3 rfl rfl) rfl (u := .ref 106) rfl rfl rfl ?_
  refine w_gf H (pc' := 20) (L' := [(0, .ref 39), (1, .int (xs 1)), (2, .int (71 : Int32))]) h_m146 (z_at.mk 3 rfl rfl) rfl (u := .int (0 : Int32)) rfl rfl rfl ?_
  refine w_p h_m146 1 (pc' := 21) (L' := [(0, .ref 39), (1, .int (xs 1)), (2, .int (71 : Int32))]) (st' := [.int (xs 1), .int (0 : Int32)]) rfl ?_
  refine w_t2 (pc' := 26) (L' := [(0, .ref 39), (1, .int (xs 1)), (2, .int (71 : Int32))]) h_m146 (z_at.mk 3 rfl rfl) rfl (zc (a := 0) (b := (xs 1).toInt) rfl rfl (decide_eq_true (by omega))) rfl rfl ?_
  refine w_p h_m146 2 (pc' := 2) (L' := [(0, .ref 39), (1, .int (xs 1)), (2, .int (72 : Int32))]) (st' := []) rfl ?_
  exact hQ m (H.subC (by decide +kernel))
