/-! THE ROADS of calls 8 on a fresh object (by wip/px_cmd.py) -/
set_option maxHeartbeats 400000000 in
set_option maxRecDepth 20000 in
theorem w_c8 {xs : Nat → Int32} {m : zM} {Q : Option Value → zM → Prop} (H : w_ok 6 xs 168 63950 w_T0 m) (hQ : ∀ N S T m, w_ok 6 xs N S T m → N ≤ 600039 → S ≤ 7302250 → Q (some (.int 1)) m) : z_W 1000 1000 431 [(0, .ref 0), (1, .ref 39), (2, .ref 143), (3, .int (0 : Int32))] [] m Q := by
  have b1 := zi_bd (xs 1)
  have b2 := zi_bd (xs 2)
  have b3 := zi_bd (xs 3)
  have b4 := zi_bd (xs 4)
  have b5 := zi_bd (xs 5)
  refine w_p h_m1000 1 (pc' := 432) (L' := [(0, .ref 0), (1, .ref 39), (2, .ref 143), (3, .int (0 : Int32))]) (st' := [.ref 39]) rfl ?_
  refine w_cv (H.t rfl) (pc' := 435) (L' := [(0, .ref 0), (1, .ref 39), (2, .ref 143), (3, .int (0 : Int32))]) (rest := []) (Ps := []) (L0 := [(0, .ref 39)]) h_m1000 (z_at.mk 3 rfl rfl) (Or.inl ⟨rfl, rfl⟩) rfl rfl (by decide) (by decide) rfl rfl rfl rfl rfl rfl (by decide) rfl rfl rfl ?_
  refine w_p h_m124 1 (pc' := 1) (L' := [(0, .ref 39)]) (st' := [.ref 39]) rfl ?_
  refine w_gf H (pc' := 4) (L' := [(0, .ref 39)]) h_m124 (z_at.mk 3 rfl rfl) rfl (u := .ref 120) rfl rfl rfl ?_
  refine w_cv (H.t rfl) (pc' := 7) (L' := [(0, .ref 39)]) (rest := []) (Ps := []) (L0 := [(0, .ref 120)]) h_m124 (z_at.mk 3 rfl rfl) (Or.inl ⟨rfl, rfl⟩) rfl rfl (by decide) (by decide) rfl rfl rfl rfl rfl rfl (by decide) rfl rfl rfl ?_
  refine w_p h_m92 2 (pc' := 2) (L' := [(0, .ref 120)]) (st' := [.int (0 : Int32), .ref 120]) rfl ?_
  refine w_pf H (19, 4, [(2, .int (0 : Int32)), (3, .int (-1 : Int32)), (1, .int (0 : Int32)), (0, .ref 121)], none) (pc' := 5) (L' := [(0, .ref 120)]) h_m92 (z_at.mk 3 rfl rfl) rfl (by decide) rfl (Or.inl rfl) rfl rfl rfl ?_
  clear H m; intro m H
  refine w_p h_m92 2 (pc' := 7) (L' := [(0, .ref 120)]) (st' := [.int (-1 : Int32), .ref 120]) rfl ?_
  refine w_pf H (19, 4, [(3, .int (-1 : Int32)), (2, .int (0 : Int32)), (1, .int (0 : Int32)), (0, .ref 121)], none) (pc' := 10) (L' := [(0, .ref 120)]) h_m92 (z_at.mk 3 rfl rfl) rfl (by decide) rfl (Or.inl rfl) rfl rfl rfl ?_
  clear H m; intro m H
  refine w_rv h_m92 (z_at.mk 1 rfl rfl) rfl ?_
  show z_W 999 124 7 [(0, .ref 39)] [] m _
  refine w_p h_m124 1 (pc' := 8) (L' := [(0, .ref 39)]) (st' := [.ref 39]) rfl ?_
  refine w_gf H (pc' := 11) (L' := [(0, .ref 39)]) h_m124 (z_at.mk 3 rfl rfl) rfl (u := .ref 122) rfl rfl rfl ?_
  refine w_cv (H.t rfl) (pc' := 14) (L' := [(0, .ref 39)]) (rest := []) (Ps := []) (L0 := [(0, .ref 122)]) h_m124 (z_at.mk 3 rfl rfl) (Or.inl ⟨rfl, rfl⟩) rfl rfl (by decide) (by decide) rfl rfl rfl rfl rfl rfl (by decide) rfl rfl rfl ?_
  refine w_p h_m66 2 (pc' := 2) (L' := [(0, .ref 122)]) (st' := [.int (0 : Int32), .ref 122]) rfl ?_
  refine w_pf H (15, 6, [(5, .int (0 : Int32)), (1, .ref 41), (0, .ref 120), (4, .ref 125), (3, .ref 124), (2, .ref 123)], none) (pc' := 5) (L' := [(0, .ref 122)]) h_m66 (z_at.mk 3 rfl rfl) rfl (by decide) rfl (Or.inl rfl) rfl rfl rfl ?_
  clear H m; intro m H
  refine w_p h_m66 10 (pc' := 20) (L' := [(0, .ref 122), (1, .int (1 : Int32)), (2, .int (0 : Int32))]) (st' := [.ref 122]) rfl ?_
  refine w_gf H (pc' := 23) (L' := [(0, .ref 122), (1, .int (1 : Int32)), (2, .int (0 : Int32))]) h_m66 (z_at.mk 3 rfl rfl) rfl (u := .ref 123) rfl rfl rfl ?_
  refine w_p h_m66 2 (pc' := 25) (L' := [(0, .ref 122), (1, .int (1 : Int32)), (2, .int (0 : Int32))]) (st' := [.ref 122, .int (0 : Int32), .ref 123]) rfl ?_
  refine w_gf H (pc' := 28) (L' := [(0, .ref 122), (1, .int (1 : Int32)), (2, .int (0 : Int32))]) h_m66 (z_at.mk 3 rfl rfl) rfl (u := .ref 120) rfl rfl rfl ?_
  refine w_p h_m66 1 (pc' := 30) (L' := [(0, .ref 122), (1, .int (1 : Int32)), (2, .int (0 : Int32))]) (st' := [.ref 4, .ref 120, .int (0 : Int32), .ref 123]) rfl ?_
  refine w_cv (H.t rfl) (pc' := 33) (L' := [(0, .ref 122), (1, .int (1 : Int32)), (2, .int (0 : Int32))]) (rest := [.int (0 : Int32), .ref 123]) (Ps := [.ref 4]) (L0 := [(0, .ref 120), (1, .ref 4)]) h_m66 (z_at.mk 3 rfl rfl) (Or.inl ⟨rfl, rfl⟩) rfl rfl (by decide) (by decide) rfl rfl rfl rfl rfl rfl (by decide) rfl rfl rfl ?_
  refine w_p h_m102 1 (pc' := 1) (L' := [(0, .ref 120), (1, .ref 4)]) (st' := [.ref 120]) rfl ?_
  refine w_gf H (pc' := 4) (L' := [(0, .ref 120), (1, .ref 4)]) h_m102 (z_at.mk 3 rfl rfl) rfl (u := .int (0 : Int32)) rfl rfl rfl ?_
  refine w_p h_m102 7 (pc' := 15) (L' := [(0, .ref 120), (1, .ref 4), (2, .int (0 : Int32)), (3, .int (0 : Int32))]) (st' := [.ref 120]) rfl ?_
  refine w_cv (H.t rfl) (pc' := 18) (L' := [(0, .ref 120), (1, .ref 4), (2, .int (0 : Int32)), (3, .int (0 : Int32))]) (rest := []) (Ps := []) (L0 := [(0, .ref 120)]) h_m102 (z_at.mk 3 rfl rfl) (Or.inl ⟨rfl, rfl⟩) rfl rfl (by decide) (by decide) rfl rfl rfl rfl rfl rfl (by decide) rfl rfl rfl ?_
  refine w_p h_m96 1 (pc' := 1) (L' := [(0, .ref 120)]) (st' := [.ref 120]) rfl ?_
  refine w_gf H (pc' := 4) (L' := [(0, .ref 120)]) h_m96 (z_at.mk 3 rfl rfl) rfl (u := .int (-1 : Int32)) rfl rfl rfl ?_
  refine w_p h_m96 3 (pc' := 9) (L' := [(0, .ref 120)]) (st' := [.ref 120]) rfl ?_
  refine w_gf H (pc' := 12) (L' := [(0, .ref 120)]) h_m96 (z_at.mk 3 rfl rfl) rfl (u := .int (0 : Int32)) rfl rfl rfl ?_
  refine w_p h_m96 2 (pc' := 16) (L' := [(0, .ref 120)]) (st' := [.ref 120]) rfl ?_
  refine w_gf H (pc' := 19) (L' := [(0, .ref 120)]) h_m96 (z_at.mk 3 rfl rfl) rfl (u := .int (0 : Int32)) rfl rfl rfl ?_
  refine w_p h_m96 1 (pc' := 20) (L' := [(0, .ref 120)]) (st' := [.ref 120, .int (0 : Int32)]) rfl ?_
  refine w_gf H (pc' := 23) (L' := [(0, .ref 120)]) h_m96 (z_at.mk 3 rfl rfl) rfl (u := .int (0 : Int32)) rfl rfl rfl ?_
  refine w_p h_m96 2 (pc' := 49) (L' := []) (st' := [.int (0 : Int32)]) rfl ?_
  refine w_ri h_m96 (z_at.mk 1 rfl rfl) rfl rfl ?_
  show z_W 997 102 18 [(0, .ref 120), (1, .ref 4), (2, .int (0 : Int32)), (3, .int (0 : Int32))] [.int (0 : Int32)] m _
  refine w_p h_m102 10 (pc' := 59) (L' := [(0, .ref 120), (1, .ref 4), (2, .int (0 : Int32)), (3, .int (0 : Int32)), (4, .int (0 : Int32)), (5, .int (0 : Int32))]) (st' := [.ref 4, .int (0 : Int32)]) rfl ?_
  refine w_cv (H.te (by decide) rfl).1 (pc' := 62) (L' := [(0, .ref 120), (1, .ref 4), (2, .int (0 : Int32)), (3, .int (0 : Int32)), (4, .int (0 : Int32)), (5, .int (0 : Int32))]) (rest := [.int (0 : Int32)]) (Ps := []) (L0 := [(0, .ref 4)]) h_m102 (z_at.mk 3 rfl rfl) (Or.inl ⟨rfl, rfl⟩) rfl rfl (by decide) (by decide) rfl rfl rfl rfl rfl rfl (by decide) rfl rfl rfl ?_
  refine w_p h_m293 1 (pc' := 1) (L' := [(0, .ref 4)]) (st' := [.ref 4]) rfl ?_
  refine w_gs H (pc' := 4) (L' := [(0, .ref 4)]) h_m293 (z_at.mk 3 rfl rfl) rfl (by decide) rfl rfl rfl rfl ?_
  refine w_lene H (x := (36 : Int32)) (pc' := 5) (L' := [(0, .ref 4)]) h_m293 (z_at.mk 1 rfl rfl) (by decide) rfl (by decide) rfl rfl rfl ?_
  refine w_p h_m293 1 (pc' := 6) (L' := [(0, .ref 4)]) (st' := [.ref 4, .int (36 : Int32)]) rfl ?_
  refine w_cv (H.te (by decide) rfl).1 (pc' := 9) (L' := [(0, .ref 4)]) (rest := [.int (36 : Int32)]) (Ps := []) (L0 := [(0, .ref 4)]) h_m293 (z_at.mk 3 rfl rfl) (Or.inl ⟨rfl, rfl⟩) rfl rfl (by decide) (by decide) rfl rfl rfl rfl rfl rfl (by decide) rfl rfl rfl ?_
  refine w_p h_m298 3 (pc' := 7) (L' := [(0, .ref 4)]) (st' := [.ref 4]) rfl ?_
  refine w_gs H (pc' := 10) (L' := [(0, .ref 4)]) h_m298 (z_at.mk 3 rfl rfl) rfl (by decide) rfl rfl rfl rfl ?_
  refine w_p h_m298 1 (pc' := 14) (L' := []) (st' := [.int (0 : Int32)]) rfl ?_
  refine w_ri h_m298 (z_at.mk 1 rfl rfl) rfl rfl ?_
  show z_W 996 293 9 [(0, .ref 4)] [.int (0 : Int32), .int (36 : Int32)] m _
  refine w_p h_m293 1 (pc' := 10) (L' := [(0, .ref 4)]) (st' := [.int (36 : Int32)]) rfl ?_
  refine w_ri h_m293 (z_at.mk 1 rfl rfl) rfl rfl ?_
  show z_W 997 102 62 [(0, .ref 120), (1, .ref 4), (2, .int (0 : Int32)), (3, .int (0 : Int32)), (4, .int (0 : Int32)), (5, .int (0 : Int32))] [.int (36 : Int32), .int (0 : Int32)] m _
  refine w_p h_m102 3 (pc' := 68) (L' := [(0, .ref 120), (1, .ref 4), (2, .int (0 : Int32)), (3, .int (0 : Int32)), (4, .int (0 : Int32)), (5, .int (0 : Int32))]) (st' := [.ref 4, .int (0 : Int32)]) rfl ?_
  refine w_cv (H.te (by decide) rfl).1 (pc' := 71) (L' := [(0, .ref 120), (1, .ref 4), (2, .int (0 : Int32)), (3, .int (0 : Int32)), (4, .int (0 : Int32)), (5, .int (0 : Int32))]) (rest := [.int (0 : Int32)]) (Ps := []) (L0 := [(0, .ref 4)]) h_m102 (z_at.mk 3 rfl rfl) (Or.inl ⟨rfl, rfl⟩) rfl rfl (by decide) (by decide) rfl rfl rfl rfl rfl rfl (by decide) rfl rfl rfl ?_
  refine w_p h_m293 1 (pc' := 1) (L' := [(0, .ref 4)]) (st' := [.ref 4]) rfl ?_
  refine w_gs H (pc' := 4) (L' := [(0, .ref 4)]) h_m293 (z_at.mk 3 rfl rfl) rfl (by decide) rfl rfl rfl rfl ?_
  refine w_lene H (x := (36 : Int32)) (pc' := 5) (L' := [(0, .ref 4)]) h_m293 (z_at.mk 1 rfl rfl) (by decide) rfl (by decide) rfl rfl rfl ?_
  refine w_p h_m293 1 (pc' := 6) (L' := [(0, .ref 4)]) (st' := [.ref 4, .int (36 : Int32)]) rfl ?_
  refine w_cv (H.te (by decide) rfl).1 (pc' := 9) (L' := [(0, .ref 4)]) (rest := [.int (36 : Int32)]) (Ps := []) (L0 := [(0, .ref 4)]) h_m293 (z_at.mk 3 rfl rfl) (Or.inl ⟨rfl, rfl⟩) rfl rfl (by decide) (by decide) rfl rfl rfl rfl rfl rfl (by decide) rfl rfl rfl ?_
  refine w_p h_m298 3 (pc' := 7) (L' := [(0, .ref 4)]) (st' := [.ref 4]) rfl ?_
  refine w_gs H (pc' := 10) (L' := [(0, .ref 4)]) h_m298 (z_at.mk 3 rfl rfl) rfl (by decide) rfl rfl rfl rfl ?_
  refine w_p h_m298 1 (pc' := 14) (L' := []) (st' := [.int (0 : Int32)]) rfl ?_
  refine w_ri h_m298 (z_at.mk 1 rfl rfl) rfl rfl ?_
  show z_W 996 293 9 [(0, .ref 4)] [.int (0 : Int32), .int (36 : Int32)] m _
  refine w_p h_m293 1 (pc' := 10) (L' := [(0, .ref 4)]) (st' := [.int (36 : Int32)]) rfl ?_
  refine w_ri h_m293 (z_at.mk 1 rfl rfl) rfl rfl ?_
  show z_W 997 102 71 [(0, .ref 120), (1, .ref 4), (2, .int (0 : Int32)), (3, .int (0 : Int32)), (4, .int (0 : Int32)), (5, .int (0 : Int32))] [.int (36 : Int32), .int (0 : Int32)] m _
  refine w_p h_m102 3 (pc' := 77) (L' := [(0, .ref 120), (1, .ref 4), (2, .int (0 : Int32)), (3, .int (0 : Int32)), (4, .int (0 : Int32)), (5, .int (0 : Int32))]) (st' := [.int (0 : Int32), .ref 4]) rfl ?_
  refine w_cv (H.te (by decide) rfl).1 (pc' := 80) (L' := [(0, .ref 120), (1, .ref 4), (2, .int (0 : Int32)), (3, .int (0 : Int32)), (4, .int (0 : Int32)), (5, .int (0 : Int32))]) (rest := []) (Ps := [.int (0 : Int32)]) (L0 := [(0, .ref 4), (1, .int (0 : Int32))]) h_m102 (z_at.mk 3 rfl rfl) (Or.inl ⟨rfl, rfl⟩) rfl rfl (by decide) (by decide) rfl rfl rfl rfl rfl rfl (by decide) rfl rfl rfl ?_
  refine w_p h_m294 1 (pc' := 1) (L' := [(0, .ref 4), (1, .int (0 : Int32))]) (st' := [.ref 4]) rfl ?_
  refine w_cv (H.te (by decide) rfl).1 (pc' := 4) (L' := [(0, .ref 4), (1, .int (0 : Int32))]) (rest := []) (Ps := []) (L0 := [(0, .ref 4)]) h_m294 (z_at.mk 3 rfl rfl) (Or.inl ⟨rfl, rfl⟩) rfl rfl (by decide) (by decide) rfl rfl rfl rfl rfl rfl (by decide) rfl rfl rfl ?_
  refine w_p h_m299 3 (pc' := 7) (L' := [(0, .ref 4)]) (st' := [.ref 4]) rfl ?_
  refine w_gs H (pc' := 10) (L' := [(0, .ref 4)]) h_m299 (z_at.mk 3 rfl rfl) rfl (by decide) rfl rfl rfl rfl ?_
  refine w_p h_m299 3 (pc' := 18) (L' := []) (st' := [.int (1 : Int32)]) rfl ?_
  refine w_ri h_m299 (z_at.mk 1 rfl rfl) rfl rfl ?_
  show z_W 996 294 4 [(0, .ref 4), (1, .int (0 : Int32))] [.int (1 : Int32)] m _
  refine w_p h_m294 2 (pc' := 8) (L' := [(0, .ref 4), (1, .int (0 : Int32))]) (st' := [.ref 4]) rfl ?_
  refine w_gs H (pc' := 11) (L' := [(0, .ref 4), (1, .int (0 : Int32))]) h_m294 (z_at.mk 3 rfl rfl) rfl (by decide) rfl rfl rfl rfl ?_
  refine w_p h_m294 1 (pc' := 12) (L' := [(0, .ref 4), (1, .int (0 : Int32))]) (st' := [.int (0 : Int32), .ref 22]) rfl ?_
  refine w_cs (As := [.ref 22, .int (0 : Int32)]) (rest := []) (j := 308) (L0 := [(0, .ref 22), (1, .int (0 : Int32))]) (pc' := 15) (L' := [(0, .ref 4), (1, .int (0 : Int32))]) h_m294 (z_at.mk 3 rfl rfl) (Or.inl ⟨rfl, rfl⟩) rfl rfl rfl rfl rfl ?_
  refine w_p h_m308 2 (pc' := 2) (L' := [(0, .ref 22), (1, .int (0 : Int32))]) (st' := [.ref 22, .int (0 : Int32)]) rfl ?_
  refine w_lene H (x := (36 : Int32)) (pc' := 3) (L' := [(0, .ref 22), (1, .int (0 : Int32))]) h_m308 (z_at.mk 1 rfl rfl) (by decide) rfl (by decide) rfl rfl rfl ?_
  refine w_ci (pc' := 6) (L' := [(0, .ref 22), (1, .int (0 : Int32))]) h_m308 (z_at.mk 3 rfl rfl) rfl (z_cat_le 0 rfl (by decide)) ⟨by decide, by decide⟩ rfl rfl ?_
  refine w_p h_m308 2 (pc' := 8) (L' := [(0, .ref 22), (1, .int (0 : Int32))]) (st' := [.int (0 : Int32), .ref 22]) rfl ?_
  refine w_ae H (j := 0) (pc' := 9) (L' := [(0, .ref 22), (1, .int (0 : Int32))]) h_m308 (z_at.mk 1 rfl rfl) rfl rfl rfl (by decide) rfl (by decide) rfl rfl rfl ?_
  refine w_p h_m308 3 (pc' := 14) (L' := [(0, .ref 22), (1, .int (0 : Int32))]) (st' := [.int (99 : Int32)]) rfl ?_
  refine w_ri h_m308 (z_at.mk 1 rfl rfl) rfl rfl ?_
  show z_W 996 294 15 [(0, .ref 4), (1, .int (0 : Int32))] [.int (99 : Int32)] m _
  refine w_ri h_m294 (z_at.mk 1 rfl rfl) rfl rfl ?_
  show z_W 997 102 80 [(0, .ref 120), (1, .ref 4), (2, .int (0 : Int32)), (3, .int (0 : Int32)), (4, .int (0 : Int32)), (5, .int (0 : Int32))] [.int (99 : Int32)] m _
  refine w_p h_m102 6 (pc' := 59) (L' := [(0, .ref 120), (1, .ref 4), (2, .int (0 : Int32)), (3, .int (0 : Int32)), (4, .int (0 : Int32)), (5, .int (1 : Int32))]) (st' := [.ref 4, .int (1 : Int32)]) rfl ?_
  refine w_cv (H.te (by decide) rfl).1 (pc' := 62) (L' := [(0, .ref 120), (1, .ref 4), (2, .int (0 : Int32)), (3, .int (0 : Int32)), (4, .int (0 : Int32)), (5, .int (1 : Int32))]) (rest := [.int (1 : Int32)]) (Ps := []) (L0 := [(0, .ref 4)]) h_m102 (z_at.mk 3 rfl rfl) (Or.inl ⟨rfl, rfl⟩) rfl rfl (by decide) (by decide) rfl rfl rfl rfl rfl rfl (by decide) rfl rfl rfl ?_
  refine w_p h_m293 1 (pc' := 1) (L' := [(0, .ref 4)]) (st' := [.ref 4]) rfl ?_
  refine w_gs H (pc' := 4) (L' := [(0, .ref 4)]) h_m293 (z_at.mk 3 rfl rfl) rfl (by decide) rfl rfl rfl rfl ?_
  refine w_lene H (x := (36 : Int32)) (pc' := 5) (L' := [(0, .ref 4)]) h_m293 (z_at.mk 1 rfl rfl) (by decide) rfl (by decide) rfl rfl rfl ?_
  refine w_p h_m293 1 (pc' := 6) (L' := [(0, .ref 4)]) (st' := [.ref 4, .int (36 : Int32)]) rfl ?_
  refine w_cv (H.te (by decide) rfl).1 (pc' := 9) (L' := [(0, .ref 4)]) (rest := [.int (36 : Int32)]) (Ps := []) (L0 := [(0, .ref 4)]) h_m293 (z_at.mk 3 rfl rfl) (Or.inl ⟨rfl, rfl⟩) rfl rfl (by decide) (by decide) rfl rfl rfl rfl rfl rfl (by decide) rfl rfl rfl ?_
  refine w_p h_m298 3 (pc' := 7) (L' := [(0, .ref 4)]) (st' := [.ref 4]) rfl ?_
  refine w_gs H (pc' := 10) (L' := [(0, .ref 4)]) h_m298 (z_at.mk 3 rfl rfl) rfl (by decide) rfl rfl rfl rfl ?_
  refine w_p h_m298 1 (pc' := 14) (L' := []) (st' := [.int (0 : Int32)]) rfl ?_
  refine w_ri h_m298 (z_at.mk 1 rfl rfl) rfl rfl ?_
  show z_W 996 293 9 [(0, .ref 4)] [.int (0 : Int32), .int (36 : Int32)] m _
  refine w_p h_m293 1 (pc' := 10) (L' := [(0, .ref 4)]) (st' := [.int (36 : Int32)]) rfl ?_
  refine w_ri h_m293 (z_at.mk 1 rfl rfl) rfl rfl ?_
  show z_W 997 102 62 [(0, .ref 120), (1, .ref 4), (2, .int (0 : Int32)), (3, .int (0 : Int32)), (4, .int (0 : Int32)), (5, .int (1 : Int32))] [.int (36 : Int32), .int (1 : Int32)] m _
  refine w_p h_m102 3 (pc' := 68) (L' := [(0, .ref 120), (1, .ref 4), (2, .int (0 : Int32)), (3, .int (0 : Int32)), (4, .int (0 : Int32)), (5, .int (1 : Int32))]) (st' := [.ref 4, .int (1 : Int32)]) rfl ?_
  refine w_cv (H.te (by decide) rfl).1 (pc' := 71) (L' := [(0, .ref 120), (1, .ref 4), (2, .int (0 : Int32)), (3, .int (0 : Int32)), (4, .int (0 : Int32)), (5, .int (1 : Int32))]) (rest := [.int (1 : Int32)]) (Ps := []) (L0 := [(0, .ref 4)]) h_m102 (z_at.mk 3 rfl rfl) (Or.inl ⟨rfl, rfl⟩) rfl rfl (by decide) (by decide) rfl rfl rfl rfl rfl rfl (by decide) rfl rfl rfl ?_
  refine w_p h_m293 1 (pc' := 1) (L' := [(0, .ref 4)]) (st' := [.ref 4]) rfl ?_
  refine w_gs H (pc' := 4) (L' := [(0, .ref 4)]) h_m293 (z_at.mk 3 rfl rfl) rfl (by decide) rfl rfl rfl rfl ?_
  refine w_lene H (x := (36 : Int32)) (pc' := 5) (L' := [(0, .ref 4)]) h_m293 (z_at.mk 1 rfl rfl) (by decide) rfl (by decide) rfl rfl rfl ?_
  refine w_p h_m293 1 (pc' := 6) (L' := [(0, .ref 4)]) (st' := [.ref 4, .int (36 : Int32)]) rfl ?_
  refine w_cv (H.te (by decide) rfl).1 (pc' := 9) (L' := [(0, .ref 4)]) (rest := [.int (36 : Int32)]) (Ps := []) (L0 := [(0, .ref 4)]) h_m293 (z_at.mk 3 rfl rfl) (Or.inl ⟨rfl, rfl⟩) rfl rfl (by decide) (by decide) rfl rfl rfl rfl rfl rfl (by decide) rfl rfl rfl ?_
  refine w_p h_m298 3 (pc' := 7) (L' := [(0, .ref 4)]) (st' := [.ref 4]) rfl ?_
  refine w_gs H (pc' := 10) (L' := [(0, .ref 4)]) h_m298 (z_at.mk 3 rfl rfl) rfl (by decide) rfl rfl rfl rfl ?_
  refine w_p h_m298 1 (pc' := 14) (L' := []) (st' := [.int (0 : Int32)]) rfl ?_
  refine w_ri h_m298 (z_at.mk 1 rfl rfl) rfl rfl ?_
  show z_W 996 293 9 [(0, .ref 4)] [.int (0 : Int32), .int (36 : Int32)] m _
  refine w_p h_m293 1 (pc' := 10) (L' := [(0, .ref 4)]) (st' := [.int (36 : Int32)]) rfl ?_
  refine w_ri h_m293 (z_at.mk 1 rfl rfl) rfl rfl ?_
  show z_W 997 102 71 [(0, .ref 120), (1, .ref 4), (2, .int (0 : Int32)), (3, .int (0 : Int32)), (4, .int (0 : Int32)), (5, .int (1 : Int32))] [.int (36 : Int32), .int (1 : Int32)] m _
  refine w_p h_m102 3 (pc' := 77) (L' := [(0, .ref 120), (1, .ref 4), (2, .int (0 : Int32)), (3, .int (0 : Int32)), (4, .int (0 : Int32)), (5, .int (1 : Int32))]) (st' := [.int (1 : Int32), .ref 4]) rfl ?_
  refine w_cv (H.te (by decide) rfl).1 (pc' := 80) (L' := [(0, .ref 120), (1, .ref 4), (2, .int (0 : Int32)), (3, .int (0 : Int32)), (4, .int (0 : Int32)), (5, .int (1 : Int32))]) (rest := []) (Ps := [.int (1 : Int32)]) (L0 := [(0, .ref 4), (1, .int (1 : Int32))]) h_m102 (z_at.mk 3 rfl rfl) (Or.inl ⟨rfl, rfl⟩) rfl rfl (by decide) (by decide) rfl rfl rfl rfl rfl rfl (by decide) rfl rfl rfl ?_
  refine w_p h_m294 1 (pc' := 1) (L' := [(0, .ref 4), (1, .int (1 : Int32))]) (st' := [.ref 4]) rfl ?_
  refine w_cv (H.te (by decide) rfl).1 (pc' := 4) (L' := [(0, .ref 4), (1, .int (1 : Int32))]) (rest := []) (Ps := []) (L0 := [(0, .ref 4)]) h_m294 (z_at.mk 3 rfl rfl) (Or.inl ⟨rfl, rfl⟩) rfl rfl (by decide) (by decide) rfl rfl rfl rfl rfl rfl (by decide) rfl rfl rfl ?_
  refine w_p h_m299 3 (pc' := 7) (L' := [(0, .ref 4)]) (st' := [.ref 4]) rfl ?_
  refine w_gs H (pc' := 10) (L' := [(0, .ref 4)]) h_m299 (z_at.mk 3 rfl rfl) rfl (by decide) rfl rfl rfl rfl ?_
  refine w_p h_m299 3 (pc' := 18) (L' := []) (st' := [.int (1 : Int32)]) rfl ?_
  refine w_ri h_m299 (z_at.mk 1 rfl rfl) rfl rfl ?_
  show z_W 996 294 4 [(0, .ref 4), (1, .int (1 : Int32))] [.int (1 : Int32)] m _
  refine w_p h_m294 2 (pc' := 8) (L' := [(0, .ref 4), (1, .int (1 : Int32))]) (st' := [.ref 4]) rfl ?_
  refine w_gs H (pc' := 11) (L' := [(0, .ref 4), (1, .int (1 : Int32))]) h_m294 (z_at.mk 3 rfl rfl) rfl (by decide) rfl rfl rfl rfl ?_
  refine w_p h_m294 1 (pc' := 12) (L' := [(0, .ref 4), (1, .int (1 : Int32))]) (st' := [.int (1 : Int32), .ref 22]) rfl ?_
  refine w_cs (As := [.ref 22, .int (1 : Int32)]) (rest := []) (j := 308) (L0 := [(0, .ref 22), (1, .int (1 : Int32))]) (pc' := 15) (L' := [(0, .ref 4), (1, .int (1 : Int32))]) h_m294 (z_at.mk 3 rfl rfl) (Or.inl ⟨rfl, rfl⟩) rfl rfl rfl rfl rfl ?_
  refine w_p h_m308 2 (pc' := 2) (L' := [(0, .ref 22), (1, .int (1 : Int32))]) (st' := [.ref 22, .int (1 : Int32)]) rfl ?_
  refine w_lene H (x := (36 : Int32)) (pc' := 3) (L' := [(0, .ref 22), (1, .int (1 : Int32))]) h_m308 (z_at.mk 1 rfl rfl) (by decide) rfl (by decide) rfl rfl rfl ?_
  refine w_ci (pc' := 6) (L' := [(0, .ref 22), (1, .int (1 : Int32))]) h_m308 (z_at.mk 3 rfl rfl) rfl (z_cat_le 0 rfl (by decide)) ⟨by decide, by decide⟩ rfl rfl ?_
  refine w_p h_m308 2 (pc' := 8) (L' := [(0, .ref 22), (1, .int (1 : Int32))]) (st' := [.int (1 : Int32), .ref 22]) rfl ?_
  refine w_ae H (j := 1) (pc' := 9) (L' := [(0, .ref 22), (1, .int (1 : Int32))]) h_m308 (z_at.mk 1 rfl rfl) rfl rfl rfl (by decide) rfl (by decide) rfl rfl rfl ?_
  refine w_p h_m308 3 (pc' := 14) (L' := [(0, .ref 22), (1, .int (1 : Int32))]) (st' := [.int (111 : Int32)]) rfl ?_
  refine w_ri h_m308 (z_at.mk 1 rfl rfl) rfl rfl ?_
  show z_W 996 294 15 [(0, .ref 4), (1, .int (1 : Int32))] [.int (111 : Int32)] m _
  refine w_ri h_m294 (z_at.mk 1 rfl rfl) rfl rfl ?_
  show z_W 997 102 80 [(0, .ref 120), (1, .ref 4), (2, .int (0 : Int32)), (3, .int (0 : Int32)), (4, .int (0 : Int32)), (5, .int (1 : Int32))] [.int (111 : Int32)] m _
  refine w_p h_m102 6 (pc' := 59) (L' := [(0, .ref 120), (1, .ref 4), (2, .int (0 : Int32)), (3, .int (0 : Int32)), (4, .int (0 : Int32)), (5, .int (2 : Int32))]) (st' := [.ref 4, .int (2 : Int32)]) rfl ?_
  refine w_cv (H.te (by decide) rfl).1 (pc' := 62) (L' := [(0, .ref 120), (1, .ref 4), (2, .int (0 : Int32)), (3, .int (0 : Int32)), (4, .int (0 : Int32)), (5, .int (2 : Int32))]) (rest := [.int (2 : Int32)]) (Ps := []) (L0 := [(0, .ref 4)]) h_m102 (z_at.mk 3 rfl rfl) (Or.inl ⟨rfl, rfl⟩) rfl rfl (by decide) (by decide) rfl rfl rfl rfl rfl rfl (by decide) rfl rfl rfl ?_
  refine w_p h_m293 1 (pc' := 1) (L' := [(0, .ref 4)]) (st' := [.ref 4]) rfl ?_
  refine w_gs H (pc' := 4) (L' := [(0, .ref 4)]) h_m293 (z_at.mk 3 rfl rfl) rfl (by decide) rfl rfl rfl rfl ?_
  refine w_lene H (x := (36 : Int32)) (pc' := 5) (L' := [(0, .ref 4)]) h_m293 (z_at.mk 1 rfl rfl) (by decide) rfl (by decide) rfl rfl rfl ?_
  refine w_p h_m293 1 (pc' := 6) (L' := [(0, .ref 4)]) (st' := [.ref 4, .int (36 : Int32)]) rfl ?_
  refine w_cv (H.te (by decide) rfl).1 (pc' := 9) (L' := [(0, .ref 4)]) (rest := [.int (36 : Int32)]) (Ps := []) (L0 := [(0, .ref 4)]) h_m293 (z_at.mk 3 rfl rfl) (Or.inl ⟨rfl, rfl⟩) rfl rfl (by decide) (by decide) rfl rfl rfl rfl rfl rfl (by decide) rfl rfl rfl ?_
  refine w_p h_m298 3 (pc' := 7) (L' := [(0, .ref 4)]) (st' := [.ref 4]) rfl ?_
  refine w_gs H (pc' := 10) (L' := [(0, .ref 4)]) h_m298 (z_at.mk 3 rfl rfl) rfl (by decide) rfl rfl rfl rfl ?_
  refine w_p h_m298 1 (pc' := 14) (L' := []) (st' := [.int (0 : Int32)]) rfl ?_
  refine w_ri h_m298 (z_at.mk 1 rfl rfl) rfl rfl ?_
  show z_W 996 293 9 [(0, .ref 4)] [.int (0 : Int32), .int (36 : Int32)] m _
  refine w_p h_m293 1 (pc' := 10) (L' := [(0, .ref 4)]) (st' := [.int (36 : Int32)]) rfl ?_
  refine w_ri h_m293 (z_at.mk 1 rfl rfl) rfl rfl ?_
  show z_W 997 102 62 [(0, .ref 120), (1, .ref 4), (2, .int (0 : Int32)), (3, .int (0 : Int32)), (4, .int (0 : Int32)), (5, .int (2 : Int32))] [.int (36 : Int32), .int (2 : Int32)] m _
  refine w_p h_m102 3 (pc' := 68) (L' := [(0, .ref 120), (1, .ref 4), (2, .int (0 : Int32)), (3, .int (0 : Int32)), (4, .int (0 : Int32)), (5, .int (2 : Int32))]) (st' := [.ref 4, .int (2 : Int32)]) rfl ?_
  refine w_cv (H.te (by decide) rfl).1 (pc' := 71) (L' := [(0, .ref 120), (1, .ref 4), (2, .int (0 : Int32)), (3, .int (0 : Int32)), (4, .int (0 : Int32)), (5, .int (2 : Int32))]) (rest := [.int (2 : Int32)]) (Ps := []) (L0 := [(0, .ref 4)]) h_m102 (z_at.mk 3 rfl rfl) (Or.inl ⟨rfl, rfl⟩) rfl rfl (by decide) (by decide) rfl rfl rfl rfl rfl rfl (by decide) rfl rfl rfl ?_
  refine w_p h_m293 1 (pc' := 1) (L' := [(0, .ref 4)]) (st' := [.ref 4]) rfl ?_
  refine w_gs H (pc' := 4) (L' := [(0, .ref 4)]) h_m293 (z_at.mk 3 rfl rfl) rfl (by decide) rfl rfl rfl rfl ?_
  refine w_lene H (x := (36 : Int32)) (pc' := 5) (L' := [(0, .ref 4)]) h_m293 (z_at.mk 1 rfl rfl) (by decide) rfl (by decide) rfl rfl rfl ?_
  refine w_p h_m293 1 (pc' := 6) (L' := [(0, .ref 4)]) (st' := [.ref 4, .int (36 : Int32)]) rfl ?_
  refine w_cv (H.te (by decide) rfl).1 (pc' := 9) (L' := [(0, .ref 4)]) (rest := [.int (36 : Int32)]) (Ps := []) (L0 := [(0, .ref 4)]) h_m293 (z_at.mk 3 rfl rfl) (Or.inl ⟨rfl, rfl⟩) rfl rfl (by decide) (by decide) rfl rfl rfl rfl rfl rfl (by decide) rfl rfl rfl ?_
  refine w_p h_m298 3 (pc' := 7) (L' := [(0, .ref 4)]) (st' := [.ref 4]) rfl ?_
  refine w_gs H (pc' := 10) (L' := [(0, .ref 4)]) h_m298 (z_at.mk 3 rfl rfl) rfl (by decide) rfl rfl rfl rfl ?_
  refine w_p h_m298 1 (pc' := 14) (L' := []) (st' := [.int (0 : Int32)]) rfl ?_
  refine w_ri h_m298 (z_at.mk 1 rfl rfl) rfl rfl ?_
  show z_W 996 293 9 [(0, .ref 4)] [.int (0 : Int32), .int (36 : Int32)] m _
  refine w_p h_m293 1 (pc' := 10) (L' := [(0, .ref 4)]) (st' := [.int (36 : Int32)]) rfl ?_
  refine w_ri h_m293 (z_at.mk 1 rfl rfl) rfl rfl ?_
  show z_W 997 102 71 [(0, .ref 120), (1, .ref 4), (2, .int (0 : Int32)), (3, .int (0 : Int32)), (4, .int (0 : Int32)), (5, .int (2 : Int32))] [.int (36 : Int32), .int (2 : Int32)] m _
  refine w_p h_m102 3 (pc' := 77) (L' := [(0, .ref 120), (1, .ref 4), (2, .int (0 : Int32)), (3, .int (0 : Int32)), (4, .int (0 : Int32)), (5, .int (2 : Int32))]) (st' := [.int (2 : Int32), .ref 4]) rfl ?_
  refine w_cv (H.te (by decide) rfl).1 (pc' := 80) (L' := [(0, .ref 120), (1, .ref 4), (2, .int (0 : Int32)), (3, .int (0 : Int32)), (4, .int (0 : Int32)), (5, .int (2 : Int32))]) (rest := []) (Ps := [.int (2 : Int32)]) (L0 := [(0, .ref 4), (1, .int (2 : Int32))]) h_m102 (z_at.mk 3 rfl rfl) (Or.inl ⟨rfl, rfl⟩) rfl rfl (by decide) (by decide) rfl rfl rfl rfl rfl rfl (by decide) rfl rfl rfl ?_
  refine w_p h_m294 1 (pc' := 1) (L' := [(0, .ref 4), (1, .int (2 : Int32))]) (st' := [.ref 4]) rfl ?_
  refine w_cv (H.te (by decide) rfl).1 (pc' := 4) (L' := [(0, .ref 4), (1, .int (2 : Int32))]) (rest := []) (Ps := []) (L0 := [(0, .ref 4)]) h_m294 (z_at.mk 3 rfl rfl) (Or.inl ⟨rfl, rfl⟩) rfl rfl (by decide) (by decide) rfl rfl rfl rfl rfl rfl (by decide) rfl rfl rfl ?_
  refine w_p h_m299 3 (pc' := 7) (L' := [(0, .ref 4)]) (st' := [.ref 4]) rfl ?_
  refine w_gs H (pc' := 10) (L' := [(0, .ref 4)]) h_m299 (z_at.mk 3 rfl rfl) rfl (by decide) rfl rfl rfl rfl ?_
  refine w_p h_m299 3 (pc' := 18) (L' := []) (st' := [.int (1 : Int32)]) rfl ?_
  refine w_ri h_m299 (z_at.mk 1 rfl rfl) rfl rfl ?_
  show z_W 996 294 4 [(0, .ref 4), (1, .int (2 : Int32))] [.int (1 : Int32)] m _
  refine w_p h_m294 2 (pc' := 8) (L' := [(0, .ref 4), (1, .int (2 : Int32))]) (st' := [.ref 4]) rfl ?_
  refine w_gs H (pc' := 11) (L' := [(0, .ref 4), (1, .int (2 : Int32))]) h_m294 (z_at.mk 3 rfl rfl) rfl (by decide) rfl rfl rfl rfl ?_
  refine w_p h_m294 1 (pc' := 12) (L' := [(0, .ref 4), (1, .int (2 : Int32))]) (st' := [.int (2 : Int32), .ref 22]) rfl ?_
  refine w_cs (As := [.ref 22, .int (2 : Int32)]) (rest := []) (j := 308) (L0 := [(0, .ref 22), (1, .int (2 : Int32))]) (pc' := 15) (L' := [(0, .ref 4), (1, .int (2 : Int32))]) h_m294 (z_at.mk 3 rfl rfl) (Or.inl ⟨rfl, rfl⟩) rfl rfl rfl rfl rfl ?_
  refine w_p h_m308 2 (pc' := 2) (L' := [(0, .ref 22), (1, .int (2 : Int32))]) (st' := [.ref 22, .int (2 : Int32)]) rfl ?_
  refine w_lene H (x := (36 : Int32)) (pc' := 3) (L' := [(0, .ref 22), (1, .int (2 : Int32))]) h_m308 (z_at.mk 1 rfl rfl) (by decide) rfl (by decide) rfl rfl rfl ?_
  refine w_ci (pc' := 6) (L' := [(0, .ref 22), (1, .int (2 : Int32))]) h_m308 (z_at.mk 3 rfl rfl) rfl (z_cat_le 0 rfl (by decide)) ⟨by decide, by decide⟩ rfl rfl ?_
  refine w_p h_m308 2 (pc' := 8) (L' := [(0, .ref 22), (1, .int (2 : Int32))]) (st' := [.int (2 : Int32), .ref 22]) rfl ?_
  refine w_ae H (j := 2) (pc' := 9) (L' := [(0, .ref 22), (1, .int (2 : Int32))]) h_m308 (z_at.mk 1 rfl rfl) rfl rfl rfl (by decide) rfl (by decide) rfl rfl rfl ?_
  refine w_p h_m308 3 (pc' := 14) (L' := [(0, .ref 22), (1, .int (2 : Int32))]) (st' := [.int (117 : Int32)]) rfl ?_
  refine w_ri h_m308 (z_at.mk 1 rfl rfl) rfl rfl ?_
  show z_W 996 294 15 [(0, .ref 4), (1, .int (2 : Int32))] [.int (117 : Int32)] m _
  refine w_ri h_m294 (z_at.mk 1 rfl rfl) rfl rfl ?_
  show z_W 997 102 80 [(0, .ref 120), (1, .ref 4), (2, .int (0 : Int32)), (3, .int (0 : Int32)), (4, .int (0 : Int32)), (5, .int (2 : Int32))] [.int (117 : Int32)] m _
  refine w_p h_m102 6 (pc' := 59) (L' := [(0, .ref 120), (1, .ref 4), (2, .int (0 : Int32)), (3, .int (0 : Int32)), (4, .int (0 : Int32)), (5, .int (3 : Int32))]) (st' := [.ref 4, .int (3 : Int32)]) rfl ?_
  refine w_cv (H.te (by decide) rfl).1 (pc' := 62) (L' := [(0, .ref 120), (1, .ref 4), (2, .int (0 : Int32)), (3, .int (0 : Int32)), (4, .int (0 : Int32)), (5, .int (3 : Int32))]) (rest := [.int (3 : Int32)]) (Ps := []) (L0 := [(0, .ref 4)]) h_m102 (z_at.mk 3 rfl rfl) (Or.inl ⟨rfl, rfl⟩) rfl rfl (by decide) (by decide) rfl rfl rfl rfl rfl rfl (by decide) rfl rfl rfl ?_
  refine w_p h_m293 1 (pc' := 1) (L' := [(0, .ref 4)]) (st' := [.ref 4]) rfl ?_
  refine w_gs H (pc' := 4) (L' := [(0, .ref 4)]) h_m293 (z_at.mk 3 rfl rfl) rfl (by decide) rfl rfl rfl rfl ?_
  refine w_lene H (x := (36 : Int32)) (pc' := 5) (L' := [(0, .ref 4)]) h_m293 (z_at.mk 1 rfl rfl) (by decide) rfl (by decide) rfl rfl rfl ?_
  refine w_p h_m293 1 (pc' := 6) (L' := [(0, .ref 4)]) (st' := [.ref 4, .int (36 : Int32)]) rfl ?_
  refine w_cv (H.te (by decide) rfl).1 (pc' := 9) (L' := [(0, .ref 4)]) (rest := [.int (36 : Int32)]) (Ps := []) (L0 := [(0, .ref 4)]) h_m293 (z_at.mk 3 rfl rfl) (Or.inl ⟨rfl, rfl⟩) rfl rfl (by decide) (by decide) rfl rfl rfl rfl rfl rfl (by decide) rfl rfl rfl ?_
  refine w_p h_m298 3 (pc' := 7) (L' := [(0, .ref 4)]) (st' := [.ref 4]) rfl ?_
  refine w_gs H (pc' := 10) (L' := [(0, .ref 4)]) h_m298 (z_at.mk 3 rfl rfl) rfl (by decide) rfl rfl rfl rfl ?_
  refine w_p h_m298 1 (pc' := 14) (L' := []) (st' := [.int (0 : Int32)]) rfl ?_
  refine w_ri h_m298 (z_at.mk 1 rfl rfl) rfl rfl ?_
  show z_W 996 293 9 [(0, .ref 4)] [.int (0 : Int32), .int (36 : Int32)] m _
  refine w_p h_m293 1 (pc' := 10) (L' := [(0, .ref 4)]) (st' := [.int (36 : Int32)]) rfl ?_
  refine w_ri h_m293 (z_at.mk 1 rfl rfl) rfl rfl ?_
  show z_W 997 102 62 [(0, .ref 120), (1, .ref 4), (2, .int (0 : Int32)), (3, .int (0 : Int32)), (4, .int (0 : Int32)), (5, .int (3 : Int32))] [.int (36 : Int32), .int (3 : Int32)] m _
  refine w_p h_m102 3 (pc' := 68) (L' := [(0, .ref 120), (1, .ref 4), (2, .int (0 : Int32)), (3, .int (0 : Int32)), (4, .int (0 : Int32)), (5, .int (3 : Int32))]) (st' := [.ref 4, .int (3 : Int32)]) rfl ?_
  refine w_cv (H.te (by decide) rfl).1 (pc' := 71) (L' := [(0, .ref 120), (1, .ref 4), (2, .int (0 : Int32)), (3, .int (0 : Int32)), (4, .int (0 : Int32)), (5, .int (3 : Int32))]) (rest := [.int (3 : Int32)]) (Ps := []) (L0 := [(0, .ref 4)]) h_m102 (z_at.mk 3 rfl rfl) (Or.inl ⟨rfl, rfl⟩) rfl rfl (by decide) (by decide) rfl rfl rfl rfl rfl rfl (by decide) rfl rfl rfl ?_
  refine w_p h_m293 1 (pc' := 1) (L' := [(0, .ref 4)]) (st' := [.ref 4]) rfl ?_
  refine w_gs H (pc' := 4) (L' := [(0, .ref 4)]) h_m293 (z_at.mk 3 rfl rfl) rfl (by decide) rfl rfl rfl rfl ?_
  refine w_lene H (x := (36 : Int32)) (pc' := 5) (L' := [(0, .ref 4)]) h_m293 (z_at.mk 1 rfl rfl) (by decide) rfl (by decide) rfl rfl rfl ?_
  refine w_p h_m293 1 (pc' := 6) (L' := [(0, .ref 4)]) (st' := [.ref 4, .int (36 : Int32)]) rfl ?_
  refine w_cv (H.te (by decide) rfl).1 (pc' := 9) (L' := [(0, .ref 4)]) (rest := [.int (36 : Int32)]) (Ps := []) (L0 := [(0, .ref 4)]) h_m293 (z_at.mk 3 rfl rfl) (Or.inl ⟨rfl, rfl⟩) rfl rfl (by decide) (by decide) rfl rfl rfl rfl rfl rfl (by decide) rfl rfl rfl ?_
  refine w_p h_m298 3 (pc' := 7) (L' := [(0, .ref 4)]) (st' := [.ref 4]) rfl ?_
  refine w_gs H (pc' := 10) (L' := [(0, .ref 4)]) h_m298 (z_at.mk 3 rfl rfl) rfl (by decide) rfl rfl rfl rfl ?_
  refine w_p h_m298 1 (pc' := 14) (L' := []) (st' := [.int (0 : Int32)]) rfl ?_
  refine w_ri h_m298 (z_at.mk 1 rfl rfl) rfl rfl ?_
  show z_W 996 293 9 [(0, .ref 4)] [.int (0 : Int32), .int (36 : Int32)] m _
  refine w_p h_m293 1 (pc' := 10) (L' := [(0, .ref 4)]) (st' := [.int (36 : Int32)]) rfl ?_
  refine w_ri h_m293 (z_at.mk 1 rfl rfl) rfl rfl ?_
  show z_W 997 102 71 [(0, .ref 120), (1, .ref 4), (2, .int (0 : Int32)), (3, .int (0 : Int32)), (4, .int (0 : Int32)), (5, .int (3 : Int32))] [.int (36 : Int32), .int (3 : Int32)] m _
  refine w_p h_m102 3 (pc' := 77) (L' := [(0, .ref 120), (1, .ref 4), (2, .int (0 : Int32)), (3, .int (0 : Int32)), (4, .int (0 : Int32)), (5, .int (3 : Int32))]) (st' := [.int (3 : Int32), .ref 4]) rfl ?_
  refine w_cv (H.te (by decide) rfl).1 (pc' := 80) (L' := [(0, .ref 120), (1, .ref 4), (2, .int (0 : Int32)), (3, .int (0 : Int32)), (4, .int (0 : Int32)), (5, .int (3 : Int32))]) (rest := []) (Ps := [.int (3 : Int32)]) (L0 := [(0, .ref 4), (1, .int (3 : Int32))]) h_m102 (z_at.mk 3 rfl rfl) (Or.inl ⟨rfl, rfl⟩) rfl rfl (by decide) (by decide) rfl rfl rfl rfl rfl rfl (by decide) rfl rfl rfl ?_
  refine w_p h_m294 1 (pc' := 1) (L' := [(0, .ref 4), (1, .int (3 : Int32))]) (st' := [.ref 4]) rfl ?_
  refine w_cv (H.te (by decide) rfl).1 (pc' := 4) (L' := [(0, .ref 4), (1, .int (3 : Int32))]) (rest := []) (Ps := []) (L0 := [(0, .ref 4)]) h_m294 (z_at.mk 3 rfl rfl) (Or.inl ⟨rfl, rfl⟩) rfl rfl (by decide) (by decide) rfl rfl rfl rfl rfl rfl (by decide) rfl rfl rfl ?_
  refine w_p h_m299 3 (pc' := 7) (L' := [(0, .ref 4)]) (st' := [.ref 4]) rfl ?_
  refine w_gs H (pc' := 10) (L' := [(0, .ref 4)]) h_m299 (z_at.mk 3 rfl rfl) rfl (by decide) rfl rfl rfl rfl ?_
  refine w_p h_m299 3 (pc' := 18) (L' := []) (st' := [.int (1 : Int32)]) rfl ?_
  refine w_ri h_m299 (z_at.mk 1 rfl rfl) rfl rfl ?_
  show z_W 996 294 4 [(0, .ref 4), (1, .int (3 : Int32))] [.int (1 : Int32)] m _
  refine w_p h_m294 2 (pc' := 8) (L' := [(0, .ref 4), (1, .int (3 : Int32))]) (st' := [.ref 4]) rfl ?_
  refine w_gs H (pc' := 11) (L' := [(0, .ref 4), (1, .int (3 : Int32))]) h_m294 (z_at.mk 3 rfl rfl) rfl (by decide) rfl rfl rfl rfl ?_
  refine w_p h_m294 1 (pc' := 12) (L' := [(0, .ref 4), (1, .int (3 : Int32))]) (st' := [.int (3 : Int32), .ref 22]) rfl ?_
  refine w_cs (As := [.ref 22, .int (3 : Int32)]) (rest := []) (j := 308) (L0 := [(0, .ref 22), (1, .int (3 : Int32))]) (pc' := 15) (L' := [(0, .ref 4), (1, .int (3 : Int32))]) h_m294 (z_at.mk 3 rfl rfl) (Or.inl ⟨rfl, rfl⟩) rfl rfl rfl rfl rfl ?_
  refine w_p h_m308 2 (pc' := 2) (L' := [(0, .ref 22), (1, .int (3 : Int32))]) (st' := [.ref 22, .int (3 : Int32)]) rfl ?_
  refine w_lene H (x := (36 : Int32)) (pc' := 3) (L' := [(0, .ref 22), (1, .int (3 : Int32))]) h_m308 (z_at.mk 1 rfl rfl) (by decide) rfl (by decide) rfl rfl rfl ?_
  refine w_ci (pc' := 6) (L' := [(0, .ref 22), (1, .int (3 : Int32))]) h_m308 (z_at.mk 3 rfl rfl) rfl (z_cat_le 0 rfl (by decide)) ⟨by decide, by decide⟩ rfl rfl ?_
  refine w_p h_m308 2 (pc' := 8) (L' := [(0, .ref 22), (1, .int (3 : Int32))]) (st' := [.int (3 : Int32), .ref 22]) rfl ?_
  refine w_ae H (j := 3) (pc' := 9) (L' := [(0, .ref 22), (1, .int (3 : Int32))]) h_m308 (z_at.mk 1 rfl rfl) rfl rfl rfl (by decide) rfl (by decide) rfl rfl rfl ?_
  refine w_p h_m308 3 (pc' := 14) (L' := [(0, .ref 22), (1, .int (3 : Int32))]) (st' := [.int (110 : Int32)]) rfl ?_
  refine w_ri h_m308 (z_at.mk 1 rfl rfl) rfl rfl ?_
  show z_W 996 294 15 [(0, .ref 4), (1, .int (3 : Int32))] [.int (110 : Int32)] m _
  refine w_ri h_m294 (z_at.mk 1 rfl rfl) rfl rfl ?_
  show z_W 997 102 80 [(0, .ref 120), (1, .ref 4), (2, .int (0 : Int32)), (3, .int (0 : Int32)), (4, .int (0 : Int32)), (5, .int (3 : Int32))] [.int (110 : Int32)] m _
  refine w_p h_m102 6 (pc' := 59) (L' := [(0, .ref 120), (1, .ref 4), (2, .int (0 : Int32)), (3, .int (0 : Int32)), (4, .int (0 : Int32)), (5, .int (4 : Int32))]) (st' := [.ref 4, .int (4 : Int32)]) rfl ?_
  refine w_cv (H.te (by decide) rfl).1 (pc' := 62) (L' := [(0, .ref 120), (1, .ref 4), (2, .int (0 : Int32)), (3, .int (0 : Int32)), (4, .int (0 : Int32)), (5, .int (4 : Int32))]) (rest := [.int (4 : Int32)]) (Ps := []) (L0 := [(0, .ref 4)]) h_m102 (z_at.mk 3 rfl rfl) (Or.inl ⟨rfl, rfl⟩) rfl rfl (by decide) (by decide) rfl rfl rfl rfl rfl rfl (by decide) rfl rfl rfl ?_
  refine w_p h_m293 1 (pc' := 1) (L' := [(0, .ref 4)]) (st' := [.ref 4]) rfl ?_
  refine w_gs H (pc' := 4) (L' := [(0, .ref 4)]) h_m293 (z_at.mk 3 rfl rfl) rfl (by decide) rfl rfl rfl rfl ?_
  refine w_lene H (x := (36 : Int32)) (pc' := 5) (L' := [(0, .ref 4)]) h_m293 (z_at.mk 1 rfl rfl) (by decide) rfl (by decide) rfl rfl rfl ?_
  refine w_p h_m293 1 (pc' := 6) (L' := [(0, .ref 4)]) (st' := [.ref 4, .int (36 : Int32)]) rfl ?_
  refine w_cv (H.te (by decide) rfl).1 (pc' := 9) (L' := [(0, .ref 4)]) (rest := [.int (36 : Int32)]) (Ps := []) (L0 := [(0, .ref 4)]) h_m293 (z_at.mk 3 rfl rfl) (Or.inl ⟨rfl, rfl⟩) rfl rfl (by decide) (by decide) rfl rfl rfl rfl rfl rfl (by decide) rfl rfl rfl ?_
  refine w_p h_m298 3 (pc' := 7) (L' := [(0, .ref 4)]) (st' := [.ref 4]) rfl ?_
  refine w_gs H (pc' := 10) (L' := [(0, .ref 4)]) h_m298 (z_at.mk 3 rfl rfl) rfl (by decide) rfl rfl rfl rfl ?_
  refine w_p h_m298 1 (pc' := 14) (L' := []) (st' := [.int (0 : Int32)]) rfl ?_
  refine w_ri h_m298 (z_at.mk 1 rfl rfl) rfl rfl ?_
  show z_W 996 293 9 [(0, .ref 4)] [.int (0 : Int32), .int (36 : Int32)] m _
  refine w_p h_m293 1 (pc' := 10) (L' := [(0, .ref 4)]) (st' := [.int (36 : Int32)]) rfl ?_
  refine w_ri h_m293 (z_at.mk 1 rfl rfl) rfl rfl ?_
  show z_W 997 102 62 [(0, .ref 120), (1, .ref 4), (2, .int (0 : Int32)), (3, .int (0 : Int32)), (4, .int (0 : Int32)), (5, .int (4 : Int32))] [.int (36 : Int32), .int (4 : Int32)] m _
  refine w_p h_m102 3 (pc' := 68) (L' := [(0, .ref 120), (1, .ref 4), (2, .int (0 : Int32)), (3, .int (0 : Int32)), (4, .int (0 : Int32)), (5, .int (4 : Int32))]) (st' := [.ref 4, .int (4 : Int32)]) rfl ?_
  refine w_cv (H.te (by decide) rfl).1 (pc' := 71) (L' := [(0, .ref 120), (1, .ref 4), (2, .int (0 : Int32)), (3, .int (0 : Int32)), (4, .int (0 : Int32)), (5, .int (4 : Int32))]) (rest := [.int (4 : Int32)]) (Ps := []) (L0 := [(0, .ref 4)]) h_m102 (z_at.mk 3 rfl rfl) (Or.inl ⟨rfl, rfl⟩) rfl rfl (by decide) (by decide) rfl rfl rfl rfl rfl rfl (by decide) rfl rfl rfl ?_
  refine w_p h_m293 1 (pc' := 1) (L' := [(0, .ref 4)]) (st' := [.ref 4]) rfl ?_
  refine w_gs H (pc' := 4) (L' := [(0, .ref 4)]) h_m293 (z_at.mk 3 rfl rfl) rfl (by decide) rfl rfl rfl rfl ?_
  refine w_lene H (x := (36 : Int32)) (pc' := 5) (L' := [(0, .ref 4)]) h_m293 (z_at.mk 1 rfl rfl) (by decide) rfl (by decide) rfl rfl rfl ?_
  refine w_p h_m293 1 (pc' := 6) (L' := [(0, .ref 4)]) (st' := [.ref 4, .int (36 : Int32)]) rfl ?_
  refine w_cv (H.te (by decide) rfl).1 (pc' := 9) (L' := [(0, .ref 4)]) (rest := [.int (36 : Int32)]) (Ps := []) (L0 := [(0, .ref 4)]) h_m293 (z_at.mk 3 rfl rfl) (Or.inl ⟨rfl, rfl⟩) rfl rfl (by decide) (by decide) rfl rfl rfl rfl rfl rfl (by decide) rfl rfl rfl ?_
  refine w_p h_m298 3 (pc' := 7) (L' := [(0, .ref 4)]) (st' := [.ref 4]) rfl ?_
  refine w_gs H (pc' := 10) (L' := [(0, .ref 4)]) h_m298 (z_at.mk 3 rfl rfl) rfl (by decide) rfl rfl rfl rfl ?_
  refine w_p h_m298 1 (pc' := 14) (L' := []) (st' := [.int (0 : Int32)]) rfl ?_
  refine w_ri h_m298 (z_at.mk 1 rfl rfl) rfl rfl ?_
  show z_W 996 293 9 [(0, .ref 4)] [.int (0 : Int32), .int (36 : Int32)] m _
  refine w_p h_m293 1 (pc' := 10) (L' := [(0, .ref 4)]) (st' := [.int (36 : Int32)]) rfl ?_
  refine w_ri h_m293 (z_at.mk 1 rfl rfl) rfl rfl ?_
  show z_W 997 102 71 [(0, .ref 120), (1, .ref 4), (2, .int (0 : Int32)), (3, .int (0 : Int32)), (4, .int (0 : Int32)), (5, .int (4 : Int32))] [.int (36 : Int32), .int (4 : Int32)] m _
  refine w_p h_m102 3 (pc' := 77) (L' := [(0, .ref 120), (1, .ref 4), (2, .int (0 : Int32)), (3, .int (0 : Int32)), (4, .int (0 : Int32)), (5, .int (4 : Int32))]) (st' := [.int (4 : Int32), .ref 4]) rfl ?_
  refine w_cv (H.te (by decide) rfl).1 (pc' := 80) (L' := [(0, .ref 120), (1, .ref 4), (2, .int (0 : Int32)), (3, .int (0 : Int32)), (4, .int (0 : Int32)), (5, .int (4 : Int32))]) (rest := []) (Ps := [.int (4 : Int32)]) (L0 := [(0, .ref 4), (1, .int (4 : Int32))]) h_m102 (z_at.mk 3 rfl rfl) (Or.inl ⟨rfl, rfl⟩) rfl rfl (by decide) (by decide) rfl rfl rfl rfl rfl rfl (by decide) rfl rfl rfl ?_
  refine w_p h_m294 1 (pc' := 1) (L' := [(0, .ref 4), (1, .int (4 : Int32))]) (st' := [.ref 4]) rfl ?_
  refine w_cv (H.te (by decide) rfl).1 (pc' := 4) (L' := [(0, .ref 4), (1, .int (4 : Int32))]) (rest := []) (Ps := []) (L0 := [(0, .ref 4)]) h_m294 (z_at.mk 3 rfl rfl) (Or.inl ⟨rfl, rfl⟩) rfl rfl (by decide) (by decide) rfl rfl rfl rfl rfl rfl (by decide) rfl rfl rfl ?_
  refine w_p h_m299 3 (pc' := 7) (L' := [(0, .ref 4)]) (st' := [.ref 4]) rfl ?_
  refine w_gs H (pc' := 10) (L' := [(0, .ref 4)]) h_m299 (z_at.mk 3 rfl rfl) rfl (by decide) rfl rfl rfl rfl ?_
  refine w_p h_m299 3 (pc' := 18) (L' := []) (st' := [.int (1 : Int32)]) rfl ?_
  refine w_ri h_m299 (z_at.mk 1 rfl rfl) rfl rfl ?_
  show z_W 996 294 4 [(0, .ref 4), (1, .int (4 : Int32))] [.int (1 : Int32)] m _
  refine w_p h_m294 2 (pc' := 8) (L' := [(0, .ref 4), (1, .int (4 : Int32))]) (st' := [.ref 4]) rfl ?_
  refine w_gs H (pc' := 11) (L' := [(0, .ref 4), (1, .int (4 : Int32))]) h_m294 (z_at.mk 3 rfl rfl) rfl (by decide) rfl rfl rfl rfl ?_
  refine w_p h_m294 1 (pc' := 12) (L' := [(0, .ref 4), (1, .int (4 : Int32))]) (st' := [.int (4 : Int32), .ref 22]) rfl ?_
  refine w_cs (As := [.ref 22, .int (4 : Int32)]) (rest := []) (j := 308) (L0 := [(0, .ref 22), (1, .int (4 : Int32))]) (pc' := 15) (L' := [(0, .ref 4), (1, .int (4 : Int32))]) h_m294 (z_at.mk 3 rfl rfl) (Or.inl ⟨rfl, rfl⟩) rfl rfl rfl rfl rfl ?_
  refine w_p h_m308 2 (pc' := 2) (L' := [(0, .ref 22), (1, .int (4 : Int32))]) (st' := [.ref 22, .int (4 : Int32)]) rfl ?_
  refine w_lene H (x := (36 : Int32)) (pc' := 3) (L' := [(0, .ref 22), (1, .int (4 : Int32))]) h_m308 (z_at.mk 1 rfl rfl) (by decide) rfl (by decide) rfl rfl rfl ?_
  refine w_ci (pc' := 6) (L' := [(0, .ref 22), (1, .int (4 : Int32))]) h_m308 (z_at.mk 3 rfl rfl) rfl (z_cat_le 0 rfl (by decide)) ⟨by decide, by decide⟩ rfl rfl ?_
  refine w_p h_m308 2 (pc' := 8) (L' := [(0, .ref 22), (1, .int (4 : Int32))]) (st' := [.int (4 : Int32), .ref 22]) rfl ?_
  refine w_ae H (j := 4) (pc' := 9) (L' := [(0, .ref 22), (1, .int (4 : Int32))]) h_m308 (z_at.mk 1 rfl rfl) rfl rfl rfl (by decide) rfl (by decide) rfl rfl rfl ?_
  refine w_p h_m308 3 (pc' := 14) (L' := [(0, .ref 22), (1, .int (4 : Int32))]) (st' := [.int (116 : Int32)]) rfl ?_
  refine w_ri h_m308 (z_at.mk 1 rfl rfl) rfl rfl ?_
  show z_W 996 294 15 [(0, .ref 4), (1, .int (4 : Int32))] [.int (116 : Int32)] m _
  refine w_ri h_m294 (z_at.mk 1 rfl rfl) rfl rfl ?_
  show z_W 997 102 80 [(0, .ref 120), (1, .ref 4), (2, .int (0 : Int32)), (3, .int (0 : Int32)), (4, .int (0 : Int32)), (5, .int (4 : Int32))] [.int (116 : Int32)] m _
  refine w_p h_m102 6 (pc' := 59) (L' := [(0, .ref 120), (1, .ref 4), (2, .int (0 : Int32)), (3, .int (0 : Int32)), (4, .int (0 : Int32)), (5, .int (5 : Int32))]) (st' := [.ref 4, .int (5 : Int32)]) rfl ?_
  refine w_cv (H.te (by decide) rfl).1 (pc' := 62) (L' := [(0, .ref 120), (1, .ref 4), (2, .int (0 : Int32)), (3, .int (0 : Int32)), (4, .int (0 : Int32)), (5, .int (5 : Int32))]) (rest := [.int (5 : Int32)]) (Ps := []) (L0 := [(0, .ref 4)]) h_m102 (z_at.mk 3 rfl rfl) (Or.inl ⟨rfl, rfl⟩) rfl rfl (by decide) (by decide) rfl rfl rfl rfl rfl rfl (by decide) rfl rfl rfl ?_
  refine w_p h_m293 1 (pc' := 1) (L' := [(0, .ref 4)]) (st' := [.ref 4]) rfl ?_
  refine w_gs H (pc' := 4) (L' := [(0, .ref 4)]) h_m293 (z_at.mk 3 rfl rfl) rfl (by decide) rfl rfl rfl rfl ?_
  refine w_lene H (x := (36 : Int32)) (pc' := 5) (L' := [(0, .ref 4)]) h_m293 (z_at.mk 1 rfl rfl) (by decide) rfl (by decide) rfl rfl rfl ?_
  refine w_p h_m293 1 (pc' := 6) (L' := [(0, .ref 4)]) (st' := [.ref 4, .int (36 : Int32)]) rfl ?_
  refine w_cv (H.te (by decide) rfl).1 (pc' := 9) (L' := [(0, .ref 4)]) (rest := [.int (36 : Int32)]) (Ps := []) (L0 := [(0, .ref 4)]) h_m293 (z_at.mk 3 rfl rfl) (Or.inl ⟨rfl, rfl⟩) rfl rfl (by decide) (by decide) rfl rfl rfl rfl rfl rfl (by decide) rfl rfl rfl ?_
  refine w_p h_m298 3 (pc' := 7) (L' := [(0, .ref 4)]) (st' := [.ref 4]) rfl ?_
  refine w_gs H (pc' := 10) (L' := [(0, .ref 4)]) h_m298 (z_at.mk 3 rfl rfl) rfl (by decide) rfl rfl rfl rfl ?_
  refine w_p h_m298 1 (pc' := 14) (L' := []) (st' := [.int (0 : Int32)]) rfl ?_
  refine w_ri h_m298 (z_at.mk 1 rfl rfl) rfl rfl ?_
  show z_W 996 293 9 [(0, .ref 4)] [.int (0 : Int32), .int (36 : Int32)] m _
  refine w_p h_m293 1 (pc' := 10) (L' := [(0, .ref 4)]) (st' := [.int (36 : Int32)]) rfl ?_
  refine w_ri h_m293 (z_at.mk 1 rfl rfl) rfl rfl ?_
  show z_W 997 102 62 [(0, .ref 120), (1, .ref 4), (2, .int (0 : Int32)), (3, .int (0 : Int32)), (4, .int (0 : Int32)), (5, .int (5 : Int32))] [.int (36 : Int32), .int (5 : Int32)] m _
  refine w_p h_m102 3 (pc' := 68) (L' := [(0, .ref 120), (1, .ref 4), (2, .int (0 : Int32)), (3, .int (0 : Int32)), (4, .int (0 : Int32)), (5, .int (5 : Int32))]) (st' := [.ref 4, .int (5 : Int32)]) rfl ?_
  refine w_cv (H.te (by decide) rfl).1 (pc' := 71) (L' := [(0, .ref 120), (1, .ref 4), (2, .int (0 : Int32)), (3, .int (0 : Int32)), (4, .int (0 : Int32)), (5, .int (5 : Int32))]) (rest := [.int (5 : Int32)]) (Ps := []) (L0 := [(0, .ref 4)]) h_m102 (z_at.mk 3 rfl rfl) (Or.inl ⟨rfl, rfl⟩) rfl rfl (by decide) (by decide) rfl rfl rfl rfl rfl rfl (by decide) rfl rfl rfl ?_
  refine w_p h_m293 1 (pc' := 1) (L' := [(0, .ref 4)]) (st' := [.ref 4]) rfl ?_
  refine w_gs H (pc' := 4) (L' := [(0, .ref 4)]) h_m293 (z_at.mk 3 rfl rfl) rfl (by decide) rfl rfl rfl rfl ?_
  refine w_lene H (x := (36 : Int32)) (pc' := 5) (L' := [(0, .ref 4)]) h_m293 (z_at.mk 1 rfl rfl) (by decide) rfl (by decide) rfl rfl rfl ?_
  refine w_p h_m293 1 (pc' := 6) (L' := [(0, .ref 4)]) (st' := [.ref 4, .int (36 : Int32)]) rfl ?_
  refine w_cv (H.te (by decide) rfl).1 (pc' := 9) (L' := [(0, .ref 4)]) (rest := [.int (36 : Int32)]) (Ps := []) (L0 := [(0, .ref 4)]) h_m293 (z_at.mk 3 rfl rfl) (Or.inl ⟨rfl, rfl⟩) rfl rfl (by decide) (by decide) rfl rfl rfl rfl rfl rfl (by decide) rfl rfl rfl ?_
  refine w_p h_m298 3 (pc' := 7) (L' := [(0, .ref 4)]) (st' := [.ref 4]) rfl ?_
  refine w_gs H (pc' := 10) (L' := [(0, .ref 4)]) h_m298 (z_at.mk 3 rfl rfl) rfl (by decide) rfl rfl rfl rfl ?_
  refine w_p h_m298 1 (pc' := 14) (L' := []) (st' := [.int (0 : Int32)]) rfl ?_
  refine w_ri h_m298 (z_at.mk 1 rfl rfl) rfl rfl ?_
  show z_W 996 293 9 [(0, .ref 4)] [.int (0 : Int32), .int (36 : Int32)] m _
  refine w_p h_m293 1 (pc' := 10) (L' := [(0, .ref 4)]) (st' := [.int (36 : Int32)]) rfl ?_
  refine w_ri h_m293 (z_at.mk 1 rfl rfl) rfl rfl ?_
  show z_W 997 102 71 [(0, .ref 120), (1, .ref 4), (2, .int (0 : Int32)), (3, .int (0 : Int32)), (4, .int (0 : Int32)), (5, .int (5 : Int32))] [.int (36 : Int32), .int (5 : Int32)] m _
  refine w_p h_m102 3 (pc' := 77) (L' := [(0, .ref 120), (1, .ref 4), (2, .int (0 : Int32)), (3, .int (0 : Int32)), (4, .int (0 : Int32)), (5, .int (5 : Int32))]) (st' := [.int (5 : Int32), .ref 4]) rfl ?_
  refine w_cv (H.te (by decide) rfl).1 (pc' := 80) (L' := [(0, .ref 120), (1, .ref 4), (2, .int (0 : Int32)), (3, .int (0 : Int32)), (4, .int (0 : Int32)), (5, .int (5 : Int32))]) (rest := []) (Ps := [.int (5 : Int32)]) (L0 := [(0, .ref 4), (1, .int (5 : Int32))]) h_m102 (z_at.mk 3 rfl rfl) (Or.inl ⟨rfl, rfl⟩) rfl rfl (by decide) (by decide) rfl rfl rfl rfl rfl rfl (by decide) rfl rfl rfl ?_
  refine w_p h_m294 1 (pc' := 1) (L' := [(0, .ref 4), (1, .int (5 : Int32))]) (st' := [.ref 4]) rfl ?_
  refine w_cv (H.te (by decide) rfl).1 (pc' := 4) (L' := [(0, .ref 4), (1, .int (5 : Int32))]) (rest := []) (Ps := []) (L0 := [(0, .ref 4)]) h_m294 (z_at.mk 3 rfl rfl) (Or.inl ⟨rfl, rfl⟩) rfl rfl (by decide) (by decide) rfl rfl rfl rfl rfl rfl (by decide) rfl rfl rfl ?_
  refine w_p h_m299 3 (pc' := 7) (L' := [(0, .ref 4)]) (st' := [.ref 4]) rfl ?_
  refine w_gs H (pc' := 10) (L' := [(0, .ref 4)]) h_m299 (z_at.mk 3 rfl rfl) rfl (by decide) rfl rfl rfl rfl ?_
  refine w_p h_m299 3 (pc' := 18) (L' := []) (st' := [.int (1 : Int32)]) rfl ?_
  refine w_ri h_m299 (z_at.mk 1 rfl rfl) rfl rfl ?_
  show z_W 996 294 4 [(0, .ref 4), (1, .int (5 : Int32))] [.int (1 : Int32)] m _
  refine w_p h_m294 2 (pc' := 8) (L' := [(0, .ref 4), (1, .int (5 : Int32))]) (st' := [.ref 4]) rfl ?_
  refine w_gs H (pc' := 11) (L' := [(0, .ref 4), (1, .int (5 : Int32))]) h_m294 (z_at.mk 3 rfl rfl) rfl (by decide) rfl rfl rfl rfl ?_
  refine w_p h_m294 1 (pc' := 12) (L' := [(0, .ref 4), (1, .int (5 : Int32))]) (st' := [.int (5 : Int32), .ref 22]) rfl ?_
  refine w_cs (As := [.ref 22, .int (5 : Int32)]) (rest := []) (j := 308) (L0 := [(0, .ref 22), (1, .int (5 : Int32))]) (pc' := 15) (L' := [(0, .ref 4), (1, .int (5 : Int32))]) h_m294 (z_at.mk 3 rfl rfl) (Or.inl ⟨rfl, rfl⟩) rfl rfl rfl rfl rfl ?_
  refine w_p h_m308 2 (pc' := 2) (L' := [(0, .ref 22), (1, .int (5 : Int32))]) (st' := [.ref 22, .int (5 : Int32)]) rfl ?_
  refine w_lene H (x := (36 : Int32)) (pc' := 3) (L' := [(0, .ref 22), (1, .int (5 : Int32))]) h_m308 (z_at.mk 1 rfl rfl) (by decide) rfl (by decide) rfl rfl rfl ?_
  refine w_ci (pc' := 6) (L' := [(0, .ref 22), (1, .int (5 : Int32))]) h_m308 (z_at.mk 3 rfl rfl) rfl (z_cat_le 0 rfl (by decide)) ⟨by decide, by decide⟩ rfl rfl ?_
  refine w_p h_m308 2 (pc' := 8) (L' := [(0, .ref 22), (1, .int (5 : Int32))]) (st' := [.int (5 : Int32), .ref 22]) rfl ?_
  refine w_ae H (j := 5) (pc' := 9) (L' := [(0, .ref 22), (1, .int (5 : Int32))]) h_m308 (z_at.mk 1 rfl rfl) rfl rfl rfl (by decide) rfl (by decide) rfl rfl rfl ?_
  refine w_p h_m308 3 (pc' := 14) (L' := [(0, .ref 22), (1, .int (5 : Int32))]) (st' := [.int (32 : Int32)]) rfl ?_
  refine w_ri h_m308 (z_at.mk 1 rfl rfl) rfl rfl ?_
  show z_W 996 294 15 [(0, .ref 4), (1, .int (5 : Int32))] [.int (32 : Int32)] m _
  refine w_ri h_m294 (z_at.mk 1 rfl rfl) rfl rfl ?_
  show z_W 997 102 80 [(0, .ref 120), (1, .ref 4), (2, .int (0 : Int32)), (3, .int (0 : Int32)), (4, .int (0 : Int32)), (5, .int (5 : Int32))] [.int (32 : Int32)] m _
  refine w_p h_m102 7 (pc' := 92) (L' := [(0, .ref 120), (1, .ref 4), (2, .int (0 : Int32)), (3, .int (0 : Int32)), (4, .int (0 : Int32)), (5, .int (5 : Int32))]) (st' := [.int (0 : Int32), .int (5 : Int32), .int (0 : Int32), .ref 4, .ref 120]) rfl ?_
  refine w_cv (H.t rfl) (pc' := 95) (L' := [(0, .ref 120), (1, .ref 4), (2, .int (0 : Int32)), (3, .int (0 : Int32)), (4, .int (0 : Int32)), (5, .int (5 : Int32))]) (rest := []) (Ps := [.ref 4, .int (0 : Int32), .int (5 : Int32), .int (0 : Int32)]) (L0 := [(0, .ref 120), (1, .ref 4), (2, .int (0 : Int32)), (3, .int (5 : Int32)), (4, .int (0 : Int32))]) h_m102 (z_at.mk 3 rfl rfl) (Or.inl ⟨rfl, rfl⟩) rfl rfl (by decide) (by decide) rfl rfl rfl rfl rfl rfl (by decide) rfl rfl rfl ?_
  refine w_p h_m103 1 (pc' := 1) (L' := [(0, .ref 120), (1, .ref 4), (2, .int (0 : Int32)), (3, .int (5 : Int32)), (4, .int (0 : Int32))]) (st' := [.ref 120]) rfl ?_
  refine w_cv (H.t rfl) (pc' := 4) (L' := [(0, .ref 120), (1, .ref 4), (2, .int (0 : Int32)), (3, .int (5 : Int32)), (4, .int (0 : Int32))]) (rest := []) (Ps := []) (L0 := [(0, .ref 120)]) h_m103 (z_at.mk 3 rfl rfl) (Or.inl ⟨rfl, rfl⟩) rfl rfl (by decide) (by decide) rfl rfl rfl rfl rfl rfl (by decide) rfl rfl rfl ?_
  refine w_p h_m93 1 (pc' := 1) (L' := [(0, .ref 120)]) (st' := [.ref 120]) rfl ?_
  refine w_gf H (pc' := 4) (L' := [(0, .ref 120)]) h_m93 (z_at.mk 3 rfl rfl) rfl (u := .int (-1 : Int32)) rfl rfl rfl ?_
  refine w_p h_m93 4 (pc' := 13) (L' := []) (st' := [.int (1 : Int32)]) rfl ?_
  refine w_ri h_m93 (z_at.mk 1 rfl rfl) rfl rfl ?_
  show z_W 996 103 4 [(0, .ref 120), (1, .ref 4), (2, .int (0 : Int32)), (3, .int (5 : Int32)), (4, .int (0 : Int32))] [.int (1 : Int32)] m _
  refine w_p h_m103 4 (pc' := 13) (L' := [(0, .ref 120), (1, .ref 4), (2, .int (0 : Int32)), (3, .int (5 : Int32)), (4, .int (0 : Int32))]) (st' := [.ref 120]) rfl ?_
  refine w_gf H (pc' := 16) (L' := [(0, .ref 120), (1, .ref 4), (2, .int (0 : Int32)), (3, .int (5 : Int32)), (4, .int (0 : Int32))]) h_m103 (z_at.mk 3 rfl rfl) rfl (u := .int (0 : Int32)) rfl rfl rfl ?_
  refine w_p h_m103 3 (pc' := 23) (L' := [(0, .ref 120), (1, .ref 4), (2, .int (0 : Int32)), (3, .int (5 : Int32)), (4, .int (0 : Int32))]) (st' := [.ref 120]) rfl ?_
  refine w_gf H (pc' := 26) (L' := [(0, .ref 120), (1, .ref 4), (2, .int (0 : Int32)), (3, .int (5 : Int32)), (4, .int (0 : Int32))]) h_m103 (z_at.mk 3 rfl rfl) rfl (u := .int (0 : Int32)) rfl rfl rfl ?_
  refine w_p h_m103 7 (pc' := 36) (L' := []) (st' := [.int (0 : Int32)]) rfl ?_
  refine w_ri h_m103 (z_at.mk 1 rfl rfl) rfl rfl ?_
  show z_W 997 102 95 [(0, .ref 120), (1, .ref 4), (2, .int (0 : Int32)), (3, .int (0 : Int32)), (4, .int (0 : Int32)), (5, .int (5 : Int32))] [.int (0 : Int32)] m _
  refine w_p h_m102 10 (pc' := 59) (L' := [(0, .ref 120), (1, .ref 4), (2, .int (0 : Int32)), (3, .int (1 : Int32)), (4, .int (6 : Int32)), (5, .int (6 : Int32))]) (st' := [.ref 4, .int (6 : Int32)]) rfl ?_
  refine w_cv (H.te (by decide) rfl).1 (pc' := 62) (L' := [(0, .ref 120), (1, .ref 4), (2, .int (0 : Int32)), (3, .int (1 : Int32)), (4, .int (6 : Int32)), (5, .int (6 : Int32))]) (rest := [.int (6 : Int32)]) (Ps := []) (L0 := [(0, .ref 4)]) h_m102 (z_at.mk 3 rfl rfl) (Or.inl ⟨rfl, rfl⟩) rfl rfl (by decide) (by decide) rfl rfl rfl rfl rfl rfl (by decide) rfl rfl rfl ?_
  refine w_p h_m293 1 (pc' := 1) (L' := [(0, .ref 4)]) (st' := [.ref 4]) rfl ?_
  refine w_gs H (pc' := 4) (L' := [(0, .ref 4)]) h_m293 (z_at.mk 3 rfl rfl) rfl (by decide) rfl rfl rfl rfl ?_
  refine w_lene H (x := (36 : Int32)) (pc' := 5) (L' := [(0, .ref 4)]) h_m293 (z_at.mk 1 rfl rfl) (by decide) rfl (by decide) rfl rfl rfl ?_
  refine w_p h_m293 1 (pc' := 6) (L' := [(0, .ref 4)]) (st' := [.ref 4, .int (36 : Int32)]) rfl ?_
  refine w_cv (H.te (by decide) rfl).1 (pc' := 9) (L' := [(0, .ref 4)]) (rest := [.int (36 : Int32)]) (Ps := []) (L0 := [(0, .ref 4)]) h_m293 (z_at.mk 3 rfl rfl) (Or.inl ⟨rfl, rfl⟩) rfl rfl (by decide) (by decide) rfl rfl rfl rfl rfl rfl (by decide) rfl rfl rfl ?_
  refine w_p h_m298 3 (pc' := 7) (L' := [(0, .ref 4)]) (st' := [.ref 4]) rfl ?_
  refine w_gs H (pc' := 10) (L' := [(0, .ref 4)]) h_m298 (z_at.mk 3 rfl rfl) rfl (by decide) rfl rfl rfl rfl ?_
  refine w_p h_m298 1 (pc' := 14) (L' := []) (st' := [.int (0 : Int32)]) rfl ?_
  refine w_ri h_m298 (z_at.mk 1 rfl rfl) rfl rfl ?_
  show z_W 996 293 9 [(0, .ref 4)] [.int (0 : Int32), .int (36 : Int32)] m _
  refine w_p h_m293 1 (pc' := 10) (L' := [(0, .ref 4)]) (st' := [.int (36 : Int32)]) rfl ?_
  refine w_ri h_m293 (z_at.mk 1 rfl rfl) rfl rfl ?_
  show z_W 997 102 62 [(0, .ref 120), (1, .ref 4), (2, .int (0 : Int32)), (3, .int (1 : Int32)), (4, .int (6 : Int32)), (5, .int (6 : Int32))] [.int (36 : Int32), .int (6 : Int32)] m _
  refine w_p h_m102 3 (pc' := 68) (L' := [(0, .ref 120), (1, .ref 4), (2, .int (0 : Int32)), (3, .int (1 : Int32)), (4, .int (6 : Int32)), (5, .int (6 : Int32))]) (st' := [.ref 4, .int (6 : Int32)]) rfl ?_
  refine w_cv (H.te (by decide) rfl).1 (pc' := 71) (L' := [(0, .ref 120), (1, .ref 4), (2, .int (0 : Int32)), (3, .int (1 : Int32)), (4, .int (6 : Int32)), (5, .int (6 : Int32))]) (rest := [.int (6 : Int32)]) (Ps := []) (L0 := [(0, .ref 4)]) h_m102 (z_at.mk 3 rfl rfl) (Or.inl ⟨rfl, rfl⟩) rfl rfl (by decide) (by decide) rfl rfl rfl rfl rfl rfl (by decide) rfl rfl rfl ?_
  refine w_p h_m293 1 (pc' := 1) (L' := [(0, .ref 4)]) (st' := [.ref 4]) rfl ?_
  refine w_gs H (pc' := 4) (L' := [(0, .ref 4)]) h_m293 (z_at.mk 3 rfl rfl) rfl (by decide) rfl rfl rfl rfl ?_
  refine w_lene H (x := (36 : Int32)) (pc' := 5) (L' := [(0, .ref 4)]) h_m293 (z_at.mk 1 rfl rfl) (by decide) rfl (by decide) rfl rfl rfl ?_
  refine w_p h_m293 1 (pc' := 6) (L' := [(0, .ref 4)]) (st' := [.ref 4, .int (36 : Int32)]) rfl ?_
  refine w_cv (H.te (by decide) rfl).1 (pc' := 9) (L' := [(0, .ref 4)]) (rest := [.int (36 : Int32)]) (Ps := []) (L0 := [(0, .ref 4)]) h_m293 (z_at.mk 3 rfl rfl) (Or.inl ⟨rfl, rfl⟩) rfl rfl (by decide) (by decide) rfl rfl rfl rfl rfl rfl (by decide) rfl rfl rfl ?_
  refine w_p h_m298 3 (pc' := 7) (L' := [(0, .ref 4)]) (st' := [.ref 4]) rfl ?_
  refine w_gs H (pc' := 10) (L' := [(0, .ref 4)]) h_m298 (z_at.mk 3 rfl rfl) rfl (by decide) rfl rfl rfl rfl ?_
  refine w_p h_m298 1 (pc' := 14) (L' := []) (st' := [.int (0 : Int32)]) rfl ?_
  refine w_ri h_m298 (z_at.mk 1 rfl rfl) rfl rfl ?_
  show z_W 996 293 9 [(0, .ref 4)] [.int (0 : Int32), .int (36 : Int32)] m _
  refine w_p h_m293 1 (pc' := 10) (L' := [(0, .ref 4)]) (st' := [.int (36 : Int32)]) rfl ?_
  refine w_ri h_m293 (z_at.mk 1 rfl rfl) rfl rfl ?_
  show z_W 997 102 71 [(0, .ref 120), (1, .ref 4), (2, .int (0 : Int32)), (3, .int (1 : Int32)), (4, .int (6 : Int32)), (5, .int (6 : Int32))] [.int (36 : Int32), .int (6 : Int32)] m _
  refine w_p h_m102 3 (pc' := 77) (L' := [(0, .ref 120), (1, .ref 4), (2, .int (0 : Int32)), (3, .int (1 : Int32)), (4, .int (6 : Int32)), (5, .int (6 : Int32))]) (st' := [.int (6 : Int32), .ref 4]) rfl ?_
  refine w_cv (H.te (by decide) rfl).1 (pc' := 80) (L' := [(0, .ref 120), (1, .ref 4), (2, .int (0 : Int32)), (3, .int (1 : Int32)), (4, .int (6 : Int32)), (5, .int (6 : Int32))]) (rest := []) (Ps := [.int (6 : Int32)]) (L0 := [(0, .ref 4), (1, .int (6 : Int32))]) h_m102 (z_at.mk 3 rfl rfl) (Or.inl ⟨rfl, rfl⟩) rfl rfl (by decide) (by decide) rfl rfl rfl rfl rfl rfl (by decide) rfl rfl rfl ?_
  refine w_p h_m294 1 (pc' := 1) (L' := [(0, .ref 4), (1, .int (6 : Int32))]) (st' := [.ref 4]) rfl ?_
  refine w_cv (H.te (by decide) rfl).1 (pc' := 4) (L' := [(0, .ref 4), (1, .int (6 : Int32))]) (rest := []) (Ps := []) (L0 := [(0, .ref 4)]) h_m294 (z_at.mk 3 rfl rfl) (Or.inl ⟨rfl, rfl⟩) rfl rfl (by decide) (by decide) rfl rfl rfl rfl rfl rfl (by decide) rfl rfl rfl ?_
  refine w_p h_m299 3 (pc' := 7) (L' := [(0, .ref 4)]) (st' := [.ref 4]) rfl ?_
  refine w_gs H (pc' := 10) (L' := [(0, .ref 4)]) h_m299 (z_at.mk 3 rfl rfl) rfl (by decide) rfl rfl rfl rfl ?_
  refine w_p h_m299 3 (pc' := 18) (L' := []) (st' := [.int (1 : Int32)]) rfl ?_
  refine w_ri h_m299 (z_at.mk 1 rfl rfl) rfl rfl ?_
  show z_W 996 294 4 [(0, .ref 4), (1, .int (6 : Int32))] [.int (1 : Int32)] m _
  refine w_p h_m294 2 (pc' := 8) (L' := [(0, .ref 4), (1, .int (6 : Int32))]) (st' := [.ref 4]) rfl ?_
  refine w_gs H (pc' := 11) (L' := [(0, .ref 4), (1, .int (6 : Int32))]) h_m294 (z_at.mk 3 rfl rfl) rfl (by decide) rfl rfl rfl rfl ?_
  refine w_p h_m294 1 (pc' := 12) (L' := [(0, .ref 4), (1, .int (6 : Int32))]) (st' := [.int (6 : Int32), .ref 22]) rfl ?_
  refine w_cs (As := [.ref 22, .int (6 : Int32)]) (rest := []) (j := 308) (L0 := [(0, .ref 22), (1, .int (6 : Int32))]) (pc' := 15) (L' := [(0, .ref 4), (1, .int (6 : Int32))]) h_m294 (z_at.mk 3 rfl rfl) (Or.inl ⟨rfl, rfl⟩) rfl rfl rfl rfl rfl ?_
  refine w_p h_m308 2 (pc' := 2) (L' := [(0, .ref 22), (1, .int (6 : Int32))]) (st' := [.ref 22, .int (6 : Int32)]) rfl ?_
  refine w_lene H (x := (36 : Int32)) (pc' := 3) (L' := [(0, .ref 22), (1, .int (6 : Int32))]) h_m308 (z_at.mk 1 rfl rfl) (by decide) rfl (by decide) rfl rfl rfl ?_
  refine w_ci (pc' := 6) (L' := [(0, .ref 22), (1, .int (6 : Int32))]) h_m308 (z_at.mk 3 rfl rfl) rfl (z_cat_le 0 rfl (by decide)) ⟨by decide, by decide⟩ rfl rfl ?_
  refine w_p h_m308 2 (pc' := 8) (L' := [(0, .ref 22), (1, .int (6 : Int32))]) (st' := [.int (6 : Int32), .ref 22]) rfl ?_
  refine w_ae H (j := 6) (pc' := 9) (L' := [(0, .ref 22), (1, .int (6 : Int32))]) h_m308 (z_at.mk 1 rfl rfl) rfl rfl rfl (by decide) rfl (by decide) rfl rfl rfl ?_
  refine w_p h_m308 3 (pc' := 14) (L' := [(0, .ref 22), (1, .int (6 : Int32))]) (st' := [.int (115 : Int32)]) rfl ?_
  refine w_ri h_m308 (z_at.mk 1 rfl rfl) rfl rfl ?_
  show z_W 996 294 15 [(0, .ref 4), (1, .int (6 : Int32))] [.int (115 : Int32)] m _
  refine w_ri h_m294 (z_at.mk 1 rfl rfl) rfl rfl ?_
  show z_W 997 102 80 [(0, .ref 120), (1, .ref 4), (2, .int (0 : Int32)), (3, .int (1 : Int32)), (4, .int (6 : Int32)), (5, .int (6 : Int32))] [.int (115 : Int32)] m _
  refine w_p h_m102 6 (pc' := 59) (L' := [(0, .ref 120), (1, .ref 4), (2, .int (0 : Int32)), (3, .int (1 : Int32)), (4, .int (6 : Int32)), (5, .int (7 : Int32))]) (st' := [.ref 4, .int (7 : Int32)]) rfl ?_
  refine w_cv (H.te (by decide) rfl).1 (pc' := 62) (L' := [(0, .ref 120), (1, .ref 4), (2, .int (0 : Int32)), (3, .int (1 : Int32)), (4, .int (6 : Int32)), (5, .int (7 : Int32))]) (rest := [.int (7 : Int32)]) (Ps := []) (L0 := [(0, .ref 4)]) h_m102 (z_at.mk 3 rfl rfl) (Or.inl ⟨rfl, rfl⟩) rfl rfl (by decide) (by decide) rfl rfl rfl rfl rfl rfl (by decide) rfl rfl rfl ?_
  refine w_p h_m293 1 (pc' := 1) (L' := [(0, .ref 4)]) (st' := [.ref 4]) rfl ?_
  refine w_gs H (pc' := 4) (L' := [(0, .ref 4)]) h_m293 (z_at.mk 3 rfl rfl) rfl (by decide) rfl rfl rfl rfl ?_
  refine w_lene H (x := (36 : Int32)) (pc' := 5) (L' := [(0, .ref 4)]) h_m293 (z_at.mk 1 rfl rfl) (by decide) rfl (by decide) rfl rfl rfl ?_
  refine w_p h_m293 1 (pc' := 6) (L' := [(0, .ref 4)]) (st' := [.ref 4, .int (36 : Int32)]) rfl ?_
  refine w_cv (H.te (by decide) rfl).1 (pc' := 9) (L' := [(0, .ref 4)]) (rest := [.int (36 : Int32)]) (Ps := []) (L0 := [(0, .ref 4)]) h_m293 (z_at.mk 3 rfl rfl) (Or.inl ⟨rfl, rfl⟩) rfl rfl (by decide) (by decide) rfl rfl rfl rfl rfl rfl (by decide) rfl rfl rfl ?_
  refine w_p h_m298 3 (pc' := 7) (L' := [(0, .ref 4)]) (st' := [.ref 4]) rfl ?_
  refine w_gs H (pc' := 10) (L' := [(0, .ref 4)]) h_m298 (z_at.mk 3 rfl rfl) rfl (by decide) rfl rfl rfl rfl ?_
  refine w_p h_m298 1 (pc' := 14) (L' := []) (st' := [.int (0 : Int32)]) rfl ?_
  refine w_ri h_m298 (z_at.mk 1 rfl rfl) rfl rfl ?_
  show z_W 996 293 9 [(0, .ref 4)] [.int (0 : Int32), .int (36 : Int32)] m _
  refine w_p h_m293 1 (pc' := 10) (L' := [(0, .ref 4)]) (st' := [.int (36 : Int32)]) rfl ?_
  refine w_ri h_m293 (z_at.mk 1 rfl rfl) rfl rfl ?_
  show z_W 997 102 62 [(0, .ref 120), (1, .ref 4), (2, .int (0 : Int32)), (3, .int (1 : Int32)), (4, .int (6 : Int32)), (5, .int (7 : Int32))] [.int (36 : Int32), .int (7 : Int32)] m _
  refine w_p h_m102 3 (pc' := 68) (L' := [(0, .ref 120), (1, .ref 4), (2, .int (0 : Int32)), (3, .int (1 : Int32)), (4, .int (6 : Int32)), (5, .int (7 : Int32))]) (st' := [.ref 4, .int (7 : Int32)]) rfl ?_
  refine w_cv (H.te (by decide) rfl).1 (pc' := 71) (L' := [(0, .ref 120), (1, .ref 4), (2, .int (0 : Int32)), (3, .int (1 : Int32)), (4, .int (6 : Int32)), (5, .int (7 : Int32))]) (rest := [.int (7 : Int32)]) (Ps := []) (L0 := [(0, .ref 4)]) h_m102 (z_at.mk 3 rfl rfl) (Or.inl ⟨rfl, rfl⟩) rfl rfl (by decide) (by decide) rfl rfl rfl rfl rfl rfl (by decide) rfl rfl rfl ?_
  refine w_p h_m293 1 (pc' := 1) (L' := [(0, .ref 4)]) (st' := [.ref 4]) rfl ?_
  refine w_gs H (pc' := 4) (L' := [(0, .ref 4)]) h_m293 (z_at.mk 3 rfl rfl) rfl (by decide) rfl rfl rfl rfl ?_
  refine w_lene H (x := (36 : Int32)) (pc' := 5) (L' := [(0, .ref 4)]) h_m293 (z_at.mk 1 rfl rfl) (by decide) rfl (by decide) rfl rfl rfl ?_
  refine w_p h_m293 1 (pc' := 6) (L' := [(0, .ref 4)]) (st' := [.ref 4, .int (36 : Int32)]) rfl ?_
  refine w_cv (H.te (by decide) rfl).1 (pc' := 9) (L' := [(0, .ref 4)]) (rest := [.int (36 : Int32)]) (Ps := []) (L0 := [(0, .ref 4)]) h_m293 (z_at.mk 3 rfl rfl) (Or.inl ⟨rfl, rfl⟩) rfl rfl (by decide) (by decide) rfl rfl rfl rfl rfl rfl (by decide) rfl rfl rfl ?_
  refine w_p h_m298 3 (pc' := 7) (L' := [(0, .ref 4)]) (st' := [.ref 4]) rfl ?_
  refine w_gs H (pc' := 10) (L' := [(0, .ref 4)]) h_m298 (z_at.mk 3 rfl rfl) rfl (by decide) rfl rfl rfl rfl ?_
  refine w_p h_m298 1 (pc' := 14) (L' := []) (st' := [.int (0 : Int32)]) rfl ?_
  refine w_ri h_m298 (z_at.mk 1 rfl rfl) rfl rfl ?_
  show z_W 996 293 9 [(0, .ref 4)] [.int (0 : Int32), .int (36 : Int32)] m _
  refine w_p h_m293 1 (pc' := 10) (L' := [(0, .ref 4)]) (st' := [.int (36 : Int32)]) rfl ?_
  refine w_ri h_m293 (z_at.mk 1 rfl rfl) rfl rfl ?_
  show z_W 997 102 71 [(0, .ref 120), (1, .ref 4), (2, .int (0 : Int32)), (3, .int (1 : Int32)), (4, .int (6 : Int32)), (5, .int (7 : Int32))] [.int (36 : Int32), .int (7 : Int32)] m _
  refine w_p h_m102 3 (pc' := 77) (L' := [(0, .ref 120), (1, .ref 4), (2, .int (0 : Int32)), (3, .int (1 : Int32)), (4, .int (6 : Int32)), (5, .int (7 : Int32))]) (st' := [.int (7 : Int32), .ref 4]) rfl ?_
  refine w_cv (H.te (by decide) rfl).1 (pc' := 80) (L' := [(0, .ref 120), (1, .ref 4), (2, .int (0 : Int32)), (3, .int (1 : Int32)), (4, .int (6 : Int32)), (5, .int (7 : Int32))]) (rest := []) (Ps := [.int (7 : Int32)]) (L0 := [(0, .ref 4), (1, .int (7 : Int32))]) h_m102 (z_at.mk 3 rfl rfl) (Or.inl ⟨rfl, rfl⟩) rfl rfl (by decide) (by decide) rfl rfl rfl rfl rfl rfl (by decide) rfl rfl rfl ?_
  refine w_p h_m294 1 (pc' := 1) (L' := [(0, .ref 4), (1, .int (7 : Int32))]) (st' := [.ref 4]) rfl ?_
  refine w_cv (H.te (by decide) rfl).1 (pc' := 4) (L' := [(0, .ref 4), (1, .int (7 : Int32))]) (rest := []) (Ps := []) (L0 := [(0, .ref 4)]) h_m294 (z_at.mk 3 rfl rfl) (Or.inl ⟨rfl, rfl⟩) rfl rfl (by decide) (by decide) rfl rfl rfl rfl rfl rfl (by decide) rfl rfl rfl ?_
  refine w_p h_m299 3 (pc' := 7) (L' := [(0, .ref 4)]) (st' := [.ref 4]) rfl ?_
  refine w_gs H (pc' := 10) (L' := [(0, .ref 4)]) h_m299 (z_at.mk 3 rfl rfl) rfl (by decide) rfl rfl rfl rfl ?_
  refine w_p h_m299 3 (pc' := 18) (L' := []) (st' := [.int (1 : Int32)]) rfl ?_
  refine w_ri h_m299 (z_at.mk 1 rfl rfl) rfl rfl ?_
  show z_W 996 294 4 [(0, .ref 4), (1, .int (7 : Int32))] [.int (1 : Int32)] m _
  refine w_p h_m294 2 (pc' := 8) (L' := [(0, .ref 4), (1, .int (7 : Int32))]) (st' := [.ref 4]) rfl ?_
  refine w_gs H (pc' := 11) (L' := [(0, .ref 4), (1, .int (7 : Int32))]) h_m294 (z_at.mk 3 rfl rfl) rfl (by decide) rfl rfl rfl rfl ?_
  refine w_p h_m294 1 (pc' := 12) (L' := [(0, .ref 4), (1, .int (7 : Int32))]) (st' := [.int (7 : Int32), .ref 22]) rfl ?_
  refine w_cs (As := [.ref 22, .int (7 : Int32)]) (rest := []) (j := 308) (L0 := [(0, .ref 22), (1, .int (7 : Int32))]) (pc' := 15) (L' := [(0, .ref 4), (1, .int (7 : Int32))]) h_m294 (z_at.mk 3 rfl rfl) (Or.inl ⟨rfl, rfl⟩) rfl rfl rfl rfl rfl ?_
  refine w_p h_m308 2 (pc' := 2) (L' := [(0, .ref 22), (1, .int (7 : Int32))]) (st' := [.ref 22, .int (7 : Int32)]) rfl ?_
  refine w_lene H (x := (36 : Int32)) (pc' := 3) (L' := [(0, .ref 22), (1, .int (7 : Int32))]) h_m308 (z_at.mk 1 rfl rfl) (by decide) rfl (by decide) rfl rfl rfl ?_
  refine w_ci (pc' := 6) (L' := [(0, .ref 22), (1, .int (7 : Int32))]) h_m308 (z_at.mk 3 rfl rfl) rfl (z_cat_le 0 rfl (by decide)) ⟨by decide, by decide⟩ rfl rfl ?_
  refine w_p h_m308 2 (pc' := 8) (L' := [(0, .ref 22), (1, .int (7 : Int32))]) (st' := [.int (7 : Int32), .ref 22]) rfl ?_
  refine w_ae H (j := 7) (pc' := 9) (L' := [(0, .ref 22), (1, .int (7 : Int32))]) h_m308 (z_at.mk 1 rfl rfl) rfl rfl rfl (by decide) rfl (by decide) rfl rfl rfl ?_
  refine w_p h_m308 3 (pc' := 14) (L' := [(0, .ref 22), (1, .int (7 : Int32))]) (st' := [.int (117 : Int32)]) rfl ?_
  refine w_ri h_m308 (z_at.mk 1 rfl rfl) rfl rfl ?_
  show z_W 996 294 15 [(0, .ref 4), (1, .int (7 : Int32))] [.int (117 : Int32)] m _
  refine w_ri h_m294 (z_at.mk 1 rfl rfl) rfl rfl ?_
  show z_W 997 102 80 [(0, .ref 120), (1, .ref 4), (2, .int (0 : Int32)), (3, .int (1 : Int32)), (4, .int (6 : Int32)), (5, .int (7 : Int32))] [.int (117 : Int32)] m _
  refine w_p h_m102 6 (pc' := 59) (L' := [(0, .ref 120), (1, .ref 4), (2, .int (0 : Int32)), (3, .int (1 : Int32)), (4, .int (6 : Int32)), (5, .int (8 : Int32))]) (st' := [.ref 4, .int (8 : Int32)]) rfl ?_
  refine w_cv (H.te (by decide) rfl).1 (pc' := 62) (L' := [(0, .ref 120), (1, .ref 4), (2, .int (0 : Int32)), (3, .int (1 : Int32)), (4, .int (6 : Int32)), (5, .int (8 : Int32))]) (rest := [.int (8 : Int32)]) (Ps := []) (L0 := [(0, .ref 4)]) h_m102 (z_at.mk 3 rfl rfl) (Or.inl ⟨rfl, rfl⟩) rfl rfl (by decide) (by decide) rfl rfl rfl rfl rfl rfl (by decide) rfl rfl rfl ?_
  refine w_p h_m293 1 (pc' := 1) (L' := [(0, .ref 4)]) (st' := [.ref 4]) rfl ?_
  refine w_gs H (pc' := 4) (L' := [(0, .ref 4)]) h_m293 (z_at.mk 3 rfl rfl) rfl (by decide) rfl rfl rfl rfl ?_
  refine w_lene H (x := (36 : Int32)) (pc' := 5) (L' := [(0, .ref 4)]) h_m293 (z_at.mk 1 rfl rfl) (by decide) rfl (by decide) rfl rfl rfl ?_
  refine w_p h_m293 1 (pc' := 6) (L' := [(0, .ref 4)]) (st' := [.ref 4, .int (36 : Int32)]) rfl ?_
  refine w_cv (H.te (by decide) rfl).1 (pc' := 9) (L' := [(0, .ref 4)]) (rest := [.int (36 : Int32)]) (Ps := []) (L0 := [(0, .ref 4)]) h_m293 (z_at.mk 3 rfl rfl) (Or.inl ⟨rfl, rfl⟩) rfl rfl (by decide) (by decide) rfl rfl rfl rfl rfl rfl (by decide) rfl rfl rfl ?_
  refine w_p h_m298 3 (pc' := 7) (L' := [(0, .ref 4)]) (st' := [.ref 4]) rfl ?_
  refine w_gs H (pc' := 10) (L' := [(0, .ref 4)]) h_m298 (z_at.mk 3 rfl rfl) rfl (by decide) rfl rfl rfl rfl ?_
  refine w_p h_m298 1 (pc' := 14) (L' := []) (st' := [.int (0 : Int32)]) rfl ?_
  refine w_ri h_m298 (z_at.mk 1 rfl rfl) rfl rfl ?_
  show z_W 996 293 9 [(0, .ref 4)] [.int (0 : Int32), .int (36 : Int32)] m _
  refine w_p h_m293 1 (pc' := 10) (L' := [(0, .ref 4)]) (st' := [.int (36 : Int32)]) rfl ?_
  refine w_ri h_m293 (z_at.mk 1 rfl rfl) rfl rfl ?_
  show z_W 997 102 62 [(0, .ref 120), (1, .ref 4), (2, .int (0 : Int32)), (3, .int (1 : Int32)), (4, .int (6 : Int32)), (5, .int (8 : Int32))] [.int (36 : Int32), .int (8 : Int32)] m _
  refine w_p h_m102 3 (pc' := 68) (L' := [(0, .ref 120), (1, .ref 4), (2, .int (0 : Int32)), (3, .int (1 : Int32)), (4, .int (6 : Int32)), (5, .int (8 : Int32))]) (st' := [.ref 4, .int (8 : Int32)]) rfl ?_
  refine w_cv (H.te (by decide) rfl).1 (pc' := 71) (L' := [(0, .ref 120), (1, .ref 4), (2, .int (0 : Int32)), (3, .int (1 : Int32)), (4, .int (6 : Int32)), (5, .int (8 : Int32))]) (rest := [.int (8 : Int32)]) (Ps := []) (L0 := [(0, .ref 4)]) h_m102 (z_at.mk 3 rfl rfl) (Or.inl ⟨rfl, rfl⟩) rfl rfl (by decide) (by decide) rfl rfl rfl rfl rfl rfl (by decide) rfl rfl rfl ?_
  refine w_p h_m293 1 (pc' := 1) (L' := [(0, .ref 4)]) (st' := [.ref 4]) rfl ?_
  refine w_gs H (pc' := 4) (L' := [(0, .ref 4)]) h_m293 (z_at.mk 3 rfl rfl) rfl (by decide) rfl rfl rfl rfl ?_
  refine w_lene H (x := (36 : Int32)) (pc' := 5) (L' := [(0, .ref 4)]) h_m293 (z_at.mk 1 rfl rfl) (by decide) rfl (by decide) rfl rfl rfl ?_
  refine w_p h_m293 1 (pc' := 6) (L' := [(0, .ref 4)]) (st' := [.ref 4, .int (36 : Int32)]) rfl ?_
  refine w_cv (H.te (by decide) rfl).1 (pc' := 9) (L' := [(0, .ref 4)]) (rest := [.int (36 : Int32)]) (Ps := []) (L0 := [(0, .ref 4)]) h_m293 (z_at.mk 3 rfl rfl) (Or.inl ⟨rfl, rfl⟩) rfl rfl (by decide) (by decide) rfl rfl rfl rfl rfl rfl (by decide) rfl rfl rfl ?_
  refine w_p h_m298 3 (pc' := 7) (L' := [(0, .ref 4)]) (st' := [.ref 4]) rfl ?_
  refine w_gs H (pc' := 10) (L' := [(0, .ref 4)]) h_m298 (z_at.mk 3 rfl rfl) rfl (by decide) rfl rfl rfl rfl ?_
  refine w_p h_m298 1 (pc' := 14) (L' := []) (st' := [.int (0 : Int32)]) rfl ?_
  refine w_ri h_m298 (z_at.mk 1 rfl rfl) rfl rfl ?_
  show z_W 996 293 9 [(0, .ref 4)] [.int (0 : Int32), .int (36 : Int32)] m _
  refine w_p h_m293 1 (pc' := 10) (L' := [(0, .ref 4)]) (st' := [.int (36 : Int32)]) rfl ?_
  refine w_ri h_m293 (z_at.mk 1 rfl rfl) rfl rfl ?_
  show z_W 997 102 71 [(0, .ref 120), (1, .ref 4), (2, .int (0 : Int32)), (3, .int (1 : Int32)), (4, .int (6 : Int32)), (5, .int (8 : Int32))] [.int (36 : Int32), .int (8 : Int32)] m _
  refine w_p h_m102 3 (pc' := 77) (L' := [(0, .ref 120), (1, .ref 4), (2, .int (0 : Int32)), (3, .int (1 : Int32)), (4, .int (6 : Int32)), (5, .int (8 : Int32))]) (st' := [.int (8 : Int32), .ref 4]) rfl ?_
  refine w_cv (H.te (by decide) rfl).1 (pc' := 80) (L' := [(0, .ref 120), (1, .ref 4), (2, .int (0 : Int32)), (3, .int (1 : Int32)), (4, .int (6 : Int32)), (5, .int (8 : Int32))]) (rest := []) (Ps := [.int (8 : Int32)]) (L0 := [(0, .ref 4), (1, .int (8 : Int32))]) h_m102 (z_at.mk 3 rfl rfl) (Or.inl ⟨rfl, rfl⟩) rfl rfl (by decide) (by decide) rfl rfl rfl rfl rfl rfl (by decide) rfl rfl rfl ?_
  refine w_p h_m294 1 (pc' := 1) (L' := [(0, .ref 4), (1, .int (8 : Int32))]) (st' := [.ref 4]) rfl ?_
  refine w_cv (H.te (by decide) rfl).1 (pc' := 4) (L' := [(0, .ref 4), (1, .int (8 : Int32))]) (rest := []) (Ps := []) (L0 := [(0, .ref 4)]) h_m294 (z_at.mk 3 rfl rfl) (Or.inl ⟨rfl, rfl⟩) rfl rfl (by decide) (by decide) rfl rfl rfl rfl rfl rfl (by decide) rfl rfl rfl ?_
  refine w_p h_m299 3 (pc' := 7) (L' := [(0, .ref 4)]) (st' := [.ref 4]) rfl ?_
  refine w_gs H (pc' := 10) (L' := [(0, .ref 4)]) h_m299 (z_at.mk 3 rfl rfl) rfl (by decide) rfl rfl rfl rfl ?_
  refine w_p h_m299 3 (pc' := 18) (L' := []) (st' := [.int (1 : Int32)]) rfl ?_
  refine w_ri h_m299 (z_at.mk 1 rfl rfl) rfl rfl ?_
  show z_W 996 294 4 [(0, .ref 4), (1, .int (8 : Int32))] [.int (1 : Int32)] m _
  refine w_p h_m294 2 (pc' := 8) (L' := [(0, .ref 4), (1, .int (8 : Int32))]) (st' := [.ref 4]) rfl ?_
  refine w_gs H (pc' := 11) (L' := [(0, .ref 4), (1, .int (8 : Int32))]) h_m294 (z_at.mk 3 rfl rfl) rfl (by decide) rfl rfl rfl rfl ?_
  refine w_p h_m294 1 (pc' := 12) (L' := [(0, .ref 4), (1, .int (8 : Int32))]) (st' := [.int (8 : Int32), .ref 22]) rfl ?_
  refine w_cs (As := [.ref 22, .int (8 : Int32)]) (rest := []) (j := 308) (L0 := [(0, .ref 22), (1, .int (8 : Int32))]) (pc' := 15) (L' := [(0, .ref 4), (1, .int (8 : Int32))]) h_m294 (z_at.mk 3 rfl rfl) (Or.inl ⟨rfl, rfl⟩) rfl rfl rfl rfl rfl ?_
  refine w_p h_m308 2 (pc' := 2) (L' := [(0, .ref 22), (1, .int (8 : Int32))]) (st' := [.ref 22, .int (8 : Int32)]) rfl ?_
  refine w_lene H (x := (36 : Int32)) (pc' := 3) (L' := [(0, .ref 22), (1, .int (8 : Int32))]) h_m308 (z_at.mk 1 rfl rfl) (by decide) rfl (by decide) rfl rfl rfl ?_
  refine w_ci (pc' := 6) (L' := [(0, .ref 22), (1, .int (8 : Int32))]) h_m308 (z_at.mk 3 rfl rfl) rfl (z_cat_le 0 rfl (by decide)) ⟨by decide, by decide⟩ rfl rfl ?_
  refine w_p h_m308 2 (pc' := 8) (L' := [(0, .ref 22), (1, .int (8 : Int32))]) (st' := [.int (8 : Int32), .ref 22]) rfl ?_
  refine w_ae H (j := 8) (pc' := 9) (L' := [(0, .ref 22), (1, .int (8 : Int32))]) h_m308 (z_at.mk 1 rfl rfl) rfl rfl rfl (by decide) rfl (by decide) rfl rfl rfl ?_
  refine w_p h_m308 3 (pc' := 14) (L' := [(0, .ref 22), (1, .int (8 : Int32))]) (st' := [.int (109 : Int32)]) rfl ?_
  refine w_ri h_m308 (z_at.mk 1 rfl rfl) rfl rfl ?_
  show z_W 996 294 15 [(0, .ref 4), (1, .int (8 : Int32))] [.int (109 : Int32)] m _
  refine w_ri h_m294 (z_at.mk 1 rfl rfl) rfl rfl ?_
  show z_W 997 102 80 [(0, .ref 120), (1, .ref 4), (2, .int (0 : Int32)), (3, .int (1 : Int32)), (4, .int (6 : Int32)), (5, .int (8 : Int32))] [.int (109 : Int32)] m _
  refine w_p h_m102 6 (pc' := 59) (L' := [(0, .ref 120), (1, .ref 4), (2, .int (0 : Int32)), (3, .int (1 : Int32)), (4, .int (6 : Int32)), (5, .int (9 : Int32))]) (st' := [.ref 4, .int (9 : Int32)]) rfl ?_
  refine w_cv (H.te (by decide) rfl).1 (pc' := 62) (L' := [(0, .ref 120), (1, .ref 4), (2, .int (0 : Int32)), (3, .int (1 : Int32)), (4, .int (6 : Int32)), (5, .int (9 : Int32))]) (rest := [.int (9 : Int32)]) (Ps := []) (L0 := [(0, .ref 4)]) h_m102 (z_at.mk 3 rfl rfl) (Or.inl ⟨rfl, rfl⟩) rfl rfl (by decide) (by decide) rfl rfl rfl rfl rfl rfl (by decide) rfl rfl rfl ?_
  refine w_p h_m293 1 (pc' := 1) (L' := [(0, .ref 4)]) (st' := [.ref 4]) rfl ?_
  refine w_gs H (pc' := 4) (L' := [(0, .ref 4)]) h_m293 (z_at.mk 3 rfl rfl) rfl (by decide) rfl rfl rfl rfl ?_
  refine w_lene H (x := (36 : Int32)) (pc' := 5) (L' := [(0, .ref 4)]) h_m293 (z_at.mk 1 rfl rfl) (by decide) rfl (by decide) rfl rfl rfl ?_
  refine w_p h_m293 1 (pc' := 6) (L' := [(0, .ref 4)]) (st' := [.ref 4, .int (36 : Int32)]) rfl ?_
  refine w_cv (H.te (by decide) rfl).1 (pc' := 9) (L' := [(0, .ref 4)]) (rest := [.int (36 : Int32)]) (Ps := []) (L0 := [(0, .ref 4)]) h_m293 (z_at.mk 3 rfl rfl) (Or.inl ⟨rfl, rfl⟩) rfl rfl (by decide) (by decide) rfl rfl rfl rfl rfl rfl (by decide) rfl rfl rfl ?_
  refine w_p h_m298 3 (pc' := 7) (L' := [(0, .ref 4)]) (st' := [.ref 4]) rfl ?_
  refine w_gs H (pc' := 10) (L' := [(0, .ref 4)]) h_m298 (z_at.mk 3 rfl rfl) rfl (by decide) rfl rfl rfl rfl ?_
  refine w_p h_m298 1 (pc' := 14) (L' := []) (st' := [.int (0 : Int32)]) rfl ?_
  refine w_ri h_m298 (z_at.mk 1 rfl rfl) rfl rfl ?_
  show z_W 996 293 9 [(0, .ref 4)] [.int (0 : Int32), .int (36 : Int32)] m _
  refine w_p h_m293 1 (pc' := 10) (L' := [(0, .ref 4)]) (st' := [.int (36 : Int32)]) rfl ?_
  refine w_ri h_m293 (z_at.mk 1 rfl rfl) rfl rfl ?_
  show z_W 997 102 62 [(0, .ref 120), (1, .ref 4), (2, .int (0 : Int32)), (3, .int (1 : Int32)), (4, .int (6 : Int32)), (5, .int (9 : Int32))] [.int (36 : Int32), .int (9 : Int32)] m _
  refine w_p h_m102 3 (pc' := 68) (L' := [(0, .ref 120), (1, .ref 4), (2, .int (0 : Int32)), (3, .int (1 : Int32)), (4, .int (6 : Int32)), (5, .int (9 : Int32))]) (st' := [.ref 4, .int (9 : Int32)]) rfl ?_
  refine w_cv (H.te (by decide) rfl).1 (pc' := 71) (L' := [(0, .ref 120), (1, .ref 4), (2, .int (0 : Int32)), (3, .int (1 : Int32)), (4, .int (6 : Int32)), (5, .int (9 : Int32))]) (rest := [.int (9 : Int32)]) (Ps := []) (L0 := [(0, .ref 4)]) h_m102 (z_at.mk 3 rfl rfl) (Or.inl ⟨rfl, rfl⟩) rfl rfl (by decide) (by decide) rfl rfl rfl rfl rfl rfl (by decide) rfl rfl rfl ?_
  refine w_p h_m293 1 (pc' := 1) (L' := [(0, .ref 4)]) (st' := [.ref 4]) rfl ?_
  refine w_gs H (pc' := 4) (L' := [(0, .ref 4)]) h_m293 (z_at.mk 3 rfl rfl) rfl (by decide) rfl rfl rfl rfl ?_
  refine w_lene H (x := (36 : Int32)) (pc' := 5) (L' := [(0, .ref 4)]) h_m293 (z_at.mk 1 rfl rfl) (by decide) rfl (by decide) rfl rfl rfl ?_
  refine w_p h_m293 1 (pc' := 6) (L' := [(0, .ref 4)]) (st' := [.ref 4, .int (36 : Int32)]) rfl ?_
  refine w_cv (H.te (by decide) rfl).1 (pc' := 9) (L' := [(0, .ref 4)]) (rest := [.int (36 : Int32)]) (Ps := []) (L0 := [(0, .ref 4)]) h_m293 (z_at.mk 3 rfl rfl) (Or.inl ⟨rfl, rfl⟩) rfl rfl (by decide) (by decide) rfl rfl rfl rfl rfl rfl (by decide) rfl rfl rfl ?_
  refine w_p h_m298 3 (pc' := 7) (L' := [(0, .ref 4)]) (st' := [.ref 4]) rfl ?_
  refine w_gs H (pc' := 10) (L' := [(0, .ref 4)]) h_m298 (z_at.mk 3 rfl rfl) rfl (by decide) rfl rfl rfl rfl ?_
  refine w_p h_m298 1 (pc' := 14) (L' := []) (st' := [.int (0 : Int32)]) rfl ?_
  refine w_ri h_m298 (z_at.mk 1 rfl rfl) rfl rfl ?_
  show z_W 996 293 9 [(0, .ref 4)] [.int (0 : Int32), .int (36 : Int32)] m _
  refine w_p h_m293 1 (pc' := 10) (L' := [(0, .ref 4)]) (st' := [.int (36 : Int32)]) rfl ?_
  refine w_ri h_m293 (z_at.mk 1 rfl rfl) rfl rfl ?_
  show z_W 997 102 71 [(0, .ref 120), (1, .ref 4), (2, .int (0 : Int32)), (3, .int (1 : Int32)), (4, .int (6 : Int32)), (5, .int (9 : Int32))] [.int (36 : Int32), .int (9 : Int32)] m _
  refine w_p h_m102 3 (pc' := 77) (L' := [(0, .ref 120), (1, .ref 4), (2, .int (0 : Int32)), (3, .int (1 : Int32)), (4, .int (6 : Int32)), (5, .int (9 : Int32))]) (st' := [.int (9 : Int32), .ref 4]) rfl ?_
  refine w_cv (H.te (by decide) rfl).1 (pc' := 80) (L' := [(0, .ref 120), (1, .ref 4), (2, .int (0 : Int32)), (3, .int (1 : Int32)), (4, .int (6 : Int32)), (5, .int (9 : Int32))]) (rest := []) (Ps := [.int (9 : Int32)]) (L0 := [(0, .ref 4), (1, .int (9 : Int32))]) h_m102 (z_at.mk 3 rfl rfl) (Or.inl ⟨rfl, rfl⟩) rfl rfl (by decide) (by decide) rfl rfl rfl rfl rfl rfl (by decide) rfl rfl rfl ?_
  refine w_p h_m294 1 (pc' := 1) (L' := [(0, .ref 4), (1, .int (9 : Int32))]) (st' := [.ref 4]) rfl ?_
  refine w_cv (H.te (by decide) rfl).1 (pc' := 4) (L' := [(0, .ref 4), (1, .int (9 : Int32))]) (rest := []) (Ps := []) (L0 := [(0, .ref 4)]) h_m294 (z_at.mk 3 rfl rfl) (Or.inl ⟨rfl, rfl⟩) rfl rfl (by decide) (by decide) rfl rfl rfl rfl rfl rfl (by decide) rfl rfl rfl ?_
  refine w_p h_m299 3 (pc' := 7) (L' := [(0, .ref 4)]) (st' := [.ref 4]) rfl ?_
  refine w_gs H (pc' := 10) (L' := [(0, .ref 4)]) h_m299 (z_at.mk 3 rfl rfl) rfl (by decide) rfl rfl rfl rfl ?_
  refine w_p h_m299 3 (pc' := 18) (L' := []) (st' := [.int (1 : Int32)]) rfl ?_
  refine w_ri h_m299 (z_at.mk 1 rfl rfl) rfl rfl ?_
  show z_W 996 294 4 [(0, .ref 4), (1, .int (9 : Int32))] [.int (1 : Int32)] m _
  refine w_p h_m294 2 (pc' := 8) (L' := [(0, .ref 4), (1, .int (9 : Int32))]) (st' := [.ref 4]) rfl ?_
  refine w_gs H (pc' := 11) (L' := [(0, .ref 4), (1, .int (9 : Int32))]) h_m294 (z_at.mk 3 rfl rfl) rfl (by decide) rfl rfl rfl rfl ?_
  refine w_p h_m294 1 (pc' := 12) (L' := [(0, .ref 4), (1, .int (9 : Int32))]) (st' := [.int (9 : Int32), .ref 22]) rfl ?_
  refine w_cs (As := [.ref 22, .int (9 : Int32)]) (rest := []) (j := 308) (L0 := [(0, .ref 22), (1, .int (9 : Int32))]) (pc' := 15) (L' := [(0, .ref 4), (1, .int (9 : Int32))]) h_m294 (z_at.mk 3 rfl rfl) (Or.inl ⟨rfl, rfl⟩) rfl rfl rfl rfl rfl ?_
  refine w_p h_m308 2 (pc' := 2) (L' := [(0, .ref 22), (1, .int (9 : Int32))]) (st' := [.ref 22, .int (9 : Int32)]) rfl ?_
  refine w_lene H (x := (36 : Int32)) (pc' := 3) (L' := [(0, .ref 22), (1, .int (9 : Int32))]) h_m308 (z_at.mk 1 rfl rfl) (by decide) rfl (by decide) rfl rfl rfl ?_
  refine w_ci (pc' := 6) (L' := [(0, .ref 22), (1, .int (9 : Int32))]) h_m308 (z_at.mk 3 rfl rfl) rfl (z_cat_le 0 rfl (by decide)) ⟨by decide, by decide⟩ rfl rfl ?_
  refine w_p h_m308 2 (pc' := 8) (L' := [(0, .ref 22), (1, .int (9 : Int32))]) (st' := [.int (9 : Int32), .ref 22]) rfl ?_
  refine w_ae H (j := 9) (pc' := 9) (L' := [(0, .ref 22), (1, .int (9 : Int32))]) h_m308 (z_at.mk 1 rfl rfl) rfl rfl rfl (by decide) rfl (by decide) rfl rfl rfl ?_
  refine w_p h_m308 3 (pc' := 14) (L' := [(0, .ref 22), (1, .int (9 : Int32))]) (st' := [.int (32 : Int32)]) rfl ?_
  refine w_ri h_m308 (z_at.mk 1 rfl rfl) rfl rfl ?_
  show z_W 996 294 15 [(0, .ref 4), (1, .int (9 : Int32))] [.int (32 : Int32)] m _
  refine w_ri h_m294 (z_at.mk 1 rfl rfl) rfl rfl ?_
  show z_W 997 102 80 [(0, .ref 120), (1, .ref 4), (2, .int (0 : Int32)), (3, .int (1 : Int32)), (4, .int (6 : Int32)), (5, .int (9 : Int32))] [.int (32 : Int32)] m _
  refine w_p h_m102 7 (pc' := 92) (L' := [(0, .ref 120), (1, .ref 4), (2, .int (0 : Int32)), (3, .int (1 : Int32)), (4, .int (6 : Int32)), (5, .int (9 : Int32))]) (st' := [.int (0 : Int32), .int (9 : Int32), .int (6 : Int32), .ref 4, .ref 120]) rfl ?_
  refine w_cv (H.t rfl) (pc' := 95) (L' := [(0, .ref 120), (1, .ref 4), (2, .int (0 : Int32)), (3, .int (1 : Int32)), (4, .int (6 : Int32)), (5, .int (9 : Int32))]) (rest := []) (Ps := [.ref 4, .int (6 : Int32), .int (9 : Int32), .int (0 : Int32)]) (L0 := [(0, .ref 120), (1, .ref 4), (2, .int (6 : Int32)), (3, .int (9 : Int32)), (4, .int (0 : Int32))]) h_m102 (z_at.mk 3 rfl rfl) (Or.inl ⟨rfl, rfl⟩) rfl rfl (by decide) (by decide) rfl rfl rfl rfl rfl rfl (by decide) rfl rfl rfl ?_
  refine w_p h_m103 1 (pc' := 1) (L' := [(0, .ref 120), (1, .ref 4), (2, .int (6 : Int32)), (3, .int (9 : Int32)), (4, .int (0 : Int32))]) (st' := [.ref 120]) rfl ?_
  refine w_cv (H.t rfl) (pc' := 4) (L' := [(0, .ref 120), (1, .ref 4), (2, .int (6 : Int32)), (3, .int (9 : Int32)), (4, .int (0 : Int32))]) (rest := []) (Ps := []) (L0 := [(0, .ref 120)]) h_m103 (z_at.mk 3 rfl rfl) (Or.inl ⟨rfl, rfl⟩) rfl rfl (by decide) (by decide) rfl rfl rfl rfl rfl rfl (by decide) rfl rfl rfl ?_
  refine w_p h_m93 1 (pc' := 1) (L' := [(0, .ref 120)]) (st' := [.ref 120]) rfl ?_
  refine w_gf H (pc' := 4) (L' := [(0, .ref 120)]) h_m93 (z_at.mk 3 rfl rfl) rfl (u := .int (-1 : Int32)) rfl rfl rfl ?_
  refine w_p h_m93 4 (pc' := 13) (L' := []) (st' := [.int (1 : Int32)]) rfl ?_
  refine w_ri h_m93 (z_at.mk 1 rfl rfl) rfl rfl ?_
  show z_W 996 103 4 [(0, .ref 120), (1, .ref 4), (2, .int (6 : Int32)), (3, .int (9 : Int32)), (4, .int (0 : Int32))] [.int (1 : Int32)] m _
  refine w_p h_m103 4 (pc' := 13) (L' := [(0, .ref 120), (1, .ref 4), (2, .int (6 : Int32)), (3, .int (9 : Int32)), (4, .int (0 : Int32))]) (st' := [.ref 120]) rfl ?_
  refine w_gf H (pc' := 16) (L' := [(0, .ref 120), (1, .ref 4), (2, .int (6 : Int32)), (3, .int (9 : Int32)), (4, .int (0 : Int32))]) h_m103 (z_at.mk 3 rfl rfl) rfl (u := .int (0 : Int32)) rfl rfl rfl ?_
  refine w_p h_m103 3 (pc' := 23) (L' := [(0, .ref 120), (1, .ref 4), (2, .int (6 : Int32)), (3, .int (9 : Int32)), (4, .int (0 : Int32))]) (st' := [.ref 120]) rfl ?_
  refine w_gf H (pc' := 26) (L' := [(0, .ref 120), (1, .ref 4), (2, .int (6 : Int32)), (3, .int (9 : Int32)), (4, .int (0 : Int32))]) h_m103 (z_at.mk 3 rfl rfl) rfl (u := .int (0 : Int32)) rfl rfl rfl ?_
  refine w_p h_m103 7 (pc' := 36) (L' := []) (st' := [.int (0 : Int32)]) rfl ?_
  refine w_ri h_m103 (z_at.mk 1 rfl rfl) rfl rfl ?_
  show z_W 997 102 95 [(0, .ref 120), (1, .ref 4), (2, .int (0 : Int32)), (3, .int (1 : Int32)), (4, .int (6 : Int32)), (5, .int (9 : Int32))] [.int (0 : Int32)] m _
  refine w_p h_m102 10 (pc' := 59) (L' := [(0, .ref 120), (1, .ref 4), (2, .int (0 : Int32)), (3, .int (2 : Int32)), (4, .int (10 : Int32)), (5, .int (10 : Int32))]) (st' := [.ref 4, .int (10 : Int32)]) rfl ?_
  refine w_cv (H.te (by decide) rfl).1 (pc' := 62) (L' := [(0, .ref 120), (1, .ref 4), (2, .int (0 : Int32)), (3, .int (2 : Int32)), (4, .int (10 : Int32)), (5, .int (10 : Int32))]) (rest := [.int (10 : Int32)]) (Ps := []) (L0 := [(0, .ref 4)]) h_m102 (z_at.mk 3 rfl rfl) (Or.inl ⟨rfl, rfl⟩) rfl rfl (by decide) (by decide) rfl rfl rfl rfl rfl rfl (by decide) rfl rfl rfl ?_
  refine w_p h_m293 1 (pc' := 1) (L' := [(0, .ref 4)]) (st' := [.ref 4]) rfl ?_
  refine w_gs H (pc' := 4) (L' := [(0, .ref 4)]) h_m293 (z_at.mk 3 rfl rfl) rfl (by decide) rfl rfl rfl rfl ?_
  refine w_lene H (x := (36 : Int32)) (pc' := 5) (L' := [(0, .ref 4)]) h_m293 (z_at.mk 1 rfl rfl) (by decide) rfl (by decide) rfl rfl rfl ?_
  refine w_p h_m293 1 (pc' := 6) (L' := [(0, .ref 4)]) (st' := [.ref 4, .int (36 : Int32)]) rfl ?_
  refine w_cv (H.te (by decide) rfl).1 (pc' := 9) (L' := [(0, .ref 4)]) (rest := [.int (36 : Int32)]) (Ps := []) (L0 := [(0, .ref 4)]) h_m293 (z_at.mk 3 rfl rfl) (Or.inl ⟨rfl, rfl⟩) rfl rfl (by decide) (by decide) rfl rfl rfl rfl rfl rfl (by decide) rfl rfl rfl ?_
  refine w_p h_m298 3 (pc' := 7) (L' := [(0, .ref 4)]) (st' := [.ref 4]) rfl ?_
  refine w_gs H (pc' := 10) (L' := [(0, .ref 4)]) h_m298 (z_at.mk 3 rfl rfl) rfl (by decide) rfl rfl rfl rfl ?_
  refine w_p h_m298 1 (pc' := 14) (L' := []) (st' := [.int (0 : Int32)]) rfl ?_
  refine w_ri h_m298 (z_at.mk 1 rfl rfl) rfl rfl ?_
  show z_W 996 293 9 [(0, .ref 4)] [.int (0 : Int32), .int (36 : Int32)] m _
  refine w_p h_m293 1 (pc' := 10) (L' := [(0, .ref 4)]) (st' := [.int (36 : Int32)]) rfl ?_
  refine w_ri h_m293 (z_at.mk 1 rfl rfl) rfl rfl ?_
  show z_W 997 102 62 [(0, .ref 120), (1, .ref 4), (2, .int (0 : Int32)), (3, .int (2 : Int32)), (4, .int (10 : Int32)), (5, .int (10 : Int32))] [.int (36 : Int32), .int (10 : Int32)] m _
  refine w_p h_m102 3 (pc' := 68) (L' := [(0, .ref 120), (1, .ref 4), (2, .int (0 : Int32)), (3, .int (2 : Int32)), (4, .int (10 : Int32)), (5, .int (10 : Int32))]) (st' := [.ref 4, .int (10 : Int32)]) rfl ?_
  refine w_cv (H.te (by decide) rfl).1 (pc' := 71) (L' := [(0, .ref 120), (1, .ref 4), (2, .int (0 : Int32)), (3, .int (2 : Int32)), (4, .int (10 : Int32)), (5, .int (10 : Int32))]) (rest := [.int (10 : Int32)]) (Ps := []) (L0 := [(0, .ref 4)]) h_m102 (z_at.mk 3 rfl rfl) (Or.inl ⟨rfl, rfl⟩) rfl rfl (by decide) (by decide) rfl rfl rfl rfl rfl rfl (by decide) rfl rfl rfl ?_
  refine w_p h_m293 1 (pc' := 1) (L' := [(0, .ref 4)]) (st' := [.ref 4]) rfl ?_
  refine w_gs H (pc' := 4) (L' := [(0, .ref 4)]) h_m293 (z_at.mk 3 rfl rfl) rfl (by decide) rfl rfl rfl rfl ?_
  refine w_lene H (x := (36 : Int32)) (pc' := 5) (L' := [(0, .ref 4)]) h_m293 (z_at.mk 1 rfl rfl) (by decide) rfl (by decide) rfl rfl rfl ?_
  refine w_p h_m293 1 (pc' := 6) (L' := [(0, .ref 4)]) (st' := [.ref 4, .int (36 : Int32)]) rfl ?_
  refine w_cv (H.te (by decide) rfl).1 (pc' := 9) (L' := [(0, .ref 4)]) (rest := [.int (36 : Int32)]) (Ps := []) (L0 := [(0, .ref 4)]) h_m293 (z_at.mk 3 rfl rfl) (Or.inl ⟨rfl, rfl⟩) rfl rfl (by decide) (by decide) rfl rfl rfl rfl rfl rfl (by decide) rfl rfl rfl ?_
  refine w_p h_m298 3 (pc' := 7) (L' := [(0, .ref 4)]) (st' := [.ref 4]) rfl ?_
  refine w_gs H (pc' := 10) (L' := [(0, .ref 4)]) h_m298 (z_at.mk 3 rfl rfl) rfl (by decide) rfl rfl rfl rfl ?_
  refine w_p h_m298 1 (pc' := 14) (L' := []) (st' := [.int (0 : Int32)]) rfl ?_
  refine w_ri h_m298 (z_at.mk 1 rfl rfl) rfl rfl ?_
  show z_W 996 293 9 [(0, .ref 4)] [.int (0 : Int32), .int (36 : Int32)] m _
  refine w_p h_m293 1 (pc' := 10) (L' := [(0, .ref 4)]) (st' := [.int (36 : Int32)]) rfl ?_
  refine w_ri h_m293 (z_at.mk 1 rfl rfl) rfl rfl ?_
  show z_W 997 102 71 [(0, .ref 120), (1, .ref 4), (2, .int (0 : Int32)), (3, .int (2 : Int32)), (4, .int (10 : Int32)), (5, .int (10 : Int32))] [.int (36 : Int32), .int (10 : Int32)] m _
  refine w_p h_m102 3 (pc' := 77) (L' := [(0, .ref 120), (1, .ref 4), (2, .int (0 : Int32)), (3, .int (2 : Int32)), (4, .int (10 : Int32)), (5, .int (10 : Int32))]) (st' := [.int (10 : Int32), .ref 4]) rfl ?_
  refine w_cv (H.te (by decide) rfl).1 (pc' := 80) (L' := [(0, .ref 120), (1, .ref 4), (2, .int (0 : Int32)), (3, .int (2 : Int32)), (4, .int (10 : Int32)), (5, .int (10 : Int32))]) (rest := []) (Ps := [.int (10 : Int32)]) (L0 := [(0, .ref 4), (1, .int (10 : Int32))]) h_m102 (z_at.mk 3 rfl rfl) (Or.inl ⟨rfl, rfl⟩) rfl rfl (by decide) (by decide) rfl rfl rfl rfl rfl rfl (by decide) rfl rfl rfl ?_
  refine w_p h_m294 1 (pc' := 1) (L' := [(0, .ref 4), (1, .int (10 : Int32))]) (st' := [.ref 4]) rfl ?_
  refine w_cv (H.te (by decide) rfl).1 (pc' := 4) (L' := [(0, .ref 4), (1, .int (10 : Int32))]) (rest := []) (Ps := []) (L0 := [(0, .ref 4)]) h_m294 (z_at.mk 3 rfl rfl) (Or.inl ⟨rfl, rfl⟩) rfl rfl (by decide) (by decide) rfl rfl rfl rfl rfl rfl (by decide) rfl rfl rfl ?_
  refine w_p h_m299 3 (pc' := 7) (L' := [(0, .ref 4)]) (st' := [.ref 4]) rfl ?_
  refine w_gs H (pc' := 10) (L' := [(0, .ref 4)]) h_m299 (z_at.mk 3 rfl rfl) rfl (by decide) rfl rfl rfl rfl ?_
  refine w_p h_m299 3 (pc' := 18) (L' := []) (st' := [.int (1 : Int32)]) rfl ?_
  refine w_ri h_m299 (z_at.mk 1 rfl rfl) rfl rfl ?_
  show z_W 996 294 4 [(0, .ref 4), (1, .int (10 : Int32))] [.int (1 : Int32)] m _
  refine w_p h_m294 2 (pc' := 8) (L' := [(0, .ref 4), (1, .int (10 : Int32))]) (st' := [.ref 4]) rfl ?_
  refine w_gs H (pc' := 11) (L' := [(0, .ref 4), (1, .int (10 : Int32))]) h_m294 (z_at.mk 3 rfl rfl) rfl (by decide) rfl rfl rfl rfl ?_
  refine w_p h_m294 1 (pc' := 12) (L' := [(0, .ref 4), (1, .int (10 : Int32))]) (st' := [.int (10 : Int32), .ref 22]) rfl ?_
  refine w_cs (As := [.ref 22, .int (10 : Int32)]) (rest := []) (j := 308) (L0 := [(0, .ref 22), (1, .int (10 : Int32))]) (pc' := 15) (L' := [(0, .ref 4), (1, .int (10 : Int32))]) h_m294 (z_at.mk 3 rfl rfl) (Or.inl ⟨rfl, rfl⟩) rfl rfl rfl rfl rfl ?_
  refine w_p h_m308 2 (pc' := 2) (L' := [(0, .ref 22), (1, .int (10 : Int32))]) (st' := [.ref 22, .int (10 : Int32)]) rfl ?_
  refine w_lene H (x := (36 : Int32)) (pc' := 3) (L' := [(0, .ref 22), (1, .int (10 : Int32))]) h_m308 (z_at.mk 1 rfl rfl) (by decide) rfl (by decide) rfl rfl rfl ?_
  refine w_ci (pc' := 6) (L' := [(0, .ref 22), (1, .int (10 : Int32))]) h_m308 (z_at.mk 3 rfl rfl) rfl (z_cat_le 0 rfl (by decide)) ⟨by decide, by decide⟩ rfl rfl ?_
  refine w_p h_m308 2 (pc' := 8) (L' := [(0, .ref 22), (1, .int (10 : Int32))]) (st' := [.int (10 : Int32), .ref 22]) rfl ?_
  refine w_ae H (j := 10) (pc' := 9) (L' := [(0, .ref 22), (1, .int (10 : Int32))]) h_m308 (z_at.mk 1 rfl rfl) rfl rfl rfl (by decide) rfl (by decide) rfl rfl rfl ?_
  refine w_p h_m308 3 (pc' := 14) (L' := [(0, .ref 22), (1, .int (10 : Int32))]) (st' := [.int (108 : Int32)]) rfl ?_
  refine w_ri h_m308 (z_at.mk 1 rfl rfl) rfl rfl ?_
  show z_W 996 294 15 [(0, .ref 4), (1, .int (10 : Int32))] [.int (108 : Int32)] m _
  refine w_ri h_m294 (z_at.mk 1 rfl rfl) rfl rfl ?_
  show z_W 997 102 80 [(0, .ref 120), (1, .ref 4), (2, .int (0 : Int32)), (3, .int (2 : Int32)), (4, .int (10 : Int32)), (5, .int (10 : Int32))] [.int (108 : Int32)] m _
  refine w_p h_m102 6 (pc' := 59) (L' := [(0, .ref 120), (1, .ref 4), (2, .int (0 : Int32)), (3, .int (2 : Int32)), (4, .int (10 : Int32)), (5, .int (11 : Int32))]) (st' := [.ref 4, .int (11 : Int32)]) rfl ?_
  refine w_cv (H.te (by decide) rfl).1 (pc' := 62) (L' := [(0, .ref 120), (1, .ref 4), (2, .int (0 : Int32)), (3, .int (2 : Int32)), (4, .int (10 : Int32)), (5, .int (11 : Int32))]) (rest := [.int (11 : Int32)]) (Ps := []) (L0 := [(0, .ref 4)]) h_m102 (z_at.mk 3 rfl rfl) (Or.inl ⟨rfl, rfl⟩) rfl rfl (by decide) (by decide) rfl rfl rfl rfl rfl rfl (by decide) rfl rfl rfl ?_
  refine w_p h_m293 1 (pc' := 1) (L' := [(0, .ref 4)]) (st' := [.ref 4]) rfl ?_
  refine w_gs H (pc' := 4) (L' := [(0, .ref 4)]) h_m293 (z_at.mk 3 rfl rfl) rfl (by decide) rfl rfl rfl rfl ?_
  refine w_lene H (x := (36 : Int32)) (pc' := 5) (L' := [(0, .ref 4)]) h_m293 (z_at.mk 1 rfl rfl) (by decide) rfl (by decide) rfl rfl rfl ?_
  refine w_p h_m293 1 (pc' := 6) (L' := [(0, .ref 4)]) (st' := [.ref 4, .int (36 : Int32)]) rfl ?_
  refine w_cv (H.te (by decide) rfl).1 (pc' := 9) (L' := [(0, .ref 4)]) (rest := [.int (36 : Int32)]) (Ps := []) (L0 := [(0, .ref 4)]) h_m293 (z_at.mk 3 rfl rfl) (Or.inl ⟨rfl, rfl⟩) rfl rfl (by decide) (by decide) rfl rfl rfl rfl rfl rfl (by decide) rfl rfl rfl ?_
  refine w_p h_m298 3 (pc' := 7) (L' := [(0, .ref 4)]) (st' := [.ref 4]) rfl ?_
  refine w_gs H (pc' := 10) (L' := [(0, .ref 4)]) h_m298 (z_at.mk 3 rfl rfl) rfl (by decide) rfl rfl rfl rfl ?_
  refine w_p h_m298 1 (pc' := 14) (L' := []) (st' := [.int (0 : Int32)]) rfl ?_
  refine w_ri h_m298 (z_at.mk 1 rfl rfl) rfl rfl ?_
  show z_W 996 293 9 [(0, .ref 4)] [.int (0 : Int32), .int (36 : Int32)] m _
  refine w_p h_m293 1 (pc' := 10) (L' := [(0, .ref 4)]) (st' := [.int (36 : Int32)]) rfl ?_
  refine w_ri h_m293 (z_at.mk 1 rfl rfl) rfl rfl ?_
  show z_W 997 102 62 [(0, .ref 120), (1, .ref 4), (2, .int (0 : Int32)), (3, .int (2 : Int32)), (4, .int (10 : Int32)), (5, .int (11 : Int32))] [.int (36 : Int32), .int (11 : Int32)] m _
  refine w_p h_m102 3 (pc' := 68) (L' := [(0, .ref 120), (1, .ref 4), (2, .int (0 : Int32)), (3, .int (2 : Int32)), (4, .int (10 : Int32)), (5, .int (11 : Int32))]) (st' := [.ref 4, .int (11 : Int32)]) rfl ?_
  refine w_cv (H.te (by decide) rfl).1 (pc' := 71) (L' := [(0, .ref 120), (1, .ref 4), (2, .int (0 : Int32)), (3, .int (2 : Int32)), (4, .int (10 : Int32)), (5, .int (11 : Int32))]) (rest := [.int (11 : Int32)]) (Ps := []) (L0 := [(0, .ref 4)]) h_m102 (z_at.mk 3 rfl rfl) (Or.inl ⟨rfl, rfl⟩) rfl rfl (by decide) (by decide) rfl rfl rfl rfl rfl rfl (by decide) rfl rfl rfl ?_
  refine w_p h_m293 1 (pc' := 1) (L' := [(0, .ref 4)]) (st' := [.ref 4]) rfl ?_
  refine w_gs H (pc' := 4) (L' := [(0, .ref 4)]) h_m293 (z_at.mk 3 rfl rfl) rfl (by decide) rfl rfl rfl rfl ?_
  refine w_lene H (x := (36 : Int32)) (pc' := 5) (L' := [(0, .ref 4)]) h_m293 (z_at.mk 1 rfl rfl) (by decide) rfl (by decide) rfl rfl rfl ?_
  refine w_p h_m293 1 (pc' := 6) (L' := [(0, .ref 4)]) (st' := [.ref 4, .int (36 : Int32)]) rfl ?_
  refine w_cv (H.te (by decide) rfl).1 (pc' := 9) (L' := [(0, .ref 4)]) (rest := [.int (36 : Int32)]) (Ps := []) (L0 := [(0, .ref 4)]) h_m293 (z_at.mk 3 rfl rfl) (Or.inl ⟨rfl, rfl⟩) rfl rfl (by decide) (by decide) rfl rfl rfl rfl rfl rfl (by decide) rfl rfl rfl ?_
  refine w_p h_m298 3 (pc' := 7) (L' := [(0, .ref 4)]) (st' := [.ref 4]) rfl ?_
  refine w_gs H (pc' := 10) (L' := [(0, .ref 4)]) h_m298 (z_at.mk 3 rfl rfl) rfl (by decide) rfl rfl rfl rfl ?_
  refine w_p h_m298 1 (pc' := 14) (L' := []) (st' := [.int (0 : Int32)]) rfl ?_
  refine w_ri h_m298 (z_at.mk 1 rfl rfl) rfl rfl ?_
  show z_W 996 293 9 [(0, .ref 4)] [.int (0 : Int32), .int (36 : Int32)] m _
  refine w_p h_m293 1 (pc' := 10) (L' := [(0, .ref 4)]) (st' := [.int (36 : Int32)]) rfl ?_
  refine w_ri h_m293 (z_at.mk 1 rfl rfl) rfl rfl ?_
  show z_W 997 102 71 [(0, .ref 120), (1, .ref 4), (2, .int (0 : Int32)), (3, .int (2 : Int32)), (4, .int (10 : Int32)), (5, .int (11 : Int32))] [.int (36 : Int32), .int (11 : Int32)] m _
  refine w_p h_m102 3 (pc' := 77) (L' := [(0, .ref 120), (1, .ref 4), (2, .int (0 : Int32)), (3, .int (2 : Int32)), (4, .int (10 : Int32)), (5, .int (11 : Int32))]) (st' := [.int (11 : Int32), .ref 4]) rfl ?_
  refine w_cv (H.te (by decide) rfl).1 (pc' := 80) (L' := [(0, .ref 120), (1, .ref 4), (2, .int (0 : Int32)), (3, .int (2 : Int32)), (4, .int (10 : Int32)), (5, .int (11 : Int32))]) (rest := []) (Ps := [.int (11 : Int32)]) (L0 := [(0, .ref 4), (1, .int (11 : Int32))]) h_m102 (z_at.mk 3 rfl rfl) (Or.inl ⟨rfl, rfl⟩) rfl rfl (by decide) (by decide) rfl rfl rfl rfl rfl rfl (by decide) rfl rfl rfl ?_
  refine w_p h_m294 1 (pc' := 1) (L' := [(0, .ref 4), (1, .int (11 : Int32))]) (st' := [.ref 4]) rfl ?_
  refine w_cv (H.te (by decide) rfl).1 (pc' := 4) (L' := [(0, .ref 4), (1, .int (11 : Int32))]) (rest := []) (Ps := []) (L0 := [(0, .ref 4)]) h_m294 (z_at.mk 3 rfl rfl) (Or.inl ⟨rfl, rfl⟩) rfl rfl (by decide) (by decide) rfl rfl rfl rfl rfl rfl (by decide) rfl rfl rfl ?_
  refine w_p h_m299 3 (pc' := 7) (L' := [(0, .ref 4)]) (st' := [.ref 4]) rfl ?_
  refine w_gs H (pc' := 10) (L' := [(0, .ref 4)]) h_m299 (z_at.mk 3 rfl rfl) rfl (by decide) rfl rfl rfl rfl ?_
  refine w_p h_m299 3 (pc' := 18) (L' := []) (st' := [.int (1 : Int32)]) rfl ?_
  refine w_ri h_m299 (z_at.mk 1 rfl rfl) rfl rfl ?_
  show z_W 996 294 4 [(0, .ref 4), (1, .int (11 : Int32))] [.int (1 : Int32)] m _
  refine w_p h_m294 2 (pc' := 8) (L' := [(0, .ref 4), (1, .int (11 : Int32))]) (st' := [.ref 4]) rfl ?_
  refine w_gs H (pc' := 11) (L' := [(0, .ref 4), (1, .int (11 : Int32))]) h_m294 (z_at.mk 3 rfl rfl) rfl (by decide) rfl rfl rfl rfl ?_
  refine w_p h_m294 1 (pc' := 12) (L' := [(0, .ref 4), (1, .int (11 : Int32))]) (st' := [.int (11 : Int32), .ref 22]) rfl ?_
  refine w_cs (As := [.ref 22, .int (11 : Int32)]) (rest := []) (j := 308) (L0 := [(0, .ref 22), (1, .int (11 : Int32))]) (pc' := 15) (L' := [(0, .ref 4), (1, .int (11 : Int32))]) h_m294 (z_at.mk 3 rfl rfl) (Or.inl ⟨rfl, rfl⟩) rfl rfl rfl rfl rfl ?_
  refine w_p h_m308 2 (pc' := 2) (L' := [(0, .ref 22), (1, .int (11 : Int32))]) (st' := [.ref 22, .int (11 : Int32)]) rfl ?_
  refine w_lene H (x := (36 : Int32)) (pc' := 3) (L' := [(0, .ref 22), (1, .int (11 : Int32))]) h_m308 (z_at.mk 1 rfl rfl) (by decide) rfl (by decide) rfl rfl rfl ?_
  refine w_ci (pc' := 6) (L' := [(0, .ref 22), (1, .int (11 : Int32))]) h_m308 (z_at.mk 3 rfl rfl) rfl (z_cat_le 0 rfl (by decide)) ⟨by decide, by decide⟩ rfl rfl ?_
  refine w_p h_m308 2 (pc' := 8) (L' := [(0, .ref 22), (1, .int (11 : Int32))]) (st' := [.int (11 : Int32), .ref 22]) rfl ?_
  refine w_ae H (j := 11) (pc' := 9) (L' := [(0, .ref 22), (1, .int (11 : Int32))]) h_m308 (z_at.mk 1 rfl rfl) rfl rfl rfl (by decide) rfl (by decide) rfl rfl rfl ?_
  refine w_p h_m308 3 (pc' := 14) (L' := [(0, .ref 22), (1, .int (11 : Int32))]) (st' := [.int (101 : Int32)]) rfl ?_
  refine w_ri h_m308 (z_at.mk 1 rfl rfl) rfl rfl ?_
  show z_W 996 294 15 [(0, .ref 4), (1, .int (11 : Int32))] [.int (101 : Int32)] m _
  refine w_ri h_m294 (z_at.mk 1 rfl rfl) rfl rfl ?_
  show z_W 997 102 80 [(0, .ref 120), (1, .ref 4), (2, .int (0 : Int32)), (3, .int (2 : Int32)), (4, .int (10 : Int32)), (5, .int (11 : Int32))] [.int (101 : Int32)] m _
  refine w_p h_m102 6 (pc' := 59) (L' := [(0, .ref 120), (1, .ref 4), (2, .int (0 : Int32)), (3, .int (2 : Int32)), (4, .int (10 : Int32)), (5, .int (12 : Int32))]) (st' := [.ref 4, .int (12 : Int32)]) rfl ?_
  refine w_cv (H.te (by decide) rfl).1 (pc' := 62) (L' := [(0, .ref 120), (1, .ref 4), (2, .int (0 : Int32)), (3, .int (2 : Int32)), (4, .int (10 : Int32)), (5, .int (12 : Int32))]) (rest := [.int (12 : Int32)]) (Ps := []) (L0 := [(0, .ref 4)]) h_m102 (z_at.mk 3 rfl rfl) (Or.inl ⟨rfl, rfl⟩) rfl rfl (by decide) (by decide) rfl rfl rfl rfl rfl rfl (by decide) rfl rfl rfl ?_
  refine w_p h_m293 1 (pc' := 1) (L' := [(0, .ref 4)]) (st' := [.ref 4]) rfl ?_
  refine w_gs H (pc' := 4) (L' := [(0, .ref 4)]) h_m293 (z_at.mk 3 rfl rfl) rfl (by decide) rfl rfl rfl rfl ?_
  refine w_lene H (x := (36 : Int32)) (pc' := 5) (L' := [(0, .ref 4)]) h_m293 (z_at.mk 1 rfl rfl) (by decide) rfl (by decide) rfl rfl rfl ?_
  refine w_p h_m293 1 (pc' := 6) (L' := [(0, .ref 4)]) (st' := [.ref 4, .int (36 : Int32)]) rfl ?_
  refine w_cv (H.te (by decide) rfl).1 (pc' := 9) (L' := [(0, .ref 4)]) (rest := [.int (36 : Int32)]) (Ps := []) (L0 := [(0, .ref 4)]) h_m293 (z_at.mk 3 rfl rfl) (Or.inl ⟨rfl, rfl⟩) rfl rfl (by decide) (by decide) rfl rfl rfl rfl rfl rfl (by decide) rfl rfl rfl ?_
  refine w_p h_m298 3 (pc' := 7) (L' := [(0, .ref 4)]) (st' := [.ref 4]) rfl ?_
  refine w_gs H (pc' := 10) (L' := [(0, .ref 4)]) h_m298 (z_at.mk 3 rfl rfl) rfl (by decide) rfl rfl rfl rfl ?_
  refine w_p h_m298 1 (pc' := 14) (L' := []) (st' := [.int (0 : Int32)]) rfl ?_
  refine w_ri h_m298 (z_at.mk 1 rfl rfl) rfl rfl ?_
  show z_W 996 293 9 [(0, .ref 4)] [.int (0 : Int32), .int (36 : Int32)] m _
  refine w_p h_m293 1 (pc' := 10) (L' := [(0, .ref 4)]) (st' := [.int (36 : Int32)]) rfl ?_
  refine w_ri h_m293 (z_at.mk 1 rfl rfl) rfl rfl ?_
  show z_W 997 102 62 [(0, .ref 120), (1, .ref 4), (2, .int (0 : Int32)), (3, .int (2 : Int32)), (4, .int (10 : Int32)), (5, .int (12 : Int32))] [.int (36 : Int32), .int (12 : Int32)] m _
  refine w_p h_m102 3 (pc' := 68) (L' := [(0, .ref 120), (1, .ref 4), (2, .int (0 : Int32)), (3, .int (2 : Int32)), (4, .int (10 : Int32)), (5, .int (12 : Int32))]) (st' := [.ref 4, .int (12 : Int32)]) rfl ?_
  refine w_cv (H.te (by decide) rfl).1 (pc' := 71) (L' := [(0, .ref 120), (1, .ref 4), (2, .int (0 : Int32)), (3, .int (2 : Int32)), (4, .int (10 : Int32)), (5, .int (12 : Int32))]) (rest := [.int (12 : Int32)]) (Ps := []) (L0 := [(0, .ref 4)]) h_m102 (z_at.mk 3 rfl rfl) (Or.inl ⟨rfl, rfl⟩) rfl rfl (by decide) (by decide) rfl rfl rfl rfl rfl rfl (by decide) rfl rfl rfl ?_
  refine w_p h_m293 1 (pc' := 1) (L' := [(0, .ref 4)]) (st' := [.ref 4]) rfl ?_
  refine w_gs H (pc' := 4) (L' := [(0, .ref 4)]) h_m293 (z_at.mk 3 rfl rfl) rfl (by decide) rfl rfl rfl rfl ?_
  refine w_lene H (x := (36 : Int32)) (pc' := 5) (L' := [(0, .ref 4)]) h_m293 (z_at.mk 1 rfl rfl) (by decide) rfl (by decide) rfl rfl rfl ?_
  refine w_p h_m293 1 (pc' := 6) (L' := [(0, .ref 4)]) (st' := [.ref 4, .int (36 : Int32)]) rfl ?_
  refine w_cv (H.te (by decide) rfl).1 (pc' := 9) (L' := [(0, .ref 4)]) (rest := [.int (36 : Int32)]) (Ps := []) (L0 := [(0, .ref 4)]) h_m293 (z_at.mk 3 rfl rfl) (Or.inl ⟨rfl, rfl⟩) rfl rfl (by decide) (by decide) rfl rfl rfl rfl rfl rfl (by decide) rfl rfl rfl ?_
  refine w_p h_m298 3 (pc' := 7) (L' := [(0, .ref 4)]) (st' := [.ref 4]) rfl ?_
  refine w_gs H (pc' := 10) (L' := [(0, .ref 4)]) h_m298 (z_at.mk 3 rfl rfl) rfl (by decide) rfl rfl rfl rfl ?_
  refine w_p h_m298 1 (pc' := 14) (L' := []) (st' := [.int (0 : Int32)]) rfl ?_
  refine w_ri h_m298 (z_at.mk 1 rfl rfl) rfl rfl ?_
  show z_W 996 293 9 [(0, .ref 4)] [.int (0 : Int32), .int (36 : Int32)] m _
  refine w_p h_m293 1 (pc' := 10) (L' := [(0, .ref 4)]) (st' := [.int (36 : Int32)]) rfl ?_
  refine w_ri h_m293 (z_at.mk 1 rfl rfl) rfl rfl ?_
  show z_W 997 102 71 [(0, .ref 120), (1, .ref 4), (2, .int (0 : Int32)), (3, .int (2 : Int32)), (4, .int (10 : Int32)), (5, .int (12 : Int32))] [.int (36 : Int32), .int (12 : Int32)] m _
  refine w_p h_m102 3 (pc' := 77) (L' := [(0, .ref 120), (1, .ref 4), (2, .int (0 : Int32)), (3, .int (2 : Int32)), (4, .int (10 : Int32)), (5, .int (12 : Int32))]) (st' := [.int (12 : Int32), .ref 4]) rfl ?_
  refine w_cv (H.te (by decide) rfl).1 (pc' := 80) (L' := [(0, .ref 120), (1, .ref 4), (2, .int (0 : Int32)), (3, .int (2 : Int32)), (4, .int (10 : Int32)), (5, .int (12 : Int32))]) (rest := []) (Ps := [.int (12 : Int32)]) (L0 := [(0, .ref 4), (1, .int (12 : Int32))]) h_m102 (z_at.mk 3 rfl rfl) (Or.inl ⟨rfl, rfl⟩) rfl rfl (by decide) (by decide) rfl rfl rfl rfl rfl rfl (by decide) rfl rfl rfl ?_
  refine w_p h_m294 1 (pc' := 1) (L' := [(0, .ref 4), (1, .int (12 : Int32))]) (st' := [.ref 4]) rfl ?_
  refine w_cv (H.te (by decide) rfl).1 (pc' := 4) (L' := [(0, .ref 4), (1, .int (12 : Int32))]) (rest := []) (Ps := []) (L0 := [(0, .ref 4)]) h_m294 (z_at.mk 3 rfl rfl) (Or.inl ⟨rfl, rfl⟩) rfl rfl (by decide) (by decide) rfl rfl rfl rfl rfl rfl (by decide) rfl rfl rfl ?_
  refine w_p h_m299 3 (pc' := 7) (L' := [(0, .ref 4)]) (st' := [.ref 4]) rfl ?_
  refine w_gs H (pc' := 10) (L' := [(0, .ref 4)]) h_m299 (z_at.mk 3 rfl rfl) rfl (by decide) rfl rfl rfl rfl ?_
  refine w_p h_m299 3 (pc' := 18) (L' := []) (st' := [.int (1 : Int32)]) rfl ?_
  refine w_ri h_m299 (z_at.mk 1 rfl rfl) rfl rfl ?_
  show z_W 996 294 4 [(0, .ref 4), (1, .int (12 : Int32))] [.int (1 : Int32)] m _
  refine w_p h_m294 2 (pc' := 8) (L' := [(0, .ref 4), (1, .int (12 : Int32))]) (st' := [.ref 4]) rfl ?_
  refine w_gs H (pc' := 11) (L' := [(0, .ref 4), (1, .int (12 : Int32))]) h_m294 (z_at.mk 3 rfl rfl) rfl (by decide) rfl rfl rfl rfl ?_
  refine w_p h_m294 1 (pc' := 12) (L' := [(0, .ref 4), (1, .int (12 : Int32))]) (st' := [.int (12 : Int32), .ref 22]) rfl ?_
  refine w_cs (As := [.ref 22, .int (12 : Int32)]) (rest := []) (j := 308) (L0 := [(0, .ref 22), (1, .int (12 : Int32))]) (pc' := 15) (L' := [(0, .ref 4), (1, .int (12 : Int32))]) h_m294 (z_at.mk 3 rfl rfl) (Or.inl ⟨rfl, rfl⟩) rfl rfl rfl rfl rfl ?_
  refine w_p h_m308 2 (pc' := 2) (L' := [(0, .ref 22), (1, .int (12 : Int32))]) (st' := [.ref 22, .int (12 : Int32)]) rfl ?_
  refine w_lene H (x := (36 : Int32)) (pc' := 3) (L' := [(0, .ref 22), (1, .int (12 : Int32))]) h_m308 (z_at.mk 1 rfl rfl) (by decide) rfl (by decide) rfl rfl rfl ?_
  refine w_ci (pc' := 6) (L' := [(0, .ref 22), (1, .int (12 : Int32))]) h_m308 (z_at.mk 3 rfl rfl) rfl (z_cat_le 0 rfl (by decide)) ⟨by decide, by decide⟩ rfl rfl ?_
  refine w_p h_m308 2 (pc' := 8) (L' := [(0, .ref 22), (1, .int (12 : Int32))]) (st' := [.int (12 : Int32), .ref 22]) rfl ?_
  refine w_ae H (j := 12) (pc' := 9) (L' := [(0, .ref 22), (1, .int (12 : Int32))]) h_m308 (z_at.mk 1 rfl rfl) rfl rfl rfl (by decide) rfl (by decide) rfl rfl rfl ?_
  refine w_p h_m308 3 (pc' := 14) (L' := [(0, .ref 22), (1, .int (12 : Int32))]) (st' := [.int (97 : Int32)]) rfl ?_
  refine w_ri h_m308 (z_at.mk 1 rfl rfl) rfl rfl ?_
  show z_W 996 294 15 [(0, .ref 4), (1, .int (12 : Int32))] [.int (97 : Int32)] m _
  refine w_ri h_m294 (z_at.mk 1 rfl rfl) rfl rfl ?_
  show z_W 997 102 80 [(0, .ref 120), (1, .ref 4), (2, .int (0 : Int32)), (3, .int (2 : Int32)), (4, .int (10 : Int32)), (5, .int (12 : Int32))] [.int (97 : Int32)] m _
  refine w_p h_m102 6 (pc' := 59) (L' := [(0, .ref 120), (1, .ref 4), (2, .int (0 : Int32)), (3, .int (2 : Int32)), (4, .int (10 : Int32)), (5, .int (13 : Int32))]) (st' := [.ref 4, .int (13 : Int32)]) rfl ?_
  refine w_cv (H.te (by decide) rfl).1 (pc' := 62) (L' := [(0, .ref 120), (1, .ref 4), (2, .int (0 : Int32)), (3, .int (2 : Int32)), (4, .int (10 : Int32)), (5, .int (13 : Int32))]) (rest := [.int (13 : Int32)]) (Ps := []) (L0 := [(0, .ref 4)]) h_m102 (z_at.mk 3 rfl rfl) (Or.inl ⟨rfl, rfl⟩) rfl rfl (by decide) (by decide) rfl rfl rfl rfl rfl rfl (by decide) rfl rfl rfl ?_
  refine w_p h_m293 1 (pc' := 1) (L' := [(0, .ref 4)]) (st' := [.ref 4]) rfl ?_
  refine w_gs H (pc' := 4) (L' := [(0, .ref 4)]) h_m293 (z_at.mk 3 rfl rfl) rfl (by decide) rfl rfl rfl rfl ?_
  refine w_lene H (x := (36 : Int32)) (pc' := 5) (L' := [(0, .ref 4)]) h_m293 (z_at.mk 1 rfl rfl) (by decide) rfl (by decide) rfl rfl rfl ?_
  refine w_p h_m293 1 (pc' := 6) (L' := [(0, .ref 4)]) (st' := [.ref 4, .int (36 : Int32)]) rfl ?_
  refine w_cv (H.te (by decide) rfl).1 (pc' := 9) (L' := [(0, .ref 4)]) (rest := [.int (36 : Int32)]) (Ps := []) (L0 := [(0, .ref 4)]) h_m293 (z_at.mk 3 rfl rfl) (Or.inl ⟨rfl, rfl⟩) rfl rfl (by decide) (by decide) rfl rfl rfl rfl rfl rfl (by decide) rfl rfl rfl ?_
  refine w_p h_m298 3 (pc' := 7) (L' := [(0, .ref 4)]) (st' := [.ref 4]) rfl ?_
  refine w_gs H (pc' := 10) (L' := [(0, .ref 4)]) h_m298 (z_at.mk 3 rfl rfl) rfl (by decide) rfl rfl rfl rfl ?_
  refine w_p h_m298 1 (pc' := 14) (L' := []) (st' := [.int (0 : Int32)]) rfl ?_
  refine w_ri h_m298 (z_at.mk 1 rfl rfl) rfl rfl ?_
  show z_W 996 293 9 [(0, .ref 4)] [.int (0 : Int32), .int (36 : Int32)] m _
  refine w_p h_m293 1 (pc' := 10) (L' := [(0, .ref 4)]) (st' := [.int (36 : Int32)]) rfl ?_
  refine w_ri h_m293 (z_at.mk 1 rfl rfl) rfl rfl ?_
  show z_W 997 102 62 [(0, .ref 120), (1, .ref 4), (2, .int (0 : Int32)), (3, .int (2 : Int32)), (4, .int (10 : Int32)), (5, .int (13 : Int32))] [.int (36 : Int32), .int (13 : Int32)] m _
  refine w_p h_m102 3 (pc' := 68) (L' := [(0, .ref 120), (1, .ref 4), (2, .int (0 : Int32)), (3, .int (2 : Int32)), (4, .int (10 : Int32)), (5, .int (13 : Int32))]) (st' := [.ref 4, .int (13 : Int32)]) rfl ?_
  refine w_cv (H.te (by decide) rfl).1 (pc' := 71) (L' := [(0, .ref 120), (1, .ref 4), (2, .int (0 : Int32)), (3, .int (2 : Int32)), (4, .int (10 : Int32)), (5, .int (13 : Int32))]) (rest := [.int (13 : Int32)]) (Ps := []) (L0 := [(0, .ref 4)]) h_m102 (z_at.mk 3 rfl rfl) (Or.inl ⟨rfl, rfl⟩) rfl rfl (by decide) (by decide) rfl rfl rfl rfl rfl rfl (by decide) rfl rfl rfl ?_
  refine w_p h_m293 1 (pc' := 1) (L' := [(0, .ref 4)]) (st' := [.ref 4]) rfl ?_
  refine w_gs H (pc' := 4) (L' := [(0, .ref 4)]) h_m293 (z_at.mk 3 rfl rfl) rfl (by decide) rfl rfl rfl rfl ?_
  refine w_lene H (x := (36 : Int32)) (pc' := 5) (L' := [(0, .ref 4)]) h_m293 (z_at.mk 1 rfl rfl) (by decide) rfl (by decide) rfl rfl rfl ?_
  refine w_p h_m293 1 (pc' := 6) (L' := [(0, .ref 4)]) (st' := [.ref 4, .int (36 : Int32)]) rfl ?_
  refine w_cv (H.te (by decide) rfl).1 (pc' := 9) (L' := [(0, .ref 4)]) (rest := [.int (36 : Int32)]) (Ps := []) (L0 := [(0, .ref 4)]) h_m293 (z_at.mk 3 rfl rfl) (Or.inl ⟨rfl, rfl⟩) rfl rfl (by decide) (by decide) rfl rfl rfl rfl rfl rfl (by decide) rfl rfl rfl ?_
  refine w_p h_m298 3 (pc' := 7) (L' := [(0, .ref 4)]) (st' := [.ref 4]) rfl ?_
  refine w_gs H (pc' := 10) (L' := [(0, .ref 4)]) h_m298 (z_at.mk 3 rfl rfl) rfl (by decide) rfl rfl rfl rfl ?_
  refine w_p h_m298 1 (pc' := 14) (L' := []) (st' := [.int (0 : Int32)]) rfl ?_
  refine w_ri h_m298 (z_at.mk 1 rfl rfl) rfl rfl ?_
  show z_W 996 293 9 [(0, .ref 4)] [.int (0 : Int32), .int (36 : Int32)] m _
  refine w_p h_m293 1 (pc' := 10) (L' := [(0, .ref 4)]) (st' := [.int (36 : Int32)]) rfl ?_
  refine w_ri h_m293 (z_at.mk 1 rfl rfl) rfl rfl ?_
  show z_W 997 102 71 [(0, .ref 120), (1, .ref 4), (2, .int (0 : Int32)), (3, .int (2 : Int32)), (4, .int (10 : Int32)), (5, .int (13 : Int32))] [.int (36 : Int32), .int (13 : Int32)] m _
  refine w_p h_m102 3 (pc' := 77) (L' := [(0, .ref 120), (1, .ref 4), (2, .int (0 : Int32)), (3, .int (2 : Int32)), (4, .int (10 : Int32)), (5, .int (13 : Int32))]) (st' := [.int (13 : Int32), .ref 4]) rfl ?_
  refine w_cv (H.te (by decide) rfl).1 (pc' := 80) (L' := [(0, .ref 120), (1, .ref 4), (2, .int (0 : Int32)), (3, .int (2 : Int32)), (4, .int (10 : Int32)), (5, .int (13 : Int32))]) (rest := []) (Ps := [.int (13 : Int32)]) (L0 := [(0, .ref 4), (1, .int (13 : Int32))]) h_m102 (z_at.mk 3 rfl rfl) (Or.inl ⟨rfl, rfl⟩) rfl rfl (by decide) (by decide) rfl rfl rfl rfl rfl rfl (by decide) rfl rfl rfl ?_
  refine w_p h_m294 1 (pc' := 1) (L' := [(0, .ref 4), (1, .int (13 : Int32))]) (st' := [.ref 4]) rfl ?_
  refine w_cv (H.te (by decide) rfl).1 (pc' := 4) (L' := [(0, .ref 4), (1, .int (13 : Int32))]) (rest := []) (Ps := []) (L0 := [(0, .ref 4)]) h_m294 (z_at.mk 3 rfl rfl) (Or.inl ⟨rfl, rfl⟩) rfl rfl (by decide) (by decide) rfl rfl rfl rfl rfl rfl (by decide) rfl rfl rfl ?_
  refine w_p h_m299 3 (pc' := 7) (L' := [(0, .ref 4)]) (st' := [.ref 4]) rfl ?_
  refine w_gs H (pc' := 10) (L' := [(0, .ref 4)]) h_m299 (z_at.mk 3 rfl rfl) rfl (by decide) rfl rfl rfl rfl ?_
  refine w_p h_m299 3 (pc' := 18) (L' := []) (st' := [.int (1 : Int32)]) rfl ?_
  refine w_ri h_m299 (z_at.mk 1 rfl rfl) rfl rfl ?_
  show z_W 996 294 4 [(0, .ref 4), (1, .int (13 : Int32))] [.int (1 : Int32)] m _
  refine w_p h_m294 2 (pc' := 8) (L' := [(0, .ref 4), (1, .int (13 : Int32))]) (st' := [.ref 4]) rfl ?_
  refine w_gs H (pc' := 11) (L' := [(0, .ref 4), (1, .int (13 : Int32))]) h_m294 (z_at.mk 3 rfl rfl) rfl (by decide) rfl rfl rfl rfl ?_
  refine w_p h_m294 1 (pc' := 12) (L' := [(0, .ref 4), (1, .int (13 : Int32))]) (st' := [.int (13 : Int32), .ref 22]) rfl ?_
  refine w_cs (As := [.ref 22, .int (13 : Int32)]) (rest := []) (j := 308) (L0 := [(0, .ref 22), (1, .int (13 : Int32))]) (pc' := 15) (L' := [(0, .ref 4), (1, .int (13 : Int32))]) h_m294 (z_at.mk 3 rfl rfl) (Or.inl ⟨rfl, rfl⟩) rfl rfl rfl rfl rfl ?_
  refine w_p h_m308 2 (pc' := 2) (L' := [(0, .ref 22), (1, .int (13 : Int32))]) (st' := [.ref 22, .int (13 : Int32)]) rfl ?_
  refine w_lene H (x := (36 : Int32)) (pc' := 3) (L' := [(0, .ref 22), (1, .int (13 : Int32))]) h_m308 (z_at.mk 1 rfl rfl) (by decide) rfl (by decide) rfl rfl rfl ?_
  refine w_ci (pc' := 6) (L' := [(0, .ref 22), (1, .int (13 : Int32))]) h_m308 (z_at.mk 3 rfl rfl) rfl (z_cat_le 0 rfl (by decide)) ⟨by decide, by decide⟩ rfl rfl ?_
  refine w_p h_m308 2 (pc' := 8) (L' := [(0, .ref 22), (1, .int (13 : Int32))]) (st' := [.int (13 : Int32), .ref 22]) rfl ?_
  refine w_ae H (j := 13) (pc' := 9) (L' := [(0, .ref 22), (1, .int (13 : Int32))]) h_m308 (z_at.mk 1 rfl rfl) rfl rfl rfl (by decide) rfl (by decide) rfl rfl rfl ?_
  refine w_p h_m308 3 (pc' := 14) (L' := [(0, .ref 22), (1, .int (13 : Int32))]) (st' := [.int (115 : Int32)]) rfl ?_
  refine w_ri h_m308 (z_at.mk 1 rfl rfl) rfl rfl ?_
  show z_W 996 294 15 [(0, .ref 4), (1, .int (13 : Int32))] [.int (115 : Int32)] m _
  refine w_ri h_m294 (z_at.mk 1 rfl rfl) rfl rfl ?_
  show z_W 997 102 80 [(0, .ref 120), (1, .ref 4), (2, .int (0 : Int32)), (3, .int (2 : Int32)), (4, .int (10 : Int32)), (5, .int (13 : Int32))] [.int (115 : Int32)] m _
  refine w_p h_m102 6 (pc' := 59) (L' := [(0, .ref 120), (1, .ref 4), (2, .int (0 : Int32)), (3, .int (2 : Int32)), (4, .int (10 : Int32)), (5, .int (14 : Int32))]) (st' := [.ref 4, .int (14 : Int32)]) rfl ?_
  refine w_cv (H.te (by decide) rfl).1 (pc' := 62) (L' := [(0, .ref 120), (1, .ref 4), (2, .int (0 : Int32)), (3, .int (2 : Int32)), (4, .int (10 : Int32)), (5, .int (14 : Int32))]) (rest := [.int (14 : Int32)]) (Ps := []) (L0 := [(0, .ref 4)]) h_m102 (z_at.mk 3 rfl rfl) (Or.inl ⟨rfl, rfl⟩) rfl rfl (by decide) (by decide) rfl rfl rfl rfl rfl rfl (by decide) rfl rfl rfl ?_
  refine w_p h_m293 1 (pc' := 1) (L' := [(0, .ref 4)]) (st' := [.ref 4]) rfl ?_
  refine w_gs H (pc' := 4) (L' := [(0, .ref 4)]) h_m293 (z_at.mk 3 rfl rfl) rfl (by decide) rfl rfl rfl rfl ?_
  refine w_lene H (x := (36 : Int32)) (pc' := 5) (L' := [(0, .ref 4)]) h_m293 (z_at.mk 1 rfl rfl) (by decide) rfl (by decide) rfl rfl rfl ?_
  refine w_p h_m293 1 (pc' := 6) (L' := [(0, .ref 4)]) (st' := [.ref 4, .int (36 : Int32)]) rfl ?_
  refine w_cv (H.te (by decide) rfl).1 (pc' := 9) (L' := [(0, .ref 4)]) (rest := [.int (36 : Int32)]) (Ps := []) (L0 := [(0, .ref 4)]) h_m293 (z_at.mk 3 rfl rfl) (Or.inl ⟨rfl, rfl⟩) rfl rfl (by decide) (by decide) rfl rfl rfl rfl rfl rfl (by decide) rfl rfl rfl ?_
  refine w_p h_m298 3 (pc' := 7) (L' := [(0, .ref 4)]) (st' := [.ref 4]) rfl ?_
  refine w_gs H (pc' := 10) (L' := [(0, .ref 4)]) h_m298 (z_at.mk 3 rfl rfl) rfl (by decide) rfl rfl rfl rfl ?_
  refine w_p h_m298 1 (pc' := 14) (L' := []) (st' := [.int (0 : Int32)]) rfl ?_
  refine w_ri h_m298 (z_at.mk 1 rfl rfl) rfl rfl ?_
  show z_W 996 293 9 [(0, .ref 4)] [.int (0 : Int32), .int (36 : Int32)] m _
  refine w_p h_m293 1 (pc' := 10) (L' := [(0, .ref 4)]) (st' := [.int (36 : Int32)]) rfl ?_
  refine w_ri h_m293 (z_at.mk 1 rfl rfl) rfl rfl ?_
  show z_W 997 102 62 [(0, .ref 120), (1, .ref 4), (2, .int (0 : Int32)), (3, .int (2 : Int32)), (4, .int (10 : Int32)), (5, .int (14 : Int32))] [.int (36 : Int32), .int (14 : Int32)] m _
  refine w_p h_m102 3 (pc' := 68) (L' := [(0, .ref 120), (1, .ref 4), (2, .int (0 : Int32)), (3, .int (2 : Int32)), (4, .int (10 : Int32)), (5, .int (14 : Int32))]) (st' := [.ref 4, .int (14 : Int32)]) rfl ?_
  refine w_cv (H.te (by decide) rfl).1 (pc' := 71) (L' := [(0, .ref 120), (1, .ref 4), (2, .int (0 : Int32)), (3, .int (2 : Int32)), (4, .int (10 : Int32)), (5, .int (14 : Int32))]) (rest := [.int (14 : Int32)]) (Ps := []) (L0 := [(0, .ref 4)]) h_m102 (z_at.mk 3 rfl rfl) (Or.inl ⟨rfl, rfl⟩) rfl rfl (by decide) (by decide) rfl rfl rfl rfl rfl rfl (by decide) rfl rfl rfl ?_
  refine w_p h_m293 1 (pc' := 1) (L' := [(0, .ref 4)]) (st' := [.ref 4]) rfl ?_
  refine w_gs H (pc' := 4) (L' := [(0, .ref 4)]) h_m293 (z_at.mk 3 rfl rfl) rfl (by decide) rfl rfl rfl rfl ?_
  refine w_lene H (x := (36 : Int32)) (pc' := 5) (L' := [(0, .ref 4)]) h_m293 (z_at.mk 1 rfl rfl) (by decide) rfl (by decide) rfl rfl rfl ?_
  refine w_p h_m293 1 (pc' := 6) (L' := [(0, .ref 4)]) (st' := [.ref 4, .int (36 : Int32)]) rfl ?_
  refine w_cv (H.te (by decide) rfl).1 (pc' := 9) (L' := [(0, .ref 4)]) (rest := [.int (36 : Int32)]) (Ps := []) (L0 := [(0, .ref 4)]) h_m293 (z_at.mk 3 rfl rfl) (Or.inl ⟨rfl, rfl⟩) rfl rfl (by decide) (by decide) rfl rfl rfl rfl rfl rfl (by decide) rfl rfl rfl ?_
  refine w_p h_m298 3 (pc' := 7) (L' := [(0, .ref 4)]) (st' := [.ref 4]) rfl ?_
  refine w_gs H (pc' := 10) (L' := [(0, .ref 4)]) h_m298 (z_at.mk 3 rfl rfl) rfl (by decide) rfl rfl rfl rfl ?_
  refine w_p h_m298 1 (pc' := 14) (L' := []) (st' := [.int (0 : Int32)]) rfl ?_
  refine w_ri h_m298 (z_at.mk 1 rfl rfl) rfl rfl ?_
  show z_W 996 293 9 [(0, .ref 4)] [.int (0 : Int32), .int (36 : Int32)] m _
  refine w_p h_m293 1 (pc' := 10) (L' := [(0, .ref 4)]) (st' := [.int (36 : Int32)]) rfl ?_
  refine w_ri h_m293 (z_at.mk 1 rfl rfl) rfl rfl ?_
  show z_W 997 102 71 [(0, .ref 120), (1, .ref 4), (2, .int (0 : Int32)), (3, .int (2 : Int32)), (4, .int (10 : Int32)), (5, .int (14 : Int32))] [.int (36 : Int32), .int (14 : Int32)] m _
  refine w_p h_m102 3 (pc' := 77) (L' := [(0, .ref 120), (1, .ref 4), (2, .int (0 : Int32)), (3, .int (2 : Int32)), (4, .int (10 : Int32)), (5, .int (14 : Int32))]) (st' := [.int (14 : Int32), .ref 4]) rfl ?_
  refine w_cv (H.te (by decide) rfl).1 (pc' := 80) (L' := [(0, .ref 120), (1, .ref 4), (2, .int (0 : Int32)), (3, .int (2 : Int32)), (4, .int (10 : Int32)), (5, .int (14 : Int32))]) (rest := []) (Ps := [.int (14 : Int32)]) (L0 := [(0, .ref 4), (1, .int (14 : Int32))]) h_m102 (z_at.mk 3 rfl rfl) (Or.inl ⟨rfl, rfl⟩) rfl rfl (by decide) (by decide) rfl rfl rfl rfl rfl rfl (by decide) rfl rfl rfl ?_
  refine w_p h_m294 1 (pc' := 1) (L' := [(0, .ref 4), (1, .int (14 : Int32))]) (st' := [.ref 4]) rfl ?_
  refine w_cv (H.te (by decide) rfl).1 (pc' := 4) (L' := [(0, .ref 4), (1, .int (14 : Int32))]) (rest := []) (Ps := []) (L0 := [(0, .ref 4)]) h_m294 (z_at.mk 3 rfl rfl) (Or.inl ⟨rfl, rfl⟩) rfl rfl (by decide) (by decide) rfl rfl rfl rfl rfl rfl (by decide) rfl rfl rfl ?_
  refine w_p h_m299 3 (pc' := 7) (L' := [(0, .ref 4)]) (st' := [.ref 4]) rfl ?_
  refine w_gs H (pc' := 10) (L' := [(0, .ref 4)]) h_m299 (z_at.mk 3 rfl rfl) rfl (by decide) rfl rfl rfl rfl ?_
  refine w_p h_m299 3 (pc' := 18) (L' := []) (st' := [.int (1 : Int32)]) rfl ?_
  refine w_ri h_m299 (z_at.mk 1 rfl rfl) rfl rfl ?_
  show z_W 996 294 4 [(0, .ref 4), (1, .int (14 : Int32))] [.int (1 : Int32)] m _
  refine w_p h_m294 2 (pc' := 8) (L' := [(0, .ref 4), (1, .int (14 : Int32))]) (st' := [.ref 4]) rfl ?_
  refine w_gs H (pc' := 11) (L' := [(0, .ref 4), (1, .int (14 : Int32))]) h_m294 (z_at.mk 3 rfl rfl) rfl (by decide) rfl rfl rfl rfl ?_
  refine w_p h_m294 1 (pc' := 12) (L' := [(0, .ref 4), (1, .int (14 : Int32))]) (st' := [.int (14 : Int32), .ref 22]) rfl ?_
  refine w_cs (As := [.ref 22, .int (14 : Int32)]) (rest := []) (j := 308) (L0 := [(0, .ref 22), (1, .int (14 : Int32))]) (pc' := 15) (L' := [(0, .ref 4), (1, .int (14 : Int32))]) h_m294 (z_at.mk 3 rfl rfl) (Or.inl ⟨rfl, rfl⟩) rfl rfl rfl rfl rfl ?_
  refine w_p h_m308 2 (pc' := 2) (L' := [(0, .ref 22), (1, .int (14 : Int32))]) (st' := [.ref 22, .int (14 : Int32)]) rfl ?_
  refine w_lene H (x := (36 : Int32)) (pc' := 3) (L' := [(0, .ref 22), (1, .int (14 : Int32))]) h_m308 (z_at.mk 1 rfl rfl) (by decide) rfl (by decide) rfl rfl rfl ?_
  refine w_ci (pc' := 6) (L' := [(0, .ref 22), (1, .int (14 : Int32))]) h_m308 (z_at.mk 3 rfl rfl) rfl (z_cat_le 0 rfl (by decide)) ⟨by decide, by decide⟩ rfl rfl ?_
  refine w_p h_m308 2 (pc' := 8) (L' := [(0, .ref 22), (1, .int (14 : Int32))]) (st' := [.int (14 : Int32), .ref 22]) rfl ?_
  refine w_ae H (j := 14) (pc' := 9) (L' := [(0, .ref 22), (1, .int (14 : Int32))]) h_m308 (z_at.mk 1 rfl rfl) rfl rfl rfl (by decide) rfl (by decide) rfl rfl rfl ?_
  refine w_p h_m308 3 (pc' := 14) (L' := [(0, .ref 22), (1, .int (14 : Int32))]) (st' := [.int (116 : Int32)]) rfl ?_
  refine w_ri h_m308 (z_at.mk 1 rfl rfl) rfl rfl ?_
  show z_W 996 294 15 [(0, .ref 4), (1, .int (14 : Int32))] [.int (116 : Int32)] m _
  refine w_ri h_m294 (z_at.mk 1 rfl rfl) rfl rfl ?_
  show z_W 997 102 80 [(0, .ref 120), (1, .ref 4), (2, .int (0 : Int32)), (3, .int (2 : Int32)), (4, .int (10 : Int32)), (5, .int (14 : Int32))] [.int (116 : Int32)] m _
  refine w_p h_m102 6 (pc' := 59) (L' := [(0, .ref 120), (1, .ref 4), (2, .int (0 : Int32)), (3, .int (2 : Int32)), (4, .int (10 : Int32)), (5, .int (15 : Int32))]) (st' := [.ref 4, .int (15 : Int32)]) rfl ?_
  refine w_cv (H.te (by decide) rfl).1 (pc' := 62) (L' := [(0, .ref 120), (1, .ref 4), (2, .int (0 : Int32)), (3, .int (2 : Int32)), (4, .int (10 : Int32)), (5, .int (15 : Int32))]) (rest := [.int (15 : Int32)]) (Ps := []) (L0 := [(0, .ref 4)]) h_m102 (z_at.mk 3 rfl rfl) (Or.inl ⟨rfl, rfl⟩) rfl rfl (by decide) (by decide) rfl rfl rfl rfl rfl rfl (by decide) rfl rfl rfl ?_
  refine w_p h_m293 1 (pc' := 1) (L' := [(0, .ref 4)]) (st' := [.ref 4]) rfl ?_
  refine w_gs H (pc' := 4) (L' := [(0, .ref 4)]) h_m293 (z_at.mk 3 rfl rfl) rfl (by decide) rfl rfl rfl rfl ?_
  refine w_lene H (x := (36 : Int32)) (pc' := 5) (L' := [(0, .ref 4)]) h_m293 (z_at.mk 1 rfl rfl) (by decide) rfl (by decide) rfl rfl rfl ?_
  refine w_p h_m293 1 (pc' := 6) (L' := [(0, .ref 4)]) (st' := [.ref 4, .int (36 : Int32)]) rfl ?_
  refine w_cv (H.te (by decide) rfl).1 (pc' := 9) (L' := [(0, .ref 4)]) (rest := [.int (36 : Int32)]) (Ps := []) (L0 := [(0, .ref 4)]) h_m293 (z_at.mk 3 rfl rfl) (Or.inl ⟨rfl, rfl⟩) rfl rfl (by decide) (by decide) rfl rfl rfl rfl rfl rfl (by decide) rfl rfl rfl ?_
  refine w_p h_m298 3 (pc' := 7) (L' := [(0, .ref 4)]) (st' := [.ref 4]) rfl ?_
  refine w_gs H (pc' := 10) (L' := [(0, .ref 4)]) h_m298 (z_at.mk 3 rfl rfl) rfl (by decide) rfl rfl rfl rfl ?_
  refine w_p h_m298 1 (pc' := 14) (L' := []) (st' := [.int (0 : Int32)]) rfl ?_
  refine w_ri h_m298 (z_at.mk 1 rfl rfl) rfl rfl ?_
  show z_W 996 293 9 [(0, .ref 4)] [.int (0 : Int32), .int (36 : Int32)] m _
  refine w_p h_m293 1 (pc' := 10) (L' := [(0, .ref 4)]) (st' := [.int (36 : Int32)]) rfl ?_
  refine w_ri h_m293 (z_at.mk 1 rfl rfl) rfl rfl ?_
  show z_W 997 102 62 [(0, .ref 120), (1, .ref 4), (2, .int (0 : Int32)), (3, .int (2 : Int32)), (4, .int (10 : Int32)), (5, .int (15 : Int32))] [.int (36 : Int32), .int (15 : Int32)] m _
  refine w_p h_m102 3 (pc' := 68) (L' := [(0, .ref 120), (1, .ref 4), (2, .int (0 : Int32)), (3, .int (2 : Int32)), (4, .int (10 : Int32)), (5, .int (15 : Int32))]) (st' := [.ref 4, .int (15 : Int32)]) rfl ?_
  refine w_cv (H.te (by decide) rfl).1 (pc' := 71) (L' := [(0, .ref 120), (1, .ref 4), (2, .int (0 : Int32)), (3, .int (2 : Int32)), (4, .int (10 : Int32)), (5, .int (15 : Int32))]) (rest := [.int (15 : Int32)]) (Ps := []) (L0 := [(0, .ref 4)]) h_m102 (z_at.mk 3 rfl rfl) (Or.inl ⟨rfl, rfl⟩) rfl rfl (by decide) (by decide) rfl rfl rfl rfl rfl rfl (by decide) rfl rfl rfl ?_
  refine w_p h_m293 1 (pc' := 1) (L' := [(0, .ref 4)]) (st' := [.ref 4]) rfl ?_
  refine w_gs H (pc' := 4) (L' := [(0, .ref 4)]) h_m293 (z_at.mk 3 rfl rfl) rfl (by decide) rfl rfl rfl rfl ?_
  refine w_lene H (x := (36 : Int32)) (pc' := 5) (L' := [(0, .ref 4)]) h_m293 (z_at.mk 1 rfl rfl) (by decide) rfl (by decide) rfl rfl rfl ?_
  refine w_p h_m293 1 (pc' := 6) (L' := [(0, .ref 4)]) (st' := [.ref 4, .int (36 : Int32)]) rfl ?_
  refine w_cv (H.te (by decide) rfl).1 (pc' := 9) (L' := [(0, .ref 4)]) (rest := [.int (36 : Int32)]) (Ps := []) (L0 := [(0, .ref 4)]) h_m293 (z_at.mk 3 rfl rfl) (Or.inl ⟨rfl, rfl⟩) rfl rfl (by decide) (by decide) rfl rfl rfl rfl rfl rfl (by decide) rfl rfl rfl ?_
  refine w_p h_m298 3 (pc' := 7) (L' := [(0, .ref 4)]) (st' := [.ref 4]) rfl ?_
  refine w_gs H (pc' := 10) (L' := [(0, .ref 4)]) h_m298 (z_at.mk 3 rfl rfl) rfl (by decide) rfl rfl rfl rfl ?_
  refine w_p h_m298 1 (pc' := 14) (L' := []) (st' := [.int (0 : Int32)]) rfl ?_
  refine w_ri h_m298 (z_at.mk 1 rfl rfl) rfl rfl ?_
  show z_W 996 293 9 [(0, .ref 4)] [.int (0 : Int32), .int (36 : Int32)] m _
  refine w_p h_m293 1 (pc' := 10) (L' := [(0, .ref 4)]) (st' := [.int (36 : Int32)]) rfl ?_
  refine w_ri h_m293 (z_at.mk 1 rfl rfl) rfl rfl ?_
  show z_W 997 102 71 [(0, .ref 120), (1, .ref 4), (2, .int (0 : Int32)), (3, .int (2 : Int32)), (4, .int (10 : Int32)), (5, .int (15 : Int32))] [.int (36 : Int32), .int (15 : Int32)] m _
  refine w_p h_m102 3 (pc' := 77) (L' := [(0, .ref 120), (1, .ref 4), (2, .int (0 : Int32)), (3, .int (2 : Int32)), (4, .int (10 : Int32)), (5, .int (15 : Int32))]) (st' := [.int (15 : Int32), .ref 4]) rfl ?_
  refine w_cv (H.te (by decide) rfl).1 (pc' := 80) (L' := [(0, .ref 120), (1, .ref 4), (2, .int (0 : Int32)), (3, .int (2 : Int32)), (4, .int (10 : Int32)), (5, .int (15 : Int32))]) (rest := []) (Ps := [.int (15 : Int32)]) (L0 := [(0, .ref 4), (1, .int (15 : Int32))]) h_m102 (z_at.mk 3 rfl rfl) (Or.inl ⟨rfl, rfl⟩) rfl rfl (by decide) (by decide) rfl rfl rfl rfl rfl rfl (by decide) rfl rfl rfl ?_
  refine w_p h_m294 1 (pc' := 1) (L' := [(0, .ref 4), (1, .int (15 : Int32))]) (st' := [.ref 4]) rfl ?_
  refine w_cv (H.te (by decide) rfl).1 (pc' := 4) (L' := [(0, .ref 4), (1, .int (15 : Int32))]) (rest := []) (Ps := []) (L0 := [(0, .ref 4)]) h_m294 (z_at.mk 3 rfl rfl) (Or.inl ⟨rfl, rfl⟩) rfl rfl (by decide) (by decide) rfl rfl rfl rfl rfl rfl (by decide) rfl rfl rfl ?_
  refine w_p h_m299 3 (pc' := 7) (L' := [(0, .ref 4)]) (st' := [.ref 4]) rfl ?_
  refine w_gs H (pc' := 10) (L' := [(0, .ref 4)]) h_m299 (z_at.mk 3 rfl rfl) rfl (by decide) rfl rfl rfl rfl ?_
  refine w_p h_m299 3 (pc' := 18) (L' := []) (st' := [.int (1 : Int32)]) rfl ?_
  refine w_ri h_m299 (z_at.mk 1 rfl rfl) rfl rfl ?_
  show z_W 996 294 4 [(0, .ref 4), (1, .int (15 : Int32))] [.int (1 : Int32)] m _
  refine w_p h_m294 2 (pc' := 8) (L' := [(0, .ref 4), (1, .int (15 : Int32))]) (st' := [.ref 4]) rfl ?_
  refine w_gs H (pc' := 11) (L' := [(0, .ref 4), (1, .int (15 : Int32))]) h_m294 (z_at.mk 3 rfl rfl) rfl (by decide) rfl rfl rfl rfl ?_
  refine w_p h_m294 1 (pc' := 12) (L' := [(0, .ref 4), (1, .int (15 : Int32))]) (st' := [.int (15 : Int32), .ref 22]) rfl ?_
  refine w_cs (As := [.ref 22, .int (15 : Int32)]) (rest := []) (j := 308) (L0 := [(0, .ref 22), (1, .int (15 : Int32))]) (pc' := 15) (L' := [(0, .ref 4), (1, .int (15 : Int32))]) h_m294 (z_at.mk 3 rfl rfl) (Or.inl ⟨rfl, rfl⟩) rfl rfl rfl rfl rfl ?_
  refine w_p h_m308 2 (pc' := 2) (L' := [(0, .ref 22), (1, .int (15 : Int32))]) (st' := [.ref 22, .int (15 : Int32)]) rfl ?_
  refine w_lene H (x := (36 : Int32)) (pc' := 3) (L' := [(0, .ref 22), (1, .int (15 : Int32))]) h_m308 (z_at.mk 1 rfl rfl) (by decide) rfl (by decide) rfl rfl rfl ?_
  refine w_ci (pc' := 6) (L' := [(0, .ref 22), (1, .int (15 : Int32))]) h_m308 (z_at.mk 3 rfl rfl) rfl (z_cat_le 0 rfl (by decide)) ⟨by decide, by decide⟩ rfl rfl ?_
  refine w_p h_m308 2 (pc' := 8) (L' := [(0, .ref 22), (1, .int (15 : Int32))]) (st' := [.int (15 : Int32), .ref 22]) rfl ?_
  refine w_ae H (j := 15) (pc' := 9) (L' := [(0, .ref 22), (1, .int (15 : Int32))]) h_m308 (z_at.mk 1 rfl rfl) rfl rfl rfl (by decide) rfl (by decide) rfl rfl rfl ?_
  refine w_p h_m308 3 (pc' := 14) (L' := [(0, .ref 22), (1, .int (15 : Int32))]) (st' := [.int (32 : Int32)]) rfl ?_
  refine w_ri h_m308 (z_at.mk 1 rfl rfl) rfl rfl ?_
  show z_W 996 294 15 [(0, .ref 4), (1, .int (15 : Int32))] [.int (32 : Int32)] m _
  refine w_ri h_m294 (z_at.mk 1 rfl rfl) rfl rfl ?_
  show z_W 997 102 80 [(0, .ref 120), (1, .ref 4), (2, .int (0 : Int32)), (3, .int (2 : Int32)), (4, .int (10 : Int32)), (5, .int (15 : Int32))] [.int (32 : Int32)] m _
  refine w_p h_m102 7 (pc' := 92) (L' := [(0, .ref 120), (1, .ref 4), (2, .int (0 : Int32)), (3, .int (2 : Int32)), (4, .int (10 : Int32)), (5, .int (15 : Int32))]) (st' := [.int (0 : Int32), .int (15 : Int32), .int (10 : Int32), .ref 4, .ref 120]) rfl ?_
  refine w_cv (H.t rfl) (pc' := 95) (L' := [(0, .ref 120), (1, .ref 4), (2, .int (0 : Int32)), (3, .int (2 : Int32)), (4, .int (10 : Int32)), (5, .int (15 : Int32))]) (rest := []) (Ps := [.ref 4, .int (10 : Int32), .int (15 : Int32), .int (0 : Int32)]) (L0 := [(0, .ref 120), (1, .ref 4), (2, .int (10 : Int32)), (3, .int (15 : Int32)), (4, .int (0 : Int32))]) h_m102 (z_at.mk 3 rfl rfl) (Or.inl ⟨rfl, rfl⟩) rfl rfl (by decide) (by decide) rfl rfl rfl rfl rfl rfl (by decide) rfl rfl rfl ?_
  refine w_p h_m103 1 (pc' := 1) (L' := [(0, .ref 120), (1, .ref 4), (2, .int (10 : Int32)), (3, .int (15 : Int32)), (4, .int (0 : Int32))]) (st' := [.ref 120]) rfl ?_
  refine w_cv (H.t rfl) (pc' := 4) (L' := [(0, .ref 120), (1, .ref 4), (2, .int (10 : Int32)), (3, .int (15 : Int32)), (4, .int (0 : Int32))]) (rest := []) (Ps := []) (L0 := [(0, .ref 120)]) h_m103 (z_at.mk 3 rfl rfl) (Or.inl ⟨rfl, rfl⟩) rfl rfl (by decide) (by decide) rfl rfl rfl rfl rfl rfl (by decide) rfl rfl rfl ?_
  refine w_p h_m93 1 (pc' := 1) (L' := [(0, .ref 120)]) (st' := [.ref 120]) rfl ?_
  refine w_gf H (pc' := 4) (L' := [(0, .ref 120)]) h_m93 (z_at.mk 3 rfl rfl) rfl (u := .int (-1 : Int32)) rfl rfl rfl ?_
  refine w_p h_m93 4 (pc' := 13) (L' := []) (st' := [.int (1 : Int32)]) rfl ?_
  refine w_ri h_m93 (z_at.mk 1 rfl rfl) rfl rfl ?_
  show z_W 996 103 4 [(0, .ref 120), (1, .ref 4), (2, .int (10 : Int32)), (3, .int (15 : Int32)), (4, .int (0 : Int32))] [.int (1 : Int32)] m _
  refine w_p h_m103 4 (pc' := 13) (L' := [(0, .ref 120), (1, .ref 4), (2, .int (10 : Int32)), (3, .int (15 : Int32)), (4, .int (0 : Int32))]) (st' := [.ref 120]) rfl ?_
  refine w_gf H (pc' := 16) (L' := [(0, .ref 120), (1, .ref 4), (2, .int (10 : Int32)), (3, .int (15 : Int32)), (4, .int (0 : Int32))]) h_m103 (z_at.mk 3 rfl rfl) rfl (u := .int (0 : Int32)) rfl rfl rfl ?_
  refine w_p h_m103 3 (pc' := 23) (L' := [(0, .ref 120), (1, .ref 4), (2, .int (10 : Int32)), (3, .int (15 : Int32)), (4, .int (0 : Int32))]) (st' := [.ref 120]) rfl ?_
  refine w_gf H (pc' := 26) (L' := [(0, .ref 120), (1, .ref 4), (2, .int (10 : Int32)), (3, .int (15 : Int32)), (4, .int (0 : Int32))]) h_m103 (z_at.mk 3 rfl rfl) rfl (u := .int (0 : Int32)) rfl rfl rfl ?_
  refine w_p h_m103 7 (pc' := 36) (L' := []) (st' := [.int (0 : Int32)]) rfl ?_
  refine w_ri h_m103 (z_at.mk 1 rfl rfl) rfl rfl ?_
  show z_W 997 102 95 [(0, .ref 120), (1, .ref 4), (2, .int (0 : Int32)), (3, .int (2 : Int32)), (4, .int (10 : Int32)), (5, .int (15 : Int32))] [.int (0 : Int32)] m _
  refine w_p h_m102 10 (pc' := 59) (L' := [(0, .ref 120), (1, .ref 4), (2, .int (0 : Int32)), (3, .int (3 : Int32)), (4, .int (16 : Int32)), (5, .int (16 : Int32))]) (st' := [.ref 4, .int (16 : Int32)]) rfl ?_
  refine w_cv (H.te (by decide) rfl).1 (pc' := 62) (L' := [(0, .ref 120), (1, .ref 4), (2, .int (0 : Int32)), (3, .int (3 : Int32)), (4, .int (16 : Int32)), (5, .int (16 : Int32))]) (rest := [.int (16 : Int32)]) (Ps := []) (L0 := [(0, .ref 4)]) h_m102 (z_at.mk 3 rfl rfl) (Or.inl ⟨rfl, rfl⟩) rfl rfl (by decide) (by decide) rfl rfl rfl rfl rfl rfl (by decide) rfl rfl rfl ?_
  refine w_p h_m293 1 (pc' := 1) (L' := [(0, .ref 4)]) (st' := [.ref 4]) rfl ?_
  refine w_gs H (pc' := 4) (L' := [(0, .ref 4)]) h_m293 (z_at.mk 3 rfl rfl) rfl (by decide) rfl rfl rfl rfl ?_
  refine w_lene H (x := (36 : Int32)) (pc' := 5) (L' := [(0, .ref 4)]) h_m293 (z_at.mk 1 rfl rfl) (by decide) rfl (by decide) rfl rfl rfl ?_
  refine w_p h_m293 1 (pc' := 6) (L' := [(0, .ref 4)]) (st' := [.ref 4, .int (36 : Int32)]) rfl ?_
  refine w_cv (H.te (by decide) rfl).1 (pc' := 9) (L' := [(0, .ref 4)]) (rest := [.int (36 : Int32)]) (Ps := []) (L0 := [(0, .ref 4)]) h_m293 (z_at.mk 3 rfl rfl) (Or.inl ⟨rfl, rfl⟩) rfl rfl (by decide) (by decide) rfl rfl rfl rfl rfl rfl (by decide) rfl rfl rfl ?_
  refine w_p h_m298 3 (pc' := 7) (L' := [(0, .ref 4)]) (st' := [.ref 4]) rfl ?_
  refine w_gs H (pc' := 10) (L' := [(0, .ref 4)]) h_m298 (z_at.mk 3 rfl rfl) rfl (by decide) rfl rfl rfl rfl ?_
  refine w_p h_m298 1 (pc' := 14) (L' := []) (st' := [.int (0 : Int32)]) rfl ?_
  refine w_ri h_m298 (z_at.mk 1 rfl rfl) rfl rfl ?_
  show z_W 996 293 9 [(0, .ref 4)] [.int (0 : Int32), .int (36 : Int32)] m _
  refine w_p h_m293 1 (pc' := 10) (L' := [(0, .ref 4)]) (st' := [.int (36 : Int32)]) rfl ?_
  refine w_ri h_m293 (z_at.mk 1 rfl rfl) rfl rfl ?_
  show z_W 997 102 62 [(0, .ref 120), (1, .ref 4), (2, .int (0 : Int32)), (3, .int (3 : Int32)), (4, .int (16 : Int32)), (5, .int (16 : Int32))] [.int (36 : Int32), .int (16 : Int32)] m _
  refine w_p h_m102 3 (pc' := 68) (L' := [(0, .ref 120), (1, .ref 4), (2, .int (0 : Int32)), (3, .int (3 : Int32)), (4, .int (16 : Int32)), (5, .int (16 : Int32))]) (st' := [.ref 4, .int (16 : Int32)]) rfl ?_
  refine w_cv (H.te (by decide) rfl).1 (pc' := 71) (L' := [(0, .ref 120), (1, .ref 4), (2, .int (0 : Int32)), (3, .int (3 : Int32)), (4, .int (16 : Int32)), (5, .int (16 : Int32))]) (rest := [.int (16 : Int32)]) (Ps := []) (L0 := [(0, .ref 4)]) h_m102 (z_at.mk 3 rfl rfl) (Or.inl ⟨rfl, rfl⟩) rfl rfl (by decide) (by decide) rfl rfl rfl rfl rfl rfl (by decide) rfl rfl rfl ?_
  refine w_p h_m293 1 (pc' := 1) (L' := [(0, .ref 4)]) (st' := [.ref 4]) rfl ?_
  refine w_gs H (pc' := 4) (L' := [(0, .ref 4)]) h_m293 (z_at.mk 3 rfl rfl) rfl (by decide) rfl rfl rfl rfl ?_
  refine w_lene H (x := (36 : Int32)) (pc' := 5) (L' := [(0, .ref 4)]) h_m293 (z_at.mk 1 rfl rfl) (by decide) rfl (by decide) rfl rfl rfl ?_
  refine w_p h_m293 1 (pc' := 6) (L' := [(0, .ref 4)]) (st' := [.ref 4, .int (36 : Int32)]) rfl ?_
  refine w_cv (H.te (by decide) rfl).1 (pc' := 9) (L' := [(0, .ref 4)]) (rest := [.int (36 : Int32)]) (Ps := []) (L0 := [(0, .ref 4)]) h_m293 (z_at.mk 3 rfl rfl) (Or.inl ⟨rfl, rfl⟩) rfl rfl (by decide) (by decide) rfl rfl rfl rfl rfl rfl (by decide) rfl rfl rfl ?_
  refine w_p h_m298 3 (pc' := 7) (L' := [(0, .ref 4)]) (st' := [.ref 4]) rfl ?_
  refine w_gs H (pc' := 10) (L' := [(0, .ref 4)]) h_m298 (z_at.mk 3 rfl rfl) rfl (by decide) rfl rfl rfl rfl ?_
  refine w_p h_m298 1 (pc' := 14) (L' := []) (st' := [.int (0 : Int32)]) rfl ?_
  refine w_ri h_m298 (z_at.mk 1 rfl rfl) rfl rfl ?_
  show z_W 996 293 9 [(0, .ref 4)] [.int (0 : Int32), .int (36 : Int32)] m _
  refine w_p h_m293 1 (pc' := 10) (L' := [(0, .ref 4)]) (st' := [.int (36 : Int32)]) rfl ?_
  refine w_ri h_m293 (z_at.mk 1 rfl rfl) rfl rfl ?_
  show z_W 997 102 71 [(0, .ref 120), (1, .ref 4), (2, .int (0 : Int32)), (3, .int (3 : Int32)), (4, .int (16 : Int32)), (5, .int (16 : Int32))] [.int (36 : Int32), .int (16 : Int32)] m _
  refine w_p h_m102 3 (pc' := 77) (L' := [(0, .ref 120), (1, .ref 4), (2, .int (0 : Int32)), (3, .int (3 : Int32)), (4, .int (16 : Int32)), (5, .int (16 : Int32))]) (st' := [.int (16 : Int32), .ref 4]) rfl ?_
  refine w_cv (H.te (by decide) rfl).1 (pc' := 80) (L' := [(0, .ref 120), (1, .ref 4), (2, .int (0 : Int32)), (3, .int (3 : Int32)), (4, .int (16 : Int32)), (5, .int (16 : Int32))]) (rest := []) (Ps := [.int (16 : Int32)]) (L0 := [(0, .ref 4), (1, .int (16 : Int32))]) h_m102 (z_at.mk 3 rfl rfl) (Or.inl ⟨rfl, rfl⟩) rfl rfl (by decide) (by decide) rfl rfl rfl rfl rfl rfl (by decide) rfl rfl rfl ?_
  refine w_p h_m294 1 (pc' := 1) (L' := [(0, .ref 4), (1, .int (16 : Int32))]) (st' := [.ref 4]) rfl ?_
  refine w_cv (H.te (by decide) rfl).1 (pc' := 4) (L' := [(0, .ref 4), (1, .int (16 : Int32))]) (rest := []) (Ps := []) (L0 := [(0, .ref 4)]) h_m294 (z_at.mk 3 rfl rfl) (Or.inl ⟨rfl, rfl⟩) rfl rfl (by decide) (by decide) rfl rfl rfl rfl rfl rfl (by decide) rfl rfl rfl ?_
  refine w_p h_m299 3 (pc' := 7) (L' := [(0, .ref 4)]) (st' := [.ref 4]) rfl ?_
  refine w_gs H (pc' := 10) (L' := [(0, .ref 4)]) h_m299 (z_at.mk 3 rfl rfl) rfl (by decide) rfl rfl rfl rfl ?_
  refine w_p h_m299 3 (pc' := 18) (L' := []) (st' := [.int (1 : Int32)]) rfl ?_
  refine w_ri h_m299 (z_at.mk 1 rfl rfl) rfl rfl ?_
  show z_W 996 294 4 [(0, .ref 4), (1, .int (16 : Int32))] [.int (1 : Int32)] m _
  refine w_p h_m294 2 (pc' := 8) (L' := [(0, .ref 4), (1, .int (16 : Int32))]) (st' := [.ref 4]) rfl ?_
  refine w_gs H (pc' := 11) (L' := [(0, .ref 4), (1, .int (16 : Int32))]) h_m294 (z_at.mk 3 rfl rfl) rfl (by decide) rfl rfl rfl rfl ?_
  refine w_p h_m294 1 (pc' := 12) (L' := [(0, .ref 4), (1, .int (16 : Int32))]) (st' := [.int (16 : Int32), .ref 22]) rfl ?_
  refine w_cs (As := [.ref 22, .int (16 : Int32)]) (rest := []) (j := 308) (L0 := [(0, .ref 22), (1, .int (16 : Int32))]) (pc' := 15) (L' := [(0, .ref 4), (1, .int (16 : Int32))]) h_m294 (z_at.mk 3 rfl rfl) (Or.inl ⟨rfl, rfl⟩) rfl rfl rfl rfl rfl ?_
  refine w_p h_m308 2 (pc' := 2) (L' := [(0, .ref 22), (1, .int (16 : Int32))]) (st' := [.ref 22, .int (16 : Int32)]) rfl ?_
  refine w_lene H (x := (36 : Int32)) (pc' := 3) (L' := [(0, .ref 22), (1, .int (16 : Int32))]) h_m308 (z_at.mk 1 rfl rfl) (by decide) rfl (by decide) rfl rfl rfl ?_
  refine w_ci (pc' := 6) (L' := [(0, .ref 22), (1, .int (16 : Int32))]) h_m308 (z_at.mk 3 rfl rfl) rfl (z_cat_le 0 rfl (by decide)) ⟨by decide, by decide⟩ rfl rfl ?_
  refine w_p h_m308 2 (pc' := 8) (L' := [(0, .ref 22), (1, .int (16 : Int32))]) (st' := [.int (16 : Int32), .ref 22]) rfl ?_
  refine w_ae H (j := 16) (pc' := 9) (L' := [(0, .ref 22), (1, .int (16 : Int32))]) h_m308 (z_at.mk 1 rfl rfl) rfl rfl rfl (by decide) rfl (by decide) rfl rfl rfl ?_
  refine w_p h_m308 3 (pc' := 14) (L' := [(0, .ref 22), (1, .int (16 : Int32))]) (st' := [.int (109 : Int32)]) rfl ?_
  refine w_ri h_m308 (z_at.mk 1 rfl rfl) rfl rfl ?_
  show z_W 996 294 15 [(0, .ref 4), (1, .int (16 : Int32))] [.int (109 : Int32)] m _
  refine w_ri h_m294 (z_at.mk 1 rfl rfl) rfl rfl ?_
  show z_W 997 102 80 [(0, .ref 120), (1, .ref 4), (2, .int (0 : Int32)), (3, .int (3 : Int32)), (4, .int (16 : Int32)), (5, .int (16 : Int32))] [.int (109 : Int32)] m _
  refine w_p h_m102 6 (pc' := 59) (L' := [(0, .ref 120), (1, .ref 4), (2, .int (0 : Int32)), (3, .int (3 : Int32)), (4, .int (16 : Int32)), (5, .int (17 : Int32))]) (st' := [.ref 4, .int (17 : Int32)]) rfl ?_
  refine w_cv (H.te (by decide) rfl).1 (pc' := 62) (L' := [(0, .ref 120), (1, .ref 4), (2, .int (0 : Int32)), (3, .int (3 : Int32)), (4, .int (16 : Int32)), (5, .int (17 : Int32))]) (rest := [.int (17 : Int32)]) (Ps := []) (L0 := [(0, .ref 4)]) h_m102 (z_at.mk 3 rfl rfl) (Or.inl ⟨rfl, rfl⟩) rfl rfl (by decide) (by decide) rfl rfl rfl rfl rfl rfl (by decide) rfl rfl rfl ?_
  refine w_p h_m293 1 (pc' := 1) (L' := [(0, .ref 4)]) (st' := [.ref 4]) rfl ?_
  refine w_gs H (pc' := 4) (L' := [(0, .ref 4)]) h_m293 (z_at.mk 3 rfl rfl) rfl (by decide) rfl rfl rfl rfl ?_
  refine w_lene H (x := (36 : Int32)) (pc' := 5) (L' := [(0, .ref 4)]) h_m293 (z_at.mk 1 rfl rfl) (by decide) rfl (by decide) rfl rfl rfl ?_
  refine w_p h_m293 1 (pc' := 6) (L' := [(0, .ref 4)]) (st' := [.ref 4, .int (36 : Int32)]) rfl ?_
  refine w_cv (H.te (by decide) rfl).1 (pc' := 9) (L' := [(0, .ref 4)]) (rest := [.int (36 : Int32)]) (Ps := []) (L0 := [(0, .ref 4)]) h_m293 (z_at.mk 3 rfl rfl) (Or.inl ⟨rfl, rfl⟩) rfl rfl (by decide) (by decide) rfl rfl rfl rfl rfl rfl (by decide) rfl rfl rfl ?_
  refine w_p h_m298 3 (pc' := 7) (L' := [(0, .ref 4)]) (st' := [.ref 4]) rfl ?_
  refine w_gs H (pc' := 10) (L' := [(0, .ref 4)]) h_m298 (z_at.mk 3 rfl rfl) rfl (by decide) rfl rfl rfl rfl ?_
  refine w_p h_m298 1 (pc' := 14) (L' := []) (st' := [.int (0 : Int32)]) rfl ?_
  refine w_ri h_m298 (z_at.mk 1 rfl rfl) rfl rfl ?_
  show z_W 996 293 9 [(0, .ref 4)] [.int (0 : Int32), .int (36 : Int32)] m _
  refine w_p h_m293 1 (pc' := 10) (L' := [(0, .ref 4)]) (st' := [.int (36 : Int32)]) rfl ?_
  refine w_ri h_m293 (z_at.mk 1 rfl rfl) rfl rfl ?_
  show z_W 997 102 62 [(0, .ref 120), (1, .ref 4), (2, .int (0 : Int32)), (3, .int (3 : Int32)), (4, .int (16 : Int32)), (5, .int (17 : Int32))] [.int (36 : Int32), .int (17 : Int32)] m _
  refine w_p h_m102 3 (pc' := 68) (L' := [(0, .ref 120), (1, .ref 4), (2, .int (0 : Int32)), (3, .int (3 : Int32)), (4, .int (16 : Int32)), (5, .int (17 : Int32))]) (st' := [.ref 4, .int (17 : Int32)]) rfl ?_
  refine w_cv (H.te (by decide) rfl).1 (pc' := 71) (L' := [(0, .ref 120), (1, .ref 4), (2, .int (0 : Int32)), (3, .int (3 : Int32)), (4, .int (16 : Int32)), (5, .int (17 : Int32))]) (rest := [.int (17 : Int32)]) (Ps := []) (L0 := [(0, .ref 4)]) h_m102 (z_at.mk 3 rfl rfl) (Or.inl ⟨rfl, rfl⟩) rfl rfl (by decide) (by decide) rfl rfl rfl rfl rfl rfl (by decide) rfl rfl rfl ?_
  refine w_p h_m293 1 (pc' := 1) (L' := [(0, .ref 4)]) (st' := [.ref 4]) rfl ?_
  refine w_gs H (pc' := 4) (L' := [(0, .ref 4)]) h_m293 (z_at.mk 3 rfl rfl) rfl (by decide) rfl rfl rfl rfl ?_
  refine w_lene H (x := (36 : Int32)) (pc' := 5) (L' := [(0, .ref 4)]) h_m293 (z_at.mk 1 rfl rfl) (by decide) rfl (by decide) rfl rfl rfl ?_
  refine w_p h_m293 1 (pc' := 6) (L' := [(0, .ref 4)]) (st' := [.ref 4, .int (36 : Int32)]) rfl ?_
  refine w_cv (H.te (by decide) rfl).1 (pc' := 9) (L' := [(0, .ref 4)]) (rest := [.int (36 : Int32)]) (Ps := []) (L0 := [(0, .ref 4)]) h_m293 (z_at.mk 3 rfl rfl) (Or.inl ⟨rfl, rfl⟩) rfl rfl (by decide) (by decide) rfl rfl rfl rfl rfl rfl (by decide) rfl rfl rfl ?_
  refine w_p h_m298 3 (pc' := 7) (L' := [(0, .ref 4)]) (st' := [.ref 4]) rfl ?_
  refine w_gs H (pc' := 10) (L' := [(0, .ref 4)]) h_m298 (z_at.mk 3 rfl rfl) rfl (by decide) rfl rfl rfl rfl ?_
  refine w_p h_m298 1 (pc' := 14) (L' := []) (st' := [.int (0 : Int32)]) rfl ?_
  refine w_ri h_m298 (z_at.mk 1 rfl rfl) rfl rfl ?_
  show z_W 996 293 9 [(0, .ref 4)] [.int (0 : Int32), .int (36 : Int32)] m _
  refine w_p h_m293 1 (pc' := 10) (L' := [(0, .ref 4)]) (st' := [.int (36 : Int32)]) rfl ?_
  refine w_ri h_m293 (z_at.mk 1 rfl rfl) rfl rfl ?_
  show z_W 997 102 71 [(0, .ref 120), (1, .ref 4), (2, .int (0 : Int32)), (3, .int (3 : Int32)), (4, .int (16 : Int32)), (5, .int (17 : Int32))] [.int (36 : Int32), .int (17 : Int32)] m _
  refine w_p h_m102 3 (pc' := 77) (L' := [(0, .ref 120), (1, .ref 4), (2, .int (0 : Int32)), (3, .int (3 : Int32)), (4, .int (16 : Int32)), (5, .int (17 : Int32))]) (st' := [.int (17 : Int32), .ref 4]) rfl ?_
  refine w_cv (H.te (by decide) rfl).1 (pc' := 80) (L' := [(0, .ref 120), (1, .ref 4), (2, .int (0 : Int32)), (3, .int (3 : Int32)), (4, .int (16 : Int32)), (5, .int (17 : Int32))]) (rest := []) (Ps := [.int (17 : Int32)]) (L0 := [(0, .ref 4), (1, .int (17 : Int32))]) h_m102 (z_at.mk 3 rfl rfl) (Or.inl ⟨rfl, rfl⟩) rfl rfl (by decide) (by decide) rfl rfl rfl rfl rfl rfl (by decide) rfl rfl rfl ?_
  refine w_p h_m294 1 (pc' := 1) (L' := [(0, .ref 4), (1, .int (17 : Int32))]) (st' := [.ref 4]) rfl ?_
  refine w_cv (H.te (by decide) rfl).1 (pc' := 4) (L' := [(0, .ref 4), (1, .int (17 : Int32))]) (rest := []) (Ps := []) (L0 := [(0, .ref 4)]) h_m294 (z_at.mk 3 rfl rfl) (Or.inl ⟨rfl, rfl⟩) rfl rfl (by decide) (by decide) rfl rfl rfl rfl rfl rfl (by decide) rfl rfl rfl ?_
  refine w_p h_m299 3 (pc' := 7) (L' := [(0, .ref 4)]) (st' := [.ref 4]) rfl ?_
  refine w_gs H (pc' := 10) (L' := [(0, .ref 4)]) h_m299 (z_at.mk 3 rfl rfl) rfl (by decide) rfl rfl rfl rfl ?_
  refine w_p h_m299 3 (pc' := 18) (L' := []) (st' := [.int (1 : Int32)]) rfl ?_
  refine w_ri h_m299 (z_at.mk 1 rfl rfl) rfl rfl ?_
  show z_W 996 294 4 [(0, .ref 4), (1, .int (17 : Int32))] [.int (1 : Int32)] m _
  refine w_p h_m294 2 (pc' := 8) (L' := [(0, .ref 4), (1, .int (17 : Int32))]) (st' := [.ref 4]) rfl ?_
  refine w_gs H (pc' := 11) (L' := [(0, .ref 4), (1, .int (17 : Int32))]) h_m294 (z_at.mk 3 rfl rfl) rfl (by decide) rfl rfl rfl rfl ?_
  refine w_p h_m294 1 (pc' := 12) (L' := [(0, .ref 4), (1, .int (17 : Int32))]) (st' := [.int (17 : Int32), .ref 22]) rfl ?_
  refine w_cs (As := [.ref 22, .int (17 : Int32)]) (rest := []) (j := 308) (L0 := [(0, .ref 22), (1, .int (17 : Int32))]) (pc' := 15) (L' := [(0, .ref 4), (1, .int (17 : Int32))]) h_m294 (z_at.mk 3 rfl rfl) (Or.inl ⟨rfl, rfl⟩) rfl rfl rfl rfl rfl ?_
  refine w_p h_m308 2 (pc' := 2) (L' := [(0, .ref 22), (1, .int (17 : Int32))]) (st' := [.ref 22, .int (17 : Int32)]) rfl ?_
  refine w_lene H (x := (36 : Int32)) (pc' := 3) (L' := [(0, .ref 22), (1, .int (17 : Int32))]) h_m308 (z_at.mk 1 rfl rfl) (by decide) rfl (by decide) rfl rfl rfl ?_
  refine w_ci (pc' := 6) (L' := [(0, .ref 22), (1, .int (17 : Int32))]) h_m308 (z_at.mk 3 rfl rfl) rfl (z_cat_le 0 rfl (by decide)) ⟨by decide, by decide⟩ rfl rfl ?_
  refine w_p h_m308 2 (pc' := 8) (L' := [(0, .ref 22), (1, .int (17 : Int32))]) (st' := [.int (17 : Int32), .ref 22]) rfl ?_
  refine w_ae H (j := 17) (pc' := 9) (L' := [(0, .ref 22), (1, .int (17 : Int32))]) h_m308 (z_at.mk 1 rfl rfl) rfl rfl rfl (by decide) rfl (by decide) rfl rfl rfl ?_
  refine w_p h_m308 3 (pc' := 14) (L' := [(0, .ref 22), (1, .int (17 : Int32))]) (st' := [.int (111 : Int32)]) rfl ?_
  refine w_ri h_m308 (z_at.mk 1 rfl rfl) rfl rfl ?_
  show z_W 996 294 15 [(0, .ref 4), (1, .int (17 : Int32))] [.int (111 : Int32)] m _
  refine w_ri h_m294 (z_at.mk 1 rfl rfl) rfl rfl ?_
  show z_W 997 102 80 [(0, .ref 120), (1, .ref 4), (2, .int (0 : Int32)), (3, .int (3 : Int32)), (4, .int (16 : Int32)), (5, .int (17 : Int32))] [.int (111 : Int32)] m _
  refine w_p h_m102 6 (pc' := 59) (L' := [(0, .ref 120), (1, .ref 4), (2, .int (0 : Int32)), (3, .int (3 : Int32)), (4, .int (16 : Int32)), (5, .int (18 : Int32))]) (st' := [.ref 4, .int (18 : Int32)]) rfl ?_
  refine w_cv (H.te (by decide) rfl).1 (pc' := 62) (L' := [(0, .ref 120), (1, .ref 4), (2, .int (0 : Int32)), (3, .int (3 : Int32)), (4, .int (16 : Int32)), (5, .int (18 : Int32))]) (rest := [.int (18 : Int32)]) (Ps := []) (L0 := [(0, .ref 4)]) h_m102 (z_at.mk 3 rfl rfl) (Or.inl ⟨rfl, rfl⟩) rfl rfl (by decide) (by decide) rfl rfl rfl rfl rfl rfl (by decide) rfl rfl rfl ?_
  refine w_p h_m293 1 (pc' := 1) (L' := [(0, .ref 4)]) (st' := [.ref 4]) rfl ?_
  refine w_gs H (pc' := 4) (L' := [(0, .ref 4)]) h_m293 (z_at.mk 3 rfl rfl) rfl (by decide) rfl rfl rfl rfl ?_
  refine w_lene H (x := (36 : Int32)) (pc' := 5) (L' := [(0, .ref 4)]) h_m293 (z_at.mk 1 rfl rfl) (by decide) rfl (by decide) rfl rfl rfl ?_
  refine w_p h_m293 1 (pc' := 6) (L' := [(0, .ref 4)]) (st' := [.ref 4, .int (36 : Int32)]) rfl ?_
  refine w_cv (H.te (by decide) rfl).1 (pc' := 9) (L' := [(0, .ref 4)]) (rest := [.int (36 : Int32)]) (Ps := []) (L0 := [(0, .ref 4)]) h_m293 (z_at.mk 3 rfl rfl) (Or.inl ⟨rfl, rfl⟩) rfl rfl (by decide) (by decide) rfl rfl rfl rfl rfl rfl (by decide) rfl rfl rfl ?_
  refine w_p h_m298 3 (pc' := 7) (L' := [(0, .ref 4)]) (st' := [.ref 4]) rfl ?_
  refine w_gs H (pc' := 10) (L' := [(0, .ref 4)]) h_m298 (z_at.mk 3 rfl rfl) rfl (by decide) rfl rfl rfl rfl ?_
  refine w_p h_m298 1 (pc' := 14) (L' := []) (st' := [.int (0 : Int32)]) rfl ?_
  refine w_ri h_m298 (z_at.mk 1 rfl rfl) rfl rfl ?_
  show z_W 996 293 9 [(0, .ref 4)] [.int (0 : Int32), .int (36 : Int32)] m _
  refine w_p h_m293 1 (pc' := 10) (L' := [(0, .ref 4)]) (st' := [.int (36 : Int32)]) rfl ?_
  refine w_ri h_m293 (z_at.mk 1 rfl rfl) rfl rfl ?_
  show z_W 997 102 62 [(0, .ref 120), (1, .ref 4), (2, .int (0 : Int32)), (3, .int (3 : Int32)), (4, .int (16 : Int32)), (5, .int (18 : Int32))] [.int (36 : Int32), .int (18 : Int32)] m _
  refine w_p h_m102 3 (pc' := 68) (L' := [(0, .ref 120), (1, .ref 4), (2, .int (0 : Int32)), (3, .int (3 : Int32)), (4, .int (16 : Int32)), (5, .int (18 : Int32))]) (st' := [.ref 4, .int (18 : Int32)]) rfl ?_
  refine w_cv (H.te (by decide) rfl).1 (pc' := 71) (L' := [(0, .ref 120), (1, .ref 4), (2, .int (0 : Int32)), (3, .int (3 : Int32)), (4, .int (16 : Int32)), (5, .int (18 : Int32))]) (rest := [.int (18 : Int32)]) (Ps := []) (L0 := [(0, .ref 4)]) h_m102 (z_at.mk 3 rfl rfl) (Or.inl ⟨rfl, rfl⟩) rfl rfl (by decide) (by decide) rfl rfl rfl rfl rfl rfl (by decide) rfl rfl rfl ?_
  refine w_p h_m293 1 (pc' := 1) (L' := [(0, .ref 4)]) (st' := [.ref 4]) rfl ?_
  refine w_gs H (pc' := 4) (L' := [(0, .ref 4)]) h_m293 (z_at.mk 3 rfl rfl) rfl (by decide) rfl rfl rfl rfl ?_
  refine w_lene H (x := (36 : Int32)) (pc' := 5) (L' := [(0, .ref 4)]) h_m293 (z_at.mk 1 rfl rfl) (by decide) rfl (by decide) rfl rfl rfl ?_
  refine w_p h_m293 1 (pc' := 6) (L' := [(0, .ref 4)]) (st' := [.ref 4, .int (36 : Int32)]) rfl ?_
  refine w_cv (H.te (by decide) rfl).1 (pc' := 9) (L' := [(0, .ref 4)]) (rest := [.int (36 : Int32)]) (Ps := []) (L0 := [(0, .ref 4)]) h_m293 (z_at.mk 3 rfl rfl) (Or.inl ⟨rfl, rfl⟩) rfl rfl (by decide) (by decide) rfl rfl rfl rfl rfl rfl (by decide) rfl rfl rfl ?_
  refine w_p h_m298 3 (pc' := 7) (L' := [(0, .ref 4)]) (st' := [.ref 4]) rfl ?_
  refine w_gs H (pc' := 10) (L' := [(0, .ref 4)]) h_m298 (z_at.mk 3 rfl rfl) rfl (by decide) rfl rfl rfl rfl ?_
  refine w_p h_m298 1 (pc' := 14) (L' := []) (st' := [.int (0 : Int32)]) rfl ?_
  refine w_ri h_m298 (z_at.mk 1 rfl rfl) rfl rfl ?_
  show z_W 996 293 9 [(0, .ref 4)] [.int (0 : Int32), .int (36 : Int32)] m _
  refine w_p h_m293 1 (pc' := 10) (L' := [(0, .ref 4)]) (st' := [.int (36 : Int32)]) rfl ?_
  refine w_ri h_m293 (z_at.mk 1 rfl rfl) rfl rfl ?_
  show z_W 997 102 71 [(0, .ref 120), (1, .ref 4), (2, .int (0 : Int32)), (3, .int (3 : Int32)), (4, .int (16 : Int32)), (5, .int (18 : Int32))] [.int (36 : Int32), .int (18 : Int32)] m _
  refine w_p h_m102 3 (pc' := 77) (L' := [(0, .ref 120), (1, .ref 4), (2, .int (0 : Int32)), (3, .int (3 : Int32)), (4, .int (16 : Int32)), (5, .int (18 : Int32))]) (st' := [.int (18 : Int32), .ref 4]) rfl ?_
  refine w_cv (H.te (by decide) rfl).1 (pc' := 80) (L' := [(0, .ref 120), (1, .ref 4), (2, .int (0 : Int32)), (3, .int (3 : Int32)), (4, .int (16 : Int32)), (5, .int (18 : Int32))]) (rest := []) (Ps := [.int (18 : Int32)]) (L0 := [(0, .ref 4), (1, .int (18 : Int32))]) h_m102 (z_at.mk 3 rfl rfl) (Or.inl ⟨rfl, rfl⟩) rfl rfl (by decide) (by decide) rfl rfl rfl rfl rfl rfl (by decide) rfl rfl rfl ?_
  refine w_p h_m294 1 (pc' := 1) (L' := [(0, .ref 4), (1, .int (18 : Int32))]) (st' := [.ref 4]) rfl ?_
  refine w_cv (H.te (by decide) rfl).1 (pc' := 4) (L' := [(0, .ref 4), (1, .int (18 : Int32))]) (rest := []) (Ps := []) (L0 := [(0, .ref 4)]) h_m294 (z_at.mk 3 rfl rfl) (Or.inl ⟨rfl, rfl⟩) rfl rfl (by decide) (by decide) rfl rfl rfl rfl rfl rfl (by decide) rfl rfl rfl ?_
  refine w_p h_m299 3 (pc' := 7) (L' := [(0, .ref 4)]) (st' := [.ref 4]) rfl ?_
  refine w_gs H (pc' := 10) (L' := [(0, .ref 4)]) h_m299 (z_at.mk 3 rfl rfl) rfl (by decide) rfl rfl rfl rfl ?_
  refine w_p h_m299 3 (pc' := 18) (L' := []) (st' := [.int (1 : Int32)]) rfl ?_
  refine w_ri h_m299 (z_at.mk 1 rfl rfl) rfl rfl ?_
  show z_W 996 294 4 [(0, .ref 4), (1, .int (18 : Int32))] [.int (1 : Int32)] m _
  refine w_p h_m294 2 (pc' := 8) (L' := [(0, .ref 4), (1, .int (18 : Int32))]) (st' := [.ref 4]) rfl ?_
  refine w_gs H (pc' := 11) (L' := [(0, .ref 4), (1, .int (18 : Int32))]) h_m294 (z_at.mk 3 rfl rfl) rfl (by decide) rfl rfl rfl rfl ?_
  refine w_p h_m294 1 (pc' := 12) (L' := [(0, .ref 4), (1, .int (18 : Int32))]) (st' := [.int (18 : Int32), .ref 22]) rfl ?_
  refine w_cs (As := [.ref 22, .int (18 : Int32)]) (rest := []) (j := 308) (L0 := [(0, .ref 22), (1, .int (18 : Int32))]) (pc' := 15) (L' := [(0, .ref 4), (1, .int (18 : Int32))]) h_m294 (z_at.mk 3 rfl rfl) (Or.inl ⟨rfl, rfl⟩) rfl rfl rfl rfl rfl ?_
  refine w_p h_m308 2 (pc' := 2) (L' := [(0, .ref 22), (1, .int (18 : Int32))]) (st' := [.ref 22, .int (18 : Int32)]) rfl ?_
  refine w_lene H (x := (36 : Int32)) (pc' := 3) (L' := [(0, .ref 22), (1, .int (18 : Int32))]) h_m308 (z_at.mk 1 rfl rfl) (by decide) rfl (by decide) rfl rfl rfl ?_
  refine w_ci (pc' := 6) (L' := [(0, .ref 22), (1, .int (18 : Int32))]) h_m308 (z_at.mk 3 rfl rfl) rfl (z_cat_le 0 rfl (by decide)) ⟨by decide, by decide⟩ rfl rfl ?_
  refine w_p h_m308 2 (pc' := 8) (L' := [(0, .ref 22), (1, .int (18 : Int32))]) (st' := [.int (18 : Int32), .ref 22]) rfl ?_
  refine w_ae H (j := 18) (pc' := 9) (L' := [(0, .ref 22), (1, .int (18 : Int32))]) h_m308 (z_at.mk 1 rfl rfl) rfl rfl rfl (by decide) rfl (by decide) rfl rfl rfl ?_
  refine w_p h_m308 3 (pc' := 14) (L' := [(0, .ref 22), (1, .int (18 : Int32))]) (st' := [.int (115 : Int32)]) rfl ?_
  refine w_ri h_m308 (z_at.mk 1 rfl rfl) rfl rfl ?_
  show z_W 996 294 15 [(0, .ref 4), (1, .int (18 : Int32))] [.int (115 : Int32)] m _
  refine w_ri h_m294 (z_at.mk 1 rfl rfl) rfl rfl ?_
  show z_W 997 102 80 [(0, .ref 120), (1, .ref 4), (2, .int (0 : Int32)), (3, .int (3 : Int32)), (4, .int (16 : Int32)), (5, .int (18 : Int32))] [.int (115 : Int32)] m _
  refine w_p h_m102 6 (pc' := 59) (L' := [(0, .ref 120), (1, .ref 4), (2, .int (0 : Int32)), (3, .int (3 : Int32)), (4, .int (16 : Int32)), (5, .int (19 : Int32))]) (st' := [.ref 4, .int (19 : Int32)]) rfl ?_
  refine w_cv (H.te (by decide) rfl).1 (pc' := 62) (L' := [(0, .ref 120), (1, .ref 4), (2, .int (0 : Int32)), (3, .int (3 : Int32)), (4, .int (16 : Int32)), (5, .int (19 : Int32))]) (rest := [.int (19 : Int32)]) (Ps := []) (L0 := [(0, .ref 4)]) h_m102 (z_at.mk 3 rfl rfl) (Or.inl ⟨rfl, rfl⟩) rfl rfl (by decide) (by decide) rfl rfl rfl rfl rfl rfl (by decide) rfl rfl rfl ?_
  refine w_p h_m293 1 (pc' := 1) (L' := [(0, .ref 4)]) (st' := [.ref 4]) rfl ?_
  refine w_gs H (pc' := 4) (L' := [(0, .ref 4)]) h_m293 (z_at.mk 3 rfl rfl) rfl (by decide) rfl rfl rfl rfl ?_
  refine w_lene H (x := (36 : Int32)) (pc' := 5) (L' := [(0, .ref 4)]) h_m293 (z_at.mk 1 rfl rfl) (by decide) rfl (by decide) rfl rfl rfl ?_
  refine w_p h_m293 1 (pc' := 6) (L' := [(0, .ref 4)]) (st' := [.ref 4, .int (36 : Int32)]) rfl ?_
  refine w_cv (H.te (by decide) rfl).1 (pc' := 9) (L' := [(0, .ref 4)]) (rest := [.int (36 : Int32)]) (Ps := []) (L0 := [(0, .ref 4)]) h_m293 (z_at.mk 3 rfl rfl) (Or.inl ⟨rfl, rfl⟩) rfl rfl (by decide) (by decide) rfl rfl rfl rfl rfl rfl (by decide) rfl rfl rfl ?_
  refine w_p h_m298 3 (pc' := 7) (L' := [(0, .ref 4)]) (st' := [.ref 4]) rfl ?_
  refine w_gs H (pc' := 10) (L' := [(0, .ref 4)]) h_m298 (z_at.mk 3 rfl rfl) rfl (by decide) rfl rfl rfl rfl ?_
  refine w_p h_m298 1 (pc' := 14) (L' := []) (st' := [.int (0 : Int32)]) rfl ?_
  refine w_ri h_m298 (z_at.mk 1 rfl rfl) rfl rfl ?_
  show z_W 996 293 9 [(0, .ref 4)] [.int (0 : Int32), .int (36 : Int32)] m _
  refine w_p h_m293 1 (pc' := 10) (L' := [(0, .ref 4)]) (st' := [.int (36 : Int32)]) rfl ?_
  refine w_ri h_m293 (z_at.mk 1 rfl rfl) rfl rfl ?_
  show z_W 997 102 62 [(0, .ref 120), (1, .ref 4), (2, .int (0 : Int32)), (3, .int (3 : Int32)), (4, .int (16 : Int32)), (5, .int (19 : Int32))] [.int (36 : Int32), .int (19 : Int32)] m _
  refine w_p h_m102 3 (pc' := 68) (L' := [(0, .ref 120), (1, .ref 4), (2, .int (0 : Int32)), (3, .int (3 : Int32)), (4, .int (16 : Int32)), (5, .int (19 : Int32))]) (st' := [.ref 4, .int (19 : Int32)]) rfl ?_
  refine w_cv (H.te (by decide) rfl).1 (pc' := 71) (L' := [(0, .ref 120), (1, .ref 4), (2, .int (0 : Int32)), (3, .int (3 : Int32)), (4, .int (16 : Int32)), (5, .int (19 : Int32))]) (rest := [.int (19 : Int32)]) (Ps := []) (L0 := [(0, .ref 4)]) h_m102 (z_at.mk 3 rfl rfl) (Or.inl ⟨rfl, rfl⟩) rfl rfl (by decide) (by decide) rfl rfl rfl rfl rfl rfl (by decide) rfl rfl rfl ?_
  refine w_p h_m293 1 (pc' := 1) (L' := [(0, .ref 4)]) (st' := [.ref 4]) rfl ?_
  refine w_gs H (pc' := 4) (L' := [(0, .ref 4)]) h_m293 (z_at.mk 3 rfl rfl) rfl (by decide) rfl rfl rfl rfl ?_
  refine w_lene H (x := (36 : Int32)) (pc' := 5) (L' := [(0, .ref 4)]) h_m293 (z_at.mk 1 rfl rfl) (by decide) rfl (by decide) rfl rfl rfl ?_
  refine w_p h_m293 1 (pc' := 6) (L' := [(0, .ref 4)]) (st' := [.ref 4, .int (36 : Int32)]) rfl ?_
  refine w_cv (H.te (by decide) rfl).1 (pc' := 9) (L' := [(0, .ref 4)]) (rest := [.int (36 : Int32)]) (Ps := []) (L0 := [(0, .ref 4)]) h_m293 (z_at.mk 3 rfl rfl) (Or.inl ⟨rfl, rfl⟩) rfl rfl (by decide) (by decide) rfl rfl rfl rfl rfl rfl (by decide) rfl rfl rfl ?_
  refine w_p h_m298 3 (pc' := 7) (L' := [(0, .ref 4)]) (st' := [.ref 4]) rfl ?_
  refine w_gs H (pc' := 10) (L' := [(0, .ref 4)]) h_m298 (z_at.mk 3 rfl rfl) rfl (by decide) rfl rfl rfl rfl ?_
  refine w_p h_m298 1 (pc' := 14) (L' := []) (st' := [.int (0 : Int32)]) rfl ?_
  refine w_ri h_m298 (z_at.mk 1 rfl rfl) rfl rfl ?_
  show z_W 996 293 9 [(0, .ref 4)] [.int (0 : Int32), .int (36 : Int32)] m _
  refine w_p h_m293 1 (pc' := 10) (L' := [(0, .ref 4)]) (st' := [.int (36 : Int32)]) rfl ?_
  refine w_ri h_m293 (z_at.mk 1 rfl rfl) rfl rfl ?_
  show z_W 997 102 71 [(0, .ref 120), (1, .ref 4), (2, .int (0 : Int32)), (3, .int (3 : Int32)), (4, .int (16 : Int32)), (5, .int (19 : Int32))] [.int (36 : Int32), .int (19 : Int32)] m _
  refine w_p h_m102 3 (pc' := 77) (L' := [(0, .ref 120), (1, .ref 4), (2, .int (0 : Int32)), (3, .int (3 : Int32)), (4, .int (16 : Int32)), (5, .int (19 : Int32))]) (st' := [.int (19 : Int32), .ref 4]) rfl ?_
  refine w_cv (H.te (by decide) rfl).1 (pc' := 80) (L' := [(0, .ref 120), (1, .ref 4), (2, .int (0 : Int32)), (3, .int (3 : Int32)), (4, .int (16 : Int32)), (5, .int (19 : Int32))]) (rest := []) (Ps := [.int (19 : Int32)]) (L0 := [(0, .ref 4), (1, .int (19 : Int32))]) h_m102 (z_at.mk 3 rfl rfl) (Or.inl ⟨rfl, rfl⟩) rfl rfl (by decide) (by decide) rfl rfl rfl rfl rfl rfl (by decide) rfl rfl rfl ?_
  refine w_p h_m294 1 (pc' := 1) (L' := [(0, .ref 4), (1, .int (19 : Int32))]) (st' := [.ref 4]) rfl ?_
  refine w_cv (H.te (by decide) rfl).1 (pc' := 4) (L' := [(0, .ref 4), (1, .int (19 : Int32))]) (rest := []) (Ps := []) (L0 := [(0, .ref 4)]) h_m294 (z_at.mk 3 rfl rfl) (Or.inl ⟨rfl, rfl⟩) rfl rfl (by decide) (by decide) rfl rfl rfl rfl rfl rfl (by decide) rfl rfl rfl ?_
  refine w_p h_m299 3 (pc' := 7) (L' := [(0, .ref 4)]) (st' := [.ref 4]) rfl ?_
  refine w_gs H (pc' := 10) (L' := [(0, .ref 4)]) h_m299 (z_at.mk 3 rfl rfl) rfl (by decide) rfl rfl rfl rfl ?_
  refine w_p h_m299 3 (pc' := 18) (L' := []) (st' := [.int (1 : Int32)]) rfl ?_
  refine w_ri h_m299 (z_at.mk 1 rfl rfl) rfl rfl ?_
  show z_W 996 294 4 [(0, .ref 4), (1, .int (19 : Int32))] [.int (1 : Int32)] m _
  refine w_p h_m294 2 (pc' := 8) (L' := [(0, .ref 4), (1, .int (19 : Int32))]) (st' := [.ref 4]) rfl ?_
  refine w_gs H (pc' := 11) (L' := [(0, .ref 4), (1, .int (19 : Int32))]) h_m294 (z_at.mk 3 rfl rfl) rfl (by decide) rfl rfl rfl rfl ?_
  refine w_p h_m294 1 (pc' := 12) (L' := [(0, .ref 4), (1, .int (19 : Int32))]) (st' := [.int (19 : Int32), .ref 22]) rfl ?_
  refine w_cs (As := [.ref 22, .int (19 : Int32)]) (rest := []) (j := 308) (L0 := [(0, .ref 22), (1, .int (19 : Int32))]) (pc' := 15) (L' := [(0, .ref 4), (1, .int (19 : Int32))]) h_m294 (z_at.mk 3 rfl rfl) (Or.inl ⟨rfl, rfl⟩) rfl rfl rfl rfl rfl ?_
  refine w_p h_m308 2 (pc' := 2) (L' := [(0, .ref 22), (1, .int (19 : Int32))]) (st' := [.ref 22, .int (19 : Int32)]) rfl ?_
  refine w_lene H (x := (36 : Int32)) (pc' := 3) (L' := [(0, .ref 22), (1, .int (19 : Int32))]) h_m308 (z_at.mk 1 rfl rfl) (by decide) rfl (by decide) rfl rfl rfl ?_
  refine w_ci (pc' := 6) (L' := [(0, .ref 22), (1, .int (19 : Int32))]) h_m308 (z_at.mk 3 rfl rfl) rfl (z_cat_le 0 rfl (by decide)) ⟨by decide, by decide⟩ rfl rfl ?_
  refine w_p h_m308 2 (pc' := 8) (L' := [(0, .ref 22), (1, .int (19 : Int32))]) (st' := [.int (19 : Int32), .ref 22]) rfl ?_
  refine w_ae H (j := 19) (pc' := 9) (L' := [(0, .ref 22), (1, .int (19 : Int32))]) h_m308 (z_at.mk 1 rfl rfl) rfl rfl rfl (by decide) rfl (by decide) rfl rfl rfl ?_
  refine w_p h_m308 3 (pc' := 14) (L' := [(0, .ref 22), (1, .int (19 : Int32))]) (st' := [.int (116 : Int32)]) rfl ?_
  refine w_ri h_m308 (z_at.mk 1 rfl rfl) rfl rfl ?_
  show z_W 996 294 15 [(0, .ref 4), (1, .int (19 : Int32))] [.int (116 : Int32)] m _
  refine w_ri h_m294 (z_at.mk 1 rfl rfl) rfl rfl ?_
  show z_W 997 102 80 [(0, .ref 120), (1, .ref 4), (2, .int (0 : Int32)), (3, .int (3 : Int32)), (4, .int (16 : Int32)), (5, .int (19 : Int32))] [.int (116 : Int32)] m _
  refine w_p h_m102 6 (pc' := 59) (L' := [(0, .ref 120), (1, .ref 4), (2, .int (0 : Int32)), (3, .int (3 : Int32)), (4, .int (16 : Int32)), (5, .int (20 : Int32))]) (st' := [.ref 4, .int (20 : Int32)]) rfl ?_
  refine w_cv (H.te (by decide) rfl).1 (pc' := 62) (L' := [(0, .ref 120), (1, .ref 4), (2, .int (0 : Int32)), (3, .int (3 : Int32)), (4, .int (16 : Int32)), (5, .int (20 : Int32))]) (rest := [.int (20 : Int32)]) (Ps := []) (L0 := [(0, .ref 4)]) h_m102 (z_at.mk 3 rfl rfl) (Or.inl ⟨rfl, rfl⟩) rfl rfl (by decide) (by decide) rfl rfl rfl rfl rfl rfl (by decide) rfl rfl rfl ?_
  refine w_p h_m293 1 (pc' := 1) (L' := [(0, .ref 4)]) (st' := [.ref 4]) rfl ?_
  refine w_gs H (pc' := 4) (L' := [(0, .ref 4)]) h_m293 (z_at.mk 3 rfl rfl) rfl (by decide) rfl rfl rfl rfl ?_
  refine w_lene H (x := (36 : Int32)) (pc' := 5) (L' := [(0, .ref 4)]) h_m293 (z_at.mk 1 rfl rfl) (by decide) rfl (by decide) rfl rfl rfl ?_
  refine w_p h_m293 1 (pc' := 6) (L' := [(0, .ref 4)]) (st' := [.ref 4, .int (36 : Int32)]) rfl ?_
  refine w_cv (H.te (by decide) rfl).1 (pc' := 9) (L' := [(0, .ref 4)]) (rest := [.int (36 : Int32)]) (Ps := []) (L0 := [(0, .ref 4)]) h_m293 (z_at.mk 3 rfl rfl) (Or.inl ⟨rfl, rfl⟩) rfl rfl (by decide) (by decide) rfl rfl rfl rfl rfl rfl (by decide) rfl rfl rfl ?_
  refine w_p h_m298 3 (pc' := 7) (L' := [(0, .ref 4)]) (st' := [.ref 4]) rfl ?_
  refine w_gs H (pc' := 10) (L' := [(0, .ref 4)]) h_m298 (z_at.mk 3 rfl rfl) rfl (by decide) rfl rfl rfl rfl ?_
  refine w_p h_m298 1 (pc' := 14) (L' := []) (st' := [.int (0 : Int32)]) rfl ?_
  refine w_ri h_m298 (z_at.mk 1 rfl rfl) rfl rfl ?_
  show z_W 996 293 9 [(0, .ref 4)] [.int (0 : Int32), .int (36 : Int32)] m _
  refine w_p h_m293 1 (pc' := 10) (L' := [(0, .ref 4)]) (st' := [.int (36 : Int32)]) rfl ?_
  refine w_ri h_m293 (z_at.mk 1 rfl rfl) rfl rfl ?_
  show z_W 997 102 62 [(0, .ref 120), (1, .ref 4), (2, .int (0 : Int32)), (3, .int (3 : Int32)), (4, .int (16 : Int32)), (5, .int (20 : Int32))] [.int (36 : Int32), .int (20 : Int32)] m _
  refine w_p h_m102 3 (pc' := 68) (L' := [(0, .ref 120), (1, .ref 4), (2, .int (0 : Int32)), (3, .int (3 : Int32)), (4, .int (16 : Int32)), (5, .int (20 : Int32))]) (st' := [.ref 4, .int (20 : Int32)]) rfl ?_
  refine w_cv (H.te (by decide) rfl).1 (pc' := 71) (L' := [(0, .ref 120), (1, .ref 4), (2, .int (0 : Int32)), (3, .int (3 : Int32)), (4, .int (16 : Int32)), (5, .int (20 : Int32))]) (rest := [.int (20 : Int32)]) (Ps := []) (L0 := [(0, .ref 4)]) h_m102 (z_at.mk 3 rfl rfl) (Or.inl ⟨rfl, rfl⟩) rfl rfl (by decide) (by decide) rfl rfl rfl rfl rfl rfl (by decide) rfl rfl rfl ?_
  refine w_p h_m293 1 (pc' := 1) (L' := [(0, .ref 4)]) (st' := [.ref 4]) rfl ?_
  refine w_gs H (pc' := 4) (L' := [(0, .ref 4)]) h_m293 (z_at.mk 3 rfl rfl) rfl (by decide) rfl rfl rfl rfl ?_
  refine w_lene H (x := (36 : Int32)) (pc' := 5) (L' := [(0, .ref 4)]) h_m293 (z_at.mk 1 rfl rfl) (by decide) rfl (by decide) rfl rfl rfl ?_
  refine w_p h_m293 1 (pc' := 6) (L' := [(0, .ref 4)]) (st' := [.ref 4, .int (36 : Int32)]) rfl ?_
  refine w_cv (H.te (by decide) rfl).1 (pc' := 9) (L' := [(0, .ref 4)]) (rest := [.int (36 : Int32)]) (Ps := []) (L0 := [(0, .ref 4)]) h_m293 (z_at.mk 3 rfl rfl) (Or.inl ⟨rfl, rfl⟩) rfl rfl (by decide) (by decide) rfl rfl rfl rfl rfl rfl (by decide) rfl rfl rfl ?_
  refine w_p h_m298 3 (pc' := 7) (L' := [(0, .ref 4)]) (st' := [.ref 4]) rfl ?_
  refine w_gs H (pc' := 10) (L' := [(0, .ref 4)]) h_m298 (z_at.mk 3 rfl rfl) rfl (by decide) rfl rfl rfl rfl ?_
  refine w_p h_m298 1 (pc' := 14) (L' := []) (st' := [.int (0 : Int32)]) rfl ?_
  refine w_ri h_m298 (z_at.mk 1 rfl rfl) rfl rfl ?_
  show z_W 996 293 9 [(0, .ref 4)] [.int (0 : Int32), .int (36 : Int32)] m _
  refine w_p h_m293 1 (pc' := 10) (L' := [(0, .ref 4)]) (st' := [.int (36 : Int32)]) rfl ?_
  refine w_ri h_m293 (z_at.mk 1 rfl rfl) rfl rfl ?_
  show z_W 997 102 71 [(0, .ref 120), (1, .ref 4), (2, .int (0 : Int32)), (3, .int (3 : Int32)), (4, .int (16 : Int32)), (5, .int (20 : Int32))] [.int (36 : Int32), .int (20 : Int32)] m _
  refine w_p h_m102 3 (pc' := 77) (L' := [(0, .ref 120), (1, .ref 4), (2, .int (0 : Int32)), (3, .int (3 : Int32)), (4, .int (16 : Int32)), (5, .int (20 : Int32))]) (st' := [.int (20 : Int32), .ref 4]) rfl ?_
  refine w_cv (H.te (by decide) rfl).1 (pc' := 80) (L' := [(0, .ref 120), (1, .ref 4), (2, .int (0 : Int32)), (3, .int (3 : Int32)), (4, .int (16 : Int32)), (5, .int (20 : Int32))]) (rest := []) (Ps := [.int (20 : Int32)]) (L0 := [(0, .ref 4), (1, .int (20 : Int32))]) h_m102 (z_at.mk 3 rfl rfl) (Or.inl ⟨rfl, rfl⟩) rfl rfl (by decide) (by decide) rfl rfl rfl rfl rfl rfl (by decide) rfl rfl rfl ?_
  refine w_p h_m294 1 (pc' := 1) (L' := [(0, .ref 4), (1, .int (20 : Int32))]) (st' := [.ref 4]) rfl ?_
  refine w_cv (H.te (by decide) rfl).1 (pc' := 4) (L' := [(0, .ref 4), (1, .int (20 : Int32))]) (rest := []) (Ps := []) (L0 := [(0, .ref 4)]) h_m294 (z_at.mk 3 rfl rfl) (Or.inl ⟨rfl, rfl⟩) rfl rfl (by decide) (by decide) rfl rfl rfl rfl rfl rfl (by decide) rfl rfl rfl ?_
  refine w_p h_m299 3 (pc' := 7) (L' := [(0, .ref 4)]) (st' := [.ref 4]) rfl ?_
  refine w_gs H (pc' := 10) (L' := [(0, .ref 4)]) h_m299 (z_at.mk 3 rfl rfl) rfl (by decide) rfl rfl rfl rfl ?_
  refine w_p h_m299 3 (pc' := 18) (L' := []) (st' := [.int (1 : Int32)]) rfl ?_
  refine w_ri h_m299 (z_at.mk 1 rfl rfl) rfl rfl ?_
  show z_W 996 294 4 [(0, .ref 4), (1, .int (20 : Int32))] [.int (1 : Int32)] m _
  refine w_p h_m294 2 (pc' := 8) (L' := [(0, .ref 4), (1, .int (20 : Int32))]) (st' := [.ref 4]) rfl ?_
  refine w_gs H (pc' := 11) (L' := [(0, .ref 4), (1, .int (20 : Int32))]) h_m294 (z_at.mk 3 rfl rfl) rfl (by decide) rfl rfl rfl rfl ?_
  refine w_p h_m294 1 (pc' := 12) (L' := [(0, .ref 4), (1, .int (20 : Int32))]) (st' := [.int (20 : Int32), .ref 22]) rfl ?_
  refine w_cs (As := [.ref 22, .int (20 : Int32)]) (rest := []) (j := 308) (L0 := [(0, .ref 22), (1, .int (20 : Int32))]) (pc' := 15) (L' := [(0, .ref 4), (1, .int (20 : Int32))]) h_m294 (z_at.mk 3 rfl rfl) (Or.inl ⟨rfl, rfl⟩) rfl rfl rfl rfl rfl ?_
  refine w_p h_m308 2 (pc' := 2) (L' := [(0, .ref 22), (1, .int (20 : Int32))]) (st' := [.ref 22, .int (20 : Int32)]) rfl ?_
  refine w_lene H (x := (36 : Int32)) (pc' := 3) (L' := [(0, .ref 22), (1, .int (20 : Int32))]) h_m308 (z_at.mk 1 rfl rfl) (by decide) rfl (by decide) rfl rfl rfl ?_
  refine w_ci (pc' := 6) (L' := [(0, .ref 22), (1, .int (20 : Int32))]) h_m308 (z_at.mk 3 rfl rfl) rfl (z_cat_le 0 rfl (by decide)) ⟨by decide, by decide⟩ rfl rfl ?_
  refine w_p h_m308 2 (pc' := 8) (L' := [(0, .ref 22), (1, .int (20 : Int32))]) (st' := [.int (20 : Int32), .ref 22]) rfl ?_
  refine w_ae H (j := 20) (pc' := 9) (L' := [(0, .ref 22), (1, .int (20 : Int32))]) h_m308 (z_at.mk 1 rfl rfl) rfl rfl rfl (by decide) rfl (by decide) rfl rfl rfl ?_
  refine w_p h_m308 3 (pc' := 14) (L' := [(0, .ref 22), (1, .int (20 : Int32))]) (st' := [.int (32 : Int32)]) rfl ?_
  refine w_ri h_m308 (z_at.mk 1 rfl rfl) rfl rfl ?_
  show z_W 996 294 15 [(0, .ref 4), (1, .int (20 : Int32))] [.int (32 : Int32)] m _
  refine w_ri h_m294 (z_at.mk 1 rfl rfl) rfl rfl ?_
  show z_W 997 102 80 [(0, .ref 120), (1, .ref 4), (2, .int (0 : Int32)), (3, .int (3 : Int32)), (4, .int (16 : Int32)), (5, .int (20 : Int32))] [.int (32 : Int32)] m _
  refine w_p h_m102 7 (pc' := 92) (L' := [(0, .ref 120), (1, .ref 4), (2, .int (0 : Int32)), (3, .int (3 : Int32)), (4, .int (16 : Int32)), (5, .int (20 : Int32))]) (st' := [.int (0 : Int32), .int (20 : Int32), .int (16 : Int32), .ref 4, .ref 120]) rfl ?_
  refine w_cv (H.t rfl) (pc' := 95) (L' := [(0, .ref 120), (1, .ref 4), (2, .int (0 : Int32)), (3, .int (3 : Int32)), (4, .int (16 : Int32)), (5, .int (20 : Int32))]) (rest := []) (Ps := [.ref 4, .int (16 : Int32), .int (20 : Int32), .int (0 : Int32)]) (L0 := [(0, .ref 120), (1, .ref 4), (2, .int (16 : Int32)), (3, .int (20 : Int32)), (4, .int (0 : Int32))]) h_m102 (z_at.mk 3 rfl rfl) (Or.inl ⟨rfl, rfl⟩) rfl rfl (by decide) (by decide) rfl rfl rfl rfl rfl rfl (by decide) rfl rfl rfl ?_
  refine w_p h_m103 1 (pc' := 1) (L' := [(0, .ref 120), (1, .ref 4), (2, .int (16 : Int32)), (3, .int (20 : Int32)), (4, .int (0 : Int32))]) (st' := [.ref 120]) rfl ?_
  refine w_cv (H.t rfl) (pc' := 4) (L' := [(0, .ref 120), (1, .ref 4), (2, .int (16 : Int32)), (3, .int (20 : Int32)), (4, .int (0 : Int32))]) (rest := []) (Ps := []) (L0 := [(0, .ref 120)]) h_m103 (z_at.mk 3 rfl rfl) (Or.inl ⟨rfl, rfl⟩) rfl rfl (by decide) (by decide) rfl rfl rfl rfl rfl rfl (by decide) rfl rfl rfl ?_
  refine w_p h_m93 1 (pc' := 1) (L' := [(0, .ref 120)]) (st' := [.ref 120]) rfl ?_
  refine w_gf H (pc' := 4) (L' := [(0, .ref 120)]) h_m93 (z_at.mk 3 rfl rfl) rfl (u := .int (-1 : Int32)) rfl rfl rfl ?_
  refine w_p h_m93 4 (pc' := 13) (L' := []) (st' := [.int (1 : Int32)]) rfl ?_
  refine w_ri h_m93 (z_at.mk 1 rfl rfl) rfl rfl ?_
  show z_W 996 103 4 [(0, .ref 120), (1, .ref 4), (2, .int (16 : Int32)), (3, .int (20 : Int32)), (4, .int (0 : Int32))] [.int (1 : Int32)] m _
  refine w_p h_m103 4 (pc' := 13) (L' := [(0, .ref 120), (1, .ref 4), (2, .int (16 : Int32)), (3, .int (20 : Int32)), (4, .int (0 : Int32))]) (st' := [.ref 120]) rfl ?_
  refine w_gf H (pc' := 16) (L' := [(0, .ref 120), (1, .ref 4), (2, .int (16 : Int32)), (3, .int (20 : Int32)), (4, .int (0 : Int32))]) h_m103 (z_at.mk 3 rfl rfl) rfl (u := .int (0 : Int32)) rfl rfl rfl ?_
  refine w_p h_m103 3 (pc' := 23) (L' := [(0, .ref 120), (1, .ref 4), (2, .int (16 : Int32)), (3, .int (20 : Int32)), (4, .int (0 : Int32))]) (st' := [.ref 120]) rfl ?_
  refine w_gf H (pc' := 26) (L' := [(0, .ref 120), (1, .ref 4), (2, .int (16 : Int32)), (3, .int (20 : Int32)), (4, .int (0 : Int32))]) h_m103 (z_at.mk 3 rfl rfl) rfl (u := .int (0 : Int32)) rfl rfl rfl ?_
  refine w_p h_m103 7 (pc' := 36) (L' := []) (st' := [.int (0 : Int32)]) rfl ?_
  refine w_ri h_m103 (z_at.mk 1 rfl rfl) rfl rfl ?_
  show z_W 997 102 95 [(0, .ref 120), (1, .ref 4), (2, .int (0 : Int32)), (3, .int (3 : Int32)), (4, .int (16 : Int32)), (5, .int (20 : Int32))] [.int (0 : Int32)] m _
  refine w_p h_m102 10 (pc' := 59) (L' := [(0, .ref 120), (1, .ref 4), (2, .int (0 : Int32)), (3, .int (4 : Int32)), (4, .int (21 : Int32)), (5, .int (21 : Int32))]) (st' := [.ref 4, .int (21 : Int32)]) rfl ?_
  refine w_cv (H.te (by decide) rfl).1 (pc' := 62) (L' := [(0, .ref 120), (1, .ref 4), (2, .int (0 : Int32)), (3, .int (4 : Int32)), (4, .int (21 : Int32)), (5, .int (21 : Int32))]) (rest := [.int (21 : Int32)]) (Ps := []) (L0 := [(0, .ref 4)]) h_m102 (z_at.mk 3 rfl rfl) (Or.inl ⟨rfl, rfl⟩) rfl rfl (by decide) (by decide) rfl rfl rfl rfl rfl rfl (by decide) rfl rfl rfl ?_
  refine w_p h_m293 1 (pc' := 1) (L' := [(0, .ref 4)]) (st' := [.ref 4]) rfl ?_
  refine w_gs H (pc' := 4) (L' := [(0, .ref 4)]) h_m293 (z_at.mk 3 rfl rfl) rfl (by decide) rfl rfl rfl rfl ?_
  refine w_lene H (x := (36 : Int32)) (pc' := 5) (L' := [(0, .ref 4)]) h_m293 (z_at.mk 1 rfl rfl) (by decide) rfl (by decide) rfl rfl rfl ?_
  refine w_p h_m293 1 (pc' := 6) (L' := [(0, .ref 4)]) (st' := [.ref 4, .int (36 : Int32)]) rfl ?_
  refine w_cv (H.te (by decide) rfl).1 (pc' := 9) (L' := [(0, .ref 4)]) (rest := [.int (36 : Int32)]) (Ps := []) (L0 := [(0, .ref 4)]) h_m293 (z_at.mk 3 rfl rfl) (Or.inl ⟨rfl, rfl⟩) rfl rfl (by decide) (by decide) rfl rfl rfl rfl rfl rfl (by decide) rfl rfl rfl ?_
  refine w_p h_m298 3 (pc' := 7) (L' := [(0, .ref 4)]) (st' := [.ref 4]) rfl ?_
  refine w_gs H (pc' := 10) (L' := [(0, .ref 4)]) h_m298 (z_at.mk 3 rfl rfl) rfl (by decide) rfl rfl rfl rfl ?_
  refine w_p h_m298 1 (pc' := 14) (L' := []) (st' := [.int (0 : Int32)]) rfl ?_
  refine w_ri h_m298 (z_at.mk 1 rfl rfl) rfl rfl ?_
  show z_W 996 293 9 [(0, .ref 4)] [.int (0 : Int32), .int (36 : Int32)] m _
  refine w_p h_m293 1 (pc' := 10) (L' := [(0, .ref 4)]) (st' := [.int (36 : Int32)]) rfl ?_
  refine w_ri h_m293 (z_at.mk 1 rfl rfl) rfl rfl ?_
  show z_W 997 102 62 [(0, .ref 120), (1, .ref 4), (2, .int (0 : Int32)), (3, .int (4 : Int32)), (4, .int (21 : Int32)), (5, .int (21 : Int32))] [.int (36 : Int32), .int (21 : Int32)] m _
  refine w_p h_m102 3 (pc' := 68) (L' := [(0, .ref 120), (1, .ref 4), (2, .int (0 : Int32)), (3, .int (4 : Int32)), (4, .int (21 : Int32)), (5, .int (21 : Int32))]) (st' := [.ref 4, .int (21 : Int32)]) rfl ?_
  refine w_cv (H.te (by decide) rfl).1 (pc' := 71) (L' := [(0, .ref 120), (1, .ref 4), (2, .int (0 : Int32)), (3, .int (4 : Int32)), (4, .int (21 : Int32)), (5, .int (21 : Int32))]) (rest := [.int (21 : Int32)]) (Ps := []) (L0 := [(0, .ref 4)]) h_m102 (z_at.mk 3 rfl rfl) (Or.inl ⟨rfl, rfl⟩) rfl rfl (by decide) (by decide) rfl rfl rfl rfl rfl rfl (by decide) rfl rfl rfl ?_
  refine w_p h_m293 1 (pc' := 1) (L' := [(0, .ref 4)]) (st' := [.ref 4]) rfl ?_
  refine w_gs H (pc' := 4) (L' := [(0, .ref 4)]) h_m293 (z_at.mk 3 rfl rfl) rfl (by decide) rfl rfl rfl rfl ?_
  refine w_lene H (x := (36 : Int32)) (pc' := 5) (L' := [(0, .ref 4)]) h_m293 (z_at.mk 1 rfl rfl) (by decide) rfl (by decide) rfl rfl rfl ?_
  refine w_p h_m293 1 (pc' := 6) (L' := [(0, .ref 4)]) (st' := [.ref 4, .int (36 : Int32)]) rfl ?_
  refine w_cv (H.te (by decide) rfl).1 (pc' := 9) (L' := [(0, .ref 4)]) (rest := [.int (36 : Int32)]) (Ps := []) (L0 := [(0, .ref 4)]) h_m293 (z_at.mk 3 rfl rfl) (Or.inl ⟨rfl, rfl⟩) rfl rfl (by decide) (by decide) rfl rfl rfl rfl rfl rfl (by decide) rfl rfl rfl ?_
  refine w_p h_m298 3 (pc' := 7) (L' := [(0, .ref 4)]) (st' := [.ref 4]) rfl ?_
  refine w_gs H (pc' := 10) (L' := [(0, .ref 4)]) h_m298 (z_at.mk 3 rfl rfl) rfl (by decide) rfl rfl rfl rfl ?_
  refine w_p h_m298 1 (pc' := 14) (L' := []) (st' := [.int (0 : Int32)]) rfl ?_
  refine w_ri h_m298 (z_at.mk 1 rfl rfl) rfl rfl ?_
  show z_W 996 293 9 [(0, .ref 4)] [.int (0 : Int32), .int (36 : Int32)] m _
  refine w_p h_m293 1 (pc' := 10) (L' := [(0, .ref 4)]) (st' := [.int (36 : Int32)]) rfl ?_
  refine w_ri h_m293 (z_at.mk 1 rfl rfl) rfl rfl ?_
  show z_W 997 102 71 [(0, .ref 120), (1, .ref 4), (2, .int (0 : Int32)), (3, .int (4 : Int32)), (4, .int (21 : Int32)), (5, .int (21 : Int32))] [.int (36 : Int32), .int (21 : Int32)] m _
  refine w_p h_m102 3 (pc' := 77) (L' := [(0, .ref 120), (1, .ref 4), (2, .int (0 : Int32)), (3, .int (4 : Int32)), (4, .int (21 : Int32)), (5, .int (21 : Int32))]) (st' := [.int (21 : Int32), .ref 4]) rfl ?_
  refine w_cv (H.te (by decide) rfl).1 (pc' := 80) (L' := [(0, .ref 120), (1, .ref 4), (2, .int (0 : Int32)), (3, .int (4 : Int32)), (4, .int (21 : Int32)), (5, .int (21 : Int32))]) (rest := []) (Ps := [.int (21 : Int32)]) (L0 := [(0, .ref 4), (1, .int (21 : Int32))]) h_m102 (z_at.mk 3 rfl rfl) (Or.inl ⟨rfl, rfl⟩) rfl rfl (by decide) (by decide) rfl rfl rfl rfl rfl rfl (by decide) rfl rfl rfl ?_
  refine w_p h_m294 1 (pc' := 1) (L' := [(0, .ref 4), (1, .int (21 : Int32))]) (st' := [.ref 4]) rfl ?_
  refine w_cv (H.te (by decide) rfl).1 (pc' := 4) (L' := [(0, .ref 4), (1, .int (21 : Int32))]) (rest := []) (Ps := []) (L0 := [(0, .ref 4)]) h_m294 (z_at.mk 3 rfl rfl) (Or.inl ⟨rfl, rfl⟩) rfl rfl (by decide) (by decide) rfl rfl rfl rfl rfl rfl (by decide) rfl rfl rfl ?_
  refine w_p h_m299 3 (pc' := 7) (L' := [(0, .ref 4)]) (st' := [.ref 4]) rfl ?_
  refine w_gs H (pc' := 10) (L' := [(0, .ref 4)]) h_m299 (z_at.mk 3 rfl rfl) rfl (by decide) rfl rfl rfl rfl ?_
  refine w_p h_m299 3 (pc' := 18) (L' := []) (st' := [.int (1 : Int32)]) rfl ?_
  refine w_ri h_m299 (z_at.mk 1 rfl rfl) rfl rfl ?_
  show z_W 996 294 4 [(0, .ref 4), (1, .int (21 : Int32))] [.int (1 : Int32)] m _
  refine w_p h_m294 2 (pc' := 8) (L' := [(0, .ref 4), (1, .int (21 : Int32))]) (st' := [.ref 4]) rfl ?_
  refine w_gs H (pc' := 11) (L' := [(0, .ref 4), (1, .int (21 : Int32))]) h_m294 (z_at.mk 3 rfl rfl) rfl (by decide) rfl rfl rfl rfl ?_
  refine w_p h_m294 1 (pc' := 12) (L' := [(0, .ref 4), (1, .int (21 : Int32))]) (st' := [.int (21 : Int32), .ref 22]) rfl ?_
  refine w_cs (As := [.ref 22, .int (21 : Int32)]) (rest := []) (j := 308) (L0 := [(0, .ref 22), (1, .int (21 : Int32))]) (pc' := 15) (L' := [(0, .ref 4), (1, .int (21 : Int32))]) h_m294 (z_at.mk 3 rfl rfl) (Or.inl ⟨rfl, rfl⟩) rfl rfl rfl rfl rfl ?_
  refine w_p h_m308 2 (pc' := 2) (L' := [(0, .ref 22), (1, .int (21 : Int32))]) (st' := [.ref 22, .int (21 : Int32)]) rfl ?_
  refine w_lene H (x := (36 : Int32)) (pc' := 3) (L' := [(0, .ref 22), (1, .int (21 : Int32))]) h_m308 (z_at.mk 1 rfl rfl) (by decide) rfl (by decide) rfl rfl rfl ?_
  refine w_ci (pc' := 6) (L' := [(0, .ref 22), (1, .int (21 : Int32))]) h_m308 (z_at.mk 3 rfl rfl) rfl (z_cat_le 0 rfl (by decide)) ⟨by decide, by decide⟩ rfl rfl ?_
  refine w_p h_m308 2 (pc' := 8) (L' := [(0, .ref 22), (1, .int (21 : Int32))]) (st' := [.int (21 : Int32), .ref 22]) rfl ?_
  refine w_ae H (j := 21) (pc' := 9) (L' := [(0, .ref 22), (1, .int (21 : Int32))]) h_m308 (z_at.mk 1 rfl rfl) rfl rfl rfl (by decide) rfl (by decide) rfl rfl rfl ?_
  refine w_p h_m308 3 (pc' := 14) (L' := [(0, .ref 22), (1, .int (21 : Int32))]) (st' := [.int (109 : Int32)]) rfl ?_
  refine w_ri h_m308 (z_at.mk 1 rfl rfl) rfl rfl ?_
  show z_W 996 294 15 [(0, .ref 4), (1, .int (21 : Int32))] [.int (109 : Int32)] m _
  refine w_ri h_m294 (z_at.mk 1 rfl rfl) rfl rfl ?_
  show z_W 997 102 80 [(0, .ref 120), (1, .ref 4), (2, .int (0 : Int32)), (3, .int (4 : Int32)), (4, .int (21 : Int32)), (5, .int (21 : Int32))] [.int (109 : Int32)] m _
  refine w_p h_m102 6 (pc' := 59) (L' := [(0, .ref 120), (1, .ref 4), (2, .int (0 : Int32)), (3, .int (4 : Int32)), (4, .int (21 : Int32)), (5, .int (22 : Int32))]) (st' := [.ref 4, .int (22 : Int32)]) rfl ?_
  refine w_cv (H.te (by decide) rfl).1 (pc' := 62) (L' := [(0, .ref 120), (1, .ref 4), (2, .int (0 : Int32)), (3, .int (4 : Int32)), (4, .int (21 : Int32)), (5, .int (22 : Int32))]) (rest := [.int (22 : Int32)]) (Ps := []) (L0 := [(0, .ref 4)]) h_m102 (z_at.mk 3 rfl rfl) (Or.inl ⟨rfl, rfl⟩) rfl rfl (by decide) (by decide) rfl rfl rfl rfl rfl rfl (by decide) rfl rfl rfl ?_
  refine w_p h_m293 1 (pc' := 1) (L' := [(0, .ref 4)]) (st' := [.ref 4]) rfl ?_
  refine w_gs H (pc' := 4) (L' := [(0, .ref 4)]) h_m293 (z_at.mk 3 rfl rfl) rfl (by decide) rfl rfl rfl rfl ?_
  refine w_lene H (x := (36 : Int32)) (pc' := 5) (L' := [(0, .ref 4)]) h_m293 (z_at.mk 1 rfl rfl) (by decide) rfl (by decide) rfl rfl rfl ?_
  refine w_p h_m293 1 (pc' := 6) (L' := [(0, .ref 4)]) (st' := [.ref 4, .int (36 : Int32)]) rfl ?_
  refine w_cv (H.te (by decide) rfl).1 (pc' := 9) (L' := [(0, .ref 4)]) (rest := [.int (36 : Int32)]) (Ps := []) (L0 := [(0, .ref 4)]) h_m293 (z_at.mk 3 rfl rfl) (Or.inl ⟨rfl, rfl⟩) rfl rfl (by decide) (by decide) rfl rfl rfl rfl rfl rfl (by decide) rfl rfl rfl ?_
  refine w_p h_m298 3 (pc' := 7) (L' := [(0, .ref 4)]) (st' := [.ref 4]) rfl ?_
  refine w_gs H (pc' := 10) (L' := [(0, .ref 4)]) h_m298 (z_at.mk 3 rfl rfl) rfl (by decide) rfl rfl rfl rfl ?_
  refine w_p h_m298 1 (pc' := 14) (L' := []) (st' := [.int (0 : Int32)]) rfl ?_
  refine w_ri h_m298 (z_at.mk 1 rfl rfl) rfl rfl ?_
  show z_W 996 293 9 [(0, .ref 4)] [.int (0 : Int32), .int (36 : Int32)] m _
  refine w_p h_m293 1 (pc' := 10) (L' := [(0, .ref 4)]) (st' := [.int (36 : Int32)]) rfl ?_
  refine w_ri h_m293 (z_at.mk 1 rfl rfl) rfl rfl ?_
  show z_W 997 102 62 [(0, .ref 120), (1, .ref 4), (2, .int (0 : Int32)), (3, .int (4 : Int32)), (4, .int (21 : Int32)), (5, .int (22 : Int32))] [.int (36 : Int32), .int (22 : Int32)] m _
  refine w_p h_m102 3 (pc' := 68) (L' := [(0, .ref 120), (1, .ref 4), (2, .int (0 : Int32)), (3, .int (4 : Int32)), (4, .int (21 : Int32)), (5, .int (22 : Int32))]) (st' := [.ref 4, .int (22 : Int32)]) rfl ?_
  refine w_cv (H.te (by decide) rfl).1 (pc' := 71) (L' := [(0, .ref 120), (1, .ref 4), (2, .int (0 : Int32)), (3, .int (4 : Int32)), (4, .int (21 : Int32)), (5, .int (22 : Int32))]) (rest := [.int (22 : Int32)]) (Ps := []) (L0 := [(0, .ref 4)]) h_m102 (z_at.mk 3 rfl rfl) (Or.inl ⟨rfl, rfl⟩) rfl rfl (by decide) (by decide) rfl rfl rfl rfl rfl rfl (by decide) rfl rfl rfl ?_
  refine w_p h_m293 1 (pc' := 1) (L' := [(0, .ref 4)]) (st' := [.ref 4]) rfl ?_
  refine w_gs H (pc' := 4) (L' := [(0, .ref 4)]) h_m293 (z_at.mk 3 rfl rfl) rfl (by decide) rfl rfl rfl rfl ?_
  refine w_lene H (x := (36 : Int32)) (pc' := 5) (L' := [(0, .ref 4)]) h_m293 (z_at.mk 1 rfl rfl) (by decide) rfl (by decide) rfl rfl rfl ?_
  refine w_p h_m293 1 (pc' := 6) (L' := [(0, .ref 4)]) (st' := [.ref 4, .int (36 : Int32)]) rfl ?_
  refine w_cv (H.te (by decide) rfl).1 (pc' := 9) (L' := [(0, .ref 4)]) (rest := [.int (36 : Int32)]) (Ps := []) (L0 := [(0, .ref 4)]) h_m293 (z_at.mk 3 rfl rfl) (Or.inl ⟨rfl, rfl⟩) rfl rfl (by decide) (by decide) rfl rfl rfl rfl rfl rfl (by decide) rfl rfl rfl ?_
  refine w_p h_m298 3 (pc' := 7) (L' := [(0, .ref 4)]) (st' := [.ref 4]) rfl ?_
  refine w_gs H (pc' := 10) (L' := [(0, .ref 4)]) h_m298 (z_at.mk 3 rfl rfl) rfl (by decide) rfl rfl rfl rfl ?_
  refine w_p h_m298 1 (pc' := 14) (L' := []) (st' := [.int (0 : Int32)]) rfl ?_
  refine w_ri h_m298 (z_at.mk 1 rfl rfl) rfl rfl ?_
  show z_W 996 293 9 [(0, .ref 4)] [.int (0 : Int32), .int (36 : Int32)] m _
  refine w_p h_m293 1 (pc' := 10) (L' := [(0, .ref 4)]) (st' := [.int (36 : Int32)]) rfl ?_
  refine w_ri h_m293 (z_at.mk 1 rfl rfl) rfl rfl ?_
  show z_W 997 102 71 [(0, .ref 120), (1, .ref 4), (2, .int (0 : Int32)), (3, .int (4 : Int32)), (4, .int (21 : Int32)), (5, .int (22 : Int32))] [.int (36 : Int32), .int (22 : Int32)] m _
  refine w_p h_m102 3 (pc' := 77) (L' := [(0, .ref 120), (1, .ref 4), (2, .int (0 : Int32)), (3, .int (4 : Int32)), (4, .int (21 : Int32)), (5, .int (22 : Int32))]) (st' := [.int (22 : Int32), .ref 4]) rfl ?_
  refine w_cv (H.te (by decide) rfl).1 (pc' := 80) (L' := [(0, .ref 120), (1, .ref 4), (2, .int (0 : Int32)), (3, .int (4 : Int32)), (4, .int (21 : Int32)), (5, .int (22 : Int32))]) (rest := []) (Ps := [.int (22 : Int32)]) (L0 := [(0, .ref 4), (1, .int (22 : Int32))]) h_m102 (z_at.mk 3 rfl rfl) (Or.inl ⟨rfl, rfl⟩) rfl rfl (by decide) (by decide) rfl rfl rfl rfl rfl rfl (by decide) rfl rfl rfl ?_
  refine w_p h_m294 1 (pc' := 1) (L' := [(0, .ref 4), (1, .int (22 : Int32))]) (st' := [.ref 4]) rfl ?_
  refine w_cv (H.te (by decide) rfl).1 (pc' := 4) (L' := [(0, .ref 4), (1, .int (22 : Int32))]) (rest := []) (Ps := []) (L0 := [(0, .ref 4)]) h_m294 (z_at.mk 3 rfl rfl) (Or.inl ⟨rfl, rfl⟩) rfl rfl (by decide) (by decide) rfl rfl rfl rfl rfl rfl (by decide) rfl rfl rfl ?_
  refine w_p h_m299 3 (pc' := 7) (L' := [(0, .ref 4)]) (st' := [.ref 4]) rfl ?_
  refine w_gs H (pc' := 10) (L' := [(0, .ref 4)]) h_m299 (z_at.mk 3 rfl rfl) rfl (by decide) rfl rfl rfl rfl ?_
  refine w_p h_m299 3 (pc' := 18) (L' := []) (st' := [.int (1 : Int32)]) rfl ?_
  refine w_ri h_m299 (z_at.mk 1 rfl rfl) rfl rfl ?_
  show z_W 996 294 4 [(0, .ref 4), (1, .int (22 : Int32))] [.int (1 : Int32)] m _
  refine w_p h_m294 2 (pc' := 8) (L' := [(0, .ref 4), (1, .int (22 : Int32))]) (st' := [.ref 4]) rfl ?_
  refine w_gs H (pc' := 11) (L' := [(0, .ref 4), (1, .int (22 : Int32))]) h_m294 (z_at.mk 3 rfl rfl) rfl (by decide) rfl rfl rfl rfl ?_
  refine w_p h_m294 1 (pc' := 12) (L' := [(0, .ref 4), (1, .int (22 : Int32))]) (st' := [.int (22 : Int32), .ref 22]) rfl ?_
  refine w_cs (As := [.ref 22, .int (22 : Int32)]) (rest := []) (j := 308) (L0 := [(0, .ref 22), (1, .int (22 : Int32))]) (pc' := 15) (L' := [(0, .ref 4), (1, .int (22 : Int32))]) h_m294 (z_at.mk 3 rfl rfl) (Or.inl ⟨rfl, rfl⟩) rfl rfl rfl rfl rfl ?_
  refine w_p h_m308 2 (pc' := 2) (L' := [(0, .ref 22), (1, .int (22 : Int32))]) (st' := [.ref 22, .int (22 : Int32)]) rfl ?_
  refine w_lene H (x := (36 : Int32)) (pc' := 3) (L' := [(0, .ref 22), (1, .int (22 : Int32))]) h_m308 (z_at.mk 1 rfl rfl) (by decide) rfl (by decide) rfl rfl rfl ?_
  refine w_ci (pc' := 6) (L' := [(0, .ref 22), (1, .int (22 : Int32))]) h_m308 (z_at.mk 3 rfl rfl) rfl (z_cat_le 0 rfl (by decide)) ⟨by decide, by decide⟩ rfl rfl ?_
  refine w_p h_m308 2 (pc' := 8) (L' := [(0, .ref 22), (1, .int (22 : Int32))]) (st' := [.int (22 : Int32), .ref 22]) rfl ?_
  refine w_ae H (j := 22) (pc' := 9) (L' := [(0, .ref 22), (1, .int (22 : Int32))]) h_m308 (z_at.mk 1 rfl rfl) rfl rfl rfl (by decide) rfl (by decide) rfl rfl rfl ?_
  refine w_p h_m308 3 (pc' := 14) (L' := [(0, .ref 22), (1, .int (22 : Int32))]) (st' := [.int (101 : Int32)]) rfl ?_
  refine w_ri h_m308 (z_at.mk 1 rfl rfl) rfl rfl ?_
  show z_W 996 294 15 [(0, .ref 4), (1, .int (22 : Int32))] [.int (101 : Int32)] m _
  refine w_ri h_m294 (z_at.mk 1 rfl rfl) rfl rfl ?_
  show z_W 997 102 80 [(0, .ref 120), (1, .ref 4), (2, .int (0 : Int32)), (3, .int (4 : Int32)), (4, .int (21 : Int32)), (5, .int (22 : Int32))] [.int (101 : Int32)] m _
  refine w_p h_m102 6 (pc' := 59) (L' := [(0, .ref 120), (1, .ref 4), (2, .int (0 : Int32)), (3, .int (4 : Int32)), (4, .int (21 : Int32)), (5, .int (23 : Int32))]) (st' := [.ref 4, .int (23 : Int32)]) rfl ?_
  refine w_cv (H.te (by decide) rfl).1 (pc' := 62) (L' := [(0, .ref 120), (1, .ref 4), (2, .int (0 : Int32)), (3, .int (4 : Int32)), (4, .int (21 : Int32)), (5, .int (23 : Int32))]) (rest := [.int (23 : Int32)]) (Ps := []) (L0 := [(0, .ref 4)]) h_m102 (z_at.mk 3 rfl rfl) (Or.inl ⟨rfl, rfl⟩) rfl rfl (by decide) (by decide) rfl rfl rfl rfl rfl rfl (by decide) rfl rfl rfl ?_
  refine w_p h_m293 1 (pc' := 1) (L' := [(0, .ref 4)]) (st' := [.ref 4]) rfl ?_
  refine w_gs H (pc' := 4) (L' := [(0, .ref 4)]) h_m293 (z_at.mk 3 rfl rfl) rfl (by decide) rfl rfl rfl rfl ?_
  refine w_lene H (x := (36 : Int32)) (pc' := 5) (L' := [(0, .ref 4)]) h_m293 (z_at.mk 1 rfl rfl) (by decide) rfl (by decide) rfl rfl rfl ?_
  refine w_p h_m293 1 (pc' := 6) (L' := [(0, .ref 4)]) (st' := [.ref 4, .int (36 : Int32)]) rfl ?_
  refine w_cv (H.te (by decide) rfl).1 (pc' := 9) (L' := [(0, .ref 4)]) (rest := [.int (36 : Int32)]) (Ps := []) (L0 := [(0, .ref 4)]) h_m293 (z_at.mk 3 rfl rfl) (Or.inl ⟨rfl, rfl⟩) rfl rfl (by decide) (by decide) rfl rfl rfl rfl rfl rfl (by decide) rfl rfl rfl ?_
  refine w_p h_m298 3 (pc' := 7) (L' := [(0, .ref 4)]) (st' := [.ref 4]) rfl ?_
  refine w_gs H (pc' := 10) (L' := [(0, .ref 4)]) h_m298 (z_at.mk 3 rfl rfl) rfl (by decide) rfl rfl rfl rfl ?_
  refine w_p h_m298 1 (pc' := 14) (L' := []) (st' := [.int (0 : Int32)]) rfl ?_
  refine w_ri h_m298 (z_at.mk 1 rfl rfl) rfl rfl ?_
  show z_W 996 293 9 [(0, .ref 4)] [.int (0 : Int32), .int (36 : Int32)] m _
  refine w_p h_m293 1 (pc' := 10) (L' := [(0, .ref 4)]) (st' := [.int (36 : Int32)]) rfl ?_
  refine w_ri h_m293 (z_at.mk 1 rfl rfl) rfl rfl ?_
  show z_W 997 102 62 [(0, .ref 120), (1, .ref 4), (2, .int (0 : Int32)), (3, .int (4 : Int32)), (4, .int (21 : Int32)), (5, .int (23 : Int32))] [.int (36 : Int32), .int (23 : Int32)] m _
  refine w_p h_m102 3 (pc' := 68) (L' := [(0, .ref 120), (1, .ref 4), (2, .int (0 : Int32)), (3, .int (4 : Int32)), (4, .int (21 : Int32)), (5, .int (23 : Int32))]) (st' := [.ref 4, .int (23 : Int32)]) rfl ?_
  refine w_cv (H.te (by decide) rfl).1 (pc' := 71) (L' := [(0, .ref 120), (1, .ref 4), (2, .int (0 : Int32)), (3, .int (4 : Int32)), (4, .int (21 : Int32)), (5, .int (23 : Int32))]) (rest := [.int (23 : Int32)]) (Ps := []) (L0 := [(0, .ref 4)]) h_m102 (z_at.mk 3 rfl rfl) (Or.inl ⟨rfl, rfl⟩) rfl rfl (by decide) (by decide) rfl rfl rfl rfl rfl rfl (by decide) rfl rfl rfl ?_
  refine w_p h_m293 1 (pc' := 1) (L' := [(0, .ref 4)]) (st' := [.ref 4]) rfl ?_
  refine w_gs H (pc' := 4) (L' := [(0, .ref 4)]) h_m293 (z_at.mk 3 rfl rfl) rfl (by decide) rfl rfl rfl rfl ?_
  refine w_lene H (x := (36 : Int32)) (pc' := 5) (L' := [(0, .ref 4)]) h_m293 (z_at.mk 1 rfl rfl) (by decide) rfl (by decide) rfl rfl rfl ?_
  refine w_p h_m293 1 (pc' := 6) (L' := [(0, .ref 4)]) (st' := [.ref 4, .int (36 : Int32)]) rfl ?_
  refine w_cv (H.te (by decide) rfl).1 (pc' := 9) (L' := [(0, .ref 4)]) (rest := [.int (36 : Int32)]) (Ps := []) (L0 := [(0, .ref 4)]) h_m293 (z_at.mk 3 rfl rfl) (Or.inl ⟨rfl, rfl⟩) rfl rfl (by decide) (by decide) rfl rfl rfl rfl rfl rfl (by decide) rfl rfl rfl ?_
  refine w_p h_m298 3 (pc' := 7) (L' := [(0, .ref 4)]) (st' := [.ref 4]) rfl ?_
  refine w_gs H (pc' := 10) (L' := [(0, .ref 4)]) h_m298 (z_at.mk 3 rfl rfl) rfl (by decide) rfl rfl rfl rfl ?_
  refine w_p h_m298 1 (pc' := 14) (L' := []) (st' := [.int (0 : Int32)]) rfl ?_
  refine w_ri h_m298 (z_at.mk 1 rfl rfl) rfl rfl ?_
  show z_W 996 293 9 [(0, .ref 4)] [.int (0 : Int32), .int (36 : Int32)] m _
  refine w_p h_m293 1 (pc' := 10) (L' := [(0, .ref 4)]) (st' := [.int (36 : Int32)]) rfl ?_
  refine w_ri h_m293 (z_at.mk 1 rfl rfl) rfl rfl ?_
  show z_W 997 102 71 [(0, .ref 120), (1, .ref 4), (2, .int (0 : Int32)), (3, .int (4 : Int32)), (4, .int (21 : Int32)), (5, .int (23 : Int32))] [.int (36 : Int32), .int (23 : Int32)] m _
  refine w_p h_m102 3 (pc' := 77) (L' := [(0, .ref 120), (1, .ref 4), (2, .int (0 : Int32)), (3, .int (4 : Int32)), (4, .int (21 : Int32)), (5, .int (23 : Int32))]) (st' := [.int (23 : Int32), .ref 4]) rfl ?_
  refine w_cv (H.te (by decide) rfl).1 (pc' := 80) (L' := [(0, .ref 120), (1, .ref 4), (2, .int (0 : Int32)), (3, .int (4 : Int32)), (4, .int (21 : Int32)), (5, .int (23 : Int32))]) (rest := []) (Ps := [.int (23 : Int32)]) (L0 := [(0, .ref 4), (1, .int (23 : Int32))]) h_m102 (z_at.mk 3 rfl rfl) (Or.inl ⟨rfl, rfl⟩) rfl rfl (by decide) (by decide) rfl rfl rfl rfl rfl rfl (by decide) rfl rfl rfl ?_
  refine w_p h_m294 1 (pc' := 1) (L' := [(0, .ref 4), (1, .int (23 : Int32))]) (st' := [.ref 4]) rfl ?_
  refine w_cv (H.te (by decide) rfl).1 (pc' := 4) (L' := [(0, .ref 4), (1, .int (23 : Int32))]) (rest := []) (Ps := []) (L0 := [(0, .ref 4)]) h_m294 (z_at.mk 3 rfl rfl) (Or.inl ⟨rfl, rfl⟩) rfl rfl (by decide) (by decide) rfl rfl rfl rfl rfl rfl (by decide) rfl rfl rfl ?_
  refine w_p h_m299 3 (pc' := 7) (L' := [(0, .ref 4)]) (st' := [.ref 4]) rfl ?_
  refine w_gs H (pc' := 10) (L' := [(0, .ref 4)]) h_m299 (z_at.mk 3 rfl rfl) rfl (by decide) rfl rfl rfl rfl ?_
  refine w_p h_m299 3 (pc' := 18) (L' := []) (st' := [.int (1 : Int32)]) rfl ?_
  refine w_ri h_m299 (z_at.mk 1 rfl rfl) rfl rfl ?_
  show z_W 996 294 4 [(0, .ref 4), (1, .int (23 : Int32))] [.int (1 : Int32)] m _
  refine w_p h_m294 2 (pc' := 8) (L' := [(0, .ref 4), (1, .int (23 : Int32))]) (st' := [.ref 4]) rfl ?_
  refine w_gs H (pc' := 11) (L' := [(0, .ref 4), (1, .int (23 : Int32))]) h_m294 (z_at.mk 3 rfl rfl) rfl (by decide) rfl rfl rfl rfl ?_
  refine w_p h_m294 1 (pc' := 12) (L' := [(0, .ref 4), (1, .int (23 : Int32))]) (st' := [.int (23 : Int32), .ref 22]) rfl ?_
  refine w_cs (As := [.ref 22, .int (23 : Int32)]) (rest := []) (j := 308) (L0 := [(0, .ref 22), (1, .int (23 : Int32))]) (pc' := 15) (L' := [(0, .ref 4), (1, .int (23 : Int32))]) h_m294 (z_at.mk 3 rfl rfl) (Or.inl ⟨rfl, rfl⟩) rfl rfl rfl rfl rfl ?_
  refine w_p h_m308 2 (pc' := 2) (L' := [(0, .ref 22), (1, .int (23 : Int32))]) (st' := [.ref 22, .int (23 : Int32)]) rfl ?_
  refine w_lene H (x := (36 : Int32)) (pc' := 3) (L' := [(0, .ref 22), (1, .int (23 : Int32))]) h_m308 (z_at.mk 1 rfl rfl) (by decide) rfl (by decide) rfl rfl rfl ?_
  refine w_ci (pc' := 6) (L' := [(0, .ref 22), (1, .int (23 : Int32))]) h_m308 (z_at.mk 3 rfl rfl) rfl (z_cat_le 0 rfl (by decide)) ⟨by decide, by decide⟩ rfl rfl ?_
  refine w_p h_m308 2 (pc' := 8) (L' := [(0, .ref 22), (1, .int (23 : Int32))]) (st' := [.int (23 : Int32), .ref 22]) rfl ?_
  refine w_ae H (j := 23) (pc' := 9) (L' := [(0, .ref 22), (1, .int (23 : Int32))]) h_m308 (z_at.mk 1 rfl rfl) rfl rfl rfl (by decide) rfl (by decide) rfl rfl rfl ?_
  refine w_p h_m308 3 (pc' := 14) (L' := [(0, .ref 22), (1, .int (23 : Int32))]) (st' := [.int (97 : Int32)]) rfl ?_
  refine w_ri h_m308 (z_at.mk 1 rfl rfl) rfl rfl ?_
  show z_W 996 294 15 [(0, .ref 4), (1, .int (23 : Int32))] [.int (97 : Int32)] m _
  refine w_ri h_m294 (z_at.mk 1 rfl rfl) rfl rfl ?_
  show z_W 997 102 80 [(0, .ref 120), (1, .ref 4), (2, .int (0 : Int32)), (3, .int (4 : Int32)), (4, .int (21 : Int32)), (5, .int (23 : Int32))] [.int (97 : Int32)] m _
  refine w_p h_m102 6 (pc' := 59) (L' := [(0, .ref 120), (1, .ref 4), (2, .int (0 : Int32)), (3, .int (4 : Int32)), (4, .int (21 : Int32)), (5, .int (24 : Int32))]) (st' := [.ref 4, .int (24 : Int32)]) rfl ?_
  refine w_cv (H.te (by decide) rfl).1 (pc' := 62) (L' := [(0, .ref 120), (1, .ref 4), (2, .int (0 : Int32)), (3, .int (4 : Int32)), (4, .int (21 : Int32)), (5, .int (24 : Int32))]) (rest := [.int (24 : Int32)]) (Ps := []) (L0 := [(0, .ref 4)]) h_m102 (z_at.mk 3 rfl rfl) (Or.inl ⟨rfl, rfl⟩) rfl rfl (by decide) (by decide) rfl rfl rfl rfl rfl rfl (by decide) rfl rfl rfl ?_
  refine w_p h_m293 1 (pc' := 1) (L' := [(0, .ref 4)]) (st' := [.ref 4]) rfl ?_
  refine w_gs H (pc' := 4) (L' := [(0, .ref 4)]) h_m293 (z_at.mk 3 rfl rfl) rfl (by decide) rfl rfl rfl rfl ?_
  refine w_lene H (x := (36 : Int32)) (pc' := 5) (L' := [(0, .ref 4)]) h_m293 (z_at.mk 1 rfl rfl) (by decide) rfl (by decide) rfl rfl rfl ?_
  refine w_p h_m293 1 (pc' := 6) (L' := [(0, .ref 4)]) (st' := [.ref 4, .int (36 : Int32)]) rfl ?_
  refine w_cv (H.te (by decide) rfl).1 (pc' := 9) (L' := [(0, .ref 4)]) (rest := [.int (36 : Int32)]) (Ps := []) (L0 := [(0, .ref 4)]) h_m293 (z_at.mk 3 rfl rfl) (Or.inl ⟨rfl, rfl⟩) rfl rfl (by decide) (by decide) rfl rfl rfl rfl rfl rfl (by decide) rfl rfl rfl ?_
  refine w_p h_m298 3 (pc' := 7) (L' := [(0, .ref 4)]) (st' := [.ref 4]) rfl ?_
  refine w_gs H (pc' := 10) (L' := [(0, .ref 4)]) h_m298 (z_at.mk 3 rfl rfl) rfl (by decide) rfl rfl rfl rfl ?_
  refine w_p h_m298 1 (pc' := 14) (L' := []) (st' := [.int (0 : Int32)]) rfl ?_
  refine w_ri h_m298 (z_at.mk 1 rfl rfl) rfl rfl ?_
  show z_W 996 293 9 [(0, .ref 4)] [.int (0 : Int32), .int (36 : Int32)] m _
  refine w_p h_m293 1 (pc' := 10) (L' := [(0, .ref 4)]) (st' := [.int (36 : Int32)]) rfl ?_
  refine w_ri h_m293 (z_at.mk 1 rfl rfl) rfl rfl ?_
  show z_W 997 102 62 [(0, .ref 120), (1, .ref 4), (2, .int (0 : Int32)), (3, .int (4 : Int32)), (4, .int (21 : Int32)), (5, .int (24 : Int32))] [.int (36 : Int32), .int (24 : Int32)] m _
  refine w_p h_m102 3 (pc' := 68) (L' := [(0, .ref 120), (1, .ref 4), (2, .int (0 : Int32)), (3, .int (4 : Int32)), (4, .int (21 : Int32)), (5, .int (24 : Int32))]) (st' := [.ref 4, .int (24 : Int32)]) rfl ?_
  refine w_cv (H.te (by decide) rfl).1 (pc' := 71) (L' := [(0, .ref 120), (1, .ref 4), (2, .int (0 : Int32)), (3, .int (4 : Int32)), (4, .int (21 : Int32)), (5, .int (24 : Int32))]) (rest := [.int (24 : Int32)]) (Ps := []) (L0 := [(0, .ref 4)]) h_m102 (z_at.mk 3 rfl rfl) (Or.inl ⟨rfl, rfl⟩) rfl rfl (by decide) (by decide) rfl rfl rfl rfl rfl rfl (by decide) rfl rfl rfl ?_
  refine w_p h_m293 1 (pc' := 1) (L' := [(0, .ref 4)]) (st' := [.ref 4]) rfl ?_
  refine w_gs H (pc' := 4) (L' := [(0, .ref 4)]) h_m293 (z_at.mk 3 rfl rfl) rfl (by decide) rfl rfl rfl rfl ?_
  refine w_lene H (x := (36 : Int32)) (pc' := 5) (L' := [(0, .ref 4)]) h_m293 (z_at.mk 1 rfl rfl) (by decide) rfl (by decide) rfl rfl rfl ?_
  refine w_p h_m293 1 (pc' := 6) (L' := [(0, .ref 4)]) (st' := [.ref 4, .int (36 : Int32)]) rfl ?_
  refine w_cv (H.te (by decide) rfl).1 (pc' := 9) (L' := [(0, .ref 4)]) (rest := [.int (36 : Int32)]) (Ps := []) (L0 := [(0, .ref 4)]) h_m293 (z_at.mk 3 rfl rfl) (Or.inl ⟨rfl, rfl⟩) rfl rfl (by decide) (by decide) rfl rfl rfl rfl rfl rfl (by decide) rfl rfl rfl ?_
  refine w_p h_m298 3 (pc' := 7) (L' := [(0, .ref 4)]) (st' := [.ref 4]) rfl ?_
  refine w_gs H (pc' := 10) (L' := [(0, .ref 4)]) h_m298 (z_at.mk 3 rfl rfl) rfl (by decide) rfl rfl rfl rfl ?_
  refine w_p h_m298 1 (pc' := 14) (L' := []) (st' := [.int (0 : Int32)]) rfl ?_
  refine w_ri h_m298 (z_at.mk 1 rfl rfl) rfl rfl ?_
  show z_W 996 293 9 [(0, .ref 4)] [.int (0 : Int32), .int (36 : Int32)] m _
  refine w_p h_m293 1 (pc' := 10) (L' := [(0, .ref 4)]) (st' := [.int (36 : Int32)]) rfl ?_
  refine w_ri h_m293 (z_at.mk 1 rfl rfl) rfl rfl ?_
  show z_W 997 102 71 [(0, .ref 120), (1, .ref 4), (2, .int (0 : Int32)), (3, .int (4 : Int32)), (4, .int (21 : Int32)), (5, .int (24 : Int32))] [.int (36 : Int32), .int (24 : Int32)] m _
  refine w_p h_m102 3 (pc' := 77) (L' := [(0, .ref 120), (1, .ref 4), (2, .int (0 : Int32)), (3, .int (4 : Int32)), (4, .int (21 : Int32)), (5, .int (24 : Int32))]) (st' := [.int (24 : Int32), .ref 4]) rfl ?_
  refine w_cv (H.te (by decide) rfl).1 (pc' := 80) (L' := [(0, .ref 120), (1, .ref 4), (2, .int (0 : Int32)), (3, .int (4 : Int32)), (4, .int (21 : Int32)), (5, .int (24 : Int32))]) (rest := []) (Ps := [.int (24 : Int32)]) (L0 := [(0, .ref 4), (1, .int (24 : Int32))]) h_m102 (z_at.mk 3 rfl rfl) (Or.inl ⟨rfl, rfl⟩) rfl rfl (by decide) (by decide) rfl rfl rfl rfl rfl rfl (by decide) rfl rfl rfl ?_
  refine w_p h_m294 1 (pc' := 1) (L' := [(0, .ref 4), (1, .int (24 : Int32))]) (st' := [.ref 4]) rfl ?_
  refine w_cv (H.te (by decide) rfl).1 (pc' := 4) (L' := [(0, .ref 4), (1, .int (24 : Int32))]) (rest := []) (Ps := []) (L0 := [(0, .ref 4)]) h_m294 (z_at.mk 3 rfl rfl) (Or.inl ⟨rfl, rfl⟩) rfl rfl (by decide) (by decide) rfl rfl rfl rfl rfl rfl (by decide) rfl rfl rfl ?_
  refine w_p h_m299 3 (pc' := 7) (L' := [(0, .ref 4)]) (st' := [.ref 4]) rfl ?_
  refine w_gs H (pc' := 10) (L' := [(0, .ref 4)]) h_m299 (z_at.mk 3 rfl rfl) rfl (by decide) rfl rfl rfl rfl ?_
  refine w_p h_m299 3 (pc' := 18) (L' := []) (st' := [.int (1 : Int32)]) rfl ?_
  refine w_ri h_m299 (z_at.mk 1 rfl rfl) rfl rfl ?_
  show z_W 996 294 4 [(0, .ref 4), (1, .int (24 : Int32))] [.int (1 : Int32)] m _
  refine w_p h_m294 2 (pc' := 8) (L' := [(0, .ref 4), (1, .int (24 : Int32))]) (st' := [.ref 4]) rfl ?_
  refine w_gs H (pc' := 11) (L' := [(0, .ref 4), (1, .int (24 : Int32))]) h_m294 (z_at.mk 3 rfl rfl) rfl (by decide) rfl rfl rfl rfl ?_
  refine w_p h_m294 1 (pc' := 12) (L' := [(0, .ref 4), (1, .int (24 : Int32))]) (st' := [.int (24 : Int32), .ref 22]) rfl ?_
  refine w_cs (As := [.ref 22, .int (24 : Int32)]) (rest := []) (j := 308) (L0 := [(0, .ref 22), (1, .int (24 : Int32))]) (pc' := 15) (L' := [(0, .ref 4), (1, .int (24 : Int32))]) h_m294 (z_at.mk 3 rfl rfl) (Or.inl ⟨rfl, rfl⟩) rfl rfl rfl rfl rfl ?_
  refine w_p h_m308 2 (pc' := 2) (L' := [(0, .ref 22), (1, .int (24 : Int32))]) (st' := [.ref 22, .int (24 : Int32)]) rfl ?_
  refine w_lene H (x := (36 : Int32)) (pc' := 3) (L' := [(0, .ref 22), (1, .int (24 : Int32))]) h_m308 (z_at.mk 1 rfl rfl) (by decide) rfl (by decide) rfl rfl rfl ?_
  refine w_ci (pc' := 6) (L' := [(0, .ref 22), (1, .int (24 : Int32))]) h_m308 (z_at.mk 3 rfl rfl) rfl (z_cat_le 0 rfl (by decide)) ⟨by decide, by decide⟩ rfl rfl ?_
  refine w_p h_m308 2 (pc' := 8) (L' := [(0, .ref 22), (1, .int (24 : Int32))]) (st' := [.int (24 : Int32), .ref 22]) rfl ?_
  refine w_ae H (j := 24) (pc' := 9) (L' := [(0, .ref 22), (1, .int (24 : Int32))]) h_m308 (z_at.mk 1 rfl rfl) rfl rfl rfl (by decide) rfl (by decide) rfl rfl rfl ?_
  refine w_p h_m308 3 (pc' := 14) (L' := [(0, .ref 22), (1, .int (24 : Int32))]) (st' := [.int (110 : Int32)]) rfl ?_
  refine w_ri h_m308 (z_at.mk 1 rfl rfl) rfl rfl ?_
  show z_W 996 294 15 [(0, .ref 4), (1, .int (24 : Int32))] [.int (110 : Int32)] m _
  refine w_ri h_m294 (z_at.mk 1 rfl rfl) rfl rfl ?_
  show z_W 997 102 80 [(0, .ref 120), (1, .ref 4), (2, .int (0 : Int32)), (3, .int (4 : Int32)), (4, .int (21 : Int32)), (5, .int (24 : Int32))] [.int (110 : Int32)] m _
  refine w_p h_m102 6 (pc' := 59) (L' := [(0, .ref 120), (1, .ref 4), (2, .int (0 : Int32)), (3, .int (4 : Int32)), (4, .int (21 : Int32)), (5, .int (25 : Int32))]) (st' := [.ref 4, .int (25 : Int32)]) rfl ?_
  refine w_cv (H.te (by decide) rfl).1 (pc' := 62) (L' := [(0, .ref 120), (1, .ref 4), (2, .int (0 : Int32)), (3, .int (4 : Int32)), (4, .int (21 : Int32)), (5, .int (25 : Int32))]) (rest := [.int (25 : Int32)]) (Ps := []) (L0 := [(0, .ref 4)]) h_m102 (z_at.mk 3 rfl rfl) (Or.inl ⟨rfl, rfl⟩) rfl rfl (by decide) (by decide) rfl rfl rfl rfl rfl rfl (by decide) rfl rfl rfl ?_
  refine w_p h_m293 1 (pc' := 1) (L' := [(0, .ref 4)]) (st' := [.ref 4]) rfl ?_
  refine w_gs H (pc' := 4) (L' := [(0, .ref 4)]) h_m293 (z_at.mk 3 rfl rfl) rfl (by decide) rfl rfl rfl rfl ?_
  refine w_lene H (x := (36 : Int32)) (pc' := 5) (L' := [(0, .ref 4)]) h_m293 (z_at.mk 1 rfl rfl) (by decide) rfl (by decide) rfl rfl rfl ?_
  refine w_p h_m293 1 (pc' := 6) (L' := [(0, .ref 4)]) (st' := [.ref 4, .int (36 : Int32)]) rfl ?_
  refine w_cv (H.te (by decide) rfl).1 (pc' := 9) (L' := [(0, .ref 4)]) (rest := [.int (36 : Int32)]) (Ps := []) (L0 := [(0, .ref 4)]) h_m293 (z_at.mk 3 rfl rfl) (Or.inl ⟨rfl, rfl⟩) rfl rfl (by decide) (by decide) rfl rfl rfl rfl rfl rfl (by decide) rfl rfl rfl ?_
  refine w_p h_m298 3 (pc' := 7) (L' := [(0, .ref 4)]) (st' := [.ref 4]) rfl ?_
  refine w_gs H (pc' := 10) (L' := [(0, .ref 4)]) h_m298 (z_at.mk 3 rfl rfl) rfl (by decide) rfl rfl rfl rfl ?_
  refine w_p h_m298 1 (pc' := 14) (L' := []) (st' := [.int (0 : Int32)]) rfl ?_
  refine w_ri h_m298 (z_at.mk 1 rfl rfl) rfl rfl ?_
  show z_W 996 293 9 [(0, .ref 4)] [.int (0 : Int32), .int (36 : Int32)] m _
  refine w_p h_m293 1 (pc' := 10) (L' := [(0, .ref 4)]) (st' := [.int (36 : Int32)]) rfl ?_
  refine w_ri h_m293 (z_at.mk 1 rfl rfl) rfl rfl ?_
  show z_W 997 102 62 [(0, .ref 120), (1, .ref 4), (2, .int (0 : Int32)), (3, .int (4 : Int32)), (4, .int (21 : Int32)), (5, .int (25 : Int32))] [.int (36 : Int32), .int (25 : Int32)] m _
  refine w_p h_m102 3 (pc' := 68) (L' := [(0, .ref 120), (1, .ref 4), (2, .int (0 : Int32)), (3, .int (4 : Int32)), (4, .int (21 : Int32)), (5, .int (25 : Int32))]) (st' := [.ref 4, .int (25 : Int32)]) rfl ?_
  refine w_cv (H.te (by decide) rfl).1 (pc' := 71) (L' := [(0, .ref 120), (1, .ref 4), (2, .int (0 : Int32)), (3, .int (4 : Int32)), (4, .int (21 : Int32)), (5, .int (25 : Int32))]) (rest := [.int (25 : Int32)]) (Ps := []) (L0 := [(0, .ref 4)]) h_m102 (z_at.mk 3 rfl rfl) (Or.inl ⟨rfl, rfl⟩) rfl rfl (by decide) (by decide) rfl rfl rfl rfl rfl rfl (by decide) rfl rfl rfl ?_
  refine w_p h_m293 1 (pc' := 1) (L' := [(0, .ref 4)]) (st' := [.ref 4]) rfl ?_
  refine w_gs H (pc' := 4) (L' := [(0, .ref 4)]) h_m293 (z_at.mk 3 rfl rfl) rfl (by decide) rfl rfl rfl rfl ?_
  refine w_lene H (x := (36 : Int32)) (pc' := 5) (L' := [(0, .ref 4)]) h_m293 (z_at.mk 1 rfl rfl) (by decide) rfl (by decide) rfl rfl rfl ?_
  refine w_p h_m293 1 (pc' := 6) (L' := [(0, .ref 4)]) (st' := [.ref 4, .int (36 : Int32)]) rfl ?_
  refine w_cv (H.te (by decide) rfl).1 (pc' := 9) (L' := [(0, .ref 4)]) (rest := [.int (36 : Int32)]) (Ps := []) (L0 := [(0, .ref 4)]) h_m293 (z_at.mk 3 rfl rfl) (Or.inl ⟨rfl, rfl⟩) rfl rfl (by decide) (by decide) rfl rfl rfl rfl rfl rfl (by decide) rfl rfl rfl ?_
  refine w_p h_m298 3 (pc' := 7) (L' := [(0, .ref 4)]) (st' := [.ref 4]) rfl ?_
  refine w_gs H (pc' := 10) (L' := [(0, .ref 4)]) h_m298 (z_at.mk 3 rfl rfl) rfl (by decide) rfl rfl rfl rfl ?_
  refine w_p h_m298 1 (pc' := 14) (L' := []) (st' := [.int (0 : Int32)]) rfl ?_
  refine w_ri h_m298 (z_at.mk 1 rfl rfl) rfl rfl ?_
  show z_W 996 293 9 [(0, .ref 4)] [.int (0 : Int32), .int (36 : Int32)] m _
  refine w_p h_m293 1 (pc' := 10) (L' := [(0, .ref 4)]) (st' := [.int (36 : Int32)]) rfl ?_
  refine w_ri h_m293 (z_at.mk 1 rfl rfl) rfl rfl ?_
  show z_W 997 102 71 [(0, .ref 120), (1, .ref 4), (2, .int (0 : Int32)), (3, .int (4 : Int32)), (4, .int (21 : Int32)), (5, .int (25 : Int32))] [.int (36 : Int32), .int (25 : Int32)] m _
  refine w_p h_m102 3 (pc' := 77) (L' := [(0, .ref 120), (1, .ref 4), (2, .int (0 : Int32)), (3, .int (4 : Int32)), (4, .int (21 : Int32)), (5, .int (25 : Int32))]) (st' := [.int (25 : Int32), .ref 4]) rfl ?_
  refine w_cv (H.te (by decide) rfl).1 (pc' := 80) (L' := [(0, .ref 120), (1, .ref 4), (2, .int (0 : Int32)), (3, .int (4 : Int32)), (4, .int (21 : Int32)), (5, .int (25 : Int32))]) (rest := []) (Ps := [.int (25 : Int32)]) (L0 := [(0, .ref 4), (1, .int (25 : Int32))]) h_m102 (z_at.mk 3 rfl rfl) (Or.inl ⟨rfl, rfl⟩) rfl rfl (by decide) (by decide) rfl rfl rfl rfl rfl rfl (by decide) rfl rfl rfl ?_
  refine w_p h_m294 1 (pc' := 1) (L' := [(0, .ref 4), (1, .int (25 : Int32))]) (st' := [.ref 4]) rfl ?_
  refine w_cv (H.te (by decide) rfl).1 (pc' := 4) (L' := [(0, .ref 4), (1, .int (25 : Int32))]) (rest := []) (Ps := []) (L0 := [(0, .ref 4)]) h_m294 (z_at.mk 3 rfl rfl) (Or.inl ⟨rfl, rfl⟩) rfl rfl (by decide) (by decide) rfl rfl rfl rfl rfl rfl (by decide) rfl rfl rfl ?_
  refine w_p h_m299 3 (pc' := 7) (L' := [(0, .ref 4)]) (st' := [.ref 4]) rfl ?_
  refine w_gs H (pc' := 10) (L' := [(0, .ref 4)]) h_m299 (z_at.mk 3 rfl rfl) rfl (by decide) rfl rfl rfl rfl ?_
  refine w_p h_m299 3 (pc' := 18) (L' := []) (st' := [.int (1 : Int32)]) rfl ?_
  refine w_ri h_m299 (z_at.mk 1 rfl rfl) rfl rfl ?_
  show z_W 996 294 4 [(0, .ref 4), (1, .int (25 : Int32))] [.int (1 : Int32)] m _
  refine w_p h_m294 2 (pc' := 8) (L' := [(0, .ref 4), (1, .int (25 : Int32))]) (st' := [.ref 4]) rfl ?_
  refine w_gs H (pc' := 11) (L' := [(0, .ref 4), (1, .int (25 : Int32))]) h_m294 (z_at.mk 3 rfl rfl) rfl (by decide) rfl rfl rfl rfl ?_
  refine w_p h_m294 1 (pc' := 12) (L' := [(0, .ref 4), (1, .int (25 : Int32))]) (st' := [.int (25 : Int32), .ref 22]) rfl ?_
  refine w_cs (As := [.ref 22, .int (25 : Int32)]) (rest := []) (j := 308) (L0 := [(0, .ref 22), (1, .int (25 : Int32))]) (pc' := 15) (L' := [(0, .ref 4), (1, .int (25 : Int32))]) h_m294 (z_at.mk 3 rfl rfl) (Or.inl ⟨rfl, rfl⟩) rfl rfl rfl rfl rfl ?_
  refine w_p h_m308 2 (pc' := 2) (L' := [(0, .ref 22), (1, .int (25 : Int32))]) (st' := [.ref 22, .int (25 : Int32)]) rfl ?_
  refine w_lene H (x := (36 : Int32)) (pc' := 3) (L' := [(0, .ref 22), (1, .int (25 : Int32))]) h_m308 (z_at.mk 1 rfl rfl) (by decide) rfl (by decide) rfl rfl rfl ?_
  refine w_ci (pc' := 6) (L' := [(0, .ref 22), (1, .int (25 : Int32))]) h_m308 (z_at.mk 3 rfl rfl) rfl (z_cat_le 0 rfl (by decide)) ⟨by decide, by decide⟩ rfl rfl ?_
  refine w_p h_m308 2 (pc' := 8) (L' := [(0, .ref 22), (1, .int (25 : Int32))]) (st' := [.int (25 : Int32), .ref 22]) rfl ?_
  refine w_ae H (j := 25) (pc' := 9) (L' := [(0, .ref 22), (1, .int (25 : Int32))]) h_m308 (z_at.mk 1 rfl rfl) rfl rfl rfl (by decide) rfl (by decide) rfl rfl rfl ?_
  refine w_p h_m308 3 (pc' := 14) (L' := [(0, .ref 22), (1, .int (25 : Int32))]) (st' := [.int (32 : Int32)]) rfl ?_
  refine w_ri h_m308 (z_at.mk 1 rfl rfl) rfl rfl ?_
  show z_W 996 294 15 [(0, .ref 4), (1, .int (25 : Int32))] [.int (32 : Int32)] m _
  refine w_ri h_m294 (z_at.mk 1 rfl rfl) rfl rfl ?_
  show z_W 997 102 80 [(0, .ref 120), (1, .ref 4), (2, .int (0 : Int32)), (3, .int (4 : Int32)), (4, .int (21 : Int32)), (5, .int (25 : Int32))] [.int (32 : Int32)] m _
  refine w_p h_m102 7 (pc' := 92) (L' := [(0, .ref 120), (1, .ref 4), (2, .int (0 : Int32)), (3, .int (4 : Int32)), (4, .int (21 : Int32)), (5, .int (25 : Int32))]) (st' := [.int (0 : Int32), .int (25 : Int32), .int (21 : Int32), .ref 4, .ref 120]) rfl ?_
  refine w_cv (H.t rfl) (pc' := 95) (L' := [(0, .ref 120), (1, .ref 4), (2, .int (0 : Int32)), (3, .int (4 : Int32)), (4, .int (21 : Int32)), (5, .int (25 : Int32))]) (rest := []) (Ps := [.ref 4, .int (21 : Int32), .int (25 : Int32), .int (0 : Int32)]) (L0 := [(0, .ref 120), (1, .ref 4), (2, .int (21 : Int32)), (3, .int (25 : Int32)), (4, .int (0 : Int32))]) h_m102 (z_at.mk 3 rfl rfl) (Or.inl ⟨rfl, rfl⟩) rfl rfl (by decide) (by decide) rfl rfl rfl rfl rfl rfl (by decide) rfl rfl rfl ?_
  refine w_p h_m103 1 (pc' := 1) (L' := [(0, .ref 120), (1, .ref 4), (2, .int (21 : Int32)), (3, .int (25 : Int32)), (4, .int (0 : Int32))]) (st' := [.ref 120]) rfl ?_
  refine w_cv (H.t rfl) (pc' := 4) (L' := [(0, .ref 120), (1, .ref 4), (2, .int (21 : Int32)), (3, .int (25 : Int32)), (4, .int (0 : Int32))]) (rest := []) (Ps := []) (L0 := [(0, .ref 120)]) h_m103 (z_at.mk 3 rfl rfl) (Or.inl ⟨rfl, rfl⟩) rfl rfl (by decide) (by decide) rfl rfl rfl rfl rfl rfl (by decide) rfl rfl rfl ?_
  refine w_p h_m93 1 (pc' := 1) (L' := [(0, .ref 120)]) (st' := [.ref 120]) rfl ?_
  refine w_gf H (pc' := 4) (L' := [(0, .ref 120)]) h_m93 (z_at.mk 3 rfl rfl) rfl (u := .int (-1 : Int32)) rfl rfl rfl ?_
  refine w_p h_m93 4 (pc' := 13) (L' := []) (st' := [.int (1 : Int32)]) rfl ?_
  refine w_ri h_m93 (z_at.mk 1 rfl rfl) rfl rfl ?_
  show z_W 996 103 4 [(0, .ref 120), (1, .ref 4), (2, .int (21 : Int32)), (3, .int (25 : Int32)), (4, .int (0 : Int32))] [.int (1 : Int32)] m _
  refine w_p h_m103 4 (pc' := 13) (L' := [(0, .ref 120), (1, .ref 4), (2, .int (21 : Int32)), (3, .int (25 : Int32)), (4, .int (0 : Int32))]) (st' := [.ref 120]) rfl ?_
  refine w_gf H (pc' := 16) (L' := [(0, .ref 120), (1, .ref 4), (2, .int (21 : Int32)), (3, .int (25 : Int32)), (4, .int (0 : Int32))]) h_m103 (z_at.mk 3 rfl rfl) rfl (u := .int (0 : Int32)) rfl rfl rfl ?_
  refine w_p h_m103 3 (pc' := 23) (L' := [(0, .ref 120), (1, .ref 4), (2, .int (21 : Int32)), (3, .int (25 : Int32)), (4, .int (0 : Int32))]) (st' := [.ref 120]) rfl ?_
  refine w_gf H (pc' := 26) (L' := [(0, .ref 120), (1, .ref 4), (2, .int (21 : Int32)), (3, .int (25 : Int32)), (4, .int (0 : Int32))]) h_m103 (z_at.mk 3 rfl rfl) rfl (u := .int (0 : Int32)) rfl rfl rfl ?_
  refine w_p h_m103 7 (pc' := 36) (L' := []) (st' := [.int (0 : Int32)]) rfl ?_
  refine w_ri h_m103 (z_at.mk 1 rfl rfl) rfl rfl ?_
  show z_W 997 102 95 [(0, .ref 120), (1, .ref 4), (2, .int (0 : Int32)), (3, .int (4 : Int32)), (4, .int (21 : Int32)), (5, .int (25 : Int32))] [.int (0 : Int32)] m _
  refine w_p h_m102 10 (pc' := 59) (L' := [(0, .ref 120), (1, .ref 4), (2, .int (0 : Int32)), (3, .int (5 : Int32)), (4, .int (26 : Int32)), (5, .int (26 : Int32))]) (st' := [.ref 4, .int (26 : Int32)]) rfl ?_
  refine w_cv (H.te (by decide) rfl).1 (pc' := 62) (L' := [(0, .ref 120), (1, .ref 4), (2, .int (0 : Int32)), (3, .int (5 : Int32)), (4, .int (26 : Int32)), (5, .int (26 : Int32))]) (rest := [.int (26 : Int32)]) (Ps := []) (L0 := [(0, .ref 4)]) h_m102 (z_at.mk 3 rfl rfl) (Or.inl ⟨rfl, rfl⟩) rfl rfl (by decide) (by decide) rfl rfl rfl rfl rfl rfl (by decide) rfl rfl rfl ?_
  refine w_p h_m293 1 (pc' := 1) (L' := [(0, .ref 4)]) (st' := [.ref 4]) rfl ?_
  refine w_gs H (pc' := 4) (L' := [(0, .ref 4)]) h_m293 (z_at.mk 3 rfl rfl) rfl (by decide) rfl rfl rfl rfl ?_
  refine w_lene H (x := (36 : Int32)) (pc' := 5) (L' := [(0, .ref 4)]) h_m293 (z_at.mk 1 rfl rfl) (by decide) rfl (by decide) rfl rfl rfl ?_
  refine w_p h_m293 1 (pc' := 6) (L' := [(0, .ref 4)]) (st' := [.ref 4, .int (36 : Int32)]) rfl ?_
  refine w_cv (H.te (by decide) rfl).1 (pc' := 9) (L' := [(0, .ref 4)]) (rest := [.int (36 : Int32)]) (Ps := []) (L0 := [(0, .ref 4)]) h_m293 (z_at.mk 3 rfl rfl) (Or.inl ⟨rfl, rfl⟩) rfl rfl (by decide) (by decide) rfl rfl rfl rfl rfl rfl (by decide) rfl rfl rfl ?_
  refine w_p h_m298 3 (pc' := 7) (L' := [(0, .ref 4)]) (st' := [.ref 4]) rfl ?_
  refine w_gs H (pc' := 10) (L' := [(0, .ref 4)]) h_m298 (z_at.mk 3 rfl rfl) rfl (by decide) rfl rfl rfl rfl ?_
  refine w_p h_m298 1 (pc' := 14) (L' := []) (st' := [.int (0 : Int32)]) rfl ?_
  refine w_ri h_m298 (z_at.mk 1 rfl rfl) rfl rfl ?_
  show z_W 996 293 9 [(0, .ref 4)] [.int (0 : Int32), .int (36 : Int32)] m _
  refine w_p h_m293 1 (pc' := 10) (L' := [(0, .ref 4)]) (st' := [.int (36 : Int32)]) rfl ?_
  refine w_ri h_m293 (z_at.mk 1 rfl rfl) rfl rfl ?_
  show z_W 997 102 62 [(0, .ref 120), (1, .ref 4), (2, .int (0 : Int32)), (3, .int (5 : Int32)), (4, .int (26 : Int32)), (5, .int (26 : Int32))] [.int (36 : Int32), .int (26 : Int32)] m _
  refine w_p h_m102 3 (pc' := 68) (L' := [(0, .ref 120), (1, .ref 4), (2, .int (0 : Int32)), (3, .int (5 : Int32)), (4, .int (26 : Int32)), (5, .int (26 : Int32))]) (st' := [.ref 4, .int (26 : Int32)]) rfl ?_
  refine w_cv (H.te (by decide) rfl).1 (pc' := 71) (L' := [(0, .ref 120), (1, .ref 4), (2, .int (0 : Int32)), (3, .int (5 : Int32)), (4, .int (26 : Int32)), (5, .int (26 : Int32))]) (rest := [.int (26 : Int32)]) (Ps := []) (L0 := [(0, .ref 4)]) h_m102 (z_at.mk 3 rfl rfl) (Or.inl ⟨rfl, rfl⟩) rfl rfl (by decide) (by decide) rfl rfl rfl rfl rfl rfl (by decide) rfl rfl rfl ?_
  refine w_p h_m293 1 (pc' := 1) (L' := [(0, .ref 4)]) (st' := [.ref 4]) rfl ?_
  refine w_gs H (pc' := 4) (L' := [(0, .ref 4)]) h_m293 (z_at.mk 3 rfl rfl) rfl (by decide) rfl rfl rfl rfl ?_
  refine w_lene H (x := (36 : Int32)) (pc' := 5) (L' := [(0, .ref 4)]) h_m293 (z_at.mk 1 rfl rfl) (by decide) rfl (by decide) rfl rfl rfl ?_
  refine w_p h_m293 1 (pc' := 6) (L' := [(0, .ref 4)]) (st' := [.ref 4, .int (36 : Int32)]) rfl ?_
  refine w_cv (H.te (by decide) rfl).1 (pc' := 9) (L' := [(0, .ref 4)]) (rest := [.int (36 : Int32)]) (Ps := []) (L0 := [(0, .ref 4)]) h_m293 (z_at.mk 3 rfl rfl) (Or.inl ⟨rfl, rfl⟩) rfl rfl (by decide) (by decide) rfl rfl rfl rfl rfl rfl (by decide) rfl rfl rfl ?_
  refine w_p h_m298 3 (pc' := 7) (L' := [(0, .ref 4)]) (st' := [.ref 4]) rfl ?_
  refine w_gs H (pc' := 10) (L' := [(0, .ref 4)]) h_m298 (z_at.mk 3 rfl rfl) rfl (by decide) rfl rfl rfl rfl ?_
  refine w_p h_m298 1 (pc' := 14) (L' := []) (st' := [.int (0 : Int32)]) rfl ?_
  refine w_ri h_m298 (z_at.mk 1 rfl rfl) rfl rfl ?_
  show z_W 996 293 9 [(0, .ref 4)] [.int (0 : Int32), .int (36 : Int32)] m _
  refine w_p h_m293 1 (pc' := 10) (L' := [(0, .ref 4)]) (st' := [.int (36 : Int32)]) rfl ?_
  refine w_ri h_m293 (z_at.mk 1 rfl rfl) rfl rfl ?_
  show z_W 997 102 71 [(0, .ref 120), (1, .ref 4), (2, .int (0 : Int32)), (3, .int (5 : Int32)), (4, .int (26 : Int32)), (5, .int (26 : Int32))] [.int (36 : Int32), .int (26 : Int32)] m _
  refine w_p h_m102 3 (pc' := 77) (L' := [(0, .ref 120), (1, .ref 4), (2, .int (0 : Int32)), (3, .int (5 : Int32)), (4, .int (26 : Int32)), (5, .int (26 : Int32))]) (st' := [.int (26 : Int32), .ref 4]) rfl ?_
  refine w_cv (H.te (by decide) rfl).1 (pc' := 80) (L' := [(0, .ref 120), (1, .ref 4), (2, .int (0 : Int32)), (3, .int (5 : Int32)), (4, .int (26 : Int32)), (5, .int (26 : Int32))]) (rest := []) (Ps := [.int (26 : Int32)]) (L0 := [(0, .ref 4), (1, .int (26 : Int32))]) h_m102 (z_at.mk 3 rfl rfl) (Or.inl ⟨rfl, rfl⟩) rfl rfl (by decide) (by decide) rfl rfl rfl rfl rfl rfl (by decide) rfl rfl rfl ?_
  refine w_p h_m294 1 (pc' := 1) (L' := [(0, .ref 4), (1, .int (26 : Int32))]) (st' := [.ref 4]) rfl ?_
  refine w_cv (H.te (by decide) rfl).1 (pc' := 4) (L' := [(0, .ref 4), (1, .int (26 : Int32))]) (rest := []) (Ps := []) (L0 := [(0, .ref 4)]) h_m294 (z_at.mk 3 rfl rfl) (Or.inl ⟨rfl, rfl⟩) rfl rfl (by decide) (by decide) rfl rfl rfl rfl rfl rfl (by decide) rfl rfl rfl ?_
  refine w_p h_m299 3 (pc' := 7) (L' := [(0, .ref 4)]) (st' := [.ref 4]) rfl ?_
  refine w_gs H (pc' := 10) (L' := [(0, .ref 4)]) h_m299 (z_at.mk 3 rfl rfl) rfl (by decide) rfl rfl rfl rfl ?_
  refine w_p h_m299 3 (pc' := 18) (L' := []) (st' := [.int (1 : Int32)]) rfl ?_
  refine w_ri h_m299 (z_at.mk 1 rfl rfl) rfl rfl ?_
  show z_W 996 294 4 [(0, .ref 4), (1, .int (26 : Int32))] [.int (1 : Int32)] m _
  refine w_p h_m294 2 (pc' := 8) (L' := [(0, .ref 4), (1, .int (26 : Int32))]) (st' := [.ref 4]) rfl ?_
  refine w_gs H (pc' := 11) (L' := [(0, .ref 4), (1, .int (26 : Int32))]) h_m294 (z_at.mk 3 rfl rfl) rfl (by decide) rfl rfl rfl rfl ?_
  refine w_p h_m294 1 (pc' := 12) (L' := [(0, .ref 4), (1, .int (26 : Int32))]) (st' := [.int (26 : Int32), .ref 22]) rfl ?_
  refine w_cs (As := [.ref 22, .int (26 : Int32)]) (rest := []) (j := 308) (L0 := [(0, .ref 22), (1, .int (26 : Int32))]) (pc' := 15) (L' := [(0, .ref 4), (1, .int (26 : Int32))]) h_m294 (z_at.mk 3 rfl rfl) (Or.inl ⟨rfl, rfl⟩) rfl rfl rfl rfl rfl ?_
  refine w_p h_m308 2 (pc' := 2) (L' := [(0, .ref 22), (1, .int (26 : Int32))]) (st' := [.ref 22, .int (26 : Int32)]) rfl ?_
  refine w_lene H (x := (36 : Int32)) (pc' := 3) (L' := [(0, .ref 22), (1, .int (26 : Int32))]) h_m308 (z_at.mk 1 rfl rfl) (by decide) rfl (by decide) rfl rfl rfl ?_
  refine w_ci (pc' := 6) (L' := [(0, .ref 22), (1, .int (26 : Int32))]) h_m308 (z_at.mk 3 rfl rfl) rfl (z_cat_le 0 rfl (by decide)) ⟨by decide, by decide⟩ rfl rfl ?_
  refine w_p h_m308 2 (pc' := 8) (L' := [(0, .ref 22), (1, .int (26 : Int32))]) (st' := [.int (26 : Int32), .ref 22]) rfl ?_
  refine w_ae H (j := 26) (pc' := 9) (L' := [(0, .ref 22), (1, .int (26 : Int32))]) h_m308 (z_at.mk 1 rfl rfl) rfl rfl rfl (by decide) rfl (by decide) rfl rfl rfl ?_
  refine w_p h_m308 3 (pc' := 14) (L' := [(0, .ref 22), (1, .int (26 : Int32))]) (st' := [.int (115 : Int32)]) rfl ?_
  refine w_ri h_m308 (z_at.mk 1 rfl rfl) rfl rfl ?_
  show z_W 996 294 15 [(0, .ref 4), (1, .int (26 : Int32))] [.int (115 : Int32)] m _
  refine w_ri h_m294 (z_at.mk 1 rfl rfl) rfl rfl ?_
  show z_W 997 102 80 [(0, .ref 120), (1, .ref 4), (2, .int (0 : Int32)), (3, .int (5 : Int32)), (4, .int (26 : Int32)), (5, .int (26 : Int32))] [.int (115 : Int32)] m _
  refine w_p h_m102 6 (pc' := 59) (L' := [(0, .ref 120), (1, .ref 4), (2, .int (0 : Int32)), (3, .int (5 : Int32)), (4, .int (26 : Int32)), (5, .int (27 : Int32))]) (st' := [.ref 4, .int (27 : Int32)]) rfl ?_
  refine w_cv (H.te (by decide) rfl).1 (pc' := 62) (L' := [(0, .ref 120), (1, .ref 4), (2, .int (0 : Int32)), (3, .int (5 : Int32)), (4, .int (26 : Int32)), (5, .int (27 : Int32))]) (rest := [.int (27 : Int32)]) (Ps := []) (L0 := [(0, .ref 4)]) h_m102 (z_at.mk 3 rfl rfl) (Or.inl ⟨rfl, rfl⟩) rfl rfl (by decide) (by decide) rfl rfl rfl rfl rfl rfl (by decide) rfl rfl rfl ?_
  refine w_p h_m293 1 (pc' := 1) (L' := [(0, .ref 4)]) (st' := [.ref 4]) rfl ?_
  refine w_gs H (pc' := 4) (L' := [(0, .ref 4)]) h_m293 (z_at.mk 3 rfl rfl) rfl (by decide) rfl rfl rfl rfl ?_
  refine w_lene H (x := (36 : Int32)) (pc' := 5) (L' := [(0, .ref 4)]) h_m293 (z_at.mk 1 rfl rfl) (by decide) rfl (by decide) rfl rfl rfl ?_
  refine w_p h_m293 1 (pc' := 6) (L' := [(0, .ref 4)]) (st' := [.ref 4, .int (36 : Int32)]) rfl ?_
  refine w_cv (H.te (by decide) rfl).1 (pc' := 9) (L' := [(0, .ref 4)]) (rest := [.int (36 : Int32)]) (Ps := []) (L0 := [(0, .ref 4)]) h_m293 (z_at.mk 3 rfl rfl) (Or.inl ⟨rfl, rfl⟩) rfl rfl (by decide) (by decide) rfl rfl rfl rfl rfl rfl (by decide) rfl rfl rfl ?_
  refine w_p h_m298 3 (pc' := 7) (L' := [(0, .ref 4)]) (st' := [.ref 4]) rfl ?_
  refine w_gs H (pc' := 10) (L' := [(0, .ref 4)]) h_m298 (z_at.mk 3 rfl rfl) rfl (by decide) rfl rfl rfl rfl ?_
  refine w_p h_m298 1 (pc' := 14) (L' := []) (st' := [.int (0 : Int32)]) rfl ?_
  refine w_ri h_m298 (z_at.mk 1 rfl rfl) rfl rfl ?_
  show z_W 996 293 9 [(0, .ref 4)] [.int (0 : Int32), .int (36 : Int32)] m _
  refine w_p h_m293 1 (pc' := 10) (L' := [(0, .ref 4)]) (st' := [.int (36 : Int32)]) rfl ?_
  refine w_ri h_m293 (z_at.mk 1 rfl rfl) rfl rfl ?_
  show z_W 997 102 62 [(0, .ref 120), (1, .ref 4), (2, .int (0 : Int32)), (3, .int (5 : Int32)), (4, .int (26 : Int32)), (5, .int (27 : Int32))] [.int (36 : Int32), .int (27 : Int32)] m _
  refine w_p h_m102 3 (pc' := 68) (L' := [(0, .ref 120), (1, .ref 4), (2, .int (0 : Int32)), (3, .int (5 : Int32)), (4, .int (26 : Int32)), (5, .int (27 : Int32))]) (st' := [.ref 4, .int (27 : Int32)]) rfl ?_
  refine w_cv (H.te (by decide) rfl).1 (pc' := 71) (L' := [(0, .ref 120), (1, .ref 4), (2, .int (0 : Int32)), (3, .int (5 : Int32)), (4, .int (26 : Int32)), (5, .int (27 : Int32))]) (rest := [.int (27 : Int32)]) (Ps := []) (L0 := [(0, .ref 4)]) h_m102 (z_at.mk 3 rfl rfl) (Or.inl ⟨rfl, rfl⟩) rfl rfl (by decide) (by decide) rfl rfl rfl rfl rfl rfl (by decide) rfl rfl rfl ?_
  refine w_p h_m293 1 (pc' := 1) (L' := [(0, .ref 4)]) (st' := [.ref 4]) rfl ?_
  refine w_gs H (pc' := 4) (L' := [(0, .ref 4)]) h_m293 (z_at.mk 3 rfl rfl) rfl (by decide) rfl rfl rfl rfl ?_
  refine w_lene H (x := (36 : Int32)) (pc' := 5) (L' := [(0, .ref 4)]) h_m293 (z_at.mk 1 rfl rfl) (by decide) rfl (by decide) rfl rfl rfl ?_
  refine w_p h_m293 1 (pc' := 6) (L' := [(0, .ref 4)]) (st' := [.ref 4, .int (36 : Int32)]) rfl ?_
  refine w_cv (H.te (by decide) rfl).1 (pc' := 9) (L' := [(0, .ref 4)]) (rest := [.int (36 : Int32)]) (Ps := []) (L0 := [(0, .ref 4)]) h_m293 (z_at.mk 3 rfl rfl) (Or.inl ⟨rfl, rfl⟩) rfl rfl (by decide) (by decide) rfl rfl rfl rfl rfl rfl (by decide) rfl rfl rfl ?_
  refine w_p h_m298 3 (pc' := 7) (L' := [(0, .ref 4)]) (st' := [.ref 4]) rfl ?_
  refine w_gs H (pc' := 10) (L' := [(0, .ref 4)]) h_m298 (z_at.mk 3 rfl rfl) rfl (by decide) rfl rfl rfl rfl ?_
  refine w_p h_m298 1 (pc' := 14) (L' := []) (st' := [.int (0 : Int32)]) rfl ?_
  refine w_ri h_m298 (z_at.mk 1 rfl rfl) rfl rfl ?_
  show z_W 996 293 9 [(0, .ref 4)] [.int (0 : Int32), .int (36 : Int32)] m _
  refine w_p h_m293 1 (pc' := 10) (L' := [(0, .ref 4)]) (st' := [.int (36 : Int32)]) rfl ?_
  refine w_ri h_m293 (z_at.mk 1 rfl rfl) rfl rfl ?_
  show z_W 997 102 71 [(0, .ref 120), (1, .ref 4), (2, .int (0 : Int32)), (3, .int (5 : Int32)), (4, .int (26 : Int32)), (5, .int (27 : Int32))] [.int (36 : Int32), .int (27 : Int32)] m _
  refine w_p h_m102 3 (pc' := 77) (L' := [(0, .ref 120), (1, .ref 4), (2, .int (0 : Int32)), (3, .int (5 : Int32)), (4, .int (26 : Int32)), (5, .int (27 : Int32))]) (st' := [.int (27 : Int32), .ref 4]) rfl ?_
  refine w_cv (H.te (by decide) rfl).1 (pc' := 80) (L' := [(0, .ref 120), (1, .ref 4), (2, .int (0 : Int32)), (3, .int (5 : Int32)), (4, .int (26 : Int32)), (5, .int (27 : Int32))]) (rest := []) (Ps := [.int (27 : Int32)]) (L0 := [(0, .ref 4), (1, .int (27 : Int32))]) h_m102 (z_at.mk 3 rfl rfl) (Or.inl ⟨rfl, rfl⟩) rfl rfl (by decide) (by decide) rfl rfl rfl rfl rfl rfl (by decide) rfl rfl rfl ?_
  refine w_p h_m294 1 (pc' := 1) (L' := [(0, .ref 4), (1, .int (27 : Int32))]) (st' := [.ref 4]) rfl ?_
  refine w_cv (H.te (by decide) rfl).1 (pc' := 4) (L' := [(0, .ref 4), (1, .int (27 : Int32))]) (rest := []) (Ps := []) (L0 := [(0, .ref 4)]) h_m294 (z_at.mk 3 rfl rfl) (Or.inl ⟨rfl, rfl⟩) rfl rfl (by decide) (by decide) rfl rfl rfl rfl rfl rfl (by decide) rfl rfl rfl ?_
  refine w_p h_m299 3 (pc' := 7) (L' := [(0, .ref 4)]) (st' := [.ref 4]) rfl ?_
  refine w_gs H (pc' := 10) (L' := [(0, .ref 4)]) h_m299 (z_at.mk 3 rfl rfl) rfl (by decide) rfl rfl rfl rfl ?_
  refine w_p h_m299 3 (pc' := 18) (L' := []) (st' := [.int (1 : Int32)]) rfl ?_
  refine w_ri h_m299 (z_at.mk 1 rfl rfl) rfl rfl ?_
  show z_W 996 294 4 [(0, .ref 4), (1, .int (27 : Int32))] [.int (1 : Int32)] m _
  refine w_p h_m294 2 (pc' := 8) (L' := [(0, .ref 4), (1, .int (27 : Int32))]) (st' := [.ref 4]) rfl ?_
  refine w_gs H (pc' := 11) (L' := [(0, .ref 4), (1, .int (27 : Int32))]) h_m294 (z_at.mk 3 rfl rfl) rfl (by decide) rfl rfl rfl rfl ?_
  refine w_p h_m294 1 (pc' := 12) (L' := [(0, .ref 4), (1, .int (27 : Int32))]) (st' := [.int (27 : Int32), .ref 22]) rfl ?_
  refine w_cs (As := [.ref 22, .int (27 : Int32)]) (rest := []) (j := 308) (L0 := [(0, .ref 22), (1, .int (27 : Int32))]) (pc' := 15) (L' := [(0, .ref 4), (1, .int (27 : Int32))]) h_m294 (z_at.mk 3 rfl rfl) (Or.inl ⟨rfl, rfl⟩) rfl rfl rfl rfl rfl ?_
  refine w_p h_m308 2 (pc' := 2) (L' := [(0, .ref 22), (1, .int (27 : Int32))]) (st' := [.ref 22, .int (27 : Int32)]) rfl ?_
  refine w_lene H (x := (36 : Int32)) (pc' := 3) (L' := [(0, .ref 22), (1, .int (27 : Int32))]) h_m308 (z_at.mk 1 rfl rfl) (by decide) rfl (by decide) rfl rfl rfl ?_
  refine w_ci (pc' := 6) (L' := [(0, .ref 22), (1, .int (27 : Int32))]) h_m308 (z_at.mk 3 rfl rfl) rfl (z_cat_le 0 rfl (by decide)) ⟨by decide, by decide⟩ rfl rfl ?_
  refine w_p h_m308 2 (pc' := 8) (L' := [(0, .ref 22), (1, .int (27 : Int32))]) (st' := [.int (27 : Int32), .ref 22]) rfl ?_
  refine w_ae H (j := 27) (pc' := 9) (L' := [(0, .ref 22), (1, .int (27 : Int32))]) h_m308 (z_at.mk 1 rfl rfl) rfl rfl rfl (by decide) rfl (by decide) rfl rfl rfl ?_
  refine w_p h_m308 3 (pc' := 14) (L' := [(0, .ref 22), (1, .int (27 : Int32))]) (st' := [.int (112 : Int32)]) rfl ?_
  refine w_ri h_m308 (z_at.mk 1 rfl rfl) rfl rfl ?_
  show z_W 996 294 15 [(0, .ref 4), (1, .int (27 : Int32))] [.int (112 : Int32)] m _
  refine w_ri h_m294 (z_at.mk 1 rfl rfl) rfl rfl ?_
  show z_W 997 102 80 [(0, .ref 120), (1, .ref 4), (2, .int (0 : Int32)), (3, .int (5 : Int32)), (4, .int (26 : Int32)), (5, .int (27 : Int32))] [.int (112 : Int32)] m _
  refine w_p h_m102 6 (pc' := 59) (L' := [(0, .ref 120), (1, .ref 4), (2, .int (0 : Int32)), (3, .int (5 : Int32)), (4, .int (26 : Int32)), (5, .int (28 : Int32))]) (st' := [.ref 4, .int (28 : Int32)]) rfl ?_
  refine w_cv (H.te (by decide) rfl).1 (pc' := 62) (L' := [(0, .ref 120), (1, .ref 4), (2, .int (0 : Int32)), (3, .int (5 : Int32)), (4, .int (26 : Int32)), (5, .int (28 : Int32))]) (rest := [.int (28 : Int32)]) (Ps := []) (L0 := [(0, .ref 4)]) h_m102 (z_at.mk 3 rfl rfl) (Or.inl ⟨rfl, rfl⟩) rfl rfl (by decide) (by decide) rfl rfl rfl rfl rfl rfl (by decide) rfl rfl rfl ?_
  refine w_p h_m293 1 (pc' := 1) (L' := [(0, .ref 4)]) (st' := [.ref 4]) rfl ?_
  refine w_gs H (pc' := 4) (L' := [(0, .ref 4)]) h_m293 (z_at.mk 3 rfl rfl) rfl (by decide) rfl rfl rfl rfl ?_
  refine w_lene H (x := (36 : Int32)) (pc' := 5) (L' := [(0, .ref 4)]) h_m293 (z_at.mk 1 rfl rfl) (by decide) rfl (by decide) rfl rfl rfl ?_
  refine w_p h_m293 1 (pc' := 6) (L' := [(0, .ref 4)]) (st' := [.ref 4, .int (36 : Int32)]) rfl ?_
  refine w_cv (H.te (by decide) rfl).1 (pc' := 9) (L' := [(0, .ref 4)]) (rest := [.int (36 : Int32)]) (Ps := []) (L0 := [(0, .ref 4)]) h_m293 (z_at.mk 3 rfl rfl) (Or.inl ⟨rfl, rfl⟩) rfl rfl (by decide) (by decide) rfl rfl rfl rfl rfl rfl (by decide) rfl rfl rfl ?_
  refine w_p h_m298 3 (pc' := 7) (L' := [(0, .ref 4)]) (st' := [.ref 4]) rfl ?_
  refine w_gs H (pc' := 10) (L' := [(0, .ref 4)]) h_m298 (z_at.mk 3 rfl rfl) rfl (by decide) rfl rfl rfl rfl ?_
  refine w_p h_m298 1 (pc' := 14) (L' := []) (st' := [.int (0 : Int32)]) rfl ?_
  refine w_ri h_m298 (z_at.mk 1 rfl rfl) rfl rfl ?_
  show z_W 996 293 9 [(0, .ref 4)] [.int (0 : Int32), .int (36 : Int32)] m _
  refine w_p h_m293 1 (pc' := 10) (L' := [(0, .ref 4)]) (st' := [.int (36 : Int32)]) rfl ?_
  refine w_ri h_m293 (z_at.mk 1 rfl rfl) rfl rfl ?_
  show z_W 997 102 62 [(0, .ref 120), (1, .ref 4), (2, .int (0 : Int32)), (3, .int (5 : Int32)), (4, .int (26 : Int32)), (5, .int (28 : Int32))] [.int (36 : Int32), .int (28 : Int32)] m _
  refine w_p h_m102 3 (pc' := 68) (L' := [(0, .ref 120), (1, .ref 4), (2, .int (0 : Int32)), (3, .int (5 : Int32)), (4, .int (26 : Int32)), (5, .int (28 : Int32))]) (st' := [.ref 4, .int (28 : Int32)]) rfl ?_
  refine w_cv (H.te (by decide) rfl).1 (pc' := 71) (L' := [(0, .ref 120), (1, .ref 4), (2, .int (0 : Int32)), (3, .int (5 : Int32)), (4, .int (26 : Int32)), (5, .int (28 : Int32))]) (rest := [.int (28 : Int32)]) (Ps := []) (L0 := [(0, .ref 4)]) h_m102 (z_at.mk 3 rfl rfl) (Or.inl ⟨rfl, rfl⟩) rfl rfl (by decide) (by decide) rfl rfl rfl rfl rfl rfl (by decide) rfl rfl rfl ?_
  refine w_p h_m293 1 (pc' := 1) (L' := [(0, .ref 4)]) (st' := [.ref 4]) rfl ?_
  refine w_gs H (pc' := 4) (L' := [(0, .ref 4)]) h_m293 (z_at.mk 3 rfl rfl) rfl (by decide) rfl rfl rfl rfl ?_
  refine w_lene H (x := (36 : Int32)) (pc' := 5) (L' := [(0, .ref 4)]) h_m293 (z_at.mk 1 rfl rfl) (by decide) rfl (by decide) rfl rfl rfl ?_
  refine w_p h_m293 1 (pc' := 6) (L' := [(0, .ref 4)]) (st' := [.ref 4, .int (36 : Int32)]) rfl ?_
  refine w_cv (H.te (by decide) rfl).1 (pc' := 9) (L' := [(0, .ref 4)]) (rest := [.int (36 : Int32)]) (Ps := []) (L0 := [(0, .ref 4)]) h_m293 (z_at.mk 3 rfl rfl) (Or.inl ⟨rfl, rfl⟩) rfl rfl (by decide) (by decide) rfl rfl rfl rfl rfl rfl (by decide) rfl rfl rfl ?_
  refine w_p h_m298 3 (pc' := 7) (L' := [(0, .ref 4)]) (st' := [.ref 4]) rfl ?_
  refine w_gs H (pc' := 10) (L' := [(0, .ref 4)]) h_m298 (z_at.mk 3 rfl rfl) rfl (by decide) rfl rfl rfl rfl ?_
  refine w_p h_m298 1 (pc' := 14) (L' := []) (st' := [.int (0 : Int32)]) rfl ?_
  refine w_ri h_m298 (z_at.mk 1 rfl rfl) rfl rfl ?_
  show z_W 996 293 9 [(0, .ref 4)] [.int (0 : Int32), .int (36 : Int32)] m _
  refine w_p h_m293 1 (pc' := 10) (L' := [(0, .ref 4)]) (st' := [.int (36 : Int32)]) rfl ?_
  refine w_ri h_m293 (z_at.mk 1 rfl rfl) rfl rfl ?_
  show z_W 997 102 71 [(0, .ref 120), (1, .ref 4), (2, .int (0 : Int32)), (3, .int (5 : Int32)), (4, .int (26 : Int32)), (5, .int (28 : Int32))] [.int (36 : Int32), .int (28 : Int32)] m _
  refine w_p h_m102 3 (pc' := 77) (L' := [(0, .ref 120), (1, .ref 4), (2, .int (0 : Int32)), (3, .int (5 : Int32)), (4, .int (26 : Int32)), (5, .int (28 : Int32))]) (st' := [.int (28 : Int32), .ref 4]) rfl ?_
  refine w_cv (H.te (by decide) rfl).1 (pc' := 80) (L' := [(0, .ref 120), (1, .ref 4), (2, .int (0 : Int32)), (3, .int (5 : Int32)), (4, .int (26 : Int32)), (5, .int (28 : Int32))]) (rest := []) (Ps := [.int (28 : Int32)]) (L0 := [(0, .ref 4), (1, .int (28 : Int32))]) h_m102 (z_at.mk 3 rfl rfl) (Or.inl ⟨rfl, rfl⟩) rfl rfl (by decide) (by decide) rfl rfl rfl rfl rfl rfl (by decide) rfl rfl rfl ?_
  refine w_p h_m294 1 (pc' := 1) (L' := [(0, .ref 4), (1, .int (28 : Int32))]) (st' := [.ref 4]) rfl ?_
  refine w_cv (H.te (by decide) rfl).1 (pc' := 4) (L' := [(0, .ref 4), (1, .int (28 : Int32))]) (rest := []) (Ps := []) (L0 := [(0, .ref 4)]) h_m294 (z_at.mk 3 rfl rfl) (Or.inl ⟨rfl, rfl⟩) rfl rfl (by decide) (by decide) rfl rfl rfl rfl rfl rfl (by decide) rfl rfl rfl ?_
  refine w_p h_m299 3 (pc' := 7) (L' := [(0, .ref 4)]) (st' := [.ref 4]) rfl ?_
  refine w_gs H (pc' := 10) (L' := [(0, .ref 4)]) h_m299 (z_at.mk 3 rfl rfl) rfl (by decide) rfl rfl rfl rfl ?_
  refine w_p h_m299 3 (pc' := 18) (L' := []) (st' := [.int (1 : Int32)]) rfl ?_
  refine w_ri h_m299 (z_at.mk 1 rfl rfl) rfl rfl ?_
  show z_W 996 294 4 [(0, .ref 4), (1, .int (28 : Int32))] [.int (1 : Int32)] m _
  refine w_p h_m294 2 (pc' := 8) (L' := [(0, .ref 4), (1, .int (28 : Int32))]) (st' := [.ref 4]) rfl ?_
  refine w_gs H (pc' := 11) (L' := [(0, .ref 4), (1, .int (28 : Int32))]) h_m294 (z_at.mk 3 rfl rfl) rfl (by decide) rfl rfl rfl rfl ?_
  refine w_p h_m294 1 (pc' := 12) (L' := [(0, .ref 4), (1, .int (28 : Int32))]) (st' := [.int (28 : Int32), .ref 22]) rfl ?_
  refine w_cs (As := [.ref 22, .int (28 : Int32)]) (rest := []) (j := 308) (L0 := [(0, .ref 22), (1, .int (28 : Int32))]) (pc' := 15) (L' := [(0, .ref 4), (1, .int (28 : Int32))]) h_m294 (z_at.mk 3 rfl rfl) (Or.inl ⟨rfl, rfl⟩) rfl rfl rfl rfl rfl ?_
  refine w_p h_m308 2 (pc' := 2) (L' := [(0, .ref 22), (1, .int (28 : Int32))]) (st' := [.ref 22, .int (28 : Int32)]) rfl ?_
  refine w_lene H (x := (36 : Int32)) (pc' := 3) (L' := [(0, .ref 22), (1, .int (28 : Int32))]) h_m308 (z_at.mk 1 rfl rfl) (by decide) rfl (by decide) rfl rfl rfl ?_
  refine w_ci (pc' := 6) (L' := [(0, .ref 22), (1, .int (28 : Int32))]) h_m308 (z_at.mk 3 rfl rfl) rfl (z_cat_le 0 rfl (by decide)) ⟨by decide, by decide⟩ rfl rfl ?_
  refine w_p h_m308 2 (pc' := 8) (L' := [(0, .ref 22), (1, .int (28 : Int32))]) (st' := [.int (28 : Int32), .ref 22]) rfl ?_
  refine w_ae H (j := 28) (pc' := 9) (L' := [(0, .ref 22), (1, .int (28 : Int32))]) h_m308 (z_at.mk 1 rfl rfl) rfl rfl rfl (by decide) rfl (by decide) rfl rfl rfl ?_
  refine w_p h_m308 3 (pc' := 14) (L' := [(0, .ref 22), (1, .int (28 : Int32))]) (st' := [.int (97 : Int32)]) rfl ?_
  refine w_ri h_m308 (z_at.mk 1 rfl rfl) rfl rfl ?_
  show z_W 996 294 15 [(0, .ref 4), (1, .int (28 : Int32))] [.int (97 : Int32)] m _
  refine w_ri h_m294 (z_at.mk 1 rfl rfl) rfl rfl ?_
  show z_W 997 102 80 [(0, .ref 120), (1, .ref 4), (2, .int (0 : Int32)), (3, .int (5 : Int32)), (4, .int (26 : Int32)), (5, .int (28 : Int32))] [.int (97 : Int32)] m _
  refine w_p h_m102 6 (pc' := 59) (L' := [(0, .ref 120), (1, .ref 4), (2, .int (0 : Int32)), (3, .int (5 : Int32)), (4, .int (26 : Int32)), (5, .int (29 : Int32))]) (st' := [.ref 4, .int (29 : Int32)]) rfl ?_
  refine w_cv (H.te (by decide) rfl).1 (pc' := 62) (L' := [(0, .ref 120), (1, .ref 4), (2, .int (0 : Int32)), (3, .int (5 : Int32)), (4, .int (26 : Int32)), (5, .int (29 : Int32))]) (rest := [.int (29 : Int32)]) (Ps := []) (L0 := [(0, .ref 4)]) h_m102 (z_at.mk 3 rfl rfl) (Or.inl ⟨rfl, rfl⟩) rfl rfl (by decide) (by decide) rfl rfl rfl rfl rfl rfl (by decide) rfl rfl rfl ?_
  refine w_p h_m293 1 (pc' := 1) (L' := [(0, .ref 4)]) (st' := [.ref 4]) rfl ?_
  refine w_gs H (pc' := 4) (L' := [(0, .ref 4)]) h_m293 (z_at.mk 3 rfl rfl) rfl (by decide) rfl rfl rfl rfl ?_
  refine w_lene H (x := (36 : Int32)) (pc' := 5) (L' := [(0, .ref 4)]) h_m293 (z_at.mk 1 rfl rfl) (by decide) rfl (by decide) rfl rfl rfl ?_
  refine w_p h_m293 1 (pc' := 6) (L' := [(0, .ref 4)]) (st' := [.ref 4, .int (36 : Int32)]) rfl ?_
  refine w_cv (H.te (by decide) rfl).1 (pc' := 9) (L' := [(0, .ref 4)]) (rest := [.int (36 : Int32)]) (Ps := []) (L0 := [(0, .ref 4)]) h_m293 (z_at.mk 3 rfl rfl) (Or.inl ⟨rfl, rfl⟩) rfl rfl (by decide) (by decide) rfl rfl rfl rfl rfl rfl (by decide) rfl rfl rfl ?_
  refine w_p h_m298 3 (pc' := 7) (L' := [(0, .ref 4)]) (st' := [.ref 4]) rfl ?_
  refine w_gs H (pc' := 10) (L' := [(0, .ref 4)]) h_m298 (z_at.mk 3 rfl rfl) rfl (by decide) rfl rfl rfl rfl ?_
  refine w_p h_m298 1 (pc' := 14) (L' := []) (st' := [.int (0 : Int32)]) rfl ?_
  refine w_ri h_m298 (z_at.mk 1 rfl rfl) rfl rfl ?_
  show z_W 996 293 9 [(0, .ref 4)] [.int (0 : Int32), .int (36 : Int32)] m _
  refine w_p h_m293 1 (pc' := 10) (L' := [(0, .ref 4)]) (st' := [.int (36 : Int32)]) rfl ?_
  refine w_ri h_m293 (z_at.mk 1 rfl rfl) rfl rfl ?_
  show z_W 997 102 62 [(0, .ref 120), (1, .ref 4), (2, .int (0 : Int32)), (3, .int (5 : Int32)), (4, .int (26 : Int32)), (5, .int (29 : Int32))] [.int (36 : Int32), .int (29 : Int32)] m _
  refine w_p h_m102 3 (pc' := 68) (L' := [(0, .ref 120), (1, .ref 4), (2, .int (0 : Int32)), (3, .int (5 : Int32)), (4, .int (26 : Int32)), (5, .int (29 : Int32))]) (st' := [.ref 4, .int (29 : Int32)]) rfl ?_
  refine w_cv (H.te (by decide) rfl).1 (pc' := 71) (L' := [(0, .ref 120), (1, .ref 4), (2, .int (0 : Int32)), (3, .int (5 : Int32)), (4, .int (26 : Int32)), (5, .int (29 : Int32))]) (rest := [.int (29 : Int32)]) (Ps := []) (L0 := [(0, .ref 4)]) h_m102 (z_at.mk 3 rfl rfl) (Or.inl ⟨rfl, rfl⟩) rfl rfl (by decide) (by decide) rfl rfl rfl rfl rfl rfl (by decide) rfl rfl rfl ?_
  refine w_p h_m293 1 (pc' := 1) (L' := [(0, .ref 4)]) (st' := [.ref 4]) rfl ?_
  refine w_gs H (pc' := 4) (L' := [(0, .ref 4)]) h_m293 (z_at.mk 3 rfl rfl) rfl (by decide) rfl rfl rfl rfl ?_
  refine w_lene H (x := (36 : Int32)) (pc' := 5) (L' := [(0, .ref 4)]) h_m293 (z_at.mk 1 rfl rfl) (by decide) rfl (by decide) rfl rfl rfl ?_
  refine w_p h_m293 1 (pc' := 6) (L' := [(0, .ref 4)]) (st' := [.ref 4, .int (36 : Int32)]) rfl ?_
  refine w_cv (H.te (by decide) rfl).1 (pc' := 9) (L' := [(0, .ref 4)]) (rest := [.int (36 : Int32)]) (Ps := []) (L0 := [(0, .ref 4)]) h_m293 (z_at.mk 3 rfl rfl) (Or.inl ⟨rfl, rfl⟩) rfl rfl (by decide) (by decide) rfl rfl rfl rfl rfl rfl (by decide) rfl rfl rfl ?_
  refine w_p h_m298 3 (pc' := 7) (L' := [(0, .ref 4)]) (st' := [.ref 4]) rfl ?_
  refine w_gs H (pc' := 10) (L' := [(0, .ref 4)]) h_m298 (z_at.mk 3 rfl rfl) rfl (by decide) rfl rfl rfl rfl ?_
  refine w_p h_m298 1 (pc' := 14) (L' := []) (st' := [.int (0 : Int32)]) rfl ?_
  refine w_ri h_m298 (z_at.mk 1 rfl rfl) rfl rfl ?_
  show z_W 996 293 9 [(0, .ref 4)] [.int (0 : Int32), .int (36 : Int32)] m _
  refine w_p h_m293 1 (pc' := 10) (L' := [(0, .ref 4)]) (st' := [.int (36 : Int32)]) rfl ?_
  refine w_ri h_m293 (z_at.mk 1 rfl rfl) rfl rfl ?_
  show z_W 997 102 71 [(0, .ref 120), (1, .ref 4), (2, .int (0 : Int32)), (3, .int (5 : Int32)), (4, .int (26 : Int32)), (5, .int (29 : Int32))] [.int (36 : Int32), .int (29 : Int32)] m _
  refine w_p h_m102 3 (pc' := 77) (L' := [(0, .ref 120), (1, .ref 4), (2, .int (0 : Int32)), (3, .int (5 : Int32)), (4, .int (26 : Int32)), (5, .int (29 : Int32))]) (st' := [.int (29 : Int32), .ref 4]) rfl ?_
  refine w_cv (H.te (by decide) rfl).1 (pc' := 80) (L' := [(0, .ref 120), (1, .ref 4), (2, .int (0 : Int32)), (3, .int (5 : Int32)), (4, .int (26 : Int32)), (5, .int (29 : Int32))]) (rest := []) (Ps := [.int (29 : Int32)]) (L0 := [(0, .ref 4), (1, .int (29 : Int32))]) h_m102 (z_at.mk 3 rfl rfl) (Or.inl ⟨rfl, rfl⟩) rfl rfl (by decide) (by decide) rfl rfl rfl rfl rfl rfl (by decide) rfl rfl rfl ?_
  refine w_p h_m294 1 (pc' := 1) (L' := [(0, .ref 4), (1, .int (29 : Int32))]) (st' := [.ref 4]) rfl ?_
  refine w_cv (H.te (by decide) rfl).1 (pc' := 4) (L' := [(0, .ref 4), (1, .int (29 : Int32))]) (rest := []) (Ps := []) (L0 := [(0, .ref 4)]) h_m294 (z_at.mk 3 rfl rfl) (Or.inl ⟨rfl, rfl⟩) rfl rfl (by decide) (by decide) rfl rfl rfl rfl rfl rfl (by decide) rfl rfl rfl ?_
  refine w_p h_m299 3 (pc' := 7) (L' := [(0, .ref 4)]) (st' := [.ref 4]) rfl ?_
  refine w_gs H (pc' := 10) (L' := [(0, .ref 4)]) h_m299 (z_at.mk 3 rfl rfl) rfl (by decide) rfl rfl rfl rfl ?_
  refine w_p h_m299 3 (pc' := 18) (L' := []) (st' := [.int (1 : Int32)]) rfl ?_
  refine w_ri h_m299 (z_at.mk 1 rfl rfl) rfl rfl ?_
  show z_W 996 294 4 [(0, .ref 4), (1, .int (29 : Int32))] [.int (1 : Int32)] m _
  refine w_p h_m294 2 (pc' := 8) (L' := [(0, .ref 4), (1, .int (29 : Int32))]) (st' := [.ref 4]) rfl ?_
  refine w_gs H (pc' := 11) (L' := [(0, .ref 4), (1, .int (29 : Int32))]) h_m294 (z_at.mk 3 rfl rfl) rfl (by decide) rfl rfl rfl rfl ?_
  refine w_p h_m294 1 (pc' := 12) (L' := [(0, .ref 4), (1, .int (29 : Int32))]) (st' := [.int (29 : Int32), .ref 22]) rfl ?_
  refine w_cs (As := [.ref 22, .int (29 : Int32)]) (rest := []) (j := 308) (L0 := [(0, .ref 22), (1, .int (29 : Int32))]) (pc' := 15) (L' := [(0, .ref 4), (1, .int (29 : Int32))]) h_m294 (z_at.mk 3 rfl rfl) (Or.inl ⟨rfl, rfl⟩) rfl rfl rfl rfl rfl ?_
  refine w_p h_m308 2 (pc' := 2) (L' := [(0, .ref 22), (1, .int (29 : Int32))]) (st' := [.ref 22, .int (29 : Int32)]) rfl ?_
  refine w_lene H (x := (36 : Int32)) (pc' := 3) (L' := [(0, .ref 22), (1, .int (29 : Int32))]) h_m308 (z_at.mk 1 rfl rfl) (by decide) rfl (by decide) rfl rfl rfl ?_
  refine w_ci (pc' := 6) (L' := [(0, .ref 22), (1, .int (29 : Int32))]) h_m308 (z_at.mk 3 rfl rfl) rfl (z_cat_le 0 rfl (by decide)) ⟨by decide, by decide⟩ rfl rfl ?_
  refine w_p h_m308 2 (pc' := 8) (L' := [(0, .ref 22), (1, .int (29 : Int32))]) (st' := [.int (29 : Int32), .ref 22]) rfl ?_
  refine w_ae H (j := 29) (pc' := 9) (L' := [(0, .ref 22), (1, .int (29 : Int32))]) h_m308 (z_at.mk 1 rfl rfl) rfl rfl rfl (by decide) rfl (by decide) rfl rfl rfl ?_
  refine w_p h_m308 3 (pc' := 14) (L' := [(0, .ref 22), (1, .int (29 : Int32))]) (st' := [.int (110 : Int32)]) rfl ?_
  refine w_ri h_m308 (z_at.mk 1 rfl rfl) rfl rfl ?_
  show z_W 996 294 15 [(0, .ref 4), (1, .int (29 : Int32))] [.int (110 : Int32)] m _
  refine w_ri h_m294 (z_at.mk 1 rfl rfl) rfl rfl ?_
  show z_W 997 102 80 [(0, .ref 120), (1, .ref 4), (2, .int (0 : Int32)), (3, .int (5 : Int32)), (4, .int (26 : Int32)), (5, .int (29 : Int32))] [.int (110 : Int32)] m _
  refine w_p h_m102 6 (pc' := 59) (L' := [(0, .ref 120), (1, .ref 4), (2, .int (0 : Int32)), (3, .int (5 : Int32)), (4, .int (26 : Int32)), (5, .int (30 : Int32))]) (st' := [.ref 4, .int (30 : Int32)]) rfl ?_
  refine w_cv (H.te (by decide) rfl).1 (pc' := 62) (L' := [(0, .ref 120), (1, .ref 4), (2, .int (0 : Int32)), (3, .int (5 : Int32)), (4, .int (26 : Int32)), (5, .int (30 : Int32))]) (rest := [.int (30 : Int32)]) (Ps := []) (L0 := [(0, .ref 4)]) h_m102 (z_at.mk 3 rfl rfl) (Or.inl ⟨rfl, rfl⟩) rfl rfl (by decide) (by decide) rfl rfl rfl rfl rfl rfl (by decide) rfl rfl rfl ?_
  refine w_p h_m293 1 (pc' := 1) (L' := [(0, .ref 4)]) (st' := [.ref 4]) rfl ?_
  refine w_gs H (pc' := 4) (L' := [(0, .ref 4)]) h_m293 (z_at.mk 3 rfl rfl) rfl (by decide) rfl rfl rfl rfl ?_
  refine w_lene H (x := (36 : Int32)) (pc' := 5) (L' := [(0, .ref 4)]) h_m293 (z_at.mk 1 rfl rfl) (by decide) rfl (by decide) rfl rfl rfl ?_
  refine w_p h_m293 1 (pc' := 6) (L' := [(0, .ref 4)]) (st' := [.ref 4, .int (36 : Int32)]) rfl ?_
  refine w_cv (H.te (by decide) rfl).1 (pc' := 9) (L' := [(0, .ref 4)]) (rest := [.int (36 : Int32)]) (Ps := []) (L0 := [(0, .ref 4)]) h_m293 (z_at.mk 3 rfl rfl) (Or.inl ⟨rfl, rfl⟩) rfl rfl (by decide) (by decide) rfl rfl rfl rfl rfl rfl (by decide) rfl rfl rfl ?_
  refine w_p h_m298 3 (pc' := 7) (L' := [(0, .ref 4)]) (st' := [.ref 4]) rfl ?_
  refine w_gs H (pc' := 10) (L' := [(0, .ref 4)]) h_m298 (z_at.mk 3 rfl rfl) rfl (by decide) rfl rfl rfl rfl ?_
  refine w_p h_m298 1 (pc' := 14) (L' := []) (st' := [.int (0 : Int32)]) rfl ?_
  refine w_ri h_m298 (z_at.mk 1 rfl rfl) rfl rfl ?_
  show z_W 996 293 9 [(0, .ref 4)] [.int (0 : Int32), .int (36 : Int32)] m _
  refine w_p h_m293 1 (pc' := 10) (L' := [(0, .ref 4)]) (st' := [.int (36 : Int32)]) rfl ?_
  refine w_ri h_m293 (z_at.mk 1 rfl rfl) rfl rfl ?_
  show z_W 997 102 62 [(0, .ref 120), (1, .ref 4), (2, .int (0 : Int32)), (3, .int (5 : Int32)), (4, .int (26 : Int32)), (5, .int (30 : Int32))] [.int (36 : Int32), .int (30 : Int32)] m _
  refine w_p h_m102 3 (pc' := 68) (L' := [(0, .ref 120), (1, .ref 4), (2, .int (0 : Int32)), (3, .int (5 : Int32)), (4, .int (26 : Int32)), (5, .int (30 : Int32))]) (st' := [.ref 4, .int (30 : Int32)]) rfl ?_
  refine w_cv (H.te (by decide) rfl).1 (pc' := 71) (L' := [(0, .ref 120), (1, .ref 4), (2, .int (0 : Int32)), (3, .int (5 : Int32)), (4, .int (26 : Int32)), (5, .int (30 : Int32))]) (rest := [.int (30 : Int32)]) (Ps := []) (L0 := [(0, .ref 4)]) h_m102 (z_at.mk 3 rfl rfl) (Or.inl ⟨rfl, rfl⟩) rfl rfl (by decide) (by decide) rfl rfl rfl rfl rfl rfl (by decide) rfl rfl rfl ?_
  refine w_p h_m293 1 (pc' := 1) (L' := [(0, .ref 4)]) (st' := [.ref 4]) rfl ?_
  refine w_gs H (pc' := 4) (L' := [(0, .ref 4)]) h_m293 (z_at.mk 3 rfl rfl) rfl (by decide) rfl rfl rfl rfl ?_
  refine w_lene H (x := (36 : Int32)) (pc' := 5) (L' := [(0, .ref 4)]) h_m293 (z_at.mk 1 rfl rfl) (by decide) rfl (by decide) rfl rfl rfl ?_
  refine w_p h_m293 1 (pc' := 6) (L' := [(0, .ref 4)]) (st' := [.ref 4, .int (36 : Int32)]) rfl ?_
  refine w_cv (H.te (by decide) rfl).1 (pc' := 9) (L' := [(0, .ref 4)]) (rest := [.int (36 : Int32)]) (Ps := []) (L0 := [(0, .ref 4)]) h_m293 (z_at.mk 3 rfl rfl) (Or.inl ⟨rfl, rfl⟩) rfl rfl (by decide) (by decide) rfl rfl rfl rfl rfl rfl (by decide) rfl rfl rfl ?_
  refine w_p h_m298 3 (pc' := 7) (L' := [(0, .ref 4)]) (st' := [.ref 4]) rfl ?_
  refine w_gs H (pc' := 10) (L' := [(0, .ref 4)]) h_m298 (z_at.mk 3 rfl rfl) rfl (by decide) rfl rfl rfl rfl ?_
  refine w_p h_m298 1 (pc' := 14) (L' := []) (st' := [.int (0 : Int32)]) rfl ?_
  refine w_ri h_m298 (z_at.mk 1 rfl rfl) rfl rfl ?_
  show z_W 996 293 9 [(0, .ref 4)] [.int (0 : Int32), .int (36 : Int32)] m _
  refine w_p h_m293 1 (pc' := 10) (L' := [(0, .ref 4)]) (st' := [.int (36 : Int32)]) rfl ?_
  refine w_ri h_m293 (z_at.mk 1 rfl rfl) rfl rfl ?_
  show z_W 997 102 71 [(0, .ref 120), (1, .ref 4), (2, .int (0 : Int32)), (3, .int (5 : Int32)), (4, .int (26 : Int32)), (5, .int (30 : Int32))] [.int (36 : Int32), .int (30 : Int32)] m _
  refine w_p h_m102 3 (pc' := 77) (L' := [(0, .ref 120), (1, .ref 4), (2, .int (0 : Int32)), (3, .int (5 : Int32)), (4, .int (26 : Int32)), (5, .int (30 : Int32))]) (st' := [.int (30 : Int32), .ref 4]) rfl ?_
  refine w_cv (H.te (by decide) rfl).1 (pc' := 80) (L' := [(0, .ref 120), (1, .ref 4), (2, .int (0 : Int32)), (3, .int (5 : Int32)), (4, .int (26 : Int32)), (5, .int (30 : Int32))]) (rest := []) (Ps := [.int (30 : Int32)]) (L0 := [(0, .ref 4), (1, .int (30 : Int32))]) h_m102 (z_at.mk 3 rfl rfl) (Or.inl ⟨rfl, rfl⟩) rfl rfl (by decide) (by decide) rfl rfl rfl rfl rfl rfl (by decide) rfl rfl rfl ?_
  refine w_p h_m294 1 (pc' := 1) (L' := [(0, .ref 4), (1, .int (30 : Int32))]) (st' := [.ref 4]) rfl ?_
  refine w_cv (H.te (by decide) rfl).1 (pc' := 4) (L' := [(0, .ref 4), (1, .int (30 : Int32))]) (rest := []) (Ps := []) (L0 := [(0, .ref 4)]) h_m294 (z_at.mk 3 rfl rfl) (Or.inl ⟨rfl, rfl⟩) rfl rfl (by decide) (by decide) rfl rfl rfl rfl rfl rfl (by decide) rfl rfl rfl ?_
  refine w_p h_m299 3 (pc' := 7) (L' := [(0, .ref 4)]) (st' := [.ref 4]) rfl ?_
  refine w_gs H (pc' := 10) (L' := [(0, .ref 4)]) h_m299 (z_at.mk 3 rfl rfl) rfl (by decide) rfl rfl rfl rfl ?_
  refine w_p h_m299 3 (pc' := 18) (L' := []) (st' := [.int (1 : Int32)]) rfl ?_
  refine w_ri h_m299 (z_at.mk 1 rfl rfl) rfl rfl ?_
  show z_W 996 294 4 [(0, .ref 4), (1, .int (30 : Int32))] [.int (1 : Int32)] m _
  refine w_p h_m294 2 (pc' := 8) (L' := [(0, .ref 4), (1, .int (30 : Int32))]) (st' := [.ref 4]) rfl ?_
  refine w_gs H (pc' := 11) (L' := [(0, .ref 4), (1, .int (30 : Int32))]) h_m294 (z_at.mk 3 rfl rfl) rfl (by decide) rfl rfl rfl rfl ?_
  refine w_p h_m294 1 (pc' := 12) (L' := [(0, .ref 4), (1, .int (30 : Int32))]) (st' := [.int (30 : Int32), .ref 22]) rfl ?_
  refine w_cs (As := [.ref 22, .int (30 : Int32)]) (rest := []) (j := 308) (L0 := [(0, .ref 22), (1, .int (30 : Int32))]) (pc' := 15) (L' := [(0, .ref 4), (1, .int (30 : Int32))]) h_m294 (z_at.mk 3 rfl rfl) (Or.inl ⟨rfl, rfl⟩) rfl rfl rfl rfl rfl ?_
  refine w_p h_m308 2 (pc' := 2) (L' := [(0, .ref 22), (1, .int (30 : Int32))]) (st' := [.ref 22, .int (30 : Int32)]) rfl ?_
  refine w_lene H (x := (36 : Int32)) (pc' := 3) (L' := [(0, .ref 22), (1, .int (30 : Int32))]) h_m308 (z_at.mk 1 rfl rfl) (by decide) rfl (by decide) rfl rfl rfl ?_
  refine w_ci (pc' := 6) (L' := [(0, .ref 22), (1, .int (30 : Int32))]) h_m308 (z_at.mk 3 rfl rfl) rfl (z_cat_le 0 rfl (by decide)) ⟨by decide, by decide⟩ rfl rfl ?_
  refine w_p h_m308 2 (pc' := 8) (L' := [(0, .ref 22), (1, .int (30 : Int32))]) (st' := [.int (30 : Int32), .ref 22]) rfl ?_
  refine w_ae H (j := 30) (pc' := 9) (L' := [(0, .ref 22), (1, .int (30 : Int32))]) h_m308 (z_at.mk 1 rfl rfl) rfl rfl rfl (by decide) rfl (by decide) rfl rfl rfl ?_
  refine w_p h_m308 3 (pc' := 14) (L' := [(0, .ref 22), (1, .int (30 : Int32))]) (st' := [.int (32 : Int32)]) rfl ?_
  refine w_ri h_m308 (z_at.mk 1 rfl rfl) rfl rfl ?_
  show z_W 996 294 15 [(0, .ref 4), (1, .int (30 : Int32))] [.int (32 : Int32)] m _
  refine w_ri h_m294 (z_at.mk 1 rfl rfl) rfl rfl ?_
  show z_W 997 102 80 [(0, .ref 120), (1, .ref 4), (2, .int (0 : Int32)), (3, .int (5 : Int32)), (4, .int (26 : Int32)), (5, .int (30 : Int32))] [.int (32 : Int32)] m _
  refine w_p h_m102 7 (pc' := 92) (L' := [(0, .ref 120), (1, .ref 4), (2, .int (0 : Int32)), (3, .int (5 : Int32)), (4, .int (26 : Int32)), (5, .int (30 : Int32))]) (st' := [.int (0 : Int32), .int (30 : Int32), .int (26 : Int32), .ref 4, .ref 120]) rfl ?_
  refine w_cv (H.t rfl) (pc' := 95) (L' := [(0, .ref 120), (1, .ref 4), (2, .int (0 : Int32)), (3, .int (5 : Int32)), (4, .int (26 : Int32)), (5, .int (30 : Int32))]) (rest := []) (Ps := [.ref 4, .int (26 : Int32), .int (30 : Int32), .int (0 : Int32)]) (L0 := [(0, .ref 120), (1, .ref 4), (2, .int (26 : Int32)), (3, .int (30 : Int32)), (4, .int (0 : Int32))]) h_m102 (z_at.mk 3 rfl rfl) (Or.inl ⟨rfl, rfl⟩) rfl rfl (by decide) (by decide) rfl rfl rfl rfl rfl rfl (by decide) rfl rfl rfl ?_
  refine w_p h_m103 1 (pc' := 1) (L' := [(0, .ref 120), (1, .ref 4), (2, .int (26 : Int32)), (3, .int (30 : Int32)), (4, .int (0 : Int32))]) (st' := [.ref 120]) rfl ?_
  refine w_cv (H.t rfl) (pc' := 4) (L' := [(0, .ref 120), (1, .ref 4), (2, .int (26 : Int32)), (3, .int (30 : Int32)), (4, .int (0 : Int32))]) (rest := []) (Ps := []) (L0 := [(0, .ref 120)]) h_m103 (z_at.mk 3 rfl rfl) (Or.inl ⟨rfl, rfl⟩) rfl rfl (by decide) (by decide) rfl rfl rfl rfl rfl rfl (by decide) rfl rfl rfl ?_
  refine w_p h_m93 1 (pc' := 1) (L' := [(0, .ref 120)]) (st' := [.ref 120]) rfl ?_
  refine w_gf H (pc' := 4) (L' := [(0, .ref 120)]) h_m93 (z_at.mk 3 rfl rfl) rfl (u := .int (-1 : Int32)) rfl rfl rfl ?_
  refine w_p h_m93 4 (pc' := 13) (L' := []) (st' := [.int (1 : Int32)]) rfl ?_
  refine w_ri h_m93 (z_at.mk 1 rfl rfl) rfl rfl ?_
  show z_W 996 103 4 [(0, .ref 120), (1, .ref 4), (2, .int (26 : Int32)), (3, .int (30 : Int32)), (4, .int (0 : Int32))] [.int (1 : Int32)] m _
  refine w_p h_m103 4 (pc' := 13) (L' := [(0, .ref 120), (1, .ref 4), (2, .int (26 : Int32)), (3, .int (30 : Int32)), (4, .int (0 : Int32))]) (st' := [.ref 120]) rfl ?_
  refine w_gf H (pc' := 16) (L' := [(0, .ref 120), (1, .ref 4), (2, .int (26 : Int32)), (3, .int (30 : Int32)), (4, .int (0 : Int32))]) h_m103 (z_at.mk 3 rfl rfl) rfl (u := .int (0 : Int32)) rfl rfl rfl ?_
  refine w_p h_m103 3 (pc' := 23) (L' := [(0, .ref 120), (1, .ref 4), (2, .int (26 : Int32)), (3, .int (30 : Int32)), (4, .int (0 : Int32))]) (st' := [.ref 120]) rfl ?_
  refine w_gf H (pc' := 26) (L' := [(0, .ref 120), (1, .ref 4), (2, .int (26 : Int32)), (3, .int (30 : Int32)), (4, .int (0 : Int32))]) h_m103 (z_at.mk 3 rfl rfl) rfl (u := .int (0 : Int32)) rfl rfl rfl ?_
  refine w_p h_m103 7 (pc' := 36) (L' := []) (st' := [.int (0 : Int32)]) rfl ?_
  refine w_ri h_m103 (z_at.mk 1 rfl rfl) rfl rfl ?_
  show z_W 997 102 95 [(0, .ref 120), (1, .ref 4), (2, .int (0 : Int32)), (3, .int (5 : Int32)), (4, .int (26 : Int32)), (5, .int (30 : Int32))] [.int (0 : Int32)] m _
  refine w_p h_m102 10 (pc' := 59) (L' := [(0, .ref 120), (1, .ref 4), (2, .int (0 : Int32)), (3, .int (6 : Int32)), (4, .int (31 : Int32)), (5, .int (31 : Int32))]) (st' := [.ref 4, .int (31 : Int32)]) rfl ?_
  refine w_cv (H.te (by decide) rfl).1 (pc' := 62) (L' := [(0, .ref 120), (1, .ref 4), (2, .int (0 : Int32)), (3, .int (6 : Int32)), (4, .int (31 : Int32)), (5, .int (31 : Int32))]) (rest := [.int (31 : Int32)]) (Ps := []) (L0 := [(0, .ref 4)]) h_m102 (z_at.mk 3 rfl rfl) (Or.inl ⟨rfl, rfl⟩) rfl rfl (by decide) (by decide) rfl rfl rfl rfl rfl rfl (by decide) rfl rfl rfl ?_
  refine w_p h_m293 1 (pc' := 1) (L' := [(0, .ref 4)]) (st' := [.ref 4]) rfl ?_
  refine w_gs H (pc' := 4) (L' := [(0, .ref 4)]) h_m293 (z_at.mk 3 rfl rfl) rfl (by decide) rfl rfl rfl rfl ?_
  refine w_lene H (x := (36 : Int32)) (pc' := 5) (L' := [(0, .ref 4)]) h_m293 (z_at.mk 1 rfl rfl) (by decide) rfl (by decide) rfl rfl rfl ?_
  refine w_p h_m293 1 (pc' := 6) (L' := [(0, .ref 4)]) (st' := [.ref 4, .int (36 : Int32)]) rfl ?_
  refine w_cv (H.te (by decide) rfl).1 (pc' := 9) (L' := [(0, .ref 4)]) (rest := [.int (36 : Int32)]) (Ps := []) (L0 := [(0, .ref 4)]) h_m293 (z_at.mk 3 rfl rfl) (Or.inl ⟨rfl, rfl⟩) rfl rfl (by decide) (by decide) rfl rfl rfl rfl rfl rfl (by decide) rfl rfl rfl ?_
  refine w_p h_m298 3 (pc' := 7) (L' := [(0, .ref 4)]) (st' := [.ref 4]) rfl ?_
  refine w_gs H (pc' := 10) (L' := [(0, .ref 4)]) h_m298 (z_at.mk 3 rfl rfl) rfl (by decide) rfl rfl rfl rfl ?_
  refine w_p h_m298 1 (pc' := 14) (L' := []) (st' := [.int (0 : Int32)]) rfl ?_
  refine w_ri h_m298 (z_at.mk 1 rfl rfl) rfl rfl ?_
  show z_W 996 293 9 [(0, .ref 4)] [.int (0 : Int32), .int (36 : Int32)] m _
  refine w_p h_m293 1 (pc' := 10) (L' := [(0, .ref 4)]) (st' := [.int (36 : Int32)]) rfl ?_
  refine w_ri h_m293 (z_at.mk 1 rfl rfl) rfl rfl ?_
  show z_W 997 102 62 [(0, .ref 120), (1, .ref 4), (2, .int (0 : Int32)), (3, .int (6 : Int32)), (4, .int (31 : Int32)), (5, .int (31 : Int32))] [.int (36 : Int32), .int (31 : Int32)] m _
  refine w_p h_m102 3 (pc' := 68) (L' := [(0, .ref 120), (1, .ref 4), (2, .int (0 : Int32)), (3, .int (6 : Int32)), (4, .int (31 : Int32)), (5, .int (31 : Int32))]) (st' := [.ref 4, .int (31 : Int32)]) rfl ?_
  refine w_cv (H.te (by decide) rfl).1 (pc' := 71) (L' := [(0, .ref 120), (1, .ref 4), (2, .int (0 : Int32)), (3, .int (6 : Int32)), (4, .int (31 : Int32)), (5, .int (31 : Int32))]) (rest := [.int (31 : Int32)]) (Ps := []) (L0 := [(0, .ref 4)]) h_m102 (z_at.mk 3 rfl rfl) (Or.inl ⟨rfl, rfl⟩) rfl rfl (by decide) (by decide) rfl rfl rfl rfl rfl rfl (by decide) rfl rfl rfl ?_
  refine w_p h_m293 1 (pc' := 1) (L' := [(0, .ref 4)]) (st' := [.ref 4]) rfl ?_
  refine w_gs H (pc' := 4) (L' := [(0, .ref 4)]) h_m293 (z_at.mk 3 rfl rfl) rfl (by decide) rfl rfl rfl rfl ?_
  refine w_lene H (x := (36 : Int32)) (pc' := 5) (L' := [(0, .ref 4)]) h_m293 (z_at.mk 1 rfl rfl) (by decide) rfl (by decide) rfl rfl rfl ?_
  refine w_p h_m293 1 (pc' := 6) (L' := [(0, .ref 4)]) (st' := [.ref 4, .int (36 : Int32)]) rfl ?_
  refine w_cv (H.te (by decide) rfl).1 (pc' := 9) (L' := [(0, .ref 4)]) (rest := [.int (36 : Int32)]) (Ps := []) (L0 := [(0, .ref 4)]) h_m293 (z_at.mk 3 rfl rfl) (Or.inl ⟨rfl, rfl⟩) rfl rfl (by decide) (by decide) rfl rfl rfl rfl rfl rfl (by decide) rfl rfl rfl ?_
  refine w_p h_m298 3 (pc' := 7) (L' := [(0, .ref 4)]) (st' := [.ref 4]) rfl ?_
  refine w_gs H (pc' := 10) (L' := [(0, .ref 4)]) h_m298 (z_at.mk 3 rfl rfl) rfl (by decide) rfl rfl rfl rfl ?_
  refine w_p h_m298 1 (pc' := 14) (L' := []) (st' := [.int (0 : Int32)]) rfl ?_
  refine w_ri h_m298 (z_at.mk 1 rfl rfl) rfl rfl ?_
  show z_W 996 293 9 [(0, .ref 4)] [.int (0 : Int32), .int (36 : Int32)] m _
  refine w_p h_m293 1 (pc' := 10) (L' := [(0, .ref 4)]) (st' := [.int (36 : Int32)]) rfl ?_
  refine w_ri h_m293 (z_at.mk 1 rfl rfl) rfl rfl ?_
  show z_W 997 102 71 [(0, .ref 120), (1, .ref 4), (2, .int (0 : Int32)), (3, .int (6 : Int32)), (4, .int (31 : Int32)), (5, .int (31 : Int32))] [.int (36 : Int32), .int (31 : Int32)] m _
  refine w_p h_m102 3 (pc' := 77) (L' := [(0, .ref 120), (1, .ref 4), (2, .int (0 : Int32)), (3, .int (6 : Int32)), (4, .int (31 : Int32)), (5, .int (31 : Int32))]) (st' := [.int (31 : Int32), .ref 4]) rfl ?_
  refine w_cv (H.te (by decide) rfl).1 (pc' := 80) (L' := [(0, .ref 120), (1, .ref 4), (2, .int (0 : Int32)), (3, .int (6 : Int32)), (4, .int (31 : Int32)), (5, .int (31 : Int32))]) (rest := []) (Ps := [.int (31 : Int32)]) (L0 := [(0, .ref 4), (1, .int (31 : Int32))]) h_m102 (z_at.mk 3 rfl rfl) (Or.inl ⟨rfl, rfl⟩) rfl rfl (by decide) (by decide) rfl rfl rfl rfl rfl rfl (by decide) rfl rfl rfl ?_
  refine w_p h_m294 1 (pc' := 1) (L' := [(0, .ref 4), (1, .int (31 : Int32))]) (st' := [.ref 4]) rfl ?_
  refine w_cv (H.te (by decide) rfl).1 (pc' := 4) (L' := [(0, .ref 4), (1, .int (31 : Int32))]) (rest := []) (Ps := []) (L0 := [(0, .ref 4)]) h_m294 (z_at.mk 3 rfl rfl) (Or.inl ⟨rfl, rfl⟩) rfl rfl (by decide) (by decide) rfl rfl rfl rfl rfl rfl (by decide) rfl rfl rfl ?_
  refine w_p h_m299 3 (pc' := 7) (L' := [(0, .ref 4)]) (st' := [.ref 4]) rfl ?_
  refine w_gs H (pc' := 10) (L' := [(0, .ref 4)]) h_m299 (z_at.mk 3 rfl rfl) rfl (by decide) rfl rfl rfl rfl ?_
  refine w_p h_m299 3 (pc' := 18) (L' := []) (st' := [.int (1 : Int32)]) rfl ?_
  refine w_ri h_m299 (z_at.mk 1 rfl rfl) rfl rfl ?_
  show z_W 996 294 4 [(0, .ref 4), (1, .int (31 : Int32))] [.int (1 : Int32)] m _
  refine w_p h_m294 2 (pc' := 8) (L' := [(0, .ref 4), (1, .int (31 : Int32))]) (st' := [.ref 4]) rfl ?_
  refine w_gs H (pc' := 11) (L' := [(0, .ref 4), (1, .int (31 : Int32))]) h_m294 (z_at.mk 3 rfl rfl) rfl (by decide) rfl rfl rfl rfl ?_
  refine w_p h_m294 1 (pc' := 12) (L' := [(0, .ref 4), (1, .int (31 : Int32))]) (st' := [.int (31 : Int32), .ref 22]) rfl ?_
  refine w_cs (As := [.ref 22, .int (31 : Int32)]) (rest := []) (j := 308) (L0 := [(0, .ref 22), (1, .int (31 : Int32))]) (pc' := 15) (L' := [(0, .ref 4), (1, .int (31 : Int32))]) h_m294 (z_at.mk 3 rfl rfl) (Or.inl ⟨rfl, rfl⟩) rfl rfl rfl rfl rfl ?_
  refine w_p h_m308 2 (pc' := 2) (L' := [(0, .ref 22), (1, .int (31 : Int32))]) (st' := [.ref 22, .int (31 : Int32)]) rfl ?_
  refine w_lene H (x := (36 : Int32)) (pc' := 3) (L' := [(0, .ref 22), (1, .int (31 : Int32))]) h_m308 (z_at.mk 1 rfl rfl) (by decide) rfl (by decide) rfl rfl rfl ?_
  refine w_ci (pc' := 6) (L' := [(0, .ref 22), (1, .int (31 : Int32))]) h_m308 (z_at.mk 3 rfl rfl) rfl (z_cat_le 0 rfl (by decide)) ⟨by decide, by decide⟩ rfl rfl ?_
  refine w_p h_m308 2 (pc' := 8) (L' := [(0, .ref 22), (1, .int (31 : Int32))]) (st' := [.int (31 : Int32), .ref 22]) rfl ?_
  refine w_ae H (j := 31) (pc' := 9) (L' := [(0, .ref 22), (1, .int (31 : Int32))]) h_m308 (z_at.mk 1 rfl rfl) rfl rfl rfl (by decide) rfl (by decide) rfl rfl rfl ?_
  refine w_p h_m308 3 (pc' := 14) (L' := [(0, .ref 22), (1, .int (31 : Int32))]) (st' := [.int (107 : Int32)]) rfl ?_
  refine w_ri h_m308 (z_at.mk 1 rfl rfl) rfl rfl ?_
  show z_W 996 294 15 [(0, .ref 4), (1, .int (31 : Int32))] [.int (107 : Int32)] m _
  refine w_ri h_m294 (z_at.mk 1 rfl rfl) rfl rfl ?_
  show z_W 997 102 80 [(0, .ref 120), (1, .ref 4), (2, .int (0 : Int32)), (3, .int (6 : Int32)), (4, .int (31 : Int32)), (5, .int (31 : Int32))] [.int (107 : Int32)] m _
  refine w_p h_m102 6 (pc' := 59) (L' := [(0, .ref 120), (1, .ref 4), (2, .int (0 : Int32)), (3, .int (6 : Int32)), (4, .int (31 : Int32)), (5, .int (32 : Int32))]) (st' := [.ref 4, .int (32 : Int32)]) rfl ?_
  refine w_cv (H.te (by decide) rfl).1 (pc' := 62) (L' := [(0, .ref 120), (1, .ref 4), (2, .int (0 : Int32)), (3, .int (6 : Int32)), (4, .int (31 : Int32)), (5, .int (32 : Int32))]) (rest := [.int (32 : Int32)]) (Ps := []) (L0 := [(0, .ref 4)]) h_m102 (z_at.mk 3 rfl rfl) (Or.inl ⟨rfl, rfl⟩) rfl rfl (by decide) (by decide) rfl rfl rfl rfl rfl rfl (by decide) rfl rfl rfl ?_
  refine w_p h_m293 1 (pc' := 1) (L' := [(0, .ref 4)]) (st' := [.ref 4]) rfl ?_
  refine w_gs H (pc' := 4) (L' := [(0, .ref 4)]) h_m293 (z_at.mk 3 rfl rfl) rfl (by decide) rfl rfl rfl rfl ?_
  refine w_lene H (x := (36 : Int32)) (pc' := 5) (L' := [(0, .ref 4)]) h_m293 (z_at.mk 1 rfl rfl) (by decide) rfl (by decide) rfl rfl rfl ?_
  refine w_p h_m293 1 (pc' := 6) (L' := [(0, .ref 4)]) (st' := [.ref 4, .int (36 : Int32)]) rfl ?_
  refine w_cv (H.te (by decide) rfl).1 (pc' := 9) (L' := [(0, .ref 4)]) (rest := [.int (36 : Int32)]) (Ps := []) (L0 := [(0, .ref 4)]) h_m293 (z_at.mk 3 rfl rfl) (Or.inl ⟨rfl, rfl⟩) rfl rfl (by decide) (by decide) rfl rfl rfl rfl rfl rfl (by decide) rfl rfl rfl ?_
  refine w_p h_m298 3 (pc' := 7) (L' := [(0, .ref 4)]) (st' := [.ref 4]) rfl ?_
  refine w_gs H (pc' := 10) (L' := [(0, .ref 4)]) h_m298 (z_at.mk 3 rfl rfl) rfl (by decide) rfl rfl rfl rfl ?_
  refine w_p h_m298 1 (pc' := 14) (L' := []) (st' := [.int (0 : Int32)]) rfl ?_
  refine w_ri h_m298 (z_at.mk 1 rfl rfl) rfl rfl ?_
  show z_W 996 293 9 [(0, .ref 4)] [.int (0 : Int32), .int (36 : Int32)] m _
  refine w_p h_m293 1 (pc' := 10) (L' := [(0, .ref 4)]) (st' := [.int (36 : Int32)]) rfl ?_
  refine w_ri h_m293 (z_at.mk 1 rfl rfl) rfl rfl ?_
  show z_W 997 102 62 [(0, .ref 120), (1, .ref 4), (2, .int (0 : Int32)), (3, .int (6 : Int32)), (4, .int (31 : Int32)), (5, .int (32 : Int32))] [.int (36 : Int32), .int (32 : Int32)] m _
  refine w_p h_m102 3 (pc' := 68) (L' := [(0, .ref 120), (1, .ref 4), (2, .int (0 : Int32)), (3, .int (6 : Int32)), (4, .int (31 : Int32)), (5, .int (32 : Int32))]) (st' := [.ref 4, .int (32 : Int32)]) rfl ?_
  refine w_cv (H.te (by decide) rfl).1 (pc' := 71) (L' := [(0, .ref 120), (1, .ref 4), (2, .int (0 : Int32)), (3, .int (6 : Int32)), (4, .int (31 : Int32)), (5, .int (32 : Int32))]) (rest := [.int (32 : Int32)]) (Ps := []) (L0 := [(0, .ref 4)]) h_m102 (z_at.mk 3 rfl rfl) (Or.inl ⟨rfl, rfl⟩) rfl rfl (by decide) (by decide) rfl rfl rfl rfl rfl rfl (by decide) rfl rfl rfl ?_
  refine w_p h_m293 1 (pc' := 1) (L' := [(0, .ref 4)]) (st' := [.ref 4]) rfl ?_
  refine w_gs H (pc' := 4) (L' := [(0, .ref 4)]) h_m293 (z_at.mk 3 rfl rfl) rfl (by decide) rfl rfl rfl rfl ?_
  refine w_lene H (x := (36 : Int32)) (pc' := 5) (L' := [(0, .ref 4)]) h_m293 (z_at.mk 1 rfl rfl) (by decide) rfl (by decide) rfl rfl rfl ?_
  refine w_p h_m293 1 (pc' := 6) (L' := [(0, .ref 4)]) (st' := [.ref 4, .int (36 : Int32)]) rfl ?_
  refine w_cv (H.te (by decide) rfl).1 (pc' := 9) (L' := [(0, .ref 4)]) (rest := [.int (36 : Int32)]) (Ps := []) (L0 := [(0, .ref 4)]) h_m293 (z_at.mk 3 rfl rfl) (Or.inl ⟨rfl, rfl⟩) rfl rfl (by decide) (by decide) rfl rfl rfl rfl rfl rfl (by decide) rfl rfl rfl ?_
  refine w_p h_m298 3 (pc' := 7) (L' := [(0, .ref 4)]) (st' := [.ref 4]) rfl ?_
  refine w_gs H (pc' := 10) (L' := [(0, .ref 4)]) h_m298 (z_at.mk 3 rfl rfl) rfl (by decide) rfl rfl rfl rfl ?_
  refine w_p h_m298 1 (pc' := 14) (L' := []) (st' := [.int (0 : Int32)]) rfl ?_
  refine w_ri h_m298 (z_at.mk 1 rfl rfl) rfl rfl ?_
  show z_W 996 293 9 [(0, .ref 4)] [.int (0 : Int32), .int (36 : Int32)] m _
  refine w_p h_m293 1 (pc' := 10) (L' := [(0, .ref 4)]) (st' := [.int (36 : Int32)]) rfl ?_
  refine w_ri h_m293 (z_at.mk 1 rfl rfl) rfl rfl ?_
  show z_W 997 102 71 [(0, .ref 120), (1, .ref 4), (2, .int (0 : Int32)), (3, .int (6 : Int32)), (4, .int (31 : Int32)), (5, .int (32 : Int32))] [.int (36 : Int32), .int (32 : Int32)] m _
  refine w_p h_m102 3 (pc' := 77) (L' := [(0, .ref 120), (1, .ref 4), (2, .int (0 : Int32)), (3, .int (6 : Int32)), (4, .int (31 : Int32)), (5, .int (32 : Int32))]) (st' := [.int (32 : Int32), .ref 4]) rfl ?_
  refine w_cv (H.te (by decide) rfl).1 (pc' := 80) (L' := [(0, .ref 120), (1, .ref 4), (2, .int (0 : Int32)), (3, .int (6 : Int32)), (4, .int (31 : Int32)), (5, .int (32 : Int32))]) (rest := []) (Ps := [.int (32 : Int32)]) (L0 := [(0, .ref 4), (1, .int (32 : Int32))]) h_m102 (z_at.mk 3 rfl rfl) (Or.inl ⟨rfl, rfl⟩) rfl rfl (by decide) (by decide) rfl rfl rfl rfl rfl rfl (by decide) rfl rfl rfl ?_
  refine w_p h_m294 1 (pc' := 1) (L' := [(0, .ref 4), (1, .int (32 : Int32))]) (st' := [.ref 4]) rfl ?_
  refine w_cv (H.te (by decide) rfl).1 (pc' := 4) (L' := [(0, .ref 4), (1, .int (32 : Int32))]) (rest := []) (Ps := []) (L0 := [(0, .ref 4)]) h_m294 (z_at.mk 3 rfl rfl) (Or.inl ⟨rfl, rfl⟩) rfl rfl (by decide) (by decide) rfl rfl rfl rfl rfl rfl (by decide) rfl rfl rfl ?_
  refine w_p h_m299 3 (pc' := 7) (L' := [(0, .ref 4)]) (st' := [.ref 4]) rfl ?_
  refine w_gs H (pc' := 10) (L' := [(0, .ref 4)]) h_m299 (z_at.mk 3 rfl rfl) rfl (by decide) rfl rfl rfl rfl ?_
  refine w_p h_m299 3 (pc' := 18) (L' := []) (st' := [.int (1 : Int32)]) rfl ?_
  refine w_ri h_m299 (z_at.mk 1 rfl rfl) rfl rfl ?_
  show z_W 996 294 4 [(0, .ref 4), (1, .int (32 : Int32))] [.int (1 : Int32)] m _
  refine w_p h_m294 2 (pc' := 8) (L' := [(0, .ref 4), (1, .int (32 : Int32))]) (st' := [.ref 4]) rfl ?_
  refine w_gs H (pc' := 11) (L' := [(0, .ref 4), (1, .int (32 : Int32))]) h_m294 (z_at.mk 3 rfl rfl) rfl (by decide) rfl rfl rfl rfl ?_
  refine w_p h_m294 1 (pc' := 12) (L' := [(0, .ref 4), (1, .int (32 : Int32))]) (st' := [.int (32 : Int32), .ref 22]) rfl ?_
  refine w_cs (As := [.ref 22, .int (32 : Int32)]) (rest := []) (j := 308) (L0 := [(0, .ref 22), (1, .int (32 : Int32))]) (pc' := 15) (L' := [(0, .ref 4), (1, .int (32 : Int32))]) h_m294 (z_at.mk 3 rfl rfl) (Or.inl ⟨rfl, rfl⟩) rfl rfl rfl rfl rfl ?_
  refine w_p h_m308 2 (pc' := 2) (L' := [(0, .ref 22), (1, .int (32 : Int32))]) (st' := [.ref 22, .int (32 : Int32)]) rfl ?_
  refine w_lene H (x := (36 : Int32)) (pc' := 3) (L' := [(0, .ref 22), (1, .int (32 : Int32))]) h_m308 (z_at.mk 1 rfl rfl) (by decide) rfl (by decide) rfl rfl rfl ?_
  refine w_ci (pc' := 6) (L' := [(0, .ref 22), (1, .int (32 : Int32))]) h_m308 (z_at.mk 3 rfl rfl) rfl (z_cat_le 0 rfl (by decide)) ⟨by decide, by decide⟩ rfl rfl ?_
  refine w_p h_m308 2 (pc' := 8) (L' := [(0, .ref 22), (1, .int (32 : Int32))]) (st' := [.int (32 : Int32), .ref 22]) rfl ?_
  refine w_ae H (j := 32) (pc' := 9) (L' := [(0, .ref 22), (1, .int (32 : Int32))]) h_m308 (z_at.mk 1 rfl rfl) rfl rfl rfl (by decide) rfl (by decide) rfl rfl rfl ?_
  refine w_p h_m308 3 (pc' := 14) (L' := [(0, .ref 22), (1, .int (32 : Int32))]) (st' := [.int (105 : Int32)]) rfl ?_
  refine w_ri h_m308 (z_at.mk 1 rfl rfl) rfl rfl ?_
  show z_W 996 294 15 [(0, .ref 4), (1, .int (32 : Int32))] [.int (105 : Int32)] m _
  refine w_ri h_m294 (z_at.mk 1 rfl rfl) rfl rfl ?_
  show z_W 997 102 80 [(0, .ref 120), (1, .ref 4), (2, .int (0 : Int32)), (3, .int (6 : Int32)), (4, .int (31 : Int32)), (5, .int (32 : Int32))] [.int (105 : Int32)] m _
  refine w_p h_m102 6 (pc' := 59) (L' := [(0, .ref 120), (1, .ref 4), (2, .int (0 : Int32)), (3, .int (6 : Int32)), (4, .int (31 : Int32)), (5, .int (33 : Int32))]) (st' := [.ref 4, .int (33 : Int32)]) rfl ?_
  refine w_cv (H.te (by decide) rfl).1 (pc' := 62) (L' := [(0, .ref 120), (1, .ref 4), (2, .int (0 : Int32)), (3, .int (6 : Int32)), (4, .int (31 : Int32)), (5, .int (33 : Int32))]) (rest := [.int (33 : Int32)]) (Ps := []) (L0 := [(0, .ref 4)]) h_m102 (z_at.mk 3 rfl rfl) (Or.inl ⟨rfl, rfl⟩) rfl rfl (by decide) (by decide) rfl rfl rfl rfl rfl rfl (by decide) rfl rfl rfl ?_
  refine w_p h_m293 1 (pc' := 1) (L' := [(0, .ref 4)]) (st' := [.ref 4]) rfl ?_
  refine w_gs H (pc' := 4) (L' := [(0, .ref 4)]) h_m293 (z_at.mk 3 rfl rfl) rfl (by decide) rfl rfl rfl rfl ?_
  refine w_lene H (x := (36 : Int32)) (pc' := 5) (L' := [(0, .ref 4)]) h_m293 (z_at.mk 1 rfl rfl) (by decide) rfl (by decide) rfl rfl rfl ?_
  refine w_p h_m293 1 (pc' := 6) (L' := [(0, .ref 4)]) (st' := [.ref 4, .int (36 : Int32)]) rfl ?_
  refine w_cv (H.te (by decide) rfl).1 (pc' := 9) (L' := [(0, .ref 4)]) (rest := [.int (36 : Int32)]) (Ps := []) (L0 := [(0, .ref 4)]) h_m293 (z_at.mk 3 rfl rfl) (Or.inl ⟨rfl, rfl⟩) rfl rfl (by decide) (by decide) rfl rfl rfl rfl rfl rfl (by decide) rfl rfl rfl ?_
  refine w_p h_m298 3 (pc' := 7) (L' := [(0, .ref 4)]) (st' := [.ref 4]) rfl ?_
  refine w_gs H (pc' := 10) (L' := [(0, .ref 4)]) h_m298 (z_at.mk 3 rfl rfl) rfl (by decide) rfl rfl rfl rfl ?_
  refine w_p h_m298 1 (pc' := 14) (L' := []) (st' := [.int (0 : Int32)]) rfl ?_
  refine w_ri h_m298 (z_at.mk 1 rfl rfl) rfl rfl ?_
  show z_W 996 293 9 [(0, .ref 4)] [.int (0 : Int32), .int (36 : Int32)] m _
  refine w_p h_m293 1 (pc' := 10) (L' := [(0, .ref 4)]) (st' := [.int (36 : Int32)]) rfl ?_
  refine w_ri h_m293 (z_at.mk 1 rfl rfl) rfl rfl ?_
  show z_W 997 102 62 [(0, .ref 120), (1, .ref 4), (2, .int (0 : Int32)), (3, .int (6 : Int32)), (4, .int (31 : Int32)), (5, .int (33 : Int32))] [.int (36 : Int32), .int (33 : Int32)] m _
  refine w_p h_m102 3 (pc' := 68) (L' := [(0, .ref 120), (1, .ref 4), (2, .int (0 : Int32)), (3, .int (6 : Int32)), (4, .int (31 : Int32)), (5, .int (33 : Int32))]) (st' := [.ref 4, .int (33 : Int32)]) rfl ?_
  refine w_cv (H.te (by decide) rfl).1 (pc' := 71) (L' := [(0, .ref 120), (1, .ref 4), (2, .int (0 : Int32)), (3, .int (6 : Int32)), (4, .int (31 : Int32)), (5, .int (33 : Int32))]) (rest := [.int (33 : Int32)]) (Ps := []) (L0 := [(0, .ref 4)]) h_m102 (z_at.mk 3 rfl rfl) (Or.inl ⟨rfl, rfl⟩) rfl rfl (by decide) (by decide) rfl rfl rfl rfl rfl rfl (by decide) rfl rfl rfl ?_
  refine w_p h_m293 1 (pc' := 1) (L' := [(0, .ref 4)]) (st' := [.ref 4]) rfl ?_
  refine w_gs H (pc' := 4) (L' := [(0, .ref 4)]) h_m293 (z_at.mk 3 rfl rfl) rfl (by decide) rfl rfl rfl rfl ?_
  refine w_lene H (x := (36 : Int32)) (pc' := 5) (L' := [(0, .ref 4)]) h_m293 (z_at.mk 1 rfl rfl) (by decide) rfl (by decide) rfl rfl rfl ?_
  refine w_p h_m293 1 (pc' := 6) (L' := [(0, .ref 4)]) (st' := [.ref 4, .int (36 : Int32)]) rfl ?_
  refine w_cv (H.te (by decide) rfl).1 (pc' := 9) (L' := [(0, .ref 4)]) (rest := [.int (36 : Int32)]) (Ps := []) (L0 := [(0, .ref 4)]) h_m293 (z_at.mk 3 rfl rfl) (Or.inl ⟨rfl, rfl⟩) rfl rfl (by decide) (by decide) rfl rfl rfl rfl rfl rfl (by decide) rfl rfl rfl ?_
  refine w_p h_m298 3 (pc' := 7) (L' := [(0, .ref 4)]) (st' := [.ref 4]) rfl ?_
  refine w_gs H (pc' := 10) (L' := [(0, .ref 4)]) h_m298 (z_at.mk 3 rfl rfl) rfl (by decide) rfl rfl rfl rfl ?_
  refine w_p h_m298 1 (pc' := 14) (L' := []) (st' := [.int (0 : Int32)]) rfl ?_
  refine w_ri h_m298 (z_at.mk 1 rfl rfl) rfl rfl ?_
  show z_W 996 293 9 [(0, .ref 4)] [.int (0 : Int32), .int (36 : Int32)] m _
  refine w_p h_m293 1 (pc' := 10) (L' := [(0, .ref 4)]) (st' := [.int (36 : Int32)]) rfl ?_
  refine w_ri h_m293 (z_at.mk 1 rfl rfl) rfl rfl ?_
  show z_W 997 102 71 [(0, .ref 120), (1, .ref 4), (2, .int (0 : Int32)), (3, .int (6 : Int32)), (4, .int (31 : Int32)), (5, .int (33 : Int32))] [.int (36 : Int32), .int (33 : Int32)] m _
  refine w_p h_m102 3 (pc' := 77) (L' := [(0, .ref 120), (1, .ref 4), (2, .int (0 : Int32)), (3, .int (6 : Int32)), (4, .int (31 : Int32)), (5, .int (33 : Int32))]) (st' := [.int (33 : Int32), .ref 4]) rfl ?_
  refine w_cv (H.te (by decide) rfl).1 (pc' := 80) (L' := [(0, .ref 120), (1, .ref 4), (2, .int (0 : Int32)), (3, .int (6 : Int32)), (4, .int (31 : Int32)), (5, .int (33 : Int32))]) (rest := []) (Ps := [.int (33 : Int32)]) (L0 := [(0, .ref 4), (1, .int (33 : Int32))]) h_m102 (z_at.mk 3 rfl rfl) (Or.inl ⟨rfl, rfl⟩) rfl rfl (by decide) (by decide) rfl rfl rfl rfl rfl rfl (by decide) rfl rfl rfl ?_
  refine w_p h_m294 1 (pc' := 1) (L' := [(0, .ref 4), (1, .int (33 : Int32))]) (st' := [.ref 4]) rfl ?_
  refine w_cv (H.te (by decide) rfl).1 (pc' := 4) (L' := [(0, .ref 4), (1, .int (33 : Int32))]) (rest := []) (Ps := []) (L0 := [(0, .ref 4)]) h_m294 (z_at.mk 3 rfl rfl) (Or.inl ⟨rfl, rfl⟩) rfl rfl (by decide) (by decide) rfl rfl rfl rfl rfl rfl (by decide) rfl rfl rfl ?_
  refine w_p h_m299 3 (pc' := 7) (L' := [(0, .ref 4)]) (st' := [.ref 4]) rfl ?_
  refine w_gs H (pc' := 10) (L' := [(0, .ref 4)]) h_m299 (z_at.mk 3 rfl rfl) rfl (by decide) rfl rfl rfl rfl ?_
  refine w_p h_m299 3 (pc' := 18) (L' := []) (st' := [.int (1 : Int32)]) rfl ?_
  refine w_ri h_m299 (z_at.mk 1 rfl rfl) rfl rfl ?_
  show z_W 996 294 4 [(0, .ref 4), (1, .int (33 : Int32))] [.int (1 : Int32)] m _
  refine w_p h_m294 2 (pc' := 8) (L' := [(0, .ref 4), (1, .int (33 : Int32))]) (st' := [.ref 4]) rfl ?_
  refine w_gs H (pc' := 11) (L' := [(0, .ref 4), (1, .int (33 : Int32))]) h_m294 (z_at.mk 3 rfl rfl) rfl (by decide) rfl rfl rfl rfl ?_
  refine w_p h_m294 1 (pc' := 12) (L' := [(0, .ref 4), (1, .int (33 : Int32))]) (st' := [.int (33 : Int32), .ref 22]) rfl ?_
  refine w_cs (As := [.ref 22, .int (33 : Int32)]) (rest := []) (j := 308) (L0 := [(0, .ref 22), (1, .int (33 : Int32))]) (pc' := 15) (L' := [(0, .ref 4), (1, .int (33 : Int32))]) h_m294 (z_at.mk 3 rfl rfl) (Or.inl ⟨rfl, rfl⟩) rfl rfl rfl rfl rfl ?_
  refine w_p h_m308 2 (pc' := 2) (L' := [(0, .ref 22), (1, .int (33 : Int32))]) (st' := [.ref 22, .int (33 : Int32)]) rfl ?_
  refine w_lene H (x := (36 : Int32)) (pc' := 3) (L' := [(0, .ref 22), (1, .int (33 : Int32))]) h_m308 (z_at.mk 1 rfl rfl) (by decide) rfl (by decide) rfl rfl rfl ?_
  refine w_ci (pc' := 6) (L' := [(0, .ref 22), (1, .int (33 : Int32))]) h_m308 (z_at.mk 3 rfl rfl) rfl (z_cat_le 0 rfl (by decide)) ⟨by decide, by decide⟩ rfl rfl ?_
  refine w_p h_m308 2 (pc' := 8) (L' := [(0, .ref 22), (1, .int (33 : Int32))]) (st' := [.int (33 : Int32), .ref 22]) rfl ?_
  refine w_ae H (j := 33) (pc' := 9) (L' := [(0, .ref 22), (1, .int (33 : Int32))]) h_m308 (z_at.mk 1 rfl rfl) rfl rfl rfl (by decide) rfl (by decide) rfl rfl rfl ?_
  refine w_p h_m308 3 (pc' := 14) (L' := [(0, .ref 22), (1, .int (33 : Int32))]) (st' := [.int (110 : Int32)]) rfl ?_
  refine w_ri h_m308 (z_at.mk 1 rfl rfl) rfl rfl ?_
  show z_W 996 294 15 [(0, .ref 4), (1, .int (33 : Int32))] [.int (110 : Int32)] m _
  refine w_ri h_m294 (z_at.mk 1 rfl rfl) rfl rfl ?_
  show z_W 997 102 80 [(0, .ref 120), (1, .ref 4), (2, .int (0 : Int32)), (3, .int (6 : Int32)), (4, .int (31 : Int32)), (5, .int (33 : Int32))] [.int (110 : Int32)] m _
  refine w_p h_m102 6 (pc' := 59) (L' := [(0, .ref 120), (1, .ref 4), (2, .int (0 : Int32)), (3, .int (6 : Int32)), (4, .int (31 : Int32)), (5, .int (34 : Int32))]) (st' := [.ref 4, .int (34 : Int32)]) rfl ?_
  refine w_cv (H.te (by decide) rfl).1 (pc' := 62) (L' := [(0, .ref 120), (1, .ref 4), (2, .int (0 : Int32)), (3, .int (6 : Int32)), (4, .int (31 : Int32)), (5, .int (34 : Int32))]) (rest := [.int (34 : Int32)]) (Ps := []) (L0 := [(0, .ref 4)]) h_m102 (z_at.mk 3 rfl rfl) (Or.inl ⟨rfl, rfl⟩) rfl rfl (by decide) (by decide) rfl rfl rfl rfl rfl rfl (by decide) rfl rfl rfl ?_
  refine w_p h_m293 1 (pc' := 1) (L' := [(0, .ref 4)]) (st' := [.ref 4]) rfl ?_
  refine w_gs H (pc' := 4) (L' := [(0, .ref 4)]) h_m293 (z_at.mk 3 rfl rfl) rfl (by decide) rfl rfl rfl rfl ?_
  refine w_lene H (x := (36 : Int32)) (pc' := 5) (L' := [(0, .ref 4)]) h_m293 (z_at.mk 1 rfl rfl) (by decide) rfl (by decide) rfl rfl rfl ?_
  refine w_p h_m293 1 (pc' := 6) (L' := [(0, .ref 4)]) (st' := [.ref 4, .int (36 : Int32)]) rfl ?_
  refine w_cv (H.te (by decide) rfl).1 (pc' := 9) (L' := [(0, .ref 4)]) (rest := [.int (36 : Int32)]) (Ps := []) (L0 := [(0, .ref 4)]) h_m293 (z_at.mk 3 rfl rfl) (Or.inl ⟨rfl, rfl⟩) rfl rfl (by decide) (by decide) rfl rfl rfl rfl rfl rfl (by decide) rfl rfl rfl ?_
  refine w_p h_m298 3 (pc' := 7) (L' := [(0, .ref 4)]) (st' := [.ref 4]) rfl ?_
  refine w_gs H (pc' := 10) (L' := [(0, .ref 4)]) h_m298 (z_at.mk 3 rfl rfl) rfl (by decide) rfl rfl rfl rfl ?_
  refine w_p h_m298 1 (pc' := 14) (L' := []) (st' := [.int (0 : Int32)]) rfl ?_
  refine w_ri h_m298 (z_at.mk 1 rfl rfl) rfl rfl ?_
  show z_W 996 293 9 [(0, .ref 4)] [.int (0 : Int32), .int (36 : Int32)] m _
  refine w_p h_m293 1 (pc' := 10) (L' := [(0, .ref 4)]) (st' := [.int (36 : Int32)]) rfl ?_
  refine w_ri h_m293 (z_at.mk 1 rfl rfl) rfl rfl ?_
  show z_W 997 102 62 [(0, .ref 120), (1, .ref 4), (2, .int (0 : Int32)), (3, .int (6 : Int32)), (4, .int (31 : Int32)), (5, .int (34 : Int32))] [.int (36 : Int32), .int (34 : Int32)] m _
  refine w_p h_m102 3 (pc' := 68) (L' := [(0, .ref 120), (1, .ref 4), (2, .int (0 : Int32)), (3, .int (6 : Int32)), (4, .int (31 : Int32)), (5, .int (34 : Int32))]) (st' := [.ref 4, .int (34 : Int32)]) rfl ?_
  refine w_cv (H.te (by decide) rfl).1 (pc' := 71) (L' := [(0, .ref 120), (1, .ref 4), (2, .int (0 : Int32)), (3, .int (6 : Int32)), (4, .int (31 : Int32)), (5, .int (34 : Int32))]) (rest := [.int (34 : Int32)]) (Ps := []) (L0 := [(0, .ref 4)]) h_m102 (z_at.mk 3 rfl rfl) (Or.inl ⟨rfl, rfl⟩) rfl rfl (by decide) (by decide) rfl rfl rfl rfl rfl rfl (by decide) rfl rfl rfl ?_
  refine w_p h_m293 1 (pc' := 1) (L' := [(0, .ref 4)]) (st' := [.ref 4]) rfl ?_
  refine w_gs H (pc' := 4) (L' := [(0, .ref 4)]) h_m293 (z_at.mk 3 rfl rfl) rfl (by decide) rfl rfl rfl rfl ?_
  refine w_lene H (x := (36 : Int32)) (pc' := 5) (L' := [(0, .ref 4)]) h_m293 (z_at.mk 1 rfl rfl) (by decide) rfl (by decide) rfl rfl rfl ?_
  refine w_p h_m293 1 (pc' := 6) (L' := [(0, .ref 4)]) (st' := [.ref 4, .int (36 : Int32)]) rfl ?_
  refine w_cv (H.te (by decide) rfl).1 (pc' := 9) (L' := [(0, .ref 4)]) (rest := [.int (36 : Int32)]) (Ps := []) (L0 := [(0, .ref 4)]) h_m293 (z_at.mk 3 rfl rfl) (Or.inl ⟨rfl, rfl⟩) rfl rfl (by decide) (by decide) rfl rfl rfl rfl rfl rfl (by decide) rfl rfl rfl ?_
  refine w_p h_m298 3 (pc' := 7) (L' := [(0, .ref 4)]) (st' := [.ref 4]) rfl ?_
  refine w_gs H (pc' := 10) (L' := [(0, .ref 4)]) h_m298 (z_at.mk 3 rfl rfl) rfl (by decide) rfl rfl rfl rfl ?_
  refine w_p h_m298 1 (pc' := 14) (L' := []) (st' := [.int (0 : Int32)]) rfl ?_
  refine w_ri h_m298 (z_at.mk 1 rfl rfl) rfl rfl ?_
  show z_W 996 293 9 [(0, .ref 4)] [.int (0 : Int32), .int (36 : Int32)] m _
  refine w_p h_m293 1 (pc' := 10) (L' := [(0, .ref 4)]) (st' := [.int (36 : Int32)]) rfl ?_
  refine w_ri h_m293 (z_at.mk 1 rfl rfl) rfl rfl ?_
  show z_W 997 102 71 [(0, .ref 120), (1, .ref 4), (2, .int (0 : Int32)), (3, .int (6 : Int32)), (4, .int (31 : Int32)), (5, .int (34 : Int32))] [.int (36 : Int32), .int (34 : Int32)] m _
  refine w_p h_m102 3 (pc' := 77) (L' := [(0, .ref 120), (1, .ref 4), (2, .int (0 : Int32)), (3, .int (6 : Int32)), (4, .int (31 : Int32)), (5, .int (34 : Int32))]) (st' := [.int (34 : Int32), .ref 4]) rfl ?_
  refine w_cv (H.te (by decide) rfl).1 (pc' := 80) (L' := [(0, .ref 120), (1, .ref 4), (2, .int (0 : Int32)), (3, .int (6 : Int32)), (4, .int (31 : Int32)), (5, .int (34 : Int32))]) (rest := []) (Ps := [.int (34 : Int32)]) (L0 := [(0, .ref 4), (1, .int (34 : Int32))]) h_m102 (z_at.mk 3 rfl rfl) (Or.inl ⟨rfl, rfl⟩) rfl rfl (by decide) (by decide) rfl rfl rfl rfl rfl rfl (by decide) rfl rfl rfl ?_
  refine w_p h_m294 1 (pc' := 1) (L' := [(0, .ref 4), (1, .int (34 : Int32))]) (st' := [.ref 4]) rfl ?_
  refine w_cv (H.te (by decide) rfl).1 (pc' := 4) (L' := [(0, .ref 4), (1, .int (34 : Int32))]) (rest := []) (Ps := []) (L0 := [(0, .ref 4)]) h_m294 (z_at.mk 3 rfl rfl) (Or.inl ⟨rfl, rfl⟩) rfl rfl (by decide) (by decide) rfl rfl rfl rfl rfl rfl (by decide) rfl rfl rfl ?_
  refine w_p h_m299 3 (pc' := 7) (L' := [(0, .ref 4)]) (st' := [.ref 4]) rfl ?_
  refine w_gs H (pc' := 10) (L' := [(0, .ref 4)]) h_m299 (z_at.mk 3 rfl rfl) rfl (by decide) rfl rfl rfl rfl ?_
  refine w_p h_m299 3 (pc' := 18) (L' := []) (st' := [.int (1 : Int32)]) rfl ?_
  refine w_ri h_m299 (z_at.mk 1 rfl rfl) rfl rfl ?_
  show z_W 996 294 4 [(0, .ref 4), (1, .int (34 : Int32))] [.int (1 : Int32)] m _
  refine w_p h_m294 2 (pc' := 8) (L' := [(0, .ref 4), (1, .int (34 : Int32))]) (st' := [.ref 4]) rfl ?_
  refine w_gs H (pc' := 11) (L' := [(0, .ref 4), (1, .int (34 : Int32))]) h_m294 (z_at.mk 3 rfl rfl) rfl (by decide) rfl rfl rfl rfl ?_
  refine w_p h_m294 1 (pc' := 12) (L' := [(0, .ref 4), (1, .int (34 : Int32))]) (st' := [.int (34 : Int32), .ref 22]) rfl ?_
  refine w_cs (As := [.ref 22, .int (34 : Int32)]) (rest := []) (j := 308) (L0 := [(0, .ref 22), (1, .int (34 : Int32))]) (pc' := 15) (L' := [(0, .ref 4), (1, .int (34 : Int32))]) h_m294 (z_at.mk 3 rfl rfl) (Or.inl ⟨rfl, rfl⟩) rfl rfl rfl rfl rfl ?_
  refine w_p h_m308 2 (pc' := 2) (L' := [(0, .ref 22), (1, .int (34 : Int32))]) (st' := [.ref 22, .int (34 : Int32)]) rfl ?_
  refine w_lene H (x := (36 : Int32)) (pc' := 3) (L' := [(0, .ref 22), (1, .int (34 : Int32))]) h_m308 (z_at.mk 1 rfl rfl) (by decide) rfl (by decide) rfl rfl rfl ?_
  refine w_ci (pc' := 6) (L' := [(0, .ref 22), (1, .int (34 : Int32))]) h_m308 (z_at.mk 3 rfl rfl) rfl (z_cat_le 0 rfl (by decide)) ⟨by decide, by decide⟩ rfl rfl ?_
  refine w_p h_m308 2 (pc' := 8) (L' := [(0, .ref 22), (1, .int (34 : Int32))]) (st' := [.int (34 : Int32), .ref 22]) rfl ?_
  refine w_ae H (j := 34) (pc' := 9) (L' := [(0, .ref 22), (1, .int (34 : Int32))]) h_m308 (z_at.mk 1 rfl rfl) rfl rfl rfl (by decide) rfl (by decide) rfl rfl rfl ?_
  refine w_p h_m308 3 (pc' := 14) (L' := [(0, .ref 22), (1, .int (34 : Int32))]) (st' := [.int (100 : Int32)]) rfl ?_
  refine w_ri h_m308 (z_at.mk 1 rfl rfl) rfl rfl ?_
  show z_W 996 294 15 [(0, .ref 4), (1, .int (34 : Int32))] [.int (100 : Int32)] m _
  refine w_ri h_m294 (z_at.mk 1 rfl rfl) rfl rfl ?_
  show z_W 997 102 80 [(0, .ref 120), (1, .ref 4), (2, .int (0 : Int32)), (3, .int (6 : Int32)), (4, .int (31 : Int32)), (5, .int (34 : Int32))] [.int (100 : Int32)] m _
  refine w_p h_m102 6 (pc' := 59) (L' := [(0, .ref 120), (1, .ref 4), (2, .int (0 : Int32)), (3, .int (6 : Int32)), (4, .int (31 : Int32)), (5, .int (35 : Int32))]) (st' := [.ref 4, .int (35 : Int32)]) rfl ?_
  refine w_cv (H.te (by decide) rfl).1 (pc' := 62) (L' := [(0, .ref 120), (1, .ref 4), (2, .int (0 : Int32)), (3, .int (6 : Int32)), (4, .int (31 : Int32)), (5, .int (35 : Int32))]) (rest := [.int (35 : Int32)]) (Ps := []) (L0 := [(0, .ref 4)]) h_m102 (z_at.mk 3 rfl rfl) (Or.inl ⟨rfl, rfl⟩) rfl rfl (by decide) (by decide) rfl rfl rfl rfl rfl rfl (by decide) rfl rfl rfl ?_
  refine w_p h_m293 1 (pc' := 1) (L' := [(0, .ref 4)]) (st' := [.ref 4]) rfl ?_
  refine w_gs H (pc' := 4) (L' := [(0, .ref 4)]) h_m293 (z_at.mk 3 rfl rfl) rfl (by decide) rfl rfl rfl rfl ?_
  refine w_lene H (x := (36 : Int32)) (pc' := 5) (L' := [(0, .ref 4)]) h_m293 (z_at.mk 1 rfl rfl) (by decide) rfl (by decide) rfl rfl rfl ?_
  refine w_p h_m293 1 (pc' := 6) (L' := [(0, .ref 4)]) (st' := [.ref 4, .int (36 : Int32)]) rfl ?_
  refine w_cv (H.te (by decide) rfl).1 (pc' := 9) (L' := [(0, .ref 4)]) (rest := [.int (36 : Int32)]) (Ps := []) (L0 := [(0, .ref 4)]) h_m293 (z_at.mk 3 rfl rfl) (Or.inl ⟨rfl, rfl⟩) rfl rfl (by decide) (by decide) rfl rfl rfl rfl rfl rfl (by decide) rfl rfl rfl ?_
  refine w_p h_m298 3 (pc' := 7) (L' := [(0, .ref 4)]) (st' := [.ref 4]) rfl ?_
  refine w_gs H (pc' := 10) (L' := [(0, .ref 4)]) h_m298 (z_at.mk 3 rfl rfl) rfl (by decide) rfl rfl rfl rfl ?_
  refine w_p h_m298 1 (pc' := 14) (L' := []) (st' := [.int (0 : Int32)]) rfl ?_
  refine w_ri h_m298 (z_at.mk 1 rfl rfl) rfl rfl ?_
  show z_W 996 293 9 [(0, .ref 4)] [.int (0 : Int32), .int (36 : Int32)] m _
  refine w_p h_m293 1 (pc' := 10) (L' := [(0, .ref 4)]) (st' := [.int (36 : Int32)]) rfl ?_
  refine w_ri h_m293 (z_at.mk 1 rfl rfl) rfl rfl ?_
  show z_W 997 102 62 [(0, .ref 120), (1, .ref 4), (2, .int (0 : Int32)), (3, .int (6 : Int32)), (4, .int (31 : Int32)), (5, .int (35 : Int32))] [.int (36 : Int32), .int (35 : Int32)] m _
  refine w_p h_m102 3 (pc' := 68) (L' := [(0, .ref 120), (1, .ref 4), (2, .int (0 : Int32)), (3, .int (6 : Int32)), (4, .int (31 : Int32)), (5, .int (35 : Int32))]) (st' := [.ref 4, .int (35 : Int32)]) rfl ?_
  refine w_cv (H.te (by decide) rfl).1 (pc' := 71) (L' := [(0, .ref 120), (1, .ref 4), (2, .int (0 : Int32)), (3, .int (6 : Int32)), (4, .int (31 : Int32)), (5, .int (35 : Int32))]) (rest := [.int (35 : Int32)]) (Ps := []) (L0 := [(0, .ref 4)]) h_m102 (z_at.mk 3 rfl rfl) (Or.inl ⟨rfl, rfl⟩) rfl rfl (by decide) (by decide) rfl rfl rfl rfl rfl rfl (by decide) rfl rfl rfl ?_
  refine w_p h_m293 1 (pc' := 1) (L' := [(0, .ref 4)]) (st' := [.ref 4]) rfl ?_
  refine w_gs H (pc' := 4) (L' := [(0, .ref 4)]) h_m293 (z_at.mk 3 rfl rfl) rfl (by decide) rfl rfl rfl rfl ?_
  refine w_lene H (x := (36 : Int32)) (pc' := 5) (L' := [(0, .ref 4)]) h_m293 (z_at.mk 1 rfl rfl) (by decide) rfl (by decide) rfl rfl rfl ?_
  refine w_p h_m293 1 (pc' := 6) (L' := [(0, .ref 4)]) (st' := [.ref 4, .int (36 : Int32)]) rfl ?_
  refine w_cv (H.te (by decide) rfl).1 (pc' := 9) (L' := [(0, .ref 4)]) (rest := [.int (36 : Int32)]) (Ps := []) (L0 := [(0, .ref 4)]) h_m293 (z_at.mk 3 rfl rfl) (Or.inl ⟨rfl, rfl⟩) rfl rfl (by decide) (by decide) rfl rfl rfl rfl rfl rfl (by decide) rfl rfl rfl ?_
  refine w_p h_m298 3 (pc' := 7) (L' := [(0, .ref 4)]) (st' := [.ref 4]) rfl ?_
  refine w_gs H (pc' := 10) (L' := [(0, .ref 4)]) h_m298 (z_at.mk 3 rfl rfl) rfl (by decide) rfl rfl rfl rfl ?_
  refine w_p h_m298 1 (pc' := 14) (L' := []) (st' := [.int (0 : Int32)]) rfl ?_
  refine w_ri h_m298 (z_at.mk 1 rfl rfl) rfl rfl ?_
  show z_W 996 293 9 [(0, .ref 4)] [.int (0 : Int32), .int (36 : Int32)] m _
  refine w_p h_m293 1 (pc' := 10) (L' := [(0, .ref 4)]) (st' := [.int (36 : Int32)]) rfl ?_
  refine w_ri h_m293 (z_at.mk 1 rfl rfl) rfl rfl ?_
  show z_W 997 102 71 [(0, .ref 120), (1, .ref 4), (2, .int (0 : Int32)), (3, .int (6 : Int32)), (4, .int (31 : Int32)), (5, .int (35 : Int32))] [.int (36 : Int32), .int (35 : Int32)] m _
  refine w_p h_m102 3 (pc' := 77) (L' := [(0, .ref 120), (1, .ref 4), (2, .int (0 : Int32)), (3, .int (6 : Int32)), (4, .int (31 : Int32)), (5, .int (35 : Int32))]) (st' := [.int (35 : Int32), .ref 4]) rfl ?_
  refine w_cv (H.te (by decide) rfl).1 (pc' := 80) (L' := [(0, .ref 120), (1, .ref 4), (2, .int (0 : Int32)), (3, .int (6 : Int32)), (4, .int (31 : Int32)), (5, .int (35 : Int32))]) (rest := []) (Ps := [.int (35 : Int32)]) (L0 := [(0, .ref 4), (1, .int (35 : Int32))]) h_m102 (z_at.mk 3 rfl rfl) (Or.inl ⟨rfl, rfl⟩) rfl rfl (by decide) (by decide) rfl rfl rfl rfl rfl rfl (by decide) rfl rfl rfl ?_
  refine w_p h_m294 1 (pc' := 1) (L' := [(0, .ref 4), (1, .int (35 : Int32))]) (st' := [.ref 4]) rfl ?_
  refine w_cv (H.te (by decide) rfl).1 (pc' := 4) (L' := [(0, .ref 4), (1, .int (35 : Int32))]) (rest := []) (Ps := []) (L0 := [(0, .ref 4)]) h_m294 (z_at.mk 3 rfl rfl) (Or.inl ⟨rfl, rfl⟩) rfl rfl (by decide) (by decide) rfl rfl rfl rfl rfl rfl (by decide) rfl rfl rfl ?_
  refine w_p h_m299 3 (pc' := 7) (L' := [(0, .ref 4)]) (st' := [.ref 4]) rfl ?_
  refine w_gs H (pc' := 10) (L' := [(0, .ref 4)]) h_m299 (z_at.mk 3 rfl rfl) rfl (by decide) rfl rfl rfl rfl ?_
  refine w_p h_m299 3 (pc' := 18) (L' := []) (st' := [.int (1 : Int32)]) rfl ?_
  refine w_ri h_m299 (z_at.mk 1 rfl rfl) rfl rfl ?_
  show z_W 996 294 4 [(0, .ref 4), (1, .int (35 : Int32))] [.int (1 : Int32)] m _
  refine w_p h_m294 2 (pc' := 8) (L' := [(0, .ref 4), (1, .int (35 : Int32))]) (st' := [.ref 4]) rfl ?_
  refine w_gs H (pc' := 11) (L' := [(0, .ref 4), (1, .int (35 : Int32))]) h_m294 (z_at.mk 3 rfl rfl) rfl (by decide) rfl rfl rfl rfl ?_
  refine w_p h_m294 1 (pc' := 12) (L' := [(0, .ref 4), (1, .int (35 : Int32))]) (st' := [.int (35 : Int32), .ref 22]) rfl ?_
  refine w_cs (As := [.ref 22, .int (35 : Int32)]) (rest := []) (j := 308) (L0 := [(0, .ref 22), (1, .int (35 : Int32))]) (pc' := 15) (L' := [(0, .ref 4), (1, .int (35 : Int32))]) h_m294 (z_at.mk 3 rfl rfl) (Or.inl ⟨rfl, rfl⟩) rfl rfl rfl rfl rfl ?_
  refine w_p h_m308 2 (pc' := 2) (L' := [(0, .ref 22), (1, .int (35 : Int32))]) (st' := [.ref 22, .int (35 : Int32)]) rfl ?_
  refine w_lene H (x := (36 : Int32)) (pc' := 3) (L' := [(0, .ref 22), (1, .int (35 : Int32))]) h_m308 (z_at.mk 1 rfl rfl) (by decide) rfl (by decide) rfl rfl rfl ?_
  refine w_ci (pc' := 6) (L' := [(0, .ref 22), (1, .int (35 : Int32))]) h_m308 (z_at.mk 3 rfl rfl) rfl (z_cat_le 0 rfl (by decide)) ⟨by decide, by decide⟩ rfl rfl ?_
  refine w_p h_m308 2 (pc' := 8) (L' := [(0, .ref 22), (1, .int (35 : Int32))]) (st' := [.int (35 : Int32), .ref 22]) rfl ?_
  refine w_ae H (j := 35) (pc' := 9) (L' := [(0, .ref 22), (1, .int (35 : Int32))]) h_m308 (z_at.mk 1 rfl rfl) rfl rfl rfl (by decide) rfl (by decide) rfl rfl rfl ?_
  refine w_p h_m308 3 (pc' := 14) (L' := [(0, .ref 22), (1, .int (35 : Int32))]) (st' := [.int (115 : Int32)]) rfl ?_
  refine w_ri h_m308 (z_at.mk 1 rfl rfl) rfl rfl ?_
  show z_W 996 294 15 [(0, .ref 4), (1, .int (35 : Int32))] [.int (115 : Int32)] m _
  refine w_ri h_m294 (z_at.mk 1 rfl rfl) rfl rfl ?_
  show z_W 997 102 80 [(0, .ref 120), (1, .ref 4), (2, .int (0 : Int32)), (3, .int (6 : Int32)), (4, .int (31 : Int32)), (5, .int (35 : Int32))] [.int (115 : Int32)] m _
  refine w_p h_m102 6 (pc' := 59) (L' := [(0, .ref 120), (1, .ref 4), (2, .int (0 : Int32)), (3, .int (6 : Int32)), (4, .int (31 : Int32)), (5, .int (36 : Int32))]) (st' := [.ref 4, .int (36 : Int32)]) rfl ?_
  refine w_cv (H.te (by decide) rfl).1 (pc' := 62) (L' := [(0, .ref 120), (1, .ref 4), (2, .int (0 : Int32)), (3, .int (6 : Int32)), (4, .int (31 : Int32)), (5, .int (36 : Int32))]) (rest := [.int (36 : Int32)]) (Ps := []) (L0 := [(0, .ref 4)]) h_m102 (z_at.mk 3 rfl rfl) (Or.inl ⟨rfl, rfl⟩) rfl rfl (by decide) (by decide) rfl rfl rfl rfl rfl rfl (by decide) rfl rfl rfl ?_
  refine w_p h_m293 1 (pc' := 1) (L' := [(0, .ref 4)]) (st' := [.ref 4]) rfl ?_
  refine w_gs H (pc' := 4) (L' := [(0, .ref 4)]) h_m293 (z_at.mk 3 rfl rfl) rfl (by decide) rfl rfl rfl rfl ?_
  refine w_lene H (x := (36 : Int32)) (pc' := 5) (L' := [(0, .ref 4)]) h_m293 (z_at.mk 1 rfl rfl) (by decide) rfl (by decide) rfl rfl rfl ?_
  refine w_p h_m293 1 (pc' := 6) (L' := [(0, .ref 4)]) (st' := [.ref 4, .int (36 : Int32)]) rfl ?_
  refine w_cv (H.te (by decide) rfl).1 (pc' := 9) (L' := [(0, .ref 4)]) (rest := [.int (36 : Int32)]) (Ps := []) (L0 := [(0, .ref 4)]) h_m293 (z_at.mk 3 rfl rfl) (Or.inl ⟨rfl, rfl⟩) rfl rfl (by decide) (by decide) rfl rfl rfl rfl rfl rfl (by decide) rfl rfl rfl ?_
  refine w_p h_m298 3 (pc' := 7) (L' := [(0, .ref 4)]) (st' := [.ref 4]) rfl ?_
  refine w_gs H (pc' := 10) (L' := [(0, .ref 4)]) h_m298 (z_at.mk 3 rfl rfl) rfl (by decide) rfl rfl rfl rfl ?_
  refine w_p h_m298 1 (pc' := 14) (L' := []) (st' := [.int (0 : Int32)]) rfl ?_
  refine w_ri h_m298 (z_at.mk 1 rfl rfl) rfl rfl ?_
  show z_W 996 293 9 [(0, .ref 4)] [.int (0 : Int32), .int (36 : Int32)] m _
  refine w_p h_m293 1 (pc' := 10) (L' := [(0, .ref 4)]) (st' := [.int (36 : Int32)]) rfl ?_
  refine w_ri h_m293 (z_at.mk 1 rfl rfl) rfl rfl ?_
  show z_W 997 102 62 [(0, .ref 120), (1, .ref 4), (2, .int (0 : Int32)), (3, .int (6 : Int32)), (4, .int (31 : Int32)), (5, .int (36 : Int32))] [.int (36 : Int32), .int (36 : Int32)] m _
  refine w_p h_m102 3 (pc' := 68) (L' := [(0, .ref 120), (1, .ref 4), (2, .int (0 : Int32)), (3, .int (6 : Int32)), (4, .int (31 : Int32)), (5, .int (36 : Int32))]) (st' := [.ref 4, .int (36 : Int32)]) rfl ?_
  refine w_cv (H.te (by decide) rfl).1 (pc' := 71) (L' := [(0, .ref 120), (1, .ref 4), (2, .int (0 : Int32)), (3, .int (6 : Int32)), (4, .int (31 : Int32)), (5, .int (36 : Int32))]) (rest := [.int (36 : Int32)]) (Ps := []) (L0 := [(0, .ref 4)]) h_m102 (z_at.mk 3 rfl rfl) (Or.inl ⟨rfl, rfl⟩) rfl rfl (by decide) (by decide) rfl rfl rfl rfl rfl rfl (by decide) rfl rfl rfl ?_
  refine w_p h_m293 1 (pc' := 1) (L' := [(0, .ref 4)]) (st' := [.ref 4]) rfl ?_
  refine w_gs H (pc' := 4) (L' := [(0, .ref 4)]) h_m293 (z_at.mk 3 rfl rfl) rfl (by decide) rfl rfl rfl rfl ?_
  refine w_lene H (x := (36 : Int32)) (pc' := 5) (L' := [(0, .ref 4)]) h_m293 (z_at.mk 1 rfl rfl) (by decide) rfl (by decide) rfl rfl rfl ?_
  refine w_p h_m293 1 (pc' := 6) (L' := [(0, .ref 4)]) (st' := [.ref 4, .int (36 : Int32)]) rfl ?_
  refine w_cv (H.te (by decide) rfl).1 (pc' := 9) (L' := [(0, .ref 4)]) (rest := [.int (36 : Int32)]) (Ps := []) (L0 := [(0, .ref 4)]) h_m293 (z_at.mk 3 rfl rfl) (Or.inl ⟨rfl, rfl⟩) rfl rfl (by decide) (by decide) rfl rfl rfl rfl rfl rfl (by decide) rfl rfl rfl ?_
  refine w_p h_m298 3 (pc' := 7) (L' := [(0, .ref 4)]) (st' := [.ref 4]) rfl ?_
  refine w_gs H (pc' := 10) (L' := [(0, .ref 4)]) h_m298 (z_at.mk 3 rfl rfl) rfl (by decide) rfl rfl rfl rfl ?_
  refine w_p h_m298 1 (pc' := 14) (L' := []) (st' := [.int (0 : Int32)]) rfl ?_
  refine w_ri h_m298 (z_at.mk 1 rfl rfl) rfl rfl ?_
  show z_W 996 293 9 [(0, .ref 4)] [.int (0 : Int32), .int (36 : Int32)] m _
  refine w_p h_m293 1 (pc' := 10) (L' := [(0, .ref 4)]) (st' := [.int (36 : Int32)]) rfl ?_
  refine w_ri h_m293 (z_at.mk 1 rfl rfl) rfl rfl ?_
  show z_W 997 102 71 [(0, .ref 120), (1, .ref 4), (2, .int (0 : Int32)), (3, .int (6 : Int32)), (4, .int (31 : Int32)), (5, .int (36 : Int32))] [.int (36 : Int32), .int (36 : Int32)] m _
  refine w_p h_m102 6 (pc' := 92) (L' := [(0, .ref 120), (1, .ref 4), (2, .int (0 : Int32)), (3, .int (6 : Int32)), (4, .int (31 : Int32)), (5, .int (36 : Int32))]) (st' := [.int (0 : Int32), .int (36 : Int32), .int (31 : Int32), .ref 4, .ref 120]) rfl ?_
  refine w_cv (H.t rfl) (pc' := 95) (L' := [(0, .ref 120), (1, .ref 4), (2, .int (0 : Int32)), (3, .int (6 : Int32)), (4, .int (31 : Int32)), (5, .int (36 : Int32))]) (rest := []) (Ps := [.ref 4, .int (31 : Int32), .int (36 : Int32), .int (0 : Int32)]) (L0 := [(0, .ref 120), (1, .ref 4), (2, .int (31 : Int32)), (3, .int (36 : Int32)), (4, .int (0 : Int32))]) h_m102 (z_at.mk 3 rfl rfl) (Or.inl ⟨rfl, rfl⟩) rfl rfl (by decide) (by decide) rfl rfl rfl rfl rfl rfl (by decide) rfl rfl rfl ?_
  refine w_p h_m103 1 (pc' := 1) (L' := [(0, .ref 120), (1, .ref 4), (2, .int (31 : Int32)), (3, .int (36 : Int32)), (4, .int (0 : Int32))]) (st' := [.ref 120]) rfl ?_
  refine w_cv (H.t rfl) (pc' := 4) (L' := [(0, .ref 120), (1, .ref 4), (2, .int (31 : Int32)), (3, .int (36 : Int32)), (4, .int (0 : Int32))]) (rest := []) (Ps := []) (L0 := [(0, .ref 120)]) h_m103 (z_at.mk 3 rfl rfl) (Or.inl ⟨rfl, rfl⟩) rfl rfl (by decide) (by decide) rfl rfl rfl rfl rfl rfl (by decide) rfl rfl rfl ?_
  refine w_p h_m93 1 (pc' := 1) (L' := [(0, .ref 120)]) (st' := [.ref 120]) rfl ?_
  refine w_gf H (pc' := 4) (L' := [(0, .ref 120)]) h_m93 (z_at.mk 3 rfl rfl) rfl (u := .int (-1 : Int32)) rfl rfl rfl ?_
  refine w_p h_m93 4 (pc' := 13) (L' := []) (st' := [.int (1 : Int32)]) rfl ?_
  refine w_ri h_m93 (z_at.mk 1 rfl rfl) rfl rfl ?_
  show z_W 996 103 4 [(0, .ref 120), (1, .ref 4), (2, .int (31 : Int32)), (3, .int (36 : Int32)), (4, .int (0 : Int32))] [.int (1 : Int32)] m _
  refine w_p h_m103 4 (pc' := 13) (L' := [(0, .ref 120), (1, .ref 4), (2, .int (31 : Int32)), (3, .int (36 : Int32)), (4, .int (0 : Int32))]) (st' := [.ref 120]) rfl ?_
  refine w_gf H (pc' := 16) (L' := [(0, .ref 120), (1, .ref 4), (2, .int (31 : Int32)), (3, .int (36 : Int32)), (4, .int (0 : Int32))]) h_m103 (z_at.mk 3 rfl rfl) rfl (u := .int (0 : Int32)) rfl rfl rfl ?_
  refine w_p h_m103 3 (pc' := 23) (L' := [(0, .ref 120), (1, .ref 4), (2, .int (31 : Int32)), (3, .int (36 : Int32)), (4, .int (0 : Int32))]) (st' := [.ref 120]) rfl ?_
  refine w_gf H (pc' := 26) (L' := [(0, .ref 120), (1, .ref 4), (2, .int (31 : Int32)), (3, .int (36 : Int32)), (4, .int (0 : Int32))]) h_m103 (z_at.mk 3 rfl rfl) rfl (u := .int (0 : Int32)) rfl rfl rfl ?_
  refine w_p h_m103 7 (pc' := 36) (L' := []) (st' := [.int (0 : Int32)]) rfl ?_
  refine w_ri h_m103 (z_at.mk 1 rfl rfl) rfl rfl ?_
  show z_W 997 102 95 [(0, .ref 120), (1, .ref 4), (2, .int (0 : Int32)), (3, .int (6 : Int32)), (4, .int (31 : Int32)), (5, .int (36 : Int32))] [.int (0 : Int32)] m _
  refine w_p h_m102 10 (pc' := 59) (L' := [(0, .ref 120), (1, .ref 4), (2, .int (0 : Int32)), (3, .int (7 : Int32)), (4, .int (37 : Int32)), (5, .int (37 : Int32))]) (st' := [.ref 4, .int (37 : Int32)]) rfl ?_
  refine w_cv (H.te (by decide) rfl).1 (pc' := 62) (L' := [(0, .ref 120), (1, .ref 4), (2, .int (0 : Int32)), (3, .int (7 : Int32)), (4, .int (37 : Int32)), (5, .int (37 : Int32))]) (rest := [.int (37 : Int32)]) (Ps := []) (L0 := [(0, .ref 4)]) h_m102 (z_at.mk 3 rfl rfl) (Or.inl ⟨rfl, rfl⟩) rfl rfl (by decide) (by decide) rfl rfl rfl rfl rfl rfl (by decide) rfl rfl rfl ?_
  refine w_p h_m293 1 (pc' := 1) (L' := [(0, .ref 4)]) (st' := [.ref 4]) rfl ?_
  refine w_gs H (pc' := 4) (L' := [(0, .ref 4)]) h_m293 (z_at.mk 3 rfl rfl) rfl (by decide) rfl rfl rfl rfl ?_
  refine w_lene H (x := (36 : Int32)) (pc' := 5) (L' := [(0, .ref 4)]) h_m293 (z_at.mk 1 rfl rfl) (by decide) rfl (by decide) rfl rfl rfl ?_
  refine w_p h_m293 1 (pc' := 6) (L' := [(0, .ref 4)]) (st' := [.ref 4, .int (36 : Int32)]) rfl ?_
  refine w_cv (H.te (by decide) rfl).1 (pc' := 9) (L' := [(0, .ref 4)]) (rest := [.int (36 : Int32)]) (Ps := []) (L0 := [(0, .ref 4)]) h_m293 (z_at.mk 3 rfl rfl) (Or.inl ⟨rfl, rfl⟩) rfl rfl (by decide) (by decide) rfl rfl rfl rfl rfl rfl (by decide) rfl rfl rfl ?_
  refine w_p h_m298 3 (pc' := 7) (L' := [(0, .ref 4)]) (st' := [.ref 4]) rfl ?_
  refine w_gs H (pc' := 10) (L' := [(0, .ref 4)]) h_m298 (z_at.mk 3 rfl rfl) rfl (by decide) rfl rfl rfl rfl ?_
  refine w_p h_m298 1 (pc' := 14) (L' := []) (st' := [.int (0 : Int32)]) rfl ?_
  refine w_ri h_m298 (z_at.mk 1 rfl rfl) rfl rfl ?_
  show z_W 996 293 9 [(0, .ref 4)] [.int (0 : Int32), .int (36 : Int32)] m _
  refine w_p h_m293 1 (pc' := 10) (L' := [(0, .ref 4)]) (st' := [.int (36 : Int32)]) rfl ?_
  refine w_ri h_m293 (z_at.mk 1 rfl rfl) rfl rfl ?_
  show z_W 997 102 62 [(0, .ref 120), (1, .ref 4), (2, .int (0 : Int32)), (3, .int (7 : Int32)), (4, .int (37 : Int32)), (5, .int (37 : Int32))] [.int (36 : Int32), .int (37 : Int32)] m _
  refine w_p h_m102 3 (pc' := 117) (L' := [(0, .ref 120), (1, .ref 4), (2, .int (0 : Int32)), (3, .int (7 : Int32)), (4, .int (37 : Int32)), (5, .int (37 : Int32))]) (st' := [.int (0 : Int32), .ref 120]) rfl ?_
  refine w_cv (H.t rfl) (pc' := 120) (L' := [(0, .ref 120), (1, .ref 4), (2, .int (0 : Int32)), (3, .int (7 : Int32)), (4, .int (37 : Int32)), (5, .int (37 : Int32))]) (rest := []) (Ps := [.int (0 : Int32)]) (L0 := [(0, .ref 120), (1, .int (0 : Int32))]) h_m102 (z_at.mk 3 rfl rfl) (Or.inl ⟨rfl, rfl⟩) rfl rfl (by decide) (by decide) rfl rfl rfl rfl rfl rfl (by decide) rfl rfl rfl ?_
  refine w_p h_m95 1 (pc' := 1) (L' := [(0, .ref 120), (1, .int (0 : Int32))]) (st' := [.ref 120]) rfl ?_
  refine w_gf H (pc' := 4) (L' := [(0, .ref 120), (1, .int (0 : Int32))]) h_m95 (z_at.mk 3 rfl rfl) rfl (u := .int (-1 : Int32)) rfl rfl rfl ?_
  refine w_p h_m95 4 (pc' := 10) (L' := [(0, .ref 120), (1, .int (0 : Int32))]) (st' := [.int (0 : Int32), .ref 120]) rfl ?_
  refine w_pf H (19, 4, [(3, .int (0 : Int32)), (2, .int (0 : Int32)), (1, .int (0 : Int32)), (0, .ref 121)], none) (pc' := 13) (L' := []) h_m95 (z_at.mk 3 rfl rfl) rfl (by decide) rfl (Or.inl rfl) rfl rfl rfl ?_
  clear H m; intro m H
  refine w_rv h_m95 (z_at.mk 1 rfl rfl) rfl ?_
  show z_W 997 102 120 [(0, .ref 120), (1, .ref 4), (2, .int (0 : Int32)), (3, .int (7 : Int32)), (4, .int (37 : Int32)), (5, .int (37 : Int32))] [] m _
  refine w_p h_m102 1 (pc' := 121) (L' := [(0, .ref 120), (1, .ref 4), (2, .int (0 : Int32)), (3, .int (7 : Int32)), (4, .int (37 : Int32)), (5, .int (37 : Int32))]) (st' := [.int (-1 : Int32)]) rfl ?_
  refine w_ri h_m102 (z_at.mk 1 rfl rfl) rfl rfl ?_
  show z_W 998 66 33 [(0, .ref 122), (1, .int (1 : Int32)), (2, .int (0 : Int32))] [.int (-1 : Int32), .int (0 : Int32), .ref 123] m _
  refine w_as H (t := 0) (j := 0) (u := .int (-1 : Int32)) (0, 8, [(0, .int (-1 : Int32))], some (.int (0 : Int32))) (pc' := 34) (L' := [(0, .ref 122), (1, .int (1 : Int32)), (2, .int (0 : Int32))]) h_m66 (z_at.mk 1 rfl rfl) rfl rfl (w_ui _ _ (by decide)) rfl rfl rfl rfl ?_
  clear H m; intro m H
  refine w_p h_m66 1 (pc' := 35) (L' := [(0, .ref 122), (1, .int (1 : Int32)), (2, .int (0 : Int32))]) (st' := [.ref 122]) rfl ?_
  refine w_gf H (pc' := 38) (L' := [(0, .ref 122), (1, .int (1 : Int32)), (2, .int (0 : Int32))]) h_m66 (z_at.mk 3 rfl rfl) rfl (u := .ref 120) rfl rfl rfl ?_
  refine w_p h_m66 1 (pc' := 40) (L' := [(0, .ref 122), (1, .int (1 : Int32)), (2, .int (0 : Int32))]) (st' := [.int (32 : Int32), .ref 120]) rfl ?_
  refine w_cv (H.t rfl) (pc' := 43) (L' := [(0, .ref 122), (1, .int (1 : Int32)), (2, .int (0 : Int32))]) (rest := []) (Ps := [.int (32 : Int32)]) (L0 := [(0, .ref 120), (1, .int (32 : Int32))]) h_m66 (z_at.mk 3 rfl rfl) (Or.inl ⟨rfl, rfl⟩) rfl rfl (by decide) (by decide) rfl rfl rfl rfl rfl rfl (by decide) rfl rfl rfl ?_
  refine w_p h_m98 1 (pc' := 1) (L' := [(0, .ref 120), (1, .int (32 : Int32))]) (st' := [.ref 120]) rfl ?_
  refine w_cv (H.t rfl) (pc' := 4) (L' := [(0, .ref 120), (1, .int (32 : Int32))]) (rest := []) (Ps := []) (L0 := [(0, .ref 120)]) h_m98 (z_at.mk 3 rfl rfl) (Or.inl ⟨rfl, rfl⟩) rfl rfl (by decide) (by decide) rfl rfl rfl rfl rfl rfl (by decide) rfl rfl rfl ?_
  refine w_p h_m96 1 (pc' := 1) (L' := [(0, .ref 120)]) (st' := [.ref 120]) rfl ?_
  refine w_gf H (pc' := 4) (L' := [(0, .ref 120)]) h_m96 (z_at.mk 3 rfl rfl) rfl (u := .int (0 : Int32)) rfl rfl rfl ?_
  refine w_p h_m96 3 (pc' := 49) (L' := []) (st' := [.int (0 : Int32)]) rfl ?_
  refine w_ri h_m96 (z_at.mk 1 rfl rfl) rfl rfl ?_
  show z_W 997 98 4 [(0, .ref 120), (1, .int (32 : Int32))] [.int (0 : Int32)] m _
  refine w_p h_m98 4 (pc' := 23) (L' := [(0, .ref 120), (1, .int (32 : Int32))]) (st' := [.ref 120, .ref 120]) rfl ?_
  refine w_gf H (pc' := 26) (L' := [(0, .ref 120), (1, .int (32 : Int32))]) h_m98 (z_at.mk 3 rfl rfl) rfl (u := .int (0 : Int32)) rfl rfl rfl ?_
  refine w_cv (H.t rfl) (pc' := 29) (L' := []) (rest := []) (Ps := [.int (0 : Int32)]) (L0 := [(0, .ref 120), (1, .int (0 : Int32))]) h_m98 (z_at.mk 3 rfl rfl) (Or.inl ⟨rfl, rfl⟩) rfl rfl (by decide) (by decide) rfl rfl rfl rfl rfl rfl (by decide) rfl rfl rfl ?_
  refine w_p h_m95 1 (pc' := 1) (L' := [(0, .ref 120), (1, .int (0 : Int32))]) (st' := [.ref 120]) rfl ?_
  refine w_gf H (pc' := 4) (L' := [(0, .ref 120), (1, .int (0 : Int32))]) h_m95 (z_at.mk 3 rfl rfl) rfl (u := .int (0 : Int32)) rfl rfl rfl ?_
  refine w_p h_m95 2 (pc' := 13) (L' := []) (st' := []) rfl ?_
  refine w_rv h_m95 (z_at.mk 1 rfl rfl) rfl ?_
  show z_W 997 98 29 [] [] m _
  refine w_rv h_m98 (z_at.mk 1 rfl rfl) rfl ?_
  show z_W 998 66 43 [(0, .ref 122), (1, .int (1 : Int32)), (2, .int (0 : Int32))] [] m _
  refine w_p h_m66 1 (pc' := 44) (L' := [(0, .ref 122), (1, .int (1 : Int32)), (2, .int (0 : Int32))]) (st' := [.ref 122]) rfl ?_
  refine w_gf H (pc' := 47) (L' := [(0, .ref 122), (1, .int (1 : Int32)), (2, .int (0 : Int32))]) h_m66 (z_at.mk 3 rfl rfl) rfl (u := .ref 124) rfl rfl rfl ?_
  refine w_p h_m66 2 (pc' := 49) (L' := [(0, .ref 122), (1, .int (1 : Int32)), (2, .int (0 : Int32))]) (st' := [.ref 122, .int (0 : Int32), .ref 124]) rfl ?_
  refine w_gf H (pc' := 52) (L' := [(0, .ref 122), (1, .int (1 : Int32)), (2, .int (0 : Int32))]) h_m66 (z_at.mk 3 rfl rfl) rfl (u := .ref 120) rfl rfl rfl ?_
  refine w_cv (H.t rfl) (pc' := 55) (L' := [(0, .ref 122), (1, .int (1 : Int32)), (2, .int (0 : Int32))]) (rest := [.int (0 : Int32), .ref 124]) (Ps := []) (L0 := [(0, .ref 120)]) h_m66 (z_at.mk 3 rfl rfl) (Or.inl ⟨rfl, rfl⟩) rfl rfl (by decide) (by decide) rfl rfl rfl rfl rfl rfl (by decide) rfl rfl rfl ?_
  refine w_p h_m105 1 (pc' := 1) (L' := [(0, .ref 120)]) (st' := [.ref 120]) rfl ?_
  refine w_cv (H.t rfl) (pc' := 4) (L' := [(0, .ref 120)]) (rest := []) (Ps := []) (L0 := [(0, .ref 120)]) h_m105 (z_at.mk 3 rfl rfl) (Or.inl ⟨rfl, rfl⟩) rfl rfl (by decide) (by decide) rfl rfl rfl rfl rfl rfl (by decide) rfl rfl rfl ?_
  refine w_p h_m106 2 (pc' := 3) (L' := [(0, .ref 120)]) (st' := [.int (42 : Int32), .ref 120]) rfl ?_
  refine w_cv (H.t rfl) (pc' := 6) (L' := [(0, .ref 120)]) (rest := []) (Ps := [.int (42 : Int32)]) (L0 := [(0, .ref 120), (1, .int (42 : Int32))]) h_m106 (z_at.mk 3 rfl rfl) (Or.inl ⟨rfl, rfl⟩) rfl rfl (by decide) (by decide) rfl rfl rfl rfl rfl rfl (by decide) rfl rfl rfl ?_
  refine w_p h_m97 1 (pc' := 1) (L' := [(0, .ref 120), (1, .int (42 : Int32))]) (st' := [.ref 120]) rfl ?_
  refine w_cv (H.t rfl) (pc' := 4) (L' := [(0, .ref 120), (1, .int (42 : Int32))]) (rest := []) (Ps := []) (L0 := [(0, .ref 120)]) h_m97 (z_at.mk 3 rfl rfl) (Or.inl ⟨rfl, rfl⟩) rfl rfl (by decide) (by decide) rfl rfl rfl rfl rfl rfl (by decide) rfl rfl rfl ?_
  refine w_p h_m96 1 (pc' := 1) (L' := [(0, .ref 120)]) (st' := [.ref 120]) rfl ?_
  refine w_gf H (pc' := 4) (L' := [(0, .ref 120)]) h_m96 (z_at.mk 3 rfl rfl) rfl (u := .int (0 : Int32)) rfl rfl rfl ?_
  refine w_p h_m96 3 (pc' := 49) (L' := []) (st' := [.int (0 : Int32)]) rfl ?_
  refine w_ri h_m96 (z_at.mk 1 rfl rfl) rfl rfl ?_
  show z_W 995 97 4 [(0, .ref 120), (1, .int (42 : Int32))] [.int (0 : Int32)] m _
  refine w_p h_m97 3 (pc' := 9) (L' := [(0, .ref 120), (1, .int (42 : Int32))]) (st' := [.int (0 : Int32)]) rfl ?_
  refine w_ri h_m97 (z_at.mk 1 rfl rfl) rfl rfl ?_
  show z_W 996 106 6 [(0, .ref 120)] [.int (0 : Int32)] m _
  refine w_p h_m106 5 (pc' := 17) (L' := [(0, .ref 120)]) (st' := [.int (31 : Int32), .int (0 : Int32), .int (2 : Int32), .ref 120]) rfl ?_
  refine w_cv (H.t rfl) (pc' := 20) (L' := [(0, .ref 120)]) (rest := []) (Ps := [.int (2 : Int32), .int (0 : Int32), .int (31 : Int32)]) (L0 := [(0, .ref 120), (1, .int (2 : Int32)), (2, .int (0 : Int32)), (3, .int (31 : Int32))]) h_m106 (z_at.mk 3 rfl rfl) (Or.inl ⟨rfl, rfl⟩) rfl rfl (by decide) (by decide) rfl rfl rfl rfl rfl rfl (by decide) rfl rfl rfl ?_
  refine w_p h_m101 1 (pc' := 1) (L' := [(0, .ref 120), (1, .int (2 : Int32)), (2, .int (0 : Int32)), (3, .int (31 : Int32))]) (st' := [.ref 120]) rfl ?_
  refine w_gf H (pc' := 4) (L' := [(0, .ref 120), (1, .int (2 : Int32)), (2, .int (0 : Int32)), (3, .int (31 : Int32))]) h_m101 (z_at.mk 3 rfl rfl) rfl (u := .int (0 : Int32)) rfl rfl rfl ?_
  refine w_p h_m101 9 (pc' := 19) (L' := [(0, .ref 120), (1, .int (2 : Int32)), (2, .int (0 : Int32)), (3, .int (31 : Int32)), (4, .int (0 : Int32)), (5, .int (0 : Int32)), (6, .int (0 : Int32))]) (st' := [.ref 120]) rfl ?_
  refine w_cv (H.t rfl) (pc' := 22) (L' := [(0, .ref 120), (1, .int (2 : Int32)), (2, .int (0 : Int32)), (3, .int (31 : Int32)), (4, .int (0 : Int32)), (5, .int (0 : Int32)), (6, .int (0 : Int32))]) (rest := []) (Ps := []) (L0 := [(0, .ref 120)]) h_m101 (z_at.mk 3 rfl rfl) (Or.inl ⟨rfl, rfl⟩) rfl rfl (by decide) (by decide) rfl rfl rfl rfl rfl rfl (by decide) rfl rfl rfl ?_
  refine w_p h_m96 1 (pc' := 1) (L' := [(0, .ref 120)]) (st' := [.ref 120]) rfl ?_
  refine w_gf H (pc' := 4) (L' := [(0, .ref 120)]) h_m96 (z_at.mk 3 rfl rfl) rfl (u := .int (0 : Int32)) rfl rfl rfl ?_
  refine w_p h_m96 3 (pc' := 49) (L' := []) (st' := [.int (0 : Int32)]) rfl ?_
  refine w_ri h_m96 (z_at.mk 1 rfl rfl) rfl rfl ?_
  show z_W 995 101 22 [(0, .ref 120), (1, .int (2 : Int32)), (2, .int (0 : Int32)), (3, .int (31 : Int32)), (4, .int (0 : Int32)), (5, .int (0 : Int32)), (6, .int (0 : Int32))] [.int (0 : Int32)] m _
  refine w_p h_m101 3 (pc' := 68) (L' := [(0, .ref 120), (2, .int (0 : Int32)), (3, .int (31 : Int32)), (4, .int (0 : Int32)), (5, .int (0 : Int32))]) (st' := [.ref 120]) rfl ?_
  refine w_gf H (pc' := 71) (L' := [(0, .ref 120), (2, .int (0 : Int32)), (3, .int (31 : Int32)), (4, .int (0 : Int32)), (5, .int (0 : Int32))]) h_m101 (z_at.mk 3 rfl rfl) rfl (u := .int (0 : Int32)) rfl rfl rfl ?_
  refine w_p h_m101 4 (pc' := 91) (L' := [(0, .ref 120), (4, .int (0 : Int32)), (5, .int (0 : Int32))]) (st' := [.int (0 : Int32), .ref 120]) rfl ?_
  refine w_cv (H.t rfl) (pc' := 94) (L' := [(5, .int (0 : Int32))]) (rest := []) (Ps := [.int (0 : Int32)]) (L0 := [(0, .ref 120), (1, .int (0 : Int32))]) h_m101 (z_at.mk 3 rfl rfl) (Or.inl ⟨rfl, rfl⟩) rfl rfl (by decide) (by decide) rfl rfl rfl rfl rfl rfl (by decide) rfl rfl rfl ?_
  refine w_p h_m95 1 (pc' := 1) (L' := [(0, .ref 120), (1, .int (0 : Int32))]) (st' := [.ref 120]) rfl ?_
  refine w_gf H (pc' := 4) (L' := [(0, .ref 120), (1, .int (0 : Int32))]) h_m95 (z_at.mk 3 rfl rfl) rfl (u := .int (0 : Int32)) rfl rfl rfl ?_
  refine w_p h_m95 2 (pc' := 13) (L' := []) (st' := []) rfl ?_
  refine w_rv h_m95 (z_at.mk 1 rfl rfl) rfl ?_
  show z_W 995 101 94 [(5, .int (0 : Int32))] [] m _
  refine w_p h_m101 1 (pc' := 96) (L' := [(5, .int (0 : Int32))]) (st' := [.int (0 : Int32)]) rfl ?_
  refine w_ri h_m101 (z_at.mk 1 rfl rfl) rfl rfl ?_
  show z_W 996 106 20 [(0, .ref 120)] [.int (0 : Int32)] m _
  refine w_p h_m106 6 (pc' := 28) (L' := [(1, .int (0 : Int32)), (0, .ref 120)]) (st' := [.int (45 : Int32), .ref 120, .int (0 : Int32)]) rfl ?_
  refine w_cv (H.t rfl) (pc' := 31) (L' := [(1, .int (0 : Int32)), (0, .ref 120)]) (rest := [.int (0 : Int32)]) (Ps := [.int (45 : Int32)]) (L0 := [(0, .ref 120), (1, .int (45 : Int32))]) h_m106 (z_at.mk 3 rfl rfl) (Or.inl ⟨rfl, rfl⟩) rfl rfl (by decide) (by decide) rfl rfl rfl rfl rfl rfl (by decide) rfl rfl rfl ?_
  refine w_p h_m97 1 (pc' := 1) (L' := [(0, .ref 120), (1, .int (45 : Int32))]) (st' := [.ref 120]) rfl ?_
  refine w_cv (H.t rfl) (pc' := 4) (L' := [(0, .ref 120), (1, .int (45 : Int32))]) (rest := []) (Ps := []) (L0 := [(0, .ref 120)]) h_m97 (z_at.mk 3 rfl rfl) (Or.inl ⟨rfl, rfl⟩) rfl rfl (by decide) (by decide) rfl rfl rfl rfl rfl rfl (by decide) rfl rfl rfl ?_
  refine w_p h_m96 1 (pc' := 1) (L' := [(0, .ref 120)]) (st' := [.ref 120]) rfl ?_
  refine w_gf H (pc' := 4) (L' := [(0, .ref 120)]) h_m96 (z_at.mk 3 rfl rfl) rfl (u := .int (0 : Int32)) rfl rfl rfl ?_
  refine w_p h_m96 3 (pc' := 49) (L' := []) (st' := [.int (0 : Int32)]) rfl ?_
  refine w_ri h_m96 (z_at.mk 1 rfl rfl) rfl rfl ?_
  show z_W 995 97 4 [(0, .ref 120), (1, .int (45 : Int32))] [.int (0 : Int32)] m _
  refine w_p h_m97 3 (pc' := 9) (L' := [(0, .ref 120), (1, .int (45 : Int32))]) (st' := [.int (0 : Int32)]) rfl ?_
  refine w_ri h_m97 (z_at.mk 1 rfl rfl) rfl rfl ?_
  show z_W 996 106 31 [(1, .int (0 : Int32)), (0, .ref 120)] [.int (0 : Int32), .int (0 : Int32)] m _
  refine w_p h_m106 3 (pc' := 47) (L' := []) (st' := [.int (0 : Int32)]) rfl ?_
  refine w_ri h_m106 (z_at.mk 1 rfl rfl) rfl rfl ?_
  show z_W 997 105 4 [(0, .ref 120)] [.int (0 : Int32)] m _
  refine w_p h_m105 3 (pc' := 8) (L' := [(1, .int (0 : Int32)), (0, .ref 120)]) (st' := [.int (32 : Int32), .ref 120]) rfl ?_
  refine w_cv (H.t rfl) (pc' := 11) (L' := [(1, .int (0 : Int32)), (0, .ref 120)]) (rest := []) (Ps := [.int (32 : Int32)]) (L0 := [(0, .ref 120), (1, .int (32 : Int32))]) h_m105 (z_at.mk 3 rfl rfl) (Or.inl ⟨rfl, rfl⟩) rfl rfl (by decide) (by decide) rfl rfl rfl rfl rfl rfl (by decide) rfl rfl rfl ?_
  refine w_p h_m98 1 (pc' := 1) (L' := [(0, .ref 120), (1, .int (32 : Int32))]) (st' := [.ref 120]) rfl ?_
  refine w_cv (H.t rfl) (pc' := 4) (L' := [(0, .ref 120), (1, .int (32 : Int32))]) (rest := []) (Ps := []) (L0 := [(0, .ref 120)]) h_m98 (z_at.mk 3 rfl rfl) (Or.inl ⟨rfl, rfl⟩) rfl rfl (by decide) (by decide) rfl rfl rfl rfl rfl rfl (by decide) rfl rfl rfl ?_
  refine w_p h_m96 1 (pc' := 1) (L' := [(0, .ref 120)]) (st' := [.ref 120]) rfl ?_
  refine w_gf H (pc' := 4) (L' := [(0, .ref 120)]) h_m96 (z_at.mk 3 rfl rfl) rfl (u := .int (0 : Int32)) rfl rfl rfl ?_
  refine w_p h_m96 3 (pc' := 49) (L' := []) (st' := [.int (0 : Int32)]) rfl ?_
  refine w_ri h_m96 (z_at.mk 1 rfl rfl) rfl rfl ?_
  show z_W 996 98 4 [(0, .ref 120), (1, .int (32 : Int32))] [.int (0 : Int32)] m _
  refine w_p h_m98 4 (pc' := 23) (L' := [(0, .ref 120), (1, .int (32 : Int32))]) (st' := [.ref 120, .ref 120]) rfl ?_
  refine w_gf H (pc' := 26) (L' := [(0, .ref 120), (1, .int (32 : Int32))]) h_m98 (z_at.mk 3 rfl rfl) rfl (u := .int (0 : Int32)) rfl rfl rfl ?_
  refine w_cv (H.t rfl) (pc' := 29) (L' := []) (rest := []) (Ps := [.int (0 : Int32)]) (L0 := [(0, .ref 120), (1, .int (0 : Int32))]) h_m98 (z_at.mk 3 rfl rfl) (Or.inl ⟨rfl, rfl⟩) rfl rfl (by decide) (by decide) rfl rfl rfl rfl rfl rfl (by decide) rfl rfl rfl ?_
  refine w_p h_m95 1 (pc' := 1) (L' := [(0, .ref 120), (1, .int (0 : Int32))]) (st' := [.ref 120]) rfl ?_
  refine w_gf H (pc' := 4) (L' := [(0, .ref 120), (1, .int (0 : Int32))]) h_m95 (z_at.mk 3 rfl rfl) rfl (u := .int (0 : Int32)) rfl rfl rfl ?_
  refine w_p h_m95 2 (pc' := 13) (L' := []) (st' := []) rfl ?_
  refine w_rv h_m95 (z_at.mk 1 rfl rfl) rfl ?_
  show z_W 996 98 29 [] [] m _
  refine w_rv h_m98 (z_at.mk 1 rfl rfl) rfl ?_
  show z_W 997 105 11 [(1, .int (0 : Int32)), (0, .ref 120)] [] m _
  refine w_p h_m105 1 (pc' := 12) (L' := [(1, .int (0 : Int32)), (0, .ref 120)]) (st' := [.ref 120]) rfl ?_
  refine w_cv (H.t rfl) (pc' := 15) (L' := [(1, .int (0 : Int32)), (0, .ref 120)]) (rest := []) (Ps := []) (L0 := [(0, .ref 120)]) h_m105 (z_at.mk 3 rfl rfl) (Or.inl ⟨rfl, rfl⟩) rfl rfl (by decide) (by decide) rfl rfl rfl rfl rfl rfl (by decide) rfl rfl rfl ?_
  refine w_p h_m106 2 (pc' := 3) (L' := [(0, .ref 120)]) (st' := [.int (42 : Int32), .ref 120]) rfl ?_
  refine w_cv (H.t rfl) (pc' := 6) (L' := [(0, .ref 120)]) (rest := []) (Ps := [.int (42 : Int32)]) (L0 := [(0, .ref 120), (1, .int (42 : Int32))]) h_m106 (z_at.mk 3 rfl rfl) (Or.inl ⟨rfl, rfl⟩) rfl rfl (by decide) (by decide) rfl rfl rfl rfl rfl rfl (by decide) rfl rfl rfl ?_
  refine w_p h_m97 1 (pc' := 1) (L' := [(0, .ref 120), (1, .int (42 : Int32))]) (st' := [.ref 120]) rfl ?_
  refine w_cv (H.t rfl) (pc' := 4) (L' := [(0, .ref 120), (1, .int (42 : Int32))]) (rest := []) (Ps := []) (L0 := [(0, .ref 120)]) h_m97 (z_at.mk 3 rfl rfl) (Or.inl ⟨rfl, rfl⟩) rfl rfl (by decide) (by decide) rfl rfl rfl rfl rfl rfl (by decide) rfl rfl rfl ?_
  refine w_p h_m96 1 (pc' := 1) (L' := [(0, .ref 120)]) (st' := [.ref 120]) rfl ?_
  refine w_gf H (pc' := 4) (L' := [(0, .ref 120)]) h_m96 (z_at.mk 3 rfl rfl) rfl (u := .int (0 : Int32)) rfl rfl rfl ?_
  refine w_p h_m96 3 (pc' := 49) (L' := []) (st' := [.int (0 : Int32)]) rfl ?_
  refine w_ri h_m96 (z_at.mk 1 rfl rfl) rfl rfl ?_
  show z_W 995 97 4 [(0, .ref 120), (1, .int (42 : Int32))] [.int (0 : Int32)] m _
  refine w_p h_m97 3 (pc' := 9) (L' := [(0, .ref 120), (1, .int (42 : Int32))]) (st' := [.int (0 : Int32)]) rfl ?_
  refine w_ri h_m97 (z_at.mk 1 rfl rfl) rfl rfl ?_
  show z_W 996 106 6 [(0, .ref 120)] [.int (0 : Int32)] m _
  refine w_p h_m106 5 (pc' := 17) (L' := [(0, .ref 120)]) (st' := [.int (31 : Int32), .int (0 : Int32), .int (2 : Int32), .ref 120]) rfl ?_
  refine w_cv (H.t rfl) (pc' := 20) (L' := [(0, .ref 120)]) (rest := []) (Ps := [.int (2 : Int32), .int (0 : Int32), .int (31 : Int32)]) (L0 := [(0, .ref 120), (1, .int (2 : Int32)), (2, .int (0 : Int32)), (3, .int (31 : Int32))]) h_m106 (z_at.mk 3 rfl rfl) (Or.inl ⟨rfl, rfl⟩) rfl rfl (by decide) (by decide) rfl rfl rfl rfl rfl rfl (by decide) rfl rfl rfl ?_
  refine w_p h_m101 1 (pc' := 1) (L' := [(0, .ref 120), (1, .int (2 : Int32)), (2, .int (0 : Int32)), (3, .int (31 : Int32))]) (st' := [.ref 120]) rfl ?_
  refine w_gf H (pc' := 4) (L' := [(0, .ref 120), (1, .int (2 : Int32)), (2, .int (0 : Int32)), (3, .int (31 : Int32))]) h_m101 (z_at.mk 3 rfl rfl) rfl (u := .int (0 : Int32)) rfl rfl rfl ?_
  refine w_p h_m101 9 (pc' := 19) (L' := [(0, .ref 120), (1, .int (2 : Int32)), (2, .int (0 : Int32)), (3, .int (31 : Int32)), (4, .int (0 : Int32)), (5, .int (0 : Int32)), (6, .int (0 : Int32))]) (st' := [.ref 120]) rfl ?_
  refine w_cv (H.t rfl) (pc' := 22) (L' := [(0, .ref 120), (1, .int (2 : Int32)), (2, .int (0 : Int32)), (3, .int (31 : Int32)), (4, .int (0 : Int32)), (5, .int (0 : Int32)), (6, .int (0 : Int32))]) (rest := []) (Ps := []) (L0 := [(0, .ref 120)]) h_m101 (z_at.mk 3 rfl rfl) (Or.inl ⟨rfl, rfl⟩) rfl rfl (by decide) (by decide) rfl rfl rfl rfl rfl rfl (by decide) rfl rfl rfl ?_
  refine w_p h_m96 1 (pc' := 1) (L' := [(0, .ref 120)]) (st' := [.ref 120]) rfl ?_
  refine w_gf H (pc' := 4) (L' := [(0, .ref 120)]) h_m96 (z_at.mk 3 rfl rfl) rfl (u := .int (0 : Int32)) rfl rfl rfl ?_
  refine w_p h_m96 3 (pc' := 49) (L' := []) (st' := [.int (0 : Int32)]) rfl ?_
  refine w_ri h_m96 (z_at.mk 1 rfl rfl) rfl rfl ?_
  show z_W 995 101 22 [(0, .ref 120), (1, .int (2 : Int32)), (2, .int (0 : Int32)), (3, .int (31 : Int32)), (4, .int (0 : Int32)), (5, .int (0 : Int32)), (6, .int (0 : Int32))] [.int (0 : Int32)] m _
  refine w_p h_m101 3 (pc' := 68) (L' := [(0, .ref 120), (2, .int (0 : Int32)), (3, .int (31 : Int32)), (4, .int (0 : Int32)), (5, .int (0 : Int32))]) (st' := [.ref 120]) rfl ?_
  refine w_gf H (pc' := 71) (L' := [(0, .ref 120), (2, .int (0 : Int32)), (3, .int (31 : Int32)), (4, .int (0 : Int32)), (5, .int (0 : Int32))]) h_m101 (z_at.mk 3 rfl rfl) rfl (u := .int (0 : Int32)) rfl rfl rfl ?_
  refine w_p h_m101 4 (pc' := 91) (L' := [(0, .ref 120), (4, .int (0 : Int32)), (5, .int (0 : Int32))]) (st' := [.int (0 : Int32), .ref 120]) rfl ?_
  refine w_cv (H.t rfl) (pc' := 94) (L' := [(5, .int (0 : Int32))]) (rest := []) (Ps := [.int (0 : Int32)]) (L0 := [(0, .ref 120), (1, .int (0 : Int32))]) h_m101 (z_at.mk 3 rfl rfl) (Or.inl ⟨rfl, rfl⟩) rfl rfl (by decide) (by decide) rfl rfl rfl rfl rfl rfl (by decide) rfl rfl rfl ?_
  refine w_p h_m95 1 (pc' := 1) (L' := [(0, .ref 120), (1, .int (0 : Int32))]) (st' := [.ref 120]) rfl ?_
  refine w_gf H (pc' := 4) (L' := [(0, .ref 120), (1, .int (0 : Int32))]) h_m95 (z_at.mk 3 rfl rfl) rfl (u := .int (0 : Int32)) rfl rfl rfl ?_
  refine w_p h_m95 2 (pc' := 13) (L' := []) (st' := []) rfl ?_
  refine w_rv h_m95 (z_at.mk 1 rfl rfl) rfl ?_
  show z_W 995 101 94 [(5, .int (0 : Int32))] [] m _
  refine w_p h_m101 1 (pc' := 96) (L' := [(5, .int (0 : Int32))]) (st' := [.int (0 : Int32)]) rfl ?_
  refine w_ri h_m101 (z_at.mk 1 rfl rfl) rfl rfl ?_
  show z_W 996 106 20 [(0, .ref 120)] [.int (0 : Int32)] m _
  refine w_p h_m106 6 (pc' := 28) (L' := [(1, .int (0 : Int32)), (0, .ref 120)]) (st' := [.int (45 : Int32), .ref 120, .int (0 : Int32)]) rfl ?_
  refine w_cv (H.t rfl) (pc' := 31) (L' := [(1, .int (0 : Int32)), (0, .ref 120)]) (rest := [.int (0 : Int32)]) (Ps := [.int (45 : Int32)]) (L0 := [(0, .ref 120), (1, .int (45 : Int32))]) h_m106 (z_at.mk 3 rfl rfl) (Or.inl ⟨rfl, rfl⟩) rfl rfl (by decide) (by decide) rfl rfl rfl rfl rfl rfl (by decide) rfl rfl rfl ?_
  refine w_p h_m97 1 (pc' := 1) (L' := [(0, .ref 120), (1, .int (45 : Int32))]) (st' := [.ref 120]) rfl ?_
  refine w_cv (H.t rfl) (pc' := 4) (L' := [(0, .ref 120), (1, .int (45 : Int32))]) (rest := []) (Ps := []) (L0 := [(0, .ref 120)]) h_m97 (z_at.mk 3 rfl rfl) (Or.inl ⟨rfl, rfl⟩) rfl rfl (by decide) (by decide) rfl rfl rfl rfl rfl rfl (by decide) rfl rfl rfl ?_
  refine w_p h_m96 1 (pc' := 1) (L' := [(0, .ref 120)]) (st' := [.ref 120]) rfl ?_
  refine w_gf H (pc' := 4) (L' := [(0, .ref 120)]) h_m96 (z_at.mk 3 rfl rfl) rfl (u := .int (0 : Int32)) rfl rfl rfl ?_
  refine w_p h_m96 3 (pc' := 49) (L' := []) (st' := [.int (0 : Int32)]) rfl ?_
  refine w_ri h_m96 (z_at.mk 1 rfl rfl) rfl rfl ?_
  show z_W 995 97 4 [(0, .ref 120), (1, .int (45 : Int32))] [.int (0 : Int32)] m _
  refine w_p h_m97 3 (pc' := 9) (L' := [(0, .ref 120), (1, .int (45 : Int32))]) (st' := [.int (0 : Int32)]) rfl ?_
  refine w_ri h_m97 (z_at.mk 1 rfl rfl) rfl rfl ?_
  show z_W 996 106 31 [(1, .int (0 : Int32)), (0, .ref 120)] [.int (0 : Int32), .int (0 : Int32)] m _
  refine w_p h_m106 3 (pc' := 47) (L' := []) (st' := [.int (0 : Int32)]) rfl ?_
  refine w_ri h_m106 (z_at.mk 1 rfl rfl) rfl rfl ?_
  show z_W 997 105 15 [(1, .int (0 : Int32)), (0, .ref 120)] [.int (0 : Int32)] m _
  refine w_p h_m105 2 (pc' := 17) (L' := [(2, .int (0 : Int32)), (1, .int (0 : Int32)), (0, .ref 120)]) (st' := [.ref 120]) rfl ?_
  refine w_cv (H.t rfl) (pc' := 20) (L' := [(2, .int (0 : Int32)), (1, .int (0 : Int32)), (0, .ref 120)]) (rest := []) (Ps := []) (L0 := [(0, .ref 120)]) h_m105 (z_at.mk 3 rfl rfl) (Or.inl ⟨rfl, rfl⟩) rfl rfl (by decide) (by decide) rfl rfl rfl rfl rfl rfl (by decide) rfl rfl rfl ?_
  refine w_p h_m93 1 (pc' := 1) (L' := [(0, .ref 120)]) (st' := [.ref 120]) rfl ?_
  refine w_gf H (pc' := 4) (L' := [(0, .ref 120)]) h_m93 (z_at.mk 3 rfl rfl) rfl (u := .int (0 : Int32)) rfl rfl rfl ?_
  refine w_p h_m93 3 (pc' := 13) (L' := []) (st' := [.int (0 : Int32)]) rfl ?_
  refine w_ri h_m93 (z_at.mk 1 rfl rfl) rfl rfl ?_
  show z_W 997 105 20 [(2, .int (0 : Int32)), (1, .int (0 : Int32)), (0, .ref 120)] [.int (0 : Int32)] m _
  refine w_p h_m105 2 (pc' := 46) (L' := []) (st' := [.int (-1 : Int32)]) rfl ?_
  refine w_ri h_m105 (z_at.mk 1 rfl rfl) rfl rfl ?_
  show z_W 998 66 55 [(0, .ref 122), (1, .int (1 : Int32)), (2, .int (0 : Int32))] [.int (-1 : Int32), .int (0 : Int32), .ref 124] m _
  refine w_as H (t := 0) (j := 0) (u := .int (-1 : Int32)) (0, 8, [(0, .int (-1 : Int32))], some (.int (0 : Int32))) (pc' := 56) (L' := [(0, .ref 122), (1, .int (1 : Int32)), (2, .int (0 : Int32))]) h_m66 (z_at.mk 1 rfl rfl) rfl rfl (w_ui _ _ (by decide)) rfl rfl rfl rfl ?_
  clear H m; intro m H
  refine w_p h_m66 1 (pc' := 57) (L' := [(0, .ref 122), (1, .int (1 : Int32)), (2, .int (0 : Int32))]) (st' := [.ref 122]) rfl ?_
  refine w_gf H (pc' := 60) (L' := [(0, .ref 122), (1, .int (1 : Int32)), (2, .int (0 : Int32))]) h_m66 (z_at.mk 3 rfl rfl) rfl (u := .ref 125) rfl rfl rfl ?_
  refine w_p h_m66 2 (pc' := 62) (L' := [(0, .ref 122), (1, .int (1 : Int32)), (2, .int (0 : Int32))]) (st' := [.ref 122, .int (0 : Int32), .ref 125]) rfl ?_
  refine w_cv (H.t rfl) (pc' := 65) (L' := [(0, .ref 122), (1, .int (1 : Int32)), (2, .int (0 : Int32))]) (rest := [.int (0 : Int32), .ref 125]) (Ps := []) (L0 := [(0, .ref 122)]) h_m66 (z_at.mk 3 rfl rfl) (Or.inl ⟨rfl, rfl⟩) rfl rfl (by decide) (by decide) rfl rfl rfl rfl rfl rfl (by decide) rfl rfl rfl ?_
  refine w_p h_m67 1 (pc' := 1) (L' := [(0, .ref 122)]) (st' := [.ref 122]) rfl ?_
  refine w_gf H (pc' := 4) (L' := [(0, .ref 122)]) h_m67 (z_at.mk 3 rfl rfl) rfl (u := .ref 120) rfl rfl rfl ?_
  refine w_p h_m67 1 (pc' := 6) (L' := [(0, .ref 122)]) (st' := [.int (32 : Int32), .ref 120]) rfl ?_
  refine w_cv (H.t rfl) (pc' := 9) (L' := [(0, .ref 122)]) (rest := []) (Ps := [.int (32 : Int32)]) (L0 := [(0, .ref 120), (1, .int (32 : Int32))]) h_m67 (z_at.mk 3 rfl rfl) (Or.inl ⟨rfl, rfl⟩) rfl rfl (by decide) (by decide) rfl rfl rfl rfl rfl rfl (by decide) rfl rfl rfl ?_
  refine w_p h_m97 1 (pc' := 1) (L' := [(0, .ref 120), (1, .int (32 : Int32))]) (st' := [.ref 120]) rfl ?_
  refine w_cv (H.t rfl) (pc' := 4) (L' := [(0, .ref 120), (1, .int (32 : Int32))]) (rest := []) (Ps := []) (L0 := [(0, .ref 120)]) h_m97 (z_at.mk 3 rfl rfl) (Or.inl ⟨rfl, rfl⟩) rfl rfl (by decide) (by decide) rfl rfl rfl rfl rfl rfl (by decide) rfl rfl rfl ?_
  refine w_p h_m96 1 (pc' := 1) (L' := [(0, .ref 120)]) (st' := [.ref 120]) rfl ?_
  refine w_gf H (pc' := 4) (L' := [(0, .ref 120)]) h_m96 (z_at.mk 3 rfl rfl) rfl (u := .int (0 : Int32)) rfl rfl rfl ?_
  refine w_p h_m96 3 (pc' := 49) (L' := []) (st' := [.int (0 : Int32)]) rfl ?_
  refine w_ri h_m96 (z_at.mk 1 rfl rfl) rfl rfl ?_
  show z_W 996 97 4 [(0, .ref 120), (1, .int (32 : Int32))] [.int (0 : Int32)] m _
  refine w_p h_m97 3 (pc' := 9) (L' := [(0, .ref 120), (1, .int (32 : Int32))]) (st' := [.int (0 : Int32)]) rfl ?_
  refine w_ri h_m97 (z_at.mk 1 rfl rfl) rfl rfl ?_
  show z_W 997 67 9 [(0, .ref 122)] [.int (0 : Int32)] m _
  refine w_p h_m67 2 (pc' := 15) (L' := [(0, .ref 122)]) (st' := [.long (-1 : Int64)]) rfl ?_
  refine w_rl h_m67 (z_at.mk 1 rfl rfl) rfl ?_
  show z_W 998 66 65 [(0, .ref 122), (1, .int (1 : Int32)), (2, .int (0 : Int32))] [.long (-1 : Int64), .int (0 : Int32), .ref 125] m _
  refine w_as H (t := 1) (j := 0) (u := .long (-1 : Int64)) (1, 8, [(0, .long (-1 : Int64))], some (.long (0 : Int64))) (pc' := 66) (L' := [(0, .ref 122), (1, .int (1 : Int32)), (2, .int (0 : Int32))]) h_m66 (z_at.mk 1 rfl rfl) rfl rfl (w_ul _) rfl rfl rfl rfl ?_
  clear H m; intro m H
  refine w_p h_m66 4 (pc' := 70) (L' := [(0, .ref 122), (1, .int (1 : Int32)), (2, .int (0 : Int32))]) (st' := [.int (1 : Int32), .ref 122]) rfl ?_
  refine w_pf H (15, 6, [(5, .int (1 : Int32)), (1, .ref 41), (0, .ref 120), (4, .ref 125), (3, .ref 124), (2, .ref 123)], none) (pc' := 73) (L' := [(0, .ref 122), (1, .int (1 : Int32)), (2, .int (0 : Int32))]) h_m66 (z_at.mk 3 rfl rfl) rfl (by decide) rfl (Or.inl rfl) rfl rfl rfl ?_
  clear H m; intro m H
  refine w_p h_m66 1 (pc' := 74) (L' := [(0, .ref 122), (1, .int (1 : Int32)), (2, .int (0 : Int32))]) (st' := [.ref 122]) rfl ?_
  refine w_gf H (pc' := 77) (L' := [(0, .ref 122), (1, .int (1 : Int32)), (2, .int (0 : Int32))]) h_m66 (z_at.mk 3 rfl rfl) rfl (u := .ref 120) rfl rfl rfl ?_
  refine w_p h_m66 1 (pc' := 78) (L' := [(0, .ref 122), (1, .int (1 : Int32)), (2, .int (0 : Int32))]) (st' := [.ref 122, .ref 120]) rfl ?_
  refine w_gf H (pc' := 81) (L' := [(0, .ref 122), (1, .int (1 : Int32)), (2, .int (0 : Int32))]) h_m66 (z_at.mk 3 rfl rfl) rfl (u := .int (1 : Int32)) rfl rfl rfl ?_
  refine w_p h_m66 4 (pc' := 91) (L' := [(0, .ref 122), (2, .int (0 : Int32))]) (st' := [.int (1 : Int32), .ref 120]) rfl ?_
  refine w_cv (H.t rfl) (pc' := 94) (L' := [(0, .ref 122), (2, .int (0 : Int32))]) (rest := []) (Ps := [.int (1 : Int32)]) (L0 := [(0, .ref 120), (1, .int (1 : Int32))]) h_m66 (z_at.mk 3 rfl rfl) (Or.inl ⟨rfl, rfl⟩) rfl rfl (by decide) (by decide) rfl rfl rfl rfl rfl rfl (by decide) rfl rfl rfl ?_
  refine w_p h_m100 4 (pc' := 7) (L' := [(0, .ref 120), (1, .int (1 : Int32))]) (st' := [.int (59 : Int32), .ref 120]) rfl ?_
  refine w_cv (H.t rfl) (pc' := 10) (L' := [(0, .ref 120), (1, .int (1 : Int32))]) (rest := []) (Ps := [.int (59 : Int32)]) (L0 := [(0, .ref 120), (1, .int (59 : Int32))]) h_m100 (z_at.mk 3 rfl rfl) (Or.inl ⟨rfl, rfl⟩) rfl rfl (by decide) (by decide) rfl rfl rfl rfl rfl rfl (by decide) rfl rfl rfl ?_
  refine w_p h_m97 1 (pc' := 1) (L' := [(0, .ref 120), (1, .int (59 : Int32))]) (st' := [.ref 120]) rfl ?_
  refine w_cv (H.t rfl) (pc' := 4) (L' := [(0, .ref 120), (1, .int (59 : Int32))]) (rest := []) (Ps := []) (L0 := [(0, .ref 120)]) h_m97 (z_at.mk 3 rfl rfl) (Or.inl ⟨rfl, rfl⟩) rfl rfl (by decide) (by decide) rfl rfl rfl rfl rfl rfl (by decide) rfl rfl rfl ?_
  refine w_p h_m96 1 (pc' := 1) (L' := [(0, .ref 120)]) (st' := [.ref 120]) rfl ?_
  refine w_gf H (pc' := 4) (L' := [(0, .ref 120)]) h_m96 (z_at.mk 3 rfl rfl) rfl (u := .int (0 : Int32)) rfl rfl rfl ?_
  refine w_p h_m96 3 (pc' := 49) (L' := []) (st' := [.int (0 : Int32)]) rfl ?_
  refine w_ri h_m96 (z_at.mk 1 rfl rfl) rfl rfl ?_
  show z_W 996 97 4 [(0, .ref 120), (1, .int (59 : Int32))] [.int (0 : Int32)] m _
  refine w_p h_m97 3 (pc' := 9) (L' := [(0, .ref 120), (1, .int (59 : Int32))]) (st' := [.int (0 : Int32)]) rfl ?_
  refine w_ri h_m97 (z_at.mk 1 rfl rfl) rfl rfl ?_
  show z_W 997 100 10 [(0, .ref 120), (1, .int (1 : Int32))] [.int (0 : Int32)] m _
  refine w_p h_m100 2 (pc' := 16) (L' := [(0, .ref 120)]) (st' := [.ref 120]) rfl ?_
  refine w_cv (H.t rfl) (pc' := 19) (L' := [(0, .ref 120)]) (rest := []) (Ps := []) (L0 := [(0, .ref 120)]) h_m100 (z_at.mk 3 rfl rfl) (Or.inl ⟨rfl, rfl⟩) rfl rfl (by decide) (by decide) rfl rfl rfl rfl rfl rfl (by decide) rfl rfl rfl ?_
  refine w_p h_m96 1 (pc' := 1) (L' := [(0, .ref 120)]) (st' := [.ref 120]) rfl ?_
  refine w_gf H (pc' := 4) (L' := [(0, .ref 120)]) h_m96 (z_at.mk 3 rfl rfl) rfl (u := .int (0 : Int32)) rfl rfl rfl ?_
  refine w_p h_m96 3 (pc' := 49) (L' := []) (st' := [.int (0 : Int32)]) rfl ?_
  refine w_ri h_m96 (z_at.mk 1 rfl rfl) rfl rfl ?_
  show z_W 997 100 19 [(0, .ref 120)] [.int (0 : Int32)] m _
  refine w_p h_m100 2 (pc' := 31) (L' := []) (st' := [.int (0 : Int32)]) rfl ?_
  refine w_ri h_m100 (z_at.mk 1 rfl rfl) rfl rfl ?_
  show z_W 998 66 94 [(0, .ref 122), (2, .int (0 : Int32))] [.int (0 : Int32)] m _
  refine w_p h_m66 5 (pc' := 101) (L' := []) (st' := []) rfl ?_
  refine w_rv h_m66 (z_at.mk 1 rfl rfl) rfl ?_
  show z_W 999 124 14 [(0, .ref 39)] [] m _
  refine w_p h_m124 1 (pc' := 15) (L' := [(0, .ref 39)]) (st' := [.ref 39]) rfl ?_
  refine w_gf H (pc' := 18) (L' := [(0, .ref 39)]) h_m124 (z_at.mk 3 rfl rfl) rfl (u := .ref 120) rfl rfl rfl ?_
  refine w_cv (H.t rfl) (pc' := 21) (L' := [(0, .ref 39)]) (rest := []) (Ps := []) (L0 := [(0, .ref 120)]) h_m124 (z_at.mk 3 rfl rfl) (Or.inl ⟨rfl, rfl⟩) rfl rfl (by decide) (by decide) rfl rfl rfl rfl rfl rfl (by decide) rfl rfl rfl ?_
  refine w_p h_m93 1 (pc' := 1) (L' := [(0, .ref 120)]) (st' := [.ref 120]) rfl ?_
  refine w_gf H (pc' := 4) (L' := [(0, .ref 120)]) h_m93 (z_at.mk 3 rfl rfl) rfl (u := .int (0 : Int32)) rfl rfl rfl ?_
  refine w_p h_m93 3 (pc' := 13) (L' := []) (st' := [.int (0 : Int32)]) rfl ?_
  refine w_ri h_m93 (z_at.mk 1 rfl rfl) rfl rfl ?_
  show z_W 999 124 21 [(0, .ref 39)] [.int (0 : Int32)] m _
  refine w_p h_m124 2 (pc' := 101) (L' := [(0, .ref 39)]) (st' := [.ref 39]) rfl ?_
  refine w_gf H (pc' := 104) (L' := [(0, .ref 39)]) h_m124 (z_at.mk 3 rfl rfl) rfl (u := .ref 120) rfl rfl rfl ?_
  refine w_p h_m124 1 (pc' := 105) (L' := [(0, .ref 39)]) (st' := [.ref 39, .ref 120]) rfl ?_
  refine w_gf H (pc' := 108) (L' := [(0, .ref 39)]) h_m124 (z_at.mk 3 rfl rfl) rfl (u := .ref 122) rfl rfl rfl ?_
  refine w_gf H (pc' := 111) (L' := [(0, .ref 39)]) h_m124 (z_at.mk 3 rfl rfl) rfl (u := .int (1 : Int32)) rfl rfl rfl ?_
  refine w_cv (H.t rfl) (pc' := 114) (L' := [(0, .ref 39)]) (rest := []) (Ps := [.int (1 : Int32)]) (L0 := [(0, .ref 120), (1, .int (1 : Int32))]) h_m124 (z_at.mk 3 rfl rfl) (Or.inl ⟨rfl, rfl⟩) rfl rfl (by decide) (by decide) rfl rfl rfl rfl rfl rfl (by decide) rfl rfl rfl ?_
  refine w_p h_m94 2 (pc' := 2) (L' := [(0, .ref 120), (1, .int (1 : Int32))]) (st' := [.int (0 : Int32), .ref 120]) rfl ?_
  refine w_pf H (19, 4, [(1, .int (0 : Int32)), (3, .int (0 : Int32)), (2, .int (0 : Int32)), (0, .ref 121)], none) (pc' := 5) (L' := [(0, .ref 120), (1, .int (1 : Int32))]) h_m94 (z_at.mk 3 rfl rfl) rfl (by decide) rfl (Or.inl rfl) rfl rfl rfl ?_
  clear H m; intro m H
  refine w_p h_m94 1 (pc' := 6) (L' := [(0, .ref 120), (1, .int (1 : Int32))]) (st' := [.ref 120]) rfl ?_
  refine w_cv (H.t rfl) (pc' := 9) (L' := [(0, .ref 120), (1, .int (1 : Int32))]) (rest := []) (Ps := []) (L0 := [(0, .ref 120)]) h_m94 (z_at.mk 3 rfl rfl) (Or.inl ⟨rfl, rfl⟩) rfl rfl (by decide) (by decide) rfl rfl rfl rfl rfl rfl (by decide) rfl rfl rfl ?_
  refine w_p h_m93 1 (pc' := 1) (L' := [(0, .ref 120)]) (st' := [.ref 120]) rfl ?_
  refine w_gf H (pc' := 4) (L' := [(0, .ref 120)]) h_m93 (z_at.mk 3 rfl rfl) rfl (u := .int (0 : Int32)) rfl rfl rfl ?_
  refine w_p h_m93 3 (pc' := 13) (L' := []) (st' := [.int (0 : Int32)]) rfl ?_
  refine w_ri h_m93 (z_at.mk 1 rfl rfl) rfl rfl ?_
  show z_W 998 94 9 [(0, .ref 120), (1, .int (1 : Int32))] [.int (0 : Int32)] m _
  refine w_p h_m94 3 (pc' := 19) (L' := [(0, .ref 120), (1, .int (1 : Int32))]) (st' := [.ref 120, .int (-100 : Int32)]) rfl ?_
  refine w_gf H (pc' := 22) (L' := [(0, .ref 120), (1, .int (1 : Int32))]) h_m94 (z_at.mk 3 rfl rfl) rfl (u := .int (0 : Int32)) rfl rfl rfl ?_
  refine w_p h_m94 1 (pc' := 23) (L' := []) (st' := [.int (-100 : Int32)]) rfl ?_
  refine w_ri h_m94 (z_at.mk 1 rfl rfl) rfl rfl ?_
  show z_W 999 124 114 [(0, .ref 39)] [.int (-100 : Int32)] m _
  refine w_ri h_m124 (z_at.mk 1 rfl rfl) rfl rfl ?_
  show z_W 1000 1000 435 [(0, .ref 0), (1, .ref 39), (2, .ref 143), (3, .int (0 : Int32))] [.int (-100 : Int32)] m _
  refine w_p h_m1000 1 (pc' := 436) (L' := [(0, .ref 0), (1, .ref 39), (2, .ref 143), (3, .int (0 : Int32))]) (st' := [.ref 143, .int (-100 : Int32)]) rfl ?_
  refine w_cv (H.t rfl) (pc' := 439) (L' := [(0, .ref 0), (1, .ref 39), (2, .ref 143), (3, .int (0 : Int32))]) (rest := [.int (-100 : Int32)]) (Ps := []) (L0 := [(0, .ref 143)]) h_m1000 (z_at.mk 3 rfl rfl) (Or.inl ⟨rfl, rfl⟩) rfl rfl (by decide) (by decide) rfl rfl rfl rfl rfl rfl (by decide) rfl rfl rfl ?_
  refine w_p h_m229 1 (pc' := 1) (L' := [(0, .ref 143)]) (st' := [.ref 143]) rfl ?_
  refine w_cv (H.t rfl) (pc' := 4) (L' := [(0, .ref 143)]) (rest := []) (Ps := []) (L0 := [(0, .ref 143)]) h_m229 (z_at.mk 3 rfl rfl) (Or.inl ⟨rfl, rfl⟩) rfl rfl (by decide) (by decide) rfl rfl rfl rfl rfl rfl (by decide) rfl rfl rfl ?_
  refine w_p h_m222 2 (pc' := 2) (L' := [(0, .ref 143)]) (st' := [.int (0 : Int32), .ref 143]) rfl ?_
  refine w_pf H (22, 35, [(21, .int (0 : Int32)), (34, .ref 167), (33, .ref 166), (31, .ref 165), (30, .ref 164), (28, .ref 163), (26, .ref 162), (25, .ref 161), (24, .ref 160), (19, .ref 159), (18, .ref 158), (17, .ref 157), (16, .ref 156), (13, .ref 155), (12, .ref 154), (11, .ref 153), (9, .ref 152), (8, .ref 151), (7, .ref 150), (5, .ref 149), (4, .ref 148), (3, .ref 147), (2, .ref 146), (1, .ref 145), (0, .ref 144), (6, .int (0 : Int32)), (10, .int (0 : Int32)), (14, .int (0 : Int32)), (15, .int (0 : Int32)), (20, .int (0 : Int32)), (22, .int (0 : Int32)), (23, .int (0 : Int32)), (27, .int (0 : Int32)), (29, .int (0 : Int32)), (32, .int (0 : Int32))], none) (pc' := 5) (L' := [(0, .ref 143)]) h_m222 (z_at.mk 3 rfl rfl) rfl (by decide) rfl (Or.inl rfl) rfl rfl rfl ?_
  clear H m; intro m H
  refine w_p h_m222 2 (pc' := 7) (L' := [(0, .ref 143)]) (st' := [.int (-1 : Int32), .ref 143]) rfl ?_
  refine w_pf H (22, 35, [(22, .int (-1 : Int32)), (21, .int (0 : Int32)), (34, .ref 167), (33, .ref 166), (31, .ref 165), (30, .ref 164), (28, .ref 163), (26, .ref 162), (25, .ref 161), (24, .ref 160), (19, .ref 159), (18, .ref 158), (17, .ref 157), (16, .ref 156), (13, .ref 155), (12, .ref 154), (11, .ref 153), (9, .ref 152), (8, .ref 151), (7, .ref 150), (5, .ref 149), (4, .ref 148), (3, .ref 147), (2, .ref 146), (1, .ref 145), (0, .ref 144), (6, .int (0 : Int32)), (10, .int (0 : Int32)), (14, .int (0 : Int32)), (15, .int (0 : Int32)), (20, .int (0 : Int32)), (23, .int (0 : Int32)), (27, .int (0 : Int32)), (29, .int (0 : Int32)), (32, .int (0 : Int32))], none) (pc' := 10) (L' := [(0, .ref 143)]) h_m222 (z_at.mk 3 rfl rfl) rfl (by decide) rfl (Or.inl rfl) rfl rfl rfl ?_
  clear H m; intro m H
  refine w_rv h_m222 (z_at.mk 1 rfl rfl) rfl ?_
  show z_W 999 229 4 [(0, .ref 143)] [] m _
  refine w_p h_m229 8 (pc' := 14) (L' := [(0, .ref 143), (1, .int (0 : Int32)), (2, .int (1 : Int32))]) (st' := [.int (0 : Int32), .ref 143]) rfl ?_
  refine w_cv (H.t rfl) (pc' := 17) (L' := [(0, .ref 143), (1, .int (0 : Int32)), (2, .int (1 : Int32))]) (rest := []) (Ps := [.int (0 : Int32)]) (L0 := [(0, .ref 143), (1, .int (0 : Int32))]) h_m229 (z_at.mk 3 rfl rfl) (Or.inl ⟨rfl, rfl⟩) rfl rfl (by decide) (by decide) rfl rfl rfl rfl rfl rfl (by decide) rfl rfl rfl ?_
  refine w_p h_m228 5 (pc' := 6) (L' := [(2, .int (0 : Int32)), (0, .ref 143), (1, .int (0 : Int32))]) (st' := [.ref 143]) rfl ?_
  refine w_gf H (pc' := 9) (L' := [(2, .int (0 : Int32)), (0, .ref 143), (1, .int (0 : Int32))]) h_m228 (z_at.mk 3 rfl rfl) rfl (u := .ref 161) rfl rfl rfl ?_
  refine w_p h_m228 3 (pc' := 14) (L' := [(2, .int (0 : Int32)), (0, .ref 143), (1, .int (0 : Int32))]) (st' := [.ref 14, .ref 143, .int (0 : Int32), .ref 161]) rfl ?_
  refine w_cv (H.t rfl) (pc' := 17) (L' := [(2, .int (0 : Int32)), (0, .ref 143), (1, .int (0 : Int32))]) (rest := [.int (0 : Int32), .ref 161]) (Ps := [.ref 14]) (L0 := [(0, .ref 143), (1, .ref 14)]) h_m228 (z_at.mk 3 rfl rfl) (Or.inl ⟨rfl, rfl⟩) rfl rfl (by decide) (by decide) rfl rfl rfl rfl rfl rfl (by decide) rfl rfl rfl ?_
  refine w_p h_m218 1 (pc' := 1) (L' := [(0, .ref 143), (1, .ref 14)]) (st' := [.ref 143]) rfl ?_
  refine w_cv (H.t rfl) (pc' := 4) (L' := [(0, .ref 143), (1, .ref 14)]) (rest := []) (Ps := []) (L0 := [(0, .ref 143)]) h_m218 (z_at.mk 3 rfl rfl) (Or.inl ⟨rfl, rfl⟩) rfl rfl (by decide) (by decide) rfl rfl rfl rfl rfl rfl (by decide) rfl rfl rfl ?_
  refine w_p h_m217 1 (pc' := 1) (L' := [(0, .ref 143)]) (st' := [.ref 143]) rfl ?_
  refine w_gf H (pc' := 4) (L' := [(0, .ref 143)]) h_m217 (z_at.mk 3 rfl rfl) rfl (u := .int (0 : Int32)) rfl rfl rfl ?_
  refine w_p h_m217 3 (pc' := 7) (L' := [(0, .ref 143), (1, .int (0 : Int32))]) (st' := [.ref 143, .int (0 : Int32)]) rfl ?_
  refine w_gf H (pc' := 10) (L' := [(0, .ref 143), (1, .int (0 : Int32))]) h_m217 (z_at.mk 3 rfl rfl) rfl (u := .int (0 : Int32)) rfl rfl rfl ?_
  refine w_p h_m217 2 (pc' := 36) (L' := [(1, .int (0 : Int32))]) (st' := [.int (0 : Int32)]) rfl ?_
  refine w_ri h_m217 (z_at.mk 1 rfl rfl) rfl rfl ?_
  show z_W 997 218 4 [(0, .ref 143), (1, .ref 14)] [.int (0 : Int32)] m _
  refine w_p h_m218 7 (pc' := 13) (L' := [(0, .ref 143), (1, .ref 14), (2, .int (0 : Int32)), (3, .int (0 : Int32)), (4, .int (0 : Int32))]) (st' := [.ref 14, .int (0 : Int32)]) rfl ?_
  refine w_cv (H.te (by decide) rfl).1 (pc' := 16) (L' := [(0, .ref 143), (1, .ref 14), (2, .int (0 : Int32)), (3, .int (0 : Int32)), (4, .int (0 : Int32))]) (rest := [.int (0 : Int32)]) (Ps := []) (L0 := [(0, .ref 14)]) h_m218 (z_at.mk 3 rfl rfl) (Or.inl ⟨rfl, rfl⟩) rfl rfl (by decide) (by decide) rfl rfl rfl rfl rfl rfl (by decide) rfl rfl rfl ?_
  refine w_p h_m293 1 (pc' := 1) (L' := [(0, .ref 14)]) (st' := [.ref 14]) rfl ?_
  refine w_gs H (pc' := 4) (L' := [(0, .ref 14)]) h_m293 (z_at.mk 3 rfl rfl) rfl (by decide) rfl rfl rfl rfl ?_
  refine w_lene H (x := (36 : Int32)) (pc' := 5) (L' := [(0, .ref 14)]) h_m293 (z_at.mk 1 rfl rfl) (by decide) rfl (by decide) rfl rfl rfl ?_
  refine w_p h_m293 1 (pc' := 6) (L' := [(0, .ref 14)]) (st' := [.ref 14, .int (36 : Int32)]) rfl ?_
  refine w_cv (H.te (by decide) rfl).1 (pc' := 9) (L' := [(0, .ref 14)]) (rest := [.int (36 : Int32)]) (Ps := []) (L0 := [(0, .ref 14)]) h_m293 (z_at.mk 3 rfl rfl) (Or.inl ⟨rfl, rfl⟩) rfl rfl (by decide) (by decide) rfl rfl rfl rfl rfl rfl (by decide) rfl rfl rfl ?_
  refine w_p h_m298 3 (pc' := 7) (L' := [(0, .ref 14)]) (st' := [.ref 14]) rfl ?_
  refine w_gs H (pc' := 10) (L' := [(0, .ref 14)]) h_m298 (z_at.mk 3 rfl rfl) rfl (by decide) rfl rfl rfl rfl ?_
  refine w_p h_m298 1 (pc' := 14) (L' := []) (st' := [.int (0 : Int32)]) rfl ?_
  refine w_ri h_m298 (z_at.mk 1 rfl rfl) rfl rfl ?_
  show z_W 996 293 9 [(0, .ref 14)] [.int (0 : Int32), .int (36 : Int32)] m _
  refine w_p h_m293 1 (pc' := 10) (L' := [(0, .ref 14)]) (st' := [.int (36 : Int32)]) rfl ?_
  refine w_ri h_m293 (z_at.mk 1 rfl rfl) rfl rfl ?_
  show z_W 997 218 16 [(0, .ref 143), (1, .ref 14), (2, .int (0 : Int32)), (3, .int (0 : Int32)), (4, .int (0 : Int32))] [.int (36 : Int32), .int (0 : Int32)] m _
  refine w_p h_m218 7 (pc' := 28) (L' := [(0, .ref 143), (1, .ref 14), (2, .int (0 : Int32)), (3, .int (0 : Int32)), (4, .int (0 : Int32)), (5, .int (0 : Int32))]) (st' := [.ref 14, .int (0 : Int32)]) rfl ?_
  refine w_cv (H.te (by decide) rfl).1 (pc' := 31) (L' := [(0, .ref 143), (1, .ref 14), (2, .int (0 : Int32)), (3, .int (0 : Int32)), (4, .int (0 : Int32)), (5, .int (0 : Int32))]) (rest := [.int (0 : Int32)]) (Ps := []) (L0 := [(0, .ref 14)]) h_m218 (z_at.mk 3 rfl rfl) (Or.inl ⟨rfl, rfl⟩) rfl rfl (by decide) (by decide) rfl rfl rfl rfl rfl rfl (by decide) rfl rfl rfl ?_
  refine w_p h_m293 1 (pc' := 1) (L' := [(0, .ref 14)]) (st' := [.ref 14]) rfl ?_
  refine w_gs H (pc' := 4) (L' := [(0, .ref 14)]) h_m293 (z_at.mk 3 rfl rfl) rfl (by decide) rfl rfl rfl rfl ?_
  refine w_lene H (x := (36 : Int32)) (pc' := 5) (L' := [(0, .ref 14)]) h_m293 (z_at.mk 1 rfl rfl) (by decide) rfl (by decide) rfl rfl rfl ?_
  refine w_p h_m293 1 (pc' := 6) (L' := [(0, .ref 14)]) (st' := [.ref 14, .int (36 : Int32)]) rfl ?_
  refine w_cv (H.te (by decide) rfl).1 (pc' := 9) (L' := [(0, .ref 14)]) (rest := [.int (36 : Int32)]) (Ps := []) (L0 := [(0, .ref 14)]) h_m293 (z_at.mk 3 rfl rfl) (Or.inl ⟨rfl, rfl⟩) rfl rfl (by decide) (by decide) rfl rfl rfl rfl rfl rfl (by decide) rfl rfl rfl ?_
  refine w_p h_m298 3 (pc' := 7) (L' := [(0, .ref 14)]) (st' := [.ref 14]) rfl ?_
  refine w_gs H (pc' := 10) (L' := [(0, .ref 14)]) h_m298 (z_at.mk 3 rfl rfl) rfl (by decide) rfl rfl rfl rfl ?_
  refine w_p h_m298 1 (pc' := 14) (L' := []) (st' := [.int (0 : Int32)]) rfl ?_
  refine w_ri h_m298 (z_at.mk 1 rfl rfl) rfl rfl ?_
  show z_W 996 293 9 [(0, .ref 14)] [.int (0 : Int32), .int (36 : Int32)] m _
  refine w_p h_m293 1 (pc' := 10) (L' := [(0, .ref 14)]) (st' := [.int (36 : Int32)]) rfl ?_
  refine w_ri h_m293 (z_at.mk 1 rfl rfl) rfl rfl ?_
  show z_W 997 218 31 [(0, .ref 143), (1, .ref 14), (2, .int (0 : Int32)), (3, .int (0 : Int32)), (4, .int (0 : Int32)), (5, .int (0 : Int32))] [.int (36 : Int32), .int (0 : Int32)] m _
  refine w_p h_m218 5 (pc' := 40) (L' := [(0, .ref 143), (1, .ref 14), (2, .int (0 : Int32)), (3, .int (0 : Int32)), (4, .int (0 : Int32)), (5, .int (0 : Int32))]) (st' := [.int (0 : Int32), .ref 14]) rfl ?_
  refine w_cv (H.te (by decide) rfl).1 (pc' := 43) (L' := [(0, .ref 143), (1, .ref 14), (2, .int (0 : Int32)), (3, .int (0 : Int32)), (4, .int (0 : Int32)), (5, .int (0 : Int32))]) (rest := []) (Ps := [.int (0 : Int32)]) (L0 := [(0, .ref 14), (1, .int (0 : Int32))]) h_m218 (z_at.mk 3 rfl rfl) (Or.inl ⟨rfl, rfl⟩) rfl rfl (by decide) (by decide) rfl rfl rfl rfl rfl rfl (by decide) rfl rfl rfl ?_
  refine w_p h_m294 1 (pc' := 1) (L' := [(0, .ref 14), (1, .int (0 : Int32))]) (st' := [.ref 14]) rfl ?_
  refine w_cv (H.te (by decide) rfl).1 (pc' := 4) (L' := [(0, .ref 14), (1, .int (0 : Int32))]) (rest := []) (Ps := []) (L0 := [(0, .ref 14)]) h_m294 (z_at.mk 3 rfl rfl) (Or.inl ⟨rfl, rfl⟩) rfl rfl (by decide) (by decide) rfl rfl rfl rfl rfl rfl (by decide) rfl rfl rfl ?_
  refine w_p h_m299 3 (pc' := 7) (L' := [(0, .ref 14)]) (st' := [.ref 14]) rfl ?_
  refine w_gs H (pc' := 10) (L' := [(0, .ref 14)]) h_m299 (z_at.mk 3 rfl rfl) rfl (by decide) rfl rfl rfl rfl ?_
  refine w_p h_m299 3 (pc' := 18) (L' := []) (st' := [.int (1 : Int32)]) rfl ?_
  refine w_ri h_m299 (z_at.mk 1 rfl rfl) rfl rfl ?_
  show z_W 996 294 4 [(0, .ref 14), (1, .int (0 : Int32))] [.int (1 : Int32)] m _
  refine w_p h_m294 2 (pc' := 8) (L' := [(0, .ref 14), (1, .int (0 : Int32))]) (st' := [.ref 14]) rfl ?_
  refine w_gs H (pc' := 11) (L' := [(0, .ref 14), (1, .int (0 : Int32))]) h_m294 (z_at.mk 3 rfl rfl) rfl (by decide) rfl rfl rfl rfl ?_
  refine w_p h_m294 1 (pc' := 12) (L' := [(0, .ref 14), (1, .int (0 : Int32))]) (st' := [.int (0 : Int32), .ref 32]) rfl ?_
  refine w_cs (As := [.ref 32, .int (0 : Int32)]) (rest := []) (j := 308) (L0 := [(0, .ref 32), (1, .int (0 : Int32))]) (pc' := 15) (L' := [(0, .ref 14), (1, .int (0 : Int32))]) h_m294 (z_at.mk 3 rfl rfl) (Or.inl ⟨rfl, rfl⟩) rfl rfl rfl rfl rfl ?_
  refine w_p h_m308 2 (pc' := 2) (L' := [(0, .ref 32), (1, .int (0 : Int32))]) (st' := [.ref 32, .int (0 : Int32)]) rfl ?_
  refine w_lene H (x := (36 : Int32)) (pc' := 3) (L' := [(0, .ref 32), (1, .int (0 : Int32))]) h_m308 (z_at.mk 1 rfl rfl) (by decide) rfl (by decide) rfl rfl rfl ?_
  refine w_ci (pc' := 6) (L' := [(0, .ref 32), (1, .int (0 : Int32))]) h_m308 (z_at.mk 3 rfl rfl) rfl (z_cat_le 0 rfl (by decide)) ⟨by decide, by decide⟩ rfl rfl ?_
  refine w_p h_m308 2 (pc' := 8) (L' := [(0, .ref 32), (1, .int (0 : Int32))]) (st' := [.int (0 : Int32), .ref 32]) rfl ?_
  refine w_ae H (j := 0) (pc' := 9) (L' := [(0, .ref 32), (1, .int (0 : Int32))]) h_m308 (z_at.mk 1 rfl rfl) rfl rfl rfl (by decide) rfl (by decide) rfl rfl rfl ?_
  refine w_p h_m308 3 (pc' := 14) (L' := [(0, .ref 32), (1, .int (0 : Int32))]) (st' := [.int (99 : Int32)]) rfl ?_
  refine w_ri h_m308 (z_at.mk 1 rfl rfl) rfl rfl ?_
  show z_W 996 294 15 [(0, .ref 14), (1, .int (0 : Int32))] [.int (99 : Int32)] m _
  refine w_ri h_m294 (z_at.mk 1 rfl rfl) rfl rfl ?_
  show z_W 997 218 43 [(0, .ref 143), (1, .ref 14), (2, .int (0 : Int32)), (3, .int (0 : Int32)), (4, .int (0 : Int32)), (5, .int (0 : Int32))] [.int (99 : Int32)] m _
  refine w_p h_m218 8 (pc' := 28) (L' := [(0, .ref 143), (1, .ref 14), (2, .int (0 : Int32)), (3, .int (0 : Int32)), (4, .int (0 : Int32)), (5, .int (1 : Int32))]) (st' := [.ref 14, .int (1 : Int32)]) rfl ?_
  refine w_cv (H.te (by decide) rfl).1 (pc' := 31) (L' := [(0, .ref 143), (1, .ref 14), (2, .int (0 : Int32)), (3, .int (0 : Int32)), (4, .int (0 : Int32)), (5, .int (1 : Int32))]) (rest := [.int (1 : Int32)]) (Ps := []) (L0 := [(0, .ref 14)]) h_m218 (z_at.mk 3 rfl rfl) (Or.inl ⟨rfl, rfl⟩) rfl rfl (by decide) (by decide) rfl rfl rfl rfl rfl rfl (by decide) rfl rfl rfl ?_
  refine w_p h_m293 1 (pc' := 1) (L' := [(0, .ref 14)]) (st' := [.ref 14]) rfl ?_
  refine w_gs H (pc' := 4) (L' := [(0, .ref 14)]) h_m293 (z_at.mk 3 rfl rfl) rfl (by decide) rfl rfl rfl rfl ?_
  refine w_lene H (x := (36 : Int32)) (pc' := 5) (L' := [(0, .ref 14)]) h_m293 (z_at.mk 1 rfl rfl) (by decide) rfl (by decide) rfl rfl rfl ?_
  refine w_p h_m293 1 (pc' := 6) (L' := [(0, .ref 14)]) (st' := [.ref 14, .int (36 : Int32)]) rfl ?_
  refine w_cv (H.te (by decide) rfl).1 (pc' := 9) (L' := [(0, .ref 14)]) (rest := [.int (36 : Int32)]) (Ps := []) (L0 := [(0, .ref 14)]) h_m293 (z_at.mk 3 rfl rfl) (Or.inl ⟨rfl, rfl⟩) rfl rfl (by decide) (by decide) rfl rfl rfl rfl rfl rfl (by decide) rfl rfl rfl ?_
  refine w_p h_m298 3 (pc' := 7) (L' := [(0, .ref 14)]) (st' := [.ref 14]) rfl ?_
  refine w_gs H (pc' := 10) (L' := [(0, .ref 14)]) h_m298 (z_at.mk 3 rfl rfl) rfl (by decide) rfl rfl rfl rfl ?_
  refine w_p h_m298 1 (pc' := 14) (L' := []) (st' := [.int (0 : Int32)]) rfl ?_
  refine w_ri h_m298 (z_at.mk 1 rfl rfl) rfl rfl ?_
  show z_W 996 293 9 [(0, .ref 14)] [.int (0 : Int32), .int (36 : Int32)] m _
  refine w_p h_m293 1 (pc' := 10) (L' := [(0, .ref 14)]) (st' := [.int (36 : Int32)]) rfl ?_
  refine w_ri h_m293 (z_at.mk 1 rfl rfl) rfl rfl ?_
  show z_W 997 218 31 [(0, .ref 143), (1, .ref 14), (2, .int (0 : Int32)), (3, .int (0 : Int32)), (4, .int (0 : Int32)), (5, .int (1 : Int32))] [.int (36 : Int32), .int (1 : Int32)] m _
  refine w_p h_m218 5 (pc' := 40) (L' := [(0, .ref 143), (1, .ref 14), (2, .int (0 : Int32)), (3, .int (0 : Int32)), (4, .int (0 : Int32)), (5, .int (1 : Int32))]) (st' := [.int (1 : Int32), .ref 14]) rfl ?_
  refine w_cv (H.te (by decide) rfl).1 (pc' := 43) (L' := [(0, .ref 143), (1, .ref 14), (2, .int (0 : Int32)), (3, .int (0 : Int32)), (4, .int (0 : Int32)), (5, .int (1 : Int32))]) (rest := []) (Ps := [.int (1 : Int32)]) (L0 := [(0, .ref 14), (1, .int (1 : Int32))]) h_m218 (z_at.mk 3 rfl rfl) (Or.inl ⟨rfl, rfl⟩) rfl rfl (by decide) (by decide) rfl rfl rfl rfl rfl rfl (by decide) rfl rfl rfl ?_
  refine w_p h_m294 1 (pc' := 1) (L' := [(0, .ref 14), (1, .int (1 : Int32))]) (st' := [.ref 14]) rfl ?_
  refine w_cv (H.te (by decide) rfl).1 (pc' := 4) (L' := [(0, .ref 14), (1, .int (1 : Int32))]) (rest := []) (Ps := []) (L0 := [(0, .ref 14)]) h_m294 (z_at.mk 3 rfl rfl) (Or.inl ⟨rfl, rfl⟩) rfl rfl (by decide) (by decide) rfl rfl rfl rfl rfl rfl (by decide) rfl rfl rfl ?_
  refine w_p h_m299 3 (pc' := 7) (L' := [(0, .ref 14)]) (st' := [.ref 14]) rfl ?_
  refine w_gs H (pc' := 10) (L' := [(0, .ref 14)]) h_m299 (z_at.mk 3 rfl rfl) rfl (by decide) rfl rfl rfl rfl ?_
  refine w_p h_m299 3 (pc' := 18) (L' := []) (st' := [.int (1 : Int32)]) rfl ?_
  refine w_ri h_m299 (z_at.mk 1 rfl rfl) rfl rfl ?_
  show z_W 996 294 4 [(0, .ref 14), (1, .int (1 : Int32))] [.int (1 : Int32)] m _
  refine w_p h_m294 2 (pc' := 8) (L' := [(0, .ref 14), (1, .int (1 : Int32))]) (st' := [.ref 14]) rfl ?_
  refine w_gs H (pc' := 11) (L' := [(0, .ref 14), (1, .int (1 : Int32))]) h_m294 (z_at.mk 3 rfl rfl) rfl (by decide) rfl rfl rfl rfl ?_
  refine w_p h_m294 1 (pc' := 12) (L' := [(0, .ref 14), (1, .int (1 : Int32))]) (st' := [.int (1 : Int32), .ref 32]) rfl ?_
  refine w_cs (As := [.ref 32, .int (1 : Int32)]) (rest := []) (j := 308) (L0 := [(0, .ref 32), (1, .int (1 : Int32))]) (pc' := 15) (L' := [(0, .ref 14), (1, .int (1 : Int32))]) h_m294 (z_at.mk 3 rfl rfl) (Or.inl ⟨rfl, rfl⟩) rfl rfl rfl rfl rfl ?_
  refine w_p h_m308 2 (pc' := 2) (L' := [(0, .ref 32), (1, .int (1 : Int32))]) (st' := [.ref 32, .int (1 : Int32)]) rfl ?_
  refine w_lene H (x := (36 : Int32)) (pc' := 3) (L' := [(0, .ref 32), (1, .int (1 : Int32))]) h_m308 (z_at.mk 1 rfl rfl) (by decide) rfl (by decide) rfl rfl rfl ?_
  refine w_ci (pc' := 6) (L' := [(0, .ref 32), (1, .int (1 : Int32))]) h_m308 (z_at.mk 3 rfl rfl) rfl (z_cat_le 0 rfl (by decide)) ⟨by decide, by decide⟩ rfl rfl ?_
  refine w_p h_m308 2 (pc' := 8) (L' := [(0, .ref 32), (1, .int (1 : Int32))]) (st' := [.int (1 : Int32), .ref 32]) rfl ?_
  refine w_ae H (j := 1) (pc' := 9) (L' := [(0, .ref 32), (1, .int (1 : Int32))]) h_m308 (z_at.mk 1 rfl rfl) rfl rfl rfl (by decide) rfl (by decide) rfl rfl rfl ?_
  refine w_p h_m308 3 (pc' := 14) (L' := [(0, .ref 32), (1, .int (1 : Int32))]) (st' := [.int (111 : Int32)]) rfl ?_
  refine w_ri h_m308 (z_at.mk 1 rfl rfl) rfl rfl ?_
  show z_W 996 294 15 [(0, .ref 14), (1, .int (1 : Int32))] [.int (111 : Int32)] m _
  refine w_ri h_m294 (z_at.mk 1 rfl rfl) rfl rfl ?_
  show z_W 997 218 43 [(0, .ref 143), (1, .ref 14), (2, .int (0 : Int32)), (3, .int (0 : Int32)), (4, .int (0 : Int32)), (5, .int (1 : Int32))] [.int (111 : Int32)] m _
  refine w_p h_m218 8 (pc' := 28) (L' := [(0, .ref 143), (1, .ref 14), (2, .int (0 : Int32)), (3, .int (0 : Int32)), (4, .int (0 : Int32)), (5, .int (2 : Int32))]) (st' := [.ref 14, .int (2 : Int32)]) rfl ?_
  refine w_cv (H.te (by decide) rfl).1 (pc' := 31) (L' := [(0, .ref 143), (1, .ref 14), (2, .int (0 : Int32)), (3, .int (0 : Int32)), (4, .int (0 : Int32)), (5, .int (2 : Int32))]) (rest := [.int (2 : Int32)]) (Ps := []) (L0 := [(0, .ref 14)]) h_m218 (z_at.mk 3 rfl rfl) (Or.inl ⟨rfl, rfl⟩) rfl rfl (by decide) (by decide) rfl rfl rfl rfl rfl rfl (by decide) rfl rfl rfl ?_
  refine w_p h_m293 1 (pc' := 1) (L' := [(0, .ref 14)]) (st' := [.ref 14]) rfl ?_
  refine w_gs H (pc' := 4) (L' := [(0, .ref 14)]) h_m293 (z_at.mk 3 rfl rfl) rfl (by decide) rfl rfl rfl rfl ?_
  refine w_lene H (x := (36 : Int32)) (pc' := 5) (L' := [(0, .ref 14)]) h_m293 (z_at.mk 1 rfl rfl) (by decide) rfl (by decide) rfl rfl rfl ?_
  refine w_p h_m293 1 (pc' := 6) (L' := [(0, .ref 14)]) (st' := [.ref 14, .int (36 : Int32)]) rfl ?_
  refine w_cv (H.te (by decide) rfl).1 (pc' := 9) (L' := [(0, .ref 14)]) (rest := [.int (36 : Int32)]) (Ps := []) (L0 := [(0, .ref 14)]) h_m293 (z_at.mk 3 rfl rfl) (Or.inl ⟨rfl, rfl⟩) rfl rfl (by decide) (by decide) rfl rfl rfl rfl rfl rfl (by decide) rfl rfl rfl ?_
  refine w_p h_m298 3 (pc' := 7) (L' := [(0, .ref 14)]) (st' := [.ref 14]) rfl ?_
  refine w_gs H (pc' := 10) (L' := [(0, .ref 14)]) h_m298 (z_at.mk 3 rfl rfl) rfl (by decide) rfl rfl rfl rfl ?_
  refine w_p h_m298 1 (pc' := 14) (L' := []) (st' := [.int (0 : Int32)]) rfl ?_
  refine w_ri h_m298 (z_at.mk 1 rfl rfl) rfl rfl ?_
  show z_W 996 293 9 [(0, .ref 14)] [.int (0 : Int32), .int (36 : Int32)] m _
  refine w_p h_m293 1 (pc' := 10) (L' := [(0, .ref 14)]) (st' := [.int (36 : Int32)]) rfl ?_
  refine w_ri h_m293 (z_at.mk 1 rfl rfl) rfl rfl ?_
  show z_W 997 218 31 [(0, .ref 143), (1, .ref 14), (2, .int (0 : Int32)), (3, .int (0 : Int32)), (4, .int (0 : Int32)), (5, .int (2 : Int32))] [.int (36 : Int32), .int (2 : Int32)] m _
  refine w_p h_m218 5 (pc' := 40) (L' := [(0, .ref 143), (1, .ref 14), (2, .int (0 : Int32)), (3, .int (0 : Int32)), (4, .int (0 : Int32)), (5, .int (2 : Int32))]) (st' := [.int (2 : Int32), .ref 14]) rfl ?_
  refine w_cv (H.te (by decide) rfl).1 (pc' := 43) (L' := [(0, .ref 143), (1, .ref 14), (2, .int (0 : Int32)), (3, .int (0 : Int32)), (4, .int (0 : Int32)), (5, .int (2 : Int32))]) (rest := []) (Ps := [.int (2 : Int32)]) (L0 := [(0, .ref 14), (1, .int (2 : Int32))]) h_m218 (z_at.mk 3 rfl rfl) (Or.inl ⟨rfl, rfl⟩) rfl rfl (by decide) (by decide) rfl rfl rfl rfl rfl rfl (by decide) rfl rfl rfl ?_
  refine w_p h_m294 1 (pc' := 1) (L' := [(0, .ref 14), (1, .int (2 : Int32))]) (st' := [.ref 14]) rfl ?_
  refine w_cv (H.te (by decide) rfl).1 (pc' := 4) (L' := [(0, .ref 14), (1, .int (2 : Int32))]) (rest := []) (Ps := []) (L0 := [(0, .ref 14)]) h_m294 (z_at.mk 3 rfl rfl) (Or.inl ⟨rfl, rfl⟩) rfl rfl (by decide) (by decide) rfl rfl rfl rfl rfl rfl (by decide) rfl rfl rfl ?_
  refine w_p h_m299 3 (pc' := 7) (L' := [(0, .ref 14)]) (st' := [.ref 14]) rfl ?_
  refine w_gs H (pc' := 10) (L' := [(0, .ref 14)]) h_m299 (z_at.mk 3 rfl rfl) rfl (by decide) rfl rfl rfl rfl ?_
  refine w_p h_m299 3 (pc' := 18) (L' := []) (st' := [.int (1 : Int32)]) rfl ?_
  refine w_ri h_m299 (z_at.mk 1 rfl rfl) rfl rfl ?_
  show z_W 996 294 4 [(0, .ref 14), (1, .int (2 : Int32))] [.int (1 : Int32)] m _
  refine w_p h_m294 2 (pc' := 8) (L' := [(0, .ref 14), (1, .int (2 : Int32))]) (st' := [.ref 14]) rfl ?_
  refine w_gs H (pc' := 11) (L' := [(0, .ref 14), (1, .int (2 : Int32))]) h_m294 (z_at.mk 3 rfl rfl) rfl (by decide) rfl rfl rfl rfl ?_
  refine w_p h_m294 1 (pc' := 12) (L' := [(0, .ref 14), (1, .int (2 : Int32))]) (st' := [.int (2 : Int32), .ref 32]) rfl ?_
  refine w_cs (As := [.ref 32, .int (2 : Int32)]) (rest := []) (j := 308) (L0 := [(0, .ref 32), (1, .int (2 : Int32))]) (pc' := 15) (L' := [(0, .ref 14), (1, .int (2 : Int32))]) h_m294 (z_at.mk 3 rfl rfl) (Or.inl ⟨rfl, rfl⟩) rfl rfl rfl rfl rfl ?_
  refine w_p h_m308 2 (pc' := 2) (L' := [(0, .ref 32), (1, .int (2 : Int32))]) (st' := [.ref 32, .int (2 : Int32)]) rfl ?_
  refine w_lene H (x := (36 : Int32)) (pc' := 3) (L' := [(0, .ref 32), (1, .int (2 : Int32))]) h_m308 (z_at.mk 1 rfl rfl) (by decide) rfl (by decide) rfl rfl rfl ?_
  refine w_ci (pc' := 6) (L' := [(0, .ref 32), (1, .int (2 : Int32))]) h_m308 (z_at.mk 3 rfl rfl) rfl (z_cat_le 0 rfl (by decide)) ⟨by decide, by decide⟩ rfl rfl ?_
  refine w_p h_m308 2 (pc' := 8) (L' := [(0, .ref 32), (1, .int (2 : Int32))]) (st' := [.int (2 : Int32), .ref 32]) rfl ?_
  refine w_ae H (j := 2) (pc' := 9) (L' := [(0, .ref 32), (1, .int (2 : Int32))]) h_m308 (z_at.mk 1 rfl rfl) rfl rfl rfl (by decide) rfl (by decide) rfl rfl rfl ?_
  refine w_p h_m308 3 (pc' := 14) (L' := [(0, .ref 32), (1, .int (2 : Int32))]) (st' := [.int (117 : Int32)]) rfl ?_
  refine w_ri h_m308 (z_at.mk 1 rfl rfl) rfl rfl ?_
  show z_W 996 294 15 [(0, .ref 14), (1, .int (2 : Int32))] [.int (117 : Int32)] m _
  refine w_ri h_m294 (z_at.mk 1 rfl rfl) rfl rfl ?_
  show z_W 997 218 43 [(0, .ref 143), (1, .ref 14), (2, .int (0 : Int32)), (3, .int (0 : Int32)), (4, .int (0 : Int32)), (5, .int (2 : Int32))] [.int (117 : Int32)] m _
  refine w_p h_m218 8 (pc' := 28) (L' := [(0, .ref 143), (1, .ref 14), (2, .int (0 : Int32)), (3, .int (0 : Int32)), (4, .int (0 : Int32)), (5, .int (3 : Int32))]) (st' := [.ref 14, .int (3 : Int32)]) rfl ?_
  refine w_cv (H.te (by decide) rfl).1 (pc' := 31) (L' := [(0, .ref 143), (1, .ref 14), (2, .int (0 : Int32)), (3, .int (0 : Int32)), (4, .int (0 : Int32)), (5, .int (3 : Int32))]) (rest := [.int (3 : Int32)]) (Ps := []) (L0 := [(0, .ref 14)]) h_m218 (z_at.mk 3 rfl rfl) (Or.inl ⟨rfl, rfl⟩) rfl rfl (by decide) (by decide) rfl rfl rfl rfl rfl rfl (by decide) rfl rfl rfl ?_
  refine w_p h_m293 1 (pc' := 1) (L' := [(0, .ref 14)]) (st' := [.ref 14]) rfl ?_
  refine w_gs H (pc' := 4) (L' := [(0, .ref 14)]) h_m293 (z_at.mk 3 rfl rfl) rfl (by decide) rfl rfl rfl rfl ?_
  refine w_lene H (x := (36 : Int32)) (pc' := 5) (L' := [(0, .ref 14)]) h_m293 (z_at.mk 1 rfl rfl) (by decide) rfl (by decide) rfl rfl rfl ?_
  refine w_p h_m293 1 (pc' := 6) (L' := [(0, .ref 14)]) (st' := [.ref 14, .int (36 : Int32)]) rfl ?_
  refine w_cv (H.te (by decide) rfl).1 (pc' := 9) (L' := [(0, .ref 14)]) (rest := [.int (36 : Int32)]) (Ps := []) (L0 := [(0, .ref 14)]) h_m293 (z_at.mk 3 rfl rfl) (Or.inl ⟨rfl, rfl⟩) rfl rfl (by decide) (by decide) rfl rfl rfl rfl rfl rfl (by decide) rfl rfl rfl ?_
  refine w_p h_m298 3 (pc' := 7) (L' := [(0, .ref 14)]) (st' := [.ref 14]) rfl ?_
  refine w_gs H (pc' := 10) (L' := [(0, .ref 14)]) h_m298 (z_at.mk 3 rfl rfl) rfl (by decide) rfl rfl rfl rfl ?_
  refine w_p h_m298 1 (pc' := 14) (L' := []) (st' := [.int (0 : Int32)]) rfl ?_
  refine w_ri h_m298 (z_at.mk 1 rfl rfl) rfl rfl ?_
  show z_W 996 293 9 [(0, .ref 14)] [.int (0 : Int32), .int (36 : Int32)] m _
  refine w_p h_m293 1 (pc' := 10) (L' := [(0, .ref 14)]) (st' := [.int (36 : Int32)]) rfl ?_
  refine w_ri h_m293 (z_at.mk 1 rfl rfl) rfl rfl ?_
  show z_W 997 218 31 [(0, .ref 143), (1, .ref 14), (2, .int (0 : Int32)), (3, .int (0 : Int32)), (4, .int (0 : Int32)), (5, .int (3 : Int32))] [.int (36 : Int32), .int (3 : Int32)] m _
  refine w_p h_m218 5 (pc' := 40) (L' := [(0, .ref 143), (1, .ref 14), (2, .int (0 : Int32)), (3, .int (0 : Int32)), (4, .int (0 : Int32)), (5, .int (3 : Int32))]) (st' := [.int (3 : Int32), .ref 14]) rfl ?_
  refine w_cv (H.te (by decide) rfl).1 (pc' := 43) (L' := [(0, .ref 143), (1, .ref 14), (2, .int (0 : Int32)), (3, .int (0 : Int32)), (4, .int (0 : Int32)), (5, .int (3 : Int32))]) (rest := []) (Ps := [.int (3 : Int32)]) (L0 := [(0, .ref 14), (1, .int (3 : Int32))]) h_m218 (z_at.mk 3 rfl rfl) (Or.inl ⟨rfl, rfl⟩) rfl rfl (by decide) (by decide) rfl rfl rfl rfl rfl rfl (by decide) rfl rfl rfl ?_
  refine w_p h_m294 1 (pc' := 1) (L' := [(0, .ref 14), (1, .int (3 : Int32))]) (st' := [.ref 14]) rfl ?_
  refine w_cv (H.te (by decide) rfl).1 (pc' := 4) (L' := [(0, .ref 14), (1, .int (3 : Int32))]) (rest := []) (Ps := []) (L0 := [(0, .ref 14)]) h_m294 (z_at.mk 3 rfl rfl) (Or.inl ⟨rfl, rfl⟩) rfl rfl (by decide) (by decide) rfl rfl rfl rfl rfl rfl (by decide) rfl rfl rfl ?_
  refine w_p h_m299 3 (pc' := 7) (L' := [(0, .ref 14)]) (st' := [.ref 14]) rfl ?_
  refine w_gs H (pc' := 10) (L' := [(0, .ref 14)]) h_m299 (z_at.mk 3 rfl rfl) rfl (by decide) rfl rfl rfl rfl ?_
  refine w_p h_m299 3 (pc' := 18) (L' := []) (st' := [.int (1 : Int32)]) rfl ?_
  refine w_ri h_m299 (z_at.mk 1 rfl rfl) rfl rfl ?_
  show z_W 996 294 4 [(0, .ref 14), (1, .int (3 : Int32))] [.int (1 : Int32)] m _
  refine w_p h_m294 2 (pc' := 8) (L' := [(0, .ref 14), (1, .int (3 : Int32))]) (st' := [.ref 14]) rfl ?_
  refine w_gs H (pc' := 11) (L' := [(0, .ref 14), (1, .int (3 : Int32))]) h_m294 (z_at.mk 3 rfl rfl) rfl (by decide) rfl rfl rfl rfl ?_
  refine w_p h_m294 1 (pc' := 12) (L' := [(0, .ref 14), (1, .int (3 : Int32))]) (st' := [.int (3 : Int32), .ref 32]) rfl ?_
  refine w_cs (As := [.ref 32, .int (3 : Int32)]) (rest := []) (j := 308) (L0 := [(0, .ref 32), (1, .int (3 : Int32))]) (pc' := 15) (L' := [(0, .ref 14), (1, .int (3 : Int32))]) h_m294 (z_at.mk 3 rfl rfl) (Or.inl ⟨rfl, rfl⟩) rfl rfl rfl rfl rfl ?_
  refine w_p h_m308 2 (pc' := 2) (L' := [(0, .ref 32), (1, .int (3 : Int32))]) (st' := [.ref 32, .int (3 : Int32)]) rfl ?_
  refine w_lene H (x := (36 : Int32)) (pc' := 3) (L' := [(0, .ref 32), (1, .int (3 : Int32))]) h_m308 (z_at.mk 1 rfl rfl) (by decide) rfl (by decide) rfl rfl rfl ?_
  refine w_ci (pc' := 6) (L' := [(0, .ref 32), (1, .int (3 : Int32))]) h_m308 (z_at.mk 3 rfl rfl) rfl (z_cat_le 0 rfl (by decide)) ⟨by decide, by decide⟩ rfl rfl ?_
  refine w_p h_m308 2 (pc' := 8) (L' := [(0, .ref 32), (1, .int (3 : Int32))]) (st' := [.int (3 : Int32), .ref 32]) rfl ?_
  refine w_ae H (j := 3) (pc' := 9) (L' := [(0, .ref 32), (1, .int (3 : Int32))]) h_m308 (z_at.mk 1 rfl rfl) rfl rfl rfl (by decide) rfl (by decide) rfl rfl rfl ?_
  refine w_p h_m308 3 (pc' := 14) (L' := [(0, .ref 32), (1, .int (3 : Int32))]) (st' := [.int (110 : Int32)]) rfl ?_
  refine w_ri h_m308 (z_at.mk 1 rfl rfl) rfl rfl ?_
  show z_W 996 294 15 [(0, .ref 14), (1, .int (3 : Int32))] [.int (110 : Int32)] m _
  refine w_ri h_m294 (z_at.mk 1 rfl rfl) rfl rfl ?_
  show z_W 997 218 43 [(0, .ref 143), (1, .ref 14), (2, .int (0 : Int32)), (3, .int (0 : Int32)), (4, .int (0 : Int32)), (5, .int (3 : Int32))] [.int (110 : Int32)] m _
  refine w_p h_m218 8 (pc' := 28) (L' := [(0, .ref 143), (1, .ref 14), (2, .int (0 : Int32)), (3, .int (0 : Int32)), (4, .int (0 : Int32)), (5, .int (4 : Int32))]) (st' := [.ref 14, .int (4 : Int32)]) rfl ?_
  refine w_cv (H.te (by decide) rfl).1 (pc' := 31) (L' := [(0, .ref 143), (1, .ref 14), (2, .int (0 : Int32)), (3, .int (0 : Int32)), (4, .int (0 : Int32)), (5, .int (4 : Int32))]) (rest := [.int (4 : Int32)]) (Ps := []) (L0 := [(0, .ref 14)]) h_m218 (z_at.mk 3 rfl rfl) (Or.inl ⟨rfl, rfl⟩) rfl rfl (by decide) (by decide) rfl rfl rfl rfl rfl rfl (by decide) rfl rfl rfl ?_
  refine w_p h_m293 1 (pc' := 1) (L' := [(0, .ref 14)]) (st' := [.ref 14]) rfl ?_
  refine w_gs H (pc' := 4) (L' := [(0, .ref 14)]) h_m293 (z_at.mk 3 rfl rfl) rfl (by decide) rfl rfl rfl rfl ?_
  refine w_lene H (x := (36 : Int32)) (pc' := 5) (L' := [(0, .ref 14)]) h_m293 (z_at.mk 1 rfl rfl) (by decide) rfl (by decide) rfl rfl rfl ?_
  refine w_p h_m293 1 (pc' := 6) (L' := [(0, .ref 14)]) (st' := [.ref 14, .int (36 : Int32)]) rfl ?_
  refine w_cv (H.te (by decide) rfl).1 (pc' := 9) (L' := [(0, .ref 14)]) (rest := [.int (36 : Int32)]) (Ps := []) (L0 := [(0, .ref 14)]) h_m293 (z_at.mk 3 rfl rfl) (Or.inl ⟨rfl, rfl⟩) rfl rfl (by decide) (by decide) rfl rfl rfl rfl rfl rfl (by decide) rfl rfl rfl ?_
  refine w_p h_m298 3 (pc' := 7) (L' := [(0, .ref 14)]) (st' := [.ref 14]) rfl ?_
  refine w_gs H (pc' := 10) (L' := [(0, .ref 14)]) h_m298 (z_at.mk 3 rfl rfl) rfl (by decide) rfl rfl rfl rfl ?_
  refine w_p h_m298 1 (pc' := 14) (L' := []) (st' := [.int (0 : Int32)]) rfl ?_
  refine w_ri h_m298 (z_at.mk 1 rfl rfl) rfl rfl ?_
  show z_W 996 293 9 [(0, .ref 14)] [.int (0 : Int32), .int (36 : Int32)] m _
  refine w_p h_m293 1 (pc' := 10) (L' := [(0, .ref 14)]) (st' := [.int (36 : Int32)]) rfl ?_
  refine w_ri h_m293 (z_at.mk 1 rfl rfl) rfl rfl ?_
  show z_W 997 218 31 [(0, .ref 143), (1, .ref 14), (2, .int (0 : Int32)), (3, .int (0 : Int32)), (4, .int (0 : Int32)), (5, .int (4 : Int32))] [.int (36 : Int32), .int (4 : Int32)] m _
  refine w_p h_m218 5 (pc' := 40) (L' := [(0, .ref 143), (1, .ref 14), (2, .int (0 : Int32)), (3, .int (0 : Int32)), (4, .int (0 : Int32)), (5, .int (4 : Int32))]) (st' := [.int (4 : Int32), .ref 14]) rfl ?_
  refine w_cv (H.te (by decide) rfl).1 (pc' := 43) (L' := [(0, .ref 143), (1, .ref 14), (2, .int (0 : Int32)), (3, .int (0 : Int32)), (4, .int (0 : Int32)), (5, .int (4 : Int32))]) (rest := []) (Ps := [.int (4 : Int32)]) (L0 := [(0, .ref 14), (1, .int (4 : Int32))]) h_m218 (z_at.mk 3 rfl rfl) (Or.inl ⟨rfl, rfl⟩) rfl rfl (by decide) (by decide) rfl rfl rfl rfl rfl rfl (by decide) rfl rfl rfl ?_
  refine w_p h_m294 1 (pc' := 1) (L' := [(0, .ref 14), (1, .int (4 : Int32))]) (st' := [.ref 14]) rfl ?_
  refine w_cv (H.te (by decide) rfl).1 (pc' := 4) (L' := [(0, .ref 14), (1, .int (4 : Int32))]) (rest := []) (Ps := []) (L0 := [(0, .ref 14)]) h_m294 (z_at.mk 3 rfl rfl) (Or.inl ⟨rfl, rfl⟩) rfl rfl (by decide) (by decide) rfl rfl rfl rfl rfl rfl (by decide) rfl rfl rfl ?_
  refine w_p h_m299 3 (pc' := 7) (L' := [(0, .ref 14)]) (st' := [.ref 14]) rfl ?_
  refine w_gs H (pc' := 10) (L' := [(0, .ref 14)]) h_m299 (z_at.mk 3 rfl rfl) rfl (by decide) rfl rfl rfl rfl ?_
  refine w_p h_m299 3 (pc' := 18) (L' := []) (st' := [.int (1 : Int32)]) rfl ?_
  refine w_ri h_m299 (z_at.mk 1 rfl rfl) rfl rfl ?_
  show z_W 996 294 4 [(0, .ref 14), (1, .int (4 : Int32))] [.int (1 : Int32)] m _
  refine w_p h_m294 2 (pc' := 8) (L' := [(0, .ref 14), (1, .int (4 : Int32))]) (st' := [.ref 14]) rfl ?_
  refine w_gs H (pc' := 11) (L' := [(0, .ref 14), (1, .int (4 : Int32))]) h_m294 (z_at.mk 3 rfl rfl) rfl (by decide) rfl rfl rfl rfl ?_
  refine w_p h_m294 1 (pc' := 12) (L' := [(0, .ref 14), (1, .int (4 : Int32))]) (st' := [.int (4 : Int32), .ref 32]) rfl ?_
  refine w_cs (As := [.ref 32, .int (4 : Int32)]) (rest := []) (j := 308) (L0 := [(0, .ref 32), (1, .int (4 : Int32))]) (pc' := 15) (L' := [(0, .ref 14), (1, .int (4 : Int32))]) h_m294 (z_at.mk 3 rfl rfl) (Or.inl ⟨rfl, rfl⟩) rfl rfl rfl rfl rfl ?_
  refine w_p h_m308 2 (pc' := 2) (L' := [(0, .ref 32), (1, .int (4 : Int32))]) (st' := [.ref 32, .int (4 : Int32)]) rfl ?_
  refine w_lene H (x := (36 : Int32)) (pc' := 3) (L' := [(0, .ref 32), (1, .int (4 : Int32))]) h_m308 (z_at.mk 1 rfl rfl) (by decide) rfl (by decide) rfl rfl rfl ?_
  refine w_ci (pc' := 6) (L' := [(0, .ref 32), (1, .int (4 : Int32))]) h_m308 (z_at.mk 3 rfl rfl) rfl (z_cat_le 0 rfl (by decide)) ⟨by decide, by decide⟩ rfl rfl ?_
  refine w_p h_m308 2 (pc' := 8) (L' := [(0, .ref 32), (1, .int (4 : Int32))]) (st' := [.int (4 : Int32), .ref 32]) rfl ?_
  refine w_ae H (j := 4) (pc' := 9) (L' := [(0, .ref 32), (1, .int (4 : Int32))]) h_m308 (z_at.mk 1 rfl rfl) rfl rfl rfl (by decide) rfl (by decide) rfl rfl rfl ?_
  refine w_p h_m308 3 (pc' := 14) (L' := [(0, .ref 32), (1, .int (4 : Int32))]) (st' := [.int (116 : Int32)]) rfl ?_
  refine w_ri h_m308 (z_at.mk 1 rfl rfl) rfl rfl ?_
  show z_W 996 294 15 [(0, .ref 14), (1, .int (4 : Int32))] [.int (116 : Int32)] m _
  refine w_ri h_m294 (z_at.mk 1 rfl rfl) rfl rfl ?_
  show z_W 997 218 43 [(0, .ref 143), (1, .ref 14), (2, .int (0 : Int32)), (3, .int (0 : Int32)), (4, .int (0 : Int32)), (5, .int (4 : Int32))] [.int (116 : Int32)] m _
  refine w_p h_m218 8 (pc' := 28) (L' := [(0, .ref 143), (1, .ref 14), (2, .int (0 : Int32)), (3, .int (0 : Int32)), (4, .int (0 : Int32)), (5, .int (5 : Int32))]) (st' := [.ref 14, .int (5 : Int32)]) rfl ?_
  refine w_cv (H.te (by decide) rfl).1 (pc' := 31) (L' := [(0, .ref 143), (1, .ref 14), (2, .int (0 : Int32)), (3, .int (0 : Int32)), (4, .int (0 : Int32)), (5, .int (5 : Int32))]) (rest := [.int (5 : Int32)]) (Ps := []) (L0 := [(0, .ref 14)]) h_m218 (z_at.mk 3 rfl rfl) (Or.inl ⟨rfl, rfl⟩) rfl rfl (by decide) (by decide) rfl rfl rfl rfl rfl rfl (by decide) rfl rfl rfl ?_
  refine w_p h_m293 1 (pc' := 1) (L' := [(0, .ref 14)]) (st' := [.ref 14]) rfl ?_
  refine w_gs H (pc' := 4) (L' := [(0, .ref 14)]) h_m293 (z_at.mk 3 rfl rfl) rfl (by decide) rfl rfl rfl rfl ?_
  refine w_lene H (x := (36 : Int32)) (pc' := 5) (L' := [(0, .ref 14)]) h_m293 (z_at.mk 1 rfl rfl) (by decide) rfl (by decide) rfl rfl rfl ?_
  refine w_p h_m293 1 (pc' := 6) (L' := [(0, .ref 14)]) (st' := [.ref 14, .int (36 : Int32)]) rfl ?_
  refine w_cv (H.te (by decide) rfl).1 (pc' := 9) (L' := [(0, .ref 14)]) (rest := [.int (36 : Int32)]) (Ps := []) (L0 := [(0, .ref 14)]) h_m293 (z_at.mk 3 rfl rfl) (Or.inl ⟨rfl, rfl⟩) rfl rfl (by decide) (by decide) rfl rfl rfl rfl rfl rfl (by decide) rfl rfl rfl ?_
  refine w_p h_m298 3 (pc' := 7) (L' := [(0, .ref 14)]) (st' := [.ref 14]) rfl ?_
  refine w_gs H (pc' := 10) (L' := [(0, .ref 14)]) h_m298 (z_at.mk 3 rfl rfl) rfl (by decide) rfl rfl rfl rfl ?_
  refine w_p h_m298 1 (pc' := 14) (L' := []) (st' := [.int (0 : Int32)]) rfl ?_
  refine w_ri h_m298 (z_at.mk 1 rfl rfl) rfl rfl ?_
  show z_W 996 293 9 [(0, .ref 14)] [.int (0 : Int32), .int (36 : Int32)] m _
  refine w_p h_m293 1 (pc' := 10) (L' := [(0, .ref 14)]) (st' := [.int (36 : Int32)]) rfl ?_
  refine w_ri h_m293 (z_at.mk 1 rfl rfl) rfl rfl ?_
  show z_W 997 218 31 [(0, .ref 143), (1, .ref 14), (2, .int (0 : Int32)), (3, .int (0 : Int32)), (4, .int (0 : Int32)), (5, .int (5 : Int32))] [.int (36 : Int32), .int (5 : Int32)] m _
  refine w_p h_m218 5 (pc' := 40) (L' := [(0, .ref 143), (1, .ref 14), (2, .int (0 : Int32)), (3, .int (0 : Int32)), (4, .int (0 : Int32)), (5, .int (5 : Int32))]) (st' := [.int (5 : Int32), .ref 14]) rfl ?_
  refine w_cv (H.te (by decide) rfl).1 (pc' := 43) (L' := [(0, .ref 143), (1, .ref 14), (2, .int (0 : Int32)), (3, .int (0 : Int32)), (4, .int (0 : Int32)), (5, .int (5 : Int32))]) (rest := []) (Ps := [.int (5 : Int32)]) (L0 := [(0, .ref 14), (1, .int (5 : Int32))]) h_m218 (z_at.mk 3 rfl rfl) (Or.inl ⟨rfl, rfl⟩) rfl rfl (by decide) (by decide) rfl rfl rfl rfl rfl rfl (by decide) rfl rfl rfl ?_
  refine w_p h_m294 1 (pc' := 1) (L' := [(0, .ref 14), (1, .int (5 : Int32))]) (st' := [.ref 14]) rfl ?_
  refine w_cv (H.te (by decide) rfl).1 (pc' := 4) (L' := [(0, .ref 14), (1, .int (5 : Int32))]) (rest := []) (Ps := []) (L0 := [(0, .ref 14)]) h_m294 (z_at.mk 3 rfl rfl) (Or.inl ⟨rfl, rfl⟩) rfl rfl (by decide) (by decide) rfl rfl rfl rfl rfl rfl (by decide) rfl rfl rfl ?_
  refine w_p h_m299 3 (pc' := 7) (L' := [(0, .ref 14)]) (st' := [.ref 14]) rfl ?_
  refine w_gs H (pc' := 10) (L' := [(0, .ref 14)]) h_m299 (z_at.mk 3 rfl rfl) rfl (by decide) rfl rfl rfl rfl ?_
  refine w_p h_m299 3 (pc' := 18) (L' := []) (st' := [.int (1 : Int32)]) rfl ?_
  refine w_ri h_m299 (z_at.mk 1 rfl rfl) rfl rfl ?_
  show z_W 996 294 4 [(0, .ref 14), (1, .int (5 : Int32))] [.int (1 : Int32)] m _
  refine w_p h_m294 2 (pc' := 8) (L' := [(0, .ref 14), (1, .int (5 : Int32))]) (st' := [.ref 14]) rfl ?_
  refine w_gs H (pc' := 11) (L' := [(0, .ref 14), (1, .int (5 : Int32))]) h_m294 (z_at.mk 3 rfl rfl) rfl (by decide) rfl rfl rfl rfl ?_
  refine w_p h_m294 1 (pc' := 12) (L' := [(0, .ref 14), (1, .int (5 : Int32))]) (st' := [.int (5 : Int32), .ref 32]) rfl ?_
  refine w_cs (As := [.ref 32, .int (5 : Int32)]) (rest := []) (j := 308) (L0 := [(0, .ref 32), (1, .int (5 : Int32))]) (pc' := 15) (L' := [(0, .ref 14), (1, .int (5 : Int32))]) h_m294 (z_at.mk 3 rfl rfl) (Or.inl ⟨rfl, rfl⟩) rfl rfl rfl rfl rfl ?_
  refine w_p h_m308 2 (pc' := 2) (L' := [(0, .ref 32), (1, .int (5 : Int32))]) (st' := [.ref 32, .int (5 : Int32)]) rfl ?_
  refine w_lene H (x := (36 : Int32)) (pc' := 3) (L' := [(0, .ref 32), (1, .int (5 : Int32))]) h_m308 (z_at.mk 1 rfl rfl) (by decide) rfl (by decide) rfl rfl rfl ?_
  refine w_ci (pc' := 6) (L' := [(0, .ref 32), (1, .int (5 : Int32))]) h_m308 (z_at.mk 3 rfl rfl) rfl (z_cat_le 0 rfl (by decide)) ⟨by decide, by decide⟩ rfl rfl ?_
  refine w_p h_m308 2 (pc' := 8) (L' := [(0, .ref 32), (1, .int (5 : Int32))]) (st' := [.int (5 : Int32), .ref 32]) rfl ?_
  refine w_ae H (j := 5) (pc' := 9) (L' := [(0, .ref 32), (1, .int (5 : Int32))]) h_m308 (z_at.mk 1 rfl rfl) rfl rfl rfl (by decide) rfl (by decide) rfl rfl rfl ?_
  refine w_p h_m308 3 (pc' := 14) (L' := [(0, .ref 32), (1, .int (5 : Int32))]) (st' := [.int (32 : Int32)]) rfl ?_
  refine w_ri h_m308 (z_at.mk 1 rfl rfl) rfl rfl ?_
  show z_W 996 294 15 [(0, .ref 14), (1, .int (5 : Int32))] [.int (32 : Int32)] m _
  refine w_ri h_m294 (z_at.mk 1 rfl rfl) rfl rfl ?_
  show z_W 997 218 43 [(0, .ref 143), (1, .ref 14), (2, .int (0 : Int32)), (3, .int (0 : Int32)), (4, .int (0 : Int32)), (5, .int (5 : Int32))] [.int (32 : Int32)] m _
  refine w_p h_m218 5 (pc' := 58) (L' := [(0, .ref 143), (1, .ref 14), (2, .int (0 : Int32)), (3, .int (0 : Int32)), (4, .int (0 : Int32)), (5, .int (5 : Int32))]) (st' := [.ref 143, .int (0 : Int32), .int (5 : Int32)]) rfl ?_
  refine w_gf H (pc' := 61) (L' := [(0, .ref 143), (1, .ref 14), (2, .int (0 : Int32)), (3, .int (0 : Int32)), (4, .int (0 : Int32)), (5, .int (5 : Int32))]) h_m218 (z_at.mk 3 rfl rfl) rfl (u := .int (0 : Int32)) rfl rfl rfl ?_
  refine w_p h_m218 23 (pc' := 13) (L' := [(0, .ref 143), (1, .ref 14), (2, .int (0 : Int32)), (3, .int (1 : Int32)), (4, .int (6 : Int32))]) (st' := [.ref 14, .int (6 : Int32)]) rfl ?_
  refine w_cv (H.te (by decide) rfl).1 (pc' := 16) (L' := [(0, .ref 143), (1, .ref 14), (2, .int (0 : Int32)), (3, .int (1 : Int32)), (4, .int (6 : Int32))]) (rest := [.int (6 : Int32)]) (Ps := []) (L0 := [(0, .ref 14)]) h_m218 (z_at.mk 3 rfl rfl) (Or.inl ⟨rfl, rfl⟩) rfl rfl (by decide) (by decide) rfl rfl rfl rfl rfl rfl (by decide) rfl rfl rfl ?_
  refine w_p h_m293 1 (pc' := 1) (L' := [(0, .ref 14)]) (st' := [.ref 14]) rfl ?_
  refine w_gs H (pc' := 4) (L' := [(0, .ref 14)]) h_m293 (z_at.mk 3 rfl rfl) rfl (by decide) rfl rfl rfl rfl ?_
  refine w_lene H (x := (36 : Int32)) (pc' := 5) (L' := [(0, .ref 14)]) h_m293 (z_at.mk 1 rfl rfl) (by decide) rfl (by decide) rfl rfl rfl ?_
  refine w_p h_m293 1 (pc' := 6) (L' := [(0, .ref 14)]) (st' := [.ref 14, .int (36 : Int32)]) rfl ?_
  refine w_cv (H.te (by decide) rfl).1 (pc' := 9) (L' := [(0, .ref 14)]) (rest := [.int (36 : Int32)]) (Ps := []) (L0 := [(0, .ref 14)]) h_m293 (z_at.mk 3 rfl rfl) (Or.inl ⟨rfl, rfl⟩) rfl rfl (by decide) (by decide) rfl rfl rfl rfl rfl rfl (by decide) rfl rfl rfl ?_
  refine w_p h_m298 3 (pc' := 7) (L' := [(0, .ref 14)]) (st' := [.ref 14]) rfl ?_
  refine w_gs H (pc' := 10) (L' := [(0, .ref 14)]) h_m298 (z_at.mk 3 rfl rfl) rfl (by decide) rfl rfl rfl rfl ?_
  refine w_p h_m298 1 (pc' := 14) (L' := []) (st' := [.int (0 : Int32)]) rfl ?_
  refine w_ri h_m298 (z_at.mk 1 rfl rfl) rfl rfl ?_
  show z_W 996 293 9 [(0, .ref 14)] [.int (0 : Int32), .int (36 : Int32)] m _
  refine w_p h_m293 1 (pc' := 10) (L' := [(0, .ref 14)]) (st' := [.int (36 : Int32)]) rfl ?_
  refine w_ri h_m293 (z_at.mk 1 rfl rfl) rfl rfl ?_
  show z_W 997 218 16 [(0, .ref 143), (1, .ref 14), (2, .int (0 : Int32)), (3, .int (1 : Int32)), (4, .int (6 : Int32))] [.int (36 : Int32), .int (6 : Int32)] m _
  refine w_p h_m218 7 (pc' := 28) (L' := [(0, .ref 143), (1, .ref 14), (2, .int (0 : Int32)), (3, .int (1 : Int32)), (4, .int (6 : Int32)), (5, .int (0 : Int32))]) (st' := [.ref 14, .int (6 : Int32)]) rfl ?_
  refine w_cv (H.te (by decide) rfl).1 (pc' := 31) (L' := [(0, .ref 143), (1, .ref 14), (2, .int (0 : Int32)), (3, .int (1 : Int32)), (4, .int (6 : Int32)), (5, .int (0 : Int32))]) (rest := [.int (6 : Int32)]) (Ps := []) (L0 := [(0, .ref 14)]) h_m218 (z_at.mk 3 rfl rfl) (Or.inl ⟨rfl, rfl⟩) rfl rfl (by decide) (by decide) rfl rfl rfl rfl rfl rfl (by decide) rfl rfl rfl ?_
  refine w_p h_m293 1 (pc' := 1) (L' := [(0, .ref 14)]) (st' := [.ref 14]) rfl ?_
  refine w_gs H (pc' := 4) (L' := [(0, .ref 14)]) h_m293 (z_at.mk 3 rfl rfl) rfl (by decide) rfl rfl rfl rfl ?_
  refine w_lene H (x := (36 : Int32)) (pc' := 5) (L' := [(0, .ref 14)]) h_m293 (z_at.mk 1 rfl rfl) (by decide) rfl (by decide) rfl rfl rfl ?_
  refine w_p h_m293 1 (pc' := 6) (L' := [(0, .ref 14)]) (st' := [.ref 14, .int (36 : Int32)]) rfl ?_
  refine w_cv (H.te (by decide) rfl).1 (pc' := 9) (L' := [(0, .ref 14)]) (rest := [.int (36 : Int32)]) (Ps := []) (L0 := [(0, .ref 14)]) h_m293 (z_at.mk 3 rfl rfl) (Or.inl ⟨rfl, rfl⟩) rfl rfl (by decide) (by decide) rfl rfl rfl rfl rfl rfl (by decide) rfl rfl rfl ?_
  refine w_p h_m298 3 (pc' := 7) (L' := [(0, .ref 14)]) (st' := [.ref 14]) rfl ?_
  refine w_gs H (pc' := 10) (L' := [(0, .ref 14)]) h_m298 (z_at.mk 3 rfl rfl) rfl (by decide) rfl rfl rfl rfl ?_
  refine w_p h_m298 1 (pc' := 14) (L' := []) (st' := [.int (0 : Int32)]) rfl ?_
  refine w_ri h_m298 (z_at.mk 1 rfl rfl) rfl rfl ?_
  show z_W 996 293 9 [(0, .ref 14)] [.int (0 : Int32), .int (36 : Int32)] m _
  refine w_p h_m293 1 (pc' := 10) (L' := [(0, .ref 14)]) (st' := [.int (36 : Int32)]) rfl ?_
  refine w_ri h_m293 (z_at.mk 1 rfl rfl) rfl rfl ?_
  show z_W 997 218 31 [(0, .ref 143), (1, .ref 14), (2, .int (0 : Int32)), (3, .int (1 : Int32)), (4, .int (6 : Int32)), (5, .int (0 : Int32))] [.int (36 : Int32), .int (6 : Int32)] m _
  refine w_p h_m218 5 (pc' := 40) (L' := [(0, .ref 143), (1, .ref 14), (2, .int (0 : Int32)), (3, .int (1 : Int32)), (4, .int (6 : Int32)), (5, .int (0 : Int32))]) (st' := [.int (6 : Int32), .ref 14]) rfl ?_
  refine w_cv (H.te (by decide) rfl).1 (pc' := 43) (L' := [(0, .ref 143), (1, .ref 14), (2, .int (0 : Int32)), (3, .int (1 : Int32)), (4, .int (6 : Int32)), (5, .int (0 : Int32))]) (rest := []) (Ps := [.int (6 : Int32)]) (L0 := [(0, .ref 14), (1, .int (6 : Int32))]) h_m218 (z_at.mk 3 rfl rfl) (Or.inl ⟨rfl, rfl⟩) rfl rfl (by decide) (by decide) rfl rfl rfl rfl rfl rfl (by decide) rfl rfl rfl ?_
  refine w_p h_m294 1 (pc' := 1) (L' := [(0, .ref 14), (1, .int (6 : Int32))]) (st' := [.ref 14]) rfl ?_
  refine w_cv (H.te (by decide) rfl).1 (pc' := 4) (L' := [(0, .ref 14), (1, .int (6 : Int32))]) (rest := []) (Ps := []) (L0 := [(0, .ref 14)]) h_m294 (z_at.mk 3 rfl rfl) (Or.inl ⟨rfl, rfl⟩) rfl rfl (by decide) (by decide) rfl rfl rfl rfl rfl rfl (by decide) rfl rfl rfl ?_
  refine w_p h_m299 3 (pc' := 7) (L' := [(0, .ref 14)]) (st' := [.ref 14]) rfl ?_
  refine w_gs H (pc' := 10) (L' := [(0, .ref 14)]) h_m299 (z_at.mk 3 rfl rfl) rfl (by decide) rfl rfl rfl rfl ?_
  refine w_p h_m299 3 (pc' := 18) (L' := []) (st' := [.int (1 : Int32)]) rfl ?_
  refine w_ri h_m299 (z_at.mk 1 rfl rfl) rfl rfl ?_
  show z_W 996 294 4 [(0, .ref 14), (1, .int (6 : Int32))] [.int (1 : Int32)] m _
  refine w_p h_m294 2 (pc' := 8) (L' := [(0, .ref 14), (1, .int (6 : Int32))]) (st' := [.ref 14]) rfl ?_
  refine w_gs H (pc' := 11) (L' := [(0, .ref 14), (1, .int (6 : Int32))]) h_m294 (z_at.mk 3 rfl rfl) rfl (by decide) rfl rfl rfl rfl ?_
  refine w_p h_m294 1 (pc' := 12) (L' := [(0, .ref 14), (1, .int (6 : Int32))]) (st' := [.int (6 : Int32), .ref 32]) rfl ?_
  refine w_cs (As := [.ref 32, .int (6 : Int32)]) (rest := []) (j := 308) (L0 := [(0, .ref 32), (1, .int (6 : Int32))]) (pc' := 15) (L' := [(0, .ref 14), (1, .int (6 : Int32))]) h_m294 (z_at.mk 3 rfl rfl) (Or.inl ⟨rfl, rfl⟩) rfl rfl rfl rfl rfl ?_
  refine w_p h_m308 2 (pc' := 2) (L' := [(0, .ref 32), (1, .int (6 : Int32))]) (st' := [.ref 32, .int (6 : Int32)]) rfl ?_
  refine w_lene H (x := (36 : Int32)) (pc' := 3) (L' := [(0, .ref 32), (1, .int (6 : Int32))]) h_m308 (z_at.mk 1 rfl rfl) (by decide) rfl (by decide) rfl rfl rfl ?_
  refine w_ci (pc' := 6) (L' := [(0, .ref 32), (1, .int (6 : Int32))]) h_m308 (z_at.mk 3 rfl rfl) rfl (z_cat_le 0 rfl (by decide)) ⟨by decide, by decide⟩ rfl rfl ?_
  refine w_p h_m308 2 (pc' := 8) (L' := [(0, .ref 32), (1, .int (6 : Int32))]) (st' := [.int (6 : Int32), .ref 32]) rfl ?_
  refine w_ae H (j := 6) (pc' := 9) (L' := [(0, .ref 32), (1, .int (6 : Int32))]) h_m308 (z_at.mk 1 rfl rfl) rfl rfl rfl (by decide) rfl (by decide) rfl rfl rfl ?_
  refine w_p h_m308 3 (pc' := 14) (L' := [(0, .ref 32), (1, .int (6 : Int32))]) (st' := [.int (115 : Int32)]) rfl ?_
  refine w_ri h_m308 (z_at.mk 1 rfl rfl) rfl rfl ?_
  show z_W 996 294 15 [(0, .ref 14), (1, .int (6 : Int32))] [.int (115 : Int32)] m _
  refine w_ri h_m294 (z_at.mk 1 rfl rfl) rfl rfl ?_
  show z_W 997 218 43 [(0, .ref 143), (1, .ref 14), (2, .int (0 : Int32)), (3, .int (1 : Int32)), (4, .int (6 : Int32)), (5, .int (0 : Int32))] [.int (115 : Int32)] m _
  refine w_p h_m218 8 (pc' := 28) (L' := [(0, .ref 143), (1, .ref 14), (2, .int (0 : Int32)), (3, .int (1 : Int32)), (4, .int (6 : Int32)), (5, .int (1 : Int32))]) (st' := [.ref 14, .int (7 : Int32)]) rfl ?_
  refine w_cv (H.te (by decide) rfl).1 (pc' := 31) (L' := [(0, .ref 143), (1, .ref 14), (2, .int (0 : Int32)), (3, .int (1 : Int32)), (4, .int (6 : Int32)), (5, .int (1 : Int32))]) (rest := [.int (7 : Int32)]) (Ps := []) (L0 := [(0, .ref 14)]) h_m218 (z_at.mk 3 rfl rfl) (Or.inl ⟨rfl, rfl⟩) rfl rfl (by decide) (by decide) rfl rfl rfl rfl rfl rfl (by decide) rfl rfl rfl ?_
  refine w_p h_m293 1 (pc' := 1) (L' := [(0, .ref 14)]) (st' := [.ref 14]) rfl ?_
  refine w_gs H (pc' := 4) (L' := [(0, .ref 14)]) h_m293 (z_at.mk 3 rfl rfl) rfl (by decide) rfl rfl rfl rfl ?_
  refine w_lene H (x := (36 : Int32)) (pc' := 5) (L' := [(0, .ref 14)]) h_m293 (z_at.mk 1 rfl rfl) (by decide) rfl (by decide) rfl rfl rfl ?_
  refine w_p h_m293 1 (pc' := 6) (L' := [(0, .ref 14)]) (st' := [.ref 14, .int (36 : Int32)]) rfl ?_
  refine w_cv (H.te (by decide) rfl).1 (pc' := 9) (L' := [(0, .ref 14)]) (rest := [.int (36 : Int32)]) (Ps := []) (L0 := [(0, .ref 14)]) h_m293 (z_at.mk 3 rfl rfl) (Or.inl ⟨rfl, rfl⟩) rfl rfl (by decide) (by decide) rfl rfl rfl rfl rfl rfl (by decide) rfl rfl rfl ?_
  refine w_p h_m298 3 (pc' := 7) (L' := [(0, .ref 14)]) (st' := [.ref 14]) rfl ?_
  refine w_gs H (pc' := 10) (L' := [(0, .ref 14)]) h_m298 (z_at.mk 3 rfl rfl) rfl (by decide) rfl rfl rfl rfl ?_
  refine w_p h_m298 1 (pc' := 14) (L' := []) (st' := [.int (0 : Int32)]) rfl ?_
  refine w_ri h_m298 (z_at.mk 1 rfl rfl) rfl rfl ?_
  show z_W 996 293 9 [(0, .ref 14)] [.int (0 : Int32), .int (36 : Int32)] m _
  refine w_p h_m293 1 (pc' := 10) (L' := [(0, .ref 14)]) (st' := [.int (36 : Int32)]) rfl ?_
  refine w_ri h_m293 (z_at.mk 1 rfl rfl) rfl rfl ?_
  show z_W 997 218 31 [(0, .ref 143), (1, .ref 14), (2, .int (0 : Int32)), (3, .int (1 : Int32)), (4, .int (6 : Int32)), (5, .int (1 : Int32))] [.int (36 : Int32), .int (7 : Int32)] m _
  refine w_p h_m218 5 (pc' := 40) (L' := [(0, .ref 143), (1, .ref 14), (2, .int (0 : Int32)), (3, .int (1 : Int32)), (4, .int (6 : Int32)), (5, .int (1 : Int32))]) (st' := [.int (7 : Int32), .ref 14]) rfl ?_
  refine w_cv (H.te (by decide) rfl).1 (pc' := 43) (L' := [(0, .ref 143), (1, .ref 14), (2, .int (0 : Int32)), (3, .int (1 : Int32)), (4, .int (6 : Int32)), (5, .int (1 : Int32))]) (rest := []) (Ps := [.int (7 : Int32)]) (L0 := [(0, .ref 14), (1, .int (7 : Int32))]) h_m218 (z_at.mk 3 rfl rfl) (Or.inl ⟨rfl, rfl⟩) rfl rfl (by decide) (by decide) rfl rfl rfl rfl rfl rfl (by decide) rfl rfl rfl ?_
  refine w_p h_m294 1 (pc' := 1) (L' := [(0, .ref 14), (1, .int (7 : Int32))]) (st' := [.ref 14]) rfl ?_
  refine w_cv (H.te (by decide) rfl).1 (pc' := 4) (L' := [(0, .ref 14), (1, .int (7 : Int32))]) (rest := []) (Ps := []) (L0 := [(0, .ref 14)]) h_m294 (z_at.mk 3 rfl rfl) (Or.inl ⟨rfl, rfl⟩) rfl rfl (by decide) (by decide) rfl rfl rfl rfl rfl rfl (by decide) rfl rfl rfl ?_
  refine w_p h_m299 3 (pc' := 7) (L' := [(0, .ref 14)]) (st' := [.ref 14]) rfl ?_
  refine w_gs H (pc' := 10) (L' := [(0, .ref 14)]) h_m299 (z_at.mk 3 rfl rfl) rfl (by decide) rfl rfl rfl rfl ?_
  refine w_p h_m299 3 (pc' := 18) (L' := []) (st' := [.int (1 : Int32)]) rfl ?_
  refine w_ri h_m299 (z_at.mk 1 rfl rfl) rfl rfl ?_
  show z_W 996 294 4 [(0, .ref 14), (1, .int (7 : Int32))] [.int (1 : Int32)] m _
  refine w_p h_m294 2 (pc' := 8) (L' := [(0, .ref 14), (1, .int (7 : Int32))]) (st' := [.ref 14]) rfl ?_
  refine w_gs H (pc' := 11) (L' := [(0, .ref 14), (1, .int (7 : Int32))]) h_m294 (z_at.mk 3 rfl rfl) rfl (by decide) rfl rfl rfl rfl ?_
  refine w_p h_m294 1 (pc' := 12) (L' := [(0, .ref 14), (1, .int (7 : Int32))]) (st' := [.int (7 : Int32), .ref 32]) rfl ?_
  refine w_cs (As := [.ref 32, .int (7 : Int32)]) (rest := []) (j := 308) (L0 := [(0, .ref 32), (1, .int (7 : Int32))]) (pc' := 15) (L' := [(0, .ref 14), (1, .int (7 : Int32))]) h_m294 (z_at.mk 3 rfl rfl) (Or.inl ⟨rfl, rfl⟩) rfl rfl rfl rfl rfl ?_
  refine w_p h_m308 2 (pc' := 2) (L' := [(0, .ref 32), (1, .int (7 : Int32))]) (st' := [.ref 32, .int (7 : Int32)]) rfl ?_
  refine w_lene H (x := (36 : Int32)) (pc' := 3) (L' := [(0, .ref 32), (1, .int (7 : Int32))]) h_m308 (z_at.mk 1 rfl rfl) (by decide) rfl (by decide) rfl rfl rfl ?_
  refine w_ci (pc' := 6) (L' := [(0, .ref 32), (1, .int (7 : Int32))]) h_m308 (z_at.mk 3 rfl rfl) rfl (z_cat_le 0 rfl (by decide)) ⟨by decide, by decide⟩ rfl rfl ?_
  refine w_p h_m308 2 (pc' := 8) (L' := [(0, .ref 32), (1, .int (7 : Int32))]) (st' := [.int (7 : Int32), .ref 32]) rfl ?_
  refine w_ae H (j := 7) (pc' := 9) (L' := [(0, .ref 32), (1, .int (7 : Int32))]) h_m308 (z_at.mk 1 rfl rfl) rfl rfl rfl (by decide) rfl (by decide) rfl rfl rfl ?_
  refine w_p h_m308 3 (pc' := 14) (L' := [(0, .ref 32), (1, .int (7 : Int32))]) (st' := [.int (117 : Int32)]) rfl ?_
  refine w_ri h_m308 (z_at.mk 1 rfl rfl) rfl rfl ?_
  show z_W 996 294 15 [(0, .ref 14), (1, .int (7 : Int32))] [.int (117 : Int32)] m _
  refine w_ri h_m294 (z_at.mk 1 rfl rfl) rfl rfl ?_
  show z_W 997 218 43 [(0, .ref 143), (1, .ref 14), (2, .int (0 : Int32)), (3, .int (1 : Int32)), (4, .int (6 : Int32)), (5, .int (1 : Int32))] [.int (117 : Int32)] m _
  refine w_p h_m218 8 (pc' := 28) (L' := [(0, .ref 143), (1, .ref 14), (2, .int (0 : Int32)), (3, .int (1 : Int32)), (4, .int (6 : Int32)), (5, .int (2 : Int32))]) (st' := [.ref 14, .int (8 : Int32)]) rfl ?_
  refine w_cv (H.te (by decide) rfl).1 (pc' := 31) (L' := [(0, .ref 143), (1, .ref 14), (2, .int (0 : Int32)), (3, .int (1 : Int32)), (4, .int (6 : Int32)), (5, .int (2 : Int32))]) (rest := [.int (8 : Int32)]) (Ps := []) (L0 := [(0, .ref 14)]) h_m218 (z_at.mk 3 rfl rfl) (Or.inl ⟨rfl, rfl⟩) rfl rfl (by decide) (by decide) rfl rfl rfl rfl rfl rfl (by decide) rfl rfl rfl ?_
  refine w_p h_m293 1 (pc' := 1) (L' := [(0, .ref 14)]) (st' := [.ref 14]) rfl ?_
  refine w_gs H (pc' := 4) (L' := [(0, .ref 14)]) h_m293 (z_at.mk 3 rfl rfl) rfl (by decide) rfl rfl rfl rfl ?_
  refine w_lene H (x := (36 : Int32)) (pc' := 5) (L' := [(0, .ref 14)]) h_m293 (z_at.mk 1 rfl rfl) (by decide) rfl (by decide) rfl rfl rfl ?_
  refine w_p h_m293 1 (pc' := 6) (L' := [(0, .ref 14)]) (st' := [.ref 14, .int (36 : Int32)]) rfl ?_
  refine w_cv (H.te (by decide) rfl).1 (pc' := 9) (L' := [(0, .ref 14)]) (rest := [.int (36 : Int32)]) (Ps := []) (L0 := [(0, .ref 14)]) h_m293 (z_at.mk 3 rfl rfl) (Or.inl ⟨rfl, rfl⟩) rfl rfl (by decide) (by decide) rfl rfl rfl rfl rfl rfl (by decide) rfl rfl rfl ?_
  refine w_p h_m298 3 (pc' := 7) (L' := [(0, .ref 14)]) (st' := [.ref 14]) rfl ?_
  refine w_gs H (pc' := 10) (L' := [(0, .ref 14)]) h_m298 (z_at.mk 3 rfl rfl) rfl (by decide) rfl rfl rfl rfl ?_
  refine w_p h_m298 1 (pc' := 14) (L' := []) (st' := [.int (0 : Int32)]) rfl ?_
  refine w_ri h_m298 (z_at.mk 1 rfl rfl) rfl rfl ?_
  show z_W 996 293 9 [(0, .ref 14)] [.int (0 : Int32), .int (36 : Int32)] m _
  refine w_p h_m293 1 (pc' := 10) (L' := [(0, .ref 14)]) (st' := [.int (36 : Int32)]) rfl ?_
  refine w_ri h_m293 (z_at.mk 1 rfl rfl) rfl rfl ?_
  show z_W 997 218 31 [(0, .ref 143), (1, .ref 14), (2, .int (0 : Int32)), (3, .int (1 : Int32)), (4, .int (6 : Int32)), (5, .int (2 : Int32))] [.int (36 : Int32), .int (8 : Int32)] m _
  refine w_p h_m218 5 (pc' := 40) (L' := [(0, .ref 143), (1, .ref 14), (2, .int (0 : Int32)), (3, .int (1 : Int32)), (4, .int (6 : Int32)), (5, .int (2 : Int32))]) (st' := [.int (8 : Int32), .ref 14]) rfl ?_
  refine w_cv (H.te (by decide) rfl).1 (pc' := 43) (L' := [(0, .ref 143), (1, .ref 14), (2, .int (0 : Int32)), (3, .int (1 : Int32)), (4, .int (6 : Int32)), (5, .int (2 : Int32))]) (rest := []) (Ps := [.int (8 : Int32)]) (L0 := [(0, .ref 14), (1, .int (8 : Int32))]) h_m218 (z_at.mk 3 rfl rfl) (Or.inl ⟨rfl, rfl⟩) rfl rfl (by decide) (by decide) rfl rfl rfl rfl rfl rfl (by decide) rfl rfl rfl ?_
  refine w_p h_m294 1 (pc' := 1) (L' := [(0, .ref 14), (1, .int (8 : Int32))]) (st' := [.ref 14]) rfl ?_
  refine w_cv (H.te (by decide) rfl).1 (pc' := 4) (L' := [(0, .ref 14), (1, .int (8 : Int32))]) (rest := []) (Ps := []) (L0 := [(0, .ref 14)]) h_m294 (z_at.mk 3 rfl rfl) (Or.inl ⟨rfl, rfl⟩) rfl rfl (by decide) (by decide) rfl rfl rfl rfl rfl rfl (by decide) rfl rfl rfl ?_
  refine w_p h_m299 3 (pc' := 7) (L' := [(0, .ref 14)]) (st' := [.ref 14]) rfl ?_
  refine w_gs H (pc' := 10) (L' := [(0, .ref 14)]) h_m299 (z_at.mk 3 rfl rfl) rfl (by decide) rfl rfl rfl rfl ?_
  refine w_p h_m299 3 (pc' := 18) (L' := []) (st' := [.int (1 : Int32)]) rfl ?_
  refine w_ri h_m299 (z_at.mk 1 rfl rfl) rfl rfl ?_
  show z_W 996 294 4 [(0, .ref 14), (1, .int (8 : Int32))] [.int (1 : Int32)] m _
  refine w_p h_m294 2 (pc' := 8) (L' := [(0, .ref 14), (1, .int (8 : Int32))]) (st' := [.ref 14]) rfl ?_
  refine w_gs H (pc' := 11) (L' := [(0, .ref 14), (1, .int (8 : Int32))]) h_m294 (z_at.mk 3 rfl rfl) rfl (by decide) rfl rfl rfl rfl ?_
  refine w_p h_m294 1 (pc' := 12) (L' := [(0, .ref 14), (1, .int (8 : Int32))]) (st' := [.int (8 : Int32), .ref 32]) rfl ?_
  refine w_cs (As := [.ref 32, .int (8 : Int32)]) (rest := []) (j := 308) (L0 := [(0, .ref 32), (1, .int (8 : Int32))]) (pc' := 15) (L' := [(0, .ref 14), (1, .int (8 : Int32))]) h_m294 (z_at.mk 3 rfl rfl) (Or.inl ⟨rfl, rfl⟩) rfl rfl rfl rfl rfl ?_
  refine w_p h_m308 2 (pc' := 2) (L' := [(0, .ref 32), (1, .int (8 : Int32))]) (st' := [.ref 32, .int (8 : Int32)]) rfl ?_
  refine w_lene H (x := (36 : Int32)) (pc' := 3) (L' := [(0, .ref 32), (1, .int (8 : Int32))]) h_m308 (z_at.mk 1 rfl rfl) (by decide) rfl (by decide) rfl rfl rfl ?_
  refine w_ci (pc' := 6) (L' := [(0, .ref 32), (1, .int (8 : Int32))]) h_m308 (z_at.mk 3 rfl rfl) rfl (z_cat_le 0 rfl (by decide)) ⟨by decide, by decide⟩ rfl rfl ?_
  refine w_p h_m308 2 (pc' := 8) (L' := [(0, .ref 32), (1, .int (8 : Int32))]) (st' := [.int (8 : Int32), .ref 32]) rfl ?_
  refine w_ae H (j := 8) (pc' := 9) (L' := [(0, .ref 32), (1, .int (8 : Int32))]) h_m308 (z_at.mk 1 rfl rfl) rfl rfl rfl (by decide) rfl (by decide) rfl rfl rfl ?_
  refine w_p h_m308 3 (pc' := 14) (L' := [(0, .ref 32), (1, .int (8 : Int32))]) (st' := [.int (109 : Int32)]) rfl ?_
  refine w_ri h_m308 (z_at.mk 1 rfl rfl) rfl rfl ?_
  show z_W 996 294 15 [(0, .ref 14), (1, .int (8 : Int32))] [.int (109 : Int32)] m _
  refine w_ri h_m294 (z_at.mk 1 rfl rfl) rfl rfl ?_
  show z_W 997 218 43 [(0, .ref 143), (1, .ref 14), (2, .int (0 : Int32)), (3, .int (1 : Int32)), (4, .int (6 : Int32)), (5, .int (2 : Int32))] [.int (109 : Int32)] m _
  refine w_p h_m218 8 (pc' := 28) (L' := [(0, .ref 143), (1, .ref 14), (2, .int (0 : Int32)), (3, .int (1 : Int32)), (4, .int (6 : Int32)), (5, .int (3 : Int32))]) (st' := [.ref 14, .int (9 : Int32)]) rfl ?_
  refine w_cv (H.te (by decide) rfl).1 (pc' := 31) (L' := [(0, .ref 143), (1, .ref 14), (2, .int (0 : Int32)), (3, .int (1 : Int32)), (4, .int (6 : Int32)), (5, .int (3 : Int32))]) (rest := [.int (9 : Int32)]) (Ps := []) (L0 := [(0, .ref 14)]) h_m218 (z_at.mk 3 rfl rfl) (Or.inl ⟨rfl, rfl⟩) rfl rfl (by decide) (by decide) rfl rfl rfl rfl rfl rfl (by decide) rfl rfl rfl ?_
  refine w_p h_m293 1 (pc' := 1) (L' := [(0, .ref 14)]) (st' := [.ref 14]) rfl ?_
  refine w_gs H (pc' := 4) (L' := [(0, .ref 14)]) h_m293 (z_at.mk 3 rfl rfl) rfl (by decide) rfl rfl rfl rfl ?_
  refine w_lene H (x := (36 : Int32)) (pc' := 5) (L' := [(0, .ref 14)]) h_m293 (z_at.mk 1 rfl rfl) (by decide) rfl (by decide) rfl rfl rfl ?_
  refine w_p h_m293 1 (pc' := 6) (L' := [(0, .ref 14)]) (st' := [.ref 14, .int (36 : Int32)]) rfl ?_
  refine w_cv (H.te (by decide) rfl).1 (pc' := 9) (L' := [(0, .ref 14)]) (rest := [.int (36 : Int32)]) (Ps := []) (L0 := [(0, .ref 14)]) h_m293 (z_at.mk 3 rfl rfl) (Or.inl ⟨rfl, rfl⟩) rfl rfl (by decide) (by decide) rfl rfl rfl rfl rfl rfl (by decide) rfl rfl rfl ?_
  refine w_p h_m298 3 (pc' := 7) (L' := [(0, .ref 14)]) (st' := [.ref 14]) rfl ?_
  refine w_gs H (pc' := 10) (L' := [(0, .ref 14)]) h_m298 (z_at.mk 3 rfl rfl) rfl (by decide) rfl rfl rfl rfl ?_
  refine w_p h_m298 1 (pc' := 14) (L' := []) (st' := [.int (0 : Int32)]) rfl ?_
  refine w_ri h_m298 (z_at.mk 1 rfl rfl) rfl rfl ?_
  show z_W 996 293 9 [(0, .ref 14)] [.int (0 : Int32), .int (36 : Int32)] m _
  refine w_p h_m293 1 (pc' := 10) (L' := [(0, .ref 14)]) (st' := [.int (36 : Int32)]) rfl ?_
  refine w_ri h_m293 (z_at.mk 1 rfl rfl) rfl rfl ?_
  show z_W 997 218 31 [(0, .ref 143), (1, .ref 14), (2, .int (0 : Int32)), (3, .int (1 : Int32)), (4, .int (6 : Int32)), (5, .int (3 : Int32))] [.int (36 : Int32), .int (9 : Int32)] m _
  refine w_p h_m218 5 (pc' := 40) (L' := [(0, .ref 143), (1, .ref 14), (2, .int (0 : Int32)), (3, .int (1 : Int32)), (4, .int (6 : Int32)), (5, .int (3 : Int32))]) (st' := [.int (9 : Int32), .ref 14]) rfl ?_
  refine w_cv (H.te (by decide) rfl).1 (pc' := 43) (L' := [(0, .ref 143), (1, .ref 14), (2, .int (0 : Int32)), (3, .int (1 : Int32)), (4, .int (6 : Int32)), (5, .int (3 : Int32))]) (rest := []) (Ps := [.int (9 : Int32)]) (L0 := [(0, .ref 14), (1, .int (9 : Int32))]) h_m218 (z_at.mk 3 rfl rfl) (Or.inl ⟨rfl, rfl⟩) rfl rfl (by decide) (by decide) rfl rfl rfl rfl rfl rfl (by decide) rfl rfl rfl ?_
  refine w_p h_m294 1 (pc' := 1) (L' := [(0, .ref 14), (1, .int (9 : Int32))]) (st' := [.ref 14]) rfl ?_
  refine w_cv (H.te (by decide) rfl).1 (pc' := 4) (L' := [(0, .ref 14), (1, .int (9 : Int32))]) (rest := []) (Ps := []) (L0 := [(0, .ref 14)]) h_m294 (z_at.mk 3 rfl rfl) (Or.inl ⟨rfl, rfl⟩) rfl rfl (by decide) (by decide) rfl rfl rfl rfl rfl rfl (by decide) rfl rfl rfl ?_
  refine w_p h_m299 3 (pc' := 7) (L' := [(0, .ref 14)]) (st' := [.ref 14]) rfl ?_
  refine w_gs H (pc' := 10) (L' := [(0, .ref 14)]) h_m299 (z_at.mk 3 rfl rfl) rfl (by decide) rfl rfl rfl rfl ?_
  refine w_p h_m299 3 (pc' := 18) (L' := []) (st' := [.int (1 : Int32)]) rfl ?_
  refine w_ri h_m299 (z_at.mk 1 rfl rfl) rfl rfl ?_
  show z_W 996 294 4 [(0, .ref 14), (1, .int (9 : Int32))] [.int (1 : Int32)] m _
  refine w_p h_m294 2 (pc' := 8) (L' := [(0, .ref 14), (1, .int (9 : Int32))]) (st' := [.ref 14]) rfl ?_
  refine w_gs H (pc' := 11) (L' := [(0, .ref 14), (1, .int (9 : Int32))]) h_m294 (z_at.mk 3 rfl rfl) rfl (by decide) rfl rfl rfl rfl ?_
  refine w_p h_m294 1 (pc' := 12) (L' := [(0, .ref 14), (1, .int (9 : Int32))]) (st' := [.int (9 : Int32), .ref 32]) rfl ?_
  refine w_cs (As := [.ref 32, .int (9 : Int32)]) (rest := []) (j := 308) (L0 := [(0, .ref 32), (1, .int (9 : Int32))]) (pc' := 15) (L' := [(0, .ref 14), (1, .int (9 : Int32))]) h_m294 (z_at.mk 3 rfl rfl) (Or.inl ⟨rfl, rfl⟩) rfl rfl rfl rfl rfl ?_
  refine w_p h_m308 2 (pc' := 2) (L' := [(0, .ref 32), (1, .int (9 : Int32))]) (st' := [.ref 32, .int (9 : Int32)]) rfl ?_
  refine w_lene H (x := (36 : Int32)) (pc' := 3) (L' := [(0, .ref 32), (1, .int (9 : Int32))]) h_m308 (z_at.mk 1 rfl rfl) (by decide) rfl (by decide) rfl rfl rfl ?_
  refine w_ci (pc' := 6) (L' := [(0, .ref 32), (1, .int (9 : Int32))]) h_m308 (z_at.mk 3 rfl rfl) rfl (z_cat_le 0 rfl (by decide)) ⟨by decide, by decide⟩ rfl rfl ?_
  refine w_p h_m308 2 (pc' := 8) (L' := [(0, .ref 32), (1, .int (9 : Int32))]) (st' := [.int (9 : Int32), .ref 32]) rfl ?_
  refine w_ae H (j := 9) (pc' := 9) (L' := [(0, .ref 32), (1, .int (9 : Int32))]) h_m308 (z_at.mk 1 rfl rfl) rfl rfl rfl (by decide) rfl (by decide) rfl rfl rfl ?_
  refine w_p h_m308 3 (pc' := 14) (L' := [(0, .ref 32), (1, .int (9 : Int32))]) (st' := [.int (32 : Int32)]) rfl ?_
  refine w_ri h_m308 (z_at.mk 1 rfl rfl) rfl rfl ?_
  show z_W 996 294 15 [(0, .ref 14), (1, .int (9 : Int32))] [.int (32 : Int32)] m _
  refine w_ri h_m294 (z_at.mk 1 rfl rfl) rfl rfl ?_
  show z_W 997 218 43 [(0, .ref 143), (1, .ref 14), (2, .int (0 : Int32)), (3, .int (1 : Int32)), (4, .int (6 : Int32)), (5, .int (3 : Int32))] [.int (32 : Int32)] m _
  refine w_p h_m218 5 (pc' := 58) (L' := [(0, .ref 143), (1, .ref 14), (2, .int (0 : Int32)), (3, .int (1 : Int32)), (4, .int (6 : Int32)), (5, .int (3 : Int32))]) (st' := [.ref 143, .int (0 : Int32), .int (3 : Int32)]) rfl ?_
  refine w_gf H (pc' := 61) (L' := [(0, .ref 143), (1, .ref 14), (2, .int (0 : Int32)), (3, .int (1 : Int32)), (4, .int (6 : Int32)), (5, .int (3 : Int32))]) h_m218 (z_at.mk 3 rfl rfl) rfl (u := .int (0 : Int32)) rfl rfl rfl ?_
  refine w_p h_m218 23 (pc' := 13) (L' := [(0, .ref 143), (1, .ref 14), (2, .int (0 : Int32)), (3, .int (2 : Int32)), (4, .int (10 : Int32))]) (st' := [.ref 14, .int (10 : Int32)]) rfl ?_
  refine w_cv (H.te (by decide) rfl).1 (pc' := 16) (L' := [(0, .ref 143), (1, .ref 14), (2, .int (0 : Int32)), (3, .int (2 : Int32)), (4, .int (10 : Int32))]) (rest := [.int (10 : Int32)]) (Ps := []) (L0 := [(0, .ref 14)]) h_m218 (z_at.mk 3 rfl rfl) (Or.inl ⟨rfl, rfl⟩) rfl rfl (by decide) (by decide) rfl rfl rfl rfl rfl rfl (by decide) rfl rfl rfl ?_
  refine w_p h_m293 1 (pc' := 1) (L' := [(0, .ref 14)]) (st' := [.ref 14]) rfl ?_
  refine w_gs H (pc' := 4) (L' := [(0, .ref 14)]) h_m293 (z_at.mk 3 rfl rfl) rfl (by decide) rfl rfl rfl rfl ?_
  refine w_lene H (x := (36 : Int32)) (pc' := 5) (L' := [(0, .ref 14)]) h_m293 (z_at.mk 1 rfl rfl) (by decide) rfl (by decide) rfl rfl rfl ?_
  refine w_p h_m293 1 (pc' := 6) (L' := [(0, .ref 14)]) (st' := [.ref 14, .int (36 : Int32)]) rfl ?_
  refine w_cv (H.te (by decide) rfl).1 (pc' := 9) (L' := [(0, .ref 14)]) (rest := [.int (36 : Int32)]) (Ps := []) (L0 := [(0, .ref 14)]) h_m293 (z_at.mk 3 rfl rfl) (Or.inl ⟨rfl, rfl⟩) rfl rfl (by decide) (by decide) rfl rfl rfl rfl rfl rfl (by decide) rfl rfl rfl ?_
  refine w_p h_m298 3 (pc' := 7) (L' := [(0, .ref 14)]) (st' := [.ref 14]) rfl ?_
  refine w_gs H (pc' := 10) (L' := [(0, .ref 14)]) h_m298 (z_at.mk 3 rfl rfl) rfl (by decide) rfl rfl rfl rfl ?_
  refine w_p h_m298 1 (pc' := 14) (L' := []) (st' := [.int (0 : Int32)]) rfl ?_
  refine w_ri h_m298 (z_at.mk 1 rfl rfl) rfl rfl ?_
  show z_W 996 293 9 [(0, .ref 14)] [.int (0 : Int32), .int (36 : Int32)] m _
  refine w_p h_m293 1 (pc' := 10) (L' := [(0, .ref 14)]) (st' := [.int (36 : Int32)]) rfl ?_
  refine w_ri h_m293 (z_at.mk 1 rfl rfl) rfl rfl ?_
  show z_W 997 218 16 [(0, .ref 143), (1, .ref 14), (2, .int (0 : Int32)), (3, .int (2 : Int32)), (4, .int (10 : Int32))] [.int (36 : Int32), .int (10 : Int32)] m _
  refine w_p h_m218 7 (pc' := 28) (L' := [(0, .ref 143), (1, .ref 14), (2, .int (0 : Int32)), (3, .int (2 : Int32)), (4, .int (10 : Int32)), (5, .int (0 : Int32))]) (st' := [.ref 14, .int (10 : Int32)]) rfl ?_
  refine w_cv (H.te (by decide) rfl).1 (pc' := 31) (L' := [(0, .ref 143), (1, .ref 14), (2, .int (0 : Int32)), (3, .int (2 : Int32)), (4, .int (10 : Int32)), (5, .int (0 : Int32))]) (rest := [.int (10 : Int32)]) (Ps := []) (L0 := [(0, .ref 14)]) h_m218 (z_at.mk 3 rfl rfl) (Or.inl ⟨rfl, rfl⟩) rfl rfl (by decide) (by decide) rfl rfl rfl rfl rfl rfl (by decide) rfl rfl rfl ?_
  refine w_p h_m293 1 (pc' := 1) (L' := [(0, .ref 14)]) (st' := [.ref 14]) rfl ?_
  refine w_gs H (pc' := 4) (L' := [(0, .ref 14)]) h_m293 (z_at.mk 3 rfl rfl) rfl (by decide) rfl rfl rfl rfl ?_
  refine w_lene H (x := (36 : Int32)) (pc' := 5) (L' := [(0, .ref 14)]) h_m293 (z_at.mk 1 rfl rfl) (by decide) rfl (by decide) rfl rfl rfl ?_
  refine w_p h_m293 1 (pc' := 6) (L' := [(0, .ref 14)]) (st' := [.ref 14, .int (36 : Int32)]) rfl ?_
  refine w_cv (H.te (by decide) rfl).1 (pc' := 9) (L' := [(0, .ref 14)]) (rest := [.int (36 : Int32)]) (Ps := []) (L0 := [(0, .ref 14)]) h_m293 (z_at.mk 3 rfl rfl) (Or.inl ⟨rfl, rfl⟩) rfl rfl (by decide) (by decide) rfl rfl rfl rfl rfl rfl (by decide) rfl rfl rfl ?_
  refine w_p h_m298 3 (pc' := 7) (L' := [(0, .ref 14)]) (st' := [.ref 14]) rfl ?_
  refine w_gs H (pc' := 10) (L' := [(0, .ref 14)]) h_m298 (z_at.mk 3 rfl rfl) rfl (by decide) rfl rfl rfl rfl ?_
  refine w_p h_m298 1 (pc' := 14) (L' := []) (st' := [.int (0 : Int32)]) rfl ?_
  refine w_ri h_m298 (z_at.mk 1 rfl rfl) rfl rfl ?_
  show z_W 996 293 9 [(0, .ref 14)] [.int (0 : Int32), .int (36 : Int32)] m _
  refine w_p h_m293 1 (pc' := 10) (L' := [(0, .ref 14)]) (st' := [.int (36 : Int32)]) rfl ?_
  refine w_ri h_m293 (z_at.mk 1 rfl rfl) rfl rfl ?_
  show z_W 997 218 31 [(0, .ref 143), (1, .ref 14), (2, .int (0 : Int32)), (3, .int (2 : Int32)), (4, .int (10 : Int32)), (5, .int (0 : Int32))] [.int (36 : Int32), .int (10 : Int32)] m _
  refine w_p h_m218 5 (pc' := 40) (L' := [(0, .ref 143), (1, .ref 14), (2, .int (0 : Int32)), (3, .int (2 : Int32)), (4, .int (10 : Int32)), (5, .int (0 : Int32))]) (st' := [.int (10 : Int32), .ref 14]) rfl ?_
  refine w_cv (H.te (by decide) rfl).1 (pc' := 43) (L' := [(0, .ref 143), (1, .ref 14), (2, .int (0 : Int32)), (3, .int (2 : Int32)), (4, .int (10 : Int32)), (5, .int (0 : Int32))]) (rest := []) (Ps := [.int (10 : Int32)]) (L0 := [(0, .ref 14), (1, .int (10 : Int32))]) h_m218 (z_at.mk 3 rfl rfl) (Or.inl ⟨rfl, rfl⟩) rfl rfl (by decide) (by decide) rfl rfl rfl rfl rfl rfl (by decide) rfl rfl rfl ?_
  refine w_p h_m294 1 (pc' := 1) (L' := [(0, .ref 14), (1, .int (10 : Int32))]) (st' := [.ref 14]) rfl ?_
  refine w_cv (H.te (by decide) rfl).1 (pc' := 4) (L' := [(0, .ref 14), (1, .int (10 : Int32))]) (rest := []) (Ps := []) (L0 := [(0, .ref 14)]) h_m294 (z_at.mk 3 rfl rfl) (Or.inl ⟨rfl, rfl⟩) rfl rfl (by decide) (by decide) rfl rfl rfl rfl rfl rfl (by decide) rfl rfl rfl ?_
  refine w_p h_m299 3 (pc' := 7) (L' := [(0, .ref 14)]) (st' := [.ref 14]) rfl ?_
  refine w_gs H (pc' := 10) (L' := [(0, .ref 14)]) h_m299 (z_at.mk 3 rfl rfl) rfl (by decide) rfl rfl rfl rfl ?_
  refine w_p h_m299 3 (pc' := 18) (L' := []) (st' := [.int (1 : Int32)]) rfl ?_
  refine w_ri h_m299 (z_at.mk 1 rfl rfl) rfl rfl ?_
  show z_W 996 294 4 [(0, .ref 14), (1, .int (10 : Int32))] [.int (1 : Int32)] m _
  refine w_p h_m294 2 (pc' := 8) (L' := [(0, .ref 14), (1, .int (10 : Int32))]) (st' := [.ref 14]) rfl ?_
  refine w_gs H (pc' := 11) (L' := [(0, .ref 14), (1, .int (10 : Int32))]) h_m294 (z_at.mk 3 rfl rfl) rfl (by decide) rfl rfl rfl rfl ?_
  refine w_p h_m294 1 (pc' := 12) (L' := [(0, .ref 14), (1, .int (10 : Int32))]) (st' := [.int (10 : Int32), .ref 32]) rfl ?_
  refine w_cs (As := [.ref 32, .int (10 : Int32)]) (rest := []) (j := 308) (L0 := [(0, .ref 32), (1, .int (10 : Int32))]) (pc' := 15) (L' := [(0, .ref 14), (1, .int (10 : Int32))]) h_m294 (z_at.mk 3 rfl rfl) (Or.inl ⟨rfl, rfl⟩) rfl rfl rfl rfl rfl ?_
  refine w_p h_m308 2 (pc' := 2) (L' := [(0, .ref 32), (1, .int (10 : Int32))]) (st' := [.ref 32, .int (10 : Int32)]) rfl ?_
  refine w_lene H (x := (36 : Int32)) (pc' := 3) (L' := [(0, .ref 32), (1, .int (10 : Int32))]) h_m308 (z_at.mk 1 rfl rfl) (by decide) rfl (by decide) rfl rfl rfl ?_
  refine w_ci (pc' := 6) (L' := [(0, .ref 32), (1, .int (10 : Int32))]) h_m308 (z_at.mk 3 rfl rfl) rfl (z_cat_le 0 rfl (by decide)) ⟨by decide, by decide⟩ rfl rfl ?_
  refine w_p h_m308 2 (pc' := 8) (L' := [(0, .ref 32), (1, .int (10 : Int32))]) (st' := [.int (10 : Int32), .ref 32]) rfl ?_
  refine w_ae H (j := 10) (pc' := 9) (L' := [(0, .ref 32), (1, .int (10 : Int32))]) h_m308 (z_at.mk 1 rfl rfl) rfl rfl rfl (by decide) rfl (by decide) rfl rfl rfl ?_
  refine w_p h_m308 3 (pc' := 14) (L' := [(0, .ref 32), (1, .int (10 : Int32))]) (st' := [.int (108 : Int32)]) rfl ?_
  refine w_ri h_m308 (z_at.mk 1 rfl rfl) rfl rfl ?_
  show z_W 996 294 15 [(0, .ref 14), (1, .int (10 : Int32))] [.int (108 : Int32)] m _
  refine w_ri h_m294 (z_at.mk 1 rfl rfl) rfl rfl ?_
  show z_W 997 218 43 [(0, .ref 143), (1, .ref 14), (2, .int (0 : Int32)), (3, .int (2 : Int32)), (4, .int (10 : Int32)), (5, .int (0 : Int32))] [.int (108 : Int32)] m _
  refine w_p h_m218 8 (pc' := 28) (L' := [(0, .ref 143), (1, .ref 14), (2, .int (0 : Int32)), (3, .int (2 : Int32)), (4, .int (10 : Int32)), (5, .int (1 : Int32))]) (st' := [.ref 14, .int (11 : Int32)]) rfl ?_
  refine w_cv (H.te (by decide) rfl).1 (pc' := 31) (L' := [(0, .ref 143), (1, .ref 14), (2, .int (0 : Int32)), (3, .int (2 : Int32)), (4, .int (10 : Int32)), (5, .int (1 : Int32))]) (rest := [.int (11 : Int32)]) (Ps := []) (L0 := [(0, .ref 14)]) h_m218 (z_at.mk 3 rfl rfl) (Or.inl ⟨rfl, rfl⟩) rfl rfl (by decide) (by decide) rfl rfl rfl rfl rfl rfl (by decide) rfl rfl rfl ?_
  refine w_p h_m293 1 (pc' := 1) (L' := [(0, .ref 14)]) (st' := [.ref 14]) rfl ?_
  refine w_gs H (pc' := 4) (L' := [(0, .ref 14)]) h_m293 (z_at.mk 3 rfl rfl) rfl (by decide) rfl rfl rfl rfl ?_
  refine w_lene H (x := (36 : Int32)) (pc' := 5) (L' := [(0, .ref 14)]) h_m293 (z_at.mk 1 rfl rfl) (by decide) rfl (by decide) rfl rfl rfl ?_
  refine w_p h_m293 1 (pc' := 6) (L' := [(0, .ref 14)]) (st' := [.ref 14, .int (36 : Int32)]) rfl ?_
  refine w_cv (H.te (by decide) rfl).1 (pc' := 9) (L' := [(0, .ref 14)]) (rest := [.int (36 : Int32)]) (Ps := []) (L0 := [(0, .ref 14)]) h_m293 (z_at.mk 3 rfl rfl) (Or.inl ⟨rfl, rfl⟩) rfl rfl (by decide) (by decide) rfl rfl rfl rfl rfl rfl (by decide) rfl rfl rfl ?_
  refine w_p h_m298 3 (pc' := 7) (L' := [(0, .ref 14)]) (st' := [.ref 14]) rfl ?_
  refine w_gs H (pc' := 10) (L' := [(0, .ref 14)]) h_m298 (z_at.mk 3 rfl rfl) rfl (by decide) rfl rfl rfl rfl ?_
  refine w_p h_m298 1 (pc' := 14) (L' := []) (st' := [.int (0 : Int32)]) rfl ?_
  refine w_ri h_m298 (z_at.mk 1 rfl rfl) rfl rfl ?_
  show z_W 996 293 9 [(0, .ref 14)] [.int (0 : Int32), .int (36 : Int32)] m _
  refine w_p h_m293 1 (pc' := 10) (L' := [(0, .ref 14)]) (st' := [.int (36 : Int32)]) rfl ?_
  refine w_ri h_m293 (z_at.mk 1 rfl rfl) rfl rfl ?_
  show z_W 997 218 31 [(0, .ref 143), (1, .ref 14), (2, .int (0 : Int32)), (3, .int (2 : Int32)), (4, .int (10 : Int32)), (5, .int (1 : Int32))] [.int (36 : Int32), .int (11 : Int32)] m _
  refine w_p h_m218 5 (pc' := 40) (L' := [(0, .ref 143), (1, .ref 14), (2, .int (0 : Int32)), (3, .int (2 : Int32)), (4, .int (10 : Int32)), (5, .int (1 : Int32))]) (st' := [.int (11 : Int32), .ref 14]) rfl ?_
  refine w_cv (H.te (by decide) rfl).1 (pc' := 43) (L' := [(0, .ref 143), (1, .ref 14), (2, .int (0 : Int32)), (3, .int (2 : Int32)), (4, .int (10 : Int32)), (5, .int (1 : Int32))]) (rest := []) (Ps := [.int (11 : Int32)]) (L0 := [(0, .ref 14), (1, .int (11 : Int32))]) h_m218 (z_at.mk 3 rfl rfl) (Or.inl ⟨rfl, rfl⟩) rfl rfl (by decide) (by decide) rfl rfl rfl rfl rfl rfl (by decide) rfl rfl rfl ?_
  refine w_p h_m294 1 (pc' := 1) (L' := [(0, .ref 14), (1, .int (11 : Int32))]) (st' := [.ref 14]) rfl ?_
  refine w_cv (H.te (by decide) rfl).1 (pc' := 4) (L' := [(0, .ref 14), (1, .int (11 : Int32))]) (rest := []) (Ps := []) (L0 := [(0, .ref 14)]) h_m294 (z_at.mk 3 rfl rfl) (Or.inl ⟨rfl, rfl⟩) rfl rfl (by decide) (by decide) rfl rfl rfl rfl rfl rfl (by decide) rfl rfl rfl ?_
  refine w_p h_m299 3 (pc' := 7) (L' := [(0, .ref 14)]) (st' := [.ref 14]) rfl ?_
  refine w_gs H (pc' := 10) (L' := [(0, .ref 14)]) h_m299 (z_at.mk 3 rfl rfl) rfl (by decide) rfl rfl rfl rfl ?_
  refine w_p h_m299 3 (pc' := 18) (L' := []) (st' := [.int (1 : Int32)]) rfl ?_
  refine w_ri h_m299 (z_at.mk 1 rfl rfl) rfl rfl ?_
  show z_W 996 294 4 [(0, .ref 14), (1, .int (11 : Int32))] [.int (1 : Int32)] m _
  refine w_p h_m294 2 (pc' := 8) (L' := [(0, .ref 14), (1, .int (11 : Int32))]) (st' := [.ref 14]) rfl ?_
  refine w_gs H (pc' := 11) (L' := [(0, .ref 14), (1, .int (11 : Int32))]) h_m294 (z_at.mk 3 rfl rfl) rfl (by decide) rfl rfl rfl rfl ?_
  refine w_p h_m294 1 (pc' := 12) (L' := [(0, .ref 14), (1, .int (11 : Int32))]) (st' := [.int (11 : Int32), .ref 32]) rfl ?_
  refine w_cs (As := [.ref 32, .int (11 : Int32)]) (rest := []) (j := 308) (L0 := [(0, .ref 32), (1, .int (11 : Int32))]) (pc' := 15) (L' := [(0, .ref 14), (1, .int (11 : Int32))]) h_m294 (z_at.mk 3 rfl rfl) (Or.inl ⟨rfl, rfl⟩) rfl rfl rfl rfl rfl ?_
  refine w_p h_m308 2 (pc' := 2) (L' := [(0, .ref 32), (1, .int (11 : Int32))]) (st' := [.ref 32, .int (11 : Int32)]) rfl ?_
  refine w_lene H (x := (36 : Int32)) (pc' := 3) (L' := [(0, .ref 32), (1, .int (11 : Int32))]) h_m308 (z_at.mk 1 rfl rfl) (by decide) rfl (by decide) rfl rfl rfl ?_
  refine w_ci (pc' := 6) (L' := [(0, .ref 32), (1, .int (11 : Int32))]) h_m308 (z_at.mk 3 rfl rfl) rfl (z_cat_le 0 rfl (by decide)) ⟨by decide, by decide⟩ rfl rfl ?_
  refine w_p h_m308 2 (pc' := 8) (L' := [(0, .ref 32), (1, .int (11 : Int32))]) (st' := [.int (11 : Int32), .ref 32]) rfl ?_
  refine w_ae H (j := 11) (pc' := 9) (L' := [(0, .ref 32), (1, .int (11 : Int32))]) h_m308 (z_at.mk 1 rfl rfl) rfl rfl rfl (by decide) rfl (by decide) rfl rfl rfl ?_
  refine w_p h_m308 3 (pc' := 14) (L' := [(0, .ref 32), (1, .int (11 : Int32))]) (st' := [.int (101 : Int32)]) rfl ?_
  refine w_ri h_m308 (z_at.mk 1 rfl rfl) rfl rfl ?_
  show z_W 996 294 15 [(0, .ref 14), (1, .int (11 : Int32))] [.int (101 : Int32)] m _
  refine w_ri h_m294 (z_at.mk 1 rfl rfl) rfl rfl ?_
  show z_W 997 218 43 [(0, .ref 143), (1, .ref 14), (2, .int (0 : Int32)), (3, .int (2 : Int32)), (4, .int (10 : Int32)), (5, .int (1 : Int32))] [.int (101 : Int32)] m _
  refine w_p h_m218 8 (pc' := 28) (L' := [(0, .ref 143), (1, .ref 14), (2, .int (0 : Int32)), (3, .int (2 : Int32)), (4, .int (10 : Int32)), (5, .int (2 : Int32))]) (st' := [.ref 14, .int (12 : Int32)]) rfl ?_
  refine w_cv (H.te (by decide) rfl).1 (pc' := 31) (L' := [(0, .ref 143), (1, .ref 14), (2, .int (0 : Int32)), (3, .int (2 : Int32)), (4, .int (10 : Int32)), (5, .int (2 : Int32))]) (rest := [.int (12 : Int32)]) (Ps := []) (L0 := [(0, .ref 14)]) h_m218 (z_at.mk 3 rfl rfl) (Or.inl ⟨rfl, rfl⟩) rfl rfl (by decide) (by decide) rfl rfl rfl rfl rfl rfl (by decide) rfl rfl rfl ?_
  refine w_p h_m293 1 (pc' := 1) (L' := [(0, .ref 14)]) (st' := [.ref 14]) rfl ?_
  refine w_gs H (pc' := 4) (L' := [(0, .ref 14)]) h_m293 (z_at.mk 3 rfl rfl) rfl (by decide) rfl rfl rfl rfl ?_
  refine w_lene H (x := (36 : Int32)) (pc' := 5) (L' := [(0, .ref 14)]) h_m293 (z_at.mk 1 rfl rfl) (by decide) rfl (by decide) rfl rfl rfl ?_
  refine w_p h_m293 1 (pc' := 6) (L' := [(0, .ref 14)]) (st' := [.ref 14, .int (36 : Int32)]) rfl ?_
  refine w_cv (H.te (by decide) rfl).1 (pc' := 9) (L' := [(0, .ref 14)]) (rest := [.int (36 : Int32)]) (Ps := []) (L0 := [(0, .ref 14)]) h_m293 (z_at.mk 3 rfl rfl) (Or.inl ⟨rfl, rfl⟩) rfl rfl (by decide) (by decide) rfl rfl rfl rfl rfl rfl (by decide) rfl rfl rfl ?_
  refine w_p h_m298 3 (pc' := 7) (L' := [(0, .ref 14)]) (st' := [.ref 14]) rfl ?_
  refine w_gs H (pc' := 10) (L' := [(0, .ref 14)]) h_m298 (z_at.mk 3 rfl rfl) rfl (by decide) rfl rfl rfl rfl ?_
  refine w_p h_m298 1 (pc' := 14) (L' := []) (st' := [.int (0 : Int32)]) rfl ?_
  refine w_ri h_m298 (z_at.mk 1 rfl rfl) rfl rfl ?_
  show z_W 996 293 9 [(0, .ref 14)] [.int (0 : Int32), .int (36 : Int32)] m _
  refine w_p h_m293 1 (pc' := 10) (L' := [(0, .ref 14)]) (st' := [.int (36 : Int32)]) rfl ?_
  refine w_ri h_m293 (z_at.mk 1 rfl rfl) rfl rfl ?_
  show z_W 997 218 31 [(0, .ref 143), (1, .ref 14), (2, .int (0 : Int32)), (3, .int (2 : Int32)), (4, .int (10 : Int32)), (5, .int (2 : Int32))] [.int (36 : Int32), .int (12 : Int32)] m _
  refine w_p h_m218 5 (pc' := 40) (L' := [(0, .ref 143), (1, .ref 14), (2, .int (0 : Int32)), (3, .int (2 : Int32)), (4, .int (10 : Int32)), (5, .int (2 : Int32))]) (st' := [.int (12 : Int32), .ref 14]) rfl ?_
  refine w_cv (H.te (by decide) rfl).1 (pc' := 43) (L' := [(0, .ref 143), (1, .ref 14), (2, .int (0 : Int32)), (3, .int (2 : Int32)), (4, .int (10 : Int32)), (5, .int (2 : Int32))]) (rest := []) (Ps := [.int (12 : Int32)]) (L0 := [(0, .ref 14), (1, .int (12 : Int32))]) h_m218 (z_at.mk 3 rfl rfl) (Or.inl ⟨rfl, rfl⟩) rfl rfl (by decide) (by decide) rfl rfl rfl rfl rfl rfl (by decide) rfl rfl rfl ?_
  refine w_p h_m294 1 (pc' := 1) (L' := [(0, .ref 14), (1, .int (12 : Int32))]) (st' := [.ref 14]) rfl ?_
  refine w_cv (H.te (by decide) rfl).1 (pc' := 4) (L' := [(0, .ref 14), (1, .int (12 : Int32))]) (rest := []) (Ps := []) (L0 := [(0, .ref 14)]) h_m294 (z_at.mk 3 rfl rfl) (Or.inl ⟨rfl, rfl⟩) rfl rfl (by decide) (by decide) rfl rfl rfl rfl rfl rfl (by decide) rfl rfl rfl ?_
  refine w_p h_m299 3 (pc' := 7) (L' := [(0, .ref 14)]) (st' := [.ref 14]) rfl ?_
  refine w_gs H (pc' := 10) (L' := [(0, .ref 14)]) h_m299 (z_at.mk 3 rfl rfl) rfl (by decide) rfl rfl rfl rfl ?_
  refine w_p h_m299 3 (pc' := 18) (L' := []) (st' := [.int (1 : Int32)]) rfl ?_
  refine w_ri h_m299 (z_at.mk 1 rfl rfl) rfl rfl ?_
  show z_W 996 294 4 [(0, .ref 14), (1, .int (12 : Int32))] [.int (1 : Int32)] m _
  refine w_p h_m294 2 (pc' := 8) (L' := [(0, .ref 14), (1, .int (12 : Int32))]) (st' := [.ref 14]) rfl ?_
  refine w_gs H (pc' := 11) (L' := [(0, .ref 14), (1, .int (12 : Int32))]) h_m294 (z_at.mk 3 rfl rfl) rfl (by decide) rfl rfl rfl rfl ?_
  refine w_p h_m294 1 (pc' := 12) (L' := [(0, .ref 14), (1, .int (12 : Int32))]) (st' := [.int (12 : Int32), .ref 32]) rfl ?_
  refine w_cs (As := [.ref 32, .int (12 : Int32)]) (rest := []) (j := 308) (L0 := [(0, .ref 32), (1, .int (12 : Int32))]) (pc' := 15) (L' := [(0, .ref 14), (1, .int (12 : Int32))]) h_m294 (z_at.mk 3 rfl rfl) (Or.inl ⟨rfl, rfl⟩) rfl rfl rfl rfl rfl ?_
  refine w_p h_m308 2 (pc' := 2) (L' := [(0, .ref 32), (1, .int (12 : Int32))]) (st' := [.ref 32, .int (12 : Int32)]) rfl ?_
  refine w_lene H (x := (36 : Int32)) (pc' := 3) (L' := [(0, .ref 32), (1, .int (12 : Int32))]) h_m308 (z_at.mk 1 rfl rfl) (by decide) rfl (by decide) rfl rfl rfl ?_
  refine w_ci (pc' := 6) (L' := [(0, .ref 32), (1, .int (12 : Int32))]) h_m308 (z_at.mk 3 rfl rfl) rfl (z_cat_le 0 rfl (by decide)) ⟨by decide, by decide⟩ rfl rfl ?_
  refine w_p h_m308 2 (pc' := 8) (L' := [(0, .ref 32), (1, .int (12 : Int32))]) (st' := [.int (12 : Int32), .ref 32]) rfl ?_
  refine w_ae H (j := 12) (pc' := 9) (L' := [(0, .ref 32), (1, .int (12 : Int32))]) h_m308 (z_at.mk 1 rfl rfl) rfl rfl rfl (by decide) rfl (by decide) rfl rfl rfl ?_
  refine w_p h_m308 3 (pc' := 14) (L' := [(0, .ref 32), (1, .int (12 : Int32))]) (st' := [.int (97 : Int32)]) rfl ?_
  refine w_ri h_m308 (z_at.mk 1 rfl rfl) rfl rfl ?_
  show z_W 996 294 15 [(0, .ref 14), (1, .int (12 : Int32))] [.int (97 : Int32)] m _
  refine w_ri h_m294 (z_at.mk 1 rfl rfl) rfl rfl ?_
  show z_W 997 218 43 [(0, .ref 143), (1, .ref 14), (2, .int (0 : Int32)), (3, .int (2 : Int32)), (4, .int (10 : Int32)), (5, .int (2 : Int32))] [.int (97 : Int32)] m _
  refine w_p h_m218 8 (pc' := 28) (L' := [(0, .ref 143), (1, .ref 14), (2, .int (0 : Int32)), (3, .int (2 : Int32)), (4, .int (10 : Int32)), (5, .int (3 : Int32))]) (st' := [.ref 14, .int (13 : Int32)]) rfl ?_
  refine w_cv (H.te (by decide) rfl).1 (pc' := 31) (L' := [(0, .ref 143), (1, .ref 14), (2, .int (0 : Int32)), (3, .int (2 : Int32)), (4, .int (10 : Int32)), (5, .int (3 : Int32))]) (rest := [.int (13 : Int32)]) (Ps := []) (L0 := [(0, .ref 14)]) h_m218 (z_at.mk 3 rfl rfl) (Or.inl ⟨rfl, rfl⟩) rfl rfl (by decide) (by decide) rfl rfl rfl rfl rfl rfl (by decide) rfl rfl rfl ?_
  refine w_p h_m293 1 (pc' := 1) (L' := [(0, .ref 14)]) (st' := [.ref 14]) rfl ?_
  refine w_gs H (pc' := 4) (L' := [(0, .ref 14)]) h_m293 (z_at.mk 3 rfl rfl) rfl (by decide) rfl rfl rfl rfl ?_
  refine w_lene H (x := (36 : Int32)) (pc' := 5) (L' := [(0, .ref 14)]) h_m293 (z_at.mk 1 rfl rfl) (by decide) rfl (by decide) rfl rfl rfl ?_
  refine w_p h_m293 1 (pc' := 6) (L' := [(0, .ref 14)]) (st' := [.ref 14, .int (36 : Int32)]) rfl ?_
  refine w_cv (H.te (by decide) rfl).1 (pc' := 9) (L' := [(0, .ref 14)]) (rest := [.int (36 : Int32)]) (Ps := []) (L0 := [(0, .ref 14)]) h_m293 (z_at.mk 3 rfl rfl) (Or.inl ⟨rfl, rfl⟩) rfl rfl (by decide) (by decide) rfl rfl rfl rfl rfl rfl (by decide) rfl rfl rfl ?_
  refine w_p h_m298 3 (pc' := 7) (L' := [(0, .ref 14)]) (st' := [.ref 14]) rfl ?_
  refine w_gs H (pc' := 10) (L' := [(0, .ref 14)]) h_m298 (z_at.mk 3 rfl rfl) rfl (by decide) rfl rfl rfl rfl ?_
  refine w_p h_m298 1 (pc' := 14) (L' := []) (st' := [.int (0 : Int32)]) rfl ?_
  refine w_ri h_m298 (z_at.mk 1 rfl rfl) rfl rfl ?_
  show z_W 996 293 9 [(0, .ref 14)] [.int (0 : Int32), .int (36 : Int32)] m _
  refine w_p h_m293 1 (pc' := 10) (L' := [(0, .ref 14)]) (st' := [.int (36 : Int32)]) rfl ?_
  refine w_ri h_m293 (z_at.mk 1 rfl rfl) rfl rfl ?_
  show z_W 997 218 31 [(0, .ref 143), (1, .ref 14), (2, .int (0 : Int32)), (3, .int (2 : Int32)), (4, .int (10 : Int32)), (5, .int (3 : Int32))] [.int (36 : Int32), .int (13 : Int32)] m _
  refine w_p h_m218 5 (pc' := 40) (L' := [(0, .ref 143), (1, .ref 14), (2, .int (0 : Int32)), (3, .int (2 : Int32)), (4, .int (10 : Int32)), (5, .int (3 : Int32))]) (st' := [.int (13 : Int32), .ref 14]) rfl ?_
  refine w_cv (H.te (by decide) rfl).1 (pc' := 43) (L' := [(0, .ref 143), (1, .ref 14), (2, .int (0 : Int32)), (3, .int (2 : Int32)), (4, .int (10 : Int32)), (5, .int (3 : Int32))]) (rest := []) (Ps := [.int (13 : Int32)]) (L0 := [(0, .ref 14), (1, .int (13 : Int32))]) h_m218 (z_at.mk 3 rfl rfl) (Or.inl ⟨rfl, rfl⟩) rfl rfl (by decide) (by decide) rfl rfl rfl rfl rfl rfl (by decide) rfl rfl rfl ?_
  refine w_p h_m294 1 (pc' := 1) (L' := [(0, .ref 14), (1, .int (13 : Int32))]) (st' := [.ref 14]) rfl ?_
  refine w_cv (H.te (by decide) rfl).1 (pc' := 4) (L' := [(0, .ref 14), (1, .int (13 : Int32))]) (rest := []) (Ps := []) (L0 := [(0, .ref 14)]) h_m294 (z_at.mk 3 rfl rfl) (Or.inl ⟨rfl, rfl⟩) rfl rfl (by decide) (by decide) rfl rfl rfl rfl rfl rfl (by decide) rfl rfl rfl ?_
  refine w_p h_m299 3 (pc' := 7) (L' := [(0, .ref 14)]) (st' := [.ref 14]) rfl ?_
  refine w_gs H (pc' := 10) (L' := [(0, .ref 14)]) h_m299 (z_at.mk 3 rfl rfl) rfl (by decide) rfl rfl rfl rfl ?_
  refine w_p h_m299 3 (pc' := 18) (L' := []) (st' := [.int (1 : Int32)]) rfl ?_
  refine w_ri h_m299 (z_at.mk 1 rfl rfl) rfl rfl ?_
  show z_W 996 294 4 [(0, .ref 14), (1, .int (13 : Int32))] [.int (1 : Int32)] m _
  refine w_p h_m294 2 (pc' := 8) (L' := [(0, .ref 14), (1, .int (13 : Int32))]) (st' := [.ref 14]) rfl ?_
  refine w_gs H (pc' := 11) (L' := [(0, .ref 14), (1, .int (13 : Int32))]) h_m294 (z_at.mk 3 rfl rfl) rfl (by decide) rfl rfl rfl rfl ?_
  refine w_p h_m294 1 (pc' := 12) (L' := [(0, .ref 14), (1, .int (13 : Int32))]) (st' := [.int (13 : Int32), .ref 32]) rfl ?_
  refine w_cs (As := [.ref 32, .int (13 : Int32)]) (rest := []) (j := 308) (L0 := [(0, .ref 32), (1, .int (13 : Int32))]) (pc' := 15) (L' := [(0, .ref 14), (1, .int (13 : Int32))]) h_m294 (z_at.mk 3 rfl rfl) (Or.inl ⟨rfl, rfl⟩) rfl rfl rfl rfl rfl ?_
  refine w_p h_m308 2 (pc' := 2) (L' := [(0, .ref 32), (1, .int (13 : Int32))]) (st' := [.ref 32, .int (13 : Int32)]) rfl ?_
  refine w_lene H (x := (36 : Int32)) (pc' := 3) (L' := [(0, .ref 32), (1, .int (13 : Int32))]) h_m308 (z_at.mk 1 rfl rfl) (by decide) rfl (by decide) rfl rfl rfl ?_
  refine w_ci (pc' := 6) (L' := [(0, .ref 32), (1, .int (13 : Int32))]) h_m308 (z_at.mk 3 rfl rfl) rfl (z_cat_le 0 rfl (by decide)) ⟨by decide, by decide⟩ rfl rfl ?_
  refine w_p h_m308 2 (pc' := 8) (L' := [(0, .ref 32), (1, .int (13 : Int32))]) (st' := [.int (13 : Int32), .ref 32]) rfl ?_
  refine w_ae H (j := 13) (pc' := 9) (L' := [(0, .ref 32), (1, .int (13 : Int32))]) h_m308 (z_at.mk 1 rfl rfl) rfl rfl rfl (by decide) rfl (by decide) rfl rfl rfl ?_
  refine w_p h_m308 3 (pc' := 14) (L' := [(0, .ref 32), (1, .int (13 : Int32))]) (st' := [.int (115 : Int32)]) rfl ?_
  refine w_ri h_m308 (z_at.mk 1 rfl rfl) rfl rfl ?_
  show z_W 996 294 15 [(0, .ref 14), (1, .int (13 : Int32))] [.int (115 : Int32)] m _
  refine w_ri h_m294 (z_at.mk 1 rfl rfl) rfl rfl ?_
  show z_W 997 218 43 [(0, .ref 143), (1, .ref 14), (2, .int (0 : Int32)), (3, .int (2 : Int32)), (4, .int (10 : Int32)), (5, .int (3 : Int32))] [.int (115 : Int32)] m _
  refine w_p h_m218 8 (pc' := 28) (L' := [(0, .ref 143), (1, .ref 14), (2, .int (0 : Int32)), (3, .int (2 : Int32)), (4, .int (10 : Int32)), (5, .int (4 : Int32))]) (st' := [.ref 14, .int (14 : Int32)]) rfl ?_
  refine w_cv (H.te (by decide) rfl).1 (pc' := 31) (L' := [(0, .ref 143), (1, .ref 14), (2, .int (0 : Int32)), (3, .int (2 : Int32)), (4, .int (10 : Int32)), (5, .int (4 : Int32))]) (rest := [.int (14 : Int32)]) (Ps := []) (L0 := [(0, .ref 14)]) h_m218 (z_at.mk 3 rfl rfl) (Or.inl ⟨rfl, rfl⟩) rfl rfl (by decide) (by decide) rfl rfl rfl rfl rfl rfl (by decide) rfl rfl rfl ?_
  refine w_p h_m293 1 (pc' := 1) (L' := [(0, .ref 14)]) (st' := [.ref 14]) rfl ?_
  refine w_gs H (pc' := 4) (L' := [(0, .ref 14)]) h_m293 (z_at.mk 3 rfl rfl) rfl (by decide) rfl rfl rfl rfl ?_
  refine w_lene H (x := (36 : Int32)) (pc' := 5) (L' := [(0, .ref 14)]) h_m293 (z_at.mk 1 rfl rfl) (by decide) rfl (by decide) rfl rfl rfl ?_
  refine w_p h_m293 1 (pc' := 6) (L' := [(0, .ref 14)]) (st' := [.ref 14, .int (36 : Int32)]) rfl ?_
  refine w_cv (H.te (by decide) rfl).1 (pc' := 9) (L' := [(0, .ref 14)]) (rest := [.int (36 : Int32)]) (Ps := []) (L0 := [(0, .ref 14)]) h_m293 (z_at.mk 3 rfl rfl) (Or.inl ⟨rfl, rfl⟩) rfl rfl (by decide) (by decide) rfl rfl rfl rfl rfl rfl (by decide) rfl rfl rfl ?_
  refine w_p h_m298 3 (pc' := 7) (L' := [(0, .ref 14)]) (st' := [.ref 14]) rfl ?_
  refine w_gs H (pc' := 10) (L' := [(0, .ref 14)]) h_m298 (z_at.mk 3 rfl rfl) rfl (by decide) rfl rfl rfl rfl ?_
  refine w_p h_m298 1 (pc' := 14) (L' := []) (st' := [.int (0 : Int32)]) rfl ?_
  refine w_ri h_m298 (z_at.mk 1 rfl rfl) rfl rfl ?_
  show z_W 996 293 9 [(0, .ref 14)] [.int (0 : Int32), .int (36 : Int32)] m _
  refine w_p h_m293 1 (pc' := 10) (L' := [(0, .ref 14)]) (st' := [.int (36 : Int32)]) rfl ?_
  refine w_ri h_m293 (z_at.mk 1 rfl rfl) rfl rfl ?_
  show z_W 997 218 31 [(0, .ref 143), (1, .ref 14), (2, .int (0 : Int32)), (3, .int (2 : Int32)), (4, .int (10 : Int32)), (5, .int (4 : Int32))] [.int (36 : Int32), .int (14 : Int32)] m _
  refine w_p h_m218 5 (pc' := 40) (L' := [(0, .ref 143), (1, .ref 14), (2, .int (0 : Int32)), (3, .int (2 : Int32)), (4, .int (10 : Int32)), (5, .int (4 : Int32))]) (st' := [.int (14 : Int32), .ref 14]) rfl ?_
  refine w_cv (H.te (by decide) rfl).1 (pc' := 43) (L' := [(0, .ref 143), (1, .ref 14), (2, .int (0 : Int32)), (3, .int (2 : Int32)), (4, .int (10 : Int32)), (5, .int (4 : Int32))]) (rest := []) (Ps := [.int (14 : Int32)]) (L0 := [(0, .ref 14), (1, .int (14 : Int32))]) h_m218 (z_at.mk 3 rfl rfl) (Or.inl ⟨rfl, rfl⟩) rfl rfl (by decide) (by decide) rfl rfl rfl rfl rfl rfl (by decide) rfl rfl rfl ?_
  refine w_p h_m294 1 (pc' := 1) (L' := [(0, .ref 14), (1, .int (14 : Int32))]) (st' := [.ref 14]) rfl ?_
  refine w_cv (H.te (by decide) rfl).1 (pc' := 4) (L' := [(0, .ref 14), (1, .int (14 : Int32))]) (rest := []) (Ps := []) (L0 := [(0, .ref 14)]) h_m294 (z_at.mk 3 rfl rfl) (Or.inl ⟨rfl, rfl⟩) rfl rfl (by decide) (by decide) rfl rfl rfl rfl rfl rfl (by decide) rfl rfl rfl ?_
  refine w_p h_m299 3 (pc' := 7) (L' := [(0, .ref 14)]) (st' := [.ref 14]) rfl ?_
  refine w_gs H (pc' := 10) (L' := [(0, .ref 14)]) h_m299 (z_at.mk 3 rfl rfl) rfl (by decide) rfl rfl rfl rfl ?_
  refine w_p h_m299 3 (pc' := 18) (L' := []) (st' := [.int (1 : Int32)]) rfl ?_
  refine w_ri h_m299 (z_at.mk 1 rfl rfl) rfl rfl ?_
  show z_W 996 294 4 [(0, .ref 14), (1, .int (14 : Int32))] [.int (1 : Int32)] m _
  refine w_p h_m294 2 (pc' := 8) (L' := [(0, .ref 14), (1, .int (14 : Int32))]) (st' := [.ref 14]) rfl ?_
  refine w_gs H (pc' := 11) (L' := [(0, .ref 14), (1, .int (14 : Int32))]) h_m294 (z_at.mk 3 rfl rfl) rfl (by decide) rfl rfl rfl rfl ?_
  refine w_p h_m294 1 (pc' := 12) (L' := [(0, .ref 14), (1, .int (14 : Int32))]) (st' := [.int (14 : Int32), .ref 32]) rfl ?_
  refine w_cs (As := [.ref 32, .int (14 : Int32)]) (rest := []) (j := 308) (L0 := [(0, .ref 32), (1, .int (14 : Int32))]) (pc' := 15) (L' := [(0, .ref 14), (1, .int (14 : Int32))]) h_m294 (z_at.mk 3 rfl rfl) (Or.inl ⟨rfl, rfl⟩) rfl rfl rfl rfl rfl ?_
  refine w_p h_m308 2 (pc' := 2) (L' := [(0, .ref 32), (1, .int (14 : Int32))]) (st' := [.ref 32, .int (14 : Int32)]) rfl ?_
  refine w_lene H (x := (36 : Int32)) (pc' := 3) (L' := [(0, .ref 32), (1, .int (14 : Int32))]) h_m308 (z_at.mk 1 rfl rfl) (by decide) rfl (by decide) rfl rfl rfl ?_
  refine w_ci (pc' := 6) (L' := [(0, .ref 32), (1, .int (14 : Int32))]) h_m308 (z_at.mk 3 rfl rfl) rfl (z_cat_le 0 rfl (by decide)) ⟨by decide, by decide⟩ rfl rfl ?_
  refine w_p h_m308 2 (pc' := 8) (L' := [(0, .ref 32), (1, .int (14 : Int32))]) (st' := [.int (14 : Int32), .ref 32]) rfl ?_
  refine w_ae H (j := 14) (pc' := 9) (L' := [(0, .ref 32), (1, .int (14 : Int32))]) h_m308 (z_at.mk 1 rfl rfl) rfl rfl rfl (by decide) rfl (by decide) rfl rfl rfl ?_
  refine w_p h_m308 3 (pc' := 14) (L' := [(0, .ref 32), (1, .int (14 : Int32))]) (st' := [.int (116 : Int32)]) rfl ?_
  refine w_ri h_m308 (z_at.mk 1 rfl rfl) rfl rfl ?_
  show z_W 996 294 15 [(0, .ref 14), (1, .int (14 : Int32))] [.int (116 : Int32)] m _
  refine w_ri h_m294 (z_at.mk 1 rfl rfl) rfl rfl ?_
  show z_W 997 218 43 [(0, .ref 143), (1, .ref 14), (2, .int (0 : Int32)), (3, .int (2 : Int32)), (4, .int (10 : Int32)), (5, .int (4 : Int32))] [.int (116 : Int32)] m _
  refine w_p h_m218 8 (pc' := 28) (L' := [(0, .ref 143), (1, .ref 14), (2, .int (0 : Int32)), (3, .int (2 : Int32)), (4, .int (10 : Int32)), (5, .int (5 : Int32))]) (st' := [.ref 14, .int (15 : Int32)]) rfl ?_
  refine w_cv (H.te (by decide) rfl).1 (pc' := 31) (L' := [(0, .ref 143), (1, .ref 14), (2, .int (0 : Int32)), (3, .int (2 : Int32)), (4, .int (10 : Int32)), (5, .int (5 : Int32))]) (rest := [.int (15 : Int32)]) (Ps := []) (L0 := [(0, .ref 14)]) h_m218 (z_at.mk 3 rfl rfl) (Or.inl ⟨rfl, rfl⟩) rfl rfl (by decide) (by decide) rfl rfl rfl rfl rfl rfl (by decide) rfl rfl rfl ?_
  refine w_p h_m293 1 (pc' := 1) (L' := [(0, .ref 14)]) (st' := [.ref 14]) rfl ?_
  refine w_gs H (pc' := 4) (L' := [(0, .ref 14)]) h_m293 (z_at.mk 3 rfl rfl) rfl (by decide) rfl rfl rfl rfl ?_
  refine w_lene H (x := (36 : Int32)) (pc' := 5) (L' := [(0, .ref 14)]) h_m293 (z_at.mk 1 rfl rfl) (by decide) rfl (by decide) rfl rfl rfl ?_
  refine w_p h_m293 1 (pc' := 6) (L' := [(0, .ref 14)]) (st' := [.ref 14, .int (36 : Int32)]) rfl ?_
  refine w_cv (H.te (by decide) rfl).1 (pc' := 9) (L' := [(0, .ref 14)]) (rest := [.int (36 : Int32)]) (Ps := []) (L0 := [(0, .ref 14)]) h_m293 (z_at.mk 3 rfl rfl) (Or.inl ⟨rfl, rfl⟩) rfl rfl (by decide) (by decide) rfl rfl rfl rfl rfl rfl (by decide) rfl rfl rfl ?_
  refine w_p h_m298 3 (pc' := 7) (L' := [(0, .ref 14)]) (st' := [.ref 14]) rfl ?_
  refine w_gs H (pc' := 10) (L' := [(0, .ref 14)]) h_m298 (z_at.mk 3 rfl rfl) rfl (by decide) rfl rfl rfl rfl ?_
  refine w_p h_m298 1 (pc' := 14) (L' := []) (st' := [.int (0 : Int32)]) rfl ?_
  refine w_ri h_m298 (z_at.mk 1 rfl rfl) rfl rfl ?_
  show z_W 996 293 9 [(0, .ref 14)] [.int (0 : Int32), .int (36 : Int32)] m _
  refine w_p h_m293 1 (pc' := 10) (L' := [(0, .ref 14)]) (st' := [.int (36 : Int32)]) rfl ?_
  refine w_ri h_m293 (z_at.mk 1 rfl rfl) rfl rfl ?_
  show z_W 997 218 31 [(0, .ref 143), (1, .ref 14), (2, .int (0 : Int32)), (3, .int (2 : Int32)), (4, .int (10 : Int32)), (5, .int (5 : Int32))] [.int (36 : Int32), .int (15 : Int32)] m _
  refine w_p h_m218 5 (pc' := 40) (L' := [(0, .ref 143), (1, .ref 14), (2, .int (0 : Int32)), (3, .int (2 : Int32)), (4, .int (10 : Int32)), (5, .int (5 : Int32))]) (st' := [.int (15 : Int32), .ref 14]) rfl ?_
  refine w_cv (H.te (by decide) rfl).1 (pc' := 43) (L' := [(0, .ref 143), (1, .ref 14), (2, .int (0 : Int32)), (3, .int (2 : Int32)), (4, .int (10 : Int32)), (5, .int (5 : Int32))]) (rest := []) (Ps := [.int (15 : Int32)]) (L0 := [(0, .ref 14), (1, .int (15 : Int32))]) h_m218 (z_at.mk 3 rfl rfl) (Or.inl ⟨rfl, rfl⟩) rfl rfl (by decide) (by decide) rfl rfl rfl rfl rfl rfl (by decide) rfl rfl rfl ?_
  refine w_p h_m294 1 (pc' := 1) (L' := [(0, .ref 14), (1, .int (15 : Int32))]) (st' := [.ref 14]) rfl ?_
  refine w_cv (H.te (by decide) rfl).1 (pc' := 4) (L' := [(0, .ref 14), (1, .int (15 : Int32))]) (rest := []) (Ps := []) (L0 := [(0, .ref 14)]) h_m294 (z_at.mk 3 rfl rfl) (Or.inl ⟨rfl, rfl⟩) rfl rfl (by decide) (by decide) rfl rfl rfl rfl rfl rfl (by decide) rfl rfl rfl ?_
  refine w_p h_m299 3 (pc' := 7) (L' := [(0, .ref 14)]) (st' := [.ref 14]) rfl ?_
  refine w_gs H (pc' := 10) (L' := [(0, .ref 14)]) h_m299 (z_at.mk 3 rfl rfl) rfl (by decide) rfl rfl rfl rfl ?_
  refine w_p h_m299 3 (pc' := 18) (L' := []) (st' := [.int (1 : Int32)]) rfl ?_
  refine w_ri h_m299 (z_at.mk 1 rfl rfl) rfl rfl ?_
  show z_W 996 294 4 [(0, .ref 14), (1, .int (15 : Int32))] [.int (1 : Int32)] m _
  refine w_p h_m294 2 (pc' := 8) (L' := [(0, .ref 14), (1, .int (15 : Int32))]) (st' := [.ref 14]) rfl ?_
  refine w_gs H (pc' := 11) (L' := [(0, .ref 14), (1, .int (15 : Int32))]) h_m294 (z_at.mk 3 rfl rfl) rfl (by decide) rfl rfl rfl rfl ?_
  refine w_p h_m294 1 (pc' := 12) (L' := [(0, .ref 14), (1, .int (15 : Int32))]) (st' := [.int (15 : Int32), .ref 32]) rfl ?_
  refine w_cs (As := [.ref 32, .int (15 : Int32)]) (rest := []) (j := 308) (L0 := [(0, .ref 32), (1, .int (15 : Int32))]) (pc' := 15) (L' := [(0, .ref 14), (1, .int (15 : Int32))]) h_m294 (z_at.mk 3 rfl rfl) (Or.inl ⟨rfl, rfl⟩) rfl rfl rfl rfl rfl ?_
  refine w_p h_m308 2 (pc' := 2) (L' := [(0, .ref 32), (1, .int (15 : Int32))]) (st' := [.ref 32, .int (15 : Int32)]) rfl ?_
  refine w_lene H (x := (36 : Int32)) (pc' := 3) (L' := [(0, .ref 32), (1, .int (15 : Int32))]) h_m308 (z_at.mk 1 rfl rfl) (by decide) rfl (by decide) rfl rfl rfl ?_
  refine w_ci (pc' := 6) (L' := [(0, .ref 32), (1, .int (15 : Int32))]) h_m308 (z_at.mk 3 rfl rfl) rfl (z_cat_le 0 rfl (by decide)) ⟨by decide, by decide⟩ rfl rfl ?_
  refine w_p h_m308 2 (pc' := 8) (L' := [(0, .ref 32), (1, .int (15 : Int32))]) (st' := [.int (15 : Int32), .ref 32]) rfl ?_
  refine w_ae H (j := 15) (pc' := 9) (L' := [(0, .ref 32), (1, .int (15 : Int32))]) h_m308 (z_at.mk 1 rfl rfl) rfl rfl rfl (by decide) rfl (by decide) rfl rfl rfl ?_
  refine w_p h_m308 3 (pc' := 14) (L' := [(0, .ref 32), (1, .int (15 : Int32))]) (st' := [.int (32 : Int32)]) rfl ?_
  refine w_ri h_m308 (z_at.mk 1 rfl rfl) rfl rfl ?_
  show z_W 996 294 15 [(0, .ref 14), (1, .int (15 : Int32))] [.int (32 : Int32)] m _
  refine w_ri h_m294 (z_at.mk 1 rfl rfl) rfl rfl ?_
  show z_W 997 218 43 [(0, .ref 143), (1, .ref 14), (2, .int (0 : Int32)), (3, .int (2 : Int32)), (4, .int (10 : Int32)), (5, .int (5 : Int32))] [.int (32 : Int32)] m _
  refine w_p h_m218 5 (pc' := 58) (L' := [(0, .ref 143), (1, .ref 14), (2, .int (0 : Int32)), (3, .int (2 : Int32)), (4, .int (10 : Int32)), (5, .int (5 : Int32))]) (st' := [.ref 143, .int (0 : Int32), .int (5 : Int32)]) rfl ?_
  refine w_gf H (pc' := 61) (L' := [(0, .ref 143), (1, .ref 14), (2, .int (0 : Int32)), (3, .int (2 : Int32)), (4, .int (10 : Int32)), (5, .int (5 : Int32))]) h_m218 (z_at.mk 3 rfl rfl) rfl (u := .int (0 : Int32)) rfl rfl rfl ?_
  refine w_p h_m218 23 (pc' := 13) (L' := [(0, .ref 143), (1, .ref 14), (2, .int (0 : Int32)), (3, .int (3 : Int32)), (4, .int (16 : Int32))]) (st' := [.ref 14, .int (16 : Int32)]) rfl ?_
  refine w_cv (H.te (by decide) rfl).1 (pc' := 16) (L' := [(0, .ref 143), (1, .ref 14), (2, .int (0 : Int32)), (3, .int (3 : Int32)), (4, .int (16 : Int32))]) (rest := [.int (16 : Int32)]) (Ps := []) (L0 := [(0, .ref 14)]) h_m218 (z_at.mk 3 rfl rfl) (Or.inl ⟨rfl, rfl⟩) rfl rfl (by decide) (by decide) rfl rfl rfl rfl rfl rfl (by decide) rfl rfl rfl ?_
  refine w_p h_m293 1 (pc' := 1) (L' := [(0, .ref 14)]) (st' := [.ref 14]) rfl ?_
  refine w_gs H (pc' := 4) (L' := [(0, .ref 14)]) h_m293 (z_at.mk 3 rfl rfl) rfl (by decide) rfl rfl rfl rfl ?_
  refine w_lene H (x := (36 : Int32)) (pc' := 5) (L' := [(0, .ref 14)]) h_m293 (z_at.mk 1 rfl rfl) (by decide) rfl (by decide) rfl rfl rfl ?_
  refine w_p h_m293 1 (pc' := 6) (L' := [(0, .ref 14)]) (st' := [.ref 14, .int (36 : Int32)]) rfl ?_
  refine w_cv (H.te (by decide) rfl).1 (pc' := 9) (L' := [(0, .ref 14)]) (rest := [.int (36 : Int32)]) (Ps := []) (L0 := [(0, .ref 14)]) h_m293 (z_at.mk 3 rfl rfl) (Or.inl ⟨rfl, rfl⟩) rfl rfl (by decide) (by decide) rfl rfl rfl rfl rfl rfl (by decide) rfl rfl rfl ?_
  refine w_p h_m298 3 (pc' := 7) (L' := [(0, .ref 14)]) (st' := [.ref 14]) rfl ?_
  refine w_gs H (pc' := 10) (L' := [(0, .ref 14)]) h_m298 (z_at.mk 3 rfl rfl) rfl (by decide) rfl rfl rfl rfl ?_
  refine w_p h_m298 1 (pc' := 14) (L' := []) (st' := [.int (0 : Int32)]) rfl ?_
  refine w_ri h_m298 (z_at.mk 1 rfl rfl) rfl rfl ?_
  show z_W 996 293 9 [(0, .ref 14)] [.int (0 : Int32), .int (36 : Int32)] m _
  refine w_p h_m293 1 (pc' := 10) (L' := [(0, .ref 14)]) (st' := [.int (36 : Int32)]) rfl ?_
  refine w_ri h_m293 (z_at.mk 1 rfl rfl) rfl rfl ?_
  show z_W 997 218 16 [(0, .ref 143), (1, .ref 14), (2, .int (0 : Int32)), (3, .int (3 : Int32)), (4, .int (16 : Int32))] [.int (36 : Int32), .int (16 : Int32)] m _
  refine w_p h_m218 7 (pc' := 28) (L' := [(0, .ref 143), (1, .ref 14), (2, .int (0 : Int32)), (3, .int (3 : Int32)), (4, .int (16 : Int32)), (5, .int (0 : Int32))]) (st' := [.ref 14, .int (16 : Int32)]) rfl ?_
  refine w_cv (H.te (by decide) rfl).1 (pc' := 31) (L' := [(0, .ref 143), (1, .ref 14), (2, .int (0 : Int32)), (3, .int (3 : Int32)), (4, .int (16 : Int32)), (5, .int (0 : Int32))]) (rest := [.int (16 : Int32)]) (Ps := []) (L0 := [(0, .ref 14)]) h_m218 (z_at.mk 3 rfl rfl) (Or.inl ⟨rfl, rfl⟩) rfl rfl (by decide) (by decide) rfl rfl rfl rfl rfl rfl (by decide) rfl rfl rfl ?_
  refine w_p h_m293 1 (pc' := 1) (L' := [(0, .ref 14)]) (st' := [.ref 14]) rfl ?_
  refine w_gs H (pc' := 4) (L' := [(0, .ref 14)]) h_m293 (z_at.mk 3 rfl rfl) rfl (by decide) rfl rfl rfl rfl ?_
  refine w_lene H (x := (36 : Int32)) (pc' := 5) (L' := [(0, .ref 14)]) h_m293 (z_at.mk 1 rfl rfl) (by decide) rfl (by decide) rfl rfl rfl ?_
  refine w_p h_m293 1 (pc' := 6) (L' := [(0, .ref 14)]) (st' := [.ref 14, .int (36 : Int32)]) rfl ?_
  refine w_cv (H.te (by decide) rfl).1 (pc' := 9) (L' := [(0, .ref 14)]) (rest := [.int (36 : Int32)]) (Ps := []) (L0 := [(0, .ref 14)]) h_m293 (z_at.mk 3 rfl rfl) (Or.inl ⟨rfl, rfl⟩) rfl rfl (by decide) (by decide) rfl rfl rfl rfl rfl rfl (by decide) rfl rfl rfl ?_
  refine w_p h_m298 3 (pc' := 7) (L' := [(0, .ref 14)]) (st' := [.ref 14]) rfl ?_
  refine w_gs H (pc' := 10) (L' := [(0, .ref 14)]) h_m298 (z_at.mk 3 rfl rfl) rfl (by decide) rfl rfl rfl rfl ?_
  refine w_p h_m298 1 (pc' := 14) (L' := []) (st' := [.int (0 : Int32)]) rfl ?_
  refine w_ri h_m298 (z_at.mk 1 rfl rfl) rfl rfl ?_
  show z_W 996 293 9 [(0, .ref 14)] [.int (0 : Int32), .int (36 : Int32)] m _
  refine w_p h_m293 1 (pc' := 10) (L' := [(0, .ref 14)]) (st' := [.int (36 : Int32)]) rfl ?_
  refine w_ri h_m293 (z_at.mk 1 rfl rfl) rfl rfl ?_
  show z_W 997 218 31 [(0, .ref 143), (1, .ref 14), (2, .int (0 : Int32)), (3, .int (3 : Int32)), (4, .int (16 : Int32)), (5, .int (0 : Int32))] [.int (36 : Int32), .int (16 : Int32)] m _
  refine w_p h_m218 5 (pc' := 40) (L' := [(0, .ref 143), (1, .ref 14), (2, .int (0 : Int32)), (3, .int (3 : Int32)), (4, .int (16 : Int32)), (5, .int (0 : Int32))]) (st' := [.int (16 : Int32), .ref 14]) rfl ?_
  refine w_cv (H.te (by decide) rfl).1 (pc' := 43) (L' := [(0, .ref 143), (1, .ref 14), (2, .int (0 : Int32)), (3, .int (3 : Int32)), (4, .int (16 : Int32)), (5, .int (0 : Int32))]) (rest := []) (Ps := [.int (16 : Int32)]) (L0 := [(0, .ref 14), (1, .int (16 : Int32))]) h_m218 (z_at.mk 3 rfl rfl) (Or.inl ⟨rfl, rfl⟩) rfl rfl (by decide) (by decide) rfl rfl rfl rfl rfl rfl (by decide) rfl rfl rfl ?_
  refine w_p h_m294 1 (pc' := 1) (L' := [(0, .ref 14), (1, .int (16 : Int32))]) (st' := [.ref 14]) rfl ?_
  refine w_cv (H.te (by decide) rfl).1 (pc' := 4) (L' := [(0, .ref 14), (1, .int (16 : Int32))]) (rest := []) (Ps := []) (L0 := [(0, .ref 14)]) h_m294 (z_at.mk 3 rfl rfl) (Or.inl ⟨rfl, rfl⟩) rfl rfl (by decide) (by decide) rfl rfl rfl rfl rfl rfl (by decide) rfl rfl rfl ?_
  refine w_p h_m299 3 (pc' := 7) (L' := [(0, .ref 14)]) (st' := [.ref 14]) rfl ?_
  refine w_gs H (pc' := 10) (L' := [(0, .ref 14)]) h_m299 (z_at.mk 3 rfl rfl) rfl (by decide) rfl rfl rfl rfl ?_
  refine w_p h_m299 3 (pc' := 18) (L' := []) (st' := [.int (1 : Int32)]) rfl ?_
  refine w_ri h_m299 (z_at.mk 1 rfl rfl) rfl rfl ?_
  show z_W 996 294 4 [(0, .ref 14), (1, .int (16 : Int32))] [.int (1 : Int32)] m _
  refine w_p h_m294 2 (pc' := 8) (L' := [(0, .ref 14), (1, .int (16 : Int32))]) (st' := [.ref 14]) rfl ?_
  refine w_gs H (pc' := 11) (L' := [(0, .ref 14), (1, .int (16 : Int32))]) h_m294 (z_at.mk 3 rfl rfl) rfl (by decide) rfl rfl rfl rfl ?_
  refine w_p h_m294 1 (pc' := 12) (L' := [(0, .ref 14), (1, .int (16 : Int32))]) (st' := [.int (16 : Int32), .ref 32]) rfl ?_
  refine w_cs (As := [.ref 32, .int (16 : Int32)]) (rest := []) (j := 308) (L0 := [(0, .ref 32), (1, .int (16 : Int32))]) (pc' := 15) (L' := [(0, .ref 14), (1, .int (16 : Int32))]) h_m294 (z_at.mk 3 rfl rfl) (Or.inl ⟨rfl, rfl⟩) rfl rfl rfl rfl rfl ?_
  refine w_p h_m308 2 (pc' := 2) (L' := [(0, .ref 32), (1, .int (16 : Int32))]) (st' := [.ref 32, .int (16 : Int32)]) rfl ?_
  refine w_lene H (x := (36 : Int32)) (pc' := 3) (L' := [(0, .ref 32), (1, .int (16 : Int32))]) h_m308 (z_at.mk 1 rfl rfl) (by decide) rfl (by decide) rfl rfl rfl ?_
  refine w_ci (pc' := 6) (L' := [(0, .ref 32), (1, .int (16 : Int32))]) h_m308 (z_at.mk 3 rfl rfl) rfl (z_cat_le 0 rfl (by decide)) ⟨by decide, by decide⟩ rfl rfl ?_
  refine w_p h_m308 2 (pc' := 8) (L' := [(0, .ref 32), (1, .int (16 : Int32))]) (st' := [.int (16 : Int32), .ref 32]) rfl ?_
  refine w_ae H (j := 16) (pc' := 9) (L' := [(0, .ref 32), (1, .int (16 : Int32))]) h_m308 (z_at.mk 1 rfl rfl) rfl rfl rfl (by decide) rfl (by decide) rfl rfl rfl ?_
  refine w_p h_m308 3 (pc' := 14) (L' := [(0, .ref 32), (1, .int (16 : Int32))]) (st' := [.int (109 : Int32)]) rfl ?_
  refine w_ri h_m308 (z_at.mk 1 rfl rfl) rfl rfl ?_
  show z_W 996 294 15 [(0, .ref 14), (1, .int (16 : Int32))] [.int (109 : Int32)] m _
  refine w_ri h_m294 (z_at.mk 1 rfl rfl) rfl rfl ?_
  show z_W 997 218 43 [(0, .ref 143), (1, .ref 14), (2, .int (0 : Int32)), (3, .int (3 : Int32)), (4, .int (16 : Int32)), (5, .int (0 : Int32))] [.int (109 : Int32)] m _
  refine w_p h_m218 8 (pc' := 28) (L' := [(0, .ref 143), (1, .ref 14), (2, .int (0 : Int32)), (3, .int (3 : Int32)), (4, .int (16 : Int32)), (5, .int (1 : Int32))]) (st' := [.ref 14, .int (17 : Int32)]) rfl ?_
  refine w_cv (H.te (by decide) rfl).1 (pc' := 31) (L' := [(0, .ref 143), (1, .ref 14), (2, .int (0 : Int32)), (3, .int (3 : Int32)), (4, .int (16 : Int32)), (5, .int (1 : Int32))]) (rest := [.int (17 : Int32)]) (Ps := []) (L0 := [(0, .ref 14)]) h_m218 (z_at.mk 3 rfl rfl) (Or.inl ⟨rfl, rfl⟩) rfl rfl (by decide) (by decide) rfl rfl rfl rfl rfl rfl (by decide) rfl rfl rfl ?_
  refine w_p h_m293 1 (pc' := 1) (L' := [(0, .ref 14)]) (st' := [.ref 14]) rfl ?_
  refine w_gs H (pc' := 4) (L' := [(0, .ref 14)]) h_m293 (z_at.mk 3 rfl rfl) rfl (by decide) rfl rfl rfl rfl ?_
  refine w_lene H (x := (36 : Int32)) (pc' := 5) (L' := [(0, .ref 14)]) h_m293 (z_at.mk 1 rfl rfl) (by decide) rfl (by decide) rfl rfl rfl ?_
  refine w_p h_m293 1 (pc' := 6) (L' := [(0, .ref 14)]) (st' := [.ref 14, .int (36 : Int32)]) rfl ?_
  refine w_cv (H.te (by decide) rfl).1 (pc' := 9) (L' := [(0, .ref 14)]) (rest := [.int (36 : Int32)]) (Ps := []) (L0 := [(0, .ref 14)]) h_m293 (z_at.mk 3 rfl rfl) (Or.inl ⟨rfl, rfl⟩) rfl rfl (by decide) (by decide) rfl rfl rfl rfl rfl rfl (by decide) rfl rfl rfl ?_
  refine w_p h_m298 3 (pc' := 7) (L' := [(0, .ref 14)]) (st' := [.ref 14]) rfl ?_
  refine w_gs H (pc' := 10) (L' := [(0, .ref 14)]) h_m298 (z_at.mk 3 rfl rfl) rfl (by decide) rfl rfl rfl rfl ?_
  refine w_p h_m298 1 (pc' := 14) (L' := []) (st' := [.int (0 : Int32)]) rfl ?_
  refine w_ri h_m298 (z_at.mk 1 rfl rfl) rfl rfl ?_
  show z_W 996 293 9 [(0, .ref 14)] [.int (0 : Int32), .int (36 : Int32)] m _
  refine w_p h_m293 1 (pc' := 10) (L' := [(0, .ref 14)]) (st' := [.int (36 : Int32)]) rfl ?_
  refine w_ri h_m293 (z_at.mk 1 rfl rfl) rfl rfl ?_
  show z_W 997 218 31 [(0, .ref 143), (1, .ref 14), (2, .int (0 : Int32)), (3, .int (3 : Int32)), (4, .int (16 : Int32)), (5, .int (1 : Int32))] [.int (36 : Int32), .int (17 : Int32)] m _
  refine w_p h_m218 5 (pc' := 40) (L' := [(0, .ref 143), (1, .ref 14), (2, .int (0 : Int32)), (3, .int (3 : Int32)), (4, .int (16 : Int32)), (5, .int (1 : Int32))]) (st' := [.int (17 : Int32), .ref 14]) rfl ?_
  refine w_cv (H.te (by decide) rfl).1 (pc' := 43) (L' := [(0, .ref 143), (1, .ref 14), (2, .int (0 : Int32)), (3, .int (3 : Int32)), (4, .int (16 : Int32)), (5, .int (1 : Int32))]) (rest := []) (Ps := [.int (17 : Int32)]) (L0 := [(0, .ref 14), (1, .int (17 : Int32))]) h_m218 (z_at.mk 3 rfl rfl) (Or.inl ⟨rfl, rfl⟩) rfl rfl (by decide) (by decide) rfl rfl rfl rfl rfl rfl (by decide) rfl rfl rfl ?_
  refine w_p h_m294 1 (pc' := 1) (L' := [(0, .ref 14), (1, .int (17 : Int32))]) (st' := [.ref 14]) rfl ?_
  refine w_cv (H.te (by decide) rfl).1 (pc' := 4) (L' := [(0, .ref 14), (1, .int (17 : Int32))]) (rest := []) (Ps := []) (L0 := [(0, .ref 14)]) h_m294 (z_at.mk 3 rfl rfl) (Or.inl ⟨rfl, rfl⟩) rfl rfl (by decide) (by decide) rfl rfl rfl rfl rfl rfl (by decide) rfl rfl rfl ?_
  refine w_p h_m299 3 (pc' := 7) (L' := [(0, .ref 14)]) (st' := [.ref 14]) rfl ?_
  refine w_gs H (pc' := 10) (L' := [(0, .ref 14)]) h_m299 (z_at.mk 3 rfl rfl) rfl (by decide) rfl rfl rfl rfl ?_
  refine w_p h_m299 3 (pc' := 18) (L' := []) (st' := [.int (1 : Int32)]) rfl ?_
  refine w_ri h_m299 (z_at.mk 1 rfl rfl) rfl rfl ?_
  show z_W 996 294 4 [(0, .ref 14), (1, .int (17 : Int32))] [.int (1 : Int32)] m _
  refine w_p h_m294 2 (pc' := 8) (L' := [(0, .ref 14), (1, .int (17 : Int32))]) (st' := [.ref 14]) rfl ?_
  refine w_gs H (pc' := 11) (L' := [(0, .ref 14), (1, .int (17 : Int32))]) h_m294 (z_at.mk 3 rfl rfl) rfl (by decide) rfl rfl rfl rfl ?_
  refine w_p h_m294 1 (pc' := 12) (L' := [(0, .ref 14), (1, .int (17 : Int32))]) (st' := [.int (17 : Int32), .ref 32]) rfl ?_
  refine w_cs (As := [.ref 32, .int (17 : Int32)]) (rest := []) (j := 308) (L0 := [(0, .ref 32), (1, .int (17 : Int32))]) (pc' := 15) (L' := [(0, .ref 14), (1, .int (17 : Int32))]) h_m294 (z_at.mk 3 rfl rfl) (Or.inl ⟨rfl, rfl⟩) rfl rfl rfl rfl rfl ?_
  refine w_p h_m308 2 (pc' := 2) (L' := [(0, .ref 32), (1, .int (17 : Int32))]) (st' := [.ref 32, .int (17 : Int32)]) rfl ?_
  refine w_lene H (x := (36 : Int32)) (pc' := 3) (L' := [(0, .ref 32), (1, .int (17 : Int32))]) h_m308 (z_at.mk 1 rfl rfl) (by decide) rfl (by decide) rfl rfl rfl ?_
  refine w_ci (pc' := 6) (L' := [(0, .ref 32), (1, .int (17 : Int32))]) h_m308 (z_at.mk 3 rfl rfl) rfl (z_cat_le 0 rfl (by decide)) ⟨by decide, by decide⟩ rfl rfl ?_
  refine w_p h_m308 2 (pc' := 8) (L' := [(0, .ref 32), (1, .int (17 : Int32))]) (st' := [.int (17 : Int32), .ref 32]) rfl ?_
  refine w_ae H (j := 17) (pc' := 9) (L' := [(0, .ref 32), (1, .int (17 : Int32))]) h_m308 (z_at.mk 1 rfl rfl) rfl rfl rfl (by decide) rfl (by decide) rfl rfl rfl ?_
  refine w_p h_m308 3 (pc' := 14) (L' := [(0, .ref 32), (1, .int (17 : Int32))]) (st' := [.int (111 : Int32)]) rfl ?_
  refine w_ri h_m308 (z_at.mk 1 rfl rfl) rfl rfl ?_
  show z_W 996 294 15 [(0, .ref 14), (1, .int (17 : Int32))] [.int (111 : Int32)] m _
  refine w_ri h_m294 (z_at.mk 1 rfl rfl) rfl rfl ?_
  show z_W 997 218 43 [(0, .ref 143), (1, .ref 14), (2, .int (0 : Int32)), (3, .int (3 : Int32)), (4, .int (16 : Int32)), (5, .int (1 : Int32))] [.int (111 : Int32)] m _
  refine w_p h_m218 8 (pc' := 28) (L' := [(0, .ref 143), (1, .ref 14), (2, .int (0 : Int32)), (3, .int (3 : Int32)), (4, .int (16 : Int32)), (5, .int (2 : Int32))]) (st' := [.ref 14, .int (18 : Int32)]) rfl ?_
  refine w_cv (H.te (by decide) rfl).1 (pc' := 31) (L' := [(0, .ref 143), (1, .ref 14), (2, .int (0 : Int32)), (3, .int (3 : Int32)), (4, .int (16 : Int32)), (5, .int (2 : Int32))]) (rest := [.int (18 : Int32)]) (Ps := []) (L0 := [(0, .ref 14)]) h_m218 (z_at.mk 3 rfl rfl) (Or.inl ⟨rfl, rfl⟩) rfl rfl (by decide) (by decide) rfl rfl rfl rfl rfl rfl (by decide) rfl rfl rfl ?_
  refine w_p h_m293 1 (pc' := 1) (L' := [(0, .ref 14)]) (st' := [.ref 14]) rfl ?_
  refine w_gs H (pc' := 4) (L' := [(0, .ref 14)]) h_m293 (z_at.mk 3 rfl rfl) rfl (by decide) rfl rfl rfl rfl ?_
  refine w_lene H (x := (36 : Int32)) (pc' := 5) (L' := [(0, .ref 14)]) h_m293 (z_at.mk 1 rfl rfl) (by decide) rfl (by decide) rfl rfl rfl ?_
  refine w_p h_m293 1 (pc' := 6) (L' := [(0, .ref 14)]) (st' := [.ref 14, .int (36 : Int32)]) rfl ?_
  refine w_cv (H.te (by decide) rfl).1 (pc' := 9) (L' := [(0, .ref 14)]) (rest := [.int (36 : Int32)]) (Ps := []) (L0 := [(0, .ref 14)]) h_m293 (z_at.mk 3 rfl rfl) (Or.inl ⟨rfl, rfl⟩) rfl rfl (by decide) (by decide) rfl rfl rfl rfl rfl rfl (by decide) rfl rfl rfl ?_
  refine w_p h_m298 3 (pc' := 7) (L' := [(0, .ref 14)]) (st' := [.ref 14]) rfl ?_
  refine w_gs H (pc' := 10) (L' := [(0, .ref 14)]) h_m298 (z_at.mk 3 rfl rfl) rfl (by decide) rfl rfl rfl rfl ?_
  refine w_p h_m298 1 (pc' := 14) (L' := []) (st' := [.int (0 : Int32)]) rfl ?_
  refine w_ri h_m298 (z_at.mk 1 rfl rfl) rfl rfl ?_
  show z_W 996 293 9 [(0, .ref 14)] [.int (0 : Int32), .int (36 : Int32)] m _
  refine w_p h_m293 1 (pc' := 10) (L' := [(0, .ref 14)]) (st' := [.int (36 : Int32)]) rfl ?_
  refine w_ri h_m293 (z_at.mk 1 rfl rfl) rfl rfl ?_
  show z_W 997 218 31 [(0, .ref 143), (1, .ref 14), (2, .int (0 : Int32)), (3, .int (3 : Int32)), (4, .int (16 : Int32)), (5, .int (2 : Int32))] [.int (36 : Int32), .int (18 : Int32)] m _
  refine w_p h_m218 5 (pc' := 40) (L' := [(0, .ref 143), (1, .ref 14), (2, .int (0 : Int32)), (3, .int (3 : Int32)), (4, .int (16 : Int32)), (5, .int (2 : Int32))]) (st' := [.int (18 : Int32), .ref 14]) rfl ?_
  refine w_cv (H.te (by decide) rfl).1 (pc' := 43) (L' := [(0, .ref 143), (1, .ref 14), (2, .int (0 : Int32)), (3, .int (3 : Int32)), (4, .int (16 : Int32)), (5, .int (2 : Int32))]) (rest := []) (Ps := [.int (18 : Int32)]) (L0 := [(0, .ref 14), (1, .int (18 : Int32))]) h_m218 (z_at.mk 3 rfl rfl) (Or.inl ⟨rfl, rfl⟩) rfl rfl (by decide) (by decide) rfl rfl rfl rfl rfl rfl (by decide) rfl rfl rfl ?_
  refine w_p h_m294 1 (pc' := 1) (L' := [(0, .ref 14), (1, .int (18 : Int32))]) (st' := [.ref 14]) rfl ?_
  refine w_cv (H.te (by decide) rfl).1 (pc' := 4) (L' := [(0, .ref 14), (1, .int (18 : Int32))]) (rest := []) (Ps := []) (L0 := [(0, .ref 14)]) h_m294 (z_at.mk 3 rfl rfl) (Or.inl ⟨rfl, rfl⟩) rfl rfl (by decide) (by decide) rfl rfl rfl rfl rfl rfl (by decide) rfl rfl rfl ?_
  refine w_p h_m299 3 (pc' := 7) (L' := [(0, .ref 14)]) (st' := [.ref 14]) rfl ?_
  refine w_gs H (pc' := 10) (L' := [(0, .ref 14)]) h_m299 (z_at.mk 3 rfl rfl) rfl (by decide) rfl rfl rfl rfl ?_
  refine w_p h_m299 3 (pc' := 18) (L' := []) (st' := [.int (1 : Int32)]) rfl ?_
  refine w_ri h_m299 (z_at.mk 1 rfl rfl) rfl rfl ?_
  show z_W 996 294 4 [(0, .ref 14), (1, .int (18 : Int32))] [.int (1 : Int32)] m _
  refine w_p h_m294 2 (pc' := 8) (L' := [(0, .ref 14), (1, .int (18 : Int32))]) (st' := [.ref 14]) rfl ?_
  refine w_gs H (pc' := 11) (L' := [(0, .ref 14), (1, .int (18 : Int32))]) h_m294 (z_at.mk 3 rfl rfl) rfl (by decide) rfl rfl rfl rfl ?_
  refine w_p h_m294 1 (pc' := 12) (L' := [(0, .ref 14), (1, .int (18 : Int32))]) (st' := [.int (18 : Int32), .ref 32]) rfl ?_
  refine w_cs (As := [.ref 32, .int (18 : Int32)]) (rest := []) (j := 308) (L0 := [(0, .ref 32), (1, .int (18 : Int32))]) (pc' := 15) (L' := [(0, .ref 14), (1, .int (18 : Int32))]) h_m294 (z_at.mk 3 rfl rfl) (Or.inl ⟨rfl, rfl⟩) rfl rfl rfl rfl rfl ?_
  refine w_p h_m308 2 (pc' := 2) (L' := [(0, .ref 32), (1, .int (18 : Int32))]) (st' := [.ref 32, .int (18 : Int32)]) rfl ?_
  refine w_lene H (x := (36 : Int32)) (pc' := 3) (L' := [(0, .ref 32), (1, .int (18 : Int32))]) h_m308 (z_at.mk 1 rfl rfl) (by decide) rfl (by decide) rfl rfl rfl ?_
  refine w_ci (pc' := 6) (L' := [(0, .ref 32), (1, .int (18 : Int32))]) h_m308 (z_at.mk 3 rfl rfl) rfl (z_cat_le 0 rfl (by decide)) ⟨by decide, by decide⟩ rfl rfl ?_
  refine w_p h_m308 2 (pc' := 8) (L' := [(0, .ref 32), (1, .int (18 : Int32))]) (st' := [.int (18 : Int32), .ref 32]) rfl ?_
  refine w_ae H (j := 18) (pc' := 9) (L' := [(0, .ref 32), (1, .int (18 : Int32))]) h_m308 (z_at.mk 1 rfl rfl) rfl rfl rfl (by decide) rfl (by decide) rfl rfl rfl ?_
  refine w_p h_m308 3 (pc' := 14) (L' := [(0, .ref 32), (1, .int (18 : Int32))]) (st' := [.int (115 : Int32)]) rfl ?_
  refine w_ri h_m308 (z_at.mk 1 rfl rfl) rfl rfl ?_
  show z_W 996 294 15 [(0, .ref 14), (1, .int (18 : Int32))] [.int (115 : Int32)] m _
  refine w_ri h_m294 (z_at.mk 1 rfl rfl) rfl rfl ?_
  show z_W 997 218 43 [(0, .ref 143), (1, .ref 14), (2, .int (0 : Int32)), (3, .int (3 : Int32)), (4, .int (16 : Int32)), (5, .int (2 : Int32))] [.int (115 : Int32)] m _
  refine w_p h_m218 8 (pc' := 28) (L' := [(0, .ref 143), (1, .ref 14), (2, .int (0 : Int32)), (3, .int (3 : Int32)), (4, .int (16 : Int32)), (5, .int (3 : Int32))]) (st' := [.ref 14, .int (19 : Int32)]) rfl ?_
  refine w_cv (H.te (by decide) rfl).1 (pc' := 31) (L' := [(0, .ref 143), (1, .ref 14), (2, .int (0 : Int32)), (3, .int (3 : Int32)), (4, .int (16 : Int32)), (5, .int (3 : Int32))]) (rest := [.int (19 : Int32)]) (Ps := []) (L0 := [(0, .ref 14)]) h_m218 (z_at.mk 3 rfl rfl) (Or.inl ⟨rfl, rfl⟩) rfl rfl (by decide) (by decide) rfl rfl rfl rfl rfl rfl (by decide) rfl rfl rfl ?_
  refine w_p h_m293 1 (pc' := 1) (L' := [(0, .ref 14)]) (st' := [.ref 14]) rfl ?_
  refine w_gs H (pc' := 4) (L' := [(0, .ref 14)]) h_m293 (z_at.mk 3 rfl rfl) rfl (by decide) rfl rfl rfl rfl ?_
  refine w_lene H (x := (36 : Int32)) (pc' := 5) (L' := [(0, .ref 14)]) h_m293 (z_at.mk 1 rfl rfl) (by decide) rfl (by decide) rfl rfl rfl ?_
  refine w_p h_m293 1 (pc' := 6) (L' := [(0, .ref 14)]) (st' := [.ref 14, .int (36 : Int32)]) rfl ?_
  refine w_cv (H.te (by decide) rfl).1 (pc' := 9) (L' := [(0, .ref 14)]) (rest := [.int (36 : Int32)]) (Ps := []) (L0 := [(0, .ref 14)]) h_m293 (z_at.mk 3 rfl rfl) (Or.inl ⟨rfl, rfl⟩) rfl rfl (by decide) (by decide) rfl rfl rfl rfl rfl rfl (by decide) rfl rfl rfl ?_
  refine w_p h_m298 3 (pc' := 7) (L' := [(0, .ref 14)]) (st' := [.ref 14]) rfl ?_
  refine w_gs H (pc' := 10) (L' := [(0, .ref 14)]) h_m298 (z_at.mk 3 rfl rfl) rfl (by decide) rfl rfl rfl rfl ?_
  refine w_p h_m298 1 (pc' := 14) (L' := []) (st' := [.int (0 : Int32)]) rfl ?_
  refine w_ri h_m298 (z_at.mk 1 rfl rfl) rfl rfl ?_
  show z_W 996 293 9 [(0, .ref 14)] [.int (0 : Int32), .int (36 : Int32)] m _
  refine w_p h_m293 1 (pc' := 10) (L' := [(0, .ref 14)]) (st' := [.int (36 : Int32)]) rfl ?_
  refine w_ri h_m293 (z_at.mk 1 rfl rfl) rfl rfl ?_
  show z_W 997 218 31 [(0, .ref 143), (1, .ref 14), (2, .int (0 : Int32)), (3, .int (3 : Int32)), (4, .int (16 : Int32)), (5, .int (3 : Int32))] [.int (36 : Int32), .int (19 : Int32)] m _
  refine w_p h_m218 5 (pc' := 40) (L' := [(0, .ref 143), (1, .ref 14), (2, .int (0 : Int32)), (3, .int (3 : Int32)), (4, .int (16 : Int32)), (5, .int (3 : Int32))]) (st' := [.int (19 : Int32), .ref 14]) rfl ?_
  refine w_cv (H.te (by decide) rfl).1 (pc' := 43) (L' := [(0, .ref 143), (1, .ref 14), (2, .int (0 : Int32)), (3, .int (3 : Int32)), (4, .int (16 : Int32)), (5, .int (3 : Int32))]) (rest := []) (Ps := [.int (19 : Int32)]) (L0 := [(0, .ref 14), (1, .int (19 : Int32))]) h_m218 (z_at.mk 3 rfl rfl) (Or.inl ⟨rfl, rfl⟩) rfl rfl (by decide) (by decide) rfl rfl rfl rfl rfl rfl (by decide) rfl rfl rfl ?_
  refine w_p h_m294 1 (pc' := 1) (L' := [(0, .ref 14), (1, .int (19 : Int32))]) (st' := [.ref 14]) rfl ?_
  refine w_cv (H.te (by decide) rfl).1 (pc' := 4) (L' := [(0, .ref 14), (1, .int (19 : Int32))]) (rest := []) (Ps := []) (L0 := [(0, .ref 14)]) h_m294 (z_at.mk 3 rfl rfl) (Or.inl ⟨rfl, rfl⟩) rfl rfl (by decide) (by decide) rfl rfl rfl rfl rfl rfl (by decide) rfl rfl rfl ?_
  refine w_p h_m299 3 (pc' := 7) (L' := [(0, .ref 14)]) (st' := [.ref 14]) rfl ?_
  refine w_gs H (pc' := 10) (L' := [(0, .ref 14)]) h_m299 (z_at.mk 3 rfl rfl) rfl (by decide) rfl rfl rfl rfl ?_
  refine w_p h_m299 3 (pc' := 18) (L' := []) (st' := [.int (1 : Int32)]) rfl ?_
  refine w_ri h_m299 (z_at.mk 1 rfl rfl) rfl rfl ?_
  show z_W 996 294 4 [(0, .ref 14), (1, .int (19 : Int32))] [.int (1 : Int32)] m _
  refine w_p h_m294 2 (pc' := 8) (L' := [(0, .ref 14), (1, .int (19 : Int32))]) (st' := [.ref 14]) rfl ?_
  refine w_gs H (pc' := 11) (L' := [(0, .ref 14), (1, .int (19 : Int32))]) h_m294 (z_at.mk 3 rfl rfl) rfl (by decide) rfl rfl rfl rfl ?_
  refine w_p h_m294 1 (pc' := 12) (L' := [(0, .ref 14), (1, .int (19 : Int32))]) (st' := [.int (19 : Int32), .ref 32]) rfl ?_
  refine w_cs (As := [.ref 32, .int (19 : Int32)]) (rest := []) (j := 308) (L0 := [(0, .ref 32), (1, .int (19 : Int32))]) (pc' := 15) (L' := [(0, .ref 14), (1, .int (19 : Int32))]) h_m294 (z_at.mk 3 rfl rfl) (Or.inl ⟨rfl, rfl⟩) rfl rfl rfl rfl rfl ?_
  refine w_p h_m308 2 (pc' := 2) (L' := [(0, .ref 32), (1, .int (19 : Int32))]) (st' := [.ref 32, .int (19 : Int32)]) rfl ?_
  refine w_lene H (x := (36 : Int32)) (pc' := 3) (L' := [(0, .ref 32), (1, .int (19 : Int32))]) h_m308 (z_at.mk 1 rfl rfl) (by decide) rfl (by decide) rfl rfl rfl ?_
  refine w_ci (pc' := 6) (L' := [(0, .ref 32), (1, .int (19 : Int32))]) h_m308 (z_at.mk 3 rfl rfl) rfl (z_cat_le 0 rfl (by decide)) ⟨by decide, by decide⟩ rfl rfl ?_
  refine w_p h_m308 2 (pc' := 8) (L' := [(0, .ref 32), (1, .int (19 : Int32))]) (st' := [.int (19 : Int32), .ref 32]) rfl ?_
  refine w_ae H (j := 19) (pc' := 9) (L' := [(0, .ref 32), (1, .int (19 : Int32))]) h_m308 (z_at.mk 1 rfl rfl) rfl rfl rfl (by decide) rfl (by decide) rfl rfl rfl ?_
  refine w_p h_m308 3 (pc' := 14) (L' := [(0, .ref 32), (1, .int (19 : Int32))]) (st' := [.int (116 : Int32)]) rfl ?_
  refine w_ri h_m308 (z_at.mk 1 rfl rfl) rfl rfl ?_
  show z_W 996 294 15 [(0, .ref 14), (1, .int (19 : Int32))] [.int (116 : Int32)] m _
  refine w_ri h_m294 (z_at.mk 1 rfl rfl) rfl rfl ?_
  show z_W 997 218 43 [(0, .ref 143), (1, .ref 14), (2, .int (0 : Int32)), (3, .int (3 : Int32)), (4, .int (16 : Int32)), (5, .int (3 : Int32))] [.int (116 : Int32)] m _
  refine w_p h_m218 8 (pc' := 28) (L' := [(0, .ref 143), (1, .ref 14), (2, .int (0 : Int32)), (3, .int (3 : Int32)), (4, .int (16 : Int32)), (5, .int (4 : Int32))]) (st' := [.ref 14, .int (20 : Int32)]) rfl ?_
  refine w_cv (H.te (by decide) rfl).1 (pc' := 31) (L' := [(0, .ref 143), (1, .ref 14), (2, .int (0 : Int32)), (3, .int (3 : Int32)), (4, .int (16 : Int32)), (5, .int (4 : Int32))]) (rest := [.int (20 : Int32)]) (Ps := []) (L0 := [(0, .ref 14)]) h_m218 (z_at.mk 3 rfl rfl) (Or.inl ⟨rfl, rfl⟩) rfl rfl (by decide) (by decide) rfl rfl rfl rfl rfl rfl (by decide) rfl rfl rfl ?_
  refine w_p h_m293 1 (pc' := 1) (L' := [(0, .ref 14)]) (st' := [.ref 14]) rfl ?_
  refine w_gs H (pc' := 4) (L' := [(0, .ref 14)]) h_m293 (z_at.mk 3 rfl rfl) rfl (by decide) rfl rfl rfl rfl ?_
  refine w_lene H (x := (36 : Int32)) (pc' := 5) (L' := [(0, .ref 14)]) h_m293 (z_at.mk 1 rfl rfl) (by decide) rfl (by decide) rfl rfl rfl ?_
  refine w_p h_m293 1 (pc' := 6) (L' := [(0, .ref 14)]) (st' := [.ref 14, .int (36 : Int32)]) rfl ?_
  refine w_cv (H.te (by decide) rfl).1 (pc' := 9) (L' := [(0, .ref 14)]) (rest := [.int (36 : Int32)]) (Ps := []) (L0 := [(0, .ref 14)]) h_m293 (z_at.mk 3 rfl rfl) (Or.inl ⟨rfl, rfl⟩) rfl rfl (by decide) (by decide) rfl rfl rfl rfl rfl rfl (by decide) rfl rfl rfl ?_
  refine w_p h_m298 3 (pc' := 7) (L' := [(0, .ref 14)]) (st' := [.ref 14]) rfl ?_
  refine w_gs H (pc' := 10) (L' := [(0, .ref 14)]) h_m298 (z_at.mk 3 rfl rfl) rfl (by decide) rfl rfl rfl rfl ?_
  refine w_p h_m298 1 (pc' := 14) (L' := []) (st' := [.int (0 : Int32)]) rfl ?_
  refine w_ri h_m298 (z_at.mk 1 rfl rfl) rfl rfl ?_
  show z_W 996 293 9 [(0, .ref 14)] [.int (0 : Int32), .int (36 : Int32)] m _
  refine w_p h_m293 1 (pc' := 10) (L' := [(0, .ref 14)]) (st' := [.int (36 : Int32)]) rfl ?_
  refine w_ri h_m293 (z_at.mk 1 rfl rfl) rfl rfl ?_
  show z_W 997 218 31 [(0, .ref 143), (1, .ref 14), (2, .int (0 : Int32)), (3, .int (3 : Int32)), (4, .int (16 : Int32)), (5, .int (4 : Int32))] [.int (36 : Int32), .int (20 : Int32)] m _
  refine w_p h_m218 5 (pc' := 40) (L' := [(0, .ref 143), (1, .ref 14), (2, .int (0 : Int32)), (3, .int (3 : Int32)), (4, .int (16 : Int32)), (5, .int (4 : Int32))]) (st' := [.int (20 : Int32), .ref 14]) rfl ?_
  refine w_cv (H.te (by decide) rfl).1 (pc' := 43) (L' := [(0, .ref 143), (1, .ref 14), (2, .int (0 : Int32)), (3, .int (3 : Int32)), (4, .int (16 : Int32)), (5, .int (4 : Int32))]) (rest := []) (Ps := [.int (20 : Int32)]) (L0 := [(0, .ref 14), (1, .int (20 : Int32))]) h_m218 (z_at.mk 3 rfl rfl) (Or.inl ⟨rfl, rfl⟩) rfl rfl (by decide) (by decide) rfl rfl rfl rfl rfl rfl (by decide) rfl rfl rfl ?_
  refine w_p h_m294 1 (pc' := 1) (L' := [(0, .ref 14), (1, .int (20 : Int32))]) (st' := [.ref 14]) rfl ?_
  refine w_cv (H.te (by decide) rfl).1 (pc' := 4) (L' := [(0, .ref 14), (1, .int (20 : Int32))]) (rest := []) (Ps := []) (L0 := [(0, .ref 14)]) h_m294 (z_at.mk 3 rfl rfl) (Or.inl ⟨rfl, rfl⟩) rfl rfl (by decide) (by decide) rfl rfl rfl rfl rfl rfl (by decide) rfl rfl rfl ?_
  refine w_p h_m299 3 (pc' := 7) (L' := [(0, .ref 14)]) (st' := [.ref 14]) rfl ?_
  refine w_gs H (pc' := 10) (L' := [(0, .ref 14)]) h_m299 (z_at.mk 3 rfl rfl) rfl (by decide) rfl rfl rfl rfl ?_
  refine w_p h_m299 3 (pc' := 18) (L' := []) (st' := [.int (1 : Int32)]) rfl ?_
  refine w_ri h_m299 (z_at.mk 1 rfl rfl) rfl rfl ?_
  show z_W 996 294 4 [(0, .ref 14), (1, .int (20 : Int32))] [.int (1 : Int32)] m _
  refine w_p h_m294 2 (pc' := 8) (L' := [(0, .ref 14), (1, .int (20 : Int32))]) (st' := [.ref 14]) rfl ?_
  refine w_gs H (pc' := 11) (L' := [(0, .ref 14), (1, .int (20 : Int32))]) h_m294 (z_at.mk 3 rfl rfl) rfl (by decide) rfl rfl rfl rfl ?_
  refine w_p h_m294 1 (pc' := 12) (L' := [(0, .ref 14), (1, .int (20 : Int32))]) (st' := [.int (20 : Int32), .ref 32]) rfl ?_
  refine w_cs (As := [.ref 32, .int (20 : Int32)]) (rest := []) (j := 308) (L0 := [(0, .ref 32), (1, .int (20 : Int32))]) (pc' := 15) (L' := [(0, .ref 14), (1, .int (20 : Int32))]) h_m294 (z_at.mk 3 rfl rfl) (Or.inl ⟨rfl, rfl⟩) rfl rfl rfl rfl rfl ?_
  refine w_p h_m308 2 (pc' := 2) (L' := [(0, .ref 32), (1, .int (20 : Int32))]) (st' := [.ref 32, .int (20 : Int32)]) rfl ?_
  refine w_lene H (x := (36 : Int32)) (pc' := 3) (L' := [(0, .ref 32), (1, .int (20 : Int32))]) h_m308 (z_at.mk 1 rfl rfl) (by decide) rfl (by decide) rfl rfl rfl ?_
  refine w_ci (pc' := 6) (L' := [(0, .ref 32), (1, .int (20 : Int32))]) h_m308 (z_at.mk 3 rfl rfl) rfl (z_cat_le 0 rfl (by decide)) ⟨by decide, by decide⟩ rfl rfl ?_
  refine w_p h_m308 2 (pc' := 8) (L' := [(0, .ref 32), (1, .int (20 : Int32))]) (st' := [.int (20 : Int32), .ref 32]) rfl ?_
  refine w_ae H (j := 20) (pc' := 9) (L' := [(0, .ref 32), (1, .int (20 : Int32))]) h_m308 (z_at.mk 1 rfl rfl) rfl rfl rfl (by decide) rfl (by decide) rfl rfl rfl ?_
  refine w_p h_m308 3 (pc' := 14) (L' := [(0, .ref 32), (1, .int (20 : Int32))]) (st' := [.int (32 : Int32)]) rfl ?_
  refine w_ri h_m308 (z_at.mk 1 rfl rfl) rfl rfl ?_
  show z_W 996 294 15 [(0, .ref 14), (1, .int (20 : Int32))] [.int (32 : Int32)] m _
  refine w_ri h_m294 (z_at.mk 1 rfl rfl) rfl rfl ?_
  show z_W 997 218 43 [(0, .ref 143), (1, .ref 14), (2, .int (0 : Int32)), (3, .int (3 : Int32)), (4, .int (16 : Int32)), (5, .int (4 : Int32))] [.int (32 : Int32)] m _
  refine w_p h_m218 5 (pc' := 58) (L' := [(0, .ref 143), (1, .ref 14), (2, .int (0 : Int32)), (3, .int (3 : Int32)), (4, .int (16 : Int32)), (5, .int (4 : Int32))]) (st' := [.ref 143, .int (0 : Int32), .int (4 : Int32)]) rfl ?_
  refine w_gf H (pc' := 61) (L' := [(0, .ref 143), (1, .ref 14), (2, .int (0 : Int32)), (3, .int (3 : Int32)), (4, .int (16 : Int32)), (5, .int (4 : Int32))]) h_m218 (z_at.mk 3 rfl rfl) rfl (u := .int (0 : Int32)) rfl rfl rfl ?_
  refine w_p h_m218 23 (pc' := 13) (L' := [(0, .ref 143), (1, .ref 14), (2, .int (0 : Int32)), (3, .int (4 : Int32)), (4, .int (21 : Int32))]) (st' := [.ref 14, .int (21 : Int32)]) rfl ?_
  refine w_cv (H.te (by decide) rfl).1 (pc' := 16) (L' := [(0, .ref 143), (1, .ref 14), (2, .int (0 : Int32)), (3, .int (4 : Int32)), (4, .int (21 : Int32))]) (rest := [.int (21 : Int32)]) (Ps := []) (L0 := [(0, .ref 14)]) h_m218 (z_at.mk 3 rfl rfl) (Or.inl ⟨rfl, rfl⟩) rfl rfl (by decide) (by decide) rfl rfl rfl rfl rfl rfl (by decide) rfl rfl rfl ?_
  refine w_p h_m293 1 (pc' := 1) (L' := [(0, .ref 14)]) (st' := [.ref 14]) rfl ?_
  refine w_gs H (pc' := 4) (L' := [(0, .ref 14)]) h_m293 (z_at.mk 3 rfl rfl) rfl (by decide) rfl rfl rfl rfl ?_
  refine w_lene H (x := (36 : Int32)) (pc' := 5) (L' := [(0, .ref 14)]) h_m293 (z_at.mk 1 rfl rfl) (by decide) rfl (by decide) rfl rfl rfl ?_
  refine w_p h_m293 1 (pc' := 6) (L' := [(0, .ref 14)]) (st' := [.ref 14, .int (36 : Int32)]) rfl ?_
  refine w_cv (H.te (by decide) rfl).1 (pc' := 9) (L' := [(0, .ref 14)]) (rest := [.int (36 : Int32)]) (Ps := []) (L0 := [(0, .ref 14)]) h_m293 (z_at.mk 3 rfl rfl) (Or.inl ⟨rfl, rfl⟩) rfl rfl (by decide) (by decide) rfl rfl rfl rfl rfl rfl (by decide) rfl rfl rfl ?_
  refine w_p h_m298 3 (pc' := 7) (L' := [(0, .ref 14)]) (st' := [.ref 14]) rfl ?_
  refine w_gs H (pc' := 10) (L' := [(0, .ref 14)]) h_m298 (z_at.mk 3 rfl rfl) rfl (by decide) rfl rfl rfl rfl ?_
  refine w_p h_m298 1 (pc' := 14) (L' := []) (st' := [.int (0 : Int32)]) rfl ?_
  refine w_ri h_m298 (z_at.mk 1 rfl rfl) rfl rfl ?_
  show z_W 996 293 9 [(0, .ref 14)] [.int (0 : Int32), .int (36 : Int32)] m _
  refine w_p h_m293 1 (pc' := 10) (L' := [(0, .ref 14)]) (st' := [.int (36 : Int32)]) rfl ?_
  refine w_ri h_m293 (z_at.mk 1 rfl rfl) rfl rfl ?_
  show z_W 997 218 16 [(0, .ref 143), (1, .ref 14), (2, .int (0 : Int32)), (3, .int (4 : Int32)), (4, .int (21 : Int32))] [.int (36 : Int32), .int (21 : Int32)] m _
  refine w_p h_m218 7 (pc' := 28) (L' := [(0, .ref 143), (1, .ref 14), (2, .int (0 : Int32)), (3, .int (4 : Int32)), (4, .int (21 : Int32)), (5, .int (0 : Int32))]) (st' := [.ref 14, .int (21 : Int32)]) rfl ?_
  refine w_cv (H.te (by decide) rfl).1 (pc' := 31) (L' := [(0, .ref 143), (1, .ref 14), (2, .int (0 : Int32)), (3, .int (4 : Int32)), (4, .int (21 : Int32)), (5, .int (0 : Int32))]) (rest := [.int (21 : Int32)]) (Ps := []) (L0 := [(0, .ref 14)]) h_m218 (z_at.mk 3 rfl rfl) (Or.inl ⟨rfl, rfl⟩) rfl rfl (by decide) (by decide) rfl rfl rfl rfl rfl rfl (by decide) rfl rfl rfl ?_
  refine w_p h_m293 1 (pc' := 1) (L' := [(0, .ref 14)]) (st' := [.ref 14]) rfl ?_
  refine w_gs H (pc' := 4) (L' := [(0, .ref 14)]) h_m293 (z_at.mk 3 rfl rfl) rfl (by decide) rfl rfl rfl rfl ?_
  refine w_lene H (x := (36 : Int32)) (pc' := 5) (L' := [(0, .ref 14)]) h_m293 (z_at.mk 1 rfl rfl) (by decide) rfl (by decide) rfl rfl rfl ?_
  refine w_p h_m293 1 (pc' := 6) (L' := [(0, .ref 14)]) (st' := [.ref 14, .int (36 : Int32)]) rfl ?_
  refine w_cv (H.te (by decide) rfl).1 (pc' := 9) (L' := [(0, .ref 14)]) (rest := [.int (36 : Int32)]) (Ps := []) (L0 := [(0, .ref 14)]) h_m293 (z_at.mk 3 rfl rfl) (Or.inl ⟨rfl, rfl⟩) rfl rfl (by decide) (by decide) rfl rfl rfl rfl rfl rfl (by decide) rfl rfl rfl ?_
  refine w_p h_m298 3 (pc' := 7) (L' := [(0, .ref 14)]) (st' := [.ref 14]) rfl ?_
  refine w_gs H (pc' := 10) (L' := [(0, .ref 14)]) h_m298 (z_at.mk 3 rfl rfl) rfl (by decide) rfl rfl rfl rfl ?_
  refine w_p h_m298 1 (pc' := 14) (L' := []) (st' := [.int (0 : Int32)]) rfl ?_
  refine w_ri h_m298 (z_at.mk 1 rfl rfl) rfl rfl ?_
  show z_W 996 293 9 [(0, .ref 14)] [.int (0 : Int32), .int (36 : Int32)] m _
  refine w_p h_m293 1 (pc' := 10) (L' := [(0, .ref 14)]) (st' := [.int (36 : Int32)]) rfl ?_
  refine w_ri h_m293 (z_at.mk 1 rfl rfl) rfl rfl ?_
  show z_W 997 218 31 [(0, .ref 143), (1, .ref 14), (2, .int (0 : Int32)), (3, .int (4 : Int32)), (4, .int (21 : Int32)), (5, .int (0 : Int32))] [.int (36 : Int32), .int (21 : Int32)] m _
  refine w_p h_m218 5 (pc' := 40) (L' := [(0, .ref 143), (1, .ref 14), (2, .int (0 : Int32)), (3, .int (4 : Int32)), (4, .int (21 : Int32)), (5, .int (0 : Int32))]) (st' := [.int (21 : Int32), .ref 14]) rfl ?_
  refine w_cv (H.te (by decide) rfl).1 (pc' := 43) (L' := [(0, .ref 143), (1, .ref 14), (2, .int (0 : Int32)), (3, .int (4 : Int32)), (4, .int (21 : Int32)), (5, .int (0 : Int32))]) (rest := []) (Ps := [.int (21 : Int32)]) (L0 := [(0, .ref 14), (1, .int (21 : Int32))]) h_m218 (z_at.mk 3 rfl rfl) (Or.inl ⟨rfl, rfl⟩) rfl rfl (by decide) (by decide) rfl rfl rfl rfl rfl rfl (by decide) rfl rfl rfl ?_
  refine w_p h_m294 1 (pc' := 1) (L' := [(0, .ref 14), (1, .int (21 : Int32))]) (st' := [.ref 14]) rfl ?_
  refine w_cv (H.te (by decide) rfl).1 (pc' := 4) (L' := [(0, .ref 14), (1, .int (21 : Int32))]) (rest := []) (Ps := []) (L0 := [(0, .ref 14)]) h_m294 (z_at.mk 3 rfl rfl) (Or.inl ⟨rfl, rfl⟩) rfl rfl (by decide) (by decide) rfl rfl rfl rfl rfl rfl (by decide) rfl rfl rfl ?_
  refine w_p h_m299 3 (pc' := 7) (L' := [(0, .ref 14)]) (st' := [.ref 14]) rfl ?_
  refine w_gs H (pc' := 10) (L' := [(0, .ref 14)]) h_m299 (z_at.mk 3 rfl rfl) rfl (by decide) rfl rfl rfl rfl ?_
  refine w_p h_m299 3 (pc' := 18) (L' := []) (st' := [.int (1 : Int32)]) rfl ?_
  refine w_ri h_m299 (z_at.mk 1 rfl rfl) rfl rfl ?_
  show z_W 996 294 4 [(0, .ref 14), (1, .int (21 : Int32))] [.int (1 : Int32)] m _
  refine w_p h_m294 2 (pc' := 8) (L' := [(0, .ref 14), (1, .int (21 : Int32))]) (st' := [.ref 14]) rfl ?_
  refine w_gs H (pc' := 11) (L' := [(0, .ref 14), (1, .int (21 : Int32))]) h_m294 (z_at.mk 3 rfl rfl) rfl (by decide) rfl rfl rfl rfl ?_
  refine w_p h_m294 1 (pc' := 12) (L' := [(0, .ref 14), (1, .int (21 : Int32))]) (st' := [.int (21 : Int32), .ref 32]) rfl ?_
  refine w_cs (As := [.ref 32, .int (21 : Int32)]) (rest := []) (j := 308) (L0 := [(0, .ref 32), (1, .int (21 : Int32))]) (pc' := 15) (L' := [(0, .ref 14), (1, .int (21 : Int32))]) h_m294 (z_at.mk 3 rfl rfl) (Or.inl ⟨rfl, rfl⟩) rfl rfl rfl rfl rfl ?_
  refine w_p h_m308 2 (pc' := 2) (L' := [(0, .ref 32), (1, .int (21 : Int32))]) (st' := [.ref 32, .int (21 : Int32)]) rfl ?_
  refine w_lene H (x := (36 : Int32)) (pc' := 3) (L' := [(0, .ref 32), (1, .int (21 : Int32))]) h_m308 (z_at.mk 1 rfl rfl) (by decide) rfl (by decide) rfl rfl rfl ?_
  refine w_ci (pc' := 6) (L' := [(0, .ref 32), (1, .int (21 : Int32))]) h_m308 (z_at.mk 3 rfl rfl) rfl (z_cat_le 0 rfl (by decide)) ⟨by decide, by decide⟩ rfl rfl ?_
  refine w_p h_m308 2 (pc' := 8) (L' := [(0, .ref 32), (1, .int (21 : Int32))]) (st' := [.int (21 : Int32), .ref 32]) rfl ?_
  refine w_ae H (j := 21) (pc' := 9) (L' := [(0, .ref 32), (1, .int (21 : Int32))]) h_m308 (z_at.mk 1 rfl rfl) rfl rfl rfl (by decide) rfl (by decide) rfl rfl rfl ?_
  refine w_p h_m308 3 (pc' := 14) (L' := [(0, .ref 32), (1, .int (21 : Int32))]) (st' := [.int (109 : Int32)]) rfl ?_
  refine w_ri h_m308 (z_at.mk 1 rfl rfl) rfl rfl ?_
  show z_W 996 294 15 [(0, .ref 14), (1, .int (21 : Int32))] [.int (109 : Int32)] m _
  refine w_ri h_m294 (z_at.mk 1 rfl rfl) rfl rfl ?_
  show z_W 997 218 43 [(0, .ref 143), (1, .ref 14), (2, .int (0 : Int32)), (3, .int (4 : Int32)), (4, .int (21 : Int32)), (5, .int (0 : Int32))] [.int (109 : Int32)] m _
  refine w_p h_m218 8 (pc' := 28) (L' := [(0, .ref 143), (1, .ref 14), (2, .int (0 : Int32)), (3, .int (4 : Int32)), (4, .int (21 : Int32)), (5, .int (1 : Int32))]) (st' := [.ref 14, .int (22 : Int32)]) rfl ?_
  refine w_cv (H.te (by decide) rfl).1 (pc' := 31) (L' := [(0, .ref 143), (1, .ref 14), (2, .int (0 : Int32)), (3, .int (4 : Int32)), (4, .int (21 : Int32)), (5, .int (1 : Int32))]) (rest := [.int (22 : Int32)]) (Ps := []) (L0 := [(0, .ref 14)]) h_m218 (z_at.mk 3 rfl rfl) (Or.inl ⟨rfl, rfl⟩) rfl rfl (by decide) (by decide) rfl rfl rfl rfl rfl rfl (by decide) rfl rfl rfl ?_
  refine w_p h_m293 1 (pc' := 1) (L' := [(0, .ref 14)]) (st' := [.ref 14]) rfl ?_
  refine w_gs H (pc' := 4) (L' := [(0, .ref 14)]) h_m293 (z_at.mk 3 rfl rfl) rfl (by decide) rfl rfl rfl rfl ?_
  refine w_lene H (x := (36 : Int32)) (pc' := 5) (L' := [(0, .ref 14)]) h_m293 (z_at.mk 1 rfl rfl) (by decide) rfl (by decide) rfl rfl rfl ?_
  refine w_p h_m293 1 (pc' := 6) (L' := [(0, .ref 14)]) (st' := [.ref 14, .int (36 : Int32)]) rfl ?_
  refine w_cv (H.te (by decide) rfl).1 (pc' := 9) (L' := [(0, .ref 14)]) (rest := [.int (36 : Int32)]) (Ps := []) (L0 := [(0, .ref 14)]) h_m293 (z_at.mk 3 rfl rfl) (Or.inl ⟨rfl, rfl⟩) rfl rfl (by decide) (by decide) rfl rfl rfl rfl rfl rfl (by decide) rfl rfl rfl ?_
  refine w_p h_m298 3 (pc' := 7) (L' := [(0, .ref 14)]) (st' := [.ref 14]) rfl ?_
  refine w_gs H (pc' := 10) (L' := [(0, .ref 14)]) h_m298 (z_at.mk 3 rfl rfl) rfl (by decide) rfl rfl rfl rfl ?_
  refine w_p h_m298 1 (pc' := 14) (L' := []) (st' := [.int (0 : Int32)]) rfl ?_
  refine w_ri h_m298 (z_at.mk 1 rfl rfl) rfl rfl ?_
  show z_W 996 293 9 [(0, .ref 14)] [.int (0 : Int32), .int (36 : Int32)] m _
  refine w_p h_m293 1 (pc' := 10) (L' := [(0, .ref 14)]) (st' := [.int (36 : Int32)]) rfl ?_
  refine w_ri h_m293 (z_at.mk 1 rfl rfl) rfl rfl ?_
  show z_W 997 218 31 [(0, .ref 143), (1, .ref 14), (2, .int (0 : Int32)), (3, .int (4 : Int32)), (4, .int (21 : Int32)), (5, .int (1 : Int32))] [.int (36 : Int32), .int (22 : Int32)] m _
  refine w_p h_m218 5 (pc' := 40) (L' := [(0, .ref 143), (1, .ref 14), (2, .int (0 : Int32)), (3, .int (4 : Int32)), (4, .int (21 : Int32)), (5, .int (1 : Int32))]) (st' := [.int (22 : Int32), .ref 14]) rfl ?_
  refine w_cv (H.te (by decide) rfl).1 (pc' := 43) (L' := [(0, .ref 143), (1, .ref 14), (2, .int (0 : Int32)), (3, .int (4 : Int32)), (4, .int (21 : Int32)), (5, .int (1 : Int32))]) (rest := []) (Ps := [.int (22 : Int32)]) (L0 := [(0, .ref 14), (1, .int (22 : Int32))]) h_m218 (z_at.mk 3 rfl rfl) (Or.inl ⟨rfl, rfl⟩) rfl rfl (by decide) (by decide) rfl rfl rfl rfl rfl rfl (by decide) rfl rfl rfl ?_
  refine w_p h_m294 1 (pc' := 1) (L' := [(0, .ref 14), (1, .int (22 : Int32))]) (st' := [.ref 14]) rfl ?_
  refine w_cv (H.te (by decide) rfl).1 (pc' := 4) (L' := [(0, .ref 14), (1, .int (22 : Int32))]) (rest := []) (Ps := []) (L0 := [(0, .ref 14)]) h_m294 (z_at.mk 3 rfl rfl) (Or.inl ⟨rfl, rfl⟩) rfl rfl (by decide) (by decide) rfl rfl rfl rfl rfl rfl (by decide) rfl rfl rfl ?_
  refine w_p h_m299 3 (pc' := 7) (L' := [(0, .ref 14)]) (st' := [.ref 14]) rfl ?_
  refine w_gs H (pc' := 10) (L' := [(0, .ref 14)]) h_m299 (z_at.mk 3 rfl rfl) rfl (by decide) rfl rfl rfl rfl ?_
  refine w_p h_m299 3 (pc' := 18) (L' := []) (st' := [.int (1 : Int32)]) rfl ?_
  refine w_ri h_m299 (z_at.mk 1 rfl rfl) rfl rfl ?_
  show z_W 996 294 4 [(0, .ref 14), (1, .int (22 : Int32))] [.int (1 : Int32)] m _
  refine w_p h_m294 2 (pc' := 8) (L' := [(0, .ref 14), (1, .int (22 : Int32))]) (st' := [.ref 14]) rfl ?_
  refine w_gs H (pc' := 11) (L' := [(0, .ref 14), (1, .int (22 : Int32))]) h_m294 (z_at.mk 3 rfl rfl) rfl (by decide) rfl rfl rfl rfl ?_
  refine w_p h_m294 1 (pc' := 12) (L' := [(0, .ref 14), (1, .int (22 : Int32))]) (st' := [.int (22 : Int32), .ref 32]) rfl ?_
  refine w_cs (As := [.ref 32, .int (22 : Int32)]) (rest := []) (j := 308) (L0 := [(0, .ref 32), (1, .int (22 : Int32))]) (pc' := 15) (L' := [(0, .ref 14), (1, .int (22 : Int32))]) h_m294 (z_at.mk 3 rfl rfl) (Or.inl ⟨rfl, rfl⟩) rfl rfl rfl rfl rfl ?_
  refine w_p h_m308 2 (pc' := 2) (L' := [(0, .ref 32), (1, .int (22 : Int32))]) (st' := [.ref 32, .int (22 : Int32)]) rfl ?_
  refine w_lene H (x := (36 : Int32)) (pc' := 3) (L' := [(0, .ref 32), (1, .int (22 : Int32))]) h_m308 (z_at.mk 1 rfl rfl) (by decide) rfl (by decide) rfl rfl rfl ?_
  refine w_ci (pc' := 6) (L' := [(0, .ref 32), (1, .int (22 : Int32))]) h_m308 (z_at.mk 3 rfl rfl) rfl (z_cat_le 0 rfl (by decide)) ⟨by decide, by decide⟩ rfl rfl ?_
  refine w_p h_m308 2 (pc' := 8) (L' := [(0, .ref 32), (1, .int (22 : Int32))]) (st' := [.int (22 : Int32), .ref 32]) rfl ?_
  refine w_ae H (j := 22) (pc' := 9) (L' := [(0, .ref 32), (1, .int (22 : Int32))]) h_m308 (z_at.mk 1 rfl rfl) rfl rfl rfl (by decide) rfl (by decide) rfl rfl rfl ?_
  refine w_p h_m308 3 (pc' := 14) (L' := [(0, .ref 32), (1, .int (22 : Int32))]) (st' := [.int (101 : Int32)]) rfl ?_
  refine w_ri h_m308 (z_at.mk 1 rfl rfl) rfl rfl ?_
  show z_W 996 294 15 [(0, .ref 14), (1, .int (22 : Int32))] [.int (101 : Int32)] m _
  refine w_ri h_m294 (z_at.mk 1 rfl rfl) rfl rfl ?_
  show z_W 997 218 43 [(0, .ref 143), (1, .ref 14), (2, .int (0 : Int32)), (3, .int (4 : Int32)), (4, .int (21 : Int32)), (5, .int (1 : Int32))] [.int (101 : Int32)] m _
  refine w_p h_m218 8 (pc' := 28) (L' := [(0, .ref 143), (1, .ref 14), (2, .int (0 : Int32)), (3, .int (4 : Int32)), (4, .int (21 : Int32)), (5, .int (2 : Int32))]) (st' := [.ref 14, .int (23 : Int32)]) rfl ?_
  refine w_cv (H.te (by decide) rfl).1 (pc' := 31) (L' := [(0, .ref 143), (1, .ref 14), (2, .int (0 : Int32)), (3, .int (4 : Int32)), (4, .int (21 : Int32)), (5, .int (2 : Int32))]) (rest := [.int (23 : Int32)]) (Ps := []) (L0 := [(0, .ref 14)]) h_m218 (z_at.mk 3 rfl rfl) (Or.inl ⟨rfl, rfl⟩) rfl rfl (by decide) (by decide) rfl rfl rfl rfl rfl rfl (by decide) rfl rfl rfl ?_
  refine w_p h_m293 1 (pc' := 1) (L' := [(0, .ref 14)]) (st' := [.ref 14]) rfl ?_
  refine w_gs H (pc' := 4) (L' := [(0, .ref 14)]) h_m293 (z_at.mk 3 rfl rfl) rfl (by decide) rfl rfl rfl rfl ?_
  refine w_lene H (x := (36 : Int32)) (pc' := 5) (L' := [(0, .ref 14)]) h_m293 (z_at.mk 1 rfl rfl) (by decide) rfl (by decide) rfl rfl rfl ?_
  refine w_p h_m293 1 (pc' := 6) (L' := [(0, .ref 14)]) (st' := [.ref 14, .int (36 : Int32)]) rfl ?_
  refine w_cv (H.te (by decide) rfl).1 (pc' := 9) (L' := [(0, .ref 14)]) (rest := [.int (36 : Int32)]) (Ps := []) (L0 := [(0, .ref 14)]) h_m293 (z_at.mk 3 rfl rfl) (Or.inl ⟨rfl, rfl⟩) rfl rfl (by decide) (by decide) rfl rfl rfl rfl rfl rfl (by decide) rfl rfl rfl ?_
  refine w_p h_m298 3 (pc' := 7) (L' := [(0, .ref 14)]) (st' := [.ref 14]) rfl ?_
  refine w_gs H (pc' := 10) (L' := [(0, .ref 14)]) h_m298 (z_at.mk 3 rfl rfl) rfl (by decide) rfl rfl rfl rfl ?_
  refine w_p h_m298 1 (pc' := 14) (L' := []) (st' := [.int (0 : Int32)]) rfl ?_
  refine w_ri h_m298 (z_at.mk 1 rfl rfl) rfl rfl ?_
  show z_W 996 293 9 [(0, .ref 14)] [.int (0 : Int32), .int (36 : Int32)] m _
  refine w_p h_m293 1 (pc' := 10) (L' := [(0, .ref 14)]) (st' := [.int (36 : Int32)]) rfl ?_
  refine w_ri h_m293 (z_at.mk 1 rfl rfl) rfl rfl ?_
  show z_W 997 218 31 [(0, .ref 143), (1, .ref 14), (2, .int (0 : Int32)), (3, .int (4 : Int32)), (4, .int (21 : Int32)), (5, .int (2 : Int32))] [.int (36 : Int32), .int (23 : Int32)] m _
  refine w_p h_m218 5 (pc' := 40) (L' := [(0, .ref 143), (1, .ref 14), (2, .int (0 : Int32)), (3, .int (4 : Int32)), (4, .int (21 : Int32)), (5, .int (2 : Int32))]) (st' := [.int (23 : Int32), .ref 14]) rfl ?_
  refine w_cv (H.te (by decide) rfl).1 (pc' := 43) (L' := [(0, .ref 143), (1, .ref 14), (2, .int (0 : Int32)), (3, .int (4 : Int32)), (4, .int (21 : Int32)), (5, .int (2 : Int32))]) (rest := []) (Ps := [.int (23 : Int32)]) (L0 := [(0, .ref 14), (1, .int (23 : Int32))]) h_m218 (z_at.mk 3 rfl rfl) (Or.inl ⟨rfl, rfl⟩) rfl rfl (by decide) (by decide) rfl rfl rfl rfl rfl rfl (by decide) rfl rfl rfl ?_
  refine w_p h_m294 1 (pc' := 1) (L' := [(0, .ref 14), (1, .int (23 : Int32))]) (st' := [.ref 14]) rfl ?_
  refine w_cv (H.te (by decide) rfl).1 (pc' := 4) (L' := [(0, .ref 14), (1, .int (23 : Int32))]) (rest := []) (Ps := []) (L0 := [(0, .ref 14)]) h_m294 (z_at.mk 3 rfl rfl) (Or.inl ⟨rfl, rfl⟩) rfl rfl (by decide) (by decide) rfl rfl rfl rfl rfl rfl (by decide) rfl rfl rfl ?_
  refine w_p h_m299 3 (pc' := 7) (L' := [(0, .ref 14)]) (st' := [.ref 14]) rfl ?_
  refine w_gs H (pc' := 10) (L' := [(0, .ref 14)]) h_m299 (z_at.mk 3 rfl rfl) rfl (by decide) rfl rfl rfl rfl ?_
  refine w_p h_m299 3 (pc' := 18) (L' := []) (st' := [.int (1 : Int32)]) rfl ?_
  refine w_ri h_m299 (z_at.mk 1 rfl rfl) rfl rfl ?_
  show z_W 996 294 4 [(0, .ref 14), (1, .int (23 : Int32))] [.int (1 : Int32)] m _
  refine w_p h_m294 2 (pc' := 8) (L' := [(0, .ref 14), (1, .int (23 : Int32))]) (st' := [.ref 14]) rfl ?_
  refine w_gs H (pc' := 11) (L' := [(0, .ref 14), (1, .int (23 : Int32))]) h_m294 (z_at.mk 3 rfl rfl) rfl (by decide) rfl rfl rfl rfl ?_
  refine w_p h_m294 1 (pc' := 12) (L' := [(0, .ref 14), (1, .int (23 : Int32))]) (st' := [.int (23 : Int32), .ref 32]) rfl ?_
  refine w_cs (As := [.ref 32, .int (23 : Int32)]) (rest := []) (j := 308) (L0 := [(0, .ref 32), (1, .int (23 : Int32))]) (pc' := 15) (L' := [(0, .ref 14), (1, .int (23 : Int32))]) h_m294 (z_at.mk 3 rfl rfl) (Or.inl ⟨rfl, rfl⟩) rfl rfl rfl rfl rfl ?_
  refine w_p h_m308 2 (pc' := 2) (L' := [(0, .ref 32), (1, .int (23 : Int32))]) (st' := [.ref 32, .int (23 : Int32)]) rfl ?_
  refine w_lene H (x := (36 : Int32)) (pc' := 3) (L' := [(0, .ref 32), (1, .int (23 : Int32))]) h_m308 (z_at.mk 1 rfl rfl) (by decide) rfl (by decide) rfl rfl rfl ?_
  refine w_ci (pc' := 6) (L' := [(0, .ref 32), (1, .int (23 : Int32))]) h_m308 (z_at.mk 3 rfl rfl) rfl (z_cat_le 0 rfl (by decide)) ⟨by decide, by decide⟩ rfl rfl ?_
  refine w_p h_m308 2 (pc' := 8) (L' := [(0, .ref 32), (1, .int (23 : Int32))]) (st' := [.int (23 : Int32), .ref 32]) rfl ?_
  refine w_ae H (j := 23) (pc' := 9) (L' := [(0, .ref 32), (1, .int (23 : Int32))]) h_m308 (z_at.mk 1 rfl rfl) rfl rfl rfl (by decide) rfl (by decide) rfl rfl rfl ?_
  refine w_p h_m308 3 (pc' := 14) (L' := [(0, .ref 32), (1, .int (23 : Int32))]) (st' := [.int (97 : Int32)]) rfl ?_
  refine w_ri h_m308 (z_at.mk 1 rfl rfl) rfl rfl ?_
  show z_W 996 294 15 [(0, .ref 14), (1, .int (23 : Int32))] [.int (97 : Int32)] m _
  refine w_ri h_m294 (z_at.mk 1 rfl rfl) rfl rfl ?_
  show z_W 997 218 43 [(0, .ref 143), (1, .ref 14), (2, .int (0 : Int32)), (3, .int (4 : Int32)), (4, .int (21 : Int32)), (5, .int (2 : Int32))] [.int (97 : Int32)] m _
  refine w_p h_m218 8 (pc' := 28) (L' := [(0, .ref 143), (1, .ref 14), (2, .int (0 : Int32)), (3, .int (4 : Int32)), (4, .int (21 : Int32)), (5, .int (3 : Int32))]) (st' := [.ref 14, .int (24 : Int32)]) rfl ?_
  refine w_cv (H.te (by decide) rfl).1 (pc' := 31) (L' := [(0, .ref 143), (1, .ref 14), (2, .int (0 : Int32)), (3, .int (4 : Int32)), (4, .int (21 : Int32)), (5, .int (3 : Int32))]) (rest := [.int (24 : Int32)]) (Ps := []) (L0 := [(0, .ref 14)]) h_m218 (z_at.mk 3 rfl rfl) (Or.inl ⟨rfl, rfl⟩) rfl rfl (by decide) (by decide) rfl rfl rfl rfl rfl rfl (by decide) rfl rfl rfl ?_
  refine w_p h_m293 1 (pc' := 1) (L' := [(0, .ref 14)]) (st' := [.ref 14]) rfl ?_
  refine w_gs H (pc' := 4) (L' := [(0, .ref 14)]) h_m293 (z_at.mk 3 rfl rfl) rfl (by decide) rfl rfl rfl rfl ?_
  refine w_lene H (x := (36 : Int32)) (pc' := 5) (L' := [(0, .ref 14)]) h_m293 (z_at.mk 1 rfl rfl) (by decide) rfl (by decide) rfl rfl rfl ?_
  refine w_p h_m293 1 (pc' := 6) (L' := [(0, .ref 14)]) (st' := [.ref 14, .int (36 : Int32)]) rfl ?_
  refine w_cv (H.te (by decide) rfl).1 (pc' := 9) (L' := [(0, .ref 14)]) (rest := [.int (36 : Int32)]) (Ps := []) (L0 := [(0, .ref 14)]) h_m293 (z_at.mk 3 rfl rfl) (Or.inl ⟨rfl, rfl⟩) rfl rfl (by decide) (by decide) rfl rfl rfl rfl rfl rfl (by decide) rfl rfl rfl ?_
  refine w_p h_m298 3 (pc' := 7) (L' := [(0, .ref 14)]) (st' := [.ref 14]) rfl ?_
  refine w_gs H (pc' := 10) (L' := [(0, .ref 14)]) h_m298 (z_at.mk 3 rfl rfl) rfl (by decide) rfl rfl rfl rfl ?_
  refine w_p h_m298 1 (pc' := 14) (L' := []) (st' := [.int (0 : Int32)]) rfl ?_
  refine w_ri h_m298 (z_at.mk 1 rfl rfl) rfl rfl ?_
  show z_W 996 293 9 [(0, .ref 14)] [.int (0 : Int32), .int (36 : Int32)] m _
  refine w_p h_m293 1 (pc' := 10) (L' := [(0, .ref 14)]) (st' := [.int (36 : Int32)]) rfl ?_
  refine w_ri h_m293 (z_at.mk 1 rfl rfl) rfl rfl ?_
  show z_W 997 218 31 [(0, .ref 143), (1, .ref 14), (2, .int (0 : Int32)), (3, .int (4 : Int32)), (4, .int (21 : Int32)), (5, .int (3 : Int32))] [.int (36 : Int32), .int (24 : Int32)] m _
  refine w_p h_m218 5 (pc' := 40) (L' := [(0, .ref 143), (1, .ref 14), (2, .int (0 : Int32)), (3, .int (4 : Int32)), (4, .int (21 : Int32)), (5, .int (3 : Int32))]) (st' := [.int (24 : Int32), .ref 14]) rfl ?_
  refine w_cv (H.te (by decide) rfl).1 (pc' := 43) (L' := [(0, .ref 143), (1, .ref 14), (2, .int (0 : Int32)), (3, .int (4 : Int32)), (4, .int (21 : Int32)), (5, .int (3 : Int32))]) (rest := []) (Ps := [.int (24 : Int32)]) (L0 := [(0, .ref 14), (1, .int (24 : Int32))]) h_m218 (z_at.mk 3 rfl rfl) (Or.inl ⟨rfl, rfl⟩) rfl rfl (by decide) (by decide) rfl rfl rfl rfl rfl rfl (by decide) rfl rfl rfl ?_
  refine w_p h_m294 1 (pc' := 1) (L' := [(0, .ref 14), (1, .int (24 : Int32))]) (st' := [.ref 14]) rfl ?_
  refine w_cv (H.te (by decide) rfl).1 (pc' := 4) (L' := [(0, .ref 14), (1, .int (24 : Int32))]) (rest := []) (Ps := []) (L0 := [(0, .ref 14)]) h_m294 (z_at.mk 3 rfl rfl) (Or.inl ⟨rfl, rfl⟩) rfl rfl (by decide) (by decide) rfl rfl rfl rfl rfl rfl (by decide) rfl rfl rfl ?_
  refine w_p h_m299 3 (pc' := 7) (L' := [(0, .ref 14)]) (st' := [.ref 14]) rfl ?_
  refine w_gs H (pc' := 10) (L' := [(0, .ref 14)]) h_m299 (z_at.mk 3 rfl rfl) rfl (by decide) rfl rfl rfl rfl ?_
  refine w_p h_m299 3 (pc' := 18) (L' := []) (st' := [.int (1 : Int32)]) rfl ?_
  refine w_ri h_m299 (z_at.mk 1 rfl rfl) rfl rfl ?_
  show z_W 996 294 4 [(0, .ref 14), (1, .int (24 : Int32))] [.int (1 : Int32)] m _
  refine w_p h_m294 2 (pc' := 8) (L' := [(0, .ref 14), (1, .int (24 : Int32))]) (st' := [.ref 14]) rfl ?_
  refine w_gs H (pc' := 11) (L' := [(0, .ref 14), (1, .int (24 : Int32))]) h_m294 (z_at.mk 3 rfl rfl) rfl (by decide) rfl rfl rfl rfl ?_
  refine w_p h_m294 1 (pc' := 12) (L' := [(0, .ref 14), (1, .int (24 : Int32))]) (st' := [.int (24 : Int32), .ref 32]) rfl ?_
  refine w_cs (As := [.ref 32, .int (24 : Int32)]) (rest := []) (j := 308) (L0 := [(0, .ref 32), (1, .int (24 : Int32))]) (pc' := 15) (L' := [(0, .ref 14), (1, .int (24 : Int32))]) h_m294 (z_at.mk 3 rfl rfl) (Or.inl ⟨rfl, rfl⟩) rfl rfl rfl rfl rfl ?_
  refine w_p h_m308 2 (pc' := 2) (L' := [(0, .ref 32), (1, .int (24 : Int32))]) (st' := [.ref 32, .int (24 : Int32)]) rfl ?_
  refine w_lene H (x := (36 : Int32)) (pc' := 3) (L' := [(0, .ref 32), (1, .int (24 : Int32))]) h_m308 (z_at.mk 1 rfl rfl) (by decide) rfl (by decide) rfl rfl rfl ?_
  refine w_ci (pc' := 6) (L' := [(0, .ref 32), (1, .int (24 : Int32))]) h_m308 (z_at.mk 3 rfl rfl) rfl (z_cat_le 0 rfl (by decide)) ⟨by decide, by decide⟩ rfl rfl ?_
  refine w_p h_m308 2 (pc' := 8) (L' := [(0, .ref 32), (1, .int (24 : Int32))]) (st' := [.int (24 : Int32), .ref 32]) rfl ?_
  refine w_ae H (j := 24) (pc' := 9) (L' := [(0, .ref 32), (1, .int (24 : Int32))]) h_m308 (z_at.mk 1 rfl rfl) rfl rfl rfl (by decide) rfl (by decide) rfl rfl rfl ?_
  refine w_p h_m308 3 (pc' := 14) (L' := [(0, .ref 32), (1, .int (24 : Int32))]) (st' := [.int (110 : Int32)]) rfl ?_
  refine w_ri h_m308 (z_at.mk 1 rfl rfl) rfl rfl ?_
  show z_W 996 294 15 [(0, .ref 14), (1, .int (24 : Int32))] [.int (110 : Int32)] m _
  refine w_ri h_m294 (z_at.mk 1 rfl rfl) rfl rfl ?_
  show z_W 997 218 43 [(0, .ref 143), (1, .ref 14), (2, .int (0 : Int32)), (3, .int (4 : Int32)), (4, .int (21 : Int32)), (5, .int (3 : Int32))] [.int (110 : Int32)] m _
  refine w_p h_m218 8 (pc' := 28) (L' := [(0, .ref 143), (1, .ref 14), (2, .int (0 : Int32)), (3, .int (4 : Int32)), (4, .int (21 : Int32)), (5, .int (4 : Int32))]) (st' := [.ref 14, .int (25 : Int32)]) rfl ?_
  refine w_cv (H.te (by decide) rfl).1 (pc' := 31) (L' := [(0, .ref 143), (1, .ref 14), (2, .int (0 : Int32)), (3, .int (4 : Int32)), (4, .int (21 : Int32)), (5, .int (4 : Int32))]) (rest := [.int (25 : Int32)]) (Ps := []) (L0 := [(0, .ref 14)]) h_m218 (z_at.mk 3 rfl rfl) (Or.inl ⟨rfl, rfl⟩) rfl rfl (by decide) (by decide) rfl rfl rfl rfl rfl rfl (by decide) rfl rfl rfl ?_
  refine w_p h_m293 1 (pc' := 1) (L' := [(0, .ref 14)]) (st' := [.ref 14]) rfl ?_
  refine w_gs H (pc' := 4) (L' := [(0, .ref 14)]) h_m293 (z_at.mk 3 rfl rfl) rfl (by decide) rfl rfl rfl rfl ?_
  refine w_lene H (x := (36 : Int32)) (pc' := 5) (L' := [(0, .ref 14)]) h_m293 (z_at.mk 1 rfl rfl) (by decide) rfl (by decide) rfl rfl rfl ?_
  refine w_p h_m293 1 (pc' := 6) (L' := [(0, .ref 14)]) (st' := [.ref 14, .int (36 : Int32)]) rfl ?_
  refine w_cv (H.te (by decide) rfl).1 (pc' := 9) (L' := [(0, .ref 14)]) (rest := [.int (36 : Int32)]) (Ps := []) (L0 := [(0, .ref 14)]) h_m293 (z_at.mk 3 rfl rfl) (Or.inl ⟨rfl, rfl⟩) rfl rfl (by decide) (by decide) rfl rfl rfl rfl rfl rfl (by decide) rfl rfl rfl ?_
  refine w_p h_m298 3 (pc' := 7) (L' := [(0, .ref 14)]) (st' := [.ref 14]) rfl ?_
  refine w_gs H (pc' := 10) (L' := [(0, .ref 14)]) h_m298 (z_at.mk 3 rfl rfl) rfl (by decide) rfl rfl rfl rfl ?_
  refine w_p h_m298 1 (pc' := 14) (L' := []) (st' := [.int (0 : Int32)]) rfl ?_
  refine w_ri h_m298 (z_at.mk 1 rfl rfl) rfl rfl ?_
  show z_W 996 293 9 [(0, .ref 14)] [.int (0 : Int32), .int (36 : Int32)] m _
  refine w_p h_m293 1 (pc' := 10) (L' := [(0, .ref 14)]) (st' := [.int (36 : Int32)]) rfl ?_
  refine w_ri h_m293 (z_at.mk 1 rfl rfl) rfl rfl ?_
  show z_W 997 218 31 [(0, .ref 143), (1, .ref 14), (2, .int (0 : Int32)), (3, .int (4 : Int32)), (4, .int (21 : Int32)), (5, .int (4 : Int32))] [.int (36 : Int32), .int (25 : Int32)] m _
  refine w_p h_m218 5 (pc' := 40) (L' := [(0, .ref 143), (1, .ref 14), (2, .int (0 : Int32)), (3, .int (4 : Int32)), (4, .int (21 : Int32)), (5, .int (4 : Int32))]) (st' := [.int (25 : Int32), .ref 14]) rfl ?_
  refine w_cv (H.te (by decide) rfl).1 (pc' := 43) (L' := [(0, .ref 143), (1, .ref 14), (2, .int (0 : Int32)), (3, .int (4 : Int32)), (4, .int (21 : Int32)), (5, .int (4 : Int32))]) (rest := []) (Ps := [.int (25 : Int32)]) (L0 := [(0, .ref 14), (1, .int (25 : Int32))]) h_m218 (z_at.mk 3 rfl rfl) (Or.inl ⟨rfl, rfl⟩) rfl rfl (by decide) (by decide) rfl rfl rfl rfl rfl rfl (by decide) rfl rfl rfl ?_
  refine w_p h_m294 1 (pc' := 1) (L' := [(0, .ref 14), (1, .int (25 : Int32))]) (st' := [.ref 14]) rfl ?_
  refine w_cv (H.te (by decide) rfl).1 (pc' := 4) (L' := [(0, .ref 14), (1, .int (25 : Int32))]) (rest := []) (Ps := []) (L0 := [(0, .ref 14)]) h_m294 (z_at.mk 3 rfl rfl) (Or.inl ⟨rfl, rfl⟩) rfl rfl (by decide) (by decide) rfl rfl rfl rfl rfl rfl (by decide) rfl rfl rfl ?_
  refine w_p h_m299 3 (pc' := 7) (L' := [(0, .ref 14)]) (st' := [.ref 14]) rfl ?_
  refine w_gs H (pc' := 10) (L' := [(0, .ref 14)]) h_m299 (z_at.mk 3 rfl rfl) rfl (by decide) rfl rfl rfl rfl ?_
  refine w_p h_m299 3 (pc' := 18) (L' := []) (st' := [.int (1 : Int32)]) rfl ?_
  refine w_ri h_m299 (z_at.mk 1 rfl rfl) rfl rfl ?_
  show z_W 996 294 4 [(0, .ref 14), (1, .int (25 : Int32))] [.int (1 : Int32)] m _
  refine w_p h_m294 2 (pc' := 8) (L' := [(0, .ref 14), (1, .int (25 : Int32))]) (st' := [.ref 14]) rfl ?_
  refine w_gs H (pc' := 11) (L' := [(0, .ref 14), (1, .int (25 : Int32))]) h_m294 (z_at.mk 3 rfl rfl) rfl (by decide) rfl rfl rfl rfl ?_
  refine w_p h_m294 1 (pc' := 12) (L' := [(0, .ref 14), (1, .int (25 : Int32))]) (st' := [.int (25 : Int32), .ref 32]) rfl ?_
  refine w_cs (As := [.ref 32, .int (25 : Int32)]) (rest := []) (j := 308) (L0 := [(0, .ref 32), (1, .int (25 : Int32))]) (pc' := 15) (L' := [(0, .ref 14), (1, .int (25 : Int32))]) h_m294 (z_at.mk 3 rfl rfl) (Or.inl ⟨rfl, rfl⟩) rfl rfl rfl rfl rfl ?_
  refine w_p h_m308 2 (pc' := 2) (L' := [(0, .ref 32), (1, .int (25 : Int32))]) (st' := [.ref 32, .int (25 : Int32)]) rfl ?_
  refine w_lene H (x := (36 : Int32)) (pc' := 3) (L' := [(0, .ref 32), (1, .int (25 : Int32))]) h_m308 (z_at.mk 1 rfl rfl) (by decide) rfl (by decide) rfl rfl rfl ?_
  refine w_ci (pc' := 6) (L' := [(0, .ref 32), (1, .int (25 : Int32))]) h_m308 (z_at.mk 3 rfl rfl) rfl (z_cat_le 0 rfl (by decide)) ⟨by decide, by decide⟩ rfl rfl ?_
  refine w_p h_m308 2 (pc' := 8) (L' := [(0, .ref 32), (1, .int (25 : Int32))]) (st' := [.int (25 : Int32), .ref 32]) rfl ?_
  refine w_ae H (j := 25) (pc' := 9) (L' := [(0, .ref 32), (1, .int (25 : Int32))]) h_m308 (z_at.mk 1 rfl rfl) rfl rfl rfl (by decide) rfl (by decide) rfl rfl rfl ?_
  refine w_p h_m308 3 (pc' := 14) (L' := [(0, .ref 32), (1, .int (25 : Int32))]) (st' := [.int (32 : Int32)]) rfl ?_
  refine w_ri h_m308 (z_at.mk 1 rfl rfl) rfl rfl ?_
  show z_W 996 294 15 [(0, .ref 14), (1, .int (25 : Int32))] [.int (32 : Int32)] m _
  refine w_ri h_m294 (z_at.mk 1 rfl rfl) rfl rfl ?_
  show z_W 997 218 43 [(0, .ref 143), (1, .ref 14), (2, .int (0 : Int32)), (3, .int (4 : Int32)), (4, .int (21 : Int32)), (5, .int (4 : Int32))] [.int (32 : Int32)] m _
  refine w_p h_m218 5 (pc' := 58) (L' := [(0, .ref 143), (1, .ref 14), (2, .int (0 : Int32)), (3, .int (4 : Int32)), (4, .int (21 : Int32)), (5, .int (4 : Int32))]) (st' := [.ref 143, .int (0 : Int32), .int (4 : Int32)]) rfl ?_
  refine w_gf H (pc' := 61) (L' := [(0, .ref 143), (1, .ref 14), (2, .int (0 : Int32)), (3, .int (4 : Int32)), (4, .int (21 : Int32)), (5, .int (4 : Int32))]) h_m218 (z_at.mk 3 rfl rfl) rfl (u := .int (0 : Int32)) rfl rfl rfl ?_
  refine w_p h_m218 23 (pc' := 13) (L' := [(0, .ref 143), (1, .ref 14), (2, .int (0 : Int32)), (3, .int (5 : Int32)), (4, .int (26 : Int32))]) (st' := [.ref 14, .int (26 : Int32)]) rfl ?_
  refine w_cv (H.te (by decide) rfl).1 (pc' := 16) (L' := [(0, .ref 143), (1, .ref 14), (2, .int (0 : Int32)), (3, .int (5 : Int32)), (4, .int (26 : Int32))]) (rest := [.int (26 : Int32)]) (Ps := []) (L0 := [(0, .ref 14)]) h_m218 (z_at.mk 3 rfl rfl) (Or.inl ⟨rfl, rfl⟩) rfl rfl (by decide) (by decide) rfl rfl rfl rfl rfl rfl (by decide) rfl rfl rfl ?_
  refine w_p h_m293 1 (pc' := 1) (L' := [(0, .ref 14)]) (st' := [.ref 14]) rfl ?_
  refine w_gs H (pc' := 4) (L' := [(0, .ref 14)]) h_m293 (z_at.mk 3 rfl rfl) rfl (by decide) rfl rfl rfl rfl ?_
  refine w_lene H (x := (36 : Int32)) (pc' := 5) (L' := [(0, .ref 14)]) h_m293 (z_at.mk 1 rfl rfl) (by decide) rfl (by decide) rfl rfl rfl ?_
  refine w_p h_m293 1 (pc' := 6) (L' := [(0, .ref 14)]) (st' := [.ref 14, .int (36 : Int32)]) rfl ?_
  refine w_cv (H.te (by decide) rfl).1 (pc' := 9) (L' := [(0, .ref 14)]) (rest := [.int (36 : Int32)]) (Ps := []) (L0 := [(0, .ref 14)]) h_m293 (z_at.mk 3 rfl rfl) (Or.inl ⟨rfl, rfl⟩) rfl rfl (by decide) (by decide) rfl rfl rfl rfl rfl rfl (by decide) rfl rfl rfl ?_
  refine w_p h_m298 3 (pc' := 7) (L' := [(0, .ref 14)]) (st' := [.ref 14]) rfl ?_
  refine w_gs H (pc' := 10) (L' := [(0, .ref 14)]) h_m298 (z_at.mk 3 rfl rfl) rfl (by decide) rfl rfl rfl rfl ?_
  refine w_p h_m298 1 (pc' := 14) (L' := []) (st' := [.int (0 : Int32)]) rfl ?_
  refine w_ri h_m298 (z_at.mk 1 rfl rfl) rfl rfl ?_
  show z_W 996 293 9 [(0, .ref 14)] [.int (0 : Int32), .int (36 : Int32)] m _
  refine w_p h_m293 1 (pc' := 10) (L' := [(0, .ref 14)]) (st' := [.int (36 : Int32)]) rfl ?_
  refine w_ri h_m293 (z_at.mk 1 rfl rfl) rfl rfl ?_
  show z_W 997 218 16 [(0, .ref 143), (1, .ref 14), (2, .int (0 : Int32)), (3, .int (5 : Int32)), (4, .int (26 : Int32))] [.int (36 : Int32), .int (26 : Int32)] m _
  refine w_p h_m218 7 (pc' := 28) (L' := [(0, .ref 143), (1, .ref 14), (2, .int (0 : Int32)), (3, .int (5 : Int32)), (4, .int (26 : Int32)), (5, .int (0 : Int32))]) (st' := [.ref 14, .int (26 : Int32)]) rfl ?_
  refine w_cv (H.te (by decide) rfl).1 (pc' := 31) (L' := [(0, .ref 143), (1, .ref 14), (2, .int (0 : Int32)), (3, .int (5 : Int32)), (4, .int (26 : Int32)), (5, .int (0 : Int32))]) (rest := [.int (26 : Int32)]) (Ps := []) (L0 := [(0, .ref 14)]) h_m218 (z_at.mk 3 rfl rfl) (Or.inl ⟨rfl, rfl⟩) rfl rfl (by decide) (by decide) rfl rfl rfl rfl rfl rfl (by decide) rfl rfl rfl ?_
  refine w_p h_m293 1 (pc' := 1) (L' := [(0, .ref 14)]) (st' := [.ref 14]) rfl ?_
  refine w_gs H (pc' := 4) (L' := [(0, .ref 14)]) h_m293 (z_at.mk 3 rfl rfl) rfl (by decide) rfl rfl rfl rfl ?_
  refine w_lene H (x := (36 : Int32)) (pc' := 5) (L' := [(0, .ref 14)]) h_m293 (z_at.mk 1 rfl rfl) (by decide) rfl (by decide) rfl rfl rfl ?_
  refine w_p h_m293 1 (pc' := 6) (L' := [(0, .ref 14)]) (st' := [.ref 14, .int (36 : Int32)]) rfl ?_
  refine w_cv (H.te (by decide) rfl).1 (pc' := 9) (L' := [(0, .ref 14)]) (rest := [.int (36 : Int32)]) (Ps := []) (L0 := [(0, .ref 14)]) h_m293 (z_at.mk 3 rfl rfl) (Or.inl ⟨rfl, rfl⟩) rfl rfl (by decide) (by decide) rfl rfl rfl rfl rfl rfl (by decide) rfl rfl rfl ?_
  refine w_p h_m298 3 (pc' := 7) (L' := [(0, .ref 14)]) (st' := [.ref 14]) rfl ?_
  refine w_gs H (pc' := 10) (L' := [(0, .ref 14)]) h_m298 (z_at.mk 3 rfl rfl) rfl (by decide) rfl rfl rfl rfl ?_
  refine w_p h_m298 1 (pc' := 14) (L' := []) (st' := [.int (0 : Int32)]) rfl ?_
  refine w_ri h_m298 (z_at.mk 1 rfl rfl) rfl rfl ?_
  show z_W 996 293 9 [(0, .ref 14)] [.int (0 : Int32), .int (36 : Int32)] m _
  refine w_p h_m293 1 (pc' := 10) (L' := [(0, .ref 14)]) (st' := [.int (36 : Int32)]) rfl ?_
  refine w_ri h_m293 (z_at.mk 1 rfl rfl) rfl rfl ?_
  show z_W 997 218 31 [(0, .ref 143), (1, .ref 14), (2, .int (0 : Int32)), (3, .int (5 : Int32)), (4, .int (26 : Int32)), (5, .int (0 : Int32))] [.int (36 : Int32), .int (26 : Int32)] m _
  refine w_p h_m218 5 (pc' := 40) (L' := [(0, .ref 143), (1, .ref 14), (2, .int (0 : Int32)), (3, .int (5 : Int32)), (4, .int (26 : Int32)), (5, .int (0 : Int32))]) (st' := [.int (26 : Int32), .ref 14]) rfl ?_
  refine w_cv (H.te (by decide) rfl).1 (pc' := 43) (L' := [(0, .ref 143), (1, .ref 14), (2, .int (0 : Int32)), (3, .int (5 : Int32)), (4, .int (26 : Int32)), (5, .int (0 : Int32))]) (rest := []) (Ps := [.int (26 : Int32)]) (L0 := [(0, .ref 14), (1, .int (26 : Int32))]) h_m218 (z_at.mk 3 rfl rfl) (Or.inl ⟨rfl, rfl⟩) rfl rfl (by decide) (by decide) rfl rfl rfl rfl rfl rfl (by decide) rfl rfl rfl ?_
  refine w_p h_m294 1 (pc' := 1) (L' := [(0, .ref 14), (1, .int (26 : Int32))]) (st' := [.ref 14]) rfl ?_
  refine w_cv (H.te (by decide) rfl).1 (pc' := 4) (L' := [(0, .ref 14), (1, .int (26 : Int32))]) (rest := []) (Ps := []) (L0 := [(0, .ref 14)]) h_m294 (z_at.mk 3 rfl rfl) (Or.inl ⟨rfl, rfl⟩) rfl rfl (by decide) (by decide) rfl rfl rfl rfl rfl rfl (by decide) rfl rfl rfl ?_
  refine w_p h_m299 3 (pc' := 7) (L' := [(0, .ref 14)]) (st' := [.ref 14]) rfl ?_
  refine w_gs H (pc' := 10) (L' := [(0, .ref 14)]) h_m299 (z_at.mk 3 rfl rfl) rfl (by decide) rfl rfl rfl rfl ?_
  refine w_p h_m299 3 (pc' := 18) (L' := []) (st' := [.int (1 : Int32)]) rfl ?_
  refine w_ri h_m299 (z_at.mk 1 rfl rfl) rfl rfl ?_
  show z_W 996 294 4 [(0, .ref 14), (1, .int (26 : Int32))] [.int (1 : Int32)] m _
  refine w_p h_m294 2 (pc' := 8) (L' := [(0, .ref 14), (1, .int (26 : Int32))]) (st' := [.ref 14]) rfl ?_
  refine w_gs H (pc' := 11) (L' := [(0, .ref 14), (1, .int (26 : Int32))]) h_m294 (z_at.mk 3 rfl rfl) rfl (by decide) rfl rfl rfl rfl ?_
  refine w_p h_m294 1 (pc' := 12) (L' := [(0, .ref 14), (1, .int (26 : Int32))]) (st' := [.int (26 : Int32), .ref 32]) rfl ?_
  refine w_cs (As := [.ref 32, .int (26 : Int32)]) (rest := []) (j := 308) (L0 := [(0, .ref 32), (1, .int (26 : Int32))]) (pc' := 15) (L' := [(0, .ref 14), (1, .int (26 : Int32))]) h_m294 (z_at.mk 3 rfl rfl) (Or.inl ⟨rfl, rfl⟩) rfl rfl rfl rfl rfl ?_
  refine w_p h_m308 2 (pc' := 2) (L' := [(0, .ref 32), (1, .int (26 : Int32))]) (st' := [.ref 32, .int (26 : Int32)]) rfl ?_
  refine w_lene H (x := (36 : Int32)) (pc' := 3) (L' := [(0, .ref 32), (1, .int (26 : Int32))]) h_m308 (z_at.mk 1 rfl rfl) (by decide) rfl (by decide) rfl rfl rfl ?_
  refine w_ci (pc' := 6) (L' := [(0, .ref 32), (1, .int (26 : Int32))]) h_m308 (z_at.mk 3 rfl rfl) rfl (z_cat_le 0 rfl (by decide)) ⟨by decide, by decide⟩ rfl rfl ?_
  refine w_p h_m308 2 (pc' := 8) (L' := [(0, .ref 32), (1, .int (26 : Int32))]) (st' := [.int (26 : Int32), .ref 32]) rfl ?_
  refine w_ae H (j := 26) (pc' := 9) (L' := [(0, .ref 32), (1, .int (26 : Int32))]) h_m308 (z_at.mk 1 rfl rfl) rfl rfl rfl (by decide) rfl (by decide) rfl rfl rfl ?_
  refine w_p h_m308 3 (pc' := 14) (L' := [(0, .ref 32), (1, .int (26 : Int32))]) (st' := [.int (115 : Int32)]) rfl ?_
  refine w_ri h_m308 (z_at.mk 1 rfl rfl) rfl rfl ?_
  show z_W 996 294 15 [(0, .ref 14), (1, .int (26 : Int32))] [.int (115 : Int32)] m _
  refine w_ri h_m294 (z_at.mk 1 rfl rfl) rfl rfl ?_
  show z_W 997 218 43 [(0, .ref 143), (1, .ref 14), (2, .int (0 : Int32)), (3, .int (5 : Int32)), (4, .int (26 : Int32)), (5, .int (0 : Int32))] [.int (115 : Int32)] m _
  refine w_p h_m218 8 (pc' := 28) (L' := [(0, .ref 143), (1, .ref 14), (2, .int (0 : Int32)), (3, .int (5 : Int32)), (4, .int (26 : Int32)), (5, .int (1 : Int32))]) (st' := [.ref 14, .int (27 : Int32)]) rfl ?_
  refine w_cv (H.te (by decide) rfl).1 (pc' := 31) (L' := [(0, .ref 143), (1, .ref 14), (2, .int (0 : Int32)), (3, .int (5 : Int32)), (4, .int (26 : Int32)), (5, .int (1 : Int32))]) (rest := [.int (27 : Int32)]) (Ps := []) (L0 := [(0, .ref 14)]) h_m218 (z_at.mk 3 rfl rfl) (Or.inl ⟨rfl, rfl⟩) rfl rfl (by decide) (by decide) rfl rfl rfl rfl rfl rfl (by decide) rfl rfl rfl ?_
  refine w_p h_m293 1 (pc' := 1) (L' := [(0, .ref 14)]) (st' := [.ref 14]) rfl ?_
  refine w_gs H (pc' := 4) (L' := [(0, .ref 14)]) h_m293 (z_at.mk 3 rfl rfl) rfl (by decide) rfl rfl rfl rfl ?_
  refine w_lene H (x := (36 : Int32)) (pc' := 5) (L' := [(0, .ref 14)]) h_m293 (z_at.mk 1 rfl rfl) (by decide) rfl (by decide) rfl rfl rfl ?_
  refine w_p h_m293 1 (pc' := 6) (L' := [(0, .ref 14)]) (st' := [.ref 14, .int (36 : Int32)]) rfl ?_
  refine w_cv (H.te (by decide) rfl).1 (pc' := 9) (L' := [(0, .ref 14)]) (rest := [.int (36 : Int32)]) (Ps := []) (L0 := [(0, .ref 14)]) h_m293 (z_at.mk 3 rfl rfl) (Or.inl ⟨rfl, rfl⟩) rfl rfl (by decide) (by decide) rfl rfl rfl rfl rfl rfl (by decide) rfl rfl rfl ?_
  refine w_p h_m298 3 (pc' := 7) (L' := [(0, .ref 14)]) (st' := [.ref 14]) rfl ?_
  refine w_gs H (pc' := 10) (L' := [(0, .ref 14)]) h_m298 (z_at.mk 3 rfl rfl) rfl (by decide) rfl rfl rfl rfl ?_
  refine w_p h_m298 1 (pc' := 14) (L' := []) (st' := [.int (0 : Int32)]) rfl ?_
  refine w_ri h_m298 (z_at.mk 1 rfl rfl) rfl rfl ?_
  show z_W 996 293 9 [(0, .ref 14)] [.int (0 : Int32), .int (36 : Int32)] m _
  refine w_p h_m293 1 (pc' := 10) (L' := [(0, .ref 14)]) (st' := [.int (36 : Int32)]) rfl ?_
  refine w_ri h_m293 (z_at.mk 1 rfl rfl) rfl rfl ?_
  show z_W 997 218 31 [(0, .ref 143), (1, .ref 14), (2, .int (0 : Int32)), (3, .int (5 : Int32)), (4, .int (26 : Int32)), (5, .int (1 : Int32))] [.int (36 : Int32), .int (27 : Int32)] m _
  refine w_p h_m218 5 (pc' := 40) (L' := [(0, .ref 143), (1, .ref 14), (2, .int (0 : Int32)), (3, .int (5 : Int32)), (4, .int (26 : Int32)), (5, .int (1 : Int32))]) (st' := [.int (27 : Int32), .ref 14]) rfl ?_
  refine w_cv (H.te (by decide) rfl).1 (pc' := 43) (L' := [(0, .ref 143), (1, .ref 14), (2, .int (0 : Int32)), (3, .int (5 : Int32)), (4, .int (26 : Int32)), (5, .int (1 : Int32))]) (rest := []) (Ps := [.int (27 : Int32)]) (L0 := [(0, .ref 14), (1, .int (27 : Int32))]) h_m218 (z_at.mk 3 rfl rfl) (Or.inl ⟨rfl, rfl⟩) rfl rfl (by decide) (by decide) rfl rfl rfl rfl rfl rfl (by decide) rfl rfl rfl ?_
  refine w_p h_m294 1 (pc' := 1) (L' := [(0, .ref 14), (1, .int (27 : Int32))]) (st' := [.ref 14]) rfl ?_
  refine w_cv (H.te (by decide) rfl).1 (pc' := 4) (L' := [(0, .ref 14), (1, .int (27 : Int32))]) (rest := []) (Ps := []) (L0 := [(0, .ref 14)]) h_m294 (z_at.mk 3 rfl rfl) (Or.inl ⟨rfl, rfl⟩) rfl rfl (by decide) (by decide) rfl rfl rfl rfl rfl rfl (by decide) rfl rfl rfl ?_
  refine w_p h_m299 3 (pc' := 7) (L' := [(0, .ref 14)]) (st' := [.ref 14]) rfl ?_
  refine w_gs H (pc' := 10) (L' := [(0, .ref 14)]) h_m299 (z_at.mk 3 rfl rfl) rfl (by decide) rfl rfl rfl rfl ?_
  refine w_p h_m299 3 (pc' := 18) (L' := []) (st' := [.int (1 : Int32)]) rfl ?_
  refine w_ri h_m299 (z_at.mk 1 rfl rfl) rfl rfl ?_
  show z_W 996 294 4 [(0, .ref 14), (1, .int (27 : Int32))] [.int (1 : Int32)] m _
  refine w_p h_m294 2 (pc' := 8) (L' := [(0, .ref 14), (1, .int (27 : Int32))]) (st' := [.ref 14]) rfl ?_
  refine w_gs H (pc' := 11) (L' := [(0, .ref 14), (1, .int (27 : Int32))]) h_m294 (z_at.mk 3 rfl rfl) rfl (by decide) rfl rfl rfl rfl ?_
  refine w_p h_m294 1 (pc' := 12) (L' := [(0, .ref 14), (1, .int (27 : Int32))]) (st' := [.int (27 : Int32), .ref 32]) rfl ?_
  refine w_cs (As := [.ref 32, .int (27 : Int32)]) (rest := []) (j := 308) (L0 := [(0, .ref 32), (1, .int (27 : Int32))]) (pc' := 15) (L' := [(0, .ref 14), (1, .int (27 : Int32))]) h_m294 (z_at.mk 3 rfl rfl) (Or.inl ⟨rfl, rfl⟩) rfl rfl rfl rfl rfl ?_
  refine w_p h_m308 2 (pc' := 2) (L' := [(0, .ref 32), (1, .int (27 : Int32))]) (st' := [.ref 32, .int (27 : Int32)]) rfl ?_
  refine w_lene H (x := (36 : Int32)) (pc' := 3) (L' := [(0, .ref 32), (1, .int (27 : Int32))]) h_m308 (z_at.mk 1 rfl rfl) (by decide) rfl (by decide) rfl rfl rfl ?_
  refine w_ci (pc' := 6) (L' := [(0, .ref 32), (1, .int (27 : Int32))]) h_m308 (z_at.mk 3 rfl rfl) rfl (z_cat_le 0 rfl (by decide)) ⟨by decide, by decide⟩ rfl rfl ?_
  refine w_p h_m308 2 (pc' := 8) (L' := [(0, .ref 32), (1, .int (27 : Int32))]) (st' := [.int (27 : Int32), .ref 32]) rfl ?_
  refine w_ae H (j := 27) (pc' := 9) (L' := [(0, .ref 32), (1, .int (27 : Int32))]) h_m308 (z_at.mk 1 rfl rfl) rfl rfl rfl (by decide) rfl (by decide) rfl rfl rfl ?_
  refine w_p h_m308 3 (pc' := 14) (L' := [(0, .ref 32), (1, .int (27 : Int32))]) (st' := [.int (112 : Int32)]) rfl ?_
  refine w_ri h_m308 (z_at.mk 1 rfl rfl) rfl rfl ?_
  show z_W 996 294 15 [(0, .ref 14), (1, .int (27 : Int32))] [.int (112 : Int32)] m _
  refine w_ri h_m294 (z_at.mk 1 rfl rfl) rfl rfl ?_
  show z_W 997 218 43 [(0, .ref 143), (1, .ref 14), (2, .int (0 : Int32)), (3, .int (5 : Int32)), (4, .int (26 : Int32)), (5, .int (1 : Int32))] [.int (112 : Int32)] m _
  refine w_p h_m218 8 (pc' := 28) (L' := [(0, .ref 143), (1, .ref 14), (2, .int (0 : Int32)), (3, .int (5 : Int32)), (4, .int (26 : Int32)), (5, .int (2 : Int32))]) (st' := [.ref 14, .int (28 : Int32)]) rfl ?_
  refine w_cv (H.te (by decide) rfl).1 (pc' := 31) (L' := [(0, .ref 143), (1, .ref 14), (2, .int (0 : Int32)), (3, .int (5 : Int32)), (4, .int (26 : Int32)), (5, .int (2 : Int32))]) (rest := [.int (28 : Int32)]) (Ps := []) (L0 := [(0, .ref 14)]) h_m218 (z_at.mk 3 rfl rfl) (Or.inl ⟨rfl, rfl⟩) rfl rfl (by decide) (by decide) rfl rfl rfl rfl rfl rfl (by decide) rfl rfl rfl ?_
  refine w_p h_m293 1 (pc' := 1) (L' := [(0, .ref 14)]) (st' := [.ref 14]) rfl ?_
  refine w_gs H (pc' := 4) (L' := [(0, .ref 14)]) h_m293 (z_at.mk 3 rfl rfl) rfl (by decide) rfl rfl rfl rfl ?_
  refine w_lene H (x := (36 : Int32)) (pc' := 5) (L' := [(0, .ref 14)]) h_m293 (z_at.mk 1 rfl rfl) (by decide) rfl (by decide) rfl rfl rfl ?_
  refine w_p h_m293 1 (pc' := 6) (L' := [(0, .ref 14)]) (st' := [.ref 14, .int (36 : Int32)]) rfl ?_
  refine w_cv (H.te (by decide) rfl).1 (pc' := 9) (L' := [(0, .ref 14)]) (rest := [.int (36 : Int32)]) (Ps := []) (L0 := [(0, .ref 14)]) h_m293 (z_at.mk 3 rfl rfl) (Or.inl ⟨rfl, rfl⟩) rfl rfl (by decide) (by decide) rfl rfl rfl rfl rfl rfl (by decide) rfl rfl rfl ?_
  refine w_p h_m298 3 (pc' := 7) (L' := [(0, .ref 14)]) (st' := [.ref 14]) rfl ?_
  refine w_gs H (pc' := 10) (L' := [(0, .ref 14)]) h_m298 (z_at.mk 3 rfl rfl) rfl (by decide) rfl rfl rfl rfl ?_
  refine w_p h_m298 1 (pc' := 14) (L' := []) (st' := [.int (0 : Int32)]) rfl ?_
  refine w_ri h_m298 (z_at.mk 1 rfl rfl) rfl rfl ?_
  show z_W 996 293 9 [(0, .ref 14)] [.int (0 : Int32), .int (36 : Int32)] m _
  refine w_p h_m293 1 (pc' := 10) (L' := [(0, .ref 14)]) (st' := [.int (36 : Int32)]) rfl ?_
  refine w_ri h_m293 (z_at.mk 1 rfl rfl) rfl rfl ?_
  show z_W 997 218 31 [(0, .ref 143), (1, .ref 14), (2, .int (0 : Int32)), (3, .int (5 : Int32)), (4, .int (26 : Int32)), (5, .int (2 : Int32))] [.int (36 : Int32), .int (28 : Int32)] m _
  refine w_p h_m218 5 (pc' := 40) (L' := [(0, .ref 143), (1, .ref 14), (2, .int (0 : Int32)), (3, .int (5 : Int32)), (4, .int (26 : Int32)), (5, .int (2 : Int32))]) (st' := [.int (28 : Int32), .ref 14]) rfl ?_
  refine w_cv (H.te (by decide) rfl).1 (pc' := 43) (L' := [(0, .ref 143), (1, .ref 14), (2, .int (0 : Int32)), (3, .int (5 : Int32)), (4, .int (26 : Int32)), (5, .int (2 : Int32))]) (rest := []) (Ps := [.int (28 : Int32)]) (L0 := [(0, .ref 14), (1, .int (28 : Int32))]) h_m218 (z_at.mk 3 rfl rfl) (Or.inl ⟨rfl, rfl⟩) rfl rfl (by decide) (by decide) rfl rfl rfl rfl rfl rfl (by decide) rfl rfl rfl ?_
  refine w_p h_m294 1 (pc' := 1) (L' := [(0, .ref 14), (1, .int (28 : Int32))]) (st' := [.ref 14]) rfl ?_
  refine w_cv (H.te (by decide) rfl).1 (pc' := 4) (L' := [(0, .ref 14), (1, .int (28 : Int32))]) (rest := []) (Ps := []) (L0 := [(0, .ref 14)]) h_m294 (z_at.mk 3 rfl rfl) (Or.inl ⟨rfl, rfl⟩) rfl rfl (by decide) (by decide) rfl rfl rfl rfl rfl rfl (by decide) rfl rfl rfl ?_
  refine w_p h_m299 3 (pc' := 7) (L' := [(0, .ref 14)]) (st' := [.ref 14]) rfl ?_
  refine w_gs H (pc' := 10) (L' := [(0, .ref 14)]) h_m299 (z_at.mk 3 rfl rfl) rfl (by decide) rfl rfl rfl rfl ?_
  refine w_p h_m299 3 (pc' := 18) (L' := []) (st' := [.int (1 : Int32)]) rfl ?_
  refine w_ri h_m299 (z_at.mk 1 rfl rfl) rfl rfl ?_
  show z_W 996 294 4 [(0, .ref 14), (1, .int (28 : Int32))] [.int (1 : Int32)] m _
  refine w_p h_m294 2 (pc' := 8) (L' := [(0, .ref 14), (1, .int (28 : Int32))]) (st' := [.ref 14]) rfl ?_
  refine w_gs H (pc' := 11) (L' := [(0, .ref 14), (1, .int (28 : Int32))]) h_m294 (z_at.mk 3 rfl rfl) rfl (by decide) rfl rfl rfl rfl ?_
  refine w_p h_m294 1 (pc' := 12) (L' := [(0, .ref 14), (1, .int (28 : Int32))]) (st' := [.int (28 : Int32), .ref 32]) rfl ?_
  refine w_cs (As := [.ref 32, .int (28 : Int32)]) (rest := []) (j := 308) (L0 := [(0, .ref 32), (1, .int (28 : Int32))]) (pc' := 15) (L' := [(0, .ref 14), (1, .int (28 : Int32))]) h_m294 (z_at.mk 3 rfl rfl) (Or.inl ⟨rfl, rfl⟩) rfl rfl rfl rfl rfl ?_
  refine w_p h_m308 2 (pc' := 2) (L' := [(0, .ref 32), (1, .int (28 : Int32))]) (st' := [.ref 32, .int (28 : Int32)]) rfl ?_
  refine w_lene H (x := (36 : Int32)) (pc' := 3) (L' := [(0, .ref 32), (1, .int (28 : Int32))]) h_m308 (z_at.mk 1 rfl rfl) (by decide) rfl (by decide) rfl rfl rfl ?_
  refine w_ci (pc' := 6) (L' := [(0, .ref 32), (1, .int (28 : Int32))]) h_m308 (z_at.mk 3 rfl rfl) rfl (z_cat_le 0 rfl (by decide)) ⟨by decide, by decide⟩ rfl rfl ?_
  refine w_p h_m308 2 (pc' := 8) (L' := [(0, .ref 32), (1, .int (28 : Int32))]) (st' := [.int (28 : Int32), .ref 32]) rfl ?_
  refine w_ae H (j := 28) (pc' := 9) (L' := [(0, .ref 32), (1, .int (28 : Int32))]) h_m308 (z_at.mk 1 rfl rfl) rfl rfl rfl (by decide) rfl (by decide) rfl rfl rfl ?_
  refine w_p h_m308 3 (pc' := 14) (L' := [(0, .ref 32), (1, .int (28 : Int32))]) (st' := [.int (97 : Int32)]) rfl ?_
  refine w_ri h_m308 (z_at.mk 1 rfl rfl) rfl rfl ?_
  show z_W 996 294 15 [(0, .ref 14), (1, .int (28 : Int32))] [.int (97 : Int32)] m _
  refine w_ri h_m294 (z_at.mk 1 rfl rfl) rfl rfl ?_
  show z_W 997 218 43 [(0, .ref 143), (1, .ref 14), (2, .int (0 : Int32)), (3, .int (5 : Int32)), (4, .int (26 : Int32)), (5, .int (2 : Int32))] [.int (97 : Int32)] m _
  refine w_p h_m218 8 (pc' := 28) (L' := [(0, .ref 143), (1, .ref 14), (2, .int (0 : Int32)), (3, .int (5 : Int32)), (4, .int (26 : Int32)), (5, .int (3 : Int32))]) (st' := [.ref 14, .int (29 : Int32)]) rfl ?_
  refine w_cv (H.te (by decide) rfl).1 (pc' := 31) (L' := [(0, .ref 143), (1, .ref 14), (2, .int (0 : Int32)), (3, .int (5 : Int32)), (4, .int (26 : Int32)), (5, .int (3 : Int32))]) (rest := [.int (29 : Int32)]) (Ps := []) (L0 := [(0, .ref 14)]) h_m218 (z_at.mk 3 rfl rfl) (Or.inl ⟨rfl, rfl⟩) rfl rfl (by decide) (by decide) rfl rfl rfl rfl rfl rfl (by decide) rfl rfl rfl ?_
  refine w_p h_m293 1 (pc' := 1) (L' := [(0, .ref 14)]) (st' := [.ref 14]) rfl ?_
  refine w_gs H (pc' := 4) (L' := [(0, .ref 14)]) h_m293 (z_at.mk 3 rfl rfl) rfl (by decide) rfl rfl rfl rfl ?_
  refine w_lene H (x := (36 : Int32)) (pc' := 5) (L' := [(0, .ref 14)]) h_m293 (z_at.mk 1 rfl rfl) (by decide) rfl (by decide) rfl rfl rfl ?_
  refine w_p h_m293 1 (pc' := 6) (L' := [(0, .ref 14)]) (st' := [.ref 14, .int (36 : Int32)]) rfl ?_
  refine w_cv (H.te (by decide) rfl).1 (pc' := 9) (L' := [(0, .ref 14)]) (rest := [.int (36 : Int32)]) (Ps := []) (L0 := [(0, .ref 14)]) h_m293 (z_at.mk 3 rfl rfl) (Or.inl ⟨rfl, rfl⟩) rfl rfl (by decide) (by decide) rfl rfl rfl rfl rfl rfl (by decide) rfl rfl rfl ?_
  refine w_p h_m298 3 (pc' := 7) (L' := [(0, .ref 14)]) (st' := [.ref 14]) rfl ?_
  refine w_gs H (pc' := 10) (L' := [(0, .ref 14)]) h_m298 (z_at.mk 3 rfl rfl) rfl (by decide) rfl rfl rfl rfl ?_
  refine w_p h_m298 1 (pc' := 14) (L' := []) (st' := [.int (0 : Int32)]) rfl ?_
  refine w_ri h_m298 (z_at.mk 1 rfl rfl) rfl rfl ?_
  show z_W 996 293 9 [(0, .ref 14)] [.int (0 : Int32), .int (36 : Int32)] m _
  refine w_p h_m293 1 (pc' := 10) (L' := [(0, .ref 14)]) (st' := [.int (36 : Int32)]) rfl ?_
  refine w_ri h_m293 (z_at.mk 1 rfl rfl) rfl rfl ?_
  show z_W 997 218 31 [(0, .ref 143), (1, .ref 14), (2, .int (0 : Int32)), (3, .int (5 : Int32)), (4, .int (26 : Int32)), (5, .int (3 : Int32))] [.int (36 : Int32), .int (29 : Int32)] m _
  refine w_p h_m218 5 (pc' := 40) (L' := [(0, .ref 143), (1, .ref 14), (2, .int (0 : Int32)), (3, .int (5 : Int32)), (4, .int (26 : Int32)), (5, .int (3 : Int32))]) (st' := [.int (29 : Int32), .ref 14]) rfl ?_
  refine w_cv (H.te (by decide) rfl).1 (pc' := 43) (L' := [(0, .ref 143), (1, .ref 14), (2, .int (0 : Int32)), (3, .int (5 : Int32)), (4, .int (26 : Int32)), (5, .int (3 : Int32))]) (rest := []) (Ps := [.int (29 : Int32)]) (L0 := [(0, .ref 14), (1, .int (29 : Int32))]) h_m218 (z_at.mk 3 rfl rfl) (Or.inl ⟨rfl, rfl⟩) rfl rfl (by decide) (by decide) rfl rfl rfl rfl rfl rfl (by decide) rfl rfl rfl ?_
  refine w_p h_m294 1 (pc' := 1) (L' := [(0, .ref 14), (1, .int (29 : Int32))]) (st' := [.ref 14]) rfl ?_
  refine w_cv (H.te (by decide) rfl).1 (pc' := 4) (L' := [(0, .ref 14), (1, .int (29 : Int32))]) (rest := []) (Ps := []) (L0 := [(0, .ref 14)]) h_m294 (z_at.mk 3 rfl rfl) (Or.inl ⟨rfl, rfl⟩) rfl rfl (by decide) (by decide) rfl rfl rfl rfl rfl rfl (by decide) rfl rfl rfl ?_
  refine w_p h_m299 3 (pc' := 7) (L' := [(0, .ref 14)]) (st' := [.ref 14]) rfl ?_
  refine w_gs H (pc' := 10) (L' := [(0, .ref 14)]) h_m299 (z_at.mk 3 rfl rfl) rfl (by decide) rfl rfl rfl rfl ?_
  refine w_p h_m299 3 (pc' := 18) (L' := []) (st' := [.int (1 : Int32)]) rfl ?_
  refine w_ri h_m299 (z_at.mk 1 rfl rfl) rfl rfl ?_
  show z_W 996 294 4 [(0, .ref 14), (1, .int (29 : Int32))] [.int (1 : Int32)] m _
  refine w_p h_m294 2 (pc' := 8) (L' := [(0, .ref 14), (1, .int (29 : Int32))]) (st' := [.ref 14]) rfl ?_
  refine w_gs H (pc' := 11) (L' := [(0, .ref 14), (1, .int (29 : Int32))]) h_m294 (z_at.mk 3 rfl rfl) rfl (by decide) rfl rfl rfl rfl ?_
  refine w_p h_m294 1 (pc' := 12) (L' := [(0, .ref 14), (1, .int (29 : Int32))]) (st' := [.int (29 : Int32), .ref 32]) rfl ?_
  refine w_cs (As := [.ref 32, .int (29 : Int32)]) (rest := []) (j := 308) (L0 := [(0, .ref 32), (1, .int (29 : Int32))]) (pc' := 15) (L' := [(0, .ref 14), (1, .int (29 : Int32))]) h_m294 (z_at.mk 3 rfl rfl) (Or.inl ⟨rfl, rfl⟩) rfl rfl rfl rfl rfl ?_
  refine w_p h_m308 2 (pc' := 2) (L' := [(0, .ref 32), (1, .int (29 : Int32))]) (st' := [.ref 32, .int (29 : Int32)]) rfl ?_
  refine w_lene H (x := (36 : Int32)) (pc' := 3) (L' := [(0, .ref 32), (1, .int (29 : Int32))]) h_m308 (z_at.mk 1 rfl rfl) (by decide) rfl (by decide) rfl rfl rfl ?_
  refine w_ci (pc' := 6) (L' := [(0, .ref 32), (1, .int (29 : Int32))]) h_m308 (z_at.mk 3 rfl rfl) rfl (z_cat_le 0 rfl (by decide)) ⟨by decide, by decide⟩ rfl rfl ?_
  refine w_p h_m308 2 (pc' := 8) (L' := [(0, .ref 32), (1, .int (29 : Int32))]) (st' := [.int (29 : Int32), .ref 32]) rfl ?_
  refine w_ae H (j := 29) (pc' := 9) (L' := [(0, .ref 32), (1, .int (29 : Int32))]) h_m308 (z_at.mk 1 rfl rfl) rfl rfl rfl (by decide) rfl (by decide) rfl rfl rfl ?_
  refine w_p h_m308 3 (pc' := 14) (L' := [(0, .ref 32), (1, .int (29 : Int32))]) (st' := [.int (110 : Int32)]) rfl ?_
  refine w_ri h_m308 (z_at.mk 1 rfl rfl) rfl rfl ?_
  show z_W 996 294 15 [(0, .ref 14), (1, .int (29 : Int32))] [.int (110 : Int32)] m _
  refine w_ri h_m294 (z_at.mk 1 rfl rfl) rfl rfl ?_
  show z_W 997 218 43 [(0, .ref 143), (1, .ref 14), (2, .int (0 : Int32)), (3, .int (5 : Int32)), (4, .int (26 : Int32)), (5, .int (3 : Int32))] [.int (110 : Int32)] m _
  refine w_p h_m218 8 (pc' := 28) (L' := [(0, .ref 143), (1, .ref 14), (2, .int (0 : Int32)), (3, .int (5 : Int32)), (4, .int (26 : Int32)), (5, .int (4 : Int32))]) (st' := [.ref 14, .int (30 : Int32)]) rfl ?_
  refine w_cv (H.te (by decide) rfl).1 (pc' := 31) (L' := [(0, .ref 143), (1, .ref 14), (2, .int (0 : Int32)), (3, .int (5 : Int32)), (4, .int (26 : Int32)), (5, .int (4 : Int32))]) (rest := [.int (30 : Int32)]) (Ps := []) (L0 := [(0, .ref 14)]) h_m218 (z_at.mk 3 rfl rfl) (Or.inl ⟨rfl, rfl⟩) rfl rfl (by decide) (by decide) rfl rfl rfl rfl rfl rfl (by decide) rfl rfl rfl ?_
  refine w_p h_m293 1 (pc' := 1) (L' := [(0, .ref 14)]) (st' := [.ref 14]) rfl ?_
  refine w_gs H (pc' := 4) (L' := [(0, .ref 14)]) h_m293 (z_at.mk 3 rfl rfl) rfl (by decide) rfl rfl rfl rfl ?_
  refine w_lene H (x := (36 : Int32)) (pc' := 5) (L' := [(0, .ref 14)]) h_m293 (z_at.mk 1 rfl rfl) (by decide) rfl (by decide) rfl rfl rfl ?_
  refine w_p h_m293 1 (pc' := 6) (L' := [(0, .ref 14)]) (st' := [.ref 14, .int (36 : Int32)]) rfl ?_
  refine w_cv (H.te (by decide) rfl).1 (pc' := 9) (L' := [(0, .ref 14)]) (rest := [.int (36 : Int32)]) (Ps := []) (L0 := [(0, .ref 14)]) h_m293 (z_at.mk 3 rfl rfl) (Or.inl ⟨rfl, rfl⟩) rfl rfl (by decide) (by decide) rfl rfl rfl rfl rfl rfl (by decide) rfl rfl rfl ?_
  refine w_p h_m298 3 (pc' := 7) (L' := [(0, .ref 14)]) (st' := [.ref 14]) rfl ?_
  refine w_gs H (pc' := 10) (L' := [(0, .ref 14)]) h_m298 (z_at.mk 3 rfl rfl) rfl (by decide) rfl rfl rfl rfl ?_
  refine w_p h_m298 1 (pc' := 14) (L' := []) (st' := [.int (0 : Int32)]) rfl ?_
  refine w_ri h_m298 (z_at.mk 1 rfl rfl) rfl rfl ?_
  show z_W 996 293 9 [(0, .ref 14)] [.int (0 : Int32), .int (36 : Int32)] m _
  refine w_p h_m293 1 (pc' := 10) (L' := [(0, .ref 14)]) (st' := [.int (36 : Int32)]) rfl ?_
  refine w_ri h_m293 (z_at.mk 1 rfl rfl) rfl rfl ?_
  show z_W 997 218 31 [(0, .ref 143), (1, .ref 14), (2, .int (0 : Int32)), (3, .int (5 : Int32)), (4, .int (26 : Int32)), (5, .int (4 : Int32))] [.int (36 : Int32), .int (30 : Int32)] m _
  refine w_p h_m218 5 (pc' := 40) (L' := [(0, .ref 143), (1, .ref 14), (2, .int (0 : Int32)), (3, .int (5 : Int32)), (4, .int (26 : Int32)), (5, .int (4 : Int32))]) (st' := [.int (30 : Int32), .ref 14]) rfl ?_
  refine w_cv (H.te (by decide) rfl).1 (pc' := 43) (L' := [(0, .ref 143), (1, .ref 14), (2, .int (0 : Int32)), (3, .int (5 : Int32)), (4, .int (26 : Int32)), (5, .int (4 : Int32))]) (rest := []) (Ps := [.int (30 : Int32)]) (L0 := [(0, .ref 14), (1, .int (30 : Int32))]) h_m218 (z_at.mk 3 rfl rfl) (Or.inl ⟨rfl, rfl⟩) rfl rfl (by decide) (by decide) rfl rfl rfl rfl rfl rfl (by decide) rfl rfl rfl ?_
  refine w_p h_m294 1 (pc' := 1) (L' := [(0, .ref 14), (1, .int (30 : Int32))]) (st' := [.ref 14]) rfl ?_
  refine w_cv (H.te (by decide) rfl).1 (pc' := 4) (L' := [(0, .ref 14), (1, .int (30 : Int32))]) (rest := []) (Ps := []) (L0 := [(0, .ref 14)]) h_m294 (z_at.mk 3 rfl rfl) (Or.inl ⟨rfl, rfl⟩) rfl rfl (by decide) (by decide) rfl rfl rfl rfl rfl rfl (by decide) rfl rfl rfl ?_
  refine w_p h_m299 3 (pc' := 7) (L' := [(0, .ref 14)]) (st' := [.ref 14]) rfl ?_
  refine w_gs H (pc' := 10) (L' := [(0, .ref 14)]) h_m299 (z_at.mk 3 rfl rfl) rfl (by decide) rfl rfl rfl rfl ?_
  refine w_p h_m299 3 (pc' := 18) (L' := []) (st' := [.int (1 : Int32)]) rfl ?_
  refine w_ri h_m299 (z_at.mk 1 rfl rfl) rfl rfl ?_
  show z_W 996 294 4 [(0, .ref 14), (1, .int (30 : Int32))] [.int (1 : Int32)] m _
  refine w_p h_m294 2 (pc' := 8) (L' := [(0, .ref 14), (1, .int (30 : Int32))]) (st' := [.ref 14]) rfl ?_
  refine w_gs H (pc' := 11) (L' := [(0, .ref 14), (1, .int (30 : Int32))]) h_m294 (z_at.mk 3 rfl rfl) rfl (by decide) rfl rfl rfl rfl ?_
  refine w_p h_m294 1 (pc' := 12) (L' := [(0, .ref 14), (1, .int (30 : Int32))]) (st' := [.int (30 : Int32), .ref 32]) rfl ?_
  refine w_cs (As := [.ref 32, .int (30 : Int32)]) (rest := []) (j := 308) (L0 := [(0, .ref 32), (1, .int (30 : Int32))]) (pc' := 15) (L' := [(0, .ref 14), (1, .int (30 : Int32))]) h_m294 (z_at.mk 3 rfl rfl) (Or.inl ⟨rfl, rfl⟩) rfl rfl rfl rfl rfl ?_
  refine w_p h_m308 2 (pc' := 2) (L' := [(0, .ref 32), (1, .int (30 : Int32))]) (st' := [.ref 32, .int (30 : Int32)]) rfl ?_
  refine w_lene H (x := (36 : Int32)) (pc' := 3) (L' := [(0, .ref 32), (1, .int (30 : Int32))]) h_m308 (z_at.mk 1 rfl rfl) (by decide) rfl (by decide) rfl rfl rfl ?_
  refine w_ci (pc' := 6) (L' := [(0, .ref 32), (1, .int (30 : Int32))]) h_m308 (z_at.mk 3 rfl rfl) rfl (z_cat_le 0 rfl (by decide)) ⟨by decide, by decide⟩ rfl rfl ?_
  refine w_p h_m308 2 (pc' := 8) (L' := [(0, .ref 32), (1, .int (30 : Int32))]) (st' := [.int (30 : Int32), .ref 32]) rfl ?_
  refine w_ae H (j := 30) (pc' := 9) (L' := [(0, .ref 32), (1, .int (30 : Int32))]) h_m308 (z_at.mk 1 rfl rfl) rfl rfl rfl (by decide) rfl (by decide) rfl rfl rfl ?_
  refine w_p h_m308 3 (pc' := 14) (L' := [(0, .ref 32), (1, .int (30 : Int32))]) (st' := [.int (32 : Int32)]) rfl ?_
  refine w_ri h_m308 (z_at.mk 1 rfl rfl) rfl rfl ?_
  show z_W 996 294 15 [(0, .ref 14), (1, .int (30 : Int32))] [.int (32 : Int32)] m _
  refine w_ri h_m294 (z_at.mk 1 rfl rfl) rfl rfl ?_
  show z_W 997 218 43 [(0, .ref 143), (1, .ref 14), (2, .int (0 : Int32)), (3, .int (5 : Int32)), (4, .int (26 : Int32)), (5, .int (4 : Int32))] [.int (32 : Int32)] m _
  refine w_p h_m218 5 (pc' := 58) (L' := [(0, .ref 143), (1, .ref 14), (2, .int (0 : Int32)), (3, .int (5 : Int32)), (4, .int (26 : Int32)), (5, .int (4 : Int32))]) (st' := [.ref 143, .int (0 : Int32), .int (4 : Int32)]) rfl ?_
  refine w_gf H (pc' := 61) (L' := [(0, .ref 143), (1, .ref 14), (2, .int (0 : Int32)), (3, .int (5 : Int32)), (4, .int (26 : Int32)), (5, .int (4 : Int32))]) h_m218 (z_at.mk 3 rfl rfl) rfl (u := .int (0 : Int32)) rfl rfl rfl ?_
  refine w_p h_m218 23 (pc' := 13) (L' := [(0, .ref 143), (1, .ref 14), (2, .int (0 : Int32)), (3, .int (6 : Int32)), (4, .int (31 : Int32))]) (st' := [.ref 14, .int (31 : Int32)]) rfl ?_
  refine w_cv (H.te (by decide) rfl).1 (pc' := 16) (L' := [(0, .ref 143), (1, .ref 14), (2, .int (0 : Int32)), (3, .int (6 : Int32)), (4, .int (31 : Int32))]) (rest := [.int (31 : Int32)]) (Ps := []) (L0 := [(0, .ref 14)]) h_m218 (z_at.mk 3 rfl rfl) (Or.inl ⟨rfl, rfl⟩) rfl rfl (by decide) (by decide) rfl rfl rfl rfl rfl rfl (by decide) rfl rfl rfl ?_
  refine w_p h_m293 1 (pc' := 1) (L' := [(0, .ref 14)]) (st' := [.ref 14]) rfl ?_
  refine w_gs H (pc' := 4) (L' := [(0, .ref 14)]) h_m293 (z_at.mk 3 rfl rfl) rfl (by decide) rfl rfl rfl rfl ?_
  refine w_lene H (x := (36 : Int32)) (pc' := 5) (L' := [(0, .ref 14)]) h_m293 (z_at.mk 1 rfl rfl) (by decide) rfl (by decide) rfl rfl rfl ?_
  refine w_p h_m293 1 (pc' := 6) (L' := [(0, .ref 14)]) (st' := [.ref 14, .int (36 : Int32)]) rfl ?_
  refine w_cv (H.te (by decide) rfl).1 (pc' := 9) (L' := [(0, .ref 14)]) (rest := [.int (36 : Int32)]) (Ps := []) (L0 := [(0, .ref 14)]) h_m293 (z_at.mk 3 rfl rfl) (Or.inl ⟨rfl, rfl⟩) rfl rfl (by decide) (by decide) rfl rfl rfl rfl rfl rfl (by decide) rfl rfl rfl ?_
  refine w_p h_m298 3 (pc' := 7) (L' := [(0, .ref 14)]) (st' := [.ref 14]) rfl ?_
  refine w_gs H (pc' := 10) (L' := [(0, .ref 14)]) h_m298 (z_at.mk 3 rfl rfl) rfl (by decide) rfl rfl rfl rfl ?_
  refine w_p h_m298 1 (pc' := 14) (L' := []) (st' := [.int (0 : Int32)]) rfl ?_
  refine w_ri h_m298 (z_at.mk 1 rfl rfl) rfl rfl ?_
  show z_W 996 293 9 [(0, .ref 14)] [.int (0 : Int32), .int (36 : Int32)] m _
  refine w_p h_m293 1 (pc' := 10) (L' := [(0, .ref 14)]) (st' := [.int (36 : Int32)]) rfl ?_
  refine w_ri h_m293 (z_at.mk 1 rfl rfl) rfl rfl ?_
  show z_W 997 218 16 [(0, .ref 143), (1, .ref 14), (2, .int (0 : Int32)), (3, .int (6 : Int32)), (4, .int (31 : Int32))] [.int (36 : Int32), .int (31 : Int32)] m _
  refine w_p h_m218 7 (pc' := 28) (L' := [(0, .ref 143), (1, .ref 14), (2, .int (0 : Int32)), (3, .int (6 : Int32)), (4, .int (31 : Int32)), (5, .int (0 : Int32))]) (st' := [.ref 14, .int (31 : Int32)]) rfl ?_
  refine w_cv (H.te (by decide) rfl).1 (pc' := 31) (L' := [(0, .ref 143), (1, .ref 14), (2, .int (0 : Int32)), (3, .int (6 : Int32)), (4, .int (31 : Int32)), (5, .int (0 : Int32))]) (rest := [.int (31 : Int32)]) (Ps := []) (L0 := [(0, .ref 14)]) h_m218 (z_at.mk 3 rfl rfl) (Or.inl ⟨rfl, rfl⟩) rfl rfl (by decide) (by decide) rfl rfl rfl rfl rfl rfl (by decide) rfl rfl rfl ?_
  refine w_p h_m293 1 (pc' := 1) (L' := [(0, .ref 14)]) (st' := [.ref 14]) rfl ?_
  refine w_gs H (pc' := 4) (L' := [(0, .ref 14)]) h_m293 (z_at.mk 3 rfl rfl) rfl (by decide) rfl rfl rfl rfl ?_
  refine w_lene H (x := (36 : Int32)) (pc' := 5) (L' := [(0, .ref 14)]) h_m293 (z_at.mk 1 rfl rfl) (by decide) rfl (by decide) rfl rfl rfl ?_
  refine w_p h_m293 1 (pc' := 6) (L' := [(0, .ref 14)]) (st' := [.ref 14, .int (36 : Int32)]) rfl ?_
  refine w_cv (H.te (by decide) rfl).1 (pc' := 9) (L' := [(0, .ref 14)]) (rest := [.int (36 : Int32)]) (Ps := []) (L0 := [(0, .ref 14)]) h_m293 (z_at.mk 3 rfl rfl) (Or.inl ⟨rfl, rfl⟩) rfl rfl (by decide) (by decide) rfl rfl rfl rfl rfl rfl (by decide) rfl rfl rfl ?_
  refine w_p h_m298 3 (pc' := 7) (L' := [(0, .ref 14)]) (st' := [.ref 14]) rfl ?_
  refine w_gs H (pc' := 10) (L' := [(0, .ref 14)]) h_m298 (z_at.mk 3 rfl rfl) rfl (by decide) rfl rfl rfl rfl ?_
  refine w_p h_m298 1 (pc' := 14) (L' := []) (st' := [.int (0 : Int32)]) rfl ?_
  refine w_ri h_m298 (z_at.mk 1 rfl rfl) rfl rfl ?_
  show z_W 996 293 9 [(0, .ref 14)] [.int (0 : Int32), .int (36 : Int32)] m _
  refine w_p h_m293 1 (pc' := 10) (L' := [(0, .ref 14)]) (st' := [.int (36 : Int32)]) rfl ?_
  refine w_ri h_m293 (z_at.mk 1 rfl rfl) rfl rfl ?_
  show z_W 997 218 31 [(0, .ref 143), (1, .ref 14), (2, .int (0 : Int32)), (3, .int (6 : Int32)), (4, .int (31 : Int32)), (5, .int (0 : Int32))] [.int (36 : Int32), .int (31 : Int32)] m _
  refine w_p h_m218 5 (pc' := 40) (L' := [(0, .ref 143), (1, .ref 14), (2, .int (0 : Int32)), (3, .int (6 : Int32)), (4, .int (31 : Int32)), (5, .int (0 : Int32))]) (st' := [.int (31 : Int32), .ref 14]) rfl ?_
  refine w_cv (H.te (by decide) rfl).1 (pc' := 43) (L' := [(0, .ref 143), (1, .ref 14), (2, .int (0 : Int32)), (3, .int (6 : Int32)), (4, .int (31 : Int32)), (5, .int (0 : Int32))]) (rest := []) (Ps := [.int (31 : Int32)]) (L0 := [(0, .ref 14), (1, .int (31 : Int32))]) h_m218 (z_at.mk 3 rfl rfl) (Or.inl ⟨rfl, rfl⟩) rfl rfl (by decide) (by decide) rfl rfl rfl rfl rfl rfl (by decide) rfl rfl rfl ?_
  refine w_p h_m294 1 (pc' := 1) (L' := [(0, .ref 14), (1, .int (31 : Int32))]) (st' := [.ref 14]) rfl ?_
  refine w_cv (H.te (by decide) rfl).1 (pc' := 4) (L' := [(0, .ref 14), (1, .int (31 : Int32))]) (rest := []) (Ps := []) (L0 := [(0, .ref 14)]) h_m294 (z_at.mk 3 rfl rfl) (Or.inl ⟨rfl, rfl⟩) rfl rfl (by decide) (by decide) rfl rfl rfl rfl rfl rfl (by decide) rfl rfl rfl ?_
  refine w_p h_m299 3 (pc' := 7) (L' := [(0, .ref 14)]) (st' := [.ref 14]) rfl ?_
  refine w_gs H (pc' := 10) (L' := [(0, .ref 14)]) h_m299 (z_at.mk 3 rfl rfl) rfl (by decide) rfl rfl rfl rfl ?_
  refine w_p h_m299 3 (pc' := 18) (L' := []) (st' := [.int (1 : Int32)]) rfl ?_
  refine w_ri h_m299 (z_at.mk 1 rfl rfl) rfl rfl ?_
  show z_W 996 294 4 [(0, .ref 14), (1, .int (31 : Int32))] [.int (1 : Int32)] m _
  refine w_p h_m294 2 (pc' := 8) (L' := [(0, .ref 14), (1, .int (31 : Int32))]) (st' := [.ref 14]) rfl ?_
  refine w_gs H (pc' := 11) (L' := [(0, .ref 14), (1, .int (31 : Int32))]) h_m294 (z_at.mk 3 rfl rfl) rfl (by decide) rfl rfl rfl rfl ?_
  refine w_p h_m294 1 (pc' := 12) (L' := [(0, .ref 14), (1, .int (31 : Int32))]) (st' := [.int (31 : Int32), .ref 32]) rfl ?_
  refine w_cs (As := [.ref 32, .int (31 : Int32)]) (rest := []) (j := 308) (L0 := [(0, .ref 32), (1, .int (31 : Int32))]) (pc' := 15) (L' := [(0, .ref 14), (1, .int (31 : Int32))]) h_m294 (z_at.mk 3 rfl rfl) (Or.inl ⟨rfl, rfl⟩) rfl rfl rfl rfl rfl ?_
  refine w_p h_m308 2 (pc' := 2) (L' := [(0, .ref 32), (1, .int (31 : Int32))]) (st' := [.ref 32, .int (31 : Int32)]) rfl ?_
  refine w_lene H (x := (36 : Int32)) (pc' := 3) (L' := [(0, .ref 32), (1, .int (31 : Int32))]) h_m308 (z_at.mk 1 rfl rfl) (by decide) rfl (by decide) rfl rfl rfl ?_
  refine w_ci (pc' := 6) (L' := [(0, .ref 32), (1, .int (31 : Int32))]) h_m308 (z_at.mk 3 rfl rfl) rfl (z_cat_le 0 rfl (by decide)) ⟨by decide, by decide⟩ rfl rfl ?_
  refine w_p h_m308 2 (pc' := 8) (L' := [(0, .ref 32), (1, .int (31 : Int32))]) (st' := [.int (31 : Int32), .ref 32]) rfl ?_
  refine w_ae H (j := 31) (pc' := 9) (L' := [(0, .ref 32), (1, .int (31 : Int32))]) h_m308 (z_at.mk 1 rfl rfl) rfl rfl rfl (by decide) rfl (by decide) rfl rfl rfl ?_
  refine w_p h_m308 3 (pc' := 14) (L' := [(0, .ref 32), (1, .int (31 : Int32))]) (st' := [.int (107 : Int32)]) rfl ?_
  refine w_ri h_m308 (z_at.mk 1 rfl rfl) rfl rfl ?_
  show z_W 996 294 15 [(0, .ref 14), (1, .int (31 : Int32))] [.int (107 : Int32)] m _
  refine w_ri h_m294 (z_at.mk 1 rfl rfl) rfl rfl ?_
  show z_W 997 218 43 [(0, .ref 143), (1, .ref 14), (2, .int (0 : Int32)), (3, .int (6 : Int32)), (4, .int (31 : Int32)), (5, .int (0 : Int32))] [.int (107 : Int32)] m _
  refine w_p h_m218 8 (pc' := 28) (L' := [(0, .ref 143), (1, .ref 14), (2, .int (0 : Int32)), (3, .int (6 : Int32)), (4, .int (31 : Int32)), (5, .int (1 : Int32))]) (st' := [.ref 14, .int (32 : Int32)]) rfl ?_
  refine w_cv (H.te (by decide) rfl).1 (pc' := 31) (L' := [(0, .ref 143), (1, .ref 14), (2, .int (0 : Int32)), (3, .int (6 : Int32)), (4, .int (31 : Int32)), (5, .int (1 : Int32))]) (rest := [.int (32 : Int32)]) (Ps := []) (L0 := [(0, .ref 14)]) h_m218 (z_at.mk 3 rfl rfl) (Or.inl ⟨rfl, rfl⟩) rfl rfl (by decide) (by decide) rfl rfl rfl rfl rfl rfl (by decide) rfl rfl rfl ?_
  refine w_p h_m293 1 (pc' := 1) (L' := [(0, .ref 14)]) (st' := [.ref 14]) rfl ?_
  refine w_gs H (pc' := 4) (L' := [(0, .ref 14)]) h_m293 (z_at.mk 3 rfl rfl) rfl (by decide) rfl rfl rfl rfl ?_
  refine w_lene H (x := (36 : Int32)) (pc' := 5) (L' := [(0, .ref 14)]) h_m293 (z_at.mk 1 rfl rfl) (by decide) rfl (by decide) rfl rfl rfl ?_
  refine w_p h_m293 1 (pc' := 6) (L' := [(0, .ref 14)]) (st' := [.ref 14, .int (36 : Int32)]) rfl ?_
  refine w_cv (H.te (by decide) rfl).1 (pc' := 9) (L' := [(0, .ref 14)]) (rest := [.int (36 : Int32)]) (Ps := []) (L0 := [(0, .ref 14)]) h_m293 (z_at.mk 3 rfl rfl) (Or.inl ⟨rfl, rfl⟩) rfl rfl (by decide) (by decide) rfl rfl rfl rfl rfl rfl (by decide) rfl rfl rfl ?_
  refine w_p h_m298 3 (pc' := 7) (L' := [(0, .ref 14)]) (st' := [.ref 14]) rfl ?_
  refine w_gs H (pc' := 10) (L' := [(0, .ref 14)]) h_m298 (z_at.mk 3 rfl rfl) rfl (by decide) rfl rfl rfl rfl ?_
  refine w_p h_m298 1 (pc' := 14) (L' := []) (st' := [.int (0 : Int32)]) rfl ?_
  refine w_ri h_m298 (z_at.mk 1 rfl rfl) rfl rfl ?_
  show z_W 996 293 9 [(0, .ref 14)] [.int (0 : Int32), .int (36 : Int32)] m _
  refine w_p h_m293 1 (pc' := 10) (L' := [(0, .ref 14)]) (st' := [.int (36 : Int32)]) rfl ?_
  refine w_ri h_m293 (z_at.mk 1 rfl rfl) rfl rfl ?_
  show z_W 997 218 31 [(0, .ref 143), (1, .ref 14), (2, .int (0 : Int32)), (3, .int (6 : Int32)), (4, .int (31 : Int32)), (5, .int (1 : Int32))] [.int (36 : Int32), .int (32 : Int32)] m _
  refine w_p h_m218 5 (pc' := 40) (L' := [(0, .ref 143), (1, .ref 14), (2, .int (0 : Int32)), (3, .int (6 : Int32)), (4, .int (31 : Int32)), (5, .int (1 : Int32))]) (st' := [.int (32 : Int32), .ref 14]) rfl ?_
  refine w_cv (H.te (by decide) rfl).1 (pc' := 43) (L' := [(0, .ref 143), (1, .ref 14), (2, .int (0 : Int32)), (3, .int (6 : Int32)), (4, .int (31 : Int32)), (5, .int (1 : Int32))]) (rest := []) (Ps := [.int (32 : Int32)]) (L0 := [(0, .ref 14), (1, .int (32 : Int32))]) h_m218 (z_at.mk 3 rfl rfl) (Or.inl ⟨rfl, rfl⟩) rfl rfl (by decide) (by decide) rfl rfl rfl rfl rfl rfl (by decide) rfl rfl rfl ?_
  refine w_p h_m294 1 (pc' := 1) (L' := [(0, .ref 14), (1, .int (32 : Int32))]) (st' := [.ref 14]) rfl ?_
  refine w_cv (H.te (by decide) rfl).1 (pc' := 4) (L' := [(0, .ref 14), (1, .int (32 : Int32))]) (rest := []) (Ps := []) (L0 := [(0, .ref 14)]) h_m294 (z_at.mk 3 rfl rfl) (Or.inl ⟨rfl, rfl⟩) rfl rfl (by decide) (by decide) rfl rfl rfl rfl rfl rfl (by decide) rfl rfl rfl ?_
  refine w_p h_m299 3 (pc' := 7) (L' := [(0, .ref 14)]) (st' := [.ref 14]) rfl ?_
  refine w_gs H (pc' := 10) (L' := [(0, .ref 14)]) h_m299 (z_at.mk 3 rfl rfl) rfl (by decide) rfl rfl rfl rfl ?_
  refine w_p h_m299 3 (pc' := 18) (L' := []) (st' := [.int (1 : Int32)]) rfl ?_
  refine w_ri h_m299 (z_at.mk 1 rfl rfl) rfl rfl ?_
  show z_W 996 294 4 [(0, .ref 14), (1, .int (32 : Int32))] [.int (1 : Int32)] m _
  refine w_p h_m294 2 (pc' := 8) (L' := [(0, .ref 14), (1, .int (32 : Int32))]) (st' := [.ref 14]) rfl ?_
  refine w_gs H (pc' := 11) (L' := [(0, .ref 14), (1, .int (32 : Int32))]) h_m294 (z_at.mk 3 rfl rfl) rfl (by decide) rfl rfl rfl rfl ?_
  refine w_p h_m294 1 (pc' := 12) (L' := [(0, .ref 14), (1, .int (32 : Int32))]) (st' := [.int (32 : Int32), .ref 32]) rfl ?_
  refine w_cs (As := [.ref 32, .int (32 : Int32)]) (rest := []) (j := 308) (L0 := [(0, .ref 32), (1, .int (32 : Int32))]) (pc' := 15) (L' := [(0, .ref 14), (1, .int (32 : Int32))]) h_m294 (z_at.mk 3 rfl rfl) (Or.inl ⟨rfl, rfl⟩) rfl rfl rfl rfl rfl ?_
  refine w_p h_m308 2 (pc' := 2) (L' := [(0, .ref 32), (1, .int (32 : Int32))]) (st' := [.ref 32, .int (32 : Int32)]) rfl ?_
  refine w_lene H (x := (36 : Int32)) (pc' := 3) (L' := [(0, .ref 32), (1, .int (32 : Int32))]) h_m308 (z_at.mk 1 rfl rfl) (by decide) rfl (by decide) rfl rfl rfl ?_
  refine w_ci (pc' := 6) (L' := [(0, .ref 32), (1, .int (32 : Int32))]) h_m308 (z_at.mk 3 rfl rfl) rfl (z_cat_le 0 rfl (by decide)) ⟨by decide, by decide⟩ rfl rfl ?_
  refine w_p h_m308 2 (pc' := 8) (L' := [(0, .ref 32), (1, .int (32 : Int32))]) (st' := [.int (32 : Int32), .ref 32]) rfl ?_
  refine w_ae H (j := 32) (pc' := 9) (L' := [(0, .ref 32), (1, .int (32 : Int32))]) h_m308 (z_at.mk 1 rfl rfl) rfl rfl rfl (by decide) rfl (by decide) rfl rfl rfl ?_
  refine w_p h_m308 3 (pc' := 14) (L' := [(0, .ref 32), (1, .int (32 : Int32))]) (st' := [.int (105 : Int32)]) rfl ?_
  refine w_ri h_m308 (z_at.mk 1 rfl rfl) rfl rfl ?_
  show z_W 996 294 15 [(0, .ref 14), (1, .int (32 : Int32))] [.int (105 : Int32)] m _
  refine w_ri h_m294 (z_at.mk 1 rfl rfl) rfl rfl ?_
  show z_W 997 218 43 [(0, .ref 143), (1, .ref 14), (2, .int (0 : Int32)), (3, .int (6 : Int32)), (4, .int (31 : Int32)), (5, .int (1 : Int32))] [.int (105 : Int32)] m _
  refine w_p h_m218 8 (pc' := 28) (L' := [(0, .ref 143), (1, .ref 14), (2, .int (0 : Int32)), (3, .int (6 : Int32)), (4, .int (31 : Int32)), (5, .int (2 : Int32))]) (st' := [.ref 14, .int (33 : Int32)]) rfl ?_
  refine w_cv (H.te (by decide) rfl).1 (pc' := 31) (L' := [(0, .ref 143), (1, .ref 14), (2, .int (0 : Int32)), (3, .int (6 : Int32)), (4, .int (31 : Int32)), (5, .int (2 : Int32))]) (rest := [.int (33 : Int32)]) (Ps := []) (L0 := [(0, .ref 14)]) h_m218 (z_at.mk 3 rfl rfl) (Or.inl ⟨rfl, rfl⟩) rfl rfl (by decide) (by decide) rfl rfl rfl rfl rfl rfl (by decide) rfl rfl rfl ?_
  refine w_p h_m293 1 (pc' := 1) (L' := [(0, .ref 14)]) (st' := [.ref 14]) rfl ?_
  refine w_gs H (pc' := 4) (L' := [(0, .ref 14)]) h_m293 (z_at.mk 3 rfl rfl) rfl (by decide) rfl rfl rfl rfl ?_
  refine w_lene H (x := (36 : Int32)) (pc' := 5) (L' := [(0, .ref 14)]) h_m293 (z_at.mk 1 rfl rfl) (by decide) rfl (by decide) rfl rfl rfl ?_
  refine w_p h_m293 1 (pc' := 6) (L' := [(0, .ref 14)]) (st' := [.ref 14, .int (36 : Int32)]) rfl ?_
  refine w_cv (H.te (by decide) rfl).1 (pc' := 9) (L' := [(0, .ref 14)]) (rest := [.int (36 : Int32)]) (Ps := []) (L0 := [(0, .ref 14)]) h_m293 (z_at.mk 3 rfl rfl) (Or.inl ⟨rfl, rfl⟩) rfl rfl (by decide) (by decide) rfl rfl rfl rfl rfl rfl (by decide) rfl rfl rfl ?_
  refine w_p h_m298 3 (pc' := 7) (L' := [(0, .ref 14)]) (st' := [.ref 14]) rfl ?_
  refine w_gs H (pc' := 10) (L' := [(0, .ref 14)]) h_m298 (z_at.mk 3 rfl rfl) rfl (by decide) rfl rfl rfl rfl ?_
  refine w_p h_m298 1 (pc' := 14) (L' := []) (st' := [.int (0 : Int32)]) rfl ?_
  refine w_ri h_m298 (z_at.mk 1 rfl rfl) rfl rfl ?_
  show z_W 996 293 9 [(0, .ref 14)] [.int (0 : Int32), .int (36 : Int32)] m _
  refine w_p h_m293 1 (pc' := 10) (L' := [(0, .ref 14)]) (st' := [.int (36 : Int32)]) rfl ?_
  refine w_ri h_m293 (z_at.mk 1 rfl rfl) rfl rfl ?_
  show z_W 997 218 31 [(0, .ref 143), (1, .ref 14), (2, .int (0 : Int32)), (3, .int (6 : Int32)), (4, .int (31 : Int32)), (5, .int (2 : Int32))] [.int (36 : Int32), .int (33 : Int32)] m _
  refine w_p h_m218 5 (pc' := 40) (L' := [(0, .ref 143), (1, .ref 14), (2, .int (0 : Int32)), (3, .int (6 : Int32)), (4, .int (31 : Int32)), (5, .int (2 : Int32))]) (st' := [.int (33 : Int32), .ref 14]) rfl ?_
  refine w_cv (H.te (by decide) rfl).1 (pc' := 43) (L' := [(0, .ref 143), (1, .ref 14), (2, .int (0 : Int32)), (3, .int (6 : Int32)), (4, .int (31 : Int32)), (5, .int (2 : Int32))]) (rest := []) (Ps := [.int (33 : Int32)]) (L0 := [(0, .ref 14), (1, .int (33 : Int32))]) h_m218 (z_at.mk 3 rfl rfl) (Or.inl ⟨rfl, rfl⟩) rfl rfl (by decide) (by decide) rfl rfl rfl rfl rfl rfl (by decide) rfl rfl rfl ?_
  refine w_p h_m294 1 (pc' := 1) (L' := [(0, .ref 14), (1, .int (33 : Int32))]) (st' := [.ref 14]) rfl ?_
  refine w_cv (H.te (by decide) rfl).1 (pc' := 4) (L' := [(0, .ref 14), (1, .int (33 : Int32))]) (rest := []) (Ps := []) (L0 := [(0, .ref 14)]) h_m294 (z_at.mk 3 rfl rfl) (Or.inl ⟨rfl, rfl⟩) rfl rfl (by decide) (by decide) rfl rfl rfl rfl rfl rfl (by decide) rfl rfl rfl ?_
  refine w_p h_m299 3 (pc' := 7) (L' := [(0, .ref 14)]) (st' := [.ref 14]) rfl ?_
  refine w_gs H (pc' := 10) (L' := [(0, .ref 14)]) h_m299 (z_at.mk 3 rfl rfl) rfl (by decide) rfl rfl rfl rfl ?_
  refine w_p h_m299 3 (pc' := 18) (L' := []) (st' := [.int (1 : Int32)]) rfl ?_
  refine w_ri h_m299 (z_at.mk 1 rfl rfl) rfl rfl ?_
  show z_W 996 294 4 [(0, .ref 14), (1, .int (33 : Int32))] [.int (1 : Int32)] m _
  refine w_p h_m294 2 (pc' := 8) (L' := [(0, .ref 14), (1, .int (33 : Int32))]) (st' := [.ref 14]) rfl ?_
  refine w_gs H (pc' := 11) (L' := [(0, .ref 14), (1, .int (33 : Int32))]) h_m294 (z_at.mk 3 rfl rfl) rfl (by decide) rfl rfl rfl rfl ?_
  refine w_p h_m294 1 (pc' := 12) (L' := [(0, .ref 14), (1, .int (33 : Int32))]) (st' := [.int (33 : Int32), .ref 32]) rfl ?_
  refine w_cs (As := [.ref 32, .int (33 : Int32)]) (rest := []) (j := 308) (L0 := [(0, .ref 32), (1, .int (33 : Int32))]) (pc' := 15) (L' := [(0, .ref 14), (1, .int (33 : Int32))]) h_m294 (z_at.mk 3 rfl rfl) (Or.inl ⟨rfl, rfl⟩) rfl rfl rfl rfl rfl ?_
  refine w_p h_m308 2 (pc' := 2) (L' := [(0, .ref 32), (1, .int (33 : Int32))]) (st' := [.ref 32, .int (33 : Int32)]) rfl ?_
  refine w_lene H (x := (36 : Int32)) (pc' := 3) (L' := [(0, .ref 32), (1, .int (33 : Int32))]) h_m308 (z_at.mk 1 rfl rfl) (by decide) rfl (by decide) rfl rfl rfl ?_
  refine w_ci (pc' := 6) (L' := [(0, .ref 32), (1, .int (33 : Int32))]) h_m308 (z_at.mk 3 rfl rfl) rfl (z_cat_le 0 rfl (by decide)) ⟨by decide, by decide⟩ rfl rfl ?_
  refine w_p h_m308 2 (pc' := 8) (L' := [(0, .ref 32), (1, .int (33 : Int32))]) (st' := [.int (33 : Int32), .ref 32]) rfl ?_
  refine w_ae H (j := 33) (pc' := 9) (L' := [(0, .ref 32), (1, .int (33 : Int32))]) h_m308 (z_at.mk 1 rfl rfl) rfl rfl rfl (by decide) rfl (by decide) rfl rfl rfl ?_
  refine w_p h_m308 3 (pc' := 14) (L' := [(0, .ref 32), (1, .int (33 : Int32))]) (st' := [.int (110 : Int32)]) rfl ?_
  refine w_ri h_m308 (z_at.mk 1 rfl rfl) rfl rfl ?_
  show z_W 996 294 15 [(0, .ref 14), (1, .int (33 : Int32))] [.int (110 : Int32)] m _
  refine w_ri h_m294 (z_at.mk 1 rfl rfl) rfl rfl ?_
  show z_W 997 218 43 [(0, .ref 143), (1, .ref 14), (2, .int (0 : Int32)), (3, .int (6 : Int32)), (4, .int (31 : Int32)), (5, .int (2 : Int32))] [.int (110 : Int32)] m _
  refine w_p h_m218 8 (pc' := 28) (L' := [(0, .ref 143), (1, .ref 14), (2, .int (0 : Int32)), (3, .int (6 : Int32)), (4, .int (31 : Int32)), (5, .int (3 : Int32))]) (st' := [.ref 14, .int (34 : Int32)]) rfl ?_
  refine w_cv (H.te (by decide) rfl).1 (pc' := 31) (L' := [(0, .ref 143), (1, .ref 14), (2, .int (0 : Int32)), (3, .int (6 : Int32)), (4, .int (31 : Int32)), (5, .int (3 : Int32))]) (rest := [.int (34 : Int32)]) (Ps := []) (L0 := [(0, .ref 14)]) h_m218 (z_at.mk 3 rfl rfl) (Or.inl ⟨rfl, rfl⟩) rfl rfl (by decide) (by decide) rfl rfl rfl rfl rfl rfl (by decide) rfl rfl rfl ?_
  refine w_p h_m293 1 (pc' := 1) (L' := [(0, .ref 14)]) (st' := [.ref 14]) rfl ?_
  refine w_gs H (pc' := 4) (L' := [(0, .ref 14)]) h_m293 (z_at.mk 3 rfl rfl) rfl (by decide) rfl rfl rfl rfl ?_
  refine w_lene H (x := (36 : Int32)) (pc' := 5) (L' := [(0, .ref 14)]) h_m293 (z_at.mk 1 rfl rfl) (by decide) rfl (by decide) rfl rfl rfl ?_
  refine w_p h_m293 1 (pc' := 6) (L' := [(0, .ref 14)]) (st' := [.ref 14, .int (36 : Int32)]) rfl ?_
  refine w_cv (H.te (by decide) rfl).1 (pc' := 9) (L' := [(0, .ref 14)]) (rest := [.int (36 : Int32)]) (Ps := []) (L0 := [(0, .ref 14)]) h_m293 (z_at.mk 3 rfl rfl) (Or.inl ⟨rfl, rfl⟩) rfl rfl (by decide) (by decide) rfl rfl rfl rfl rfl rfl (by decide) rfl rfl rfl ?_
  refine w_p h_m298 3 (pc' := 7) (L' := [(0, .ref 14)]) (st' := [.ref 14]) rfl ?_
  refine w_gs H (pc' := 10) (L' := [(0, .ref 14)]) h_m298 (z_at.mk 3 rfl rfl) rfl (by decide) rfl rfl rfl rfl ?_
  refine w_p h_m298 1 (pc' := 14) (L' := []) (st' := [.int (0 : Int32)]) rfl ?_
  refine w_ri h_m298 (z_at.mk 1 rfl rfl) rfl rfl ?_
  show z_W 996 293 9 [(0, .ref 14)] [.int (0 : Int32), .int (36 : Int32)] m _
  refine w_p h_m293 1 (pc' := 10) (L' := [(0, .ref 14)]) (st' := [.int (36 : Int32)]) rfl ?_
  refine w_ri h_m293 (z_at.mk 1 rfl rfl) rfl rfl ?_
  show z_W 997 218 31 [(0, .ref 143), (1, .ref 14), (2, .int (0 : Int32)), (3, .int (6 : Int32)), (4, .int (31 : Int32)), (5, .int (3 : Int32))] [.int (36 : Int32), .int (34 : Int32)] m _
  refine w_p h_m218 5 (pc' := 40) (L' := [(0, .ref 143), (1, .ref 14), (2, .int (0 : Int32)), (3, .int (6 : Int32)), (4, .int (31 : Int32)), (5, .int (3 : Int32))]) (st' := [.int (34 : Int32), .ref 14]) rfl ?_
  refine w_cv (H.te (by decide) rfl).1 (pc' := 43) (L' := [(0, .ref 143), (1, .ref 14), (2, .int (0 : Int32)), (3, .int (6 : Int32)), (4, .int (31 : Int32)), (5, .int (3 : Int32))]) (rest := []) (Ps := [.int (34 : Int32)]) (L0 := [(0, .ref 14), (1, .int (34 : Int32))]) h_m218 (z_at.mk 3 rfl rfl) (Or.inl ⟨rfl, rfl⟩) rfl rfl (by decide) (by decide) rfl rfl rfl rfl rfl rfl (by decide) rfl rfl rfl ?_
  refine w_p h_m294 1 (pc' := 1) (L' := [(0, .ref 14), (1, .int (34 : Int32))]) (st' := [.ref 14]) rfl ?_
  refine w_cv (H.te (by decide) rfl).1 (pc' := 4) (L' := [(0, .ref 14), (1, .int (34 : Int32))]) (rest := []) (Ps := []) (L0 := [(0, .ref 14)]) h_m294 (z_at.mk 3 rfl rfl) (Or.inl ⟨rfl, rfl⟩) rfl rfl (by decide) (by decide) rfl rfl rfl rfl rfl rfl (by decide) rfl rfl rfl ?_
  refine w_p h_m299 3 (pc' := 7) (L' := [(0, .ref 14)]) (st' := [.ref 14]) rfl ?_
  refine w_gs H (pc' := 10) (L' := [(0, .ref 14)]) h_m299 (z_at.mk 3 rfl rfl) rfl (by decide) rfl rfl rfl rfl ?_
  refine w_p h_m299 3 (pc' := 18) (L' := []) (st' := [.int (1 : Int32)]) rfl ?_
  refine w_ri h_m299 (z_at.mk 1 rfl rfl) rfl rfl ?_
  show z_W 996 294 4 [(0, .ref 14), (1, .int (34 : Int32))] [.int (1 : Int32)] m _
  refine w_p h_m294 2 (pc' := 8) (L' := [(0, .ref 14), (1, .int (34 : Int32))]) (st' := [.ref 14]) rfl ?_
  refine w_gs H (pc' := 11) (L' := [(0, .ref 14), (1, .int (34 : Int32))]) h_m294 (z_at.mk 3 rfl rfl) rfl (by decide) rfl rfl rfl rfl ?_
  refine w_p h_m294 1 (pc' := 12) (L' := [(0, .ref 14), (1, .int (34 : Int32))]) (st' := [.int (34 : Int32), .ref 32]) rfl ?_
  refine w_cs (As := [.ref 32, .int (34 : Int32)]) (rest := []) (j := 308) (L0 := [(0, .ref 32), (1, .int (34 : Int32))]) (pc' := 15) (L' := [(0, .ref 14), (1, .int (34 : Int32))]) h_m294 (z_at.mk 3 rfl rfl) (Or.inl ⟨rfl, rfl⟩) rfl rfl rfl rfl rfl ?_
  refine w_p h_m308 2 (pc' := 2) (L' := [(0, .ref 32), (1, .int (34 : Int32))]) (st' := [.ref 32, .int (34 : Int32)]) rfl ?_
  refine w_lene H (x := (36 : Int32)) (pc' := 3) (L' := [(0, .ref 32), (1, .int (34 : Int32))]) h_m308 (z_at.mk 1 rfl rfl) (by decide) rfl (by decide) rfl rfl rfl ?_
  refine w_ci (pc' := 6) (L' := [(0, .ref 32), (1, .int (34 : Int32))]) h_m308 (z_at.mk 3 rfl rfl) rfl (z_cat_le 0 rfl (by decide)) ⟨by decide, by decide⟩ rfl rfl ?_
  refine w_p h_m308 2 (pc' := 8) (L' := [(0, .ref 32), (1, .int (34 : Int32))]) (st' := [.int (34 : Int32), .ref 32]) rfl ?_
  refine w_ae H (j := 34) (pc' := 9) (L' := [(0, .ref 32), (1, .int (34 : Int32))]) h_m308 (z_at.mk 1 rfl rfl) rfl rfl rfl (by decide) rfl (by decide) rfl rfl rfl ?_
  refine w_p h_m308 3 (pc' := 14) (L' := [(0, .ref 32), (1, .int (34 : Int32))]) (st' := [.int (100 : Int32)]) rfl ?_
  refine w_ri h_m308 (z_at.mk 1 rfl rfl) rfl rfl ?_
  show z_W 996 294 15 [(0, .ref 14), (1, .int (34 : Int32))] [.int (100 : Int32)] m _
  refine w_ri h_m294 (z_at.mk 1 rfl rfl) rfl rfl ?_
  show z_W 997 218 43 [(0, .ref 143), (1, .ref 14), (2, .int (0 : Int32)), (3, .int (6 : Int32)), (4, .int (31 : Int32)), (5, .int (3 : Int32))] [.int (100 : Int32)] m _
  refine w_p h_m218 8 (pc' := 28) (L' := [(0, .ref 143), (1, .ref 14), (2, .int (0 : Int32)), (3, .int (6 : Int32)), (4, .int (31 : Int32)), (5, .int (4 : Int32))]) (st' := [.ref 14, .int (35 : Int32)]) rfl ?_
  refine w_cv (H.te (by decide) rfl).1 (pc' := 31) (L' := [(0, .ref 143), (1, .ref 14), (2, .int (0 : Int32)), (3, .int (6 : Int32)), (4, .int (31 : Int32)), (5, .int (4 : Int32))]) (rest := [.int (35 : Int32)]) (Ps := []) (L0 := [(0, .ref 14)]) h_m218 (z_at.mk 3 rfl rfl) (Or.inl ⟨rfl, rfl⟩) rfl rfl (by decide) (by decide) rfl rfl rfl rfl rfl rfl (by decide) rfl rfl rfl ?_
  refine w_p h_m293 1 (pc' := 1) (L' := [(0, .ref 14)]) (st' := [.ref 14]) rfl ?_
  refine w_gs H (pc' := 4) (L' := [(0, .ref 14)]) h_m293 (z_at.mk 3 rfl rfl) rfl (by decide) rfl rfl rfl rfl ?_
  refine w_lene H (x := (36 : Int32)) (pc' := 5) (L' := [(0, .ref 14)]) h_m293 (z_at.mk 1 rfl rfl) (by decide) rfl (by decide) rfl rfl rfl ?_
  refine w_p h_m293 1 (pc' := 6) (L' := [(0, .ref 14)]) (st' := [.ref 14, .int (36 : Int32)]) rfl ?_
  refine w_cv (H.te (by decide) rfl).1 (pc' := 9) (L' := [(0, .ref 14)]) (rest := [.int (36 : Int32)]) (Ps := []) (L0 := [(0, .ref 14)]) h_m293 (z_at.mk 3 rfl rfl) (Or.inl ⟨rfl, rfl⟩) rfl rfl (by decide) (by decide) rfl rfl rfl rfl rfl rfl (by decide) rfl rfl rfl ?_
  refine w_p h_m298 3 (pc' := 7) (L' := [(0, .ref 14)]) (st' := [.ref 14]) rfl ?_
  refine w_gs H (pc' := 10) (L' := [(0, .ref 14)]) h_m298 (z_at.mk 3 rfl rfl) rfl (by decide) rfl rfl rfl rfl ?_
  refine w_p h_m298 1 (pc' := 14) (L' := []) (st' := [.int (0 : Int32)]) rfl ?_
  refine w_ri h_m298 (z_at.mk 1 rfl rfl) rfl rfl ?_
  show z_W 996 293 9 [(0, .ref 14)] [.int (0 : Int32), .int (36 : Int32)] m _
  refine w_p h_m293 1 (pc' := 10) (L' := [(0, .ref 14)]) (st' := [.int (36 : Int32)]) rfl ?_
  refine w_ri h_m293 (z_at.mk 1 rfl rfl) rfl rfl ?_
  show z_W 997 218 31 [(0, .ref 143), (1, .ref 14), (2, .int (0 : Int32)), (3, .int (6 : Int32)), (4, .int (31 : Int32)), (5, .int (4 : Int32))] [.int (36 : Int32), .int (35 : Int32)] m _
  refine w_p h_m218 5 (pc' := 40) (L' := [(0, .ref 143), (1, .ref 14), (2, .int (0 : Int32)), (3, .int (6 : Int32)), (4, .int (31 : Int32)), (5, .int (4 : Int32))]) (st' := [.int (35 : Int32), .ref 14]) rfl ?_
  refine w_cv (H.te (by decide) rfl).1 (pc' := 43) (L' := [(0, .ref 143), (1, .ref 14), (2, .int (0 : Int32)), (3, .int (6 : Int32)), (4, .int (31 : Int32)), (5, .int (4 : Int32))]) (rest := []) (Ps := [.int (35 : Int32)]) (L0 := [(0, .ref 14), (1, .int (35 : Int32))]) h_m218 (z_at.mk 3 rfl rfl) (Or.inl ⟨rfl, rfl⟩) rfl rfl (by decide) (by decide) rfl rfl rfl rfl rfl rfl (by decide) rfl rfl rfl ?_
  refine w_p h_m294 1 (pc' := 1) (L' := [(0, .ref 14), (1, .int (35 : Int32))]) (st' := [.ref 14]) rfl ?_
  refine w_cv (H.te (by decide) rfl).1 (pc' := 4) (L' := [(0, .ref 14), (1, .int (35 : Int32))]) (rest := []) (Ps := []) (L0 := [(0, .ref 14)]) h_m294 (z_at.mk 3 rfl rfl) (Or.inl ⟨rfl, rfl⟩) rfl rfl (by decide) (by decide) rfl rfl rfl rfl rfl rfl (by decide) rfl rfl rfl ?_
  refine w_p h_m299 3 (pc' := 7) (L' := [(0, .ref 14)]) (st' := [.ref 14]) rfl ?_
  refine w_gs H (pc' := 10) (L' := [(0, .ref 14)]) h_m299 (z_at.mk 3 rfl rfl) rfl (by decide) rfl rfl rfl rfl ?_
  refine w_p h_m299 3 (pc' := 18) (L' := []) (st' := [.int (1 : Int32)]) rfl ?_
  refine w_ri h_m299 (z_at.mk 1 rfl rfl) rfl rfl ?_
  show z_W 996 294 4 [(0, .ref 14), (1, .int (35 : Int32))] [.int (1 : Int32)] m _
  refine w_p h_m294 2 (pc' := 8) (L' := [(0, .ref 14), (1, .int (35 : Int32))]) (st' := [.ref 14]) rfl ?_
  refine w_gs H (pc' := 11) (L' := [(0, .ref 14), (1, .int (35 : Int32))]) h_m294 (z_at.mk 3 rfl rfl) rfl (by decide) rfl rfl rfl rfl ?_
  refine w_p h_m294 1 (pc' := 12) (L' := [(0, .ref 14), (1, .int (35 : Int32))]) (st' := [.int (35 : Int32), .ref 32]) rfl ?_
  refine w_cs (As := [.ref 32, .int (35 : Int32)]) (rest := []) (j := 308) (L0 := [(0, .ref 32), (1, .int (35 : Int32))]) (pc' := 15) (L' := [(0, .ref 14), (1, .int (35 : Int32))]) h_m294 (z_at.mk 3 rfl rfl) (Or.inl ⟨rfl, rfl⟩) rfl rfl rfl rfl rfl ?_
  refine w_p h_m308 2 (pc' := 2) (L' := [(0, .ref 32), (1, .int (35 : Int32))]) (st' := [.ref 32, .int (35 : Int32)]) rfl ?_
  refine w_lene H (x := (36 : Int32)) (pc' := 3) (L' := [(0, .ref 32), (1, .int (35 : Int32))]) h_m308 (z_at.mk 1 rfl rfl) (by decide) rfl (by decide) rfl rfl rfl ?_
  refine w_ci (pc' := 6) (L' := [(0, .ref 32), (1, .int (35 : Int32))]) h_m308 (z_at.mk 3 rfl rfl) rfl (z_cat_le 0 rfl (by decide)) ⟨by decide, by decide⟩ rfl rfl ?_
  refine w_p h_m308 2 (pc' := 8) (L' := [(0, .ref 32), (1, .int (35 : Int32))]) (st' := [.int (35 : Int32), .ref 32]) rfl ?_
  refine w_ae H (j := 35) (pc' := 9) (L' := [(0, .ref 32), (1, .int (35 : Int32))]) h_m308 (z_at.mk 1 rfl rfl) rfl rfl rfl (by decide) rfl (by decide) rfl rfl rfl ?_
  refine w_p h_m308 3 (pc' := 14) (L' := [(0, .ref 32), (1, .int (35 : Int32))]) (st' := [.int (115 : Int32)]) rfl ?_
  refine w_ri h_m308 (z_at.mk 1 rfl rfl) rfl rfl ?_
  show z_W 996 294 15 [(0, .ref 14), (1, .int (35 : Int32))] [.int (115 : Int32)] m _
  refine w_ri h_m294 (z_at.mk 1 rfl rfl) rfl rfl ?_
  show z_W 997 218 43 [(0, .ref 143), (1, .ref 14), (2, .int (0 : Int32)), (3, .int (6 : Int32)), (4, .int (31 : Int32)), (5, .int (4 : Int32))] [.int (115 : Int32)] m _
  refine w_p h_m218 8 (pc' := 28) (L' := [(0, .ref 143), (1, .ref 14), (2, .int (0 : Int32)), (3, .int (6 : Int32)), (4, .int (31 : Int32)), (5, .int (5 : Int32))]) (st' := [.ref 14, .int (36 : Int32)]) rfl ?_
  refine w_cv (H.te (by decide) rfl).1 (pc' := 31) (L' := [(0, .ref 143), (1, .ref 14), (2, .int (0 : Int32)), (3, .int (6 : Int32)), (4, .int (31 : Int32)), (5, .int (5 : Int32))]) (rest := [.int (36 : Int32)]) (Ps := []) (L0 := [(0, .ref 14)]) h_m218 (z_at.mk 3 rfl rfl) (Or.inl ⟨rfl, rfl⟩) rfl rfl (by decide) (by decide) rfl rfl rfl rfl rfl rfl (by decide) rfl rfl rfl ?_
  refine w_p h_m293 1 (pc' := 1) (L' := [(0, .ref 14)]) (st' := [.ref 14]) rfl ?_
  refine w_gs H (pc' := 4) (L' := [(0, .ref 14)]) h_m293 (z_at.mk 3 rfl rfl) rfl (by decide) rfl rfl rfl rfl ?_
  refine w_lene H (x := (36 : Int32)) (pc' := 5) (L' := [(0, .ref 14)]) h_m293 (z_at.mk 1 rfl rfl) (by decide) rfl (by decide) rfl rfl rfl ?_
  refine w_p h_m293 1 (pc' := 6) (L' := [(0, .ref 14)]) (st' := [.ref 14, .int (36 : Int32)]) rfl ?_
  refine w_cv (H.te (by decide) rfl).1 (pc' := 9) (L' := [(0, .ref 14)]) (rest := [.int (36 : Int32)]) (Ps := []) (L0 := [(0, .ref 14)]) h_m293 (z_at.mk 3 rfl rfl) (Or.inl ⟨rfl, rfl⟩) rfl rfl (by decide) (by decide) rfl rfl rfl rfl rfl rfl (by decide) rfl rfl rfl ?_
  refine w_p h_m298 3 (pc' := 7) (L' := [(0, .ref 14)]) (st' := [.ref 14]) rfl ?_
  refine w_gs H (pc' := 10) (L' := [(0, .ref 14)]) h_m298 (z_at.mk 3 rfl rfl) rfl (by decide) rfl rfl rfl rfl ?_
  refine w_p h_m298 1 (pc' := 14) (L' := []) (st' := [.int (0 : Int32)]) rfl ?_
  refine w_ri h_m298 (z_at.mk 1 rfl rfl) rfl rfl ?_
  show z_W 996 293 9 [(0, .ref 14)] [.int (0 : Int32), .int (36 : Int32)] m _
  refine w_p h_m293 1 (pc' := 10) (L' := [(0, .ref 14)]) (st' := [.int (36 : Int32)]) rfl ?_
  refine w_ri h_m293 (z_at.mk 1 rfl rfl) rfl rfl ?_
  show z_W 997 218 31 [(0, .ref 143), (1, .ref 14), (2, .int (0 : Int32)), (3, .int (6 : Int32)), (4, .int (31 : Int32)), (5, .int (5 : Int32))] [.int (36 : Int32), .int (36 : Int32)] m _
  refine w_p h_m218 4 (pc' := 58) (L' := [(0, .ref 143), (1, .ref 14), (2, .int (0 : Int32)), (3, .int (6 : Int32)), (4, .int (31 : Int32)), (5, .int (5 : Int32))]) (st' := [.ref 143, .int (0 : Int32), .int (5 : Int32)]) rfl ?_
  refine w_gf H (pc' := 61) (L' := [(0, .ref 143), (1, .ref 14), (2, .int (0 : Int32)), (3, .int (6 : Int32)), (4, .int (31 : Int32)), (5, .int (5 : Int32))]) h_m218 (z_at.mk 3 rfl rfl) rfl (u := .int (0 : Int32)) rfl rfl rfl ?_
  refine w_p h_m218 23 (pc' := 13) (L' := [(0, .ref 143), (1, .ref 14), (2, .int (0 : Int32)), (3, .int (7 : Int32)), (4, .int (37 : Int32))]) (st' := [.ref 14, .int (37 : Int32)]) rfl ?_
  refine w_cv (H.te (by decide) rfl).1 (pc' := 16) (L' := [(0, .ref 143), (1, .ref 14), (2, .int (0 : Int32)), (3, .int (7 : Int32)), (4, .int (37 : Int32))]) (rest := [.int (37 : Int32)]) (Ps := []) (L0 := [(0, .ref 14)]) h_m218 (z_at.mk 3 rfl rfl) (Or.inl ⟨rfl, rfl⟩) rfl rfl (by decide) (by decide) rfl rfl rfl rfl rfl rfl (by decide) rfl rfl rfl ?_
  refine w_p h_m293 1 (pc' := 1) (L' := [(0, .ref 14)]) (st' := [.ref 14]) rfl ?_
  refine w_gs H (pc' := 4) (L' := [(0, .ref 14)]) h_m293 (z_at.mk 3 rfl rfl) rfl (by decide) rfl rfl rfl rfl ?_
  refine w_lene H (x := (36 : Int32)) (pc' := 5) (L' := [(0, .ref 14)]) h_m293 (z_at.mk 1 rfl rfl) (by decide) rfl (by decide) rfl rfl rfl ?_
  refine w_p h_m293 1 (pc' := 6) (L' := [(0, .ref 14)]) (st' := [.ref 14, .int (36 : Int32)]) rfl ?_
  refine w_cv (H.te (by decide) rfl).1 (pc' := 9) (L' := [(0, .ref 14)]) (rest := [.int (36 : Int32)]) (Ps := []) (L0 := [(0, .ref 14)]) h_m293 (z_at.mk 3 rfl rfl) (Or.inl ⟨rfl, rfl⟩) rfl rfl (by decide) (by decide) rfl rfl rfl rfl rfl rfl (by decide) rfl rfl rfl ?_
  refine w_p h_m298 3 (pc' := 7) (L' := [(0, .ref 14)]) (st' := [.ref 14]) rfl ?_
  refine w_gs H (pc' := 10) (L' := [(0, .ref 14)]) h_m298 (z_at.mk 3 rfl rfl) rfl (by decide) rfl rfl rfl rfl ?_
  refine w_p h_m298 1 (pc' := 14) (L' := []) (st' := [.int (0 : Int32)]) rfl ?_
  refine w_ri h_m298 (z_at.mk 1 rfl rfl) rfl rfl ?_
  show z_W 996 293 9 [(0, .ref 14)] [.int (0 : Int32), .int (36 : Int32)] m _
  refine w_p h_m293 1 (pc' := 10) (L' := [(0, .ref 14)]) (st' := [.int (36 : Int32)]) rfl ?_
  refine w_ri h_m293 (z_at.mk 1 rfl rfl) rfl rfl ?_
  show z_W 997 218 16 [(0, .ref 143), (1, .ref 14), (2, .int (0 : Int32)), (3, .int (7 : Int32)), (4, .int (37 : Int32))] [.int (36 : Int32), .int (37 : Int32)] m _
  refine w_p h_m218 3 (pc' := 153) (L' := [(0, .ref 143), (1, .ref 14), (2, .int (0 : Int32)), (3, .int (7 : Int32)), (4, .int (37 : Int32))]) (st' := [.ref 143, .ref 143]) rfl ?_
  refine w_gf H (pc' := 156) (L' := [(0, .ref 143), (1, .ref 14), (2, .int (0 : Int32)), (3, .int (7 : Int32)), (4, .int (37 : Int32))]) h_m218 (z_at.mk 3 rfl rfl) rfl (u := .int (0 : Int32)) rfl rfl rfl ?_
  refine w_cv (H.t rfl) (pc' := 159) (L' := [(0, .ref 143), (1, .ref 14), (2, .int (0 : Int32)), (3, .int (7 : Int32)), (4, .int (37 : Int32))]) (rest := []) (Ps := [.int (0 : Int32)]) (L0 := [(0, .ref 143), (1, .int (0 : Int32))]) h_m218 (z_at.mk 3 rfl rfl) (Or.inl ⟨rfl, rfl⟩) rfl rfl (by decide) (by decide) rfl rfl rfl rfl rfl rfl (by decide) rfl rfl rfl ?_
  refine w_p h_m213 1 (pc' := 1) (L' := [(0, .ref 143), (1, .int (0 : Int32))]) (st' := [.ref 143]) rfl ?_
  refine w_gf H (pc' := 4) (L' := [(0, .ref 143), (1, .int (0 : Int32))]) h_m213 (z_at.mk 3 rfl rfl) rfl (u := .int (-1 : Int32)) rfl rfl rfl ?_
  refine w_p h_m213 3 (pc' := 9) (L' := [(0, .ref 143), (1, .int (0 : Int32))]) (st' := [.int (0 : Int32), .ref 143]) rfl ?_
  refine w_pf H (22, 35, [(22, .int (0 : Int32)), (21, .int (0 : Int32)), (34, .ref 167), (33, .ref 166), (31, .ref 165), (30, .ref 164), (28, .ref 163), (26, .ref 162), (25, .ref 161), (24, .ref 160), (19, .ref 159), (18, .ref 158), (17, .ref 157), (16, .ref 156), (13, .ref 155), (12, .ref 154), (11, .ref 153), (9, .ref 152), (8, .ref 151), (7, .ref 150), (5, .ref 149), (4, .ref 148), (3, .ref 147), (2, .ref 146), (1, .ref 145), (0, .ref 144), (6, .int (0 : Int32)), (10, .int (0 : Int32)), (14, .int (0 : Int32)), (15, .int (0 : Int32)), (20, .int (0 : Int32)), (23, .int (0 : Int32)), (27, .int (0 : Int32)), (29, .int (0 : Int32)), (32, .int (0 : Int32))], none) (pc' := 12) (L' := []) h_m213 (z_at.mk 3 rfl rfl) rfl (by decide) rfl (Or.inl rfl) rfl rfl rfl ?_
  clear H m; intro m H
  refine w_p h_m213 1 (pc' := 13) (L' := []) (st' := [.int (0 : Int32)]) rfl ?_
  refine w_ri h_m213 (z_at.mk 1 rfl rfl) rfl rfl ?_
  show z_W 997 218 159 [(0, .ref 143), (1, .ref 14), (2, .int (0 : Int32)), (3, .int (7 : Int32)), (4, .int (37 : Int32))] [.int (0 : Int32)] m _
  refine w_p h_m218 2 (pc' := 161) (L' := [(0, .ref 143), (1, .ref 14), (2, .int (0 : Int32)), (3, .int (7 : Int32)), (4, .int (37 : Int32))]) (st' := [.int (-1 : Int32)]) rfl ?_
  refine w_ri h_m218 (z_at.mk 1 rfl rfl) rfl rfl ?_
  show z_W 998 228 17 [(2, .int (0 : Int32)), (0, .ref 143), (1, .int (0 : Int32))] [.int (-1 : Int32), .int (0 : Int32), .ref 161] m _
  refine w_as H (t := 0) (j := 0) (u := .int (-1 : Int32)) (0, 48, [(0, .int (-1 : Int32))], some (.int (0 : Int32))) (pc' := 18) (L' := [(2, .int (0 : Int32)), (0, .ref 143), (1, .int (0 : Int32))]) h_m228 (z_at.mk 1 rfl rfl) rfl rfl (w_ui _ _ (by decide)) rfl rfl rfl rfl ?_
  clear H m; intro m H
  refine w_p h_m228 1 (pc' := 19) (L' := [(2, .int (0 : Int32)), (0, .ref 143), (1, .int (0 : Int32))]) (st' := [.ref 143]) rfl ?_
  refine w_gf H (pc' := 22) (L' := [(2, .int (0 : Int32)), (0, .ref 143), (1, .int (0 : Int32))]) h_m228 (z_at.mk 3 rfl rfl) rfl (u := .ref 161) rfl rfl rfl ?_
  refine w_p h_m228 1 (pc' := 23) (L' := [(2, .int (0 : Int32)), (0, .ref 143), (1, .int (0 : Int32))]) (st' := [.int (0 : Int32), .ref 161]) rfl ?_
  refine w_al H (t := 0) (j := 0) (pc' := 24) (L' := [(2, .int (0 : Int32)), (0, .ref 143), (1, .int (0 : Int32))]) h_m228 (z_at.mk 1 rfl rfl) rfl rfl rfl (u := .int (-1 : Int32)) rfl rfl rfl ?_
  refine w_p h_m228 2 (pc' := 66) (L' := []) (st' := [.int (0 : Int32)]) rfl ?_
  refine w_ri h_m228 (z_at.mk 1 rfl rfl) rfl rfl ?_
  show z_W 999 229 17 [(0, .ref 143), (1, .int (0 : Int32)), (2, .int (1 : Int32))] [.int (0 : Int32)] m _
  refine w_p h_m229 9 (pc' := 73) (L' := [(0, .ref 143), (1, .int (1 : Int32)), (2, .int (0 : Int32))]) (st' := [.ref 143]) rfl ?_
  refine w_gf H (pc' := 76) (L' := [(0, .ref 143), (1, .int (1 : Int32)), (2, .int (0 : Int32))]) h_m229 (z_at.mk 3 rfl rfl) rfl (u := .int (0 : Int32)) rfl rfl rfl ?_
  refine w_p h_m229 3 (pc' := 147) (L' := [(0, .ref 143), (1, .int (1 : Int32))]) (st' := [.int (0 : Int32), .ref 143]) rfl ?_
  refine w_pf H (22, 35, [(20, .int (0 : Int32)), (22, .int (0 : Int32)), (21, .int (0 : Int32)), (34, .ref 167), (33, .ref 166), (31, .ref 165), (30, .ref 164), (28, .ref 163), (26, .ref 162), (25, .ref 161), (24, .ref 160), (19, .ref 159), (18, .ref 158), (17, .ref 157), (16, .ref 156), (13, .ref 155), (12, .ref 154), (11, .ref 153), (9, .ref 152), (8, .ref 151), (7, .ref 150), (5, .ref 149), (4, .ref 148), (3, .ref 147), (2, .ref 146), (1, .ref 145), (0, .ref 144), (6, .int (0 : Int32)), (10, .int (0 : Int32)), (14, .int (0 : Int32)), (15, .int (0 : Int32)), (23, .int (0 : Int32)), (27, .int (0 : Int32)), (29, .int (0 : Int32)), (32, .int (0 : Int32))], none) (pc' := 150) (L' := [(0, .ref 143), (1, .int (1 : Int32))]) h_m229 (z_at.mk 3 rfl rfl) rfl (by decide) rfl (Or.inl rfl) rfl rfl rfl ?_
  clear H m; intro m H
  refine w_p h_m229 1 (pc' := 151) (L' := [(0, .ref 143), (1, .int (1 : Int32))]) (st' := [.ref 143]) rfl ?_
  refine w_gf H (pc' := 154) (L' := [(0, .ref 143), (1, .int (1 : Int32))]) h_m229 (z_at.mk 3 rfl rfl) rfl (u := .int (0 : Int32)) rfl rfl rfl ?_
  refine w_p h_m229 3 (pc' := 164) (L' := [(0, .ref 143), (1, .int (1 : Int32))]) (st' := [.ref 143, .int (-100 : Int32)]) rfl ?_
  refine w_gf H (pc' := 167) (L' := [(0, .ref 143), (1, .int (1 : Int32))]) h_m229 (z_at.mk 3 rfl rfl) rfl (u := .int (0 : Int32)) rfl rfl rfl ?_
  refine w_p h_m229 1 (pc' := 168) (L' := []) (st' := [.int (-100 : Int32)]) rfl ?_
  refine w_ri h_m229 (z_at.mk 1 rfl rfl) rfl rfl ?_
  show z_W 1000 1000 439 [(0, .ref 0), (1, .ref 39), (2, .ref 143), (3, .int (0 : Int32))] [.int (-100 : Int32), .int (-100 : Int32)] m _
  refine w_p h_m1000 5 (pc' := 20) (L' := [(0, .ref 0), (1, .ref 39), (2, .ref 143), (3, .int (6 : Int32))]) (st' := [.ref 0, .int (6 : Int32)]) rfl ?_
  refine w_lene H (x := (6 : Int32)) (pc' := 21) (L' := [(0, .ref 0), (1, .ref 39), (2, .ref 143), (3, .int (6 : Int32))]) h_m1000 (z_at.mk 1 rfl rfl) (by decide) rfl (by decide) rfl rfl rfl ?_
  refine w_p h_m1000 4 (pc' := 1381) (L' := [(0, .ref 0), (1, .ref 39), (2, .ref 143), (3, .int (6 : Int32))]) (st' := [.int (1 : Int32)]) rfl ?_
  refine w_ri h_m1000 (z_at.mk 1 rfl rfl) rfl rfl ?_
  exact hQ _ _ _ _ H (by decide) (by decide)
